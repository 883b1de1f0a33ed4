section
-- ===== PART A: goes FIRST, ahead of the names: the tables' words, and 'selects' of the private methods out of them =====
/-- a private method of a class that the tables say can be made, by its rows of tables_1 -/
def lw_okq (q : MethodName × Nat) : Prop := (q.1.cls ≠ "java/lang/invoke/MethodHandle" ∧ q.1.cls ≠ "java/lang/invoke/VarHandle") ∧ Cond.instantiable q.1.cls q.2 ∈ tables_1 ∧ Cond.privateMethod q.1 ∈ tables_1 ∧ Cond.instanceMethod q.1 ∈ tables_1
theorem lw_p0 : lw_okq (⟨"java/lang/Throwable", "fillInStackTrace", "(I)Ljava/lang/Throwable;"⟩, 6) := ⟨⟨by decide +kernel, by decide +kernel⟩, List.mem_of_getElem? (i := 211) (by decide +kernel), List.mem_of_getElem? (i := 209) (by decide +kernel), List.mem_of_getElem? (i := 210) (by decide +kernel)⟩
theorem lw_p1 : lw_okq (⟨"java/util/ArrayList", "add", "(Ljava/lang/Object;[Ljava/lang/Object;I)V"⟩, 3) := ⟨⟨by decide +kernel, by decide +kernel⟩, List.mem_of_getElem? (i := 36) (by decide +kernel), List.mem_of_getElem? (i := 314) (by decide +kernel), List.mem_of_getElem? (i := 315) (by decide +kernel)⟩
theorem lw_p2 : lw_okq (⟨"java/util/ArrayList", "grow", "()[Ljava/lang/Object;"⟩, 3) := ⟨⟨by decide +kernel, by decide +kernel⟩, List.mem_of_getElem? (i := 36) (by decide +kernel), List.mem_of_getElem? (i := 318) (by decide +kernel), List.mem_of_getElem? (i := 319) (by decide +kernel)⟩
theorem lw_p3 : lw_okq (⟨"java/util/ArrayList", "grow", "(I)[Ljava/lang/Object;"⟩, 3) := ⟨⟨by decide +kernel, by decide +kernel⟩, List.mem_of_getElem? (i := 36) (by decide +kernel), List.mem_of_getElem? (i := 322) (by decide +kernel), List.mem_of_getElem? (i := 323) (by decide +kernel)⟩
theorem lw_p4 : lw_okq (⟨"CanvasRoom", "tell", "(LCanvasRoom$Act;)V"⟩, 11) := ⟨⟨by decide +kernel, by decide +kernel⟩, List.mem_of_getElem? (i := 28) (by decide +kernel), List.mem_of_getElem? (i := 406) (by decide +kernel), List.mem_of_getElem? (i := 407) (by decide +kernel)⟩
theorem lw_p5 : lw_okq (⟨"CanvasRoom", "perform", "(LCanvasRoom$Act;LCanvasRoom$Board;)V"⟩, 11) := ⟨⟨by decide +kernel, by decide +kernel⟩, List.mem_of_getElem? (i := 28) (by decide +kernel), List.mem_of_getElem? (i := 424) (by decide +kernel), List.mem_of_getElem? (i := 425) (by decide +kernel)⟩
theorem lw_p6 : lw_okq (⟨"CanvasRoom$Board", "moveGroup", "(JII)V"⟩, 10) := ⟨⟨by decide +kernel, by decide +kernel⟩, List.mem_of_getElem? (i := 62) (by decide +kernel), List.mem_of_getElem? (i := 439) (by decide +kernel), List.mem_of_getElem? (i := 440) (by decide +kernel)⟩
theorem lw_p7 : lw_okq (⟨"CanvasRoom$Board", "uniteGroups", "(II)V"⟩, 10) := ⟨⟨by decide +kernel, by decide +kernel⟩, List.mem_of_getElem? (i := 62) (by decide +kernel), List.mem_of_getElem? (i := 443) (by decide +kernel), List.mem_of_getElem? (i := 444) (by decide +kernel)⟩
theorem lw_p8 : lw_okq (⟨"CanvasRoom$Board", "setGroup", "(J)V"⟩, 10) := ⟨⟨by decide +kernel, by decide +kernel⟩, List.mem_of_getElem? (i := 62) (by decide +kernel), List.mem_of_getElem? (i := 447) (by decide +kernel), List.mem_of_getElem? (i := 448) (by decide +kernel)⟩
theorem lw_p9 : lw_okq (⟨"CanvasRoom$Board", "leaveGroup", "(I)V"⟩, 10) := ⟨⟨by decide +kernel, by decide +kernel⟩, List.mem_of_getElem? (i := 62) (by decide +kernel), List.mem_of_getElem? (i := 451) (by decide +kernel), List.mem_of_getElem? (i := 452) (by decide +kernel)⟩
theorem lw_p10 : lw_okq (⟨"CanvasRoom", "isShape", "(I)Z"⟩, 11) := ⟨⟨by decide +kernel, by decide +kernel⟩, List.mem_of_getElem? (i := 28) (by decide +kernel), List.mem_of_getElem? (i := 456) (by decide +kernel), List.mem_of_getElem? (i := 457) (by decide +kernel)⟩
theorem lw_p11 : lw_okq (⟨"CanvasRoom", "checkShape", "(I)V"⟩, 11) := ⟨⟨by decide +kernel, by decide +kernel⟩, List.mem_of_getElem? (i := 28) (by decide +kernel), List.mem_of_getElem? (i := 471) (by decide +kernel), List.mem_of_getElem? (i := 472) (by decide +kernel)⟩
theorem lw_p12 : lw_okq (⟨"CanvasRoom", "checkCanAct", "(I)V"⟩, 11) := ⟨⟨by decide +kernel, by decide +kernel⟩, List.mem_of_getElem? (i := 28) (by decide +kernel), List.mem_of_getElem? (i := 476) (by decide +kernel), List.mem_of_getElem? (i := 477) (by decide +kernel)⟩
theorem lw_p13 : lw_okq (⟨"CanvasRoom", "isTakenDown", "(I)Z"⟩, 11) := ⟨⟨by decide +kernel, by decide +kernel⟩, List.mem_of_getElem? (i := 28) (by decide +kernel), List.mem_of_getElem? (i := 481) (by decide +kernel), List.mem_of_getElem? (i := 482) (by decide +kernel)⟩
theorem lw_p14 : lw_okq (⟨"CanvasRoom", "latestLiveAct", "(I)I"⟩, 11) := ⟨⟨by decide +kernel, by decide +kernel⟩, List.mem_of_getElem? (i := 28) (by decide +kernel), List.mem_of_getElem? (i := 541) (by decide +kernel), List.mem_of_getElem? (i := 542) (by decide +kernel)⟩
theorem lw_p15 : lw_okq (⟨"CanvasRoom", "lowestHolder", "(I)I"⟩, 11) := ⟨⟨by decide +kernel, by decide +kernel⟩, List.mem_of_getElem? (i := 28) (by decide +kernel), List.mem_of_getElem? (i := 545) (by decide +kernel), List.mem_of_getElem? (i := 546) (by decide +kernel)⟩
def lw_privs_1 : List (MethodName × Nat) := [(⟨"java/lang/Throwable", "fillInStackTrace", "(I)Ljava/lang/Throwable;"⟩, 6), (⟨"java/util/ArrayList", "add", "(Ljava/lang/Object;[Ljava/lang/Object;I)V"⟩, 3), (⟨"java/util/ArrayList", "grow", "()[Ljava/lang/Object;"⟩, 3), (⟨"java/util/ArrayList", "grow", "(I)[Ljava/lang/Object;"⟩, 3), (⟨"CanvasRoom", "tell", "(LCanvasRoom$Act;)V"⟩, 11), (⟨"CanvasRoom", "perform", "(LCanvasRoom$Act;LCanvasRoom$Board;)V"⟩, 11), (⟨"CanvasRoom$Board", "moveGroup", "(JII)V"⟩, 10), (⟨"CanvasRoom$Board", "uniteGroups", "(II)V"⟩, 10), (⟨"CanvasRoom$Board", "setGroup", "(J)V"⟩, 10), (⟨"CanvasRoom$Board", "leaveGroup", "(I)V"⟩, 10), (⟨"CanvasRoom", "isShape", "(I)Z"⟩, 11), (⟨"CanvasRoom", "checkShape", "(I)V"⟩, 11), (⟨"CanvasRoom", "checkCanAct", "(I)V"⟩, 11), (⟨"CanvasRoom", "isTakenDown", "(I)Z"⟩, 11), (⟨"CanvasRoom", "latestLiveAct", "(I)I"⟩, 11), (⟨"CanvasRoom", "lowestHolder", "(I)I"⟩, 11)]
theorem lw_r1 : ∀ q ∈ lw_privs_1, lw_okq q := List.forall_mem_cons.mpr ⟨lw_p0, List.forall_mem_cons.mpr ⟨lw_p1, List.forall_mem_cons.mpr ⟨lw_p2, List.forall_mem_cons.mpr ⟨lw_p3, List.forall_mem_cons.mpr ⟨lw_p4, List.forall_mem_cons.mpr ⟨lw_p5, List.forall_mem_cons.mpr ⟨lw_p6, List.forall_mem_cons.mpr ⟨lw_p7, List.forall_mem_cons.mpr ⟨lw_p8, List.forall_mem_cons.mpr ⟨lw_p9, List.forall_mem_cons.mpr ⟨lw_p10, List.forall_mem_cons.mpr ⟨lw_p11, List.forall_mem_cons.mpr ⟨lw_p12, List.forall_mem_cons.mpr ⟨lw_p13, List.forall_mem_cons.mpr ⟨lw_p14, List.forall_mem_cons.mpr ⟨lw_p15, fun _ h => absurd h List.not_mem_nil⟩⟩⟩⟩⟩⟩⟩⟩⟩⟩⟩⟩⟩⟩⟩⟩
theorem lw_p16 : lw_okq (⟨"CanvasRoom", "setLive", "(IZ)V"⟩, 11) := ⟨⟨by decide +kernel, by decide +kernel⟩, List.mem_of_getElem? (i := 28) (by decide +kernel), List.mem_of_getElem? (i := 555) (by decide +kernel), List.mem_of_getElem? (i := 556) (by decide +kernel)⟩
theorem lw_p17 : lw_okq (⟨"CanvasRoom", "doAllActs", "(LCanvasRoom$Board;)V"⟩, 11) := ⟨⟨by decide +kernel, by decide +kernel⟩, List.mem_of_getElem? (i := 28) (by decide +kernel), List.mem_of_getElem? (i := 559) (by decide +kernel), List.mem_of_getElem? (i := 560) (by decide +kernel)⟩
theorem lw_p18 : lw_okq (⟨"CanvasRoom", "actUndoneLast", "(I)I"⟩, 11) := ⟨⟨by decide +kernel, by decide +kernel⟩, List.mem_of_getElem? (i := 28) (by decide +kernel), List.mem_of_getElem? (i := 574) (by decide +kernel), List.mem_of_getElem? (i := 575) (by decide +kernel)⟩
theorem lw_p19 : lw_okq (⟨"CanvasRoom", "checkedAct", "(I)LCanvasRoom$Act;"⟩, 11) := ⟨⟨by decide +kernel, by decide +kernel⟩, List.mem_of_getElem? (i := 28) (by decide +kernel), List.mem_of_getElem? (i := 586) (by decide +kernel), List.mem_of_getElem? (i := 587) (by decide +kernel)⟩
theorem lw_p20 : lw_okq (⟨"CanvasRoom$Board", "isShowing", "(IJ)Z"⟩, 10) := ⟨⟨by decide +kernel, by decide +kernel⟩, List.mem_of_getElem? (i := 62) (by decide +kernel), List.mem_of_getElem? (i := 646) (by decide +kernel), List.mem_of_getElem? (i := 647) (by decide +kernel)⟩
theorem lw_p21 : lw_okq (⟨"CanvasRoom$Board", "isCovering", "(III)Z"⟩, 10) := ⟨⟨by decide +kernel, by decide +kernel⟩, List.mem_of_getElem? (i := 62) (by decide +kernel), List.mem_of_getElem? (i := 650) (by decide +kernel), List.mem_of_getElem? (i := 651) (by decide +kernel)⟩
theorem lw_p22 : lw_okq (⟨"CanvasRoom$Board", "columnsCovered", "(II)I"⟩, 10) := ⟨⟨by decide +kernel, by decide +kernel⟩, List.mem_of_getElem? (i := 62) (by decide +kernel), List.mem_of_getElem? (i := 707) (by decide +kernel), List.mem_of_getElem? (i := 708) (by decide +kernel)⟩
theorem lw_p23 : lw_okq (⟨"CanvasRoom", "measureAndHold", "(LCanvasRoom$Edition;)V"⟩, 11) := ⟨⟨by decide +kernel, by decide +kernel⟩, List.mem_of_getElem? (i := 28) (by decide +kernel), List.mem_of_getElem? (i := 803) (by decide +kernel), List.mem_of_getElem? (i := 804) (by decide +kernel)⟩
theorem lw_p24 : lw_okq (⟨"CanvasRoom", "holdActsOf", "(ILCanvasRoom$Edition;)V"⟩, 11) := ⟨⟨by decide +kernel, by decide +kernel⟩, List.mem_of_getElem? (i := 28) (by decide +kernel), List.mem_of_getElem? (i := 812) (by decide +kernel), List.mem_of_getElem? (i := 813) (by decide +kernel)⟩
theorem lw_p25 : lw_okq (⟨"CanvasRoom", "checkedEdition", "(I)LCanvasRoom$Edition;"⟩, 11) := ⟨⟨by decide +kernel, by decide +kernel⟩, List.mem_of_getElem? (i := 28) (by decide +kernel), List.mem_of_getElem? (i := 831) (by decide +kernel), List.mem_of_getElem? (i := 832) (by decide +kernel)⟩
theorem lw_p26 : lw_okq (⟨"CanvasRoom", "isEdition", "(I)Z"⟩, 11) := ⟨⟨by decide +kernel, by decide +kernel⟩, List.mem_of_getElem? (i := 28) (by decide +kernel), List.mem_of_getElem? (i := 835) (by decide +kernel), List.mem_of_getElem? (i := 836) (by decide +kernel)⟩
theorem lw_p27 : lw_okq (⟨"CanvasRoom", "enter", "(LCanvasRoom$Payment;)V"⟩, 11) := ⟨⟨by decide +kernel, by decide +kernel⟩, List.mem_of_getElem? (i := 28) (by decide +kernel), List.mem_of_getElem? (i := 896) (by decide +kernel), List.mem_of_getElem? (i := 897) (by decide +kernel)⟩
theorem lw_p28 : lw_okq (⟨"CanvasRoom", "payHands", "(LCanvasRoom$Payment;[I)V"⟩, 11) := ⟨⟨by decide +kernel, by decide +kernel⟩, List.mem_of_getElem? (i := 28) (by decide +kernel), List.mem_of_getElem? (i := 900) (by decide +kernel), List.mem_of_getElem? (i := 901) (by decide +kernel)⟩
theorem lw_p29 : lw_okq (⟨"CanvasRoom", "checkedCopy", "(II)LCanvasRoom$Copy;"⟩, 11) := ⟨⟨by decide +kernel, by decide +kernel⟩, List.mem_of_getElem? (i := 28) (by decide +kernel), List.mem_of_getElem? (i := 915) (by decide +kernel), List.mem_of_getElem? (i := 916) (by decide +kernel)⟩
theorem lw_p30 : lw_okq (⟨"CanvasRoom", "payBuyer", "(II)V"⟩, 11) := ⟨⟨by decide +kernel, by decide +kernel⟩, List.mem_of_getElem? (i := 28) (by decide +kernel), List.mem_of_getElem? (i := 921) (by decide +kernel), List.mem_of_getElem? (i := 922) (by decide +kernel)⟩
theorem lw_p31 : lw_okq (⟨"CanvasRoom", "checkedChangedCopy", "(II)LCanvasRoom$Copy;"⟩, 11) := ⟨⟨by decide +kernel, by decide +kernel⟩, List.mem_of_getElem? (i := 28) (by decide +kernel), List.mem_of_getElem? (i := 946) (by decide +kernel), List.mem_of_getElem? (i := 947) (by decide +kernel)⟩
def lw_privs_2 : List (MethodName × Nat) := [(⟨"CanvasRoom", "setLive", "(IZ)V"⟩, 11), (⟨"CanvasRoom", "doAllActs", "(LCanvasRoom$Board;)V"⟩, 11), (⟨"CanvasRoom", "actUndoneLast", "(I)I"⟩, 11), (⟨"CanvasRoom", "checkedAct", "(I)LCanvasRoom$Act;"⟩, 11), (⟨"CanvasRoom$Board", "isShowing", "(IJ)Z"⟩, 10), (⟨"CanvasRoom$Board", "isCovering", "(III)Z"⟩, 10), (⟨"CanvasRoom$Board", "columnsCovered", "(II)I"⟩, 10), (⟨"CanvasRoom", "measureAndHold", "(LCanvasRoom$Edition;)V"⟩, 11), (⟨"CanvasRoom", "holdActsOf", "(ILCanvasRoom$Edition;)V"⟩, 11), (⟨"CanvasRoom", "checkedEdition", "(I)LCanvasRoom$Edition;"⟩, 11), (⟨"CanvasRoom", "isEdition", "(I)Z"⟩, 11), (⟨"CanvasRoom", "enter", "(LCanvasRoom$Payment;)V"⟩, 11), (⟨"CanvasRoom", "payHands", "(LCanvasRoom$Payment;[I)V"⟩, 11), (⟨"CanvasRoom", "checkedCopy", "(II)LCanvasRoom$Copy;"⟩, 11), (⟨"CanvasRoom", "payBuyer", "(II)V"⟩, 11), (⟨"CanvasRoom", "checkedChangedCopy", "(II)LCanvasRoom$Copy;"⟩, 11)]
theorem lw_r2 : ∀ q ∈ lw_privs_2, lw_okq q := List.forall_mem_cons.mpr ⟨lw_p16, List.forall_mem_cons.mpr ⟨lw_p17, List.forall_mem_cons.mpr ⟨lw_p18, List.forall_mem_cons.mpr ⟨lw_p19, List.forall_mem_cons.mpr ⟨lw_p20, List.forall_mem_cons.mpr ⟨lw_p21, List.forall_mem_cons.mpr ⟨lw_p22, List.forall_mem_cons.mpr ⟨lw_p23, List.forall_mem_cons.mpr ⟨lw_p24, List.forall_mem_cons.mpr ⟨lw_p25, List.forall_mem_cons.mpr ⟨lw_p26, List.forall_mem_cons.mpr ⟨lw_p27, List.forall_mem_cons.mpr ⟨lw_p28, List.forall_mem_cons.mpr ⟨lw_p29, List.forall_mem_cons.mpr ⟨lw_p30, List.forall_mem_cons.mpr ⟨lw_p31, fun _ h => absurd h List.not_mem_nil⟩⟩⟩⟩⟩⟩⟩⟩⟩⟩⟩⟩⟩⟩⟩⟩
theorem lw_p32 : lw_okq (⟨"CanvasRoomModel", "tells", "(IIIII)V"⟩, 49) := ⟨⟨by decide +kernel, by decide +kernel⟩, List.mem_of_getElem? (i := 996) (by decide +kernel), List.mem_of_getElem? (i := 1164) (by decide +kernel), List.mem_of_getElem? (i := 1165) (by decide +kernel)⟩
theorem lw_p33 : lw_okq (⟨"CanvasRoomModel", "anew", "()V"⟩, 49) := ⟨⟨by decide +kernel, by decide +kernel⟩, List.mem_of_getElem? (i := 996) (by decide +kernel), List.mem_of_getElem? (i := 1168) (by decide +kernel), List.mem_of_getElem? (i := 1169) (by decide +kernel)⟩
theorem lw_p34 : lw_okq (⟨"CanvasRoomModel", "does", "(I)V"⟩, 49) := ⟨⟨by decide +kernel, by decide +kernel⟩, List.mem_of_getElem? (i := 996) (by decide +kernel), List.mem_of_getElem? (i := 1172) (by decide +kernel), List.mem_of_getElem? (i := 1173) (by decide +kernel)⟩
theorem lw_p35 : lw_okq (⟨"CanvasRoomModel", "comes", "(I)V"⟩, 49) := ⟨⟨by decide +kernel, by decide +kernel⟩, List.mem_of_getElem? (i := 996) (by decide +kernel), List.mem_of_getElem? (i := 1176) (by decide +kernel), List.mem_of_getElem? (i := 1177) (by decide +kernel)⟩
theorem lw_p36 : lw_okq (⟨"CanvasRoomModel", "freeGroup", "()I"⟩, 49) := ⟨⟨by decide +kernel, by decide +kernel⟩, List.mem_of_getElem? (i := 996) (by decide +kernel), List.mem_of_getElem? (i := 1180) (by decide +kernel), List.mem_of_getElem? (i := 1181) (by decide +kernel)⟩
theorem lw_p37 : lw_okq (⟨"CanvasRoomModel", "putIn", "(IZ)V"⟩, 49) := ⟨⟨by decide +kernel, by decide +kernel⟩, List.mem_of_getElem? (i := 996) (by decide +kernel), List.mem_of_getElem? (i := 1184) (by decide +kernel), List.mem_of_getElem? (i := 1185) (by decide +kernel)⟩
theorem lw_p38 : lw_okq (⟨"CanvasRoomModel", "moves", "(III)V"⟩, 49) := ⟨⟨by decide +kernel, by decide +kernel⟩, List.mem_of_getElem? (i := 996) (by decide +kernel), List.mem_of_getElem? (i := 1188) (by decide +kernel), List.mem_of_getElem? (i := 1189) (by decide +kernel)⟩
theorem lw_p39 : lw_okq (⟨"CanvasRoomModel", "joins", "(II)V"⟩, 49) := ⟨⟨by decide +kernel, by decide +kernel⟩, List.mem_of_getElem? (i := 996) (by decide +kernel), List.mem_of_getElem? (i := 1192) (by decide +kernel), List.mem_of_getElem? (i := 1193) (by decide +kernel)⟩
theorem lw_p40 : lw_okq (⟨"CanvasRoomModel", "takeOut", "(I)V"⟩, 49) := ⟨⟨by decide +kernel, by decide +kernel⟩, List.mem_of_getElem? (i := 996) (by decide +kernel), List.mem_of_getElem? (i := 1196) (by decide +kernel), List.mem_of_getElem? (i := 1197) (by decide +kernel)⟩
theorem lw_p41 : lw_okq (⟨"CanvasRoomModel", "isShape", "(I)Z"⟩, 49) := ⟨⟨by decide +kernel, by decide +kernel⟩, List.mem_of_getElem? (i := 996) (by decide +kernel), List.mem_of_getElem? (i := 1204) (by decide +kernel), List.mem_of_getElem? (i := 1205) (by decide +kernel)⟩
theorem lw_p42 : lw_okq (⟨"CanvasRoomModel", "canName", "(I)Z"⟩, 49) := ⟨⟨by decide +kernel, by decide +kernel⟩, List.mem_of_getElem? (i := 996) (by decide +kernel), List.mem_of_getElem? (i := 1208) (by decide +kernel), List.mem_of_getElem? (i := 1209) (by decide +kernel)⟩
theorem lw_p43 : lw_okq (⟨"CanvasRoomModel", "inGroup", "(I)I"⟩, 49) := ⟨⟨by decide +kernel, by decide +kernel⟩, List.mem_of_getElem? (i := 996) (by decide +kernel), List.mem_of_getElem? (i := 1212) (by decide +kernel), List.mem_of_getElem? (i := 1213) (by decide +kernel)⟩
theorem lw_p44 : lw_okq (⟨"CanvasRoomModel", "names", "(II)I"⟩, 49) := ⟨⟨by decide +kernel, by decide +kernel⟩, List.mem_of_getElem? (i := 996) (by decide +kernel), List.mem_of_getElem? (i := 1224) (by decide +kernel), List.mem_of_getElem? (i := 1225) (by decide +kernel)⟩
theorem lw_p45 : lw_okq (⟨"CanvasRoomModel", "holderOf", "(I)I"⟩, 49) := ⟨⟨by decide +kernel, by decide +kernel⟩, List.mem_of_getElem? (i := 996) (by decide +kernel), List.mem_of_getElem? (i := 1244) (by decide +kernel), List.mem_of_getElem? (i := 1245) (by decide +kernel)⟩
theorem lw_p46 : lw_okq (⟨"CanvasRoomModel", "isAct", "(I)Z"⟩, 49) := ⟨⟨by decide +kernel, by decide +kernel⟩, List.mem_of_getElem? (i := 996) (by decide +kernel), List.mem_of_getElem? (i := 1260) (by decide +kernel), List.mem_of_getElem? (i := 1261) (by decide +kernel)⟩
theorem lw_p47 : lw_okq (⟨"CanvasRoomModel", "seenAt", "(II)I"⟩, 49) := ⟨⟨by decide +kernel, by decide +kernel⟩, List.mem_of_getElem? (i := 996) (by decide +kernel), List.mem_of_getElem? (i := 1296) (by decide +kernel), List.mem_of_getElem? (i := 1297) (by decide +kernel)⟩
def lw_privs_3 : List (MethodName × Nat) := [(⟨"CanvasRoomModel", "tells", "(IIIII)V"⟩, 49), (⟨"CanvasRoomModel", "anew", "()V"⟩, 49), (⟨"CanvasRoomModel", "does", "(I)V"⟩, 49), (⟨"CanvasRoomModel", "comes", "(I)V"⟩, 49), (⟨"CanvasRoomModel", "freeGroup", "()I"⟩, 49), (⟨"CanvasRoomModel", "putIn", "(IZ)V"⟩, 49), (⟨"CanvasRoomModel", "moves", "(III)V"⟩, 49), (⟨"CanvasRoomModel", "joins", "(II)V"⟩, 49), (⟨"CanvasRoomModel", "takeOut", "(I)V"⟩, 49), (⟨"CanvasRoomModel", "isShape", "(I)Z"⟩, 49), (⟨"CanvasRoomModel", "canName", "(I)Z"⟩, 49), (⟨"CanvasRoomModel", "inGroup", "(I)I"⟩, 49), (⟨"CanvasRoomModel", "names", "(II)I"⟩, 49), (⟨"CanvasRoomModel", "holderOf", "(I)I"⟩, 49), (⟨"CanvasRoomModel", "isAct", "(I)Z"⟩, 49), (⟨"CanvasRoomModel", "seenAt", "(II)I"⟩, 49)]
theorem lw_r3 : ∀ q ∈ lw_privs_3, lw_okq q := List.forall_mem_cons.mpr ⟨lw_p32, List.forall_mem_cons.mpr ⟨lw_p33, List.forall_mem_cons.mpr ⟨lw_p34, List.forall_mem_cons.mpr ⟨lw_p35, List.forall_mem_cons.mpr ⟨lw_p36, List.forall_mem_cons.mpr ⟨lw_p37, List.forall_mem_cons.mpr ⟨lw_p38, List.forall_mem_cons.mpr ⟨lw_p39, List.forall_mem_cons.mpr ⟨lw_p40, List.forall_mem_cons.mpr ⟨lw_p41, List.forall_mem_cons.mpr ⟨lw_p42, List.forall_mem_cons.mpr ⟨lw_p43, List.forall_mem_cons.mpr ⟨lw_p44, List.forall_mem_cons.mpr ⟨lw_p45, List.forall_mem_cons.mpr ⟨lw_p46, List.forall_mem_cons.mpr ⟨lw_p47, fun _ h => absurd h List.not_mem_nil⟩⟩⟩⟩⟩⟩⟩⟩⟩⟩⟩⟩⟩⟩⟩⟩
theorem lw_p48 : lw_okq (⟨"CanvasRoomModel", "covers", "(III)Z"⟩, 49) := ⟨⟨by decide +kernel, by decide +kernel⟩, List.mem_of_getElem? (i := 996) (by decide +kernel), List.mem_of_getElem? (i := 1300) (by decide +kernel), List.mem_of_getElem? (i := 1301) (by decide +kernel)⟩
theorem lw_p49 : lw_okq (⟨"CanvasRoomModel", "isEmpty", "(IIII)Z"⟩, 49) := ⟨⟨by decide +kernel, by decide +kernel⟩, List.mem_of_getElem? (i := 996) (by decide +kernel), List.mem_of_getElem? (i := 1313) (by decide +kernel), List.mem_of_getElem? (i := 1314) (by decide +kernel)⟩
theorem lw_p50 : lw_okq (⟨"CanvasRoomModel", "keeps", "(I)V"⟩, 49) := ⟨⟨by decide +kernel, by decide +kernel⟩, List.mem_of_getElem? (i := 996) (by decide +kernel), List.mem_of_getElem? (i := 1317) (by decide +kernel), List.mem_of_getElem? (i := 1318) (by decide +kernel)⟩
theorem lw_p51 : lw_okq (⟨"CanvasRoomModel", "isViewed", "(II)Z"⟩, 49) := ⟨⟨by decide +kernel, by decide +kernel⟩, List.mem_of_getElem? (i := 996) (by decide +kernel), List.mem_of_getElem? (i := 1321) (by decide +kernel), List.mem_of_getElem? (i := 1322) (by decide +kernel)⟩
theorem lw_p52 : lw_okq (⟨"CanvasRoomModel", "viewedAt", "(III)I"⟩, 49) := ⟨⟨by decide +kernel, by decide +kernel⟩, List.mem_of_getElem? (i := 996) (by decide +kernel), List.mem_of_getElem? (i := 1325) (by decide +kernel), List.mem_of_getElem? (i := 1326) (by decide +kernel)⟩
theorem lw_p53 : lw_okq (⟨"CanvasRoomModel", "isEdition", "(I)Z"⟩, 49) := ⟨⟨by decide +kernel, by decide +kernel⟩, List.mem_of_getElem? (i := 996) (by decide +kernel), List.mem_of_getElem? (i := 1333) (by decide +kernel), List.mem_of_getElem? (i := 1334) (by decide +kernel)⟩
theorem lw_p54 : lw_okq (⟨"CanvasRoomModel", "sells", "(III)V"⟩, 49) := ⟨⟨by decide +kernel, by decide +kernel⟩, List.mem_of_getElem? (i := 996) (by decide +kernel), List.mem_of_getElem? (i := 1352) (by decide +kernel), List.mem_of_getElem? (i := 1353) (by decide +kernel)⟩
theorem lw_p55 : lw_okq (⟨"CanvasRoomModel", "shares", "(II)V"⟩, 49) := ⟨⟨by decide +kernel, by decide +kernel⟩, List.mem_of_getElem? (i := 996) (by decide +kernel), List.mem_of_getElem? (i := 1356) (by decide +kernel), List.mem_of_getElem? (i := 1357) (by decide +kernel)⟩
theorem lw_p56 : lw_okq (⟨"CanvasRoomModel", "isCopy", "(II)Z"⟩, 49) := ⟨⟨by decide +kernel, by decide +kernel⟩, List.mem_of_getElem? (i := 996) (by decide +kernel), List.mem_of_getElem? (i := 1364) (by decide +kernel), List.mem_of_getElem? (i := 1365) (by decide +kernel)⟩
theorem lw_p57 : lw_okq (⟨"CanvasRoomModel", "changed", "(II)I"⟩, 49) := ⟨⟨by decide +kernel, by decide +kernel⟩, List.mem_of_getElem? (i := 996) (by decide +kernel), List.mem_of_getElem? (i := 1376) (by decide +kernel), List.mem_of_getElem? (i := 1377) (by decide +kernel)⟩
def lw_privs_4 : List (MethodName × Nat) := [(⟨"CanvasRoomModel", "covers", "(III)Z"⟩, 49), (⟨"CanvasRoomModel", "isEmpty", "(IIII)Z"⟩, 49), (⟨"CanvasRoomModel", "keeps", "(I)V"⟩, 49), (⟨"CanvasRoomModel", "isViewed", "(II)Z"⟩, 49), (⟨"CanvasRoomModel", "viewedAt", "(III)I"⟩, 49), (⟨"CanvasRoomModel", "isEdition", "(I)Z"⟩, 49), (⟨"CanvasRoomModel", "sells", "(III)V"⟩, 49), (⟨"CanvasRoomModel", "shares", "(II)V"⟩, 49), (⟨"CanvasRoomModel", "isCopy", "(II)Z"⟩, 49), (⟨"CanvasRoomModel", "changed", "(II)I"⟩, 49)]
theorem lw_r4 : ∀ q ∈ lw_privs_4, lw_okq q := List.forall_mem_cons.mpr ⟨lw_p48, List.forall_mem_cons.mpr ⟨lw_p49, List.forall_mem_cons.mpr ⟨lw_p50, List.forall_mem_cons.mpr ⟨lw_p51, List.forall_mem_cons.mpr ⟨lw_p52, List.forall_mem_cons.mpr ⟨lw_p53, List.forall_mem_cons.mpr ⟨lw_p54, List.forall_mem_cons.mpr ⟨lw_p55, List.forall_mem_cons.mpr ⟨lw_p56, List.forall_mem_cons.mpr ⟨lw_p57, fun _ h => absurd h List.not_mem_nil⟩⟩⟩⟩⟩⟩⟩⟩⟩⟩
def lw_privs : List (MethodName × Nat) := lw_privs_1 ++ (lw_privs_2 ++ (lw_privs_3 ++ (lw_privs_4)))
def lw_tbl : List Cond := k2_sels lw_privs ++ tables_1
theorem lw_privs_ok : ∀ q ∈ lw_privs, lw_okq q := by
  show ∀ q ∈ lw_privs_1 ++ (lw_privs_2 ++ (lw_privs_3 ++ (lw_privs_4))), lw_okq q
  exact List.forall_mem_append.mpr ⟨lw_r1, List.forall_mem_append.mpr ⟨lw_r2, List.forall_mem_append.mpr ⟨lw_r3, lw_r4⟩⟩⟩
-- ===== end of PART A; then your names; then what follows =====
/-! ===== BEGIN words of one list among another's, by their places ===== -/
theorem goodIn_r {big : List Cond} (ws : List Cond) (ps : List Nat) (hp : ws = ps.filterMap (fun i => big[i]?)) (h : ws.all goodWord = true) : GoodIn big ws := by
  intro w hw
  have h1 := List.all_eq_true.mp h w hw
  rw [hp] at hw
  obtain ⟨i, -, hi⟩ := List.mem_filterMap.mp hw
  have hm : w ∈ big := by first | exact List.mem_of_getElem? hi | exact List.getElem?_mem hi
  exact ⟨hm, good_of_word h1⟩
theorem goodIn_app {big a b : List Cond} (ha : GoodIn big a) (hb : GoodIn big b) : GoodIn big (a ++ b) := fun w h => (List.mem_append.mp h).elim (ha w) (hb w)
theorem goodIn_ca {big a b : List Cond} {c : Cond} (ha : GoodIn big (c :: a)) (hb : GoodIn big b) : GoodIn big (c :: (a ++ b)) := fun w h => (List.mem_cons.mp h).elim (fun e => ha w (List.mem_cons.mpr (Or.inl e))) (fun h => (List.mem_append.mp h).elim (fun h => ha w (List.mem_cons.mpr (Or.inr h))) (hb w))
theorem goodIn_sub {big ws : List Cond} (hm : ∀ w ∈ ws, w ∈ big) (h : ws.all goodWord = true) : GoodIn big ws := fun w hw => ⟨hm w hw, good_of_word (List.all_eq_true.mp h w hw)⟩
/-! ===== END ===== -/

/-! ===== BEGIN exceptions that leave a method, and their catching by the caller (launches without stack traces) ===== -/
section VXA
/-! The laws vx_back, vx_callV, vx_callS, vx_callSW, vx_throw0, vx_throwS follow proofs of the library, with one case more: JvmDerived/Free/Laws.lean (Back.of_free), Shelf42/LK1.lean (callV, callS), Shelf/KitTraced.lean (throwNew0V, throwNewS). -/
/-- where a method has thrown q: the class by its name, the cell, what was written, the world -/
def vx_T (XC : String → State → State → Prop) (st : State) (q : Addr) (t : State) (mc ms : Nat) (free : Addr → Prop) : Prop :=
  ∃ (E : String) (ce : Cell) (L : List Loc), XC E st t ∧ t.heap[q]? = some ce ∧ ce.vm = .none ∧ st.vm.findClass E = some ce.cls ∧ st.WarmedH t.vm ∧ st.sameButNew ({ t with vm := st.vm } : State) L mc ms ∧ ∀ z ∈ L, free z.base
def vx_Q (Qc : Array Value → State → Outcome → State → Prop) (XC : String → State → State → Prop) (mc ms : Nat) (free : Addr → Prop) : Array Value → State → Outcome → State → Prop := fun a st o t =>
  (Qc a st o t ∧ ∃ L, FrameEnd st o t L mc ms ∧ ∀ q ∈ L, free q.base) ∨ ∃ q, o = .threw q ∧ vx_T XC st q t mc ms free
/-- a callee that returns or throws -/
def vx_Met (l : Launch) (y : MethodName) (ws : List Cond) (rm : Room) (Pc : Array Value → State → Prop) (Qc : Array Value → State → Outcome → State → Prop) (XC : String → State → State → Prop) (mc ms : Nat) (free : Addr → Prop) : Prop :=
  MetFree l y (headSpec ws rm) Pc (fun _ _ _ _ _ => True) (vx_Q Qc XC mc ms free)
def vx_Post (XC : String → State → State → Prop) (mc ms : Nat) (free : Addr → Prop) : Pt → Array Value → Addr → Pt → Prop := fun A a q B =>
  ∃ (g : JFrame) (mk : MethodId) (t : State) (L : List Loc) (E : String) (ce : Cell), B.U.heap = t.heap ∧ B.U.vm = t.vm ∧ XC E (A.U.calling g mk a) t ∧ t.heap[q]? = some ce ∧ ce.vm = .none ∧ A.U.vm.findClass E = some ce.cls ∧ B.locs = A.locs ++ L ∧ (∀ z ∈ L, free z.base) ∧ B.cells = A.cells + mc ∧ B.slots = A.slots + ms
def vx_Back (l : Launch) (R : Room) (p : Program) (e : Env) (below : List Frame) (s : State) (sargs : Array Value) (y : MethodName) (len W9 : Nat)
    (Pre : Pt → Array Value → Prop) (Post : Pt → Array Value → Option Value → Pt → Prop) (PostX : Pt → Array Value → Addr → Pt → Prop) : Prop :=
  ∀ (m : MethodId) (meth : Method) (c : Code) (A : Pt) (g : JFrame) (ig : Instr) (mk : MethodId) (a : Array Value),
    Stand p l e R s m sargs below meth c A.U A.locs A.cells A.slots → g.method = m → g.locals.size = c.maxLocals → decode c.code g.pc = .ok (ig, len) →
    2 * g.monitorRoom + (g.stack.map fun v => v.category).sum ≤ W9 → A.U.methodNamed? y = some mk → Pre A a →
    (∃ (v : Option Value) (B : Pt), Stand p l e R s m sargs below meth c B.U B.locs B.cells B.slots ∧ Post A a v B ∧
      Steps p.tables e below (doInvoke e (A.U.setTop g) [] mk a).1 (B.U.setTop { g with pc := g.pc + len, stack := v.toList ++ g.stack })) ∨
    (∃ (q : Addr) (B : Pt), Stand p l e R s m sargs below meth c B.U B.locs B.cells B.slots ∧ PostX A a q B ∧
      Steps p.tables e below (doInvoke e (A.U.setTop g) [] mk a).1 ((B.U.setTop g).pushFrame (.throwing q)))
section Payer
variable {l : Launch} {R : Room} {p : Program} {e : Env} {below : List Frame} {s : State} {sargs : Array Value} {y : MethodName} {len W9 : Nat}
theorem vx_back {ws : List Cond} {rm : Room} {Pc : Array Value → State → Prop} {Qc : Array Value → State → Outcome → State → Prop} {XC : String → State → State → Prop} {mc ms : Nat} {free : Addr → Prop} {bytes : ByteArray} {maxL : Nat} {ret : Option FieldType}
    (hM : vx_Met l y ws rm Pc Qc XC mc ms free) (hblind : FrameBlind Pc) (hrc : rm.cells = mc) (hrs : rm.slots = ms)
    (hframes : rm.frames + 1 ≤ R.frames) (hlocals : W9 + (maxL + 11) + rm.locals ≤ R.locals)
    (hws : ∀ w ∈ ws, ∀ a' U, s.WarmedH U.vm → w.before a' U = true) (hcode : Cond.code y bytes maxL ret ∈ ws) (hinit : ∀ a' U, s.WarmedH U.vm → (Cond.initialized y.cls).before a' U = true) :
    vx_Back l R p e below s sargs y len W9 (PreOf R mc ms Pc) (PostOf Qc mc ms free) (vx_Post XC mc ms free) := by
  intro m meth c A g ig mk a X hg hsize hdg hW hn hp
  have h1 : (headSpec ws rm).pre.before a A.U = true := atoms_intro fun w hw => hws w hw _ _ X.warmed
  have h2 : (Cond.code y bytes maxL ret).before a A.U = true := hws _ hcode _ _ X.warmed
  have h3 : (Cond.initialized y.cls).before a A.U = true := hinit _ _ X.warmed
  have h4 : A.cells + (headSpec ws rm).room.cells ≤ R.cells := by rw [show (headSpec ws rm).room.cells = mc from hrc]; exact hp.1
  have h5 : A.slots + (headSpec ws rm).room.slots ≤ R.slots := by rw [show (headSpec ws rm).room.slots = ms from hrs]; exact hp.2.1
  have hPc : Pc a (A.U.calling g mk a) := hblind _ _ _ _ hp.2.2
  obtain ⟨U, Ls, c0, s0⟩ := A
  dsimp only [Pt.U, Pt.locs, Pt.cells, Pt.slots] at h1 h2 h3 h4 h5 X hn hPc ⊢
  obtain ⟨methY, cY, hmY, hcY, -, hlY, -, -, -, -⟩ := Cond.code_spec hn h2
  obtain ⟨kY, hkY, -⟩ := className_of_methodNamed hn
  have hinitY : kY.init = .initialized := Cond.initialized_spec (findClass_of_methodNamed hn) hkY h3
  have h : At U g.method c below := by rw [hg]; exact X.here
  have hlocals9 : W9 + (maxL + 11) + (headSpec ws rm).room.locals ≤ R.locals := hlocals
  have happ : (headSpec ws rm).appliesLoose y e.platform (U.calling g mk a) = true :=
    Spec.appliesLoose_calling (g := g) h hdg hn hkY hinitY
      (X.room_calling (g := g) (R' := (headSpec ws rm).room) hsize hmY hcY hframes (by rw [hlY]; omega) h4 h5) h1
  obtain ⟨mid, hmid⟩ := h.above
  have hfr : (U.setTop g).frames = (.java g :: mid) ++ below := by rw [State.frames_setTop' g h.top, hmid]; rfl
  obtain ⟨o, s₂, hsteps, -, hend, hq⟩ := Steps.callFree hM p X.admits X.cas X.clock (acts := []) hfr happ hPc trivial
  have hq' : vx_Q Qc XC mc ms free a (U.calling g mk a) o s₂ := hq
  rw [State.frames_setTop' g h.top] at hend
  obtain ⟨g₀, hg0⟩ := Option.isSome_iff_exists.mp h.top
  obtain ⟨r, hr⟩ := State.topJava?_eq_some.mp hg0
  have hr' : (({ U with heap := s₂.heap, slotsUsed := s₂.slotsUsed } : State).setVm s₂.vm).frames = .java g₀ :: r := hr
  rcases hq' with ⟨hqc, L, hfe, hL⟩ | ⟨q, rfl, E, ce, L, hx, hce, hcv, hcl, hW₂, hsm, hL⟩
  · obtain ⟨⟨v, rfl⟩, hW₂, e2, q2, q3, q4, q5, q6⟩ := id hfe
    have e3 : s₂ = ({ (U.calling g mk a).setFrames s₂.frames with heap := s₂.heap, slotsUsed := s₂.slotsUsed } : State).setVm s₂.vm := by
      have : s₂ = ({ s₂ with vm := (U.calling g mk a).vm } : State).setVm s₂.vm := rfl
      rw [e2] at this
      exact this
    obtain ⟨c₂, i₂, len₂, hc₂, hd₂, hf₂⟩ := hend
    have hW' : U.WarmedH s₂.vm := hW₂
    have hcc : c₂ = c := by
      have h1 : s₂.code? g.method = U.code? g.method := by
        rw [State.code?_eq, State.code?_eq, hW'.alike.method?]
      exact Option.some.inj (hc₂.symm.trans (h1.trans h.code))
    subst hcc
    have hlen : len₂ = len := by rw [hdg] at hd₂; cases hd₂; rfl
    subst hlen
    have hs₂ : s₂ = (({ U with heap := s₂.heap, slotsUsed := s₂.slotsUsed } : State).setVm s₂.vm).setTop { g with pc := g.pc + len₂, stack := v.toList ++ g.stack } := by
      refine e3.trans ?_
      rw [hf₂, State.calling_eq h.top, State.setFrames_setFrames, State.setTop_of_frames _ hr', hr]
      rfl
    have hsame : U.sameButNew ({ U with heap := s₂.heap, slotsUsed := s₂.slotsUsed } : State) L mc ms := by
      refine ⟨?_, q2, q3, q4, q5, q6⟩
      obtain ⟨t, ht, -⟩ := State.frames_cons hr
      show ({ U with heap := s₂.heap, slotsUsed := s₂.slotsUsed } : State) = { U.setFrames U.frames with heap := s₂.heap, slotsUsed := s₂.slotsUsed }
      rw [State.setFrames_self ht]
    subst hg
    refine Or.inl ⟨v, ⟨(({ U with heap := s₂.heap, slotsUsed := s₂.slotsUsed } : State).setVm s₂.vm), Ls ++ L, c0 + mc, s0 + ms⟩,
      ⟨X.admits, X.cas, X.clock, X.frames, X.room, X.hears, X.method, X.code, (X.here.setHeapUsed s₂.heap s₂.slotsUsed).setVm hW'.alike, X.tail, State.WarmedH.trans X.warmed hW', X.limits, X.bytes, X.same.trans (hsame.setVm s.vm)⟩,
      ⟨g, mk, s₂, L, rfl, rfl, hqc, rfl, hL, rfl, rfl⟩, ?_⟩
    show Steps p.tables e below _ ((({ U with heap := s₂.heap, slotsUsed := s₂.slotsUsed } : State).setVm s₂.vm).setTop { g with pc := g.pc + len₂, stack := v.toList ++ g.stack })
    rw [← hs₂]
    exact hsteps
  · obtain ⟨e2, q2, q3, q4, q5, q6⟩ := id hsm
    have e3 : s₂ = ({ (U.calling g mk a).setFrames s₂.frames with heap := s₂.heap, slotsUsed := s₂.slotsUsed } : State).setVm s₂.vm := by
      have : s₂ = ({ s₂ with vm := (U.calling g mk a).vm } : State).setVm s₂.vm := rfl
      rw [e2] at this
      exact this
    have hf₂ : s₂.frames = .throwing q :: .java g :: U.frames.tail := hend
    have hW' : U.WarmedH s₂.vm := hW₂
    have hs₂ : s₂ = ((({ U with heap := s₂.heap, slotsUsed := s₂.slotsUsed } : State).setVm s₂.vm).setTop g).pushFrame (.throwing q) := by
      refine e3.trans ?_
      rw [hf₂, State.calling_eq h.top, State.setFrames_setFrames, State.pushFrame, State.frames_setTop _ hr', State.setTop_of_frames _ hr', State.setFrames_setFrames, hr]
      rfl
    have hsame : U.sameButNew ({ U with heap := s₂.heap, slotsUsed := s₂.slotsUsed } : State) L mc ms := by
      refine ⟨?_, q2, q3, q4, q5, q6⟩
      obtain ⟨t, ht, -⟩ := State.frames_cons hr
      show ({ U with heap := s₂.heap, slotsUsed := s₂.slotsUsed } : State) = { U.setFrames U.frames with heap := s₂.heap, slotsUsed := s₂.slotsUsed }
      rw [State.setFrames_self ht]
    subst hg
    refine Or.inr ⟨q, ⟨(({ U with heap := s₂.heap, slotsUsed := s₂.slotsUsed } : State).setVm s₂.vm), Ls ++ L, c0 + mc, s0 + ms⟩,
      ⟨X.admits, X.cas, X.clock, X.frames, X.room, X.hears, X.method, X.code, (X.here.setHeapUsed s₂.heap s₂.slotsUsed).setVm hW'.alike, X.tail, State.WarmedH.trans X.warmed hW', X.limits, X.bytes, X.same.trans (hsame.setVm s.vm)⟩,
      ⟨g, mk, s₂, L, E, ce, rfl, rfl, hx, hce, hcv, hcl, rfl, hL, rfl, rfl⟩, ?_⟩
    show Steps p.tables e below _ (((({ U with heap := s₂.heap, slotsUsed := s₂.slotsUsed } : State).setVm s₂.vm).setTop g).pushFrame (.throwing q))
    rw [← hs₂]
    exact hsteps
end Payer
section Calls
variable {p : Program} {l : Launch} {e : Env} {R : Room} {s : State} {m : MethodId} {args : Array Value} {below : List Frame} {meth : Method} {c : Code} {T : State} {locs : List Loc} {cells slots : Nat}
theorem vx_callV (X : Stand p l e R s m args below meth c T locs cells slots) (hexec : p.tables.exec = Jvm.exec) {own C : String} {index : Nat} {y : MethodName} {bytes : ByteArray} {maxL : Nat} {ret : Option FieldType}
    (hown : s.vm.findClass own = some m.cls) (hlink : (Cond.methodLink own index y).before args s = true) (hinst : (Cond.instanceMethod y).before args s = true) (hsel : (Cond.selects C y y).before args s = true)
    (hcode : (Cond.code y bytes maxL ret).before args s = true) (hy : y.cls ≠ "java/lang/invoke/MethodHandle" ∧ y.cls ≠ "java/lang/invoke/VarHandle")
    {W9 : Nat} {Pre : Pt → Array Value → Prop} {Post : Pt → Array Value → Option Value → Pt → Prop} {PostX : Pt → Array Value → Addr → Pt → Prop} (hK : vx_Back l R p e below s args y 3 W9 Pre Post PostX)
    {b : Addr} {cellB : Cell} (hcell : T.heap[b]? = some cellB) (hobj : cellB.vm.isStatics = false) (hcls : s.vm.findClass C = some cellB.cls)
    {g : JFrame} (hg : g.method = m) (hsize : g.locals.size = c.maxLocals) {argsL rest : List Value} (hlen : ∀ sig, parseMethodDescriptor y.desc = some sig → argsL.length = sig.parameters.length)
    (hstack : g.stack = argsL.reverse ++ .ref b :: rest) (hW : 2 * g.monitorRoom + (rest.map fun v => v.category).sum ≤ W9) (hdg : decode c.code g.pc = .ok (.invokevirtual index, 3))
    (hpre : ∀ vm₁, s.WarmedH vm₁ → Pre ⟨T.setVm vm₁, locs, cells, slots⟩ (Value.ref b :: argsL).toArray) :
    (∃ (v : Option Value) (vm₁ : Vm) (B : Pt), s.WarmedH vm₁ ∧ Stand p l e R s m args below meth c B.U B.locs B.cells B.slots ∧ Post ⟨T.setVm vm₁, locs, cells, slots⟩ (Value.ref b :: argsL).toArray v B ∧
      ∀ target, Steps p.tables e below (B.U.setTop { g with pc := g.pc + 3, stack := v.toList ++ rest }) target → Steps p.tables e below (T.setTop g) target) ∨
    (∃ (q : Addr) (vm₁ : Vm) (B : Pt), s.WarmedH vm₁ ∧ Stand p l e R s m args below meth c B.U B.locs B.cells B.slots ∧ PostX ⟨T.setVm vm₁, locs, cells, slots⟩ (Value.ref b :: argsL).toArray q B ∧
      Steps p.tables e below (T.setTop g) ((B.U.setTop { g with stack := rest }).pushFrame (.throwing q))) := by
  obtain ⟨mk, methM, hnamed, hmethM, hstM, habM⟩ := Cond.instanceMethod_spec hinst
  obtain ⟨methM', cM, hmethM', -, -, -, -, -, -, hsigM⟩ := Cond.code_spec hnamed hcode
  cases hmethM.symm.trans hmethM'
  obtain ⟨c2, r2, m2, q1, q2, q3, q4, kP, hkP, hkPi⟩ := Cond.selects_spec hsel
  cases hcls.symm.trans q1
  cases (State.methodFound?_of_named hnamed hy).symm.trans q2
  cases hnamed.symm.trans q3
  have hselP : selectMethod e.platform s.vm cellB.cls mk = .method mk := by rw [Launch.admits_selectMethod X.admits]; exact q4
  obtain ⟨vm₁, X₁, hstep₁⟩ := X.invokevirtual hexec hown hlink hnamed hmethM hstM hkP hkPi hy (a := b) (cell := cellB) hcell
    (fun z h => by rw [h] at hobj; cases hobj) hselP hmethM habM hkP hkPi (g := g) hg (argsL := argsL) (rest := rest) (hlen _ hsigM) hstack hdg
  rcases hK m meth c ⟨T.setVm vm₁, locs, cells, slots⟩ { g with stack := rest } (.invokevirtual index) mk (Value.ref b :: argsL).toArray X₁ hg hsize hdg hW (X₁.named hnamed) (hpre vm₁ X₁.warmed) with ⟨v, B, X', hpost, hsteps⟩ | ⟨q, B, X', hpost, hsteps⟩
  · exact Or.inl ⟨v, vm₁, B, X₁.warmed, X', hpost, fun target h => hstep₁ _ fun acts => by rw [doInvoke_state]; exact hsteps.trans h⟩
  · exact Or.inr ⟨q, vm₁, B, X₁.warmed, X', hpost, hstep₁ _ fun acts => by rw [doInvoke_state]; exact hsteps⟩
theorem vx_callS (X : Stand p l e R s m args below meth c T locs cells slots) (hexec : p.tables.exec = Jvm.exec) {own : String} {index : Nat} {y : MethodName} {bytes : ByteArray} {maxL : Nat} {ret : Option FieldType}
    (hown : s.vm.findClass own = some m.cls) (hlink : (Cond.methodLink own index y).before args s = true) (hstat : (Cond.static y).before args s = true) (hinit : (Cond.initialized y.cls).before args s = true)
    (hcode : (Cond.code y bytes maxL ret).before args s = true) (hy : y.cls ≠ "java/lang/invoke/MethodHandle" ∧ y.cls ≠ "java/lang/invoke/VarHandle")
    {W9 : Nat} {Pre : Pt → Array Value → Prop} {Post : Pt → Array Value → Option Value → Pt → Prop} {PostX : Pt → Array Value → Addr → Pt → Prop} (hK : vx_Back l R p e below s args y 3 W9 Pre Post PostX)
    {g : JFrame} (hg : g.method = m) (hsize : g.locals.size = c.maxLocals) {argsL rest : List Value} (hlen : ∀ sig, parseMethodDescriptor y.desc = some sig → argsL.length = sig.parameters.length)
    (hstack : g.stack = argsL.reverse ++ rest) (hW : 2 * g.monitorRoom + (rest.map fun v => v.category).sum ≤ W9) (hdg : decode c.code g.pc = .ok (.invokestatic index, 3))
    (hpre : ∀ vm₁, s.WarmedH vm₁ → Pre ⟨T.setVm vm₁, locs, cells, slots⟩ argsL.toArray) :
    (∃ (v : Option Value) (vm₁ : Vm) (B : Pt), s.WarmedH vm₁ ∧ Stand p l e R s m args below meth c B.U B.locs B.cells B.slots ∧ Post ⟨T.setVm vm₁, locs, cells, slots⟩ argsL.toArray v B ∧
      ∀ target, Steps p.tables e below (B.U.setTop { g with pc := g.pc + 3, stack := v.toList ++ rest }) target → Steps p.tables e below (T.setTop g) target) ∨
    (∃ (q : Addr) (vm₁ : Vm) (B : Pt), s.WarmedH vm₁ ∧ Stand p l e R s m args below meth c B.U B.locs B.cells B.slots ∧ PostX ⟨T.setVm vm₁, locs, cells, slots⟩ argsL.toArray q B ∧
      Steps p.tables e below (T.setTop g) ((B.U.setTop { g with stack := rest }).pushFrame (.throwing q))) := by
  obtain ⟨mk, hnamed⟩ := Cond.code_named hcode
  obtain ⟨methM, cM, hmethM, -, -, -, -, -, -, hsigM⟩ := Cond.code_spec hnamed hcode
  have hstatic : methM.isStatic = true := Cond.static_spec hnamed hmethM hstat
  obtain ⟨kP, hkP, -⟩ := className_of_methodNamed hnamed
  have hinitP : kP.init = .initialized := Cond.initialized_spec (findClass_of_methodNamed hnamed) hkP hinit
  obtain ⟨vm₁, X₁, hstep₁⟩ := X.invokestatic hexec hown hlink hnamed hmethM hstatic hkP hinitP hy (g := g) hg (argsL := argsL) (rest := rest) (hlen _ hsigM) hstack hdg
  rcases hK m meth c ⟨T.setVm vm₁, locs, cells, slots⟩ { g with stack := rest } (.invokestatic index) mk argsL.toArray X₁ hg hsize hdg hW (X₁.named hnamed) (hpre vm₁ X₁.warmed) with ⟨v, B, X', hpost, hsteps⟩ | ⟨q, B, X', hpost, hsteps⟩
  · exact Or.inl ⟨v, vm₁, B, X₁.warmed, X', hpost, fun target h => hstep₁ _ fun acts => by rw [doInvoke_state]; exact hsteps.trans h⟩
  · exact Or.inr ⟨q, vm₁, B, X₁.warmed, X', hpost, hstep₁ _ fun acts => by rw [doInvoke_state]; exact hsteps⟩
end Calls
theorem vx_cls {s : State} {T : State} {vm₁ : Vm} {E : String} {k : ClassId} (hW : s.WarmedH vm₁) (h : (T.setVm vm₁).vm.findClass E = some k) : s.vm.findClass E = some k := by
  have h1 : vm₁.findClass E = some k := h
  rw [hW.alike.findClass] at h1
  exact h1
/-- the method's frame g, with q thrown over it -/
def vx_W (p : Program) (l : Launch) (e : Env) (R : Room) (s : State) (m : MethodId) (args : Array Value) (below : List Frame) (meth : Method) (c : Code) (H : Heap) (locs : List Loc) (cells slots : Nat) (Q : State → Prop) (g : JFrame) (q : Addr) : Prop :=
  ∀ T : State, T.heap = H → Stand p l e R s m args below meth c T locs cells slots → ∃ t, Steps p.tables e below ((T.setTop g).pushFrame (.throwing q)) t ∧ Q t
def vx_Run (p : Program) (l : Launch) (e : Env) (R : Room) (s : State) (m : MethodId) (args : Array Value) (below : List Frame) (meth : Method) (c : Code) (H : Heap) (locs : List Loc) (cells slots mc ms : Nat) (g : JFrame) (rest : List Value) (Qa : State → Outcome → State → Prop) (XC : String → State → State → Prop) (free : Addr → Prop) : Prop :=
  ∀ T : State, T.heap = H → Stand p l e R s m args below meth c T locs cells slots →
    (∃ (v : Option Value) (st₀ t T' : State) (L : List Loc), st₀.heap = H ∧ Stand p l e R s m args below meth c T' (locs ++ L) (cells + mc) (slots + ms) ∧ (∀ q ∈ L, free q.base) ∧ T'.heap = t.heap ∧ T'.vm = t.vm ∧ Qa st₀ (.returned v) t ∧
      Goes p e below T g T' { g with pc := g.pc + 3, stack := v.toList ++ rest }) ∨
    (∃ (q : Addr) (st₀ t T' : State) (L : List Loc) (E : String) (ce : Cell), st₀.heap = H ∧ Stand p l e R s m args below meth c T' (locs ++ L) (cells + mc) (slots + ms) ∧ (∀ z ∈ L, free z.base) ∧ T'.heap = t.heap ∧ T'.vm = t.vm ∧ XC E st₀ t ∧ t.heap[q]? = some ce ∧ ce.vm = .none ∧ s.vm.findClass E = some ce.cls ∧
      Steps p.tables e below (T.setTop g) ((T'.setTop { g with stack := rest }).pushFrame (.throwing q)))
def vx_X {S : Type} (px : S → Prop) (B : String → S → State → Prop) (A : Nat → Prop) : String → State → State → Prop := fun E st t => ∃ u : S, px u ∧ B E u t ∧ va_F A st t
section Runs
variable {p : Program} {l : Launch} {e : Env} {R : Room} {s : State} {m : MethodId} {args : Array Value} {below : List Frame} {meth : Method} {c : Code} {H : Heap} {locs : List Loc} {cells slots : Nat}
variable {y : MethodName} {bytes cc : ByteArray} {maxL nL mc ms n index : Nat} {ret : Option FieldType} {ws : List Cond} {rm : Room} {Pc : Array Value → State → Prop} {Qc : Array Value → State → Outcome → State → Prop} {XC : String → State → State → Prop} {free : Addr → Prop} {Ts : List Cond} {own C : String} {b : Addr} {As rest : List Value} {g : JFrame}
theorem vx_callBack (cb : CallB R s args own index y bytes maxL ret ws rm mc ms n) (hM : vx_Met l y ws rm Pc Qc XC mc ms free) (hbl : FrameBlind Pc) : vx_Back l R p e below s args y 3 8 (PreOf R mc ms Pc) (PostOf Qc mc ms free) (vx_Post XC mc ms free) := by
  obtain ⟨hrc, hrs, hfr, hlo, hws, hcw, -, hini, -⟩ := cb
  exact vx_back (bytes := bytes) (maxL := maxL) (ret := ret) hM hbl hrc hrs hfr hlo hws hcw (fun a' U hW => word_at hW (Or.inl (by first | rfl | simp [Cond.onTables, Cond.keeps, Cond.steady])) hini)
theorem vx_runV (S : CallFix p m c cc nL s args Ts own) (hM : vx_Met l y ws rm Pc Qc XC mc ms free) (cw : CallW R s args own C index y bytes maxL ret ws rm mc ms n) (hp : PreV s H C b Pc As)
    (hg : g.method = m) (hn : As.length = n) (hsize : g.locals.size = nL) (hstack : g.stack = As.reverse ++ .ref b :: rest) (hW : 2 * g.monitorRoom + (rest.map fun v => v.category).sum ≤ 8) (hdg : decode cc g.pc = .ok (.invokevirtual index, 3)) (hf : cells + mc ≤ R.cells ∧ slots + ms ≤ R.slots) :
    vx_Run p l e R s m args below meth c H locs cells slots mc ms g rest (Qc (Value.ref b :: As).toArray) XC free := by
  have hK : vx_Back l R p e below s args y 3 8 (PreOf R mc ms Pc) (PostOf Qc mc ms free) (vx_Post XC mc ms free) := vx_callBack cw.1 hM hp.1
  obtain ⟨⟨-, -, -, -, -, -, hcode, -, hy, hlen, hl⟩, hin, hse⟩ := cw
  obtain ⟨hx, hb, hml, ho, -⟩ := S
  obtain ⟨-, ⟨cellB, hcB, hoB, hclB⟩, hPc⟩ := hp
  intro T hT X
  rcases vx_callV X hx (C := C) (bytes := bytes) (maxL := maxL) (ret := ret) ho hl hin hse hcode hy hK (by rw [hT]; exact hcB) hoB hclB hg (hsize.trans hml.symm) (argsL := As) (rest := rest) (fun sig h => hn.trans (hlen sig h)) hstack hW (by rw [hb]; exact hdg)
    (fun vm₁ hW₁ => ⟨hf.1, hf.2, hPc (T.setVm vm₁) hT hW₁⟩) with ⟨v, vm₁, ⟨U', l2, c2, s2⟩, hW₁, X', ⟨g', mk, t, L, e1, e2, hq, h1, hL, h2, h3⟩, st⟩ | ⟨q, vm₁, ⟨U', l2, c2, s2⟩, hW₁, X', ⟨g', mk, t, L, E, ce, e1, e2, hq, hce, hcv, hcl, h1, hL, h2, h3⟩, st⟩
  · dsimp only [Pt.U, Pt.locs, Pt.cells, Pt.slots] at X' e1 e2 h1 h2 h3 st
    subst h1; subst h2; subst h3
    exact Or.inl ⟨v, (T.setVm vm₁).calling g' mk (Value.ref b :: As).toArray, t, U', L, hT, X', hL, e1, e2, hq, st⟩
  · dsimp only [Pt.U, Pt.locs, Pt.cells, Pt.slots] at X' e1 e2 h1 h2 h3 st hcl
    subst h1; subst h2; subst h3
    exact Or.inr ⟨q, (T.setVm vm₁).calling g' mk (Value.ref b :: As).toArray, t, U', L, E, ce, hT, X', hL, e1, e2, hq, hce, hcv, vx_cls hW₁ hcl, st⟩
theorem vx_runS (S : CallFix p m c cc nL s args Ts own) (hM : vx_Met l y ws rm Pc Qc XC mc ms free) (cw : CallB R s args own index y bytes maxL ret ws rm mc ms n ∧ (Cond.static y).before args s = true) (hp : PreS s H Pc As)
    (hg : g.method = m) (hn : As.length = n) (hsize : g.locals.size = nL) (hstack : g.stack = As.reverse ++ rest) (hW : 2 * g.monitorRoom + (rest.map fun v => v.category).sum ≤ 8) (hdg : decode cc g.pc = .ok (.invokestatic index, 3)) (hf : cells + mc ≤ R.cells ∧ slots + ms ≤ R.slots) :
    vx_Run p l e R s m args below meth c H locs cells slots mc ms g rest (Qc As.toArray) XC free := by
  have hK : vx_Back l R p e below s args y 3 8 (PreOf R mc ms Pc) (PostOf Qc mc ms free) (vx_Post XC mc ms free) := vx_callBack cw.1 hM hp.1
  obtain ⟨⟨-, -, -, -, -, -, hcode, hini, hy, hlen, hl⟩, hstt⟩ := cw
  obtain ⟨hx, hb, hml, ho, -⟩ := S
  intro T hT X
  rcases vx_callS X hx (bytes := bytes) (maxL := maxL) (ret := ret) ho hl hstt hini hcode hy hK hg (hsize.trans hml.symm) (argsL := As) (rest := rest) (fun sig h => hn.trans (hlen sig h)) hstack hW (by rw [hb]; exact hdg)
    (fun vm₁ hW₁ => ⟨hf.1, hf.2, hp.2 (T.setVm vm₁) hT hW₁⟩) with ⟨v, vm₁, ⟨U', l2, c2, s2⟩, hW₁, X', ⟨g', mk, t, L, e1, e2, hq, h1, hL, h2, h3⟩, st⟩ | ⟨q, vm₁, ⟨U', l2, c2, s2⟩, hW₁, X', ⟨g', mk, t, L, E, ce, e1, e2, hq, hce, hcv, hcl, h1, hL, h2, h3⟩, st⟩
  · dsimp only [Pt.U, Pt.locs, Pt.cells, Pt.slots] at X' e1 e2 h1 h2 h3 st
    subst h1; subst h2; subst h3
    exact Or.inl ⟨v, (T.setVm vm₁).calling g' mk As.toArray, t, U', L, hT, X', hL, e1, e2, hq, st⟩
  · dsimp only [Pt.U, Pt.locs, Pt.cells, Pt.slots] at X' e1 e2 h1 h2 h3 st hcl
    subst h1; subst h2; subst h3
    exact Or.inr ⟨q, (T.setVm vm₁).calling g' mk As.toArray, t, U', L, E, ce, hT, X', hL, e1, e2, hq, hce, hcv, vx_cls hW₁ hcl, st⟩
end Runs
section Rows
variable {p : Program} {l : Launch} {e : Env} {R : Room} {s : State} {m : MethodId} {args : Array Value} {below : List Frame} {meth : Method} {c : Code} {H : Heap} {locs : List Loc} {cells slots : Nat} {Q : State → Prop}
variable {mc ms : Nat} {free : Addr → Prop} {A0 A1 : Nat → Prop} {H0 : Heap} {a : Array Value} {pc : Nat} {ls : Array Slot} {st0 rest : List Value}
theorem vx_keep {st₀ t T' : State} {L : List Loc} (h0 : st₀.heap = H) (e1 : T'.heap = t.heap) (hS : va_S A0 H0 H locs) (hA : ∀ q, q < H.size → A1 q → A0 q) (hf : ∀ q, free q → A0 q) (hL : ∀ q ∈ L, free q.base) (hF : va_F A1 st₀ t) :
    H.size ≤ T'.heap.size ∧ (∀ q : Nat, q < H.size → ¬ A1 q → T'.heap[q]? = H[q]?) ∧ va_S A0 H0 T'.heap (locs ++ L) := by
  obtain ⟨hz, hk⟩ := hF
  rw [h0] at hz hk
  exact ⟨by rw [e1]; exact hz, fun q h1 h2 => by rw [e1]; exact hk q h1 h2,
    ⟨Nat.le_trans hS.1 (by rw [e1]; exact hz), fun q h1 h2 => by rw [e1, hk q (Nat.lt_of_lt_of_le h1 hS.1) (fun z => h2 (hA q (Nat.lt_of_lt_of_le h1 hS.1) z))]; exact hS.2.1 q h1 h2, fun q hq => by
      rcases List.mem_append.mp hq with h | h
      · exact hS.2.2 q h
      · exact hf _ (hL q h)⟩⟩
theorem vx_calli {S SX : Type} {post : Int32 → S → Prop} {px : SX → Prop} {B : S → State → Prop} {BX : String → SX → State → Prop} {AX : Nat → Prop} (hr : vx_Run p l e R s m args below meth c H locs cells slots mc ms (F0 m pc ls st0) rest (va_Qi post B A1 a) (vx_X px BX AX) free) (hS : va_S A0 H0 H locs) (hA : ∀ q, q < H.size → A1 q → A0 q) (hf : ∀ q, free q → A0 q) (hAX : ∀ q, q < H.size → AX q → A0 q)
    (kx : ∀ (E : String) (ce : Cell) (q9 : Addr) (u : SX) (t : State) (H1 : Heap) (locs1 : List Loc), t.heap = H1 → s.vm.Alike t.vm → px u → BX E u t → H.size ≤ H1.size → (∀ q : Nat, q < H.size → ¬ AX q → H1[q]? = H[q]?) → va_S A0 H0 H1 locs1 → H1[q9]? = some ce → ce.vm = .none → s.vm.findClass E = some ce.cls → vx_W p l e R s m args below meth c H1 locs1 (cells + mc) (slots + ms) Q (F0 m pc ls rest) q9)
    (kk : ∀ (r : Int32) (u : S) (t : State) (H1 : Heap) (locs1 : List Loc), t.heap = H1 → s.vm.Alike t.vm → post r u → B u t → H.size ≤ H1.size → (∀ q : Nat, q < H.size → ¬ A1 q → H1[q]? = H[q]?) → va_S A0 H0 H1 locs1 → W p l e R s m args below meth c H1 locs1 (cells + mc) (slots + ms) Q (F0 m (pc + 3) ls (.int r :: rest))) : W p l e R s m args below meth c H locs cells slots Q (F0 m pc ls st0) := by
  intro T hT X
  rcases hr T hT X with ⟨v, st₀, t, T', L, h0, X', hL, e1, e2, ⟨⟨r, u, hv, hp, hb⟩, hF⟩, st⟩ | ⟨q, st₀, t, T', L, E, ce, h0, X', hL, e1, e2, ⟨u, hp, hb, hF⟩, hce, hcv, hcl, st⟩
  · cases hv
    obtain ⟨k1, k2, k3⟩ := vx_keep h0 e1 hS hA hf hL hF
    obtain ⟨t2, a1, b1⟩ := kk r u t T'.heap (locs ++ L) e1.symm (by rw [← e2]; exact X'.warmed.alike) hp hb k1 k2 k3 T' rfl X'
    exact ⟨t2, st t2 a1, b1⟩
  · obtain ⟨k1, k2, k3⟩ := vx_keep h0 e1 hS hAX hf hL hF
    obtain ⟨t2, a1, b1⟩ := kx E ce q u t T'.heap (locs ++ L) e1.symm (by rw [← e2]; exact X'.warmed.alike) hp hb k1 k2 k3 (by rw [e1]; exact hce) hcv hcl T' rfl X'
    exact ⟨t2, st.trans a1, b1⟩
theorem vx_calll {S SX : Type} {post : Int64 → S → Prop} {px : SX → Prop} {B : S → State → Prop} {BX : String → SX → State → Prop} {AX : Nat → Prop} (hr : vx_Run p l e R s m args below meth c H locs cells slots mc ms (F0 m pc ls st0) rest (va_Ql post B A1 a) (vx_X px BX AX) free) (hS : va_S A0 H0 H locs) (hA : ∀ q, q < H.size → A1 q → A0 q) (hf : ∀ q, free q → A0 q) (hAX : ∀ q, q < H.size → AX q → A0 q)
    (kx : ∀ (E : String) (ce : Cell) (q9 : Addr) (u : SX) (t : State) (H1 : Heap) (locs1 : List Loc), t.heap = H1 → s.vm.Alike t.vm → px u → BX E u t → H.size ≤ H1.size → (∀ q : Nat, q < H.size → ¬ AX q → H1[q]? = H[q]?) → va_S A0 H0 H1 locs1 → H1[q9]? = some ce → ce.vm = .none → s.vm.findClass E = some ce.cls → vx_W p l e R s m args below meth c H1 locs1 (cells + mc) (slots + ms) Q (F0 m pc ls rest) q9)
    (kk : ∀ (r : Int64) (u : S) (t : State) (H1 : Heap) (locs1 : List Loc), t.heap = H1 → s.vm.Alike t.vm → post r u → B u t → H.size ≤ H1.size → (∀ q : Nat, q < H.size → ¬ A1 q → H1[q]? = H[q]?) → va_S A0 H0 H1 locs1 → W p l e R s m args below meth c H1 locs1 (cells + mc) (slots + ms) Q (F0 m (pc + 3) ls (.long r :: rest))) : W p l e R s m args below meth c H locs cells slots Q (F0 m pc ls st0) := by
  intro T hT X
  rcases hr T hT X with ⟨v, st₀, t, T', L, h0, X', hL, e1, e2, ⟨⟨r, u, hv, hp, hb⟩, hF⟩, st⟩ | ⟨q, st₀, t, T', L, E, ce, h0, X', hL, e1, e2, ⟨u, hp, hb, hF⟩, hce, hcv, hcl, st⟩
  · cases hv
    obtain ⟨k1, k2, k3⟩ := vx_keep h0 e1 hS hA hf hL hF
    obtain ⟨t2, a1, b1⟩ := kk r u t T'.heap (locs ++ L) e1.symm (by rw [← e2]; exact X'.warmed.alike) hp hb k1 k2 k3 T' rfl X'
    exact ⟨t2, st t2 a1, b1⟩
  · obtain ⟨k1, k2, k3⟩ := vx_keep h0 e1 hS hAX hf hL hF
    obtain ⟨t2, a1, b1⟩ := kx E ce q u t T'.heap (locs ++ L) e1.symm (by rw [← e2]; exact X'.warmed.alike) hp hb k1 k2 k3 (by rw [e1]; exact hce) hcv hcl T' rfl X'
    exact ⟨t2, st.trans a1, b1⟩
theorem vx_callf {S SX : Type} {post : UInt32 → S → Prop} {px : SX → Prop} {B : S → State → Prop} {BX : String → SX → State → Prop} {AX : Nat → Prop} (hr : vx_Run p l e R s m args below meth c H locs cells slots mc ms (F0 m pc ls st0) rest (va_Qf post B A1 a) (vx_X px BX AX) free) (hS : va_S A0 H0 H locs) (hA : ∀ q, q < H.size → A1 q → A0 q) (hf : ∀ q, free q → A0 q) (hAX : ∀ q, q < H.size → AX q → A0 q)
    (kx : ∀ (E : String) (ce : Cell) (q9 : Addr) (u : SX) (t : State) (H1 : Heap) (locs1 : List Loc), t.heap = H1 → s.vm.Alike t.vm → px u → BX E u t → H.size ≤ H1.size → (∀ q : Nat, q < H.size → ¬ AX q → H1[q]? = H[q]?) → va_S A0 H0 H1 locs1 → H1[q9]? = some ce → ce.vm = .none → s.vm.findClass E = some ce.cls → vx_W p l e R s m args below meth c H1 locs1 (cells + mc) (slots + ms) Q (F0 m pc ls rest) q9)
    (kk : ∀ (r : UInt32) (u : S) (t : State) (H1 : Heap) (locs1 : List Loc), t.heap = H1 → s.vm.Alike t.vm → post r u → B u t → H.size ≤ H1.size → (∀ q : Nat, q < H.size → ¬ A1 q → H1[q]? = H[q]?) → va_S A0 H0 H1 locs1 → W p l e R s m args below meth c H1 locs1 (cells + mc) (slots + ms) Q (F0 m (pc + 3) ls (.float r :: rest))) : W p l e R s m args below meth c H locs cells slots Q (F0 m pc ls st0) := by
  intro T hT X
  rcases hr T hT X with ⟨v, st₀, t, T', L, h0, X', hL, e1, e2, ⟨⟨r, u, hv, hp, hb⟩, hF⟩, st⟩ | ⟨q, st₀, t, T', L, E, ce, h0, X', hL, e1, e2, ⟨u, hp, hb, hF⟩, hce, hcv, hcl, st⟩
  · cases hv
    obtain ⟨k1, k2, k3⟩ := vx_keep h0 e1 hS hA hf hL hF
    obtain ⟨t2, a1, b1⟩ := kk r u t T'.heap (locs ++ L) e1.symm (by rw [← e2]; exact X'.warmed.alike) hp hb k1 k2 k3 T' rfl X'
    exact ⟨t2, st t2 a1, b1⟩
  · obtain ⟨k1, k2, k3⟩ := vx_keep h0 e1 hS hAX hf hL hF
    obtain ⟨t2, a1, b1⟩ := kx E ce q u t T'.heap (locs ++ L) e1.symm (by rw [← e2]; exact X'.warmed.alike) hp hb k1 k2 k3 (by rw [e1]; exact hce) hcv hcl T' rfl X'
    exact ⟨t2, st.trans a1, b1⟩
theorem vx_calld {S SX : Type} {post : UInt64 → S → Prop} {px : SX → Prop} {B : S → State → Prop} {BX : String → SX → State → Prop} {AX : Nat → Prop} (hr : vx_Run p l e R s m args below meth c H locs cells slots mc ms (F0 m pc ls st0) rest (va_Qd post B A1 a) (vx_X px BX AX) free) (hS : va_S A0 H0 H locs) (hA : ∀ q, q < H.size → A1 q → A0 q) (hf : ∀ q, free q → A0 q) (hAX : ∀ q, q < H.size → AX q → A0 q)
    (kx : ∀ (E : String) (ce : Cell) (q9 : Addr) (u : SX) (t : State) (H1 : Heap) (locs1 : List Loc), t.heap = H1 → s.vm.Alike t.vm → px u → BX E u t → H.size ≤ H1.size → (∀ q : Nat, q < H.size → ¬ AX q → H1[q]? = H[q]?) → va_S A0 H0 H1 locs1 → H1[q9]? = some ce → ce.vm = .none → s.vm.findClass E = some ce.cls → vx_W p l e R s m args below meth c H1 locs1 (cells + mc) (slots + ms) Q (F0 m pc ls rest) q9)
    (kk : ∀ (r : UInt64) (u : S) (t : State) (H1 : Heap) (locs1 : List Loc), t.heap = H1 → s.vm.Alike t.vm → post r u → B u t → H.size ≤ H1.size → (∀ q : Nat, q < H.size → ¬ A1 q → H1[q]? = H[q]?) → va_S A0 H0 H1 locs1 → W p l e R s m args below meth c H1 locs1 (cells + mc) (slots + ms) Q (F0 m (pc + 3) ls (.double r :: rest))) : W p l e R s m args below meth c H locs cells slots Q (F0 m pc ls st0) := by
  intro T hT X
  rcases hr T hT X with ⟨v, st₀, t, T', L, h0, X', hL, e1, e2, ⟨⟨r, u, hv, hp, hb⟩, hF⟩, st⟩ | ⟨q, st₀, t, T', L, E, ce, h0, X', hL, e1, e2, ⟨u, hp, hb, hF⟩, hce, hcv, hcl, st⟩
  · cases hv
    obtain ⟨k1, k2, k3⟩ := vx_keep h0 e1 hS hA hf hL hF
    obtain ⟨t2, a1, b1⟩ := kk r u t T'.heap (locs ++ L) e1.symm (by rw [← e2]; exact X'.warmed.alike) hp hb k1 k2 k3 T' rfl X'
    exact ⟨t2, st t2 a1, b1⟩
  · obtain ⟨k1, k2, k3⟩ := vx_keep h0 e1 hS hAX hf hL hF
    obtain ⟨t2, a1, b1⟩ := kx E ce q u t T'.heap (locs ++ L) e1.symm (by rw [← e2]; exact X'.warmed.alike) hp hb k1 k2 k3 (by rw [e1]; exact hce) hcv hcl T' rfl X'
    exact ⟨t2, st.trans a1, b1⟩
theorem vx_callv {S SX : Type} {post : S → Prop} {px : SX → Prop} {B : S → State → Prop} {BX : String → SX → State → Prop} {AX : Nat → Prop} (hr : vx_Run p l e R s m args below meth c H locs cells slots mc ms (F0 m pc ls st0) rest (va_Qv post B A1 a) (vx_X px BX AX) free) (hS : va_S A0 H0 H locs) (hA : ∀ q, q < H.size → A1 q → A0 q) (hf : ∀ q, free q → A0 q) (hAX : ∀ q, q < H.size → AX q → A0 q)
    (kx : ∀ (E : String) (ce : Cell) (q9 : Addr) (u : SX) (t : State) (H1 : Heap) (locs1 : List Loc), t.heap = H1 → s.vm.Alike t.vm → px u → BX E u t → H.size ≤ H1.size → (∀ q : Nat, q < H.size → ¬ AX q → H1[q]? = H[q]?) → va_S A0 H0 H1 locs1 → H1[q9]? = some ce → ce.vm = .none → s.vm.findClass E = some ce.cls → vx_W p l e R s m args below meth c H1 locs1 (cells + mc) (slots + ms) Q (F0 m pc ls rest) q9)
    (kk : ∀ (u : S) (t : State) (H1 : Heap) (locs1 : List Loc), t.heap = H1 → s.vm.Alike t.vm → post u → B u t → H.size ≤ H1.size → (∀ q : Nat, q < H.size → ¬ A1 q → H1[q]? = H[q]?) → va_S A0 H0 H1 locs1 → W p l e R s m args below meth c H1 locs1 (cells + mc) (slots + ms) Q (F0 m (pc + 3) ls (rest))) : W p l e R s m args below meth c H locs cells slots Q (F0 m pc ls st0) := by
  intro T hT X
  rcases hr T hT X with ⟨v, st₀, t, T', L, h0, X', hL, e1, e2, ⟨⟨u, hv, hp, hb⟩, hF⟩, st⟩ | ⟨q, st₀, t, T', L, E, ce, h0, X', hL, e1, e2, ⟨u, hp, hb, hF⟩, hce, hcv, hcl, st⟩
  · cases hv
    obtain ⟨k1, k2, k3⟩ := vx_keep h0 e1 hS hA hf hL hF
    obtain ⟨t2, a1, b1⟩ := kk u t T'.heap (locs ++ L) e1.symm (by rw [← e2]; exact X'.warmed.alike) hp hb k1 k2 k3 T' rfl X'
    exact ⟨t2, st t2 a1, b1⟩
  · obtain ⟨k1, k2, k3⟩ := vx_keep h0 e1 hS hAX hf hL hF
    obtain ⟨t2, a1, b1⟩ := kx E ce q u t T'.heap (locs ++ L) e1.symm (by rw [← e2]; exact X'.warmed.alike) hp hb k1 k2 k3 (by rw [e1]; exact hce) hcv hcl T' rfl X'
    exact ⟨t2, st.trans a1, b1⟩
/-- caught by the row x of this method's table; the rows ahead don't take it -/
theorem vx_catch {own name : String} {E : String} {ce : Cell} {q : Addr} (hown : s.vm.findClass own = some m.cls) (pre : List ExceptionTableEntry) (x : ExceptionTableEntry) (suf : List ExceptionTableEntry) (hsplit : c.exceptionTable.toList = pre ++ x :: suf)
    (hpass : ∀ z ∈ pre, covers z pc = false ∨ (z.catchType ≠ 0 ∧ ∃ nm : String, (Cond.classLink own z.catchType nm).before args s = true ∧ va_Nc E nm s)) (hx : covers x pc = true) (h0 : x.catchType ≠ 0)
    (hlink : (Cond.classLink own x.catchType name).before args s = true) (hcast : (Cond.castable E name).before args s = true) (hcell : H[q]? = some ce) (hv : ce.vm = .none) (hcl : s.vm.findClass E = some ce.cls)
    (kk : W p l e R s m args below meth c H locs cells slots Q (F0 m x.handlerPc ls [.ref q])) : vx_W p l e R s m args below meth c H locs cells slots Q (F0 m pc ls rest) q := by
  intro T hT X
  have hpl : e.platform.magicAccessors = ({} : Platform).magicAccessors := by rw [X.admits.platform]
  obtain ⟨c3, c4, hc3, hc4, hasg⟩ := Cond.castable_spec hcast
  cases Option.some.inj (hc3.symm.trans hcl)
  obtain ⟨c5, hc5, hcl5⟩ := Cond.classLink_spec hown hlink e.platform hpl
  cases Option.some.inj (hc4.symm.trans hc5)
  obtain ⟨vm', X', st⟩ := X.thenCaughtThrough q (g := F0 m pc ls rest) rfl (Steps.refl _) (by rw [hT]; exact hcell) (by rw [hv]; rfl) (by obtain ⟨k9, h9, -⟩ := Vm.findClass_spec hcl; exact ⟨k9, h9⟩) pre x suf hsplit
    (fun z hz => by
      rcases hpass z hz with h | ⟨hz0, nm, hl1, hn1⟩
      · exact Or.inl h
      · obtain ⟨c6, hc6, hcl6⟩ := Cond.classLink_spec hown hl1 e.platform hpl
        obtain ⟨a8, b8, h1, h2, h3⟩ := hn1
        cases Option.some.inj (h1.symm.trans hcl)
        cases Option.some.inj (h2.symm.trans hc6)
        exact Or.inr ⟨hz0, _, hcl6, h3⟩) hx (Or.inr ⟨h0, c4, hcl5, hasg⟩)
  obtain ⟨t, a1, b1⟩ := kk (T.setVm vm') hT X'
  exact ⟨t, st.trans a1, b1⟩
end Rows
section Ends
variable {p : Program} {l : Launch} {e : Env} {R : Room} {s : State} {m : MethodId} {args : Array Value} {below : List Frame} {meth : Method} {c : Code} {H : Heap} {locs : List Loc} {cells slots : Nat} {Q : State → Prop}
variable {mc ms : Nat} {free : Addr → Prop} {A0 A1 : Nat → Prop} {H0 : Heap} {a : Array Value} {ls : Array Slot} {st0 rest : List Value}
variable {Qc : Array Value → State → Outcome → State → Prop} {XC : String → State → State → Prop}
/-- what a body that may throw owes at its end -/
def vx_MQ (below : List Frame) (Qc : Array Value → State → Outcome → State → Prop) (XC : String → State → State → Prop) (a : Array Value) (s : State) (mc ms : Nat) (free : Addr → Prop) : State → Prop := fun t =>
  ∃ o, t.status = .running ∧ Ended t below o ∧ vx_Q Qc XC mc ms free a s o t
theorem vx_ret {g : JFrame} {mc ms : Nat} (k : W p l e R s m args below meth c H locs cells slots (MQ below Qc args s mc ms free) g) : W p l e R s m args below meth c H locs cells slots (vx_MQ below Qc XC args s mc ms free) g := by
  intro T hT X
  obtain ⟨t, a1, o, b1, b2, b3, b4⟩ := k T hT X
  exact ⟨t, a1, o, b1, b2, Or.inl ⟨b3, b4⟩⟩
/-- not caught here: it goes on to the caller -/
theorem vx_widen {g : JFrame} {q : Addr} {k n : Nat} (h1 : cells ≤ k) (h2 : slots ≤ n) (kk : vx_W p l e R s m args below meth c H locs k n Q g q) : vx_W p l e R s m args below meth c H locs cells slots Q g q := fun T hT X => kk T hT (stand_widen X h1 h2)
theorem vx_out {pc : Nat} {E : String} {ce : Cell} {q : Addr} {mc ms : Nat} (hout : ∀ x ∈ c.exceptionTable.toList, covers x pc = false) (hlocks : meth.locks = false) (hcell : H[q]? = some ce) (hv : ce.vm = .none) (hcl : s.vm.findClass E = some ce.cls)
    (hx : ∀ t : State, t.heap = H → s.vm.Alike t.vm → XC E s t) (hf : ∀ z ∈ locs, free z.base) (hc : cells ≤ mc) (hs : slots ≤ ms) :
    vx_W p l e R s m args below meth c H locs cells slots (vx_MQ below Qc XC args s mc ms free) (F0 m pc ls rest) q := by
  intro T hT X
  obtain ⟨st1, hrun, hend, hW, hsm⟩ := X.leaveThrown q (g := F0 m pc ls rest) rfl rfl rfl hout hlocks
  have hcell9 : (T.setFrames (.throwing q :: below)).heap[q]? = some ce := by
    show T.heap[q]? = some ce
    rw [hT]; exact hcell
  exact ⟨_, st1, .threw q, hrun, hend, Or.inr ⟨q, rfl, E, ce, locs, hx _ hT hW.alike, hcell9, hv, hcl, hW, hsm.mono hc hs, hf⟩⟩
theorem vx_frame {U : State} {k n : Nat} (h : s.sameButNew ({ U with vm := s.vm } : State) locs k n) : s.heap.size ≤ U.heap.size ∧ ∀ q : Nat, q < s.heap.size → (∀ z ∈ locs, z.base ≠ q) → U.heap[q]? = s.heap[q]? := by
  obtain ⟨-, h2, -, -, -, h6⟩ := h
  refine ⟨h2, fun q hq hz => ?_⟩
  obtain ⟨c9, e1, e2, e3, e4⟩ := h6 q _ (Array.getElem?_eq_getElem hq)
  have hs : c9.slots = (s.heap[q]).slots := Array.ext_getElem? fun i => e4 i fun hm => hz _ hm rfl
  have h9 : c9 = s.heap[q] := by
    rw [hs] at e2
    exact e2
  have e5 : U.heap[q]? = some c9 := e1
  rw [e5, h9, Array.getElem?_eq_getElem hq]
/-- the words of a throw but the four that speak of the heap -/
def vx_no (w : Cond) : Bool := decide (w ≠ .isRef (.static Bundle.tN "UNASSIGNED_STACK" Bundle.steD)) && decide (w ≠ .isRef (.static Bundle.tN "SUPPRESSED_SENTINEL" Bundle.listD)) && decide (w ≠ .laysStatic Bundle.tN "UNASSIGNED_STACK" Bundle.steD) && decide (w ≠ .laysStatic Bundle.tN "SUPPRESSED_SENTINEL" Bundle.listD)
def vx_at0 (own : String) (ic : Nat) (X : String) (names : List String) : List Cond := (Bundle.ownAtoms0 own ic X names).filter vx_no
def vx_atS (own : String) (ic : Nat) (X : String) (names : List String) : List Cond := (Bundle.ownAtoms own ic X names).filter vx_no
/-- a word that the tables alone decide, or a good one -/
def vx_ot (w : Cond) : Bool := w.onTables || goodWord w
theorem vx_ot_at {args a' : Array Value} {s U : State} {w : Cond} (hW : s.WarmedH U.vm) (hvm : s.vm = U.vm) (hg : vx_ot w = true) (h : w.before args s = true) : w.before a' U = true := by
  simp only [vx_ot, Bool.or_eq_true] at hg
  rcases hg with hg | hg
  · exact va_tabs hg hvm h
  · exact word_at hW (good_of_word hg) h
/-- a list's words: the good ones out of the method's own list, the others by premises of their own -/
theorem vx_hat {args : Array Value} {s : State} {L B : List Cond} (h1 : ∀ w ∈ L.filter goodWord, w.before args s = true) (h2 : ∀ w ∈ L.filter (fun w => !goodWord w), w ∈ B) (h3 : ∀ w ∈ B, w.before args s = true) : ∀ w ∈ L, w.before args s = true := by
  intro w hw
  by_cases g : goodWord w = true
  · exact h1 w (List.mem_filter.mpr ⟨hw, g⟩)
  · refine h3 w (h2 w (List.mem_filter.mpr ⟨hw, ?_⟩))
    show (!goodWord w) = true
    cases hgw : goodWord w
    · rfl
    · exact absurd hgw g
theorem vx_c {args : Array Value} {s : State} {w : Cond} {B : List Cond} (h : w.before args s = true) (t : ∀ w ∈ B, w.before args s = true) : ∀ w' ∈ w :: B, w'.before args s = true := fun w' h' => (List.mem_cons.mp h').elim (fun e => by rw [e]; exact h) (t w')
theorem vx_n {args : Array Value} {s : State} : ∀ w ∈ ([] : List Cond), w.before args s = true := fun _ h => nomatch h
theorem vx_own {args : Array Value} {s : State} {L : List Cond} (h1 : ∀ w ∈ L.filter vx_no, w.before args s = true)
    (hU : (Cond.isRef (.static Bundle.tN "UNASSIGNED_STACK" Bundle.steD)).before args s = true) (hN : (Cond.isRef (.static Bundle.tN "SUPPRESSED_SENTINEL" Bundle.listD)).before args s = true)
    (lU : (Cond.laysStatic Bundle.tN "UNASSIGNED_STACK" Bundle.steD).before args s = true) (lN : (Cond.laysStatic Bundle.tN "SUPPRESSED_SENTINEL" Bundle.listD).before args s = true) : ∀ w ∈ L, w.before args s = true := by
  intro w hw
  by_cases e1 : w = .isRef (.static Bundle.tN "UNASSIGNED_STACK" Bundle.steD)
  · rw [e1]; exact hU
  · by_cases e2 : w = .isRef (.static Bundle.tN "SUPPRESSED_SENTINEL" Bundle.listD)
    · rw [e2]; exact hN
    · by_cases e3 : w = .laysStatic Bundle.tN "UNASSIGNED_STACK" Bundle.steD
      · rw [e3]; exact lU
      · by_cases e4 : w = .laysStatic Bundle.tN "SUPPRESSED_SENTINEL" Bundle.listD
        · rw [e4]; exact lN
        · exact h1 w (List.mem_filter.mpr ⟨hw, by unfold vx_no; rw [decide_eq_true e1, decide_eq_true e2, decide_eq_true e3, decide_eq_true e4]; rfl⟩)
/-- where a static field lies, its class's statics cell in H -/
def vx_L (C n d : String) (A : Nat → Prop) (U : State) (H : Heap) : Prop := ∃ (c : ClassId) (k : Class) (i : Nat) (f : Field) (a : Nat) (cell : Cell), U.vm.findClass C = some c ∧ U.fieldFound? C n d = some (c, k, i, f) ∧ f.isStatic = true ∧ k.statics = some a ∧ H[a]? = some cell ∧ cell.vm.isStatics = true ∧ cell.cls = c ∧ f.slot < cell.slots.size ∧ k.staticTypes[f.slot]? = some f.type ∧ ¬ A a
theorem vx_L.moved {C n d : String} {A : Nat → Prop} {u U : State} {H : Heap} (hvm : u.vm.Alike U.vm) (h : vx_L C n d A u H) : vx_L C n d A U H := by
  obtain ⟨c, k, i, f, a, cell, h1, h2, h3, h4, h5, h6, h7, h8, h9, h10⟩ := h
  obtain ⟨k', hi', he⟩ := State.fieldFound?_setVm hvm h2
  exact ⟨c, k', i, f, a, cell, by rw [hvm.findClass]; exact h1, hi', h3, by rw [he]; exact h4, h5, h6, h7, h8, by rw [he]; exact h9, h10⟩
theorem vx_L.kept {C n d : String} {A : Nat → Prop} {U : State} {H H1 : Heap} (h : vx_L C n d A U H) (hq : ∀ a : Nat, a < H.size → ¬ A a → H1[a]? = H[a]?) : vx_L C n d A U H1 := by
  obtain ⟨c, k, i, f, a, cell, h1, h2, h3, h4, h5, h6, h7, h8, h9, h10⟩ := h
  exact ⟨c, k, i, f, a, cell, h1, h2, h3, h4, by rw [hq a (Array.getElem?_eq_some_iff.mp h5).1 h10]; exact h5, h6, h7, h8, h9, h10⟩
theorem vx_L.narrow {C n d : String} {A B : Nat → Prop} {U : State} {H : Heap} (h : vx_L C n d A U H) (hAB : ∀ q, B q → A q) : vx_L C n d B U H := by
  obtain ⟨c, k, i, f, a, cell, h1, h2, h3, h4, h5, h6, h7, h8, h9, h10⟩ := h
  exact ⟨c, k, i, f, a, cell, h1, h2, h3, h4, h5, h6, h7, h8, h9, fun z => h10 (hAB _ z)⟩
theorem vx_L.word {C n d : String} {A : Nat → Prop} {s : State} {args : Array Value} (h : vx_L C n d A s s.heap) : (Cond.laysStatic C n d).before args s = true := by
  obtain ⟨c, k, i, f, a, cell, h1, h2, h3, h4, h5, h6, h7, h8, h9, -⟩ := h
  show (Cond.laysStatic C n d).holds args s none s [] = true
  exact Cond.laysStatic_of h1 h2 h3 h4 h5 h6 h7 h8 h9
/-- .. and what it holds: null or some reference -/
def vx_Zq (C n d : String) (A : Nat → Prop) (U : State) (H : Heap) : Prop := va_Zq C n d A U H ∧ vx_L C n d A U H
theorem vx_Zq.moved {C n d : String} {A : Nat → Prop} {u U : State} {H : Heap} (hvm : u.vm.Alike U.vm) (h : vx_Zq C n d A u H) : vx_Zq C n d A U H := ⟨va_Zq.moved hvm h.1, vx_L.moved hvm h.2⟩
theorem vx_Zq.kept {C n d : String} {A : Nat → Prop} {U : State} {H H1 : Heap} (h : vx_Zq C n d A U H) (hq : ∀ a : Nat, a < H.size → ¬ A a → H1[a]? = H[a]?) : vx_Zq C n d A U H1 := ⟨va_Zq.kept h.1 hq, vx_L.kept h.2 hq⟩
theorem vx_Zq.narrow {C n d : String} {A B : Nat → Prop} {U : State} {H : Heap} (h : vx_Zq C n d A U H) (hAB : ∀ q, B q → A q) : vx_Zq C n d B U H := ⟨va_Zq.narrow h.1 hAB, vx_L.narrow h.2 hAB⟩
theorem vx_Zqof {args : Array Value} {s : State} {C n d : String} {A : Nat → Prop} (hl : (Cond.laysStatic C n d).before args s = true) (hini : (Cond.initialized C).before args s = true) (h : (Cond.isRef (.static C n d)).before args s = true) (hA : ∀ a : Nat, a < s.heap.size → ¬ A a) : vx_Zq C n d A s s.heap := by
  refine ⟨va_Zqof hl hini h hA, ?_⟩
  obtain ⟨c, k, i, f, a, cell, h1, h2, h3, h4, h5, h6, h7, h8, h9⟩ := Cond.laysStatic_spec hl
  exact ⟨c, k, i, f, a, cell, h1, h2, h3, h4, h5, h6, h7, h8, h9, hA a (Array.getElem?_eq_some_iff.mp h5).1⟩
theorem vx_isRef {C n d : String} {v : Value} {A : Nat → Prop} {s : State} {args : Array Value} (h : va_Z C n d v A s s.heap) (hv : v.isRef = true) : (Cond.isRef (.static C n d)).before args s = true := by
  obtain ⟨cf, kf, fi, f, a, cell, h1, h2, h3, h4, h5, h6, h7, -⟩ := h
  have he : (Term.static C n d).eval args s none [] s = some v := by
    simp [Term.eval, State.fieldNamed?, h1, h2, h4, h5, h6, h7]
  simp only [Cond.before, Cond.holds, Cond.value, he]
  cases v <;> simp_all [Value.isRef]
theorem vx_isRefq {C n d : String} {A : Nat → Prop} {s : State} {args : Array Value} (h : va_Zq C n d A s s.heap) : (Cond.isRef (.static C n d)).before args s = true := by
  rcases h with h | ⟨t, h⟩
  · exact vx_isRef h rfl
  · exact vx_isRef h rfl
/-- the same frame, seen from here: as if the method were called anew in this heap -/
theorem vx_rebase {T : State} (X : Stand p l e R s m args below meth c T locs cells slots) {R' : Room} (hf : R'.frames ≤ R.frames) (hl : R'.locals ≤ R.locals) (hc : cells + R'.cells ≤ R.cells) (hs : slots + R'.slots ≤ R.slots) :
    Stand p l e R' ((T.setVm s.vm).setFrames (.invoking m args :: below)) m args below meth c T [] 0 0 := by
  have htop : (T.setVm s.vm).topJava?.isSome := X.here.top
  have hF : ((T.setVm s.vm).setFrames (.invoking m args :: below)).frames = .invoking m args :: below := State.frames_setFrames _ (State.cur_lt_of_top htop)
  obtain ⟨g₀, hg0⟩ := Option.isSome_iff_exists.mp htop
  obtain ⟨r, hr⟩ := State.topJava?_eq_some.mp hg0
  have hl9 : e.platform.stackLimits (T.setVm s.vm).me = e.platform.stackLimits s.me := X.limits
  have hb9 : (T.setVm s.vm).me.stackBytes = s.me.stackBytes := X.bytes
  refine ⟨X.admits, X.cas, X.clock, hF, ?_, X.hears, X.method, X.code, X.here, X.tail, X.warmed, ?_, ?_, ?_⟩
  · have h := X.room
    have hU : ((T.setVm s.vm).setFrames (.invoking m args :: below)).localsInUse = s.localsInUse := by
      rw [State.localsInUse_invoking hF (meth := meth) (c := c) X.method X.code, State.localsInUse_invoking X.frames X.method X.code]
    simp only [State.hasRoom, Bool.and_eq_true, decide_eq_true_eq] at h ⊢
    obtain ⟨⟨⟨⟨h1, h2, h3, h4, h5, h6⟩, h7⟩, h8⟩, h9⟩ := h
    rw [X.frames, List.length_cons] at h2 h3
    have q1 := X.heapSize
    have q2 := X.used
    simp only [hF, hU, List.length_cons, State.stackLimits_setFrames, State.stackBytes_setFrames, hl9, hb9]
    refine ⟨⟨⟨⟨by omega, by omega, by omega, by omega, by omega, h6⟩, ?_⟩, ?_⟩, X.book⟩
    · show T.heap.size + R'.cells ≤ e.platform.maxCells
      omega
    · show T.slotsUsed + R'.slots ≤ e.platform.maxSlots
      omega
  · rw [State.stackLimits_setFrames]; rfl
  · rw [State.stackBytes_setFrames]; rfl
  · refine ⟨?_, Nat.le_refl _, Nat.le_refl _, ?_, ?_, fun a c9 h9 => ⟨c9, h9, rfl, rfl, fun _ _ => rfl⟩⟩
    · obtain ⟨t, ht, -⟩ := State.frames_cons hr
      show T.setVm s.vm = { ((T.setVm s.vm).setFrames (.invoking m args :: below)).setFrames (T.setVm s.vm).frames with heap := T.heap, slotsUsed := T.slotsUsed }
      rw [State.setFrames_setFrames, State.setFrames_self ht]
      rfl
    · show T.slotsUsed = T.slotsUsed + ((T.heap.toList.drop T.heap.size).map (·.slots.size)).sum
      rw [List.drop_eq_nil_of_le (Nat.le_of_eq Array.length_toList)]
      rfl
    · show ((T.heap.toList.drop T.heap.size).map (·.slots.size)).sum ≤ 0
      rw [List.drop_eq_nil_of_le (Nat.le_of_eq Array.length_toList)]
      exact Nat.le_refl _
/-- 'throw new E()': new; dup; invokespecial; athrow -/
theorem vx_throw0 {cc : ByteArray} {pc : Nat} (hexec : p.tables.exec = Jvm.exec) (hb : c.code = cc) (hl : l.stackTraces = false) {own cls : String} {names : List String} {ik ic mc ms : Nat} {A : Nat → Prop}
    (hown : s.vm.findClass own = some m.cls) (hcls : Bundle.fit cls = true) (hnames : ∀ n ∈ names, Bundle.fit n = true)
    (hk : (Cond.classLink own ik cls).before args s = true) (hini : (Cond.initialized cls).before args s = true) (hat : ∀ w ∈ vx_at0 own ic cls names, w.before args s = true)
    (hgood : ∀ w ∈ Cond.classLink own ik cls :: Cond.initialized cls :: vx_at0 own ic cls names, vx_ot w = true)
    (hU : vx_Zq Bundle.tN "UNASSIGNED_STACK" Bundle.steD A s s.heap) (hN : vx_Zq Bundle.tN "SUPPRESSED_SENTINEL" Bundle.listD A s s.heap) (hS : va_S A s.heap H locs) (hsize : ls.size = c.maxLocals)
    (d0 : decode cc pc = .ok (.new ik, 3)) (d3 : decode cc (pc + 3) = .ok (.dup, 1)) (d4 : decode cc (pc + 4) = .ok (.invokespecial ic, 3)) (d7 : decode cc (pc + 7) = .ok (.athrow, 1))
    (hout : ∀ x ∈ c.exceptionTable.toList, covers x (pc + 7) = false)
    (hRframes : names.length + 3 < R.frames) (hRlocals : (rest.map fun v => v.category).sum + (13 * (names.length + 1) + 42) ≤ R.locals) (hRcells : cells + 1 ≤ R.cells) (hRslots : slots + 6 ≤ R.slots) (hlocks : meth.locks = false)
    (hx : ∀ t : State, s.vm.Alike t.vm → H.size ≤ t.heap.size → (∀ q : Nat, q < H.size → t.heap[q]? = H[q]?) → XC cls s t)
    (hf : ∀ z ∈ locs, free z.base) (hc : cells + 1 ≤ mc) (hs : slots + 6 ≤ ms) :
    W p l e R s m args below meth c H locs cells slots (vx_MQ below Qc XC args s mc ms free) (F0 m pc ls rest) := by
  intro T hT X
  have htr : e.platform.stackTraces = false := (show e.platform.stackTraces = l.stackTraces by rw [X.admits.platform]).trans hl
  have Y := vx_rebase X (R' := { frames := R.frames, locals := R.locals, cells := 1, slots := 6 }) (Nat.le_refl _) (Nat.le_refl _) hRcells hRslots
  obtain ⟨s', hA⟩ : ∃ z, z = (T.setVm s.vm).setFrames (.invoking m args :: below) := ⟨_, rfl⟩
  rw [← hA] at Y
  have hvm : s'.vm = s.vm := by rw [hA]; rfl
  have hhp : s'.heap = H := by rw [hA]; exact hT
  have hW0 : s.WarmedH s'.vm := by rw [hvm]; exact State.WarmedH.refl s
  have hat' : ∀ w ∈ vx_at0 own ic cls names, w.before args s' = true := fun w hw => vx_ot_at hW0 hvm.symm (hgood w (List.mem_cons_of_mem _ (List.mem_cons_of_mem _ hw))) (hat w hw)
  have hk' : (Cond.classLink own ik cls).before args s' = true := vx_ot_at hW0 hvm.symm (hgood _ List.mem_cons_self) hk
  have hini' : (Cond.initialized cls).before args s' = true := vx_ot_at hW0 hvm.symm (hgood _ (List.mem_cons_of_mem _ List.mem_cons_self)) hini
  have hU' : vx_Zq Bundle.tN "UNASSIGNED_STACK" Bundle.steD A s' s'.heap := by rw [hhp]; exact vx_Zq.moved hW0.alike (hU.kept hS.2.1)
  have hN' : vx_Zq Bundle.tN "SUPPRESSED_SENTINEL" Bundle.listD A s' s'.heap := by rw [hhp]; exact vx_Zq.moved hW0.alike (hN.kept hS.2.1)
  have h : ∀ w ∈ Bundle.ownAtoms0 own ic cls names, w.before args s' = true := vx_own hat' (vx_isRefq hU'.1) (vx_isRefq hN'.1) hU'.2.word hN'.2.word
  have hown' : s'.vm.findClass own = some m.cls := by rw [hvm]; exact hown
  have hins : (Cond.instantiable cls 6).before args s' = true := h _ (by simp [Bundle.ownAtoms0])
  obtain ⟨vm₁, cX, kX, hfX, hkX, -, -, X₁, st1⟩ := Y.newCold hexec (own := own) (C := cls) (index := ik) (n := 6) hown' hk' hins hini'
    (g := F0 m pc ls rest) rfl (by rw [hb]; exact d0) (Nat.le_refl _) (Nat.le_refl _)
  generalize hT1 : (T.setVm vm₁).pushCell { cls := cX, slots := kX.instanceTypes.map defaultValue, vm := .none } = T1 at X₁ st1
  have hcat : (Value.ref T.heap.size).category = 1 := rfl
  have hcellA : T1.heap[T.heap.size]? = some (freshCell cX kX) := by rw [← hT1]; exact State.heap_pushCell_size _ _
  have d3' : decode c.code (pc + 3) = .ok (.dup, 1) := by rw [hb]; exact d3
  obtain ⟨U, hsteps, hrun, hend, hW, hsame, ce, hce, hO⟩ := X₁.ctorThrow0 hexec htr (own := own) (cls := cls) (names := names) (ic := ic) hown' hcls hnames h (fun x hx => nomatch hx) hfX hkX hcellA (by rw [hhp, hT]; exact Nat.le_refl _)
    (g := { method := m, pc := pc + 4, locals := ls, stack := .ref T.heap.size :: .ref T.heap.size :: rest, locked := none }) rfl hsize rfl rfl (rest := rest) rfl
    (by rw [hb]; exact d4) (by rw [hb]; exact d7) hout hRframes (by simp only [List.map_cons, List.sum_cons, hcat]; omega) hlocks
  obtain ⟨f1, f2⟩ := vx_frame hsame
  rw [hhp] at f1 f2
  have hWs : s.WarmedH U.vm := State.WarmedH.trans hW0 hW
  have hcl : s.vm.findClass cls = some ce.cls := by
    have h9 := hO.cls
    rw [hvm] at h9
    exact h9
  have hall : s.sameButNew ({ U with vm := s.vm } : State) locs mc ms := by
    subst hA
    obtain ⟨e1, e2⟩ := hsame
    rw [State.setFrames_setFrames] at e1
    have h2 : (T.setVm s.vm).sameButNew ({ U with vm := s.vm } : State) [] (0 + 1) (0 + 6) := ⟨e1, e2⟩
    have h3 := X.same.trans h2
    rw [List.append_nil] at h3
    exact h3.mono hc hs
  refine ⟨U, ?_, .threw T.heap.size, hrun, hend, Or.inr ⟨T.heap.size, rfl, cls, ce, locs, hx U hWs.alike f1 (fun q hq => f2 q hq (fun z hz => nomatch hz)), hce, hO.vm, hcl, hWs, hall, hf⟩⟩
  refine st1 _ ?_
  show Steps p.tables e below (T1.setTop { method := m, pc := pc + 3, locals := ls, stack := .ref T.heap.size :: rest, locked := none }) _
  jvm_step X₁.here [X₁.here.top, hexec, d3', Value.category]
  exact hsteps
/-- 'throw new E("text")': new; dup; ldc; invokespecial; athrow -/
theorem vx_throwS {cc : ByteArray} {pc : Nat} (hexec : p.tables.exec = Jvm.exec) (hb : c.code = cc) (hl : l.stackTraces = false) {own cls text : String} {names : List String} {ik is ic mc ms sa : Nat} {A : Nat → Prop}
    (hown : s.vm.findClass own = some m.cls) (hcls : Bundle.fit cls = true) (hnames : ∀ n ∈ names, Bundle.fit n = true)
    (hk : (Cond.classLink own ik cls).before args s = true) (hini : (Cond.initialized cls).before args s = true) (hstr : vk_R own is text sa s) (hat : ∀ w ∈ vx_atS own ic cls names, w.before args s = true)
    (hgood : ∀ w ∈ Cond.classLink own ik cls :: Cond.initialized cls :: vx_atS own ic cls names, vx_ot w = true)
    (hU : vx_Zq Bundle.tN "UNASSIGNED_STACK" Bundle.steD A s s.heap) (hN : vx_Zq Bundle.tN "SUPPRESSED_SENTINEL" Bundle.listD A s s.heap) (hS : va_S A s.heap H locs) (hsize : ls.size = c.maxLocals)
    (d0 : decode cc pc = .ok (.new ik, 3)) (d3 : decode cc (pc + 3) = .ok (.dup, 1)) (d4 : decode cc (pc + 4) = .ok (.ldc is, 2)) (d6 : decode cc (pc + 6) = .ok (.invokespecial ic, 3)) (d9 : decode cc (pc + 9) = .ok (.athrow, 1))
    (hout : ∀ x ∈ c.exceptionTable.toList, covers x (pc + 9) = false)
    (hRframes : names.length + 3 < R.frames) (hRlocals : (rest.map fun v => v.category).sum + (13 * (names.length + 1) + 43) ≤ R.locals) (hRcells : cells + 1 ≤ R.cells) (hRslots : slots + 6 ≤ R.slots) (hlocks : meth.locks = false)
    (hx : ∀ t : State, s.vm.Alike t.vm → H.size ≤ t.heap.size → (∀ q : Nat, q < H.size → t.heap[q]? = H[q]?) → XC cls s t)
    (hf : ∀ z ∈ locs, free z.base) (hc : cells + 1 ≤ mc) (hs : slots + 6 ≤ ms) :
    W p l e R s m args below meth c H locs cells slots (vx_MQ below Qc XC args s mc ms free) (F0 m pc ls rest) := by
  intro T hT X
  have htr : e.platform.stackTraces = false := (show e.platform.stackTraces = l.stackTraces by rw [X.admits.platform]).trans hl
  have Y := vx_rebase X (R' := { frames := R.frames, locals := R.locals, cells := 1, slots := 6 }) (Nat.le_refl _) (Nat.le_refl _) hRcells hRslots
  obtain ⟨s', hA⟩ : ∃ z, z = (T.setVm s.vm).setFrames (.invoking m args :: below) := ⟨_, rfl⟩
  rw [← hA] at Y
  have hvm : s'.vm = s.vm := by rw [hA]; rfl
  have hhp : s'.heap = H := by rw [hA]; exact hT
  have hW0 : s.WarmedH s'.vm := by rw [hvm]; exact State.WarmedH.refl s
  have hat' : ∀ w ∈ vx_atS own ic cls names, w.before args s' = true := fun w hw => vx_ot_at hW0 hvm.symm (hgood w (List.mem_cons_of_mem _ (List.mem_cons_of_mem _ hw))) (hat w hw)
  have hk' : (Cond.classLink own ik cls).before args s' = true := vx_ot_at hW0 hvm.symm (hgood _ List.mem_cons_self) hk
  have hini' : (Cond.initialized cls).before args s' = true := vx_ot_at hW0 hvm.symm (hgood _ (List.mem_cons_of_mem _ List.mem_cons_self)) hini
  have hU' : vx_Zq Bundle.tN "UNASSIGNED_STACK" Bundle.steD A s' s'.heap := by rw [hhp]; exact vx_Zq.moved hW0.alike (hU.kept hS.2.1)
  have hN' : vx_Zq Bundle.tN "SUPPRESSED_SENTINEL" Bundle.listD A s' s'.heap := by rw [hhp]; exact vx_Zq.moved hW0.alike (hN.kept hS.2.1)
  have h : ∀ w ∈ Bundle.ownAtoms own ic cls names, w.before args s' = true := vx_own hat' (vx_isRefq hU'.1) (vx_isRefq hN'.1) hU'.2.word hN'.2.word
  have hown' : s'.vm.findClass own = some m.cls := by rw [hvm]; exact hown
  have hins : (Cond.instantiable cls 6).before args s' = true := h _ (by simp [Bundle.ownAtoms])
  obtain ⟨vm₁, cX, kX, hfX, hkX, -, -, X₁, st1⟩ := Y.newCold hexec (own := own) (C := cls) (index := ik) (n := 6) hown' hk' hins hini'
    (g := F0 m pc ls rest) rfl (by rw [hb]; exact d0) (Nat.le_refl _) (Nat.le_refl _)
  generalize hT1 : (T.setVm vm₁).pushCell { cls := cX, slots := kX.instanceTypes.map defaultValue, vm := .none } = T1 at X₁ st1
  have hcat : (Value.ref T.heap.size).category = 1 := rfl
  have hcellA : T1.heap[T.heap.size]? = some (freshCell cX kX) := by rw [← hT1]; exact State.heap_pushCell_size _ _
  have d3' : decode c.code (pc + 3) = .ok (.dup, 1) := by rw [hb]; exact d3
  have d4' : decode c.code (pc + 4) = .ok (.ldc is, 2) := by rw [hb]; exact d4
  have hstr' : vk_R own is text sa s' := vk_R.warm hW0 hstr
  obtain ⟨U, hsteps, hrun, hend, hW, hsame, ce, hce, hO⟩ := X₁.ctorThrowS hexec htr (own := own) (cls := cls) (names := names) (ic := ic) hown' hcls hnames h (fun x hx => nomatch hx) hfX hkX hcellA (by rw [hhp, hT]; exact Nat.le_refl _) (msg := .ref sa) rfl
    (g := { method := m, pc := pc + 6, locals := ls, stack := .ref sa :: .ref T.heap.size :: .ref T.heap.size :: rest, locked := none }) rfl hsize rfl rfl (rest := rest) rfl
    (by rw [hb]; exact d6) (by rw [hb]; exact d9) hout hRframes (by simp only [List.map_cons, List.sum_cons, hcat]; omega) hlocks
  obtain ⟨f1, f2⟩ := vx_frame hsame
  rw [hhp] at f1 f2
  have hWs : s.WarmedH U.vm := State.WarmedH.trans hW0 hW
  have hcl : s.vm.findClass cls = some ce.cls := by
    have h9 := hO.cls
    rw [hvm] at h9
    exact h9
  have hall : s.sameButNew ({ U with vm := s.vm } : State) locs mc ms := by
    subst hA
    obtain ⟨e1, e2⟩ := hsame
    rw [State.setFrames_setFrames] at e1
    have h2 : (T.setVm s.vm).sameButNew ({ U with vm := s.vm } : State) [] (0 + 1) (0 + 6) := ⟨e1, e2⟩
    have h3 := X.same.trans h2
    rw [List.append_nil] at h3
    exact h3.mono hc hs
  refine ⟨U, ?_, .threw T.heap.size, hrun, hend, Or.inr ⟨T.heap.size, rfl, cls, ce, locs, hx U hWs.alike f1 (fun q hq => f2 q hq (fun z hz => nomatch hz)), hce, hO.vm, hcl, hWs, hall, hf⟩⟩
  refine st1 _ ?_
  show Steps p.tables e below (T1.setTop { method := m, pc := pc + 3, locals := ls, stack := .ref T.heap.size :: rest, locked := none }) _
  jvm_step X₁.here [X₁.here.top, hexec, d3', Value.category]
  exact X₁.ldcString hexec (own := own) (text := text) (index := is) (a := sa) hown' hstr'.1 hstr'.2
    (g := { method := m, pc := pc + 4, locals := ls, stack := .ref T.heap.size :: .ref T.heap.size :: rest, locked := none }) rfl d4' _ hsteps
/-- 'throw new E("text")', the text by a wide index -/
theorem vx_throwSW {cc : ByteArray} {pc : Nat} (hexec : p.tables.exec = Jvm.exec) (hb : c.code = cc) (hl : l.stackTraces = false) {own cls text : String} {names : List String} {ik is ic mc ms sa : Nat} {A : Nat → Prop}
    (hown : s.vm.findClass own = some m.cls) (hcls : Bundle.fit cls = true) (hnames : ∀ n ∈ names, Bundle.fit n = true)
    (hk : (Cond.classLink own ik cls).before args s = true) (hini : (Cond.initialized cls).before args s = true) (hstr : vk_R own is text sa s) (hat : ∀ w ∈ vx_atS own ic cls names, w.before args s = true)
    (hgood : ∀ w ∈ Cond.classLink own ik cls :: Cond.initialized cls :: vx_atS own ic cls names, vx_ot w = true)
    (hU : vx_Zq Bundle.tN "UNASSIGNED_STACK" Bundle.steD A s s.heap) (hN : vx_Zq Bundle.tN "SUPPRESSED_SENTINEL" Bundle.listD A s s.heap) (hS : va_S A s.heap H locs) (hsize : ls.size = c.maxLocals)
    (d0 : decode cc pc = .ok (.new ik, 3)) (d3 : decode cc (pc + 3) = .ok (.dup, 1)) (d4 : decode cc (pc + 4) = .ok (.ldc_w is, 3)) (d7 : decode cc (pc + 7) = .ok (.invokespecial ic, 3)) (d10 : decode cc (pc + 10) = .ok (.athrow, 1))
    (hout : ∀ x ∈ c.exceptionTable.toList, covers x (pc + 10) = false)
    (hRframes : names.length + 3 < R.frames) (hRlocals : (rest.map fun v => v.category).sum + (13 * (names.length + 1) + 43) ≤ R.locals) (hRcells : cells + 1 ≤ R.cells) (hRslots : slots + 6 ≤ R.slots) (hlocks : meth.locks = false)
    (hx : ∀ t : State, s.vm.Alike t.vm → H.size ≤ t.heap.size → (∀ q : Nat, q < H.size → t.heap[q]? = H[q]?) → XC cls s t)
    (hf : ∀ z ∈ locs, free z.base) (hc : cells + 1 ≤ mc) (hs : slots + 6 ≤ ms) :
    W p l e R s m args below meth c H locs cells slots (vx_MQ below Qc XC args s mc ms free) (F0 m pc ls rest) := by
  intro T hT X
  have htr : e.platform.stackTraces = false := (show e.platform.stackTraces = l.stackTraces by rw [X.admits.platform]).trans hl
  have Y := vx_rebase X (R' := { frames := R.frames, locals := R.locals, cells := 1, slots := 6 }) (Nat.le_refl _) (Nat.le_refl _) hRcells hRslots
  obtain ⟨s', hA⟩ : ∃ z, z = (T.setVm s.vm).setFrames (.invoking m args :: below) := ⟨_, rfl⟩
  rw [← hA] at Y
  have hvm : s'.vm = s.vm := by rw [hA]; rfl
  have hhp : s'.heap = H := by rw [hA]; exact hT
  have hW0 : s.WarmedH s'.vm := by rw [hvm]; exact State.WarmedH.refl s
  have hat' : ∀ w ∈ vx_atS own ic cls names, w.before args s' = true := fun w hw => vx_ot_at hW0 hvm.symm (hgood w (List.mem_cons_of_mem _ (List.mem_cons_of_mem _ hw))) (hat w hw)
  have hk' : (Cond.classLink own ik cls).before args s' = true := vx_ot_at hW0 hvm.symm (hgood _ List.mem_cons_self) hk
  have hini' : (Cond.initialized cls).before args s' = true := vx_ot_at hW0 hvm.symm (hgood _ (List.mem_cons_of_mem _ List.mem_cons_self)) hini
  have hU' : vx_Zq Bundle.tN "UNASSIGNED_STACK" Bundle.steD A s' s'.heap := by rw [hhp]; exact vx_Zq.moved hW0.alike (hU.kept hS.2.1)
  have hN' : vx_Zq Bundle.tN "SUPPRESSED_SENTINEL" Bundle.listD A s' s'.heap := by rw [hhp]; exact vx_Zq.moved hW0.alike (hN.kept hS.2.1)
  have h : ∀ w ∈ Bundle.ownAtoms own ic cls names, w.before args s' = true := vx_own hat' (vx_isRefq hU'.1) (vx_isRefq hN'.1) hU'.2.word hN'.2.word
  have hown' : s'.vm.findClass own = some m.cls := by rw [hvm]; exact hown
  have hins : (Cond.instantiable cls 6).before args s' = true := h _ (by simp [Bundle.ownAtoms])
  obtain ⟨vm₁, cX, kX, hfX, hkX, -, -, X₁, st1⟩ := Y.newCold hexec (own := own) (C := cls) (index := ik) (n := 6) hown' hk' hins hini'
    (g := F0 m pc ls rest) rfl (by rw [hb]; exact d0) (Nat.le_refl _) (Nat.le_refl _)
  generalize hT1 : (T.setVm vm₁).pushCell { cls := cX, slots := kX.instanceTypes.map defaultValue, vm := .none } = T1 at X₁ st1
  have hcat : (Value.ref T.heap.size).category = 1 := rfl
  have hcellA : T1.heap[T.heap.size]? = some (freshCell cX kX) := by rw [← hT1]; exact State.heap_pushCell_size _ _
  have d3' : decode c.code (pc + 3) = .ok (.dup, 1) := by rw [hb]; exact d3
  have d4' : decode c.code (pc + 4) = .ok (.ldc_w is, 3) := by rw [hb]; exact d4
  have hstr' : vk_R own is text sa s' := vk_R.warm hW0 hstr
  obtain ⟨U, hsteps, hrun, hend, hW, hsame, ce, hce, hO⟩ := X₁.ctorThrowS hexec htr (own := own) (cls := cls) (names := names) (ic := ic) hown' hcls hnames h (fun x hx => nomatch hx) hfX hkX hcellA (by rw [hhp, hT]; exact Nat.le_refl _) (msg := .ref sa) rfl
    (g := { method := m, pc := pc + 7, locals := ls, stack := .ref sa :: .ref T.heap.size :: .ref T.heap.size :: rest, locked := none }) rfl hsize rfl rfl (rest := rest) rfl
    (by rw [hb]; exact d7) (by rw [hb]; exact d10) hout hRframes (by simp only [List.map_cons, List.sum_cons, hcat]; omega) hlocks
  obtain ⟨f1, f2⟩ := vx_frame hsame
  rw [hhp] at f1 f2
  have hWs : s.WarmedH U.vm := State.WarmedH.trans hW0 hW
  have hcl : s.vm.findClass cls = some ce.cls := by
    have h9 := hO.cls
    rw [hvm] at h9
    exact h9
  have hall : s.sameButNew ({ U with vm := s.vm } : State) locs mc ms := by
    subst hA
    obtain ⟨e1, e2⟩ := hsame
    rw [State.setFrames_setFrames] at e1
    have h2 : (T.setVm s.vm).sameButNew ({ U with vm := s.vm } : State) [] (0 + 1) (0 + 6) := ⟨e1, e2⟩
    have h3 := X.same.trans h2
    rw [List.append_nil] at h3
    exact h3.mono hc hs
  refine ⟨U, ?_, .threw T.heap.size, hrun, hend, Or.inr ⟨T.heap.size, rfl, cls, ce, locs, hx U hWs.alike f1 (fun q hq => f2 q hq (fun z hz => nomatch hz)), hce, hO.vm, hcl, hWs, hall, hf⟩⟩
  refine st1 _ ?_
  show Steps p.tables e below (T1.setTop { method := m, pc := pc + 3, locals := ls, stack := .ref T.heap.size :: rest, locked := none }) _
  jvm_step X₁.here [X₁.here.top, hexec, d3', Value.category]
  exact X₁.ldcStringW hexec (own := own) (text := text) (index := is) (a := sa) hown' hstr'.1 hstr'.2
    (g := { method := m, pc := pc + 4, locals := ls, stack := .ref T.heap.size :: .ref T.heap.size :: rest, locked := none }) rfl d4' _ hsteps
end Ends
section Bodies
variable {l : Launch}
theorem vx_ofW {y : MethodName} {ws ws' : List Cond} {rm : Room} {Pc : Array Value → State → Prop} {Qc : Array Value → State → Outcome → State → Prop} {XC : String → State → State → Prop} {mc ms : Nat} {free : Addr → Prop} {cc : ByteArray} {maxL : Nat} {ret : Option FieldType}
    (hy : plainName y.cls = true) (hw : ws = Cond.code y cc maxL ret :: ws')
    (body : ∀ p e s m args below meth c s₁, BodyLoose p l y (headSpec ws rm) cc maxL ret e s m args below meth c s₁ → c.maxLocals = maxL → (∀ x ∈ c.exceptionTable.toList, False) → Pc args s →
      W p l e (headSpec ws rm).room s m args below meth c s.heap [] 0 0 (vx_MQ below Qc XC args s mc ms free) (entryFrame m args maxL)) : vx_Met l y ws rm Pc Qc XC mc ms free := by
  refine MetFree.of_bodyS (code := cc) (maxLocals := maxL) (ret := ret) hy ?_ ?_
  · intro args s m h hn
    obtain ⟨meth, c, h1, h2, h3, h4, h5, h6, -, -⟩ := Cond.code_spec hn (atoms_spec (ws := ws) h _ (by rw [hw]; exact List.mem_cons_self))
    exact ⟨meth, c, h1, h2, h3, h4, h5, h6⟩
  · intro p e s m args below meth c s₁ B hml hP _
    have hh0 : s₁.heap = s.heap := by rw [B.state]; rfl
    have ht : ∀ x ∈ c.exceptionTable.toList, False := by
      obtain ⟨meth9, c9, h1, h2, -, -, -, -, h7, -⟩ := Cond.code_spec B.named (atoms_spec (ws := ws) B.pre _ (by rw [hw]; exact List.mem_cons_self))
      cases Option.some.inj (h1.symm.trans B.method)
      cases Option.some.inj (h2.symm.trans (Stand.of_body B).code)
      intro x hx
      rw [Array.isEmpty_iff.mp h7] at hx
      cases hx
    obtain ⟨t, a1, o, b1, b2, b3⟩ := body p e s m args below meth c s₁ B hml ht hP s₁ hh0 (Stand.of_body B)
    exact ⟨t, o, a1, b1, b2, b3⟩
/-- the table of a body with handlers -/
theorem vx_table {p : Program} {x y : MethodName} {S : Spec} {cc bytes : ByteArray} {maxL maxL' : Nat} {ret ret' : Option FieldType} {e : Env} {s s₁ : State} {m : MethodId} {args : Array Value} {below : List Frame} {meth : Method} {c : Code} {hh : List (Nat × Nat × Nat × Nat)}
    (B : BodyLoose p l y S cc maxL ret e s m args below meth c s₁) (h : (Cond.codeWith y bytes maxL' ret' hh).before args s = true) : c.exceptionTable.toList = tableOf hh := by
  obtain ⟨m9, meth9, c9, hn9, h1, h2, -, -, h6, -⟩ := Cond.codeWith_spec h
  cases Option.some.inj (hn9.symm.trans B.named)
  cases Option.some.inj (h1.symm.trans B.method)
  cases Option.some.inj (h2.symm.trans (Stand.of_body B).code)
  rw [← h6, table_eq]
end Bodies
end VXA
/-! ===== END ===== -/
/-! ===== BEGIN a static call of a method with an exception table ===== -/
section VXS
variable {p : Program} {l : Launch} {e : Env} {R : Room} {s : State} {m : MethodId} {args : Array Value} {below : List Frame} {meth : Method} {c : Code} {T : State} {H : Heap} {locs : List Loc} {cells slots : Nat}
abbrev vx_CSW (R : Room) (s : State) (args : Array Value) (own : String) (index : Nat) (y : MethodName) (bytes : ByteArray) (maxL : Nat) (ret : Option FieldType) (hh : List (Nat × Nat × Nat × Nat)) (ws : List Cond) (rm : Room) (mc ms n : Nat) : Prop :=
  (rm.cells = mc ∧ rm.slots = ms ∧ rm.frames + 1 ≤ R.frames ∧ 8 + (maxL + 11) + rm.locals ≤ R.locals ∧ (∀ w ∈ ws, ∀ (a' : Array Value) (U : State), s.WarmedH U.vm → w.before a' U = true) ∧ Cond.codeWith y bytes maxL ret hh ∈ ws) ∧
  (Cond.codeWith y bytes maxL ret hh).before args s = true ∧ (Cond.initialized y.cls).before args s = true ∧ (y.cls ≠ "java/lang/invoke/MethodHandle" ∧ y.cls ≠ "java/lang/invoke/VarHandle") ∧
  (∀ sig, parseMethodDescriptor y.desc = some sig → n = sig.parameters.length) ∧ (Cond.methodLink own index y).before args s = true ∧ (Cond.static y).before args s = true
theorem vx_cwSW {own : String} {index maxL mc ms : Nat} {y : MethodName} {bytes : ByteArray} {ret : Option FieldType} {hh : List (Nat × Nat × Nat × Nat)} {Ts ws ws' : List Cond} {rm : Room} (n : Nat) (ht : ∀ w ∈ Ts, w.before args s = true) (hT : GoodIn Ts (va_wsS own index y ws)) (hw : ws = Cond.codeWith y bytes maxL ret hh :: ws') (hrc : rm.cells = mc) (hrs : rm.slots = ms)
    (hd : y.cls ≠ "java/lang/invoke/MethodHandle" ∧ y.cls ≠ "java/lang/invoke/VarHandle" ∧ (parseMethodDescriptor y.desc).map (fun d => d.parameters.length) = some n) (hR : rm.frames + 1 ≤ R.frames ∧ 8 + (maxL + 11) + rm.locals ≤ R.locals) :
    vx_CSW R s args own index y bytes maxL ret hh ws rm mc ms n := by
  have ok : ∀ w ∈ va_wsS own index y ws, w.before args s = true := fun w h => ht w (hT w h).1
  have hG : GoodIn Ts ws := fun w h => hT w (by unfold va_wsS; exact List.mem_append_right _ h)
  have hc : Cond.codeWith y bytes maxL ret hh ∈ ws := by rw [hw]; exact List.mem_cons_self
  refine ⟨⟨hrc, hrs, hR.1, hR.2, pay_in ht hG, hc⟩, ht _ (hG _ hc).1, ok _ (by simp [va_wsS]), ⟨hd.1, hd.2.1⟩, fun sig h => ?_, ok _ (by simp [va_wsS]), ok _ (by simp [va_wsS])⟩
  have h2 := hd.2.2
  rw [h] at h2
  exact (Option.some.inj h2).symm
theorem vx_callSW (X : Stand p l e R s m args below meth c T locs cells slots) (hexec : p.tables.exec = Jvm.exec) {own : String} {index : Nat} {y : MethodName} {bytes : ByteArray} {maxL : Nat} {ret : Option FieldType} {hh : List (Nat × Nat × Nat × Nat)}
    (hown : s.vm.findClass own = some m.cls) (hlink : (Cond.methodLink own index y).before args s = true) (hstat : (Cond.static y).before args s = true) (hinit : (Cond.initialized y.cls).before args s = true)
    (hcode : (Cond.codeWith y bytes maxL ret hh).before args s = true) (hy : y.cls ≠ "java/lang/invoke/MethodHandle" ∧ y.cls ≠ "java/lang/invoke/VarHandle")
    {W9 : Nat} {Pre : Pt → Array Value → Prop} {Post : Pt → Array Value → Option Value → Pt → Prop} (hK : Back l R p e below s args y 3 W9 Pre Post)
    {g : JFrame} (hg : g.method = m) (hsize : g.locals.size = c.maxLocals) {argsL rest : List Value} (hlen : ∀ sig, parseMethodDescriptor y.desc = some sig → argsL.length = sig.parameters.length)
    (hstack : g.stack = argsL.reverse ++ rest) (hW : 2 * g.monitorRoom + (rest.map fun v => v.category).sum ≤ W9) (hdg : decode c.code g.pc = .ok (.invokestatic index, 3))
    (hpre : ∀ vm₁, s.WarmedH vm₁ → Pre ⟨T.setVm vm₁, locs, cells, slots⟩ argsL.toArray) :
    ∃ (v : Option Value) (vm₁ : Vm) (B : Pt), s.WarmedH vm₁ ∧ Stand p l e R s m args below meth c B.U B.locs B.cells B.slots ∧ Post ⟨T.setVm vm₁, locs, cells, slots⟩ argsL.toArray v B ∧
      ∀ target, Steps p.tables e below (B.U.setTop { g with pc := g.pc + 3, stack := v.toList ++ rest }) target → Steps p.tables e below (T.setTop g) target := by
  obtain ⟨mk, methM, cM, hnamed, hmethM, -, -, -, -, -, -, hsigM⟩ := Cond.codeWith_spec hcode
  have hstatic : methM.isStatic = true := Cond.static_spec hnamed hmethM hstat
  obtain ⟨kP, hkP, -⟩ := className_of_methodNamed hnamed
  have hinitP : kP.init = .initialized := Cond.initialized_spec (findClass_of_methodNamed hnamed) hkP hinit
  obtain ⟨vm₁, X₁, hstep₁⟩ := X.invokestatic hexec hown hlink hnamed hmethM hstatic hkP hinitP hy (g := g) hg (argsL := argsL) (rest := rest) (hlen _ hsigM) hstack hdg
  obtain ⟨v, B, X', hpost, hsteps⟩ := hK m meth c ⟨T.setVm vm₁, locs, cells, slots⟩ { g with stack := rest } (.invokestatic index) mk argsL.toArray X₁ hg hsize hdg hW (X₁.named hnamed) (hpre vm₁ X₁.warmed)
  exact ⟨v, vm₁, B, X₁.warmed, X', hpost, fun target h => hstep₁ _ fun acts => by rw [doInvoke_state]; exact hsteps.trans h⟩
theorem vx_runSW {y : MethodName} {bytes cc : ByteArray} {maxL nL mc ms n index : Nat} {ret : Option FieldType} {hh : List (Nat × Nat × Nat × Nat)} {ws : List Cond} {rm : Room} {Pc : Array Value → State → Prop} {Qc : Array Value → State → Outcome → State → Prop} {free : Addr → Prop} {Ts : List Cond} {own : String} {As rest : List Value} {g : JFrame}
    (S : CallFix p m c cc nL s args Ts own) (hM : Met l y ws rm Pc Qc mc ms free) (cw : vx_CSW R s args own index y bytes maxL ret hh ws rm mc ms n) (hp : PreS s H Pc As)
    (hg : g.method = m) (hn : As.length = n) (hsize : g.locals.size = nL) (hstack : g.stack = As.reverse ++ rest) (hW : 2 * g.monitorRoom + (rest.map fun v => v.category).sum ≤ 8) (hdg : decode cc g.pc = .ok (.invokestatic index, 3)) (hf : cells + mc ≤ R.cells ∧ slots + ms ≤ R.slots) :
    va_Run p l e R s m args below meth c H locs cells slots mc ms g rest (Qc As.toArray) (free) := by
  obtain ⟨⟨hrc, hrs, hfr, hlo, hws, hcw⟩, hcode, hini, hy, hlen, hl, hstt⟩ := cw
  have hK : Back l R p e below s args y 3 8 (PreOf R mc ms Pc) (PostOf Qc mc ms free) := va_backW (hh := hh) (bytes := bytes) (maxL := maxL) (ret := ret) hM hp.1 hrc hrs hfr hlo hws hcw (fun a' U hW => word_at hW (Or.inl (by first | rfl | simp [Cond.onTables, Cond.keeps, Cond.steady])) hini)
  obtain ⟨hx, hb, hml, ho, -⟩ := S
  intro T hT X
  obtain ⟨v, vm₁, ⟨U', l2, c2, s2⟩, hW₁, X', ⟨g', mk, t, L, e1, e2, hq, h1, hL, h2, h3⟩, st⟩ := vx_callSW X hx (hh := hh) (bytes := bytes) (maxL := maxL) (ret := ret) ho hl hstt hini hcode hy hK hg (hsize.trans hml.symm) (argsL := As) (rest := rest) (fun sig h => hn.trans (hlen sig h)) hstack hW (by rw [hb]; exact hdg)
    (fun vm₁ hW₁ => ⟨hf.1, hf.2, hp.2 (T.setVm vm₁) hT hW₁⟩)
  dsimp only [Pt.U, Pt.locs, Pt.cells, Pt.slots] at X' e1 e2 h1 h2 h3 st
  subst h1; subst h2; subst h3
  exact ⟨v, (T.setVm vm₁).calling g' mk As.toArray, t, U', L, hT, X', hL, e1, e2, hq, st⟩
/-- not caught here, past rows that name other classes: it goes on to the caller -/
theorem vx_outP {p : Program} {l : Launch} {e : Env} {R : Room} {s : State} {m : MethodId} {args : Array Value} {below : List Frame} {meth : Method} {c : Code} {H : Heap} {locs : List Loc} {cells slots : Nat} {free : Addr → Prop} {ls : Array Slot} {rest : List Value} {Qc : Array Value → State → Outcome → State → Prop} {XC : String → State → State → Prop}
    {pc : Nat} {own E : String} {ce : Cell} {q : Addr} {mc ms : Nat} (hown : s.vm.findClass own = some m.cls) (hlocks : meth.locks = false)
    (hpass : ∀ z ∈ c.exceptionTable.toList, covers z pc = false ∨ (z.catchType ≠ 0 ∧ ∃ nm : String, (Cond.classLink own z.catchType nm).before args s = true ∧ va_Nc E nm s)) (hcell : H[q]? = some ce) (hv : ce.vm = .none) (hcl : s.vm.findClass E = some ce.cls)
    (hx : ∀ t : State, t.heap = H → s.vm.Alike t.vm → XC E s t) (hf : ∀ z ∈ locs, free z.base) (hc : cells ≤ mc) (hs : slots ≤ ms) :
    vx_W p l e R s m args below meth c H locs cells slots (vx_MQ below Qc XC args s mc ms free) (F0 m pc ls rest) q := by
  intro T hT X
  have hpl : e.platform.magicAccessors = ({} : Platform).magicAccessors := by rw [X.admits.platform]
  obtain ⟨vm', hW', X', st⟩ := X.outThrough hlocks q (g := F0 m pc ls rest) rfl rfl rfl (cell := ce) (by rw [hT]; exact hcell) (by rw [hv]; rfl)
    (by obtain ⟨k9, h9, -⟩ := Vm.findClass_spec hcl; exact ⟨k9, h9⟩) (fun z hz => by
      rcases hpass z hz with h | ⟨hz0, nm, hl1, hn1⟩
      · exact Or.inl h
      · obtain ⟨c6, hc6, hcl6⟩ := Cond.classLink_spec hown hl1 e.platform hpl
        obtain ⟨a8, b8, h1, h2, h3⟩ := hn1
        cases Option.some.inj (h1.symm.trans hcl)
        cases Option.some.inj (h2.symm.trans hc6)
        exact Or.inr ⟨hz0, _, hcl6, h3⟩)
  obtain ⟨g₀, hfr⟩ := X'.frames_eq
  have hcell9 : ((T.setVm vm').setFrames (.throwing q :: below)).heap[q]? = some ce := by
    show T.heap[q]? = some ce
    rw [hT]; exact hcell
  have hend : Ended ((T.setVm vm').setFrames (.throwing q :: below)) below (.threw q) := State.frames_setFrames _ (State.cur_lt_of_frames hfr)
  refine ⟨(T.setVm vm').setFrames (.throwing q :: below), ?_, .threw q, X'.here.running, hend, Or.inr ⟨q, rfl, E, ce, locs, hx _ hT (X'.ends _).1.alike, hcell9, hv, hcl, (X'.ends _).1, (X'.ends _).2.mono hc hs, hf⟩⟩
  rw [X.pushThrowing_eq]
  exact st
/-- a thing of a world lies in the heap -/
theorem vx_lt {D : va_G} {cl : List vw_C} {ws : va_W} {H1 : Heap} (h : va_P D cl ws H1) {k : Nat} {q : Nat × va_E} (hk : ws[k]? = some q) : q.1 < H1.size := (h k q hk).lt
end VXS
/-! ===== END ===== -/
/-! ===== BEGIN methods with a table of their own: called by a name, returning or throwing ===== -/
section VXH
/-! vx_backW, vx_callVX, vx_callSX, vx_callVW, vx_runVW, vx_runVX, vx_runSX, vx_ofWH follow the same proofs as their sisters above (Free/Laws.lean, Shelf42/LK1.lean); vx_outP calls Shelf42/NT130.lean (outThrough). -/
section
variable {l : Launch} {R : Room} {p : Program} {e : Env} {below : List Frame} {s : State} {sargs : Array Value} {y : MethodName} {len W9 : Nat}
theorem vx_backW {ws : List Cond} {rm : Room} {Pc : Array Value → State → Prop} {Qc : Array Value → State → Outcome → State → Prop} {XC : String → State → State → Prop} {mc ms : Nat} {free : Addr → Prop} {bytes : ByteArray} {maxL : Nat} {ret : Option FieldType} {hh : List (Nat × Nat × Nat × Nat)}
    (hM : vx_Met l y ws rm Pc Qc XC mc ms free) (hblind : FrameBlind Pc) (hrc : rm.cells = mc) (hrs : rm.slots = ms)
    (hframes : rm.frames + 1 ≤ R.frames) (hlocals : W9 + (maxL + 11) + rm.locals ≤ R.locals)
    (hws : ∀ w ∈ ws, ∀ a' U, s.WarmedH U.vm → w.before a' U = true) (hcode : Cond.codeWith y bytes maxL ret hh ∈ ws) (hinit : ∀ a' U, s.WarmedH U.vm → (Cond.initialized y.cls).before a' U = true) :
    vx_Back l R p e below s sargs y len W9 (PreOf R mc ms Pc) (PostOf Qc mc ms free) (vx_Post XC mc ms free) := by
  intro m meth c A g ig mk a X hg hsize hdg hW hn hp
  have h1 : (headSpec ws rm).pre.before a A.U = true := atoms_intro fun w hw => hws w hw _ _ X.warmed
  have h2 : (Cond.codeWith y bytes maxL ret hh).before a A.U = true := hws _ hcode _ _ X.warmed
  have h3 : (Cond.initialized y.cls).before a A.U = true := hinit _ _ X.warmed
  have h4 : A.cells + (headSpec ws rm).room.cells ≤ R.cells := by rw [show (headSpec ws rm).room.cells = mc from hrc]; exact hp.1
  have h5 : A.slots + (headSpec ws rm).room.slots ≤ R.slots := by rw [show (headSpec ws rm).room.slots = ms from hrs]; exact hp.2.1
  have hPc : Pc a (A.U.calling g mk a) := hblind _ _ _ _ hp.2.2
  obtain ⟨U, Ls, c0, s0⟩ := A
  dsimp only [Pt.U, Pt.locs, Pt.cells, Pt.slots] at h1 h2 h3 h4 h5 X hn hPc ⊢
  obtain ⟨m9, methY, cY, hn9, hmY, hcY, -, hlY, -⟩ := Cond.codeWith_spec h2
  cases Option.some.inj (hn9.symm.trans hn)
  obtain ⟨kY, hkY, -⟩ := className_of_methodNamed hn
  have hinitY : kY.init = .initialized := Cond.initialized_spec (findClass_of_methodNamed hn) hkY h3
  have h : At U g.method c below := by rw [hg]; exact X.here
  have hlocals9 : W9 + (maxL + 11) + (headSpec ws rm).room.locals ≤ R.locals := hlocals
  have happ : (headSpec ws rm).appliesLoose y e.platform (U.calling g mk a) = true :=
    Spec.appliesLoose_calling (g := g) h hdg hn hkY hinitY
      (X.room_calling (g := g) (R' := (headSpec ws rm).room) hsize hmY hcY hframes (by rw [hlY]; omega) h4 h5) h1
  obtain ⟨mid, hmid⟩ := h.above
  have hfr : (U.setTop g).frames = (.java g :: mid) ++ below := by rw [State.frames_setTop' g h.top, hmid]; rfl
  obtain ⟨o, s₂, hsteps, -, hend, hq⟩ := Steps.callFree hM p X.admits X.cas X.clock (acts := []) hfr happ hPc trivial
  have hq' : vx_Q Qc XC mc ms free a (U.calling g mk a) o s₂ := hq
  rw [State.frames_setTop' g h.top] at hend
  obtain ⟨g₀, hg0⟩ := Option.isSome_iff_exists.mp h.top
  obtain ⟨r, hr⟩ := State.topJava?_eq_some.mp hg0
  have hr' : (({ U with heap := s₂.heap, slotsUsed := s₂.slotsUsed } : State).setVm s₂.vm).frames = .java g₀ :: r := hr
  rcases hq' with ⟨hqc, L, hfe, hL⟩ | ⟨q, rfl, E, ce, L, hx, hce, hcv, hcl, hW₂, hsm, hL⟩
  · obtain ⟨⟨v, rfl⟩, hW₂, e2, q2, q3, q4, q5, q6⟩ := id hfe
    have e3 : s₂ = ({ (U.calling g mk a).setFrames s₂.frames with heap := s₂.heap, slotsUsed := s₂.slotsUsed } : State).setVm s₂.vm := by
      have : s₂ = ({ s₂ with vm := (U.calling g mk a).vm } : State).setVm s₂.vm := rfl
      rw [e2] at this
      exact this
    obtain ⟨c₂, i₂, len₂, hc₂, hd₂, hf₂⟩ := hend
    have hW' : U.WarmedH s₂.vm := hW₂
    have hcc : c₂ = c := by
      have h1 : s₂.code? g.method = U.code? g.method := by
        rw [State.code?_eq, State.code?_eq, hW'.alike.method?]
      exact Option.some.inj (hc₂.symm.trans (h1.trans h.code))
    subst hcc
    have hlen : len₂ = len := by rw [hdg] at hd₂; cases hd₂; rfl
    subst hlen
    have hs₂ : s₂ = (({ U with heap := s₂.heap, slotsUsed := s₂.slotsUsed } : State).setVm s₂.vm).setTop { g with pc := g.pc + len₂, stack := v.toList ++ g.stack } := by
      refine e3.trans ?_
      rw [hf₂, State.calling_eq h.top, State.setFrames_setFrames, State.setTop_of_frames _ hr', hr]
      rfl
    have hsame : U.sameButNew ({ U with heap := s₂.heap, slotsUsed := s₂.slotsUsed } : State) L mc ms := by
      refine ⟨?_, q2, q3, q4, q5, q6⟩
      obtain ⟨t, ht, -⟩ := State.frames_cons hr
      show ({ U with heap := s₂.heap, slotsUsed := s₂.slotsUsed } : State) = { U.setFrames U.frames with heap := s₂.heap, slotsUsed := s₂.slotsUsed }
      rw [State.setFrames_self ht]
    subst hg
    refine Or.inl ⟨v, ⟨(({ U with heap := s₂.heap, slotsUsed := s₂.slotsUsed } : State).setVm s₂.vm), Ls ++ L, c0 + mc, s0 + ms⟩,
      ⟨X.admits, X.cas, X.clock, X.frames, X.room, X.hears, X.method, X.code, (X.here.setHeapUsed s₂.heap s₂.slotsUsed).setVm hW'.alike, X.tail, State.WarmedH.trans X.warmed hW', X.limits, X.bytes, X.same.trans (hsame.setVm s.vm)⟩,
      ⟨g, mk, s₂, L, rfl, rfl, hqc, rfl, hL, rfl, rfl⟩, ?_⟩
    show Steps p.tables e below _ ((({ U with heap := s₂.heap, slotsUsed := s₂.slotsUsed } : State).setVm s₂.vm).setTop { g with pc := g.pc + len₂, stack := v.toList ++ g.stack })
    rw [← hs₂]
    exact hsteps
  · obtain ⟨e2, q2, q3, q4, q5, q6⟩ := id hsm
    have e3 : s₂ = ({ (U.calling g mk a).setFrames s₂.frames with heap := s₂.heap, slotsUsed := s₂.slotsUsed } : State).setVm s₂.vm := by
      have : s₂ = ({ s₂ with vm := (U.calling g mk a).vm } : State).setVm s₂.vm := rfl
      rw [e2] at this
      exact this
    have hf₂ : s₂.frames = .throwing q :: .java g :: U.frames.tail := hend
    have hW' : U.WarmedH s₂.vm := hW₂
    have hs₂ : s₂ = ((({ U with heap := s₂.heap, slotsUsed := s₂.slotsUsed } : State).setVm s₂.vm).setTop g).pushFrame (.throwing q) := by
      refine e3.trans ?_
      rw [hf₂, State.calling_eq h.top, State.setFrames_setFrames, State.pushFrame, State.frames_setTop _ hr', State.setTop_of_frames _ hr', State.setFrames_setFrames, hr]
      rfl
    have hsame : U.sameButNew ({ U with heap := s₂.heap, slotsUsed := s₂.slotsUsed } : State) L mc ms := by
      refine ⟨?_, q2, q3, q4, q5, q6⟩
      obtain ⟨t, ht, -⟩ := State.frames_cons hr
      show ({ U with heap := s₂.heap, slotsUsed := s₂.slotsUsed } : State) = { U.setFrames U.frames with heap := s₂.heap, slotsUsed := s₂.slotsUsed }
      rw [State.setFrames_self ht]
    subst hg
    refine Or.inr ⟨q, ⟨(({ U with heap := s₂.heap, slotsUsed := s₂.slotsUsed } : State).setVm s₂.vm), Ls ++ L, c0 + mc, s0 + ms⟩,
      ⟨X.admits, X.cas, X.clock, X.frames, X.room, X.hears, X.method, X.code, (X.here.setHeapUsed s₂.heap s₂.slotsUsed).setVm hW'.alike, X.tail, State.WarmedH.trans X.warmed hW', X.limits, X.bytes, X.same.trans (hsame.setVm s.vm)⟩,
      ⟨g, mk, s₂, L, E, ce, rfl, rfl, hx, hce, hcv, hcl, rfl, hL, rfl, rfl⟩, ?_⟩
    show Steps p.tables e below _ (((({ U with heap := s₂.heap, slotsUsed := s₂.slotsUsed } : State).setVm s₂.vm).setTop g).pushFrame (.throwing q))
    rw [← hs₂]
    exact hsteps
end
variable {p : Program} {l : Launch} {e : Env} {R : Room} {s : State} {m : MethodId} {args : Array Value} {below : List Frame} {meth : Method} {c : Code} {T : State} {H : Heap} {locs : List Loc} {cells slots : Nat}
theorem vx_callVX (X : Stand p l e R s m args below meth c T locs cells slots) (hexec : p.tables.exec = Jvm.exec) {own C : String} {index : Nat} {y : MethodName} {bytes : ByteArray} {maxL : Nat} {ret : Option FieldType} {hh : List (Nat × Nat × Nat × Nat)}
    (hown : s.vm.findClass own = some m.cls) (hlink : (Cond.methodLink own index y).before args s = true) (hinst : (Cond.instanceMethod y).before args s = true) (hsel : (Cond.selects C y y).before args s = true)
    (hcode : (Cond.codeWith y bytes maxL ret hh).before args s = true) (hy : y.cls ≠ "java/lang/invoke/MethodHandle" ∧ y.cls ≠ "java/lang/invoke/VarHandle")
    {W9 : Nat} {Pre : Pt → Array Value → Prop} {Post : Pt → Array Value → Option Value → Pt → Prop} {PostX : Pt → Array Value → Addr → Pt → Prop} (hK : vx_Back l R p e below s args y 3 W9 Pre Post PostX)
    {b : Addr} {cellB : Cell} (hcell : T.heap[b]? = some cellB) (hobj : cellB.vm.isStatics = false) (hcls : s.vm.findClass C = some cellB.cls)
    {g : JFrame} (hg : g.method = m) (hsize : g.locals.size = c.maxLocals) {argsL rest : List Value} (hlen : ∀ sig, parseMethodDescriptor y.desc = some sig → argsL.length = sig.parameters.length)
    (hstack : g.stack = argsL.reverse ++ .ref b :: rest) (hW : 2 * g.monitorRoom + (rest.map fun v => v.category).sum ≤ W9) (hdg : decode c.code g.pc = .ok (.invokevirtual index, 3))
    (hpre : ∀ vm₁, s.WarmedH vm₁ → Pre ⟨T.setVm vm₁, locs, cells, slots⟩ (Value.ref b :: argsL).toArray) :
    (∃ (v : Option Value) (vm₁ : Vm) (B : Pt), s.WarmedH vm₁ ∧ Stand p l e R s m args below meth c B.U B.locs B.cells B.slots ∧ Post ⟨T.setVm vm₁, locs, cells, slots⟩ (Value.ref b :: argsL).toArray v B ∧
      ∀ target, Steps p.tables e below (B.U.setTop { g with pc := g.pc + 3, stack := v.toList ++ rest }) target → Steps p.tables e below (T.setTop g) target) ∨
    (∃ (q : Addr) (vm₁ : Vm) (B : Pt), s.WarmedH vm₁ ∧ Stand p l e R s m args below meth c B.U B.locs B.cells B.slots ∧ PostX ⟨T.setVm vm₁, locs, cells, slots⟩ (Value.ref b :: argsL).toArray q B ∧
      Steps p.tables e below (T.setTop g) ((B.U.setTop { g with stack := rest }).pushFrame (.throwing q))) := by
  obtain ⟨mk, methM, hnamed, hmethM, hstM, habM⟩ := Cond.instanceMethod_spec hinst
  obtain ⟨m8, methM', cM, hn8, hmethM', -, -, -, -, -, -, hsigM⟩ := Cond.codeWith_spec hcode
  cases Option.some.inj (hn8.symm.trans hnamed)
  cases hmethM.symm.trans hmethM'
  obtain ⟨c2, r2, m2, q1, q2, q3, q4, kP, hkP, hkPi⟩ := Cond.selects_spec hsel
  cases hcls.symm.trans q1
  cases (State.methodFound?_of_named hnamed hy).symm.trans q2
  cases hnamed.symm.trans q3
  have hselP : selectMethod e.platform s.vm cellB.cls mk = .method mk := by rw [Launch.admits_selectMethod X.admits]; exact q4
  obtain ⟨vm₁, X₁, hstep₁⟩ := X.invokevirtual hexec hown hlink hnamed hmethM hstM hkP hkPi hy (a := b) (cell := cellB) hcell
    (fun z h => by rw [h] at hobj; cases hobj) hselP hmethM habM hkP hkPi (g := g) hg (argsL := argsL) (rest := rest) (hlen _ hsigM) hstack hdg
  rcases hK m meth c ⟨T.setVm vm₁, locs, cells, slots⟩ { g with stack := rest } (.invokevirtual index) mk (Value.ref b :: argsL).toArray X₁ hg hsize hdg hW (X₁.named hnamed) (hpre vm₁ X₁.warmed) with ⟨v, B, X', hpost, hsteps⟩ | ⟨q, B, X', hpost, hsteps⟩
  · exact Or.inl ⟨v, vm₁, B, X₁.warmed, X', hpost, fun target h => hstep₁ _ fun acts => by rw [doInvoke_state]; exact hsteps.trans h⟩
  · exact Or.inr ⟨q, vm₁, B, X₁.warmed, X', hpost, hstep₁ _ fun acts => by rw [doInvoke_state]; exact hsteps⟩
theorem vx_callSX (X : Stand p l e R s m args below meth c T locs cells slots) (hexec : p.tables.exec = Jvm.exec) {own : String} {index : Nat} {y : MethodName} {bytes : ByteArray} {maxL : Nat} {ret : Option FieldType} {hh : List (Nat × Nat × Nat × Nat)}
    (hown : s.vm.findClass own = some m.cls) (hlink : (Cond.methodLink own index y).before args s = true) (hstat : (Cond.static y).before args s = true) (hinit : (Cond.initialized y.cls).before args s = true)
    (hcode : (Cond.codeWith y bytes maxL ret hh).before args s = true) (hy : y.cls ≠ "java/lang/invoke/MethodHandle" ∧ y.cls ≠ "java/lang/invoke/VarHandle")
    {W9 : Nat} {Pre : Pt → Array Value → Prop} {Post : Pt → Array Value → Option Value → Pt → Prop} {PostX : Pt → Array Value → Addr → Pt → Prop} (hK : vx_Back l R p e below s args y 3 W9 Pre Post PostX)
    {g : JFrame} (hg : g.method = m) (hsize : g.locals.size = c.maxLocals) {argsL rest : List Value} (hlen : ∀ sig, parseMethodDescriptor y.desc = some sig → argsL.length = sig.parameters.length)
    (hstack : g.stack = argsL.reverse ++ rest) (hW : 2 * g.monitorRoom + (rest.map fun v => v.category).sum ≤ W9) (hdg : decode c.code g.pc = .ok (.invokestatic index, 3))
    (hpre : ∀ vm₁, s.WarmedH vm₁ → Pre ⟨T.setVm vm₁, locs, cells, slots⟩ argsL.toArray) :
    (∃ (v : Option Value) (vm₁ : Vm) (B : Pt), s.WarmedH vm₁ ∧ Stand p l e R s m args below meth c B.U B.locs B.cells B.slots ∧ Post ⟨T.setVm vm₁, locs, cells, slots⟩ argsL.toArray v B ∧
      ∀ target, Steps p.tables e below (B.U.setTop { g with pc := g.pc + 3, stack := v.toList ++ rest }) target → Steps p.tables e below (T.setTop g) target) ∨
    (∃ (q : Addr) (vm₁ : Vm) (B : Pt), s.WarmedH vm₁ ∧ Stand p l e R s m args below meth c B.U B.locs B.cells B.slots ∧ PostX ⟨T.setVm vm₁, locs, cells, slots⟩ argsL.toArray q B ∧
      Steps p.tables e below (T.setTop g) ((B.U.setTop { g with stack := rest }).pushFrame (.throwing q))) := by
  obtain ⟨mk, methM, cM, hnamed, hmethM, -, -, -, -, -, -, hsigM⟩ := Cond.codeWith_spec hcode
  have hstatic : methM.isStatic = true := Cond.static_spec hnamed hmethM hstat
  obtain ⟨kP, hkP, -⟩ := className_of_methodNamed hnamed
  have hinitP : kP.init = .initialized := Cond.initialized_spec (findClass_of_methodNamed hnamed) hkP hinit
  obtain ⟨vm₁, X₁, hstep₁⟩ := X.invokestatic hexec hown hlink hnamed hmethM hstatic hkP hinitP hy (g := g) hg (argsL := argsL) (rest := rest) (hlen _ hsigM) hstack hdg
  rcases hK m meth c ⟨T.setVm vm₁, locs, cells, slots⟩ { g with stack := rest } (.invokestatic index) mk argsL.toArray X₁ hg hsize hdg hW (X₁.named hnamed) (hpre vm₁ X₁.warmed) with ⟨v, B, X', hpost, hsteps⟩ | ⟨q, B, X', hpost, hsteps⟩
  · exact Or.inl ⟨v, vm₁, B, X₁.warmed, X', hpost, fun target h => hstep₁ _ fun acts => by rw [doInvoke_state]; exact hsteps.trans h⟩
  · exact Or.inr ⟨q, vm₁, B, X₁.warmed, X', hpost, hstep₁ _ fun acts => by rw [doInvoke_state]; exact hsteps⟩
theorem vx_callVW (X : Stand p l e R s m args below meth c T locs cells slots) (hexec : p.tables.exec = Jvm.exec) {own C : String} {index : Nat} {y : MethodName} {bytes : ByteArray} {maxL : Nat} {ret : Option FieldType} {hh : List (Nat × Nat × Nat × Nat)}
    (hown : s.vm.findClass own = some m.cls) (hlink : (Cond.methodLink own index y).before args s = true) (hinst : (Cond.instanceMethod y).before args s = true) (hsel : (Cond.selects C y y).before args s = true)
    (hcode : (Cond.codeWith y bytes maxL ret hh).before args s = true) (hy : y.cls ≠ "java/lang/invoke/MethodHandle" ∧ y.cls ≠ "java/lang/invoke/VarHandle")
    {W9 : Nat} {Pre : Pt → Array Value → Prop} {Post : Pt → Array Value → Option Value → Pt → Prop} (hK : Back l R p e below s args y 3 W9 Pre Post)
    {b : Addr} {cellB : Cell} (hcell : T.heap[b]? = some cellB) (hobj : cellB.vm.isStatics = false) (hcls : s.vm.findClass C = some cellB.cls)
    {g : JFrame} (hg : g.method = m) (hsize : g.locals.size = c.maxLocals) {argsL rest : List Value} (hlen : ∀ sig, parseMethodDescriptor y.desc = some sig → argsL.length = sig.parameters.length)
    (hstack : g.stack = argsL.reverse ++ .ref b :: rest) (hW : 2 * g.monitorRoom + (rest.map fun v => v.category).sum ≤ W9) (hdg : decode c.code g.pc = .ok (.invokevirtual index, 3))
    (hpre : ∀ vm₁, s.WarmedH vm₁ → Pre ⟨T.setVm vm₁, locs, cells, slots⟩ (Value.ref b :: argsL).toArray) :
    ∃ (v : Option Value) (vm₁ : Vm) (B : Pt), s.WarmedH vm₁ ∧ Stand p l e R s m args below meth c B.U B.locs B.cells B.slots ∧ Post ⟨T.setVm vm₁, locs, cells, slots⟩ (Value.ref b :: argsL).toArray v B ∧
      ∀ target, Steps p.tables e below (B.U.setTop { g with pc := g.pc + 3, stack := v.toList ++ rest }) target → Steps p.tables e below (T.setTop g) target := by
  obtain ⟨mk, methM, hnamed, hmethM, hstM, habM⟩ := Cond.instanceMethod_spec hinst
  obtain ⟨m8, methM', cM, hn8, hmethM', -, -, -, -, -, -, hsigM⟩ := Cond.codeWith_spec hcode
  cases Option.some.inj (hn8.symm.trans hnamed)
  cases hmethM.symm.trans hmethM'
  obtain ⟨c2, r2, m2, q1, q2, q3, q4, kP, hkP, hkPi⟩ := Cond.selects_spec hsel
  cases hcls.symm.trans q1
  cases (State.methodFound?_of_named hnamed hy).symm.trans q2
  cases hnamed.symm.trans q3
  have hselP : selectMethod e.platform s.vm cellB.cls mk = .method mk := by rw [Launch.admits_selectMethod X.admits]; exact q4
  obtain ⟨vm₁, X₁, hstep₁⟩ := X.invokevirtual hexec hown hlink hnamed hmethM hstM hkP hkPi hy (a := b) (cell := cellB) hcell
    (fun z h => by rw [h] at hobj; cases hobj) hselP hmethM habM hkP hkPi (g := g) hg (argsL := argsL) (rest := rest) (hlen _ hsigM) hstack hdg
  obtain ⟨v, B, X', hpost, hsteps⟩ := hK m meth c ⟨T.setVm vm₁, locs, cells, slots⟩ { g with stack := rest } (.invokevirtual index) mk (Value.ref b :: argsL).toArray X₁ hg hsize hdg hW (X₁.named hnamed) (hpre vm₁ X₁.warmed)
  exact ⟨v, vm₁, B, X₁.warmed, X', hpost, fun target h => hstep₁ _ fun acts => by rw [doInvoke_state]; exact hsteps.trans h⟩
abbrev vx_CVW (R : Room) (s : State) (args : Array Value) (own C : String) (index : Nat) (y : MethodName) (bytes : ByteArray) (maxL : Nat) (ret : Option FieldType) (hh : List (Nat × Nat × Nat × Nat)) (ws : List Cond) (rm : Room) (mc ms n : Nat) : Prop :=
  (rm.cells = mc ∧ rm.slots = ms ∧ rm.frames + 1 ≤ R.frames ∧ 8 + (maxL + 11) + rm.locals ≤ R.locals ∧ (∀ w ∈ ws, ∀ (a' : Array Value) (U : State), s.WarmedH U.vm → w.before a' U = true) ∧ Cond.codeWith y bytes maxL ret hh ∈ ws) ∧
  (Cond.codeWith y bytes maxL ret hh).before args s = true ∧ (Cond.initialized y.cls).before args s = true ∧ (y.cls ≠ "java/lang/invoke/MethodHandle" ∧ y.cls ≠ "java/lang/invoke/VarHandle") ∧
  (∀ sig, parseMethodDescriptor y.desc = some sig → n = sig.parameters.length) ∧ (Cond.methodLink own index y).before args s = true ∧ (Cond.instanceMethod y).before args s = true ∧ (Cond.selects C y y).before args s = true
theorem vx_cwVW {own C : String} {index maxL mc ms : Nat} {y : MethodName} {bytes : ByteArray} {ret : Option FieldType} {hh : List (Nat × Nat × Nat × Nat)} {Ts ws ws' : List Cond} {rm : Room} (n : Nat) (ht : ∀ w ∈ Ts, w.before args s = true) (hT : GoodIn Ts (wsV own index C y ws)) (hw : ws = Cond.codeWith y bytes maxL ret hh :: ws') (hrc : rm.cells = mc) (hrs : rm.slots = ms)
    (hd : y.cls = C ∧ y.cls ≠ "java/lang/invoke/MethodHandle" ∧ y.cls ≠ "java/lang/invoke/VarHandle" ∧ (parseMethodDescriptor y.desc).map (fun d => d.parameters.length) = some n) (hR : rm.frames + 1 ≤ R.frames ∧ 8 + (maxL + 11) + rm.locals ≤ R.locals) :
    vx_CVW R s args own C index y bytes maxL ret hh ws rm mc ms n := by
  obtain ⟨hC, hd⟩ := hd
  subst hC
  have ok : ∀ w ∈ wsV own index y.cls y ws, w.before args s = true := fun w h => ht w (hT w h).1
  have hG : GoodIn Ts ws := fun w h => hT w (by unfold wsV; exact List.mem_append_right _ h)
  have hc : Cond.codeWith y bytes maxL ret hh ∈ ws := by rw [hw]; exact List.mem_cons_self
  refine ⟨⟨hrc, hrs, hR.1, hR.2, pay_in ht hG, hc⟩, ht _ (hG _ hc).1, ok _ (by simp [wsV]), ⟨hd.1, hd.2.1⟩, fun sig h => ?_, ok _ (by simp [wsV]), ok _ (by simp [wsV]), ok _ (by simp [wsV])⟩
  have h2 := hd.2.2
  rw [h] at h2
  exact (Option.some.inj h2).symm
theorem vx_runVW {y : MethodName} {bytes cc : ByteArray} {maxL nL mc ms n index : Nat} {ret : Option FieldType} {hh : List (Nat × Nat × Nat × Nat)} {ws : List Cond} {rm : Room} {Pc : Array Value → State → Prop} {Qc : Array Value → State → Outcome → State → Prop} {free : Addr → Prop} {Ts : List Cond} {own C : String} {b : Addr} {As rest : List Value} {g : JFrame}
    (S : CallFix p m c cc nL s args Ts own) (hM : Met l y ws rm Pc Qc mc ms free) (cw : vx_CVW R s args own C index y bytes maxL ret hh ws rm mc ms n) (hp : PreV s H C b Pc As)
    (hg : g.method = m) (hn : As.length = n) (hsize : g.locals.size = nL) (hstack : g.stack = As.reverse ++ .ref b :: rest) (hW : 2 * g.monitorRoom + (rest.map fun v => v.category).sum ≤ 8) (hdg : decode cc g.pc = .ok (.invokevirtual index, 3)) (hf : cells + mc ≤ R.cells ∧ slots + ms ≤ R.slots) :
    va_Run p l e R s m args below meth c H locs cells slots mc ms g rest (Qc (Value.ref b :: As).toArray) free := by
  obtain ⟨⟨hrc, hrs, hfr, hlo, hws, hcw⟩, hcode, hini, hy, hlen, hl, hin, hse⟩ := cw
  have hK : Back l R p e below s args y 3 8 (PreOf R mc ms Pc) (PostOf Qc mc ms free) := va_backW (hh := hh) (bytes := bytes) (maxL := maxL) (ret := ret) hM hp.1 hrc hrs hfr hlo hws hcw (fun a' U hW => word_at hW (Or.inl (by first | rfl | simp [Cond.onTables, Cond.keeps, Cond.steady])) hini)
  obtain ⟨hx, hb, hml, ho, -⟩ := S
  obtain ⟨-, ⟨cellB, hcB, hoB, hclB⟩, hPc⟩ := hp
  intro T hT X
  obtain ⟨v, vm₁, ⟨U', l2, c2, s2⟩, hW₁, X', ⟨g', mk, t, L, e1, e2, hq, h1, hL, h2, h3⟩, st⟩ := vx_callVW X hx (C := C) (hh := hh) (bytes := bytes) (maxL := maxL) (ret := ret) ho hl hin hse hcode hy hK (by rw [hT]; exact hcB) hoB hclB hg (hsize.trans hml.symm) (argsL := As) (rest := rest) (fun sig h => hn.trans (hlen sig h)) hstack hW (by rw [hb]; exact hdg)
    (fun vm₁ hW₁ => ⟨hf.1, hf.2, hPc (T.setVm vm₁) hT hW₁⟩)
  dsimp only [Pt.U, Pt.locs, Pt.cells, Pt.slots] at X' e1 e2 h1 h2 h3 st
  subst h1; subst h2; subst h3
  exact ⟨v, (T.setVm vm₁).calling g' mk (Value.ref b :: As).toArray, t, U', L, hT, X', hL, e1, e2, hq, st⟩
section
variable {y : MethodName} {bytes cc : ByteArray} {maxL nL mc ms n index : Nat} {ret : Option FieldType} {ws : List Cond} {rm : Room} {Pc : Array Value → State → Prop} {Qc : Array Value → State → Outcome → State → Prop} {XC : String → State → State → Prop} {free : Addr → Prop} {Ts : List Cond} {own C : String} {b : Addr} {As rest : List Value} {g : JFrame}
theorem vx_runVX {hh : List (Nat × Nat × Nat × Nat)} (S : CallFix p m c cc nL s args Ts own) (hM : vx_Met l y ws rm Pc Qc XC mc ms free) (cw : vx_CVW R s args own C index y bytes maxL ret hh ws rm mc ms n) (hp : PreV s H C b Pc As)
    (hg : g.method = m) (hn : As.length = n) (hsize : g.locals.size = nL) (hstack : g.stack = As.reverse ++ .ref b :: rest) (hW : 2 * g.monitorRoom + (rest.map fun v => v.category).sum ≤ 8) (hdg : decode cc g.pc = .ok (.invokevirtual index, 3)) (hf : cells + mc ≤ R.cells ∧ slots + ms ≤ R.slots) :
    vx_Run p l e R s m args below meth c H locs cells slots mc ms g rest (Qc (Value.ref b :: As).toArray) XC free := by
  obtain ⟨⟨hrc, hrs, hfr, hlo, hws, hcw⟩, hcode, hini, hy, hlen, hl, hin, hse⟩ := cw
  have hK : vx_Back l R p e below s args y 3 8 (PreOf R mc ms Pc) (PostOf Qc mc ms free) (vx_Post XC mc ms free) := vx_backW (hh := hh) (bytes := bytes) (maxL := maxL) (ret := ret) hM hp.1 hrc hrs hfr hlo hws hcw (fun a' U hW => word_at hW (Or.inl (by first | rfl | simp [Cond.onTables, Cond.keeps, Cond.steady])) hini)
  obtain ⟨hx, hb, hml, ho, -⟩ := S
  obtain ⟨-, ⟨cellB, hcB, hoB, hclB⟩, hPc⟩ := hp
  intro T hT X
  rcases vx_callVX X hx (C := C) (hh := hh) (bytes := bytes) (maxL := maxL) (ret := ret) ho hl hin hse hcode hy hK (by rw [hT]; exact hcB) hoB hclB hg (hsize.trans hml.symm) (argsL := As) (rest := rest) (fun sig h => hn.trans (hlen sig h)) hstack hW (by rw [hb]; exact hdg)
    (fun vm₁ hW₁ => ⟨hf.1, hf.2, hPc (T.setVm vm₁) hT hW₁⟩) with ⟨v, vm₁, ⟨U', l2, c2, s2⟩, hW₁, X', ⟨g', mk, t, L, e1, e2, hq, h1, hL, h2, h3⟩, st⟩ | ⟨q, vm₁, ⟨U', l2, c2, s2⟩, hW₁, X', ⟨g', mk, t, L, E, ce, e1, e2, hq, hce, hcv, hcl, h1, hL, h2, h3⟩, st⟩
  · dsimp only [Pt.U, Pt.locs, Pt.cells, Pt.slots] at X' e1 e2 h1 h2 h3 st
    subst h1; subst h2; subst h3
    exact Or.inl ⟨v, (T.setVm vm₁).calling g' mk (Value.ref b :: As).toArray, t, U', L, hT, X', hL, e1, e2, hq, st⟩
  · dsimp only [Pt.U, Pt.locs, Pt.cells, Pt.slots] at X' e1 e2 h1 h2 h3 st hcl
    subst h1; subst h2; subst h3
    exact Or.inr ⟨q, (T.setVm vm₁).calling g' mk (Value.ref b :: As).toArray, t, U', L, E, ce, hT, X', hL, e1, e2, hq, hce, hcv, vx_cls hW₁ hcl, st⟩
theorem vx_runSX {hh : List (Nat × Nat × Nat × Nat)} (S : CallFix p m c cc nL s args Ts own) (hM : vx_Met l y ws rm Pc Qc XC mc ms free) (cw : vx_CSW R s args own index y bytes maxL ret hh ws rm mc ms n) (hp : PreS s H Pc As)
    (hg : g.method = m) (hn : As.length = n) (hsize : g.locals.size = nL) (hstack : g.stack = As.reverse ++ rest) (hW : 2 * g.monitorRoom + (rest.map fun v => v.category).sum ≤ 8) (hdg : decode cc g.pc = .ok (.invokestatic index, 3)) (hf : cells + mc ≤ R.cells ∧ slots + ms ≤ R.slots) :
    vx_Run p l e R s m args below meth c H locs cells slots mc ms g rest (Qc As.toArray) XC free := by
  obtain ⟨⟨hrc, hrs, hfr, hlo, hws, hcw⟩, hcode, hini, hy, hlen, hl, hstt⟩ := cw
  have hK : vx_Back l R p e below s args y 3 8 (PreOf R mc ms Pc) (PostOf Qc mc ms free) (vx_Post XC mc ms free) := vx_backW (hh := hh) (bytes := bytes) (maxL := maxL) (ret := ret) hM hp.1 hrc hrs hfr hlo hws hcw (fun a' U hW => word_at hW (Or.inl (by first | rfl | simp [Cond.onTables, Cond.keeps, Cond.steady])) hini)
  obtain ⟨hx, hb, hml, ho, -⟩ := S
  intro T hT X
  rcases vx_callSX X hx (hh := hh) (bytes := bytes) (maxL := maxL) (ret := ret) ho hl hstt hini hcode hy hK hg (hsize.trans hml.symm) (argsL := As) (rest := rest) (fun sig h => hn.trans (hlen sig h)) hstack hW (by rw [hb]; exact hdg)
    (fun vm₁ hW₁ => ⟨hf.1, hf.2, hp.2 (T.setVm vm₁) hT hW₁⟩) with ⟨v, vm₁, ⟨U', l2, c2, s2⟩, hW₁, X', ⟨g', mk, t, L, e1, e2, hq, h1, hL, h2, h3⟩, st⟩ | ⟨q, vm₁, ⟨U', l2, c2, s2⟩, hW₁, X', ⟨g', mk, t, L, E, ce, e1, e2, hq, hce, hcv, hcl, h1, hL, h2, h3⟩, st⟩
  · dsimp only [Pt.U, Pt.locs, Pt.cells, Pt.slots] at X' e1 e2 h1 h2 h3 st
    subst h1; subst h2; subst h3
    exact Or.inl ⟨v, (T.setVm vm₁).calling g' mk As.toArray, t, U', L, hT, X', hL, e1, e2, hq, st⟩
  · dsimp only [Pt.U, Pt.locs, Pt.cells, Pt.slots] at X' e1 e2 h1 h2 h3 st hcl
    subst h1; subst h2; subst h3
    exact Or.inr ⟨q, (T.setVm vm₁).calling g' mk As.toArray, t, U', L, E, ce, hT, X', hL, e1, e2, hq, hce, hcv, vx_cls hW₁ hcl, st⟩
end
end VXH
theorem vx_ofWH {l : Launch} {y : MethodName} {ws ws' : List Cond} {rm : Room} {Pc : Array Value → State → Prop} {Qc : Array Value → State → Outcome → State → Prop} {XC : String → State → State → Prop} {mc ms : Nat} {free : Addr → Prop} {cc : ByteArray} {maxL : Nat} {ret : Option FieldType} {hh : List (Nat × Nat × Nat × Nat)}
    (hy : plainName y.cls = true) (hw : ws = Cond.codeWith y cc maxL ret hh :: ws')
    (body : ∀ p e s m args below meth c s₁, BodyLoose p l y (headSpec ws rm) cc maxL ret e s m args below meth c s₁ → c.maxLocals = maxL → Pc args s →
      W p l e (headSpec ws rm).room s m args below meth c s.heap [] 0 0 (vx_MQ below Qc XC args s mc ms free) (entryFrame m args maxL)) : vx_Met l y ws rm Pc Qc XC mc ms free := by
  refine MetFree.of_bodyS (code := cc) (maxLocals := maxL) (ret := ret) hy ?_ ?_
  · intro args s m h hn
    obtain ⟨m9, meth, c, hn9, h1, h2, h3, h4, -, h5, h6, -⟩ := Cond.codeWith_spec (atoms_spec (ws := ws) h _ (by rw [hw]; exact List.mem_cons_self))
    cases hn.symm.trans hn9
    exact ⟨meth, c, h1, h2, h3, h4, h5, h6⟩
  · intro p e s m args below meth c s₁ B hml hP _
    have hh0 : s₁.heap = s.heap := by rw [B.state]; rfl
    obtain ⟨t, a1, o, b1, b2, b3⟩ := body p e s m args below meth c s₁ B hml hP s₁ hh0 (Stand.of_body B)
    exact ⟨t, o, a1, b1, b2, b3⟩
/-! ===== END ===== -/

/-! ===== BEGIN printed: names, fields, word lists, decode rows ===== -/
def RX0 : String := "CanvasRoom$Act"
def TX0 : u_T := fun k => match k with
  | 0 => ("CanvasRoom$Act", "hand", "I", true)
  | 1 => ("CanvasRoom$Act", "kind", "I", true)
  | 2 => ("CanvasRoom$Act", "shape", "I", true)
  | 3 => ("CanvasRoom$Act", "first", "I", true)
  | 4 => ("CanvasRoom$Act", "second", "I", true)
  | 5 => ("CanvasRoom$Act", "isLive", "Z", false)
  | _ => ("CanvasRoom$Act", "isRedoable", "Z", false)
def tyX0 : Nat → FieldType := fun k => match k with
  | 0 => .int
  | 1 => .int
  | 2 => .int
  | 3 => .int
  | 4 => .int
  | 5 => .boolean
  | _ => .boolean
abbrev wsX00 : List Cond := u_ws RX0 TX0 7
theorem nmX0 : ∀ a, a < 7 → ∀ b, b < 7 → a ≠ b → (TX0 a).2.1 ≠ (TX0 b).2.1 := by decide +kernel
theorem tyX0_ok : ∀ k, k < 7 → parseFieldDescriptor (TX0 k).2.2.1 = some (tyX0 k) := by decide +kernel
abbrev cX0_init : ByteArray := prog_2_method_1_code
def yX0_init : MethodName := ⟨RX0, "<init>", "(IIIII)V"⟩
abbrev cX0_isNaming : ByteArray := prog_2_method_2_code
def yX0_isNaming : MethodName := ⟨RX0, "isNaming", "(I)Z"⟩
def RX1 : String := "CanvasRoom$Board"
def TX1 : u_T := fun k => match k with
  | 0 => ("CanvasRoom$Board", "columns", "[I", true)
  | 1 => ("CanvasRoom$Board", "rows", "[I", true)
  | 2 => ("CanvasRoom$Board", "widths", "[I", true)
  | 3 => ("CanvasRoom$Board", "heights", "[I", true)
  | 4 => ("CanvasRoom$Board", "colours", "[I", true)
  | 5 => ("CanvasRoom$Board", "layers", "[I", true)
  | 6 => ("CanvasRoom$Board", "groups", "[J", true)
  | 7 => ("CanvasRoom$Board", "present", "J", false)
  | 8 => ("CanvasRoom$Board", "highestLayer", "I", false)
  | _ => ("CanvasRoom$Board", "lowestLayer", "I", false)
def tyX1 : Nat → FieldType := fun k => match k with
  | 0 => .array .int
  | 1 => .array .int
  | 2 => .array .int
  | 3 => .array .int
  | 4 => .array .int
  | 5 => .array .int
  | 6 => .array .long
  | 7 => .long
  | 8 => .int
  | _ => .int
abbrev wsX10 : List Cond := u_ws RX1 TX1 10
theorem nmX1 : ∀ a, a < 10 → ∀ b, b < 10 → a ≠ b → (TX1 a).2.1 ≠ (TX1 b).2.1 := by decide +kernel
theorem tyX1_ok : ∀ k, k < 10 → parseFieldDescriptor (TX1 k).2.2.1 = some (tyX1 k) := by decide +kernel
abbrev cX1_init : ByteArray := prog_3_method_1_code
def yX1_init : MethodName := ⟨RX1, "<init>", "()V"⟩
abbrev cX1_clear : ByteArray := prog_3_method_2_code
def yX1_clear : MethodName := ⟨RX1, "clear", "()V"⟩
abbrev cX1_copy : ByteArray := prog_3_method_3_code
def yX1_copy : MethodName := ⟨RX1, "copy", "(LCanvasRoom$Board;)V"⟩
abbrev cX1_has : ByteArray := prog_3_method_4_code
def yX1_has : MethodName := ⟨RX1, "has", "(I)Z"⟩
abbrev cX1_groupSize : ByteArray := prog_3_method_5_code
def yX1_groupSize : MethodName := ⟨RX1, "groupSize", "(I)I"⟩
abbrev cX1_countBelow : ByteArray := prog_3_method_6_code
def yX1_countBelow : MethodName := ⟨RX1, "countBelow", "(I)I"⟩
abbrev cX1_put : ByteArray := prog_3_method_7_code
def yX1_put : MethodName := ⟨RX1, "put", "(ILCanvasRoom$Shape;)V"⟩
abbrev cX1_change : ByteArray := prog_3_method_8_code
def yX1_change : MethodName := ⟨RX1, "change", "(LCanvasRoom$Act;)V"⟩
abbrev cX1_moveGroup : ByteArray := prog_3_method_9_code
def yX1_moveGroup : MethodName := ⟨RX1, "moveGroup", "(JII)V"⟩
abbrev cX1_uniteGroups : ByteArray := prog_3_method_10_code
def yX1_uniteGroups : MethodName := ⟨RX1, "uniteGroups", "(II)V"⟩
abbrev cX1_leaveGroup : ByteArray := prog_3_method_11_code
def yX1_leaveGroup : MethodName := ⟨RX1, "leaveGroup", "(I)V"⟩
abbrev cX1_setGroup : ByteArray := prog_3_method_12_code
def yX1_setGroup : MethodName := ⟨RX1, "setGroup", "(J)V"⟩
abbrev cX1_isShowing : ByteArray := prog_3_method_13_code
def yX1_isShowing : MethodName := ⟨RX1, "isShowing", "(IJ)Z"⟩
abbrev cX1_uppermostAt : ByteArray := prog_3_method_14_code
def yX1_uppermostAt : MethodName := ⟨RX1, "uppermostAt", "(IIJ)I"⟩
abbrev cX1_isCovering : ByteArray := prog_3_method_15_code
def yX1_isCovering : MethodName := ⟨RX1, "isCovering", "(III)Z"⟩
abbrev cX1_columnsShown : ByteArray := prog_3_method_16_code
def yX1_columnsShown : MethodName := ⟨RX1, "columnsShown", "(IIJ)I"⟩
abbrev cX1_columnsCovered : ByteArray := prog_3_method_17_code
def yX1_columnsCovered : MethodName := ⟨RX1, "columnsCovered", "(II)I"⟩
def RX2 : String := "CanvasRoom$Copy"
def TX2 : u_T := fun k => match k with
  | 0 => ("CanvasRoom$Copy", "state", "I", false)
  | 1 => ("CanvasRoom$Copy", "owner", "I", false)
  | 2 => ("CanvasRoom$Copy", "cost", "I", false)
  | _ => ("CanvasRoom$Copy", "answerer", "I", false)
def tyX2 : Nat → FieldType := fun k => match k with
  | 0 => .int
  | 1 => .int
  | 2 => .int
  | _ => .int
abbrev wsX20 : List Cond := u_ws RX2 TX2 4
theorem nmX2 : ∀ a, a < 4 → ∀ b, b < 4 → a ≠ b → (TX2 a).2.1 ≠ (TX2 b).2.1 := by decide +kernel
theorem tyX2_ok : ∀ k, k < 4 → parseFieldDescriptor (TX2 k).2.2.1 = some (tyX2 k) := by decide +kernel
abbrev cX2_init : ByteArray := prog_4_method_1_code
def yX2_init : MethodName := ⟨RX2, "<init>", "()V"⟩
abbrev cX2_passTo : ByteArray := prog_4_method_2_code
def yX2_passTo : MethodName := ⟨RX2, "passTo", "(II)V"⟩
def RX3 : String := "CanvasRoom$Edition"
def TX3 : u_T := fun k => match k with
  | 0 => ("CanvasRoom$Edition", "freezer", "I", true)
  | 1 => ("CanvasRoom$Edition", "window", "LCanvasRoom$Window;", true)
  | 2 => ("CanvasRoom$Edition", "price", "I", true)
  | 3 => ("CanvasRoom$Edition", "kept", "LCanvasRoom$Board;", true)
  | 4 => ("CanvasRoom$Edition", "areas", "[I", true)
  | 5 => ("CanvasRoom$Edition", "wholeArea", "I", false)
  | 6 => ("CanvasRoom$Edition", "held", "[Z", true)
  | 7 => ("CanvasRoom$Edition", "isWithdrawn", "Z", false)
  | 8 => ("CanvasRoom$Edition", "copies", "Ljava/util/ArrayList;", true)
  | _ => ("CanvasRoom$Edition", "soldCopies", "I", false)
def tyX3 : Nat → FieldType := fun k => match k with
  | 0 => .int
  | 1 => .object "CanvasRoom$Window"
  | 2 => .int
  | 3 => .object "CanvasRoom$Board"
  | 4 => .array .int
  | 5 => .int
  | 6 => .array .boolean
  | 7 => .boolean
  | 8 => .object "java/util/ArrayList"
  | _ => .int
abbrev wsX30 : List Cond := u_ws RX3 TX3 10
theorem nmX3 : ∀ a, a < 10 → ∀ b, b < 10 → a ≠ b → (TX3 a).2.1 ≠ (TX3 b).2.1 := by decide +kernel
theorem tyX3_ok : ∀ k, k < 10 → parseFieldDescriptor (TX3 k).2.2.1 = some (tyX3 k) := by decide +kernel
abbrev cX3_init : ByteArray := prog_5_method_1_code
def yX3_init : MethodName := ⟨RX3, "<init>", "(ILCanvasRoom$Window;I)V"⟩
abbrev cX3_issue : ByteArray := prog_5_method_2_code
def yX3_issue : MethodName := ⟨RX3, "issue", "(I)V"⟩
abbrev cX3_addArea : ByteArray := prog_5_method_3_code
def yX3_addArea : MethodName := ⟨RX3, "addArea", "(II)V"⟩
abbrev cX3_hold : ByteArray := prog_5_method_4_code
def yX3_hold : MethodName := ⟨RX3, "hold", "(I)V"⟩
abbrev cX3_isHolding : ByteArray := prog_5_method_5_code
def yX3_isHolding : MethodName := ⟨RX3, "isHolding", "(I)Z"⟩
abbrev cX3_countHeld : ByteArray := prog_5_method_6_code
def yX3_countHeld : MethodName := ⟨RX3, "countHeld", "()I"⟩
abbrev cX3_changeSoldCopies : ByteArray := prog_5_method_7_code
def yX3_changeSoldCopies : MethodName := ⟨RX3, "changeSoldCopies", "(I)I"⟩
abbrev cX3_share : ByteArray := prog_5_method_8_code
def yX3_share : MethodName := ⟨RX3, "share", "(I[I)V"⟩
def RX4 : String := "CanvasRoom$Payment"
def TX4 : u_T := fun k => match k with
  | 0 => ("CanvasRoom$Payment", "edition", "I", true)
  | 1 => ("CanvasRoom$Payment", "hand", "I", true)
  | _ => ("CanvasRoom$Payment", "amount", "I", true)
def tyX4 : Nat → FieldType := fun k => match k with
  | 0 => .int
  | 1 => .int
  | _ => .int
abbrev wsX40 : List Cond := u_ws RX4 TX4 3
theorem nmX4 : ∀ a, a < 3 → ∀ b, b < 3 → a ≠ b → (TX4 a).2.1 ≠ (TX4 b).2.1 := by decide +kernel
theorem tyX4_ok : ∀ k, k < 3 → parseFieldDescriptor (TX4 k).2.2.1 = some (tyX4 k) := by decide +kernel
abbrev cX4_init : ByteArray := prog_6_method_1_code
def yX4_init : MethodName := ⟨RX4, "<init>", "(III)V"⟩
def RX5 : String := "CanvasRoom$Shape"
def TX5 : u_T := fun k => match k with
  | 0 => ("CanvasRoom$Shape", "maker", "I", true)
  | 1 => ("CanvasRoom$Shape", "column", "I", true)
  | 2 => ("CanvasRoom$Shape", "row", "I", true)
  | 3 => ("CanvasRoom$Shape", "width", "I", true)
  | 4 => ("CanvasRoom$Shape", "height", "I", true)
  | _ => ("CanvasRoom$Shape", "colour", "I", true)
def tyX5 : Nat → FieldType := fun k => match k with
  | 0 => .int
  | 1 => .int
  | 2 => .int
  | 3 => .int
  | 4 => .int
  | _ => .int
abbrev wsX50 : List Cond := u_ws RX5 TX5 6
theorem nmX5 : ∀ a, a < 6 → ∀ b, b < 6 → a ≠ b → (TX5 a).2.1 ≠ (TX5 b).2.1 := by decide +kernel
theorem tyX5_ok : ∀ k, k < 6 → parseFieldDescriptor (TX5 k).2.2.1 = some (tyX5 k) := by decide +kernel
abbrev cX5_init : ByteArray := prog_7_method_1_code
def yX5_init : MethodName := ⟨RX5, "<init>", "(IIIIII)V"⟩
def RX6 : String := "CanvasRoom$Window"
def TX6 : u_T := fun k => match k with
  | 0 => ("CanvasRoom$Window", "column", "I", true)
  | 1 => ("CanvasRoom$Window", "row", "I", true)
  | 2 => ("CanvasRoom$Window", "width", "I", true)
  | _ => ("CanvasRoom$Window", "height", "I", true)
def tyX6 : Nat → FieldType := fun k => match k with
  | 0 => .int
  | 1 => .int
  | 2 => .int
  | _ => .int
abbrev wsX60 : List Cond := u_ws RX6 TX6 4
theorem nmX6 : ∀ a, a < 4 → ∀ b, b < 4 → a ≠ b → (TX6 a).2.1 ≠ (TX6 b).2.1 := by decide +kernel
theorem tyX6_ok : ∀ k, k < 4 → parseFieldDescriptor (TX6 k).2.2.1 = some (tyX6 k) := by decide +kernel
abbrev cX6_init : ByteArray := prog_8_method_1_code
def yX6_init : MethodName := ⟨RX6, "<init>", "(IIII)V"⟩
abbrev cX6_countShown : ByteArray := prog_8_method_2_code
def yX6_countShown : MethodName := ⟨RX6, "countShown", "(LCanvasRoom$Board;IJ)I"⟩
abbrev cX6_isAnyShown : ByteArray := prog_8_method_3_code
def yX6_isAnyShown : MethodName := ⟨RX6, "isAnyShown", "(LCanvasRoom$Board;J)Z"⟩
def RX7 : String := "CanvasRoom"
def TX7 : u_T := fun k => match k with
  | 0 => ("CanvasRoom", "addedShapes", "Ljava/util/ArrayList;", true)
  | 1 => ("CanvasRoom", "toldActs", "Ljava/util/ArrayList;", true)
  | 2 => ("CanvasRoom", "frozenEditions", "Ljava/util/ArrayList;", true)
  | 3 => ("CanvasRoom", "payments", "Ljava/util/ArrayList;", true)
  | 4 => ("CanvasRoom", "board", "LCanvasRoom$Board;", true)
  | 5 => ("CanvasRoom", "spareBoard", "LCanvasRoom$Board;", true)
  | 6 => ("CanvasRoom", "takenDown", "J", false)
  | 7 => ("CanvasRoom", "handMoney", "[I", true)
  | 8 => ("CanvasRoom", "spareMoney", "[I", true)
  | 9 => ("CanvasRoom", "buyerMoney", "[I", true)
  | _ => ("CanvasRoom", "houseMoney", "I", false)
def tyX7 : Nat → FieldType := fun k => match k with
  | 0 => .object "java/util/ArrayList"
  | 1 => .object "java/util/ArrayList"
  | 2 => .object "java/util/ArrayList"
  | 3 => .object "java/util/ArrayList"
  | 4 => .object "CanvasRoom$Board"
  | 5 => .object "CanvasRoom$Board"
  | 6 => .long
  | 7 => .array .int
  | 8 => .array .int
  | 9 => .array .int
  | _ => .int
abbrev wsX70 : List Cond := u_ws RX7 TX7 11
theorem nmX7 : ∀ a, a < 11 → ∀ b, b < 11 → a ≠ b → (TX7 a).2.1 ≠ (TX7 b).2.1 := by decide +kernel
theorem tyX7_ok : ∀ k, k < 11 → parseFieldDescriptor (TX7 k).2.2.1 = some (tyX7 k) := by decide +kernel
abbrev cX7_init : ByteArray := prog_1_method_1_code
def yX7_init : MethodName := ⟨RX7, "<init>", "()V"⟩
abbrev cX7_add : ByteArray := prog_1_method_2_code
def yX7_add : MethodName := ⟨RX7, "add", "(IIIIII)I"⟩
abbrev cX7_move : ByteArray := prog_1_method_3_code
def yX7_move : MethodName := ⟨RX7, "move", "(IIII)I"⟩
abbrev cX7_paint : ByteArray := prog_1_method_4_code
def yX7_paint : MethodName := ⟨RX7, "paint", "(III)I"⟩
abbrev cX7_layer : ByteArray := prog_1_method_5_code
def yX7_layer : MethodName := ⟨RX7, "layer", "(IIZ)I"⟩
abbrev cX7_join : ByteArray := prog_1_method_6_code
def yX7_join : MethodName := ⟨RX7, "join", "(III)I"⟩
abbrev cX7_part : ByteArray := prog_1_method_7_code
def yX7_part : MethodName := ⟨RX7, "part", "(II)I"⟩
abbrev cX7_drop : ByteArray := prog_1_method_8_code
def yX7_drop : MethodName := ⟨RX7, "drop", "(II)I"⟩
abbrev cX7_undo : ByteArray := prog_1_method_9_code
def yX7_undo : MethodName := ⟨RX7, "undo", "(I)I"⟩
abbrev cX7_redo : ByteArray := prog_1_method_10_code
def yX7_redo : MethodName := ⟨RX7, "redo", "(I)I"⟩
abbrev cX7_acts : ByteArray := prog_1_method_11_code
def yX7_acts : MethodName := ⟨RX7, "acts", "()I"⟩
abbrev cX7_isLive : ByteArray := prog_1_method_12_code
def yX7_isLive : MethodName := ⟨RX7, "isLive", "(I)Z"⟩
abbrev cX7_holder : ByteArray := prog_1_method_13_code
def yX7_holder : MethodName := ⟨RX7, "holder", "(I)I"⟩
abbrev cX7_shapes : ByteArray := prog_1_method_14_code
def yX7_shapes : MethodName := ⟨RX7, "shapes", "()I"⟩
abbrev cX7_there : ByteArray := prog_1_method_15_code
def yX7_there : MethodName := ⟨RX7, "there", "()J"⟩
abbrev cX7_place : ByteArray := prog_1_method_16_code
def yX7_place : MethodName := ⟨RX7, "place", "(I)I"⟩
abbrev cX7_colour : ByteArray := prog_1_method_17_code
def yX7_colour : MethodName := ⟨RX7, "colour", "(I)I"⟩
abbrev cX7_above : ByteArray := prog_1_method_18_code
def yX7_above : MethodName := ⟨RX7, "above", "(I)I"⟩
abbrev cX7_group : ByteArray := prog_1_method_19_code
def yX7_group : MethodName := ⟨RX7, "group", "(I)J"⟩
abbrev cX7_seen : ByteArray := prog_1_method_20_code
def yX7_seen : MethodName := ⟨RX7, "seen", "(II)I"⟩
abbrev cX7_seenAnew : ByteArray := prog_1_method_21_code
def yX7_seenAnew : MethodName := ⟨RX7, "seenAnew", "(II)I"⟩
abbrev cX7_freeze : ByteArray := prog_1_method_22_code
def yX7_freeze : MethodName := ⟨RX7, "freeze", "(IIIIIII)I"⟩
abbrev cX7_withdraw : ByteArray := prog_1_method_23_code
def yX7_withdraw : MethodName := ⟨RX7, "withdraw", "(I)I"⟩
abbrev cX7_viewed : ByteArray := prog_1_method_24_code
def yX7_viewed : MethodName := ⟨RX7, "viewed", "(III)I"⟩
abbrev cX7_area : ByteArray := prog_1_method_25_code
def yX7_area : MethodName := ⟨RX7, "area", "(II)I"⟩
abbrev cX7_sell : ByteArray := prog_1_method_26_code
def yX7_sell : MethodName := ⟨RX7, "sell", "(II)I"⟩
abbrev cX7_resell : ByteArray := prog_1_method_27_code
def yX7_resell : MethodName := ⟨RX7, "resell", "(IIII)I"⟩
abbrev cX7_takeDown : ByteArray := prog_1_method_28_code
def yX7_takeDown : MethodName := ⟨RX7, "takeDown", "(I)I"⟩
abbrev cX7_accept : ByteArray := prog_1_method_29_code
def yX7_accept : MethodName := ⟨RX7, "accept", "(II)I"⟩
abbrev cX7_giveBack : ByteArray := prog_1_method_30_code
def yX7_giveBack : MethodName := ⟨RX7, "giveBack", "(II)I"⟩
abbrev cX7_copyState : ByteArray := prog_1_method_31_code
def yX7_copyState : MethodName := ⟨RX7, "copyState", "(II)I"⟩
abbrev cX7_owner : ByteArray := prog_1_method_32_code
def yX7_owner : MethodName := ⟨RX7, "owner", "(II)I"⟩
abbrev cX7_money : ByteArray := prog_1_method_33_code
def yX7_money : MethodName := ⟨RX7, "money", "(I)I"⟩
abbrev cX7_moneyAnew : ByteArray := prog_1_method_34_code
def yX7_moneyAnew : MethodName := ⟨RX7, "moneyAnew", "(I)I"⟩
abbrev cX7_purse : ByteArray := prog_1_method_35_code
def yX7_purse : MethodName := ⟨RX7, "purse", "(I)I"⟩
abbrev cX7_house : ByteArray := prog_1_method_36_code
def yX7_house : MethodName := ⟨RX7, "house", "()I"⟩
abbrev cX7_checkHand : ByteArray := prog_1_method_37_code
def yX7_checkHand : MethodName := ⟨RX7, "checkHand", "(I)V"⟩
abbrev cX7_checkBuyer : ByteArray := prog_1_method_38_code
def yX7_checkBuyer : MethodName := ⟨RX7, "checkBuyer", "(I)V"⟩
abbrev cX7_checkCell : ByteArray := prog_1_method_39_code
def yX7_checkCell : MethodName := ⟨RX7, "checkCell", "(IIII)V"⟩
abbrev cX7_checkRange : ByteArray := prog_1_method_40_code
def yX7_checkRange : MethodName := ⟨RX7, "checkRange", "(III)V"⟩
abbrev cX7_checkRectangle : ByteArray := prog_1_method_41_code
def yX7_checkRectangle : MethodName := ⟨RX7, "checkRectangle", "(IIII)V"⟩
abbrev cX7_checkShape : ByteArray := prog_1_method_42_code
def yX7_checkShape : MethodName := ⟨RX7, "checkShape", "(I)V"⟩
abbrev cX7_checkCanAct : ByteArray := prog_1_method_43_code
def yX7_checkCanAct : MethodName := ⟨RX7, "checkCanAct", "(I)V"⟩
abbrev cX7_checkedAct : ByteArray := prog_1_method_44_code
def yX7_checkedAct : MethodName := ⟨RX7, "checkedAct", "(I)LCanvasRoom$Act;"⟩
abbrev cX7_checkedEdition : ByteArray := prog_1_method_45_code
def yX7_checkedEdition : MethodName := ⟨RX7, "checkedEdition", "(I)LCanvasRoom$Edition;"⟩
abbrev cX7_checkedCopy : ByteArray := prog_1_method_46_code
def yX7_checkedCopy : MethodName := ⟨RX7, "checkedCopy", "(II)LCanvasRoom$Copy;"⟩
abbrev cX7_checkedChangedCopy : ByteArray := prog_1_method_47_code
def yX7_checkedChangedCopy : MethodName := ⟨RX7, "checkedChangedCopy", "(II)LCanvasRoom$Copy;"⟩
abbrev cX7_isShape : ByteArray := prog_1_method_48_code
def yX7_isShape : MethodName := ⟨RX7, "isShape", "(I)Z"⟩
abbrev cX7_isEdition : ByteArray := prog_1_method_49_code
def yX7_isEdition : MethodName := ⟨RX7, "isEdition", "(I)Z"⟩
abbrev cX7_isTakenDown : ByteArray := prog_1_method_50_code
def yX7_isTakenDown : MethodName := ⟨RX7, "isTakenDown", "(I)Z"⟩
abbrev cX7_bit : ByteArray := prog_1_method_51_code
def yX7_bit : MethodName := ⟨RX7, "bit", "(I)J"⟩
abbrev cX7_columnSet : ByteArray := prog_1_method_52_code
def yX7_columnSet : MethodName := ⟨RX7, "columnSet", "(II)I"⟩
abbrev cX7_tell : ByteArray := prog_1_method_53_code
def yX7_tell : MethodName := ⟨RX7, "tell", "(LCanvasRoom$Act;)V"⟩
abbrev cX7_doAllActs : ByteArray := prog_1_method_54_code
def yX7_doAllActs : MethodName := ⟨RX7, "doAllActs", "(LCanvasRoom$Board;)V"⟩
abbrev cX7_perform : ByteArray := prog_1_method_55_code
def yX7_perform : MethodName := ⟨RX7, "perform", "(LCanvasRoom$Act;LCanvasRoom$Board;)V"⟩
abbrev cX7_latestLiveAct : ByteArray := prog_1_method_56_code
def yX7_latestLiveAct : MethodName := ⟨RX7, "latestLiveAct", "(I)I"⟩
abbrev cX7_actUndoneLast : ByteArray := prog_1_method_57_code
def yX7_actUndoneLast : MethodName := ⟨RX7, "actUndoneLast", "(I)I"⟩
abbrev cX7_setLive : ByteArray := prog_1_method_58_code
def yX7_setLive : MethodName := ⟨RX7, "setLive", "(IZ)V"⟩
abbrev cX7_lowestHolder : ByteArray := prog_1_method_59_code
def yX7_lowestHolder : MethodName := ⟨RX7, "lowestHolder", "(I)I"⟩
abbrev cX7_measureAndHold : ByteArray := prog_1_method_60_code
def yX7_measureAndHold : MethodName := ⟨RX7, "measureAndHold", "(LCanvasRoom$Edition;)V"⟩
abbrev cX7_holdActsOf : ByteArray := prog_1_method_61_code
def yX7_holdActsOf : MethodName := ⟨RX7, "holdActsOf", "(ILCanvasRoom$Edition;)V"⟩
abbrev cX7_payBuyer : ByteArray := prog_1_method_62_code
def yX7_payBuyer : MethodName := ⟨RX7, "payBuyer", "(II)V"⟩
abbrev cX7_enter : ByteArray := prog_1_method_63_code
def yX7_enter : MethodName := ⟨RX7, "enter", "(LCanvasRoom$Payment;)V"⟩
abbrev cX7_payHands : ByteArray := prog_1_method_64_code
def yX7_payHands : MethodName := ⟨RX7, "payHands", "(LCanvasRoom$Payment;[I)V"⟩
def RX8 : String := "CanvasRoomModel"
def TX8 : u_T := fun k => match k with
  | 0 => ("CanvasRoomModel", "thrown", "I", false)
  | 1 => ("CanvasRoomModel", "acts", "I", false)
  | 2 => ("CanvasRoomModel", "kind", "[I", true)
  | 3 => ("CanvasRoomModel", "hand", "[I", true)
  | 4 => ("CanvasRoomModel", "shape", "[I", true)
  | 5 => ("CanvasRoomModel", "first", "[I", true)
  | 6 => ("CanvasRoomModel", "second", "[I", true)
  | 7 => ("CanvasRoomModel", "isLive", "[Z", true)
  | 8 => ("CanvasRoomModel", "undone", "[I", true)
  | 9 => ("CanvasRoomModel", "undoings", "[I", true)
  | 10 => ("CanvasRoomModel", "shapes", "I", false)
  | 11 => ("CanvasRoomModel", "maker", "[I", true)
  | 12 => ("CanvasRoomModel", "width", "[I", true)
  | 13 => ("CanvasRoomModel", "height", "[I", true)
  | 14 => ("CanvasRoomModel", "firstColumn", "[I", true)
  | 15 => ("CanvasRoomModel", "firstRow", "[I", true)
  | 16 => ("CanvasRoomModel", "firstColour", "[I", true)
  | 17 => ("CanvasRoomModel", "isDown", "[Z", true)
  | 18 => ("CanvasRoomModel", "many", "I", false)
  | 19 => ("CanvasRoomModel", "order", "[I", true)
  | 20 => ("CanvasRoomModel", "isThere", "[Z", true)
  | 21 => ("CanvasRoomModel", "column", "[I", true)
  | 22 => ("CanvasRoomModel", "row", "[I", true)
  | 23 => ("CanvasRoomModel", "colour", "[I", true)
  | 24 => ("CanvasRoomModel", "group", "[I", true)
  | 25 => ("CanvasRoomModel", "editions", "I", false)
  | 26 => ("CanvasRoomModel", "freezer", "[I", true)
  | 27 => ("CanvasRoomModel", "viewColumn", "[I", true)
  | 28 => ("CanvasRoomModel", "viewRow", "[I", true)
  | 29 => ("CanvasRoomModel", "viewWidth", "[I", true)
  | 30 => ("CanvasRoomModel", "viewHeight", "[I", true)
  | 31 => ("CanvasRoomModel", "copies", "[I", true)
  | 32 => ("CanvasRoomModel", "price", "[I", true)
  | 33 => ("CanvasRoomModel", "isWithdrawn", "[Z", true)
  | 34 => ("CanvasRoomModel", "wasSold", "[Z", true)
  | 35 => ("CanvasRoomModel", "area", "[I", true)
  | 36 => ("CanvasRoomModel", "holds", "[Z", true)
  | 37 => ("CanvasRoomModel", "kept", "[I", true)
  | 38 => ("CanvasRoomModel", "keptShape", "[I", true)
  | 39 => ("CanvasRoomModel", "keptColumn", "[I", true)
  | 40 => ("CanvasRoomModel", "keptRow", "[I", true)
  | 41 => ("CanvasRoomModel", "keptColour", "[I", true)
  | 42 => ("CanvasRoomModel", "state", "[I", true)
  | 43 => ("CanvasRoomModel", "owner", "[I", true)
  | 44 => ("CanvasRoomModel", "cost", "[I", true)
  | 45 => ("CanvasRoomModel", "answerer", "[I", true)
  | 46 => ("CanvasRoomModel", "money", "[I", true)
  | 47 => ("CanvasRoomModel", "purse", "[I", true)
  | _ => ("CanvasRoomModel", "house", "I", false)
def tyX8 : Nat → FieldType := fun k => match k with
  | 0 => .int
  | 1 => .int
  | 2 => .array .int
  | 3 => .array .int
  | 4 => .array .int
  | 5 => .array .int
  | 6 => .array .int
  | 7 => .array .boolean
  | 8 => .array .int
  | 9 => .array .int
  | 10 => .int
  | 11 => .array .int
  | 12 => .array .int
  | 13 => .array .int
  | 14 => .array .int
  | 15 => .array .int
  | 16 => .array .int
  | 17 => .array .boolean
  | 18 => .int
  | 19 => .array .int
  | 20 => .array .boolean
  | 21 => .array .int
  | 22 => .array .int
  | 23 => .array .int
  | 24 => .array .int
  | 25 => .int
  | 26 => .array .int
  | 27 => .array .int
  | 28 => .array .int
  | 29 => .array .int
  | 30 => .array .int
  | 31 => .array .int
  | 32 => .array .int
  | 33 => .array .boolean
  | 34 => .array .boolean
  | 35 => .array .int
  | 36 => .array .boolean
  | 37 => .array .int
  | 38 => .array .int
  | 39 => .array .int
  | 40 => .array .int
  | 41 => .array .int
  | 42 => .array .int
  | 43 => .array .int
  | 44 => .array .int
  | 45 => .array .int
  | 46 => .array .int
  | 47 => .array .int
  | _ => .int
abbrev wsX80 : List Cond := u_ws RX8 TX8 49
theorem nmX8 : ∀ a, a < 49 → ∀ b, b < 49 → a ≠ b → (TX8 a).2.1 ≠ (TX8 b).2.1 := by decide +kernel
theorem tyX8_ok : ∀ k, k < 49 → parseFieldDescriptor (TX8 k).2.2.1 = some (tyX8 k) := by decide +kernel
abbrev cX8_init : ByteArray := prog_10_method_1_code
def yX8_init : MethodName := ⟨RX8, "<init>", "()V"⟩
abbrev cX8_thrown : ByteArray := prog_10_method_2_code
def yX8_thrown : MethodName := ⟨RX8, "thrown", "()I"⟩
abbrev cX8_isIn : ByteArray := prog_10_method_3_code
def yX8_isIn : MethodName := ⟨RX8, "isIn", "(III)Z"⟩
abbrev cX8_isHand : ByteArray := prog_10_method_4_code
def yX8_isHand : MethodName := ⟨RX8, "isHand", "(I)Z"⟩
abbrev cX8_isBuyer : ByteArray := prog_10_method_5_code
def yX8_isBuyer : MethodName := ⟨RX8, "isBuyer", "(I)Z"⟩
abbrev cX8_isShape : ByteArray := prog_10_method_6_code
def yX8_isShape : MethodName := ⟨RX8, "isShape", "(I)Z"⟩
abbrev cX8_isAct : ByteArray := prog_10_method_7_code
def yX8_isAct : MethodName := ⟨RX8, "isAct", "(I)Z"⟩
abbrev cX8_isEdition : ByteArray := prog_10_method_8_code
def yX8_isEdition : MethodName := ⟨RX8, "isEdition", "(I)Z"⟩
abbrev cX8_isCopy : ByteArray := prog_10_method_9_code
def yX8_isCopy : MethodName := ⟨RX8, "isCopy", "(II)Z"⟩
abbrev cX8_takeOut : ByteArray := prog_10_method_10_code
def yX8_takeOut : MethodName := ⟨RX8, "takeOut", "(I)V"⟩
abbrev cX8_putIn : ByteArray := prog_10_method_11_code
def yX8_putIn : MethodName := ⟨RX8, "putIn", "(IZ)V"⟩
abbrev cX8_freeGroup : ByteArray := prog_10_method_12_code
def yX8_freeGroup : MethodName := ⟨RX8, "freeGroup", "()I"⟩
abbrev cX8_comes : ByteArray := prog_10_method_13_code
def yX8_comes : MethodName := ⟨RX8, "comes", "(I)V"⟩
abbrev cX8_moves : ByteArray := prog_10_method_14_code
def yX8_moves : MethodName := ⟨RX8, "moves", "(III)V"⟩
abbrev cX8_joins : ByteArray := prog_10_method_15_code
def yX8_joins : MethodName := ⟨RX8, "joins", "(II)V"⟩
abbrev cX8_does : ByteArray := prog_10_method_16_code
def yX8_does : MethodName := ⟨RX8, "does", "(I)V"⟩
abbrev cX8_anew : ByteArray := prog_10_method_17_code
def yX8_anew : MethodName := ⟨RX8, "anew", "()V"⟩
abbrev cX8_covers : ByteArray := prog_10_method_18_code
def yX8_covers : MethodName := ⟨RX8, "covers", "(III)Z"⟩
abbrev cX8_seenAt : ByteArray := prog_10_method_19_code
def yX8_seenAt : MethodName := ⟨RX8, "seenAt", "(II)I"⟩
abbrev cX8_inGroup : ByteArray := prog_10_method_20_code
def yX8_inGroup : MethodName := ⟨RX8, "inGroup", "(I)I"⟩
abbrev cX8_tells : ByteArray := prog_10_method_21_code
def yX8_tells : MethodName := ⟨RX8, "tells", "(IIIII)V"⟩
abbrev cX8_canName : ByteArray := prog_10_method_22_code
def yX8_canName : MethodName := ⟨RX8, "canName", "(I)Z"⟩
abbrev cX8_add : ByteArray := prog_10_method_23_code
def yX8_add : MethodName := ⟨RX8, "add", "(IIIIII)I"⟩
abbrev cX8_move : ByteArray := prog_10_method_24_code
def yX8_move : MethodName := ⟨RX8, "move", "(IIII)I"⟩
abbrev cX8_paint : ByteArray := prog_10_method_25_code
def yX8_paint : MethodName := ⟨RX8, "paint", "(III)I"⟩
abbrev cX8_names : ByteArray := prog_10_method_26_code
def yX8_names : MethodName := ⟨RX8, "names", "(II)I"⟩
abbrev cX8_layer : ByteArray := prog_10_method_27_code
def yX8_layer : MethodName := ⟨RX8, "layer", "(IIZ)I"⟩
abbrev cX8_join : ByteArray := prog_10_method_28_code
def yX8_join : MethodName := ⟨RX8, "join", "(III)I"⟩
abbrev cX8_part : ByteArray := prog_10_method_29_code
def yX8_part : MethodName := ⟨RX8, "part", "(II)I"⟩
abbrev cX8_drop : ByteArray := prog_10_method_30_code
def yX8_drop : MethodName := ⟨RX8, "drop", "(II)I"⟩
abbrev cX8_holderOf : ByteArray := prog_10_method_31_code
def yX8_holderOf : MethodName := ⟨RX8, "holderOf", "(I)I"⟩
abbrev cX8_undo : ByteArray := prog_10_method_32_code
def yX8_undo : MethodName := ⟨RX8, "undo", "(I)I"⟩
abbrev cX8_redo : ByteArray := prog_10_method_33_code
def yX8_redo : MethodName := ⟨RX8, "redo", "(I)I"⟩
abbrev cX8_acts : ByteArray := prog_10_method_34_code
def yX8_acts : MethodName := ⟨RX8, "acts", "()I"⟩
abbrev cX8_isLive : ByteArray := prog_10_method_35_code
def yX8_isLive : MethodName := ⟨RX8, "isLive", "(I)Z"⟩
abbrev cX8_holder : ByteArray := prog_10_method_36_code
def yX8_holder : MethodName := ⟨RX8, "holder", "(I)I"⟩
abbrev cX8_shapes : ByteArray := prog_10_method_37_code
def yX8_shapes : MethodName := ⟨RX8, "shapes", "()I"⟩
abbrev cX8_there : ByteArray := prog_10_method_38_code
def yX8_there : MethodName := ⟨RX8, "there", "()J"⟩
abbrev cX8_place : ByteArray := prog_10_method_39_code
def yX8_place : MethodName := ⟨RX8, "place", "(I)I"⟩
abbrev cX8_colour : ByteArray := prog_10_method_40_code
def yX8_colour : MethodName := ⟨RX8, "colour", "(I)I"⟩
abbrev cX8_above : ByteArray := prog_10_method_41_code
def yX8_above : MethodName := ⟨RX8, "above", "(I)I"⟩
abbrev cX8_group : ByteArray := prog_10_method_42_code
def yX8_group : MethodName := ⟨RX8, "group", "(I)J"⟩
abbrev cX8_seen : ByteArray := prog_10_method_43_code
def yX8_seen : MethodName := ⟨RX8, "seen", "(II)I"⟩
abbrev cX8_seenAnew : ByteArray := prog_10_method_44_code
def yX8_seenAnew : MethodName := ⟨RX8, "seenAnew", "(II)I"⟩
abbrev cX8_viewedAt : ByteArray := prog_10_method_45_code
def yX8_viewedAt : MethodName := ⟨RX8, "viewedAt", "(III)I"⟩
abbrev cX8_isViewed : ByteArray := prog_10_method_46_code
def yX8_isViewed : MethodName := ⟨RX8, "isViewed", "(II)Z"⟩
abbrev cX8_isEmpty : ByteArray := prog_10_method_47_code
def yX8_isEmpty : MethodName := ⟨RX8, "isEmpty", "(IIII)Z"⟩
abbrev cX8_keeps : ByteArray := prog_10_method_48_code
def yX8_keeps : MethodName := ⟨RX8, "keeps", "(I)V"⟩
abbrev cX8_freeze : ByteArray := prog_10_method_49_code
def yX8_freeze : MethodName := ⟨RX8, "freeze", "(IIIIIII)I"⟩
abbrev cX8_withdraw : ByteArray := prog_10_method_50_code
def yX8_withdraw : MethodName := ⟨RX8, "withdraw", "(I)I"⟩
abbrev cX8_viewed : ByteArray := prog_10_method_51_code
def yX8_viewed : MethodName := ⟨RX8, "viewed", "(III)I"⟩
abbrev cX8_area : ByteArray := prog_10_method_52_code
def yX8_area : MethodName := ⟨RX8, "area", "(II)I"⟩
abbrev cX8_shares : ByteArray := prog_10_method_53_code
def yX8_shares : MethodName := ⟨RX8, "shares", "(II)V"⟩
abbrev cX8_sells : ByteArray := prog_10_method_54_code
def yX8_sells : MethodName := ⟨RX8, "sells", "(III)V"⟩
abbrev cX8_sell : ByteArray := prog_10_method_55_code
def yX8_sell : MethodName := ⟨RX8, "sell", "(II)I"⟩
abbrev cX8_resell : ByteArray := prog_10_method_56_code
def yX8_resell : MethodName := ⟨RX8, "resell", "(IIII)I"⟩
abbrev cX8_takeDown : ByteArray := prog_10_method_57_code
def yX8_takeDown : MethodName := ⟨RX8, "takeDown", "(I)I"⟩
abbrev cX8_changed : ByteArray := prog_10_method_58_code
def yX8_changed : MethodName := ⟨RX8, "changed", "(II)I"⟩
abbrev cX8_accept : ByteArray := prog_10_method_59_code
def yX8_accept : MethodName := ⟨RX8, "accept", "(II)I"⟩
abbrev cX8_giveBack : ByteArray := prog_10_method_60_code
def yX8_giveBack : MethodName := ⟨RX8, "giveBack", "(II)I"⟩
abbrev cX8_copyState : ByteArray := prog_10_method_61_code
def yX8_copyState : MethodName := ⟨RX8, "copyState", "(II)I"⟩
abbrev cX8_owner : ByteArray := prog_10_method_62_code
def yX8_owner : MethodName := ⟨RX8, "owner", "(II)I"⟩
abbrev cX8_money : ByteArray := prog_10_method_63_code
def yX8_money : MethodName := ⟨RX8, "money", "(I)I"⟩
abbrev cX8_moneyAnew : ByteArray := prog_10_method_64_code
def yX8_moneyAnew : MethodName := ⟨RX8, "moneyAnew", "(I)I"⟩
abbrev cX8_purse : ByteArray := prog_10_method_65_code
def yX8_purse : MethodName := ⟨RX8, "purse", "(I)I"⟩
abbrev cX8_house : ByteArray := prog_10_method_66_code
def yX8_house : MethodName := ⟨RX8, "house", "()I"⟩
def RJx145de : String := "java/io/Serializable"
def TJx145de : u_T := fun k => match k with
  | _ => ("", "", "", false)
def tyJx145de : Nat → FieldType := fun k => match k with
  | _ => .int
abbrev wsJx145de0 : List Cond := u_ws RJx145de TJx145de 0
theorem nmJx145de : ∀ a, a < 0 → ∀ b, b < 0 → a ≠ b → (TJx145de a).2.1 ≠ (TJx145de b).2.1 := by decide +kernel
theorem tyJx145de_ok : ∀ k, k < 0 → parseFieldDescriptor (TJx145de k).2.2.1 = some (tyJx145de k) := by decide +kernel
def RJx8e188 : String := "java/lang/Cloneable"
def TJx8e188 : u_T := fun k => match k with
  | _ => ("", "", "", false)
def tyJx8e188 : Nat → FieldType := fun k => match k with
  | _ => .int
abbrev wsJx8e1880 : List Cond := u_ws RJx8e188 TJx8e188 0
theorem nmJx8e188 : ∀ a, a < 0 → ∀ b, b < 0 → a ≠ b → (TJx8e188 a).2.1 ≠ (TJx8e188 b).2.1 := by decide +kernel
theorem tyJx8e188_ok : ∀ k, k < 0 → parseFieldDescriptor (TJx8e188 k).2.2.1 = some (tyJx8e188 k) := by decide +kernel
def RJ6 : String := "java/lang/Integer"
def TJ6 : u_T := fun k => match k with
  | _ => ("", "", "", false)
def tyJ6 : Nat → FieldType := fun k => match k with
  | _ => .int
abbrev wsJ60 : List Cond := u_ws RJ6 TJ6 0
theorem nmJ6 : ∀ a, a < 0 → ∀ b, b < 0 → a ≠ b → (TJ6 a).2.1 ≠ (TJ6 b).2.1 := by decide +kernel
theorem tyJ6_ok : ∀ k, k < 0 → parseFieldDescriptor (TJ6 k).2.2.1 = some (tyJ6 k) := by decide +kernel
abbrev cJ6_bitCount_0f7a4 : ByteArray := prog_17_method_49_code
def yJ6_bitCount_0f7a4 : MethodName := ⟨RJ6, "bitCount", "(I)I"⟩
def RJxab1ab : String := "java/lang/Iterable"
def TJxab1ab : u_T := fun k => match k with
  | _ => ("", "", "", false)
def tyJxab1ab : Nat → FieldType := fun k => match k with
  | _ => .int
abbrev wsJxab1ab0 : List Cond := u_ws RJxab1ab TJxab1ab 0
theorem nmJxab1ab : ∀ a, a < 0 → ∀ b, b < 0 → a ≠ b → (TJxab1ab a).2.1 ≠ (TJxab1ab b).2.1 := by decide +kernel
theorem tyJxab1ab_ok : ∀ k, k < 0 → parseFieldDescriptor (TJxab1ab k).2.2.1 = some (tyJxab1ab k) := by decide +kernel
def RJ13 : String := "java/lang/Long"
def TJ13 : u_T := fun k => match k with
  | _ => ("", "", "", false)
def tyJ13 : Nat → FieldType := fun k => match k with
  | _ => .int
abbrev wsJ130 : List Cond := u_ws RJ13 TJ13 0
theorem nmJ13 : ∀ a, a < 0 → ∀ b, b < 0 → a ≠ b → (TJ13 a).2.1 ≠ (TJ13 b).2.1 := by decide +kernel
theorem tyJ13_ok : ∀ k, k < 0 → parseFieldDescriptor (TJ13 k).2.2.1 = some (tyJ13 k) := by decide +kernel
abbrev cJ13_bitCount_95d88 : ByteArray := prog_19_method_50_code
def yJ13_bitCount_95d88 : MethodName := ⟨RJ13, "bitCount", "(J)I"⟩
def RJ9 : String := "java/lang/Math"
def TJ9 : u_T := fun k => match k with
  | _ => ("", "", "", false)
def tyJ9 : Nat → FieldType := fun k => match k with
  | _ => .int
abbrev wsJ90 : List Cond := u_ws RJ9 TJ9 0
theorem nmJ9 : ∀ a, a < 0 → ∀ b, b < 0 → a ≠ b → (TJ9 a).2.1 ≠ (TJ9 b).2.1 := by decide +kernel
theorem tyJ9_ok : ∀ k, k < 0 → parseFieldDescriptor (TJ9 k).2.2.1 = some (tyJ9 k) := by decide +kernel
abbrev cJ9_max_7cf53 : ByteArray := prog_20_method_65_code
def yJ9_max_7cf53 : MethodName := ⟨RJ9, "max", "(II)I"⟩
abbrev cJ9_min_7cf53 : ByteArray := prog_20_method_69_code
def yJ9_min_7cf53 : MethodName := ⟨RJ9, "min", "(II)I"⟩
def RJ0 : String := "java/lang/String"
def TJ0 : u_T := fun k => match k with
  | _ => ("", "", "", false)
def tyJ0 : Nat → FieldType := fun k => match k with
  | _ => .int
abbrev wsJ00 : List Cond := u_ws RJ0 TJ0 0
theorem nmJ0 : ∀ a, a < 0 → ∀ b, b < 0 → a ≠ b → (TJ0 a).2.1 ≠ (TJ0 b).2.1 := by decide +kernel
theorem tyJ0_ok : ∀ k, k < 0 → parseFieldDescriptor (TJ0 k).2.2.1 = some (tyJ0 k) := by decide +kernel
def RJ10 : String := "java/lang/System"
def TJ10 : u_T := fun k => match k with
  | _ => ("", "", "", false)
def tyJ10 : Nat → FieldType := fun k => match k with
  | _ => .int
abbrev wsJ100 : List Cond := u_ws RJ10 TJ10 0
theorem nmJ10 : ∀ a, a < 0 → ∀ b, b < 0 → a ≠ b → (TJ10 a).2.1 ≠ (TJ10 b).2.1 := by decide +kernel
theorem tyJ10_ok : ∀ k, k < 0 → parseFieldDescriptor (TJ10 k).2.2.1 = some (tyJ10 k) := by decide +kernel
def RJxa1e45 : String := "java/util/AbstractCollection"
def TJxa1e45 : u_T := fun k => match k with
  | _ => ("", "", "", false)
def tyJxa1e45 : Nat → FieldType := fun k => match k with
  | _ => .int
abbrev wsJxa1e450 : List Cond := u_ws RJxa1e45 TJxa1e45 0
theorem nmJxa1e45 : ∀ a, a < 0 → ∀ b, b < 0 → a ≠ b → (TJxa1e45 a).2.1 ≠ (TJxa1e45 b).2.1 := by decide +kernel
theorem tyJxa1e45_ok : ∀ k, k < 0 → parseFieldDescriptor (TJxa1e45 k).2.2.1 = some (tyJxa1e45 k) := by decide +kernel
abbrev cJxa1e45_init_da8c8 : ByteArray := prog_25_method_1_code
def yJxa1e45_init_da8c8 : MethodName := ⟨RJxa1e45, "<init>", "()V"⟩
def RJxc12de : String := "java/util/AbstractList"
def TJxc12de : u_T := fun k => match k with
  | _ => ("", "", "", false)
def tyJxc12de : Nat → FieldType := fun k => match k with
  | _ => .int
abbrev wsJxc12de0 : List Cond := u_ws RJxc12de TJxc12de 0
theorem nmJxc12de : ∀ a, a < 0 → ∀ b, b < 0 → a ≠ b → (TJxc12de a).2.1 ≠ (TJxc12de b).2.1 := by decide +kernel
theorem tyJxc12de_ok : ∀ k, k < 0 → parseFieldDescriptor (TJxc12de k).2.2.1 = some (tyJxc12de k) := by decide +kernel
abbrev cJxc12de_init_da8c8 : ByteArray := prog_26_method_1_code
def yJxc12de_init_da8c8 : MethodName := ⟨RJxc12de, "<init>", "()V"⟩
def RJx4a65c : String := "java/util/ArrayList"
def TJx4a65c : u_T := fun k => match k with
  | 0 => ("java/util/AbstractList", "modCount", "I", false)
  | 1 => ("java/util/ArrayList", "elementData", "[Ljava/lang/Object;", false)
  | _ => ("java/util/ArrayList", "size", "I", false)
def tyJx4a65c : Nat → FieldType := fun k => match k with
  | 0 => .int
  | 1 => .array (.object "java/lang/Object")
  | _ => .int
abbrev wsJx4a65c0 : List Cond := u_ws RJx4a65c TJx4a65c 3
theorem nmJx4a65c : ∀ a, a < 3 → ∀ b, b < 3 → a ≠ b → (TJx4a65c a).2.1 ≠ (TJx4a65c b).2.1 := by decide +kernel
theorem tyJx4a65c_ok : ∀ k, k < 3 → parseFieldDescriptor (TJx4a65c k).2.2.1 = some (tyJx4a65c k) := by decide +kernel
abbrev cJx4a65c_init_da8c8 : ByteArray := prog_27_method_2_code
def yJx4a65c_init_da8c8 : MethodName := ⟨RJx4a65c, "<init>", "()V"⟩
abbrev cJx4a65c_grow_92f84 : ByteArray := prog_27_method_6_code
def yJx4a65c_grow_92f84 : MethodName := ⟨RJx4a65c, "grow", "(I)[Ljava/lang/Object;"⟩
abbrev cJx4a65c_grow_d5877 : ByteArray := prog_27_method_7_code
def yJx4a65c_grow_d5877 : MethodName := ⟨RJx4a65c, "grow", "()[Ljava/lang/Object;"⟩
abbrev cJx4a65c_size_8abf5 : ByteArray := prog_27_method_8_code
def yJx4a65c_size_8abf5 : MethodName := ⟨RJx4a65c, "size", "()I"⟩
abbrev cJx4a65c_elementData_915e3 : ByteArray := prog_27_method_18_code
def yJx4a65c_elementData_915e3 : MethodName := ⟨RJx4a65c, "elementData", "(I)Ljava/lang/Object;"⟩
abbrev cJx4a65c_get_915e3 : ByteArray := prog_27_method_20_code
def yJx4a65c_get_915e3 : MethodName := ⟨RJx4a65c, "get", "(I)Ljava/lang/Object;"⟩
abbrev cJx4a65c_add_72be8 : ByteArray := prog_27_method_24_code
def yJx4a65c_add_72be8 : MethodName := ⟨RJx4a65c, "add", "(Ljava/lang/Object;[Ljava/lang/Object;I)V"⟩
abbrev cJx4a65c_add_9ea2d : ByteArray := prog_27_method_25_code
def yJx4a65c_add_9ea2d : MethodName := ⟨RJx4a65c, "add", "(Ljava/lang/Object;)Z"⟩
def RJ7 : String := "java/util/Arrays"
def TJ7 : u_T := fun k => match k with
  | _ => ("", "", "", false)
def tyJ7 : Nat → FieldType := fun k => match k with
  | _ => .int
abbrev wsJ70 : List Cond := u_ws RJ7 TJ7 0
theorem nmJ7 : ∀ a, a < 0 → ∀ b, b < 0 → a ≠ b → (TJ7 a).2.1 ≠ (TJ7 b).2.1 := by decide +kernel
theorem tyJ7_ok : ∀ k, k < 0 → parseFieldDescriptor (TJ7 k).2.2.1 = some (tyJ7 k) := by decide +kernel
abbrev cJ7_fill_53178 : ByteArray := prog_28_method_103_code
def yJ7_fill_53178 : MethodName := ⟨RJ7, "fill", "([II)V"⟩
abbrev cJ7_copyOf_1904c : ByteArray := prog_28_method_119_code
def yJ7_copyOf_1904c : MethodName := ⟨RJ7, "copyOf", "([Ljava/lang/Object;I)[Ljava/lang/Object;"⟩
abbrev cJ7_copyOf_6403c : ByteArray := prog_28_method_120_code
def yJ7_copyOf_6403c : MethodName := ⟨RJ7, "copyOf", "([Ljava/lang/Object;ILjava/lang/Class;)[Ljava/lang/Object;"⟩
def RJx5ef63 : String := "java/util/Collection"
def TJx5ef63 : u_T := fun k => match k with
  | _ => ("", "", "", false)
def tyJx5ef63 : Nat → FieldType := fun k => match k with
  | _ => .int
abbrev wsJx5ef630 : List Cond := u_ws RJx5ef63 TJx5ef63 0
theorem nmJx5ef63 : ∀ a, a < 0 → ∀ b, b < 0 → a ≠ b → (TJx5ef63 a).2.1 ≠ (TJx5ef63 b).2.1 := by decide +kernel
theorem tyJx5ef63_ok : ∀ k, k < 0 → parseFieldDescriptor (TJx5ef63 k).2.2.1 = some (tyJx5ef63 k) := by decide +kernel
def RJxbd725 : String := "java/util/List"
def TJxbd725 : u_T := fun k => match k with
  | _ => ("", "", "", false)
def tyJxbd725 : Nat → FieldType := fun k => match k with
  | _ => .int
abbrev wsJxbd7250 : List Cond := u_ws RJxbd725 TJxbd725 0
theorem nmJxbd725 : ∀ a, a < 0 → ∀ b, b < 0 → a ≠ b → (TJxbd725 a).2.1 ≠ (TJxbd725 b).2.1 := by decide +kernel
theorem tyJxbd725_ok : ∀ k, k < 0 → parseFieldDescriptor (TJxbd725 k).2.2.1 = some (tyJxbd725 k) := by decide +kernel
def RJ15 : String := "java/util/Objects"
def TJ15 : u_T := fun k => match k with
  | _ => ("", "", "", false)
def tyJ15 : Nat → FieldType := fun k => match k with
  | _ => .int
abbrev wsJ150 : List Cond := u_ws RJ15 TJ15 0
theorem nmJ15 : ∀ a, a < 0 → ∀ b, b < 0 → a ≠ b → (TJ15 a).2.1 ≠ (TJ15 b).2.1 := by decide +kernel
theorem tyJ15_ok : ∀ k, k < 0 → parseFieldDescriptor (TJ15 k).2.2.1 = some (tyJ15 k) := by decide +kernel
abbrev cJ15_checkIndex_7cf53 : ByteArray := prog_31_method_17_code
def yJ15_checkIndex_7cf53 : MethodName := ⟨RJ15, "checkIndex", "(II)I"⟩
def RJxf0a74 : String := "java/util/RandomAccess"
def TJxf0a74 : u_T := fun k => match k with
  | _ => ("", "", "", false)
def tyJxf0a74 : Nat → FieldType := fun k => match k with
  | _ => .int
abbrev wsJxf0a740 : List Cond := u_ws RJxf0a74 TJxf0a74 0
theorem nmJxf0a74 : ∀ a, a < 0 → ∀ b, b < 0 → a ≠ b → (TJxf0a74 a).2.1 ≠ (TJxf0a74 b).2.1 := by decide +kernel
theorem tyJxf0a74_ok : ∀ k, k < 0 → parseFieldDescriptor (TJxf0a74 k).2.2.1 = some (tyJxf0a74 k) := by decide +kernel
def RJxa66e6 : String := "java/util/SequencedCollection"
def TJxa66e6 : u_T := fun k => match k with
  | _ => ("", "", "", false)
def tyJxa66e6 : Nat → FieldType := fun k => match k with
  | _ => .int
abbrev wsJxa66e60 : List Cond := u_ws RJxa66e6 TJxa66e6 0
theorem nmJxa66e6 : ∀ a, a < 0 → ∀ b, b < 0 → a ≠ b → (TJxa66e6 a).2.1 ≠ (TJxa66e6 b).2.1 := by decide +kernel
theorem tyJxa66e6_ok : ∀ k, k < 0 → parseFieldDescriptor (TJxa66e6 k).2.2.1 = some (tyJxa66e6 k) := by decide +kernel
def RJ8 : String := "jdk/internal/util/ArraysSupport"
def TJ8 : u_T := fun k => match k with
  | _ => ("", "", "", false)
def tyJ8 : Nat → FieldType := fun k => match k with
  | _ => .int
abbrev wsJ80 : List Cond := u_ws RJ8 TJ8 0
theorem nmJ8 : ∀ a, a < 0 → ∀ b, b < 0 → a ≠ b → (TJ8 a).2.1 ≠ (TJ8 b).2.1 := by decide +kernel
theorem tyJ8_ok : ∀ k, k < 0 → parseFieldDescriptor (TJ8 k).2.2.1 = some (tyJ8 k) := by decide +kernel
abbrev cJ8_newLength_cabcc : ByteArray := prog_34_method_27_code
def yJ8_newLength_cabcc : MethodName := ⟨RJ8, "newLength", "(III)I"⟩
abbrev cJ8_hugeLength_7cf53 : ByteArray := prog_34_method_28_code
def yJ8_hugeLength_7cf53 : MethodName := ⟨RJ8, "hugeLength", "(II)I"⟩
def RJ3 : String := "jdk/internal/util/Preconditions"
def TJ3 : u_T := fun k => match k with
  | _ => ("", "", "", false)
def tyJ3 : Nat → FieldType := fun k => match k with
  | _ => .int
abbrev wsJ30 : List Cond := u_ws RJ3 TJ3 0
theorem nmJ3 : ∀ a, a < 0 → ∀ b, b < 0 → a ≠ b → (TJ3 a).2.1 ≠ (TJ3 b).2.1 := by decide +kernel
theorem tyJ3_ok : ∀ k, k < 0 → parseFieldDescriptor (TJ3 k).2.2.1 = some (tyJ3 k) := by decide +kernel
abbrev cJ3_checkIndex_8e157 : ByteArray := prog_35_method_11_code
def yJ3_checkIndex_8e157 : MethodName := ⟨RJ3, "checkIndex", "(IILjava/util/function/BiFunction;)I"⟩
def RL : String := "CanvasRoomLaw"
abbrev cL_add : ByteArray := method_3_code
def yL_add : MethodName := ⟨RL, "add", "(LCanvasRoom;IIIIII[J)I"⟩
abbrev cL_move : ByteArray := method_4_code
def yL_move : MethodName := ⟨RL, "move", "(LCanvasRoom;IIII[J)I"⟩
abbrev cL_paint : ByteArray := method_5_code
def yL_paint : MethodName := ⟨RL, "paint", "(LCanvasRoom;III[J)I"⟩
abbrev cL_layer : ByteArray := method_6_code
def yL_layer : MethodName := ⟨RL, "layer", "(LCanvasRoom;IIZ[J)I"⟩
abbrev cL_join : ByteArray := method_7_code
def yL_join : MethodName := ⟨RL, "join", "(LCanvasRoom;III[J)I"⟩
abbrev cL_part : ByteArray := method_8_code
def yL_part : MethodName := ⟨RL, "part", "(LCanvasRoom;II[J)I"⟩
abbrev cL_drop : ByteArray := method_9_code
def yL_drop : MethodName := ⟨RL, "drop", "(LCanvasRoom;II[J)I"⟩
abbrev cL_undo : ByteArray := method_10_code
def yL_undo : MethodName := ⟨RL, "undo", "(LCanvasRoom;I[J)I"⟩
abbrev cL_redo : ByteArray := method_11_code
def yL_redo : MethodName := ⟨RL, "redo", "(LCanvasRoom;I[J)I"⟩
abbrev cL_isLive : ByteArray := method_12_code
def yL_isLive : MethodName := ⟨RL, "isLive", "(LCanvasRoom;I[J)I"⟩
abbrev cL_holder : ByteArray := method_13_code
def yL_holder : MethodName := ⟨RL, "holder", "(LCanvasRoom;I[J)I"⟩
abbrev cL_place : ByteArray := method_14_code
def yL_place : MethodName := ⟨RL, "place", "(LCanvasRoom;I[J)I"⟩
abbrev cL_colour : ByteArray := method_15_code
def yL_colour : MethodName := ⟨RL, "colour", "(LCanvasRoom;I[J)I"⟩
abbrev cL_above : ByteArray := method_16_code
def yL_above : MethodName := ⟨RL, "above", "(LCanvasRoom;I[J)I"⟩
abbrev cL_group : ByteArray := method_17_code
def yL_group : MethodName := ⟨RL, "group", "(LCanvasRoom;I[J)I"⟩
abbrev cL_seen : ByteArray := method_18_code
def yL_seen : MethodName := ⟨RL, "seen", "(LCanvasRoom;II[J)I"⟩
abbrev cL_seenAnew : ByteArray := method_19_code
def yL_seenAnew : MethodName := ⟨RL, "seenAnew", "(LCanvasRoom;II[J)I"⟩
abbrev cL_freeze : ByteArray := method_20_code
def yL_freeze : MethodName := ⟨RL, "freeze", "(LCanvasRoom;IIIIIII[J)I"⟩
abbrev cL_withdraw : ByteArray := method_21_code
def yL_withdraw : MethodName := ⟨RL, "withdraw", "(LCanvasRoom;I[J)I"⟩
abbrev cL_viewed : ByteArray := method_22_code
def yL_viewed : MethodName := ⟨RL, "viewed", "(LCanvasRoom;III[J)I"⟩
abbrev cL_area : ByteArray := method_23_code
def yL_area : MethodName := ⟨RL, "area", "(LCanvasRoom;II[J)I"⟩
abbrev cL_sell : ByteArray := method_24_code
def yL_sell : MethodName := ⟨RL, "sell", "(LCanvasRoom;II[J)I"⟩
abbrev cL_resell : ByteArray := method_25_code
def yL_resell : MethodName := ⟨RL, "resell", "(LCanvasRoom;IIII[J)I"⟩
abbrev cL_takeDown : ByteArray := method_26_code
def yL_takeDown : MethodName := ⟨RL, "takeDown", "(LCanvasRoom;I[J)I"⟩
abbrev cL_accept : ByteArray := method_27_code
def yL_accept : MethodName := ⟨RL, "accept", "(LCanvasRoom;II[J)I"⟩
abbrev cL_giveBack : ByteArray := method_28_code
def yL_giveBack : MethodName := ⟨RL, "giveBack", "(LCanvasRoom;II[J)I"⟩
abbrev cL_copyState : ByteArray := method_29_code
def yL_copyState : MethodName := ⟨RL, "copyState", "(LCanvasRoom;II[J)I"⟩
abbrev cL_owner : ByteArray := method_30_code
def yL_owner : MethodName := ⟨RL, "owner", "(LCanvasRoom;II[J)I"⟩
abbrev cL_money : ByteArray := method_31_code
def yL_money : MethodName := ⟨RL, "money", "(LCanvasRoom;I[J)I"⟩
abbrev cL_moneyAnew : ByteArray := method_32_code
def yL_moneyAnew : MethodName := ⟨RL, "moneyAnew", "(LCanvasRoom;I[J)I"⟩
abbrev cL_purse : ByteArray := method_33_code
def yL_purse : MethodName := ⟨RL, "purse", "(LCanvasRoom;I[J)I"⟩
abbrev cL_law : ByteArray := code
def yL_law : MethodName := ⟨RL, "law", "([I)Z"⟩
abbrev vwCl : List vw_C := [(RJx4a65c, TJx4a65c, 3), (RX0, TX0, 7), (RX1, TX1, 10), (RX2, TX2, 4), (RX3, TX3, 10), (RX4, TX4, 3), (RX5, TX5, 6), (RX6, TX6, 4), (RX7, TX7, 11), (RX8, TX8, 49)]
/-- the words of the tables that stay true at every call -/
def WS : List Cond := lw_tbl.filter goodWord
theorem ws_in {w : Cond} (i : Nat) (h : lw_tbl[i]? = some w) (hg : goodWord w = true) : w ∈ WS := List.mem_filter.mpr ⟨List.mem_of_getElem? h, hg⟩
theorem ws_tbl {w : Cond} (h : w ∈ WS) : w ∈ lw_tbl := (List.mem_filter.mp h).1
theorem ws_good {w : Cond} (h : w ∈ WS) : goodWord w = true := (List.mem_filter.mp h).2
end
section
theorem dX0_init_0 : decode cX0_init 0 = .ok (.aload_n 0, 1) := by decide +kernel
theorem dX0_init_1 : decode cX0_init 1 = .ok (.invokespecial 3, 3) := by decide +kernel
theorem dX0_init_4 : decode cX0_init 4 = .ok (.aload_n 0, 1) := by decide +kernel
theorem dX0_init_5 : decode cX0_init 5 = .ok (.iconst 1, 1) := by decide +kernel
theorem dX0_init_6 : decode cX0_init 6 = .ok (.putfield 9, 3) := by decide +kernel
theorem dX0_init_9 : decode cX0_init 9 = .ok (.aload_n 0, 1) := by decide +kernel
theorem dX0_init_10 : decode cX0_init 10 = .ok (.iload_n 1, 1) := by decide +kernel
theorem dX0_init_11 : decode cX0_init 11 = .ok (.putfield 15, 3) := by decide +kernel
theorem dX0_init_14 : decode cX0_init 14 = .ok (.aload_n 0, 1) := by decide +kernel
theorem dX0_init_15 : decode cX0_init 15 = .ok (.iload_n 2, 1) := by decide +kernel
theorem dX0_init_16 : decode cX0_init 16 = .ok (.putfield 19, 3) := by decide +kernel
theorem dX0_init_19 : decode cX0_init 19 = .ok (.aload_n 0, 1) := by decide +kernel
theorem dX0_init_20 : decode cX0_init 20 = .ok (.iload_n 3, 1) := by decide +kernel
theorem dX0_init_21 : decode cX0_init 21 = .ok (.putfield 22, 3) := by decide +kernel
theorem dX0_init_24 : decode cX0_init 24 = .ok (.aload_n 0, 1) := by decide +kernel
theorem dX0_init_25 : decode cX0_init 25 = .ok (.iload 4, 2) := by decide +kernel
theorem dX0_init_27 : decode cX0_init 27 = .ok (.putfield 25, 3) := by decide +kernel
theorem dX0_init_30 : decode cX0_init 30 = .ok (.aload_n 0, 1) := by decide +kernel
theorem dX0_init_31 : decode cX0_init 31 = .ok (.iload 5, 2) := by decide +kernel
theorem dX0_init_33 : decode cX0_init 33 = .ok (.putfield 28, 3) := by decide +kernel
theorem dX0_init_36 : decode cX0_init 36 = .ok (.return_, 1) := by decide +kernel
theorem dX0_isNaming_0 : decode cX0_isNaming 0 = .ok (.aload_n 0, 1) := by decide +kernel
theorem dX0_isNaming_1 : decode cX0_isNaming 1 = .ok (.getfield 22, 3) := by decide +kernel
theorem dX0_isNaming_4 : decode cX0_isNaming 4 = .ok (.iload_n 1, 1) := by decide +kernel
theorem dX0_isNaming_5 : decode cX0_isNaming 5 = .ok (.if_icmp .eq 19, 3) := by decide +kernel
theorem dX0_isNaming_8 : decode cX0_isNaming 8 = .ok (.aload_n 0, 1) := by decide +kernel
theorem dX0_isNaming_9 : decode cX0_isNaming 9 = .ok (.getfield 19, 3) := by decide +kernel
theorem dX0_isNaming_12 : decode cX0_isNaming 12 = .ok (.iconst 5, 1) := by decide +kernel
theorem dX0_isNaming_13 : decode cX0_isNaming 13 = .ok (.if_icmp .ne 15, 3) := by decide +kernel
theorem dX0_isNaming_16 : decode cX0_isNaming 16 = .ok (.aload_n 0, 1) := by decide +kernel
theorem dX0_isNaming_17 : decode cX0_isNaming 17 = .ok (.getfield 25, 3) := by decide +kernel
theorem dX0_isNaming_20 : decode cX0_isNaming 20 = .ok (.iload_n 1, 1) := by decide +kernel
theorem dX0_isNaming_21 : decode cX0_isNaming 21 = .ok (.if_icmp .ne 7, 3) := by decide +kernel
theorem dX0_isNaming_24 : decode cX0_isNaming 24 = .ok (.iconst 1, 1) := by decide +kernel
theorem dX0_isNaming_25 : decode cX0_isNaming 25 = .ok (.goto 4, 3) := by decide +kernel
theorem dX0_isNaming_28 : decode cX0_isNaming 28 = .ok (.iconst 0, 1) := by decide +kernel
theorem dX0_isNaming_29 : decode cX0_isNaming 29 = .ok (.ireturn, 1) := by decide +kernel
theorem dX1_init_0 : decode cX1_init 0 = .ok (.aload_n 0, 1) := by decide +kernel
theorem dX1_init_1 : decode cX1_init 1 = .ok (.invokespecial 3, 3) := by decide +kernel
theorem dX1_init_4 : decode cX1_init 4 = .ok (.aload_n 0, 1) := by decide +kernel
theorem dX1_init_5 : decode cX1_init 5 = .ok (.bipush 40, 2) := by decide +kernel
theorem dX1_init_7 : decode cX1_init 7 = .ok (.newarray .int, 2) := by decide +kernel
theorem dX1_init_9 : decode cX1_init 9 = .ok (.putfield 9, 3) := by decide +kernel
theorem dX1_init_12 : decode cX1_init 12 = .ok (.aload_n 0, 1) := by decide +kernel
theorem dX1_init_13 : decode cX1_init 13 = .ok (.bipush 40, 2) := by decide +kernel
theorem dX1_init_15 : decode cX1_init 15 = .ok (.newarray .int, 2) := by decide +kernel
theorem dX1_init_17 : decode cX1_init 17 = .ok (.putfield 15, 3) := by decide +kernel
theorem dX1_init_20 : decode cX1_init 20 = .ok (.aload_n 0, 1) := by decide +kernel
theorem dX1_init_21 : decode cX1_init 21 = .ok (.bipush 40, 2) := by decide +kernel
theorem dX1_init_23 : decode cX1_init 23 = .ok (.newarray .int, 2) := by decide +kernel
theorem dX1_init_25 : decode cX1_init 25 = .ok (.putfield 18, 3) := by decide +kernel
theorem dX1_init_28 : decode cX1_init 28 = .ok (.aload_n 0, 1) := by decide +kernel
theorem dX1_init_29 : decode cX1_init 29 = .ok (.bipush 40, 2) := by decide +kernel
theorem dX1_init_31 : decode cX1_init 31 = .ok (.newarray .int, 2) := by decide +kernel
theorem dX1_init_33 : decode cX1_init 33 = .ok (.putfield 21, 3) := by decide +kernel
theorem dX1_init_36 : decode cX1_init 36 = .ok (.aload_n 0, 1) := by decide +kernel
theorem dX1_init_37 : decode cX1_init 37 = .ok (.bipush 40, 2) := by decide +kernel
theorem dX1_init_39 : decode cX1_init 39 = .ok (.newarray .int, 2) := by decide +kernel
theorem dX1_init_41 : decode cX1_init 41 = .ok (.putfield 24, 3) := by decide +kernel
theorem dX1_init_44 : decode cX1_init 44 = .ok (.aload_n 0, 1) := by decide +kernel
theorem dX1_init_45 : decode cX1_init 45 = .ok (.bipush 40, 2) := by decide +kernel
theorem dX1_init_47 : decode cX1_init 47 = .ok (.newarray .int, 2) := by decide +kernel
theorem dX1_init_49 : decode cX1_init 49 = .ok (.putfield 27, 3) := by decide +kernel
theorem dX1_init_52 : decode cX1_init 52 = .ok (.aload_n 0, 1) := by decide +kernel
theorem dX1_init_53 : decode cX1_init 53 = .ok (.bipush 40, 2) := by decide +kernel
theorem dX1_init_55 : decode cX1_init 55 = .ok (.newarray .long, 2) := by decide +kernel
theorem dX1_init_57 : decode cX1_init 57 = .ok (.putfield 30, 3) := by decide +kernel
theorem dX1_init_60 : decode cX1_init 60 = .ok (.return_, 1) := by decide +kernel
theorem dX1_clear_0 : decode cX1_clear 0 = .ok (.aload_n 0, 1) := by decide +kernel
theorem dX1_clear_1 : decode cX1_clear 1 = .ok (.lconst 0, 1) := by decide +kernel
theorem dX1_clear_2 : decode cX1_clear 2 = .ok (.putfield 34, 3) := by decide +kernel
theorem dX1_clear_5 : decode cX1_clear 5 = .ok (.aload_n 0, 1) := by decide +kernel
theorem dX1_clear_6 : decode cX1_clear 6 = .ok (.iconst 0, 1) := by decide +kernel
theorem dX1_clear_7 : decode cX1_clear 7 = .ok (.putfield 38, 3) := by decide +kernel
theorem dX1_clear_10 : decode cX1_clear 10 = .ok (.aload_n 0, 1) := by decide +kernel
theorem dX1_clear_11 : decode cX1_clear 11 = .ok (.iconst 0, 1) := by decide +kernel
theorem dX1_clear_12 : decode cX1_clear 12 = .ok (.putfield 42, 3) := by decide +kernel
theorem dX1_clear_15 : decode cX1_clear 15 = .ok (.return_, 1) := by decide +kernel
theorem dX1_copy_0 : decode cX1_copy 0 = .ok (.aload_n 1, 1) := by decide +kernel
theorem dX1_copy_1 : decode cX1_copy 1 = .ok (.getfield 9, 3) := by decide +kernel
theorem dX1_copy_4 : decode cX1_copy 4 = .ok (.iconst 0, 1) := by decide +kernel
theorem dX1_copy_5 : decode cX1_copy 5 = .ok (.aload_n 0, 1) := by decide +kernel
theorem dX1_copy_6 : decode cX1_copy 6 = .ok (.getfield 9, 3) := by decide +kernel
theorem dX1_copy_9 : decode cX1_copy 9 = .ok (.iconst 0, 1) := by decide +kernel
theorem dX1_copy_10 : decode cX1_copy 10 = .ok (.bipush 40, 2) := by decide +kernel
theorem dX1_copy_12 : decode cX1_copy 12 = .ok (.invokestatic 45, 3) := by decide +kernel
theorem dX1_copy_15 : decode cX1_copy 15 = .ok (.aload_n 1, 1) := by decide +kernel
theorem dX1_copy_16 : decode cX1_copy 16 = .ok (.getfield 15, 3) := by decide +kernel
theorem dX1_copy_19 : decode cX1_copy 19 = .ok (.iconst 0, 1) := by decide +kernel
theorem dX1_copy_20 : decode cX1_copy 20 = .ok (.aload_n 0, 1) := by decide +kernel
theorem dX1_copy_21 : decode cX1_copy 21 = .ok (.getfield 15, 3) := by decide +kernel
theorem dX1_copy_24 : decode cX1_copy 24 = .ok (.iconst 0, 1) := by decide +kernel
theorem dX1_copy_25 : decode cX1_copy 25 = .ok (.bipush 40, 2) := by decide +kernel
theorem dX1_copy_27 : decode cX1_copy 27 = .ok (.invokestatic 45, 3) := by decide +kernel
theorem dX1_copy_30 : decode cX1_copy 30 = .ok (.aload_n 1, 1) := by decide +kernel
theorem dX1_copy_31 : decode cX1_copy 31 = .ok (.getfield 18, 3) := by decide +kernel
theorem dX1_copy_34 : decode cX1_copy 34 = .ok (.iconst 0, 1) := by decide +kernel
theorem dX1_copy_35 : decode cX1_copy 35 = .ok (.aload_n 0, 1) := by decide +kernel
theorem dX1_copy_36 : decode cX1_copy 36 = .ok (.getfield 18, 3) := by decide +kernel
theorem dX1_copy_39 : decode cX1_copy 39 = .ok (.iconst 0, 1) := by decide +kernel
theorem dX1_copy_40 : decode cX1_copy 40 = .ok (.bipush 40, 2) := by decide +kernel
theorem dX1_copy_42 : decode cX1_copy 42 = .ok (.invokestatic 45, 3) := by decide +kernel
theorem dX1_copy_45 : decode cX1_copy 45 = .ok (.aload_n 1, 1) := by decide +kernel
theorem dX1_copy_46 : decode cX1_copy 46 = .ok (.getfield 21, 3) := by decide +kernel
theorem dX1_copy_49 : decode cX1_copy 49 = .ok (.iconst 0, 1) := by decide +kernel
theorem dX1_copy_50 : decode cX1_copy 50 = .ok (.aload_n 0, 1) := by decide +kernel
theorem dX1_copy_51 : decode cX1_copy 51 = .ok (.getfield 21, 3) := by decide +kernel
theorem dX1_copy_54 : decode cX1_copy 54 = .ok (.iconst 0, 1) := by decide +kernel
theorem dX1_copy_55 : decode cX1_copy 55 = .ok (.bipush 40, 2) := by decide +kernel
theorem dX1_copy_57 : decode cX1_copy 57 = .ok (.invokestatic 45, 3) := by decide +kernel
theorem dX1_copy_60 : decode cX1_copy 60 = .ok (.aload_n 1, 1) := by decide +kernel
theorem dX1_copy_61 : decode cX1_copy 61 = .ok (.getfield 24, 3) := by decide +kernel
theorem dX1_copy_64 : decode cX1_copy 64 = .ok (.iconst 0, 1) := by decide +kernel
theorem dX1_copy_65 : decode cX1_copy 65 = .ok (.aload_n 0, 1) := by decide +kernel
theorem dX1_copy_66 : decode cX1_copy 66 = .ok (.getfield 24, 3) := by decide +kernel
theorem dX1_copy_69 : decode cX1_copy 69 = .ok (.iconst 0, 1) := by decide +kernel
theorem dX1_copy_70 : decode cX1_copy 70 = .ok (.bipush 40, 2) := by decide +kernel
theorem dX1_copy_72 : decode cX1_copy 72 = .ok (.invokestatic 45, 3) := by decide +kernel
theorem dX1_copy_75 : decode cX1_copy 75 = .ok (.aload_n 1, 1) := by decide +kernel
theorem dX1_copy_76 : decode cX1_copy 76 = .ok (.getfield 27, 3) := by decide +kernel
theorem dX1_copy_79 : decode cX1_copy 79 = .ok (.iconst 0, 1) := by decide +kernel
theorem dX1_copy_80 : decode cX1_copy 80 = .ok (.aload_n 0, 1) := by decide +kernel
theorem dX1_copy_81 : decode cX1_copy 81 = .ok (.getfield 27, 3) := by decide +kernel
theorem dX1_copy_84 : decode cX1_copy 84 = .ok (.iconst 0, 1) := by decide +kernel
theorem dX1_copy_85 : decode cX1_copy 85 = .ok (.bipush 40, 2) := by decide +kernel
theorem dX1_copy_87 : decode cX1_copy 87 = .ok (.invokestatic 45, 3) := by decide +kernel
theorem dX1_copy_90 : decode cX1_copy 90 = .ok (.aload_n 0, 1) := by decide +kernel
theorem dX1_copy_91 : decode cX1_copy 91 = .ok (.aload_n 1, 1) := by decide +kernel
theorem dX1_copy_92 : decode cX1_copy 92 = .ok (.getfield 34, 3) := by decide +kernel
theorem dX1_copy_95 : decode cX1_copy 95 = .ok (.putfield 34, 3) := by decide +kernel
theorem dX1_copy_98 : decode cX1_copy 98 = .ok (.return_, 1) := by decide +kernel
theorem dX1_has_0 : decode cX1_has 0 = .ok (.iload_n 1, 1) := by decide +kernel
theorem dX1_has_1 : decode cX1_has 1 = .ok (.ifCond .lt 27, 3) := by decide +kernel
theorem dX1_has_4 : decode cX1_has 4 = .ok (.iload_n 1, 1) := by decide +kernel
theorem dX1_has_5 : decode cX1_has 5 = .ok (.bipush 40, 2) := by decide +kernel
theorem dX1_has_7 : decode cX1_has 7 = .ok (.if_icmp .ge 21, 3) := by decide +kernel
theorem dX1_has_10 : decode cX1_has 10 = .ok (.aload_n 0, 1) := by decide +kernel
theorem dX1_has_11 : decode cX1_has 11 = .ok (.getfield 34, 3) := by decide +kernel
theorem dX1_has_14 : decode cX1_has 14 = .ok (.iload_n 1, 1) := by decide +kernel
theorem dX1_has_15 : decode cX1_has 15 = .ok (.invokestatic 51, 3) := by decide +kernel
theorem dX1_has_18 : decode cX1_has 18 = .ok (.land, 1) := by decide +kernel
theorem dX1_has_19 : decode cX1_has 19 = .ok (.lconst 0, 1) := by decide +kernel
theorem dX1_has_20 : decode cX1_has 20 = .ok (.lcmp, 1) := by decide +kernel
theorem dX1_has_21 : decode cX1_has 21 = .ok (.ifCond .eq 7, 3) := by decide +kernel
theorem dX1_has_24 : decode cX1_has 24 = .ok (.iconst 1, 1) := by decide +kernel
theorem dX1_has_25 : decode cX1_has 25 = .ok (.goto 4, 3) := by decide +kernel
theorem dX1_has_28 : decode cX1_has 28 = .ok (.iconst 0, 1) := by decide +kernel
theorem dX1_has_29 : decode cX1_has 29 = .ok (.ireturn, 1) := by decide +kernel
theorem dX1_groupSize_0 : decode cX1_groupSize 0 = .ok (.aload_n 0, 1) := by decide +kernel
theorem dX1_groupSize_1 : decode cX1_groupSize 1 = .ok (.iload_n 1, 1) := by decide +kernel
theorem dX1_groupSize_2 : decode cX1_groupSize 2 = .ok (.invokevirtual 55, 3) := by decide +kernel
theorem dX1_groupSize_5 : decode cX1_groupSize 5 = .ok (.ifCond .eq 15, 3) := by decide +kernel
theorem dX1_groupSize_8 : decode cX1_groupSize 8 = .ok (.aload_n 0, 1) := by decide +kernel
theorem dX1_groupSize_9 : decode cX1_groupSize 9 = .ok (.getfield 30, 3) := by decide +kernel
theorem dX1_groupSize_12 : decode cX1_groupSize 12 = .ok (.iload_n 1, 1) := by decide +kernel
theorem dX1_groupSize_13 : decode cX1_groupSize 13 = .ok (.laload, 1) := by decide +kernel
theorem dX1_groupSize_14 : decode cX1_groupSize 14 = .ok (.invokestatic 59, 3) := by decide +kernel
theorem dX1_groupSize_17 : decode cX1_groupSize 17 = .ok (.goto 4, 3) := by decide +kernel
theorem dX1_groupSize_20 : decode cX1_groupSize 20 = .ok (.iconst 0, 1) := by decide +kernel
theorem dX1_groupSize_21 : decode cX1_groupSize 21 = .ok (.ireturn, 1) := by decide +kernel
theorem dX1_countBelow_0 : decode cX1_countBelow 0 = .ok (.iconst 0, 1) := by decide +kernel
theorem dX1_countBelow_1 : decode cX1_countBelow 1 = .ok (.istore_n 2, 1) := by decide +kernel
theorem dX1_countBelow_2 : decode cX1_countBelow 2 = .ok (.iconst 0, 1) := by decide +kernel
theorem dX1_countBelow_3 : decode cX1_countBelow 3 = .ok (.istore_n 3, 1) := by decide +kernel
theorem dX1_countBelow_4 : decode cX1_countBelow 4 = .ok (.iload_n 3, 1) := by decide +kernel
theorem dX1_countBelow_5 : decode cX1_countBelow 5 = .ok (.bipush 40, 2) := by decide +kernel
theorem dX1_countBelow_7 : decode cX1_countBelow 7 = .ok (.if_icmp .ge 35, 3) := by decide +kernel
theorem dX1_countBelow_10 : decode cX1_countBelow 10 = .ok (.aload_n 0, 1) := by decide +kernel
theorem dX1_countBelow_11 : decode cX1_countBelow 11 = .ok (.iload_n 3, 1) := by decide +kernel
theorem dX1_countBelow_12 : decode cX1_countBelow 12 = .ok (.invokevirtual 55, 3) := by decide +kernel
theorem dX1_countBelow_15 : decode cX1_countBelow 15 = .ok (.ifCond .eq 21, 3) := by decide +kernel
theorem dX1_countBelow_18 : decode cX1_countBelow 18 = .ok (.aload_n 0, 1) := by decide +kernel
theorem dX1_countBelow_19 : decode cX1_countBelow 19 = .ok (.getfield 27, 3) := by decide +kernel
theorem dX1_countBelow_22 : decode cX1_countBelow 22 = .ok (.iload_n 3, 1) := by decide +kernel
theorem dX1_countBelow_23 : decode cX1_countBelow 23 = .ok (.iaload, 1) := by decide +kernel
theorem dX1_countBelow_24 : decode cX1_countBelow 24 = .ok (.aload_n 0, 1) := by decide +kernel
theorem dX1_countBelow_25 : decode cX1_countBelow 25 = .ok (.getfield 27, 3) := by decide +kernel
theorem dX1_countBelow_28 : decode cX1_countBelow 28 = .ok (.iload_n 1, 1) := by decide +kernel
theorem dX1_countBelow_29 : decode cX1_countBelow 29 = .ok (.iaload, 1) := by decide +kernel
theorem dX1_countBelow_30 : decode cX1_countBelow 30 = .ok (.if_icmp .ge 6, 3) := by decide +kernel
theorem dX1_countBelow_33 : decode cX1_countBelow 33 = .ok (.iinc 2 1, 3) := by decide +kernel
theorem dX1_countBelow_36 : decode cX1_countBelow 36 = .ok (.iinc 3 1, 3) := by decide +kernel
theorem dX1_countBelow_39 : decode cX1_countBelow 39 = .ok (.goto (-35), 3) := by decide +kernel
theorem dX1_countBelow_42 : decode cX1_countBelow 42 = .ok (.iload_n 2, 1) := by decide +kernel
theorem dX1_countBelow_43 : decode cX1_countBelow 43 = .ok (.ireturn, 1) := by decide +kernel
theorem dX1_put_0 : decode cX1_put 0 = .ok (.iload_n 1, 1) := by decide +kernel
theorem dX1_put_1 : decode cX1_put 1 = .ok (.ifCond .lt 9, 3) := by decide +kernel
theorem dX1_put_4 : decode cX1_put 4 = .ok (.iload_n 1, 1) := by decide +kernel
theorem dX1_put_5 : decode cX1_put 5 = .ok (.bipush 40, 2) := by decide +kernel
theorem dX1_put_7 : decode cX1_put 7 = .ok (.if_icmp .lt 4, 3) := by decide +kernel
theorem dX1_put_10 : decode cX1_put 10 = .ok (.return_, 1) := by decide +kernel
theorem dX1_put_11 : decode cX1_put 11 = .ok (.aload_n 0, 1) := by decide +kernel
theorem dX1_put_12 : decode cX1_put 12 = .ok (.getfield 9, 3) := by decide +kernel
theorem dX1_put_15 : decode cX1_put 15 = .ok (.iload_n 1, 1) := by decide +kernel
theorem dX1_put_16 : decode cX1_put 16 = .ok (.aload_n 2, 1) := by decide +kernel
theorem dX1_put_17 : decode cX1_put 17 = .ok (.getfield 65, 3) := by decide +kernel
theorem dX1_put_20 : decode cX1_put 20 = .ok (.iastore, 1) := by decide +kernel
theorem dX1_put_21 : decode cX1_put 21 = .ok (.aload_n 0, 1) := by decide +kernel
theorem dX1_put_22 : decode cX1_put 22 = .ok (.getfield 15, 3) := by decide +kernel
theorem dX1_put_25 : decode cX1_put 25 = .ok (.iload_n 1, 1) := by decide +kernel
theorem dX1_put_26 : decode cX1_put 26 = .ok (.aload_n 2, 1) := by decide +kernel
theorem dX1_put_27 : decode cX1_put 27 = .ok (.getfield 70, 3) := by decide +kernel
theorem dX1_put_30 : decode cX1_put 30 = .ok (.iastore, 1) := by decide +kernel
theorem dX1_put_31 : decode cX1_put 31 = .ok (.aload_n 0, 1) := by decide +kernel
theorem dX1_put_32 : decode cX1_put 32 = .ok (.getfield 18, 3) := by decide +kernel
theorem dX1_put_35 : decode cX1_put 35 = .ok (.iload_n 1, 1) := by decide +kernel
theorem dX1_put_36 : decode cX1_put 36 = .ok (.aload_n 2, 1) := by decide +kernel
theorem dX1_put_37 : decode cX1_put 37 = .ok (.getfield 73, 3) := by decide +kernel
theorem dX1_put_40 : decode cX1_put 40 = .ok (.iastore, 1) := by decide +kernel
theorem dX1_put_41 : decode cX1_put 41 = .ok (.aload_n 0, 1) := by decide +kernel
theorem dX1_put_42 : decode cX1_put 42 = .ok (.getfield 21, 3) := by decide +kernel
theorem dX1_put_45 : decode cX1_put 45 = .ok (.iload_n 1, 1) := by decide +kernel
theorem dX1_put_46 : decode cX1_put 46 = .ok (.aload_n 2, 1) := by decide +kernel
theorem dX1_put_47 : decode cX1_put 47 = .ok (.getfield 76, 3) := by decide +kernel
theorem dX1_put_50 : decode cX1_put 50 = .ok (.iastore, 1) := by decide +kernel
theorem dX1_put_51 : decode cX1_put 51 = .ok (.aload_n 0, 1) := by decide +kernel
theorem dX1_put_52 : decode cX1_put 52 = .ok (.getfield 24, 3) := by decide +kernel
theorem dX1_put_55 : decode cX1_put 55 = .ok (.iload_n 1, 1) := by decide +kernel
theorem dX1_put_56 : decode cX1_put 56 = .ok (.aload_n 2, 1) := by decide +kernel
theorem dX1_put_57 : decode cX1_put 57 = .ok (.getfield 79, 3) := by decide +kernel
theorem dX1_put_60 : decode cX1_put 60 = .ok (.iastore, 1) := by decide +kernel
theorem dX1_put_61 : decode cX1_put 61 = .ok (.aload_n 0, 1) := by decide +kernel
theorem dX1_put_62 : decode cX1_put 62 = .ok (.getfield 27, 3) := by decide +kernel
theorem dX1_put_65 : decode cX1_put 65 = .ok (.iload_n 1, 1) := by decide +kernel
theorem dX1_put_66 : decode cX1_put 66 = .ok (.aload_n 0, 1) := by decide +kernel
theorem dX1_put_67 : decode cX1_put 67 = .ok (.dup, 1) := by decide +kernel
theorem dX1_put_68 : decode cX1_put 68 = .ok (.getfield 38, 3) := by decide +kernel
theorem dX1_put_71 : decode cX1_put 71 = .ok (.iconst 1, 1) := by decide +kernel
theorem dX1_put_72 : decode cX1_put 72 = .ok (.iadd, 1) := by decide +kernel
theorem dX1_put_73 : decode cX1_put 73 = .ok (.dup_x1, 1) := by decide +kernel
theorem dX1_put_74 : decode cX1_put 74 = .ok (.putfield 38, 3) := by decide +kernel
theorem dX1_put_77 : decode cX1_put 77 = .ok (.iastore, 1) := by decide +kernel
theorem dX1_put_78 : decode cX1_put 78 = .ok (.aload_n 0, 1) := by decide +kernel
theorem dX1_put_79 : decode cX1_put 79 = .ok (.getfield 30, 3) := by decide +kernel
theorem dX1_put_82 : decode cX1_put 82 = .ok (.iload_n 1, 1) := by decide +kernel
theorem dX1_put_83 : decode cX1_put 83 = .ok (.iload_n 1, 1) := by decide +kernel
theorem dX1_put_84 : decode cX1_put 84 = .ok (.invokestatic 51, 3) := by decide +kernel
theorem dX1_put_87 : decode cX1_put 87 = .ok (.lastore, 1) := by decide +kernel
theorem dX1_put_88 : decode cX1_put 88 = .ok (.aload_n 0, 1) := by decide +kernel
theorem dX1_put_89 : decode cX1_put 89 = .ok (.dup, 1) := by decide +kernel
theorem dX1_put_90 : decode cX1_put 90 = .ok (.getfield 34, 3) := by decide +kernel
theorem dX1_put_93 : decode cX1_put 93 = .ok (.iload_n 1, 1) := by decide +kernel
theorem dX1_put_94 : decode cX1_put 94 = .ok (.invokestatic 51, 3) := by decide +kernel
theorem dX1_put_97 : decode cX1_put 97 = .ok (.lor, 1) := by decide +kernel
theorem dX1_put_98 : decode cX1_put 98 = .ok (.putfield 34, 3) := by decide +kernel
theorem dX1_put_101 : decode cX1_put 101 = .ok (.return_, 1) := by decide +kernel
theorem dX1_change_0 : decode cX1_change 0 = .ok (.aload_n 1, 1) := by decide +kernel
theorem dX1_change_1 : decode cX1_change 1 = .ok (.getfield 82, 3) := by decide +kernel
theorem dX1_change_4 : decode cX1_change 4 = .ok (.istore_n 2, 1) := by decide +kernel
theorem dX1_change_5 : decode cX1_change 5 = .ok (.aload_n 0, 1) := by decide +kernel
theorem dX1_change_6 : decode cX1_change 6 = .ok (.iload_n 2, 1) := by decide +kernel
theorem dX1_change_7 : decode cX1_change 7 = .ok (.invokevirtual 55, 3) := by decide +kernel
theorem dX1_change_10 : decode cX1_change 10 = .ok (.ifCond .ne 4, 3) := by decide +kernel
theorem dX1_change_13 : decode cX1_change 13 = .ok (.return_, 1) := by decide +kernel
theorem dX1_change_14 : decode cX1_change 14 = .ok (.aload_n 1, 1) := by decide +kernel
theorem dX1_change_15 : decode cX1_change 15 = .ok (.getfield 87, 3) := by decide +kernel
theorem dX1_change_18 : decode cX1_change 18 = .ok (.tableswitch 161 1 7 #[42, 63, 76, 96, 116, 128, 136], 42) := by decide +kernel
theorem dX1_change_60 : decode cX1_change 60 = .ok (.aload_n 0, 1) := by decide +kernel
theorem dX1_change_61 : decode cX1_change 61 = .ok (.aload_n 0, 1) := by decide +kernel
theorem dX1_change_62 : decode cX1_change 62 = .ok (.getfield 30, 3) := by decide +kernel
theorem dX1_change_65 : decode cX1_change 65 = .ok (.iload_n 2, 1) := by decide +kernel
theorem dX1_change_66 : decode cX1_change 66 = .ok (.laload, 1) := by decide +kernel
theorem dX1_change_67 : decode cX1_change 67 = .ok (.aload_n 1, 1) := by decide +kernel
theorem dX1_change_68 : decode cX1_change 68 = .ok (.getfield 90, 3) := by decide +kernel
theorem dX1_change_71 : decode cX1_change 71 = .ok (.aload_n 1, 1) := by decide +kernel
theorem dX1_change_72 : decode cX1_change 72 = .ok (.getfield 93, 3) := by decide +kernel
theorem dX1_change_75 : decode cX1_change 75 = .ok (.invokevirtual 96, 3) := by decide +kernel
theorem dX1_change_78 : decode cX1_change 78 = .ok (.goto 101, 3) := by decide +kernel
theorem dX1_change_81 : decode cX1_change 81 = .ok (.aload_n 0, 1) := by decide +kernel
theorem dX1_change_82 : decode cX1_change 82 = .ok (.getfield 24, 3) := by decide +kernel
theorem dX1_change_85 : decode cX1_change 85 = .ok (.iload_n 2, 1) := by decide +kernel
theorem dX1_change_86 : decode cX1_change 86 = .ok (.aload_n 1, 1) := by decide +kernel
theorem dX1_change_87 : decode cX1_change 87 = .ok (.getfield 90, 3) := by decide +kernel
theorem dX1_change_90 : decode cX1_change 90 = .ok (.iastore, 1) := by decide +kernel
theorem dX1_change_91 : decode cX1_change 91 = .ok (.goto 88, 3) := by decide +kernel
theorem dX1_change_94 : decode cX1_change 94 = .ok (.aload_n 0, 1) := by decide +kernel
theorem dX1_change_95 : decode cX1_change 95 = .ok (.getfield 27, 3) := by decide +kernel
theorem dX1_change_98 : decode cX1_change 98 = .ok (.iload_n 2, 1) := by decide +kernel
theorem dX1_change_99 : decode cX1_change 99 = .ok (.aload_n 0, 1) := by decide +kernel
theorem dX1_change_100 : decode cX1_change 100 = .ok (.dup, 1) := by decide +kernel
theorem dX1_change_101 : decode cX1_change 101 = .ok (.getfield 38, 3) := by decide +kernel
theorem dX1_change_104 : decode cX1_change 104 = .ok (.iconst 1, 1) := by decide +kernel
theorem dX1_change_105 : decode cX1_change 105 = .ok (.iadd, 1) := by decide +kernel
theorem dX1_change_106 : decode cX1_change 106 = .ok (.dup_x1, 1) := by decide +kernel
theorem dX1_change_107 : decode cX1_change 107 = .ok (.putfield 38, 3) := by decide +kernel
theorem dX1_change_110 : decode cX1_change 110 = .ok (.iastore, 1) := by decide +kernel
theorem dX1_change_111 : decode cX1_change 111 = .ok (.goto 68, 3) := by decide +kernel
theorem dX1_change_114 : decode cX1_change 114 = .ok (.aload_n 0, 1) := by decide +kernel
theorem dX1_change_115 : decode cX1_change 115 = .ok (.getfield 27, 3) := by decide +kernel
theorem dX1_change_118 : decode cX1_change 118 = .ok (.iload_n 2, 1) := by decide +kernel
theorem dX1_change_119 : decode cX1_change 119 = .ok (.aload_n 0, 1) := by decide +kernel
theorem dX1_change_120 : decode cX1_change 120 = .ok (.dup, 1) := by decide +kernel
theorem dX1_change_121 : decode cX1_change 121 = .ok (.getfield 42, 3) := by decide +kernel
theorem dX1_change_124 : decode cX1_change 124 = .ok (.iconst 1, 1) := by decide +kernel
theorem dX1_change_125 : decode cX1_change 125 = .ok (.isub, 1) := by decide +kernel
theorem dX1_change_126 : decode cX1_change 126 = .ok (.dup_x1, 1) := by decide +kernel
theorem dX1_change_127 : decode cX1_change 127 = .ok (.putfield 42, 3) := by decide +kernel
theorem dX1_change_130 : decode cX1_change 130 = .ok (.iastore, 1) := by decide +kernel
theorem dX1_change_131 : decode cX1_change 131 = .ok (.goto 48, 3) := by decide +kernel
theorem dX1_change_134 : decode cX1_change 134 = .ok (.aload_n 0, 1) := by decide +kernel
theorem dX1_change_135 : decode cX1_change 135 = .ok (.iload_n 2, 1) := by decide +kernel
theorem dX1_change_136 : decode cX1_change 136 = .ok (.aload_n 1, 1) := by decide +kernel
theorem dX1_change_137 : decode cX1_change 137 = .ok (.getfield 90, 3) := by decide +kernel
theorem dX1_change_140 : decode cX1_change 140 = .ok (.invokevirtual 100, 3) := by decide +kernel
theorem dX1_change_143 : decode cX1_change 143 = .ok (.goto 36, 3) := by decide +kernel
theorem dX1_change_146 : decode cX1_change 146 = .ok (.aload_n 0, 1) := by decide +kernel
theorem dX1_change_147 : decode cX1_change 147 = .ok (.iload_n 2, 1) := by decide +kernel
theorem dX1_change_148 : decode cX1_change 148 = .ok (.invokevirtual 104, 3) := by decide +kernel
theorem dX1_change_151 : decode cX1_change 151 = .ok (.goto 28, 3) := by decide +kernel
theorem dX1_change_154 : decode cX1_change 154 = .ok (.aload_n 0, 1) := by decide +kernel
theorem dX1_change_155 : decode cX1_change 155 = .ok (.iload_n 2, 1) := by decide +kernel
theorem dX1_change_156 : decode cX1_change 156 = .ok (.invokevirtual 104, 3) := by decide +kernel
theorem dX1_change_159 : decode cX1_change 159 = .ok (.aload_n 0, 1) := by decide +kernel
theorem dX1_change_160 : decode cX1_change 160 = .ok (.dup, 1) := by decide +kernel
theorem dX1_change_161 : decode cX1_change 161 = .ok (.getfield 34, 3) := by decide +kernel
theorem dX1_change_164 : decode cX1_change 164 = .ok (.iload_n 2, 1) := by decide +kernel
theorem dX1_change_165 : decode cX1_change 165 = .ok (.invokestatic 51, 3) := by decide +kernel
theorem dX1_change_168 : decode cX1_change 168 = .ok (.ldc2_w 108, 3) := by decide +kernel
theorem dX1_change_171 : decode cX1_change 171 = .ok (.lxor, 1) := by decide +kernel
theorem dX1_change_172 : decode cX1_change 172 = .ok (.land, 1) := by decide +kernel
theorem dX1_change_173 : decode cX1_change 173 = .ok (.putfield 34, 3) := by decide +kernel
theorem dX1_change_176 : decode cX1_change 176 = .ok (.goto 3, 3) := by decide +kernel
theorem dX1_change_179 : decode cX1_change 179 = .ok (.return_, 1) := by decide +kernel
theorem dX1_moveGroup_0 : decode cX1_moveGroup 0 = .ok (.iconst 0, 1) := by decide +kernel
theorem dX1_moveGroup_1 : decode cX1_moveGroup 1 = .ok (.istore 5, 2) := by decide +kernel
theorem dX1_moveGroup_3 : decode cX1_moveGroup 3 = .ok (.iload 5, 2) := by decide +kernel
theorem dX1_moveGroup_5 : decode cX1_moveGroup 5 = .ok (.bipush 40, 2) := by decide +kernel
theorem dX1_moveGroup_7 : decode cX1_moveGroup 7 = .ok (.if_icmp .ge 44, 3) := by decide +kernel
theorem dX1_moveGroup_10 : decode cX1_moveGroup 10 = .ok (.lload_n 1, 1) := by decide +kernel
theorem dX1_moveGroup_11 : decode cX1_moveGroup 11 = .ok (.iload 5, 2) := by decide +kernel
theorem dX1_moveGroup_13 : decode cX1_moveGroup 13 = .ok (.invokestatic 51, 3) := by decide +kernel
theorem dX1_moveGroup_16 : decode cX1_moveGroup 16 = .ok (.land, 1) := by decide +kernel
theorem dX1_moveGroup_17 : decode cX1_moveGroup 17 = .ok (.lconst 0, 1) := by decide +kernel
theorem dX1_moveGroup_18 : decode cX1_moveGroup 18 = .ok (.lcmp, 1) := by decide +kernel
theorem dX1_moveGroup_19 : decode cX1_moveGroup 19 = .ok (.ifCond .eq 26, 3) := by decide +kernel
theorem dX1_moveGroup_22 : decode cX1_moveGroup 22 = .ok (.aload_n 0, 1) := by decide +kernel
theorem dX1_moveGroup_23 : decode cX1_moveGroup 23 = .ok (.getfield 9, 3) := by decide +kernel
theorem dX1_moveGroup_26 : decode cX1_moveGroup 26 = .ok (.iload 5, 2) := by decide +kernel
theorem dX1_moveGroup_28 : decode cX1_moveGroup 28 = .ok (.dup2, 1) := by decide +kernel
theorem dX1_moveGroup_29 : decode cX1_moveGroup 29 = .ok (.iaload, 1) := by decide +kernel
theorem dX1_moveGroup_30 : decode cX1_moveGroup 30 = .ok (.iload_n 3, 1) := by decide +kernel
theorem dX1_moveGroup_31 : decode cX1_moveGroup 31 = .ok (.iadd, 1) := by decide +kernel
theorem dX1_moveGroup_32 : decode cX1_moveGroup 32 = .ok (.iastore, 1) := by decide +kernel
theorem dX1_moveGroup_33 : decode cX1_moveGroup 33 = .ok (.aload_n 0, 1) := by decide +kernel
theorem dX1_moveGroup_34 : decode cX1_moveGroup 34 = .ok (.getfield 15, 3) := by decide +kernel
theorem dX1_moveGroup_37 : decode cX1_moveGroup 37 = .ok (.iload 5, 2) := by decide +kernel
theorem dX1_moveGroup_39 : decode cX1_moveGroup 39 = .ok (.dup2, 1) := by decide +kernel
theorem dX1_moveGroup_40 : decode cX1_moveGroup 40 = .ok (.iaload, 1) := by decide +kernel
theorem dX1_moveGroup_41 : decode cX1_moveGroup 41 = .ok (.iload 4, 2) := by decide +kernel
theorem dX1_moveGroup_43 : decode cX1_moveGroup 43 = .ok (.iadd, 1) := by decide +kernel
theorem dX1_moveGroup_44 : decode cX1_moveGroup 44 = .ok (.iastore, 1) := by decide +kernel
theorem dX1_moveGroup_45 : decode cX1_moveGroup 45 = .ok (.iinc 5 1, 3) := by decide +kernel
theorem dX1_moveGroup_48 : decode cX1_moveGroup 48 = .ok (.goto (-45), 3) := by decide +kernel
theorem dX1_moveGroup_51 : decode cX1_moveGroup 51 = .ok (.return_, 1) := by decide +kernel
theorem dX1_uniteGroups_0 : decode cX1_uniteGroups 0 = .ok (.aload_n 0, 1) := by decide +kernel
theorem dX1_uniteGroups_1 : decode cX1_uniteGroups 1 = .ok (.iload_n 1, 1) := by decide +kernel
theorem dX1_uniteGroups_2 : decode cX1_uniteGroups 2 = .ok (.invokevirtual 55, 3) := by decide +kernel
theorem dX1_uniteGroups_5 : decode cX1_uniteGroups 5 = .ok (.ifCond .eq 28, 3) := by decide +kernel
theorem dX1_uniteGroups_8 : decode cX1_uniteGroups 8 = .ok (.aload_n 0, 1) := by decide +kernel
theorem dX1_uniteGroups_9 : decode cX1_uniteGroups 9 = .ok (.iload_n 2, 1) := by decide +kernel
theorem dX1_uniteGroups_10 : decode cX1_uniteGroups 10 = .ok (.invokevirtual 55, 3) := by decide +kernel
theorem dX1_uniteGroups_13 : decode cX1_uniteGroups 13 = .ok (.ifCond .eq 20, 3) := by decide +kernel
theorem dX1_uniteGroups_16 : decode cX1_uniteGroups 16 = .ok (.aload_n 0, 1) := by decide +kernel
theorem dX1_uniteGroups_17 : decode cX1_uniteGroups 17 = .ok (.aload_n 0, 1) := by decide +kernel
theorem dX1_uniteGroups_18 : decode cX1_uniteGroups 18 = .ok (.getfield 30, 3) := by decide +kernel
theorem dX1_uniteGroups_21 : decode cX1_uniteGroups 21 = .ok (.iload_n 1, 1) := by decide +kernel
theorem dX1_uniteGroups_22 : decode cX1_uniteGroups 22 = .ok (.laload, 1) := by decide +kernel
theorem dX1_uniteGroups_23 : decode cX1_uniteGroups 23 = .ok (.aload_n 0, 1) := by decide +kernel
theorem dX1_uniteGroups_24 : decode cX1_uniteGroups 24 = .ok (.getfield 30, 3) := by decide +kernel
theorem dX1_uniteGroups_27 : decode cX1_uniteGroups 27 = .ok (.iload_n 2, 1) := by decide +kernel
theorem dX1_uniteGroups_28 : decode cX1_uniteGroups 28 = .ok (.laload, 1) := by decide +kernel
theorem dX1_uniteGroups_29 : decode cX1_uniteGroups 29 = .ok (.lor, 1) := by decide +kernel
theorem dX1_uniteGroups_30 : decode cX1_uniteGroups 30 = .ok (.invokevirtual 110, 3) := by decide +kernel
theorem dX1_uniteGroups_33 : decode cX1_uniteGroups 33 = .ok (.return_, 1) := by decide +kernel
theorem dX1_leaveGroup_0 : decode cX1_leaveGroup 0 = .ok (.aload_n 0, 1) := by decide +kernel
theorem dX1_leaveGroup_1 : decode cX1_leaveGroup 1 = .ok (.aload_n 0, 1) := by decide +kernel
theorem dX1_leaveGroup_2 : decode cX1_leaveGroup 2 = .ok (.getfield 30, 3) := by decide +kernel
theorem dX1_leaveGroup_5 : decode cX1_leaveGroup 5 = .ok (.iload_n 1, 1) := by decide +kernel
theorem dX1_leaveGroup_6 : decode cX1_leaveGroup 6 = .ok (.laload, 1) := by decide +kernel
theorem dX1_leaveGroup_7 : decode cX1_leaveGroup 7 = .ok (.iload_n 1, 1) := by decide +kernel
theorem dX1_leaveGroup_8 : decode cX1_leaveGroup 8 = .ok (.invokestatic 51, 3) := by decide +kernel
theorem dX1_leaveGroup_11 : decode cX1_leaveGroup 11 = .ok (.ldc2_w 108, 3) := by decide +kernel
theorem dX1_leaveGroup_14 : decode cX1_leaveGroup 14 = .ok (.lxor, 1) := by decide +kernel
theorem dX1_leaveGroup_15 : decode cX1_leaveGroup 15 = .ok (.land, 1) := by decide +kernel
theorem dX1_leaveGroup_16 : decode cX1_leaveGroup 16 = .ok (.invokevirtual 110, 3) := by decide +kernel
theorem dX1_leaveGroup_19 : decode cX1_leaveGroup 19 = .ok (.aload_n 0, 1) := by decide +kernel
theorem dX1_leaveGroup_20 : decode cX1_leaveGroup 20 = .ok (.getfield 30, 3) := by decide +kernel
theorem dX1_leaveGroup_23 : decode cX1_leaveGroup 23 = .ok (.iload_n 1, 1) := by decide +kernel
theorem dX1_leaveGroup_24 : decode cX1_leaveGroup 24 = .ok (.iload_n 1, 1) := by decide +kernel
theorem dX1_leaveGroup_25 : decode cX1_leaveGroup 25 = .ok (.invokestatic 51, 3) := by decide +kernel
theorem dX1_leaveGroup_28 : decode cX1_leaveGroup 28 = .ok (.lastore, 1) := by decide +kernel
theorem dX1_leaveGroup_29 : decode cX1_leaveGroup 29 = .ok (.return_, 1) := by decide +kernel
theorem dX1_setGroup_0 : decode cX1_setGroup 0 = .ok (.iconst 0, 1) := by decide +kernel
theorem dX1_setGroup_1 : decode cX1_setGroup 1 = .ok (.istore_n 3, 1) := by decide +kernel
theorem dX1_setGroup_2 : decode cX1_setGroup 2 = .ok (.iload_n 3, 1) := by decide +kernel
theorem dX1_setGroup_3 : decode cX1_setGroup 3 = .ok (.bipush 40, 2) := by decide +kernel
theorem dX1_setGroup_5 : decode cX1_setGroup 5 = .ok (.if_icmp .ge 27, 3) := by decide +kernel
theorem dX1_setGroup_8 : decode cX1_setGroup 8 = .ok (.lload_n 1, 1) := by decide +kernel
theorem dX1_setGroup_9 : decode cX1_setGroup 9 = .ok (.iload_n 3, 1) := by decide +kernel
theorem dX1_setGroup_10 : decode cX1_setGroup 10 = .ok (.invokestatic 51, 3) := by decide +kernel
theorem dX1_setGroup_13 : decode cX1_setGroup 13 = .ok (.land, 1) := by decide +kernel
theorem dX1_setGroup_14 : decode cX1_setGroup 14 = .ok (.lconst 0, 1) := by decide +kernel
theorem dX1_setGroup_15 : decode cX1_setGroup 15 = .ok (.lcmp, 1) := by decide +kernel
theorem dX1_setGroup_16 : decode cX1_setGroup 16 = .ok (.ifCond .eq 10, 3) := by decide +kernel
theorem dX1_setGroup_19 : decode cX1_setGroup 19 = .ok (.aload_n 0, 1) := by decide +kernel
theorem dX1_setGroup_20 : decode cX1_setGroup 20 = .ok (.getfield 30, 3) := by decide +kernel
theorem dX1_setGroup_23 : decode cX1_setGroup 23 = .ok (.iload_n 3, 1) := by decide +kernel
theorem dX1_setGroup_24 : decode cX1_setGroup 24 = .ok (.lload_n 1, 1) := by decide +kernel
theorem dX1_setGroup_25 : decode cX1_setGroup 25 = .ok (.lastore, 1) := by decide +kernel
theorem dX1_setGroup_26 : decode cX1_setGroup 26 = .ok (.iinc 3 1, 3) := by decide +kernel
theorem dX1_setGroup_29 : decode cX1_setGroup 29 = .ok (.goto (-27), 3) := by decide +kernel
theorem dX1_setGroup_32 : decode cX1_setGroup 32 = .ok (.return_, 1) := by decide +kernel
theorem dX1_isShowing_0 : decode cX1_isShowing 0 = .ok (.aload_n 0, 1) := by decide +kernel
theorem dX1_isShowing_1 : decode cX1_isShowing 1 = .ok (.iload_n 1, 1) := by decide +kernel
theorem dX1_isShowing_2 : decode cX1_isShowing 2 = .ok (.invokevirtual 55, 3) := by decide +kernel
theorem dX1_isShowing_5 : decode cX1_isShowing 5 = .ok (.ifCond .eq 18, 3) := by decide +kernel
theorem dX1_isShowing_8 : decode cX1_isShowing 8 = .ok (.lload_n 2, 1) := by decide +kernel
theorem dX1_isShowing_9 : decode cX1_isShowing 9 = .ok (.iload_n 1, 1) := by decide +kernel
theorem dX1_isShowing_10 : decode cX1_isShowing 10 = .ok (.invokestatic 51, 3) := by decide +kernel
theorem dX1_isShowing_13 : decode cX1_isShowing 13 = .ok (.land, 1) := by decide +kernel
theorem dX1_isShowing_14 : decode cX1_isShowing 14 = .ok (.lconst 0, 1) := by decide +kernel
theorem dX1_isShowing_15 : decode cX1_isShowing 15 = .ok (.lcmp, 1) := by decide +kernel
theorem dX1_isShowing_16 : decode cX1_isShowing 16 = .ok (.ifCond .ne 7, 3) := by decide +kernel
theorem dX1_isShowing_19 : decode cX1_isShowing 19 = .ok (.iconst 1, 1) := by decide +kernel
theorem dX1_isShowing_20 : decode cX1_isShowing 20 = .ok (.goto 4, 3) := by decide +kernel
theorem dX1_isShowing_23 : decode cX1_isShowing 23 = .ok (.iconst 0, 1) := by decide +kernel
theorem dX1_isShowing_24 : decode cX1_isShowing 24 = .ok (.ireturn, 1) := by decide +kernel
theorem dX1_uppermostAt_0 : decode cX1_uppermostAt 0 = .ok (.iconst (-1), 1) := by decide +kernel
theorem dX1_uppermostAt_1 : decode cX1_uppermostAt 1 = .ok (.istore 5, 2) := by decide +kernel
theorem dX1_uppermostAt_3 : decode cX1_uppermostAt 3 = .ok (.iconst 0, 1) := by decide +kernel
theorem dX1_uppermostAt_4 : decode cX1_uppermostAt 4 = .ok (.istore 6, 2) := by decide +kernel
theorem dX1_uppermostAt_6 : decode cX1_uppermostAt 6 = .ok (.iload 6, 2) := by decide +kernel
theorem dX1_uppermostAt_8 : decode cX1_uppermostAt 8 = .ok (.bipush 40, 2) := by decide +kernel
theorem dX1_uppermostAt_10 : decode cX1_uppermostAt 10 = .ok (.if_icmp .ge 57, 3) := by decide +kernel
theorem dX1_uppermostAt_13 : decode cX1_uppermostAt 13 = .ok (.aload_n 0, 1) := by decide +kernel
theorem dX1_uppermostAt_14 : decode cX1_uppermostAt 14 = .ok (.iload 6, 2) := by decide +kernel
theorem dX1_uppermostAt_16 : decode cX1_uppermostAt 16 = .ok (.lload_n 3, 1) := by decide +kernel
theorem dX1_uppermostAt_17 : decode cX1_uppermostAt 17 = .ok (.invokevirtual 114, 3) := by decide +kernel
theorem dX1_uppermostAt_20 : decode cX1_uppermostAt 20 = .ok (.ifCond .eq 41, 3) := by decide +kernel
theorem dX1_uppermostAt_23 : decode cX1_uppermostAt 23 = .ok (.aload_n 0, 1) := by decide +kernel
theorem dX1_uppermostAt_24 : decode cX1_uppermostAt 24 = .ok (.iload 6, 2) := by decide +kernel
theorem dX1_uppermostAt_26 : decode cX1_uppermostAt 26 = .ok (.iload_n 1, 1) := by decide +kernel
theorem dX1_uppermostAt_27 : decode cX1_uppermostAt 27 = .ok (.iload_n 2, 1) := by decide +kernel
theorem dX1_uppermostAt_28 : decode cX1_uppermostAt 28 = .ok (.invokevirtual 118, 3) := by decide +kernel
theorem dX1_uppermostAt_31 : decode cX1_uppermostAt 31 = .ok (.ifCond .eq 30, 3) := by decide +kernel
theorem dX1_uppermostAt_34 : decode cX1_uppermostAt 34 = .ok (.iload 5, 2) := by decide +kernel
theorem dX1_uppermostAt_36 : decode cX1_uppermostAt 36 = .ok (.iconst (-1), 1) := by decide +kernel
theorem dX1_uppermostAt_37 : decode cX1_uppermostAt 37 = .ok (.if_icmp .eq 20, 3) := by decide +kernel
theorem dX1_uppermostAt_40 : decode cX1_uppermostAt 40 = .ok (.aload_n 0, 1) := by decide +kernel
theorem dX1_uppermostAt_41 : decode cX1_uppermostAt 41 = .ok (.getfield 27, 3) := by decide +kernel
theorem dX1_uppermostAt_44 : decode cX1_uppermostAt 44 = .ok (.iload 6, 2) := by decide +kernel
theorem dX1_uppermostAt_46 : decode cX1_uppermostAt 46 = .ok (.iaload, 1) := by decide +kernel
theorem dX1_uppermostAt_47 : decode cX1_uppermostAt 47 = .ok (.aload_n 0, 1) := by decide +kernel
theorem dX1_uppermostAt_48 : decode cX1_uppermostAt 48 = .ok (.getfield 27, 3) := by decide +kernel
theorem dX1_uppermostAt_51 : decode cX1_uppermostAt 51 = .ok (.iload 5, 2) := by decide +kernel
theorem dX1_uppermostAt_53 : decode cX1_uppermostAt 53 = .ok (.iaload, 1) := by decide +kernel
theorem dX1_uppermostAt_54 : decode cX1_uppermostAt 54 = .ok (.if_icmp .le 7, 3) := by decide +kernel
theorem dX1_uppermostAt_57 : decode cX1_uppermostAt 57 = .ok (.iload 6, 2) := by decide +kernel
theorem dX1_uppermostAt_59 : decode cX1_uppermostAt 59 = .ok (.istore 5, 2) := by decide +kernel
theorem dX1_uppermostAt_61 : decode cX1_uppermostAt 61 = .ok (.iinc 6 1, 3) := by decide +kernel
theorem dX1_uppermostAt_64 : decode cX1_uppermostAt 64 = .ok (.goto (-58), 3) := by decide +kernel
theorem dX1_uppermostAt_67 : decode cX1_uppermostAt 67 = .ok (.iload 5, 2) := by decide +kernel
theorem dX1_uppermostAt_69 : decode cX1_uppermostAt 69 = .ok (.ireturn, 1) := by decide +kernel
theorem dX1_isCovering_0 : decode cX1_isCovering 0 = .ok (.iload_n 2, 1) := by decide +kernel
theorem dX1_isCovering_1 : decode cX1_isCovering 1 = .ok (.aload_n 0, 1) := by decide +kernel
theorem dX1_isCovering_2 : decode cX1_isCovering 2 = .ok (.getfield 9, 3) := by decide +kernel
theorem dX1_isCovering_5 : decode cX1_isCovering 5 = .ok (.iload_n 1, 1) := by decide +kernel
theorem dX1_isCovering_6 : decode cX1_isCovering 6 = .ok (.iaload, 1) := by decide +kernel
theorem dX1_isCovering_7 : decode cX1_isCovering 7 = .ok (.if_icmp .lt 51, 3) := by decide +kernel
theorem dX1_isCovering_10 : decode cX1_isCovering 10 = .ok (.iload_n 2, 1) := by decide +kernel
theorem dX1_isCovering_11 : decode cX1_isCovering 11 = .ok (.aload_n 0, 1) := by decide +kernel
theorem dX1_isCovering_12 : decode cX1_isCovering 12 = .ok (.getfield 9, 3) := by decide +kernel
theorem dX1_isCovering_15 : decode cX1_isCovering 15 = .ok (.iload_n 1, 1) := by decide +kernel
theorem dX1_isCovering_16 : decode cX1_isCovering 16 = .ok (.iaload, 1) := by decide +kernel
theorem dX1_isCovering_17 : decode cX1_isCovering 17 = .ok (.aload_n 0, 1) := by decide +kernel
theorem dX1_isCovering_18 : decode cX1_isCovering 18 = .ok (.getfield 18, 3) := by decide +kernel
theorem dX1_isCovering_21 : decode cX1_isCovering 21 = .ok (.iload_n 1, 1) := by decide +kernel
theorem dX1_isCovering_22 : decode cX1_isCovering 22 = .ok (.iaload, 1) := by decide +kernel
theorem dX1_isCovering_23 : decode cX1_isCovering 23 = .ok (.iadd, 1) := by decide +kernel
theorem dX1_isCovering_24 : decode cX1_isCovering 24 = .ok (.if_icmp .ge 34, 3) := by decide +kernel
theorem dX1_isCovering_27 : decode cX1_isCovering 27 = .ok (.iload_n 3, 1) := by decide +kernel
theorem dX1_isCovering_28 : decode cX1_isCovering 28 = .ok (.aload_n 0, 1) := by decide +kernel
theorem dX1_isCovering_29 : decode cX1_isCovering 29 = .ok (.getfield 15, 3) := by decide +kernel
theorem dX1_isCovering_32 : decode cX1_isCovering 32 = .ok (.iload_n 1, 1) := by decide +kernel
theorem dX1_isCovering_33 : decode cX1_isCovering 33 = .ok (.iaload, 1) := by decide +kernel
theorem dX1_isCovering_34 : decode cX1_isCovering 34 = .ok (.if_icmp .lt 24, 3) := by decide +kernel
theorem dX1_isCovering_37 : decode cX1_isCovering 37 = .ok (.iload_n 3, 1) := by decide +kernel
theorem dX1_isCovering_38 : decode cX1_isCovering 38 = .ok (.aload_n 0, 1) := by decide +kernel
theorem dX1_isCovering_39 : decode cX1_isCovering 39 = .ok (.getfield 15, 3) := by decide +kernel
theorem dX1_isCovering_42 : decode cX1_isCovering 42 = .ok (.iload_n 1, 1) := by decide +kernel
theorem dX1_isCovering_43 : decode cX1_isCovering 43 = .ok (.iaload, 1) := by decide +kernel
theorem dX1_isCovering_44 : decode cX1_isCovering 44 = .ok (.aload_n 0, 1) := by decide +kernel
theorem dX1_isCovering_45 : decode cX1_isCovering 45 = .ok (.getfield 21, 3) := by decide +kernel
theorem dX1_isCovering_48 : decode cX1_isCovering 48 = .ok (.iload_n 1, 1) := by decide +kernel
theorem dX1_isCovering_49 : decode cX1_isCovering 49 = .ok (.iaload, 1) := by decide +kernel
theorem dX1_isCovering_50 : decode cX1_isCovering 50 = .ok (.iadd, 1) := by decide +kernel
theorem dX1_isCovering_51 : decode cX1_isCovering 51 = .ok (.if_icmp .ge 7, 3) := by decide +kernel
theorem dX1_isCovering_54 : decode cX1_isCovering 54 = .ok (.iconst 1, 1) := by decide +kernel
theorem dX1_isCovering_55 : decode cX1_isCovering 55 = .ok (.goto 4, 3) := by decide +kernel
theorem dX1_isCovering_58 : decode cX1_isCovering 58 = .ok (.iconst 0, 1) := by decide +kernel
theorem dX1_isCovering_59 : decode cX1_isCovering 59 = .ok (.ireturn, 1) := by decide +kernel
theorem dX1_columnsShown_0 : decode cX1_columnsShown 0 = .ok (.aload_n 0, 1) := by decide +kernel
theorem dX1_columnsShown_1 : decode cX1_columnsShown 1 = .ok (.iload_n 1, 1) := by decide +kernel
theorem dX1_columnsShown_2 : decode cX1_columnsShown 2 = .ok (.lload_n 3, 1) := by decide +kernel
theorem dX1_columnsShown_3 : decode cX1_columnsShown 3 = .ok (.invokevirtual 114, 3) := by decide +kernel
theorem dX1_columnsShown_6 : decode cX1_columnsShown 6 = .ok (.ifCond .ne 5, 3) := by decide +kernel
theorem dX1_columnsShown_9 : decode cX1_columnsShown 9 = .ok (.iconst 0, 1) := by decide +kernel
theorem dX1_columnsShown_10 : decode cX1_columnsShown 10 = .ok (.ireturn, 1) := by decide +kernel
theorem dX1_columnsShown_11 : decode cX1_columnsShown 11 = .ok (.aload_n 0, 1) := by decide +kernel
theorem dX1_columnsShown_12 : decode cX1_columnsShown 12 = .ok (.iload_n 1, 1) := by decide +kernel
theorem dX1_columnsShown_13 : decode cX1_columnsShown 13 = .ok (.iload_n 2, 1) := by decide +kernel
theorem dX1_columnsShown_14 : decode cX1_columnsShown 14 = .ok (.invokevirtual 122, 3) := by decide +kernel
theorem dX1_columnsShown_17 : decode cX1_columnsShown 17 = .ok (.istore 5, 2) := by decide +kernel
theorem dX1_columnsShown_19 : decode cX1_columnsShown 19 = .ok (.iconst 0, 1) := by decide +kernel
theorem dX1_columnsShown_20 : decode cX1_columnsShown 20 = .ok (.istore 6, 2) := by decide +kernel
theorem dX1_columnsShown_22 : decode cX1_columnsShown 22 = .ok (.iload 6, 2) := by decide +kernel
theorem dX1_columnsShown_24 : decode cX1_columnsShown 24 = .ok (.bipush 40, 2) := by decide +kernel
theorem dX1_columnsShown_26 : decode cX1_columnsShown 26 = .ok (.if_icmp .ge 54, 3) := by decide +kernel
theorem dX1_columnsShown_29 : decode cX1_columnsShown 29 = .ok (.iload 5, 2) := by decide +kernel
theorem dX1_columnsShown_31 : decode cX1_columnsShown 31 = .ok (.ifCond .eq 49, 3) := by decide +kernel
theorem dX1_columnsShown_34 : decode cX1_columnsShown 34 = .ok (.aload_n 0, 1) := by decide +kernel
theorem dX1_columnsShown_35 : decode cX1_columnsShown 35 = .ok (.iload 6, 2) := by decide +kernel
theorem dX1_columnsShown_37 : decode cX1_columnsShown 37 = .ok (.lload_n 3, 1) := by decide +kernel
theorem dX1_columnsShown_38 : decode cX1_columnsShown 38 = .ok (.invokevirtual 114, 3) := by decide +kernel
theorem dX1_columnsShown_41 : decode cX1_columnsShown 41 = .ok (.ifCond .eq 33, 3) := by decide +kernel
theorem dX1_columnsShown_44 : decode cX1_columnsShown 44 = .ok (.aload_n 0, 1) := by decide +kernel
theorem dX1_columnsShown_45 : decode cX1_columnsShown 45 = .ok (.getfield 27, 3) := by decide +kernel
theorem dX1_columnsShown_48 : decode cX1_columnsShown 48 = .ok (.iload 6, 2) := by decide +kernel
theorem dX1_columnsShown_50 : decode cX1_columnsShown 50 = .ok (.iaload, 1) := by decide +kernel
theorem dX1_columnsShown_51 : decode cX1_columnsShown 51 = .ok (.aload_n 0, 1) := by decide +kernel
theorem dX1_columnsShown_52 : decode cX1_columnsShown 52 = .ok (.getfield 27, 3) := by decide +kernel
theorem dX1_columnsShown_55 : decode cX1_columnsShown 55 = .ok (.iload_n 1, 1) := by decide +kernel
theorem dX1_columnsShown_56 : decode cX1_columnsShown 56 = .ok (.iaload, 1) := by decide +kernel
theorem dX1_columnsShown_57 : decode cX1_columnsShown 57 = .ok (.if_icmp .le 17, 3) := by decide +kernel
theorem dX1_columnsShown_60 : decode cX1_columnsShown 60 = .ok (.iload 5, 2) := by decide +kernel
theorem dX1_columnsShown_62 : decode cX1_columnsShown 62 = .ok (.aload_n 0, 1) := by decide +kernel
theorem dX1_columnsShown_63 : decode cX1_columnsShown 63 = .ok (.iload 6, 2) := by decide +kernel
theorem dX1_columnsShown_65 : decode cX1_columnsShown 65 = .ok (.iload_n 2, 1) := by decide +kernel
theorem dX1_columnsShown_66 : decode cX1_columnsShown 66 = .ok (.invokevirtual 122, 3) := by decide +kernel
theorem dX1_columnsShown_69 : decode cX1_columnsShown 69 = .ok (.iconst (-1), 1) := by decide +kernel
theorem dX1_columnsShown_70 : decode cX1_columnsShown 70 = .ok (.ixor, 1) := by decide +kernel
theorem dX1_columnsShown_71 : decode cX1_columnsShown 71 = .ok (.iand, 1) := by decide +kernel
theorem dX1_columnsShown_72 : decode cX1_columnsShown 72 = .ok (.istore 5, 2) := by decide +kernel
theorem dX1_columnsShown_74 : decode cX1_columnsShown 74 = .ok (.iinc 6 1, 3) := by decide +kernel
theorem dX1_columnsShown_77 : decode cX1_columnsShown 77 = .ok (.goto (-55), 3) := by decide +kernel
theorem dX1_columnsShown_80 : decode cX1_columnsShown 80 = .ok (.iload 5, 2) := by decide +kernel
theorem dX1_columnsShown_82 : decode cX1_columnsShown 82 = .ok (.ireturn, 1) := by decide +kernel
theorem dX1_columnsCovered_0 : decode cX1_columnsCovered 0 = .ok (.iload_n 2, 1) := by decide +kernel
theorem dX1_columnsCovered_1 : decode cX1_columnsCovered 1 = .ok (.aload_n 0, 1) := by decide +kernel
theorem dX1_columnsCovered_2 : decode cX1_columnsCovered 2 = .ok (.getfield 15, 3) := by decide +kernel
theorem dX1_columnsCovered_5 : decode cX1_columnsCovered 5 = .ok (.iload_n 1, 1) := by decide +kernel
theorem dX1_columnsCovered_6 : decode cX1_columnsCovered 6 = .ok (.iaload, 1) := by decide +kernel
theorem dX1_columnsCovered_7 : decode cX1_columnsCovered 7 = .ok (.if_icmp .lt 20, 3) := by decide +kernel
theorem dX1_columnsCovered_10 : decode cX1_columnsCovered 10 = .ok (.iload_n 2, 1) := by decide +kernel
theorem dX1_columnsCovered_11 : decode cX1_columnsCovered 11 = .ok (.aload_n 0, 1) := by decide +kernel
theorem dX1_columnsCovered_12 : decode cX1_columnsCovered 12 = .ok (.getfield 15, 3) := by decide +kernel
theorem dX1_columnsCovered_15 : decode cX1_columnsCovered 15 = .ok (.iload_n 1, 1) := by decide +kernel
theorem dX1_columnsCovered_16 : decode cX1_columnsCovered 16 = .ok (.iaload, 1) := by decide +kernel
theorem dX1_columnsCovered_17 : decode cX1_columnsCovered 17 = .ok (.aload_n 0, 1) := by decide +kernel
theorem dX1_columnsCovered_18 : decode cX1_columnsCovered 18 = .ok (.getfield 21, 3) := by decide +kernel
theorem dX1_columnsCovered_21 : decode cX1_columnsCovered 21 = .ok (.iload_n 1, 1) := by decide +kernel
theorem dX1_columnsCovered_22 : decode cX1_columnsCovered 22 = .ok (.iaload, 1) := by decide +kernel
theorem dX1_columnsCovered_23 : decode cX1_columnsCovered 23 = .ok (.iadd, 1) := by decide +kernel
theorem dX1_columnsCovered_24 : decode cX1_columnsCovered 24 = .ok (.if_icmp .lt 5, 3) := by decide +kernel
theorem dX1_columnsCovered_27 : decode cX1_columnsCovered 27 = .ok (.iconst 0, 1) := by decide +kernel
theorem dX1_columnsCovered_28 : decode cX1_columnsCovered 28 = .ok (.ireturn, 1) := by decide +kernel
theorem dX1_columnsCovered_29 : decode cX1_columnsCovered 29 = .ok (.aload_n 0, 1) := by decide +kernel
theorem dX1_columnsCovered_30 : decode cX1_columnsCovered 30 = .ok (.getfield 9, 3) := by decide +kernel
theorem dX1_columnsCovered_33 : decode cX1_columnsCovered 33 = .ok (.iload_n 1, 1) := by decide +kernel
theorem dX1_columnsCovered_34 : decode cX1_columnsCovered 34 = .ok (.iaload, 1) := by decide +kernel
theorem dX1_columnsCovered_35 : decode cX1_columnsCovered 35 = .ok (.iconst 0, 1) := by decide +kernel
theorem dX1_columnsCovered_36 : decode cX1_columnsCovered 36 = .ok (.invokestatic 126, 3) := by decide +kernel
theorem dX1_columnsCovered_39 : decode cX1_columnsCovered 39 = .ok (.istore_n 3, 1) := by decide +kernel
theorem dX1_columnsCovered_40 : decode cX1_columnsCovered 40 = .ok (.aload_n 0, 1) := by decide +kernel
theorem dX1_columnsCovered_41 : decode cX1_columnsCovered 41 = .ok (.getfield 9, 3) := by decide +kernel
theorem dX1_columnsCovered_44 : decode cX1_columnsCovered 44 = .ok (.iload_n 1, 1) := by decide +kernel
theorem dX1_columnsCovered_45 : decode cX1_columnsCovered 45 = .ok (.iaload, 1) := by decide +kernel
theorem dX1_columnsCovered_46 : decode cX1_columnsCovered 46 = .ok (.aload_n 0, 1) := by decide +kernel
theorem dX1_columnsCovered_47 : decode cX1_columnsCovered 47 = .ok (.getfield 18, 3) := by decide +kernel
theorem dX1_columnsCovered_50 : decode cX1_columnsCovered 50 = .ok (.iload_n 1, 1) := by decide +kernel
theorem dX1_columnsCovered_51 : decode cX1_columnsCovered 51 = .ok (.iaload, 1) := by decide +kernel
theorem dX1_columnsCovered_52 : decode cX1_columnsCovered 52 = .ok (.iadd, 1) := by decide +kernel
theorem dX1_columnsCovered_53 : decode cX1_columnsCovered 53 = .ok (.bipush 24, 2) := by decide +kernel
theorem dX1_columnsCovered_55 : decode cX1_columnsCovered 55 = .ok (.invokestatic 131, 3) := by decide +kernel
theorem dX1_columnsCovered_58 : decode cX1_columnsCovered 58 = .ok (.istore 4, 2) := by decide +kernel
theorem dX1_columnsCovered_60 : decode cX1_columnsCovered 60 = .ok (.iload_n 3, 1) := by decide +kernel
theorem dX1_columnsCovered_61 : decode cX1_columnsCovered 61 = .ok (.iload 4, 2) := by decide +kernel
theorem dX1_columnsCovered_63 : decode cX1_columnsCovered 63 = .ok (.if_icmp .ge 14, 3) := by decide +kernel
theorem dX1_columnsCovered_66 : decode cX1_columnsCovered 66 = .ok (.iload_n 3, 1) := by decide +kernel
theorem dX1_columnsCovered_67 : decode cX1_columnsCovered 67 = .ok (.iload 4, 2) := by decide +kernel
theorem dX1_columnsCovered_69 : decode cX1_columnsCovered 69 = .ok (.iload_n 3, 1) := by decide +kernel
theorem dX1_columnsCovered_70 : decode cX1_columnsCovered 70 = .ok (.isub, 1) := by decide +kernel
theorem dX1_columnsCovered_71 : decode cX1_columnsCovered 71 = .ok (.invokestatic 134, 3) := by decide +kernel
theorem dX1_columnsCovered_74 : decode cX1_columnsCovered 74 = .ok (.goto 4, 3) := by decide +kernel
theorem dX1_columnsCovered_77 : decode cX1_columnsCovered 77 = .ok (.iconst 0, 1) := by decide +kernel
theorem dX1_columnsCovered_78 : decode cX1_columnsCovered 78 = .ok (.ireturn, 1) := by decide +kernel
theorem dX2_init_0 : decode cX2_init 0 = .ok (.aload_n 0, 1) := by decide +kernel
theorem dX2_init_1 : decode cX2_init 1 = .ok (.invokespecial 3, 3) := by decide +kernel
theorem dX2_init_4 : decode cX2_init 4 = .ok (.aload_n 0, 1) := by decide +kernel
theorem dX2_init_5 : decode cX2_init 5 = .ok (.iconst 0, 1) := by decide +kernel
theorem dX2_init_6 : decode cX2_init 6 = .ok (.putfield 9, 3) := by decide +kernel
theorem dX2_init_9 : decode cX2_init 9 = .ok (.aload_n 0, 1) := by decide +kernel
theorem dX2_init_10 : decode cX2_init 10 = .ok (.iconst (-1), 1) := by decide +kernel
theorem dX2_init_11 : decode cX2_init 11 = .ok (.putfield 15, 3) := by decide +kernel
theorem dX2_init_14 : decode cX2_init 14 = .ok (.aload_n 0, 1) := by decide +kernel
theorem dX2_init_15 : decode cX2_init 15 = .ok (.iconst (-1), 1) := by decide +kernel
theorem dX2_init_16 : decode cX2_init 16 = .ok (.putfield 18, 3) := by decide +kernel
theorem dX2_init_19 : decode cX2_init 19 = .ok (.return_, 1) := by decide +kernel
theorem dX2_passTo_0 : decode cX2_passTo 0 = .ok (.aload_n 0, 1) := by decide +kernel
theorem dX2_passTo_1 : decode cX2_passTo 1 = .ok (.iconst 1, 1) := by decide +kernel
theorem dX2_passTo_2 : decode cX2_passTo 2 = .ok (.putfield 9, 3) := by decide +kernel
theorem dX2_passTo_5 : decode cX2_passTo 5 = .ok (.aload_n 0, 1) := by decide +kernel
theorem dX2_passTo_6 : decode cX2_passTo 6 = .ok (.iload_n 1, 1) := by decide +kernel
theorem dX2_passTo_7 : decode cX2_passTo 7 = .ok (.putfield 15, 3) := by decide +kernel
theorem dX2_passTo_10 : decode cX2_passTo 10 = .ok (.aload_n 0, 1) := by decide +kernel
theorem dX2_passTo_11 : decode cX2_passTo 11 = .ok (.iload_n 2, 1) := by decide +kernel
theorem dX2_passTo_12 : decode cX2_passTo 12 = .ok (.putfield 21, 3) := by decide +kernel
theorem dX2_passTo_15 : decode cX2_passTo 15 = .ok (.return_, 1) := by decide +kernel
theorem dX3_init_0 : decode cX3_init 0 = .ok (.aload_n 0, 1) := by decide +kernel
theorem dX3_init_1 : decode cX3_init 1 = .ok (.invokespecial 3, 3) := by decide +kernel
theorem dX3_init_4 : decode cX3_init 4 = .ok (.aload_n 0, 1) := by decide +kernel
theorem dX3_init_5 : decode cX3_init 5 = .ok (.new 9, 3) := by decide +kernel
theorem dX3_init_8 : decode cX3_init 8 = .ok (.dup, 1) := by decide +kernel
theorem dX3_init_9 : decode cX3_init 9 = .ok (.invokespecial 11, 3) := by decide +kernel
theorem dX3_init_12 : decode cX3_init 12 = .ok (.putfield 12, 3) := by decide +kernel
theorem dX3_init_15 : decode cX3_init 15 = .ok (.aload_n 0, 1) := by decide +kernel
theorem dX3_init_16 : decode cX3_init 16 = .ok (.bipush 6, 2) := by decide +kernel
theorem dX3_init_18 : decode cX3_init 18 = .ok (.newarray .int, 2) := by decide +kernel
theorem dX3_init_20 : decode cX3_init 20 = .ok (.putfield 18, 3) := by decide +kernel
theorem dX3_init_23 : decode cX3_init 23 = .ok (.aload_n 0, 1) := by decide +kernel
theorem dX3_init_24 : decode cX3_init 24 = .ok (.sipush 200, 3) := by decide +kernel
theorem dX3_init_27 : decode cX3_init 27 = .ok (.newarray .boolean, 2) := by decide +kernel
theorem dX3_init_29 : decode cX3_init 29 = .ok (.putfield 22, 3) := by decide +kernel
theorem dX3_init_32 : decode cX3_init 32 = .ok (.aload_n 0, 1) := by decide +kernel
theorem dX3_init_33 : decode cX3_init 33 = .ok (.new 26, 3) := by decide +kernel
theorem dX3_init_36 : decode cX3_init 36 = .ok (.dup, 1) := by decide +kernel
theorem dX3_init_37 : decode cX3_init 37 = .ok (.invokespecial 28, 3) := by decide +kernel
theorem dX3_init_40 : decode cX3_init 40 = .ok (.putfield 29, 3) := by decide +kernel
theorem dX3_init_43 : decode cX3_init 43 = .ok (.aload_n 0, 1) := by decide +kernel
theorem dX3_init_44 : decode cX3_init 44 = .ok (.iload_n 1, 1) := by decide +kernel
theorem dX3_init_45 : decode cX3_init 45 = .ok (.putfield 33, 3) := by decide +kernel
theorem dX3_init_48 : decode cX3_init 48 = .ok (.aload_n 0, 1) := by decide +kernel
theorem dX3_init_49 : decode cX3_init 49 = .ok (.aload_n 2, 1) := by decide +kernel
theorem dX3_init_50 : decode cX3_init 50 = .ok (.putfield 37, 3) := by decide +kernel
theorem dX3_init_53 : decode cX3_init 53 = .ok (.aload_n 0, 1) := by decide +kernel
theorem dX3_init_54 : decode cX3_init 54 = .ok (.iload_n 3, 1) := by decide +kernel
theorem dX3_init_55 : decode cX3_init 55 = .ok (.putfield 41, 3) := by decide +kernel
theorem dX3_init_58 : decode cX3_init 58 = .ok (.return_, 1) := by decide +kernel
theorem dX3_issue_0 : decode cX3_issue 0 = .ok (.iconst 0, 1) := by decide +kernel
theorem dX3_issue_1 : decode cX3_issue 1 = .ok (.istore_n 2, 1) := by decide +kernel
theorem dX3_issue_2 : decode cX3_issue 2 = .ok (.iload_n 2, 1) := by decide +kernel
theorem dX3_issue_3 : decode cX3_issue 3 = .ok (.iload_n 1, 1) := by decide +kernel
theorem dX3_issue_4 : decode cX3_issue 4 = .ok (.if_icmp .ge 30, 3) := by decide +kernel
theorem dX3_issue_7 : decode cX3_issue 7 = .ok (.iload_n 2, 1) := by decide +kernel
theorem dX3_issue_8 : decode cX3_issue 8 = .ok (.bipush 20, 2) := by decide +kernel
theorem dX3_issue_10 : decode cX3_issue 10 = .ok (.if_icmp .ge 24, 3) := by decide +kernel
theorem dX3_issue_13 : decode cX3_issue 13 = .ok (.aload_n 0, 1) := by decide +kernel
theorem dX3_issue_14 : decode cX3_issue 14 = .ok (.getfield 29, 3) := by decide +kernel
theorem dX3_issue_17 : decode cX3_issue 17 = .ok (.new 44, 3) := by decide +kernel
theorem dX3_issue_20 : decode cX3_issue 20 = .ok (.dup, 1) := by decide +kernel
theorem dX3_issue_21 : decode cX3_issue 21 = .ok (.invokespecial 46, 3) := by decide +kernel
theorem dX3_issue_24 : decode cX3_issue 24 = .ok (.invokevirtual 47, 3) := by decide +kernel
theorem dX3_issue_27 : decode cX3_issue 27 = .ok (.pop, 1) := by decide +kernel
theorem dX3_issue_28 : decode cX3_issue 28 = .ok (.iinc 2 1, 3) := by decide +kernel
theorem dX3_issue_31 : decode cX3_issue 31 = .ok (.goto (-29), 3) := by decide +kernel
theorem dX3_issue_34 : decode cX3_issue 34 = .ok (.return_, 1) := by decide +kernel
theorem dX3_addArea_0 : decode cX3_addArea 0 = .ok (.iload_n 1, 1) := by decide +kernel
theorem dX3_addArea_1 : decode cX3_addArea 1 = .ok (.ifCond .lt 29, 3) := by decide +kernel
theorem dX3_addArea_4 : decode cX3_addArea 4 = .ok (.iload_n 1, 1) := by decide +kernel
theorem dX3_addArea_5 : decode cX3_addArea 5 = .ok (.bipush 6, 2) := by decide +kernel
theorem dX3_addArea_7 : decode cX3_addArea 7 = .ok (.if_icmp .ge 23, 3) := by decide +kernel
theorem dX3_addArea_10 : decode cX3_addArea 10 = .ok (.aload_n 0, 1) := by decide +kernel
theorem dX3_addArea_11 : decode cX3_addArea 11 = .ok (.getfield 18, 3) := by decide +kernel
theorem dX3_addArea_14 : decode cX3_addArea 14 = .ok (.iload_n 1, 1) := by decide +kernel
theorem dX3_addArea_15 : decode cX3_addArea 15 = .ok (.dup2, 1) := by decide +kernel
theorem dX3_addArea_16 : decode cX3_addArea 16 = .ok (.iaload, 1) := by decide +kernel
theorem dX3_addArea_17 : decode cX3_addArea 17 = .ok (.iload_n 2, 1) := by decide +kernel
theorem dX3_addArea_18 : decode cX3_addArea 18 = .ok (.iadd, 1) := by decide +kernel
theorem dX3_addArea_19 : decode cX3_addArea 19 = .ok (.iastore, 1) := by decide +kernel
theorem dX3_addArea_20 : decode cX3_addArea 20 = .ok (.aload_n 0, 1) := by decide +kernel
theorem dX3_addArea_21 : decode cX3_addArea 21 = .ok (.dup, 1) := by decide +kernel
theorem dX3_addArea_22 : decode cX3_addArea 22 = .ok (.getfield 51, 3) := by decide +kernel
theorem dX3_addArea_25 : decode cX3_addArea 25 = .ok (.iload_n 2, 1) := by decide +kernel
theorem dX3_addArea_26 : decode cX3_addArea 26 = .ok (.iadd, 1) := by decide +kernel
theorem dX3_addArea_27 : decode cX3_addArea 27 = .ok (.putfield 51, 3) := by decide +kernel
theorem dX3_addArea_30 : decode cX3_addArea 30 = .ok (.return_, 1) := by decide +kernel
theorem dX3_hold_0 : decode cX3_hold 0 = .ok (.iload_n 1, 1) := by decide +kernel
theorem dX3_hold_1 : decode cX3_hold 1 = .ok (.ifCond .lt 17, 3) := by decide +kernel
theorem dX3_hold_4 : decode cX3_hold 4 = .ok (.iload_n 1, 1) := by decide +kernel
theorem dX3_hold_5 : decode cX3_hold 5 = .ok (.sipush 200, 3) := by decide +kernel
theorem dX3_hold_8 : decode cX3_hold 8 = .ok (.if_icmp .ge 10, 3) := by decide +kernel
theorem dX3_hold_11 : decode cX3_hold 11 = .ok (.aload_n 0, 1) := by decide +kernel
theorem dX3_hold_12 : decode cX3_hold 12 = .ok (.getfield 22, 3) := by decide +kernel
theorem dX3_hold_15 : decode cX3_hold 15 = .ok (.iload_n 1, 1) := by decide +kernel
theorem dX3_hold_16 : decode cX3_hold 16 = .ok (.iconst 1, 1) := by decide +kernel
theorem dX3_hold_17 : decode cX3_hold 17 = .ok (.bastore, 1) := by decide +kernel
theorem dX3_hold_18 : decode cX3_hold 18 = .ok (.return_, 1) := by decide +kernel
theorem dX3_isHolding_0 : decode cX3_isHolding 0 = .ok (.aload_n 0, 1) := by decide +kernel
theorem dX3_isHolding_1 : decode cX3_isHolding 1 = .ok (.getfield 54, 3) := by decide +kernel
theorem dX3_isHolding_4 : decode cX3_isHolding 4 = .ok (.ifCond .ne 27, 3) := by decide +kernel
theorem dX3_isHolding_7 : decode cX3_isHolding 7 = .ok (.iload_n 1, 1) := by decide +kernel
theorem dX3_isHolding_8 : decode cX3_isHolding 8 = .ok (.ifCond .lt 23, 3) := by decide +kernel
theorem dX3_isHolding_11 : decode cX3_isHolding 11 = .ok (.iload_n 1, 1) := by decide +kernel
theorem dX3_isHolding_12 : decode cX3_isHolding 12 = .ok (.sipush 200, 3) := by decide +kernel
theorem dX3_isHolding_15 : decode cX3_isHolding 15 = .ok (.if_icmp .ge 16, 3) := by decide +kernel
theorem dX3_isHolding_18 : decode cX3_isHolding 18 = .ok (.aload_n 0, 1) := by decide +kernel
theorem dX3_isHolding_19 : decode cX3_isHolding 19 = .ok (.getfield 22, 3) := by decide +kernel
theorem dX3_isHolding_22 : decode cX3_isHolding 22 = .ok (.iload_n 1, 1) := by decide +kernel
theorem dX3_isHolding_23 : decode cX3_isHolding 23 = .ok (.baload, 1) := by decide +kernel
theorem dX3_isHolding_24 : decode cX3_isHolding 24 = .ok (.ifCond .eq 7, 3) := by decide +kernel
theorem dX3_isHolding_27 : decode cX3_isHolding 27 = .ok (.iconst 1, 1) := by decide +kernel
theorem dX3_isHolding_28 : decode cX3_isHolding 28 = .ok (.goto 4, 3) := by decide +kernel
theorem dX3_isHolding_31 : decode cX3_isHolding 31 = .ok (.iconst 0, 1) := by decide +kernel
theorem dX3_isHolding_32 : decode cX3_isHolding 32 = .ok (.ireturn, 1) := by decide +kernel
theorem dX3_countHeld_0 : decode cX3_countHeld 0 = .ok (.iconst 0, 1) := by decide +kernel
theorem dX3_countHeld_1 : decode cX3_countHeld 1 = .ok (.istore_n 1, 1) := by decide +kernel
theorem dX3_countHeld_2 : decode cX3_countHeld 2 = .ok (.iconst 0, 1) := by decide +kernel
theorem dX3_countHeld_3 : decode cX3_countHeld 3 = .ok (.istore_n 2, 1) := by decide +kernel
theorem dX3_countHeld_4 : decode cX3_countHeld 4 = .ok (.iload_n 2, 1) := by decide +kernel
theorem dX3_countHeld_5 : decode cX3_countHeld 5 = .ok (.sipush 200, 3) := by decide +kernel
theorem dX3_countHeld_8 : decode cX3_countHeld 8 = .ok (.if_icmp .ge 20, 3) := by decide +kernel
theorem dX3_countHeld_11 : decode cX3_countHeld 11 = .ok (.aload_n 0, 1) := by decide +kernel
theorem dX3_countHeld_12 : decode cX3_countHeld 12 = .ok (.iload_n 2, 1) := by decide +kernel
theorem dX3_countHeld_13 : decode cX3_countHeld 13 = .ok (.invokevirtual 58, 3) := by decide +kernel
theorem dX3_countHeld_16 : decode cX3_countHeld 16 = .ok (.ifCond .eq 6, 3) := by decide +kernel
theorem dX3_countHeld_19 : decode cX3_countHeld 19 = .ok (.iinc 1 1, 3) := by decide +kernel
theorem dX3_countHeld_22 : decode cX3_countHeld 22 = .ok (.iinc 2 1, 3) := by decide +kernel
theorem dX3_countHeld_25 : decode cX3_countHeld 25 = .ok (.goto (-21), 3) := by decide +kernel
theorem dX3_countHeld_28 : decode cX3_countHeld 28 = .ok (.iload_n 1, 1) := by decide +kernel
theorem dX3_countHeld_29 : decode cX3_countHeld 29 = .ok (.ireturn, 1) := by decide +kernel
theorem dX3_changeSoldCopies_0 : decode cX3_changeSoldCopies 0 = .ok (.iconst 0, 1) := by decide +kernel
theorem dX3_changeSoldCopies_1 : decode cX3_changeSoldCopies 1 = .ok (.istore_n 2, 1) := by decide +kernel
theorem dX3_changeSoldCopies_2 : decode cX3_changeSoldCopies 2 = .ok (.iconst 0, 1) := by decide +kernel
theorem dX3_changeSoldCopies_3 : decode cX3_changeSoldCopies 3 = .ok (.istore_n 3, 1) := by decide +kernel
theorem dX3_changeSoldCopies_4 : decode cX3_changeSoldCopies 4 = .ok (.iload_n 3, 1) := by decide +kernel
theorem dX3_changeSoldCopies_5 : decode cX3_changeSoldCopies 5 = .ok (.aload_n 0, 1) := by decide +kernel
theorem dX3_changeSoldCopies_6 : decode cX3_changeSoldCopies 6 = .ok (.getfield 29, 3) := by decide +kernel
theorem dX3_changeSoldCopies_9 : decode cX3_changeSoldCopies 9 = .ok (.invokevirtual 62, 3) := by decide +kernel
theorem dX3_changeSoldCopies_12 : decode cX3_changeSoldCopies 12 = .ok (.if_icmp .ge 46, 3) := by decide +kernel
theorem dX3_changeSoldCopies_15 : decode cX3_changeSoldCopies 15 = .ok (.aload_n 0, 1) := by decide +kernel
theorem dX3_changeSoldCopies_16 : decode cX3_changeSoldCopies 16 = .ok (.getfield 29, 3) := by decide +kernel
theorem dX3_changeSoldCopies_19 : decode cX3_changeSoldCopies 19 = .ok (.iload_n 3, 1) := by decide +kernel
theorem dX3_changeSoldCopies_20 : decode cX3_changeSoldCopies 20 = .ok (.invokevirtual 66, 3) := by decide +kernel
theorem dX3_changeSoldCopies_23 : decode cX3_changeSoldCopies 23 = .ok (.checkcast 44, 3) := by decide +kernel
theorem dX3_changeSoldCopies_26 : decode cX3_changeSoldCopies 26 = .ok (.astore 4, 2) := by decide +kernel
theorem dX3_changeSoldCopies_28 : decode cX3_changeSoldCopies 28 = .ok (.aload 4, 2) := by decide +kernel
theorem dX3_changeSoldCopies_30 : decode cX3_changeSoldCopies 30 = .ok (.getfield 70, 3) := by decide +kernel
theorem dX3_changeSoldCopies_33 : decode cX3_changeSoldCopies 33 = .ok (.iconst 1, 1) := by decide +kernel
theorem dX3_changeSoldCopies_34 : decode cX3_changeSoldCopies 34 = .ok (.if_icmp .ne 18, 3) := by decide +kernel
theorem dX3_changeSoldCopies_37 : decode cX3_changeSoldCopies 37 = .ok (.aload 4, 2) := by decide +kernel
theorem dX3_changeSoldCopies_39 : decode cX3_changeSoldCopies 39 = .ok (.iconst 2, 1) := by decide +kernel
theorem dX3_changeSoldCopies_40 : decode cX3_changeSoldCopies 40 = .ok (.putfield 70, 3) := by decide +kernel
theorem dX3_changeSoldCopies_43 : decode cX3_changeSoldCopies 43 = .ok (.aload 4, 2) := by decide +kernel
theorem dX3_changeSoldCopies_45 : decode cX3_changeSoldCopies 45 = .ok (.iload_n 1, 1) := by decide +kernel
theorem dX3_changeSoldCopies_46 : decode cX3_changeSoldCopies 46 = .ok (.putfield 73, 3) := by decide +kernel
theorem dX3_changeSoldCopies_49 : decode cX3_changeSoldCopies 49 = .ok (.iinc 2 1, 3) := by decide +kernel
theorem dX3_changeSoldCopies_52 : decode cX3_changeSoldCopies 52 = .ok (.iinc 3 1, 3) := by decide +kernel
theorem dX3_changeSoldCopies_55 : decode cX3_changeSoldCopies 55 = .ok (.goto (-51), 3) := by decide +kernel
theorem dX3_changeSoldCopies_58 : decode cX3_changeSoldCopies 58 = .ok (.iload_n 2, 1) := by decide +kernel
theorem dX3_changeSoldCopies_59 : decode cX3_changeSoldCopies 59 = .ok (.ireturn, 1) := by decide +kernel
theorem dX3_share_0 : decode cX3_share 0 = .ok (.iload_n 1, 1) := by decide +kernel
theorem dX3_share_1 : decode cX3_share 1 = .ok (.istore_n 3, 1) := by decide +kernel
theorem dX3_share_2 : decode cX3_share 2 = .ok (.iconst 0, 1) := by decide +kernel
theorem dX3_share_3 : decode cX3_share 3 = .ok (.istore 4, 2) := by decide +kernel
theorem dX3_share_5 : decode cX3_share 5 = .ok (.iload 4, 2) := by decide +kernel
theorem dX3_share_7 : decode cX3_share 7 = .ok (.bipush 6, 2) := by decide +kernel
theorem dX3_share_9 : decode cX3_share 9 = .ok (.if_icmp .ge 57, 3) := by decide +kernel
theorem dX3_share_12 : decode cX3_share 12 = .ok (.iload 4, 2) := by decide +kernel
theorem dX3_share_14 : decode cX3_share 14 = .ok (.aload_n 2, 1) := by decide +kernel
theorem dX3_share_15 : decode cX3_share 15 = .ok (.arraylength, 1) := by decide +kernel
theorem dX3_share_16 : decode cX3_share 16 = .ok (.if_icmp .ge 50, 3) := by decide +kernel
theorem dX3_share_19 : decode cX3_share 19 = .ok (.aload_n 0, 1) := by decide +kernel
theorem dX3_share_20 : decode cX3_share 20 = .ok (.getfield 51, 3) := by decide +kernel
theorem dX3_share_23 : decode cX3_share 23 = .ok (.ifCond .le 20, 3) := by decide +kernel
theorem dX3_share_26 : decode cX3_share 26 = .ok (.iload_n 1, 1) := by decide +kernel
theorem dX3_share_27 : decode cX3_share 27 = .ok (.aload_n 0, 1) := by decide +kernel
theorem dX3_share_28 : decode cX3_share 28 = .ok (.getfield 18, 3) := by decide +kernel
theorem dX3_share_31 : decode cX3_share 31 = .ok (.iload 4, 2) := by decide +kernel
theorem dX3_share_33 : decode cX3_share 33 = .ok (.iaload, 1) := by decide +kernel
theorem dX3_share_34 : decode cX3_share 34 = .ok (.imul, 1) := by decide +kernel
theorem dX3_share_35 : decode cX3_share 35 = .ok (.aload_n 0, 1) := by decide +kernel
theorem dX3_share_36 : decode cX3_share 36 = .ok (.getfield 51, 3) := by decide +kernel
theorem dX3_share_39 : decode cX3_share 39 = .ok (.idiv, 1) := by decide +kernel
theorem dX3_share_40 : decode cX3_share 40 = .ok (.goto 4, 3) := by decide +kernel
theorem dX3_share_43 : decode cX3_share 43 = .ok (.iconst 0, 1) := by decide +kernel
theorem dX3_share_44 : decode cX3_share 44 = .ok (.istore 5, 2) := by decide +kernel
theorem dX3_share_46 : decode cX3_share 46 = .ok (.aload_n 2, 1) := by decide +kernel
theorem dX3_share_47 : decode cX3_share 47 = .ok (.iload 4, 2) := by decide +kernel
theorem dX3_share_49 : decode cX3_share 49 = .ok (.dup2, 1) := by decide +kernel
theorem dX3_share_50 : decode cX3_share 50 = .ok (.iaload, 1) := by decide +kernel
theorem dX3_share_51 : decode cX3_share 51 = .ok (.iload 5, 2) := by decide +kernel
theorem dX3_share_53 : decode cX3_share 53 = .ok (.iadd, 1) := by decide +kernel
theorem dX3_share_54 : decode cX3_share 54 = .ok (.iastore, 1) := by decide +kernel
theorem dX3_share_55 : decode cX3_share 55 = .ok (.iload_n 3, 1) := by decide +kernel
theorem dX3_share_56 : decode cX3_share 56 = .ok (.iload 5, 2) := by decide +kernel
theorem dX3_share_58 : decode cX3_share 58 = .ok (.isub, 1) := by decide +kernel
theorem dX3_share_59 : decode cX3_share 59 = .ok (.istore_n 3, 1) := by decide +kernel
theorem dX3_share_60 : decode cX3_share 60 = .ok (.iinc 4 1, 3) := by decide +kernel
theorem dX3_share_63 : decode cX3_share 63 = .ok (.goto (-58), 3) := by decide +kernel
theorem dX3_share_66 : decode cX3_share 66 = .ok (.aload_n 0, 1) := by decide +kernel
theorem dX3_share_67 : decode cX3_share 67 = .ok (.getfield 33, 3) := by decide +kernel
theorem dX3_share_70 : decode cX3_share 70 = .ok (.ifCond .lt 22, 3) := by decide +kernel
theorem dX3_share_73 : decode cX3_share 73 = .ok (.aload_n 0, 1) := by decide +kernel
theorem dX3_share_74 : decode cX3_share 74 = .ok (.getfield 33, 3) := by decide +kernel
theorem dX3_share_77 : decode cX3_share 77 = .ok (.aload_n 2, 1) := by decide +kernel
theorem dX3_share_78 : decode cX3_share 78 = .ok (.arraylength, 1) := by decide +kernel
theorem dX3_share_79 : decode cX3_share 79 = .ok (.if_icmp .ge 13, 3) := by decide +kernel
theorem dX3_share_82 : decode cX3_share 82 = .ok (.aload_n 2, 1) := by decide +kernel
theorem dX3_share_83 : decode cX3_share 83 = .ok (.aload_n 0, 1) := by decide +kernel
theorem dX3_share_84 : decode cX3_share 84 = .ok (.getfield 33, 3) := by decide +kernel
theorem dX3_share_87 : decode cX3_share 87 = .ok (.dup2, 1) := by decide +kernel
theorem dX3_share_88 : decode cX3_share 88 = .ok (.iaload, 1) := by decide +kernel
theorem dX3_share_89 : decode cX3_share 89 = .ok (.iload_n 3, 1) := by decide +kernel
theorem dX3_share_90 : decode cX3_share 90 = .ok (.iadd, 1) := by decide +kernel
theorem dX3_share_91 : decode cX3_share 91 = .ok (.iastore, 1) := by decide +kernel
theorem dX3_share_92 : decode cX3_share 92 = .ok (.return_, 1) := by decide +kernel
theorem dX4_init_0 : decode cX4_init 0 = .ok (.aload_n 0, 1) := by decide +kernel
theorem dX4_init_1 : decode cX4_init 1 = .ok (.invokespecial 1, 3) := by decide +kernel
theorem dX4_init_4 : decode cX4_init 4 = .ok (.aload_n 0, 1) := by decide +kernel
theorem dX4_init_5 : decode cX4_init 5 = .ok (.iload_n 1, 1) := by decide +kernel
theorem dX4_init_6 : decode cX4_init 6 = .ok (.putfield 7, 3) := by decide +kernel
theorem dX4_init_9 : decode cX4_init 9 = .ok (.aload_n 0, 1) := by decide +kernel
theorem dX4_init_10 : decode cX4_init 10 = .ok (.iload_n 2, 1) := by decide +kernel
theorem dX4_init_11 : decode cX4_init 11 = .ok (.putfield 13, 3) := by decide +kernel
theorem dX4_init_14 : decode cX4_init 14 = .ok (.aload_n 0, 1) := by decide +kernel
theorem dX4_init_15 : decode cX4_init 15 = .ok (.iload_n 3, 1) := by decide +kernel
theorem dX4_init_16 : decode cX4_init 16 = .ok (.putfield 16, 3) := by decide +kernel
theorem dX4_init_19 : decode cX4_init 19 = .ok (.return_, 1) := by decide +kernel
theorem dX5_init_0 : decode cX5_init 0 = .ok (.aload_n 0, 1) := by decide +kernel
theorem dX5_init_1 : decode cX5_init 1 = .ok (.invokespecial 1, 3) := by decide +kernel
theorem dX5_init_4 : decode cX5_init 4 = .ok (.aload_n 0, 1) := by decide +kernel
theorem dX5_init_5 : decode cX5_init 5 = .ok (.iload_n 1, 1) := by decide +kernel
theorem dX5_init_6 : decode cX5_init 6 = .ok (.putfield 7, 3) := by decide +kernel
theorem dX5_init_9 : decode cX5_init 9 = .ok (.aload_n 0, 1) := by decide +kernel
theorem dX5_init_10 : decode cX5_init 10 = .ok (.iload_n 2, 1) := by decide +kernel
theorem dX5_init_11 : decode cX5_init 11 = .ok (.putfield 13, 3) := by decide +kernel
theorem dX5_init_14 : decode cX5_init 14 = .ok (.aload_n 0, 1) := by decide +kernel
theorem dX5_init_15 : decode cX5_init 15 = .ok (.iload_n 3, 1) := by decide +kernel
theorem dX5_init_16 : decode cX5_init 16 = .ok (.putfield 16, 3) := by decide +kernel
theorem dX5_init_19 : decode cX5_init 19 = .ok (.aload_n 0, 1) := by decide +kernel
theorem dX5_init_20 : decode cX5_init 20 = .ok (.iload 4, 2) := by decide +kernel
theorem dX5_init_22 : decode cX5_init 22 = .ok (.putfield 19, 3) := by decide +kernel
theorem dX5_init_25 : decode cX5_init 25 = .ok (.aload_n 0, 1) := by decide +kernel
theorem dX5_init_26 : decode cX5_init 26 = .ok (.iload 5, 2) := by decide +kernel
theorem dX5_init_28 : decode cX5_init 28 = .ok (.putfield 22, 3) := by decide +kernel
theorem dX5_init_31 : decode cX5_init 31 = .ok (.aload_n 0, 1) := by decide +kernel
theorem dX5_init_32 : decode cX5_init 32 = .ok (.iload 6, 2) := by decide +kernel
theorem dX5_init_34 : decode cX5_init 34 = .ok (.putfield 25, 3) := by decide +kernel
theorem dX5_init_37 : decode cX5_init 37 = .ok (.return_, 1) := by decide +kernel
theorem dX6_init_0 : decode cX6_init 0 = .ok (.aload_n 0, 1) := by decide +kernel
theorem dX6_init_1 : decode cX6_init 1 = .ok (.invokespecial 3, 3) := by decide +kernel
theorem dX6_init_4 : decode cX6_init 4 = .ok (.aload_n 0, 1) := by decide +kernel
theorem dX6_init_5 : decode cX6_init 5 = .ok (.iload_n 1, 1) := by decide +kernel
theorem dX6_init_6 : decode cX6_init 6 = .ok (.putfield 9, 3) := by decide +kernel
theorem dX6_init_9 : decode cX6_init 9 = .ok (.aload_n 0, 1) := by decide +kernel
theorem dX6_init_10 : decode cX6_init 10 = .ok (.iload_n 2, 1) := by decide +kernel
theorem dX6_init_11 : decode cX6_init 11 = .ok (.putfield 15, 3) := by decide +kernel
theorem dX6_init_14 : decode cX6_init 14 = .ok (.aload_n 0, 1) := by decide +kernel
theorem dX6_init_15 : decode cX6_init 15 = .ok (.iload_n 3, 1) := by decide +kernel
theorem dX6_init_16 : decode cX6_init 16 = .ok (.putfield 18, 3) := by decide +kernel
theorem dX6_init_19 : decode cX6_init 19 = .ok (.aload_n 0, 1) := by decide +kernel
theorem dX6_init_20 : decode cX6_init 20 = .ok (.iload 4, 2) := by decide +kernel
theorem dX6_init_22 : decode cX6_init 22 = .ok (.putfield 21, 3) := by decide +kernel
theorem dX6_init_25 : decode cX6_init 25 = .ok (.return_, 1) := by decide +kernel
theorem dX6_countShown_0 : decode cX6_countShown 0 = .ok (.aload_n 0, 1) := by decide +kernel
theorem dX6_countShown_1 : decode cX6_countShown 1 = .ok (.getfield 9, 3) := by decide +kernel
theorem dX6_countShown_4 : decode cX6_countShown 4 = .ok (.aload_n 0, 1) := by decide +kernel
theorem dX6_countShown_5 : decode cX6_countShown 5 = .ok (.getfield 18, 3) := by decide +kernel
theorem dX6_countShown_8 : decode cX6_countShown 8 = .ok (.invokestatic 24, 3) := by decide +kernel
theorem dX6_countShown_11 : decode cX6_countShown 11 = .ok (.istore 5, 2) := by decide +kernel
theorem dX6_countShown_13 : decode cX6_countShown 13 = .ok (.iconst 0, 1) := by decide +kernel
theorem dX6_countShown_14 : decode cX6_countShown 14 = .ok (.istore 6, 2) := by decide +kernel
theorem dX6_countShown_16 : decode cX6_countShown 16 = .ok (.aload_n 0, 1) := by decide +kernel
theorem dX6_countShown_17 : decode cX6_countShown 17 = .ok (.getfield 15, 3) := by decide +kernel
theorem dX6_countShown_20 : decode cX6_countShown 20 = .ok (.istore 7, 2) := by decide +kernel
theorem dX6_countShown_22 : decode cX6_countShown 22 = .ok (.iload 7, 2) := by decide +kernel
theorem dX6_countShown_24 : decode cX6_countShown 24 = .ok (.aload_n 0, 1) := by decide +kernel
theorem dX6_countShown_25 : decode cX6_countShown 25 = .ok (.getfield 15, 3) := by decide +kernel
theorem dX6_countShown_28 : decode cX6_countShown 28 = .ok (.aload_n 0, 1) := by decide +kernel
theorem dX6_countShown_29 : decode cX6_countShown 29 = .ok (.getfield 21, 3) := by decide +kernel
theorem dX6_countShown_32 : decode cX6_countShown 32 = .ok (.iadd, 1) := by decide +kernel
theorem dX6_countShown_33 : decode cX6_countShown 33 = .ok (.if_icmp .ge 28, 3) := by decide +kernel
theorem dX6_countShown_36 : decode cX6_countShown 36 = .ok (.iload 6, 2) := by decide +kernel
theorem dX6_countShown_38 : decode cX6_countShown 38 = .ok (.iload 5, 2) := by decide +kernel
theorem dX6_countShown_40 : decode cX6_countShown 40 = .ok (.aload_n 1, 1) := by decide +kernel
theorem dX6_countShown_41 : decode cX6_countShown 41 = .ok (.iload_n 2, 1) := by decide +kernel
theorem dX6_countShown_42 : decode cX6_countShown 42 = .ok (.iload 7, 2) := by decide +kernel
theorem dX6_countShown_44 : decode cX6_countShown 44 = .ok (.lload_n 3, 1) := by decide +kernel
theorem dX6_countShown_45 : decode cX6_countShown 45 = .ok (.invokevirtual 28, 3) := by decide +kernel
theorem dX6_countShown_48 : decode cX6_countShown 48 = .ok (.iand, 1) := by decide +kernel
theorem dX6_countShown_49 : decode cX6_countShown 49 = .ok (.invokestatic 34, 3) := by decide +kernel
theorem dX6_countShown_52 : decode cX6_countShown 52 = .ok (.iadd, 1) := by decide +kernel
theorem dX6_countShown_53 : decode cX6_countShown 53 = .ok (.istore 6, 2) := by decide +kernel
theorem dX6_countShown_55 : decode cX6_countShown 55 = .ok (.iinc 7 1, 3) := by decide +kernel
theorem dX6_countShown_58 : decode cX6_countShown 58 = .ok (.goto (-36), 3) := by decide +kernel
theorem dX6_countShown_61 : decode cX6_countShown 61 = .ok (.iload 6, 2) := by decide +kernel
theorem dX6_countShown_63 : decode cX6_countShown 63 = .ok (.ireturn, 1) := by decide +kernel
theorem dX6_isAnyShown_0 : decode cX6_isAnyShown 0 = .ok (.iconst 0, 1) := by decide +kernel
theorem dX6_isAnyShown_1 : decode cX6_isAnyShown 1 = .ok (.istore 4, 2) := by decide +kernel
theorem dX6_isAnyShown_3 : decode cX6_isAnyShown 3 = .ok (.iload 4, 2) := by decide +kernel
theorem dX6_isAnyShown_5 : decode cX6_isAnyShown 5 = .ok (.bipush 40, 2) := by decide +kernel
theorem dX6_isAnyShown_7 : decode cX6_isAnyShown 7 = .ok (.if_icmp .ge 22, 3) := by decide +kernel
theorem dX6_isAnyShown_10 : decode cX6_isAnyShown 10 = .ok (.aload_n 0, 1) := by decide +kernel
theorem dX6_isAnyShown_11 : decode cX6_isAnyShown 11 = .ok (.aload_n 1, 1) := by decide +kernel
theorem dX6_isAnyShown_12 : decode cX6_isAnyShown 12 = .ok (.iload 4, 2) := by decide +kernel
theorem dX6_isAnyShown_14 : decode cX6_isAnyShown 14 = .ok (.lload_n 2, 1) := by decide +kernel
theorem dX6_isAnyShown_15 : decode cX6_isAnyShown 15 = .ok (.invokevirtual 40, 3) := by decide +kernel
theorem dX6_isAnyShown_18 : decode cX6_isAnyShown 18 = .ok (.ifCond .le 5, 3) := by decide +kernel
theorem dX6_isAnyShown_21 : decode cX6_isAnyShown 21 = .ok (.iconst 1, 1) := by decide +kernel
theorem dX6_isAnyShown_22 : decode cX6_isAnyShown 22 = .ok (.ireturn, 1) := by decide +kernel
theorem dX6_isAnyShown_23 : decode cX6_isAnyShown 23 = .ok (.iinc 4 1, 3) := by decide +kernel
theorem dX6_isAnyShown_26 : decode cX6_isAnyShown 26 = .ok (.goto (-23), 3) := by decide +kernel
theorem dX6_isAnyShown_29 : decode cX6_isAnyShown 29 = .ok (.iconst 0, 1) := by decide +kernel
theorem dX6_isAnyShown_30 : decode cX6_isAnyShown 30 = .ok (.ireturn, 1) := by decide +kernel
theorem dJ6_bitCount_0f7a4_0 : decode cJ6_bitCount_0f7a4 0 = .ok (.iload_n 0, 1) := by decide +kernel
theorem dJ6_bitCount_0f7a4_1 : decode cJ6_bitCount_0f7a4 1 = .ok (.iload_n 0, 1) := by decide +kernel
theorem dJ6_bitCount_0f7a4_2 : decode cJ6_bitCount_0f7a4 2 = .ok (.iconst 1, 1) := by decide +kernel
theorem dJ6_bitCount_0f7a4_3 : decode cJ6_bitCount_0f7a4 3 = .ok (.iushr, 1) := by decide +kernel
theorem dJ6_bitCount_0f7a4_4 : decode cJ6_bitCount_0f7a4 4 = .ok (.ldc_w 265, 3) := by decide +kernel
theorem dJ6_bitCount_0f7a4_7 : decode cJ6_bitCount_0f7a4 7 = .ok (.iand, 1) := by decide +kernel
theorem dJ6_bitCount_0f7a4_8 : decode cJ6_bitCount_0f7a4 8 = .ok (.isub, 1) := by decide +kernel
theorem dJ6_bitCount_0f7a4_9 : decode cJ6_bitCount_0f7a4 9 = .ok (.istore_n 0, 1) := by decide +kernel
theorem dJ6_bitCount_0f7a4_10 : decode cJ6_bitCount_0f7a4 10 = .ok (.iload_n 0, 1) := by decide +kernel
theorem dJ6_bitCount_0f7a4_11 : decode cJ6_bitCount_0f7a4 11 = .ok (.ldc_w 266, 3) := by decide +kernel
theorem dJ6_bitCount_0f7a4_14 : decode cJ6_bitCount_0f7a4 14 = .ok (.iand, 1) := by decide +kernel
theorem dJ6_bitCount_0f7a4_15 : decode cJ6_bitCount_0f7a4 15 = .ok (.iload_n 0, 1) := by decide +kernel
theorem dJ6_bitCount_0f7a4_16 : decode cJ6_bitCount_0f7a4 16 = .ok (.iconst 2, 1) := by decide +kernel
theorem dJ6_bitCount_0f7a4_17 : decode cJ6_bitCount_0f7a4 17 = .ok (.iushr, 1) := by decide +kernel
theorem dJ6_bitCount_0f7a4_18 : decode cJ6_bitCount_0f7a4 18 = .ok (.ldc_w 266, 3) := by decide +kernel
theorem dJ6_bitCount_0f7a4_21 : decode cJ6_bitCount_0f7a4 21 = .ok (.iand, 1) := by decide +kernel
theorem dJ6_bitCount_0f7a4_22 : decode cJ6_bitCount_0f7a4 22 = .ok (.iadd, 1) := by decide +kernel
theorem dJ6_bitCount_0f7a4_23 : decode cJ6_bitCount_0f7a4 23 = .ok (.istore_n 0, 1) := by decide +kernel
theorem dJ6_bitCount_0f7a4_24 : decode cJ6_bitCount_0f7a4 24 = .ok (.iload_n 0, 1) := by decide +kernel
theorem dJ6_bitCount_0f7a4_25 : decode cJ6_bitCount_0f7a4 25 = .ok (.iload_n 0, 1) := by decide +kernel
theorem dJ6_bitCount_0f7a4_26 : decode cJ6_bitCount_0f7a4 26 = .ok (.iconst 4, 1) := by decide +kernel
theorem dJ6_bitCount_0f7a4_27 : decode cJ6_bitCount_0f7a4 27 = .ok (.iushr, 1) := by decide +kernel
theorem dJ6_bitCount_0f7a4_28 : decode cJ6_bitCount_0f7a4 28 = .ok (.iadd, 1) := by decide +kernel
theorem dJ6_bitCount_0f7a4_29 : decode cJ6_bitCount_0f7a4 29 = .ok (.ldc_w 267, 3) := by decide +kernel
theorem dJ6_bitCount_0f7a4_32 : decode cJ6_bitCount_0f7a4 32 = .ok (.iand, 1) := by decide +kernel
theorem dJ6_bitCount_0f7a4_33 : decode cJ6_bitCount_0f7a4 33 = .ok (.istore_n 0, 1) := by decide +kernel
theorem dJ6_bitCount_0f7a4_34 : decode cJ6_bitCount_0f7a4 34 = .ok (.iload_n 0, 1) := by decide +kernel
theorem dJ6_bitCount_0f7a4_35 : decode cJ6_bitCount_0f7a4 35 = .ok (.iload_n 0, 1) := by decide +kernel
theorem dJ6_bitCount_0f7a4_36 : decode cJ6_bitCount_0f7a4 36 = .ok (.bipush 8, 2) := by decide +kernel
theorem dJ6_bitCount_0f7a4_38 : decode cJ6_bitCount_0f7a4 38 = .ok (.iushr, 1) := by decide +kernel
theorem dJ6_bitCount_0f7a4_39 : decode cJ6_bitCount_0f7a4 39 = .ok (.iadd, 1) := by decide +kernel
theorem dJ6_bitCount_0f7a4_40 : decode cJ6_bitCount_0f7a4 40 = .ok (.istore_n 0, 1) := by decide +kernel
theorem dJ6_bitCount_0f7a4_41 : decode cJ6_bitCount_0f7a4 41 = .ok (.iload_n 0, 1) := by decide +kernel
theorem dJ6_bitCount_0f7a4_42 : decode cJ6_bitCount_0f7a4 42 = .ok (.iload_n 0, 1) := by decide +kernel
theorem dJ6_bitCount_0f7a4_43 : decode cJ6_bitCount_0f7a4 43 = .ok (.bipush 16, 2) := by decide +kernel
theorem dJ6_bitCount_0f7a4_45 : decode cJ6_bitCount_0f7a4 45 = .ok (.iushr, 1) := by decide +kernel
theorem dJ6_bitCount_0f7a4_46 : decode cJ6_bitCount_0f7a4 46 = .ok (.iadd, 1) := by decide +kernel
theorem dJ6_bitCount_0f7a4_47 : decode cJ6_bitCount_0f7a4 47 = .ok (.istore_n 0, 1) := by decide +kernel
theorem dJ6_bitCount_0f7a4_48 : decode cJ6_bitCount_0f7a4 48 = .ok (.iload_n 0, 1) := by decide +kernel
theorem dJ6_bitCount_0f7a4_49 : decode cJ6_bitCount_0f7a4 49 = .ok (.bipush 63, 2) := by decide +kernel
theorem dJ6_bitCount_0f7a4_51 : decode cJ6_bitCount_0f7a4 51 = .ok (.iand, 1) := by decide +kernel
theorem dJ6_bitCount_0f7a4_52 : decode cJ6_bitCount_0f7a4 52 = .ok (.ireturn, 1) := by decide +kernel
theorem dJ13_bitCount_95d88_0 : decode cJ13_bitCount_95d88 0 = .ok (.lload_n 0, 1) := by decide +kernel
theorem dJ13_bitCount_95d88_1 : decode cJ13_bitCount_95d88 1 = .ok (.lload_n 0, 1) := by decide +kernel
theorem dJ13_bitCount_95d88_2 : decode cJ13_bitCount_95d88 2 = .ok (.iconst 1, 1) := by decide +kernel
theorem dJ13_bitCount_95d88_3 : decode cJ13_bitCount_95d88 3 = .ok (.lushr, 1) := by decide +kernel
theorem dJ13_bitCount_95d88_4 : decode cJ13_bitCount_95d88 4 = .ok (.ldc2_w 314, 3) := by decide +kernel
theorem dJ13_bitCount_95d88_7 : decode cJ13_bitCount_95d88 7 = .ok (.land, 1) := by decide +kernel
theorem dJ13_bitCount_95d88_8 : decode cJ13_bitCount_95d88 8 = .ok (.lsub, 1) := by decide +kernel
theorem dJ13_bitCount_95d88_9 : decode cJ13_bitCount_95d88 9 = .ok (.lstore_n 0, 1) := by decide +kernel
theorem dJ13_bitCount_95d88_10 : decode cJ13_bitCount_95d88 10 = .ok (.lload_n 0, 1) := by decide +kernel
theorem dJ13_bitCount_95d88_11 : decode cJ13_bitCount_95d88 11 = .ok (.ldc2_w 316, 3) := by decide +kernel
theorem dJ13_bitCount_95d88_14 : decode cJ13_bitCount_95d88 14 = .ok (.land, 1) := by decide +kernel
theorem dJ13_bitCount_95d88_15 : decode cJ13_bitCount_95d88 15 = .ok (.lload_n 0, 1) := by decide +kernel
theorem dJ13_bitCount_95d88_16 : decode cJ13_bitCount_95d88 16 = .ok (.iconst 2, 1) := by decide +kernel
theorem dJ13_bitCount_95d88_17 : decode cJ13_bitCount_95d88 17 = .ok (.lushr, 1) := by decide +kernel
theorem dJ13_bitCount_95d88_18 : decode cJ13_bitCount_95d88 18 = .ok (.ldc2_w 316, 3) := by decide +kernel
theorem dJ13_bitCount_95d88_21 : decode cJ13_bitCount_95d88 21 = .ok (.land, 1) := by decide +kernel
theorem dJ13_bitCount_95d88_22 : decode cJ13_bitCount_95d88 22 = .ok (.ladd, 1) := by decide +kernel
theorem dJ13_bitCount_95d88_23 : decode cJ13_bitCount_95d88 23 = .ok (.lstore_n 0, 1) := by decide +kernel
theorem dJ13_bitCount_95d88_24 : decode cJ13_bitCount_95d88 24 = .ok (.lload_n 0, 1) := by decide +kernel
theorem dJ13_bitCount_95d88_25 : decode cJ13_bitCount_95d88 25 = .ok (.lload_n 0, 1) := by decide +kernel
theorem dJ13_bitCount_95d88_26 : decode cJ13_bitCount_95d88 26 = .ok (.iconst 4, 1) := by decide +kernel
theorem dJ13_bitCount_95d88_27 : decode cJ13_bitCount_95d88 27 = .ok (.lushr, 1) := by decide +kernel
theorem dJ13_bitCount_95d88_28 : decode cJ13_bitCount_95d88 28 = .ok (.ladd, 1) := by decide +kernel
theorem dJ13_bitCount_95d88_29 : decode cJ13_bitCount_95d88 29 = .ok (.ldc2_w 318, 3) := by decide +kernel
theorem dJ13_bitCount_95d88_32 : decode cJ13_bitCount_95d88 32 = .ok (.land, 1) := by decide +kernel
theorem dJ13_bitCount_95d88_33 : decode cJ13_bitCount_95d88 33 = .ok (.lstore_n 0, 1) := by decide +kernel
theorem dJ13_bitCount_95d88_34 : decode cJ13_bitCount_95d88 34 = .ok (.lload_n 0, 1) := by decide +kernel
theorem dJ13_bitCount_95d88_35 : decode cJ13_bitCount_95d88 35 = .ok (.lload_n 0, 1) := by decide +kernel
theorem dJ13_bitCount_95d88_36 : decode cJ13_bitCount_95d88 36 = .ok (.bipush 8, 2) := by decide +kernel
theorem dJ13_bitCount_95d88_38 : decode cJ13_bitCount_95d88 38 = .ok (.lushr, 1) := by decide +kernel
theorem dJ13_bitCount_95d88_39 : decode cJ13_bitCount_95d88 39 = .ok (.ladd, 1) := by decide +kernel
theorem dJ13_bitCount_95d88_40 : decode cJ13_bitCount_95d88 40 = .ok (.lstore_n 0, 1) := by decide +kernel
theorem dJ13_bitCount_95d88_41 : decode cJ13_bitCount_95d88 41 = .ok (.lload_n 0, 1) := by decide +kernel
theorem dJ13_bitCount_95d88_42 : decode cJ13_bitCount_95d88 42 = .ok (.lload_n 0, 1) := by decide +kernel
theorem dJ13_bitCount_95d88_43 : decode cJ13_bitCount_95d88 43 = .ok (.bipush 16, 2) := by decide +kernel
theorem dJ13_bitCount_95d88_45 : decode cJ13_bitCount_95d88 45 = .ok (.lushr, 1) := by decide +kernel
theorem dJ13_bitCount_95d88_46 : decode cJ13_bitCount_95d88 46 = .ok (.ladd, 1) := by decide +kernel
theorem dJ13_bitCount_95d88_47 : decode cJ13_bitCount_95d88 47 = .ok (.lstore_n 0, 1) := by decide +kernel
theorem dJ13_bitCount_95d88_48 : decode cJ13_bitCount_95d88 48 = .ok (.lload_n 0, 1) := by decide +kernel
theorem dJ13_bitCount_95d88_49 : decode cJ13_bitCount_95d88 49 = .ok (.lload_n 0, 1) := by decide +kernel
theorem dJ13_bitCount_95d88_50 : decode cJ13_bitCount_95d88 50 = .ok (.bipush 32, 2) := by decide +kernel
theorem dJ13_bitCount_95d88_52 : decode cJ13_bitCount_95d88 52 = .ok (.lushr, 1) := by decide +kernel
theorem dJ13_bitCount_95d88_53 : decode cJ13_bitCount_95d88 53 = .ok (.ladd, 1) := by decide +kernel
theorem dJ13_bitCount_95d88_54 : decode cJ13_bitCount_95d88 54 = .ok (.lstore_n 0, 1) := by decide +kernel
theorem dJ13_bitCount_95d88_55 : decode cJ13_bitCount_95d88 55 = .ok (.lload_n 0, 1) := by decide +kernel
theorem dJ13_bitCount_95d88_56 : decode cJ13_bitCount_95d88 56 = .ok (.l2i, 1) := by decide +kernel
theorem dJ13_bitCount_95d88_57 : decode cJ13_bitCount_95d88 57 = .ok (.bipush 127, 2) := by decide +kernel
theorem dJ13_bitCount_95d88_59 : decode cJ13_bitCount_95d88 59 = .ok (.iand, 1) := by decide +kernel
theorem dJ13_bitCount_95d88_60 : decode cJ13_bitCount_95d88 60 = .ok (.ireturn, 1) := by decide +kernel
theorem dJ9_max_7cf53_0 : decode cJ9_max_7cf53 0 = .ok (.iload_n 0, 1) := by decide +kernel
theorem dJ9_max_7cf53_1 : decode cJ9_max_7cf53 1 = .ok (.iload_n 1, 1) := by decide +kernel
theorem dJ9_max_7cf53_2 : decode cJ9_max_7cf53 2 = .ok (.if_icmp .lt 7, 3) := by decide +kernel
theorem dJ9_max_7cf53_5 : decode cJ9_max_7cf53 5 = .ok (.iload_n 0, 1) := by decide +kernel
theorem dJ9_max_7cf53_6 : decode cJ9_max_7cf53 6 = .ok (.goto 4, 3) := by decide +kernel
theorem dJ9_max_7cf53_9 : decode cJ9_max_7cf53 9 = .ok (.iload_n 1, 1) := by decide +kernel
theorem dJ9_max_7cf53_10 : decode cJ9_max_7cf53 10 = .ok (.ireturn, 1) := by decide +kernel
theorem dJ9_min_7cf53_0 : decode cJ9_min_7cf53 0 = .ok (.iload_n 0, 1) := by decide +kernel
theorem dJ9_min_7cf53_1 : decode cJ9_min_7cf53 1 = .ok (.iload_n 1, 1) := by decide +kernel
theorem dJ9_min_7cf53_2 : decode cJ9_min_7cf53 2 = .ok (.if_icmp .gt 7, 3) := by decide +kernel
theorem dJ9_min_7cf53_5 : decode cJ9_min_7cf53 5 = .ok (.iload_n 0, 1) := by decide +kernel
theorem dJ9_min_7cf53_6 : decode cJ9_min_7cf53 6 = .ok (.goto 4, 3) := by decide +kernel
theorem dJ9_min_7cf53_9 : decode cJ9_min_7cf53 9 = .ok (.iload_n 1, 1) := by decide +kernel
theorem dJ9_min_7cf53_10 : decode cJ9_min_7cf53 10 = .ok (.ireturn, 1) := by decide +kernel
theorem dJxa1e45_init_da8c8_0 : decode cJxa1e45_init_da8c8 0 = .ok (.aload_n 0, 1) := by decide +kernel
theorem dJxa1e45_init_da8c8_1 : decode cJxa1e45_init_da8c8 1 = .ok (.invokespecial 1, 3) := by decide +kernel
theorem dJxa1e45_init_da8c8_4 : decode cJxa1e45_init_da8c8 4 = .ok (.return_, 1) := by decide +kernel
theorem dJxc12de_init_da8c8_0 : decode cJxc12de_init_da8c8 0 = .ok (.aload_n 0, 1) := by decide +kernel
theorem dJxc12de_init_da8c8_1 : decode cJxc12de_init_da8c8 1 = .ok (.invokespecial 1, 3) := by decide +kernel
theorem dJxc12de_init_da8c8_4 : decode cJxc12de_init_da8c8 4 = .ok (.aload_n 0, 1) := by decide +kernel
theorem dJxc12de_init_da8c8_5 : decode cJxc12de_init_da8c8 5 = .ok (.iconst 0, 1) := by decide +kernel
theorem dJxc12de_init_da8c8_6 : decode cJxc12de_init_da8c8 6 = .ok (.putfield 7, 3) := by decide +kernel
theorem dJxc12de_init_da8c8_9 : decode cJxc12de_init_da8c8 9 = .ok (.return_, 1) := by decide +kernel
theorem dJx4a65c_init_da8c8_0 : decode cJx4a65c_init_da8c8 0 = .ok (.aload_n 0, 1) := by decide +kernel
theorem dJx4a65c_init_da8c8_1 : decode cJx4a65c_init_da8c8 1 = .ok (.invokespecial 1, 3) := by decide +kernel
theorem dJx4a65c_init_da8c8_4 : decode cJx4a65c_init_da8c8 4 = .ok (.aload_n 0, 1) := by decide +kernel
theorem dJx4a65c_init_da8c8_5 : decode cJx4a65c_init_da8c8 5 = .ok (.getstatic 39, 3) := by decide +kernel
theorem dJx4a65c_init_da8c8_8 : decode cJx4a65c_init_da8c8 8 = .ok (.putfield 9, 3) := by decide +kernel
theorem dJx4a65c_init_da8c8_11 : decode cJx4a65c_init_da8c8 11 = .ok (.return_, 1) := by decide +kernel
theorem dJx4a65c_grow_92f84_0 : decode cJx4a65c_grow_92f84 0 = .ok (.aload_n 0, 1) := by decide +kernel
theorem dJx4a65c_grow_92f84_1 : decode cJx4a65c_grow_92f84 1 = .ok (.getfield 9, 3) := by decide +kernel
theorem dJx4a65c_grow_92f84_4 : decode cJx4a65c_grow_92f84 4 = .ok (.arraylength, 1) := by decide +kernel
theorem dJx4a65c_grow_92f84_5 : decode cJx4a65c_grow_92f84 5 = .ok (.istore_n 2, 1) := by decide +kernel
theorem dJx4a65c_grow_92f84_6 : decode cJx4a65c_grow_92f84 6 = .ok (.iload_n 2, 1) := by decide +kernel
theorem dJx4a65c_grow_92f84_7 : decode cJx4a65c_grow_92f84 7 = .ok (.ifCond .gt 13, 3) := by decide +kernel
theorem dJx4a65c_grow_92f84_10 : decode cJx4a65c_grow_92f84 10 = .ok (.aload_n 0, 1) := by decide +kernel
theorem dJx4a65c_grow_92f84_11 : decode cJx4a65c_grow_92f84 11 = .ok (.getfield 9, 3) := by decide +kernel
theorem dJx4a65c_grow_92f84_14 : decode cJx4a65c_grow_92f84 14 = .ok (.getstatic 39, 3) := by decide +kernel
theorem dJx4a65c_grow_92f84_17 : decode cJx4a65c_grow_92f84 17 = .ok (.if_acmp .eq 28, 3) := by decide +kernel
theorem dJx4a65c_grow_92f84_20 : decode cJx4a65c_grow_92f84 20 = .ok (.iload_n 2, 1) := by decide +kernel
theorem dJx4a65c_grow_92f84_21 : decode cJx4a65c_grow_92f84 21 = .ok (.iload_n 1, 1) := by decide +kernel
theorem dJx4a65c_grow_92f84_22 : decode cJx4a65c_grow_92f84 22 = .ok (.iload_n 2, 1) := by decide +kernel
theorem dJx4a65c_grow_92f84_23 : decode cJx4a65c_grow_92f84 23 = .ok (.isub, 1) := by decide +kernel
theorem dJx4a65c_grow_92f84_24 : decode cJx4a65c_grow_92f84 24 = .ok (.iload_n 2, 1) := by decide +kernel
theorem dJx4a65c_grow_92f84_25 : decode cJx4a65c_grow_92f84 25 = .ok (.iconst 1, 1) := by decide +kernel
theorem dJx4a65c_grow_92f84_26 : decode cJx4a65c_grow_92f84 26 = .ok (.ishr, 1) := by decide +kernel
theorem dJx4a65c_grow_92f84_27 : decode cJx4a65c_grow_92f84 27 = .ok (.invokestatic 73, 3) := by decide +kernel
theorem dJx4a65c_grow_92f84_30 : decode cJx4a65c_grow_92f84 30 = .ok (.istore_n 3, 1) := by decide +kernel
theorem dJx4a65c_grow_92f84_31 : decode cJx4a65c_grow_92f84 31 = .ok (.aload_n 0, 1) := by decide +kernel
theorem dJx4a65c_grow_92f84_32 : decode cJx4a65c_grow_92f84 32 = .ok (.aload_n 0, 1) := by decide +kernel
theorem dJx4a65c_grow_92f84_33 : decode cJx4a65c_grow_92f84 33 = .ok (.getfield 9, 3) := by decide +kernel
theorem dJx4a65c_grow_92f84_36 : decode cJx4a65c_grow_92f84 36 = .ok (.iload_n 3, 1) := by decide +kernel
theorem dJx4a65c_grow_92f84_37 : decode cJx4a65c_grow_92f84 37 = .ok (.invokestatic 66, 3) := by decide +kernel
theorem dJx4a65c_grow_92f84_40 : decode cJx4a65c_grow_92f84 40 = .ok (.dup_x1, 1) := by decide +kernel
theorem dJx4a65c_grow_92f84_41 : decode cJx4a65c_grow_92f84 41 = .ok (.putfield 9, 3) := by decide +kernel
theorem dJx4a65c_grow_92f84_44 : decode cJx4a65c_grow_92f84 44 = .ok (.areturn, 1) := by decide +kernel
theorem dJx4a65c_grow_92f84_45 : decode cJx4a65c_grow_92f84 45 = .ok (.aload_n 0, 1) := by decide +kernel
theorem dJx4a65c_grow_92f84_46 : decode cJx4a65c_grow_92f84 46 = .ok (.bipush 10, 2) := by decide +kernel
theorem dJx4a65c_grow_92f84_48 : decode cJx4a65c_grow_92f84 48 = .ok (.iload_n 1, 1) := by decide +kernel
theorem dJx4a65c_grow_92f84_49 : decode cJx4a65c_grow_92f84 49 = .ok (.invokestatic 79, 3) := by decide +kernel
theorem dJx4a65c_grow_92f84_52 : decode cJx4a65c_grow_92f84 52 = .ok (.anewarray 7, 3) := by decide +kernel
theorem dJx4a65c_grow_92f84_55 : decode cJx4a65c_grow_92f84 55 = .ok (.dup_x1, 1) := by decide +kernel
theorem dJx4a65c_grow_92f84_56 : decode cJx4a65c_grow_92f84 56 = .ok (.putfield 9, 3) := by decide +kernel
theorem dJx4a65c_grow_92f84_59 : decode cJx4a65c_grow_92f84 59 = .ok (.areturn, 1) := by decide +kernel
theorem dJx4a65c_grow_d5877_0 : decode cJx4a65c_grow_d5877 0 = .ok (.aload_n 0, 1) := by decide +kernel
theorem dJx4a65c_grow_d5877_1 : decode cJx4a65c_grow_d5877 1 = .ok (.aload_n 0, 1) := by decide +kernel
theorem dJx4a65c_grow_d5877_2 : decode cJx4a65c_grow_d5877 2 = .ok (.getfield 48, 3) := by decide +kernel
theorem dJx4a65c_grow_d5877_5 : decode cJx4a65c_grow_d5877 5 = .ok (.iconst 1, 1) := by decide +kernel
theorem dJx4a65c_grow_d5877_6 : decode cJx4a65c_grow_d5877 6 = .ok (.iadd, 1) := by decide +kernel
theorem dJx4a65c_grow_d5877_7 : decode cJx4a65c_grow_d5877 7 = .ok (.invokevirtual 69, 3) := by decide +kernel
theorem dJx4a65c_grow_d5877_10 : decode cJx4a65c_grow_d5877 10 = .ok (.areturn, 1) := by decide +kernel
theorem dJx4a65c_size_8abf5_0 : decode cJx4a65c_size_8abf5 0 = .ok (.aload_n 0, 1) := by decide +kernel
theorem dJx4a65c_size_8abf5_1 : decode cJx4a65c_size_8abf5 1 = .ok (.getfield 48, 3) := by decide +kernel
theorem dJx4a65c_size_8abf5_4 : decode cJx4a65c_size_8abf5 4 = .ok (.ireturn, 1) := by decide +kernel
theorem dJx4a65c_elementData_915e3_0 : decode cJx4a65c_elementData_915e3 0 = .ok (.aload_n 0, 1) := by decide +kernel
theorem dJx4a65c_elementData_915e3_1 : decode cJx4a65c_elementData_915e3 1 = .ok (.getfield 9, 3) := by decide +kernel
theorem dJx4a65c_elementData_915e3_4 : decode cJx4a65c_elementData_915e3 4 = .ok (.iload_n 1, 1) := by decide +kernel
theorem dJx4a65c_elementData_915e3_5 : decode cJx4a65c_elementData_915e3 5 = .ok (.aaload, 1) := by decide +kernel
theorem dJx4a65c_elementData_915e3_6 : decode cJx4a65c_elementData_915e3 6 = .ok (.areturn, 1) := by decide +kernel
theorem dJx4a65c_get_915e3_0 : decode cJx4a65c_get_915e3 0 = .ok (.iload_n 1, 1) := by decide +kernel
theorem dJx4a65c_get_915e3_1 : decode cJx4a65c_get_915e3 1 = .ok (.aload_n 0, 1) := by decide +kernel
theorem dJx4a65c_get_915e3_2 : decode cJx4a65c_get_915e3 2 = .ok (.getfield 48, 3) := by decide +kernel
theorem dJx4a65c_get_915e3_5 : decode cJx4a65c_get_915e3 5 = .ok (.invokestatic 118, 3) := by decide +kernel
theorem dJx4a65c_get_915e3_8 : decode cJx4a65c_get_915e3 8 = .ok (.pop, 1) := by decide +kernel
theorem dJx4a65c_get_915e3_9 : decode cJx4a65c_get_915e3 9 = .ok (.aload_n 0, 1) := by decide +kernel
theorem dJx4a65c_get_915e3_10 : decode cJx4a65c_get_915e3 10 = .ok (.iload_n 1, 1) := by decide +kernel
theorem dJx4a65c_get_915e3_11 : decode cJx4a65c_get_915e3 11 = .ok (.invokevirtual 123, 3) := by decide +kernel
theorem dJx4a65c_get_915e3_14 : decode cJx4a65c_get_915e3 14 = .ok (.areturn, 1) := by decide +kernel
theorem dJx4a65c_add_72be8_0 : decode cJx4a65c_add_72be8 0 = .ok (.iload_n 3, 1) := by decide +kernel
theorem dJx4a65c_add_72be8_1 : decode cJx4a65c_add_72be8 1 = .ok (.aload_n 2, 1) := by decide +kernel
theorem dJx4a65c_add_72be8_2 : decode cJx4a65c_add_72be8 2 = .ok (.arraylength, 1) := by decide +kernel
theorem dJx4a65c_add_72be8_3 : decode cJx4a65c_add_72be8 3 = .ok (.if_icmp .ne 8, 3) := by decide +kernel
theorem dJx4a65c_add_72be8_6 : decode cJx4a65c_add_72be8 6 = .ok (.aload_n 0, 1) := by decide +kernel
theorem dJx4a65c_add_72be8_7 : decode cJx4a65c_add_72be8 7 = .ok (.invokevirtual 129, 3) := by decide +kernel
theorem dJx4a65c_add_72be8_10 : decode cJx4a65c_add_72be8 10 = .ok (.astore_n 2, 1) := by decide +kernel
theorem dJx4a65c_add_72be8_11 : decode cJx4a65c_add_72be8 11 = .ok (.aload_n 2, 1) := by decide +kernel
theorem dJx4a65c_add_72be8_12 : decode cJx4a65c_add_72be8 12 = .ok (.iload_n 3, 1) := by decide +kernel
theorem dJx4a65c_add_72be8_13 : decode cJx4a65c_add_72be8 13 = .ok (.aload_n 1, 1) := by decide +kernel
theorem dJx4a65c_add_72be8_14 : decode cJx4a65c_add_72be8 14 = .ok (.aastore, 1) := by decide +kernel
theorem dJx4a65c_add_72be8_15 : decode cJx4a65c_add_72be8 15 = .ok (.aload_n 0, 1) := by decide +kernel
theorem dJx4a65c_add_72be8_16 : decode cJx4a65c_add_72be8 16 = .ok (.iload_n 3, 1) := by decide +kernel
theorem dJx4a65c_add_72be8_17 : decode cJx4a65c_add_72be8 17 = .ok (.iconst 1, 1) := by decide +kernel
theorem dJx4a65c_add_72be8_18 : decode cJx4a65c_add_72be8 18 = .ok (.iadd, 1) := by decide +kernel
theorem dJx4a65c_add_72be8_19 : decode cJx4a65c_add_72be8 19 = .ok (.putfield 48, 3) := by decide +kernel
theorem dJx4a65c_add_72be8_22 : decode cJx4a65c_add_72be8 22 = .ok (.return_, 1) := by decide +kernel
theorem dJx4a65c_add_9ea2d_0 : decode cJx4a65c_add_9ea2d 0 = .ok (.aload_n 0, 1) := by decide +kernel
theorem dJx4a65c_add_9ea2d_1 : decode cJx4a65c_add_9ea2d 1 = .ok (.dup, 1) := by decide +kernel
theorem dJx4a65c_add_9ea2d_2 : decode cJx4a65c_add_9ea2d 2 = .ok (.getfield 63, 3) := by decide +kernel
theorem dJx4a65c_add_9ea2d_5 : decode cJx4a65c_add_9ea2d 5 = .ok (.iconst 1, 1) := by decide +kernel
theorem dJx4a65c_add_9ea2d_6 : decode cJx4a65c_add_9ea2d 6 = .ok (.iadd, 1) := by decide +kernel
theorem dJx4a65c_add_9ea2d_7 : decode cJx4a65c_add_9ea2d 7 = .ok (.putfield 63, 3) := by decide +kernel
theorem dJx4a65c_add_9ea2d_10 : decode cJx4a65c_add_9ea2d 10 = .ok (.aload_n 0, 1) := by decide +kernel
theorem dJx4a65c_add_9ea2d_11 : decode cJx4a65c_add_9ea2d 11 = .ok (.aload_n 1, 1) := by decide +kernel
theorem dJx4a65c_add_9ea2d_12 : decode cJx4a65c_add_9ea2d 12 = .ok (.aload_n 0, 1) := by decide +kernel
theorem dJx4a65c_add_9ea2d_13 : decode cJx4a65c_add_9ea2d 13 = .ok (.getfield 9, 3) := by decide +kernel
theorem dJx4a65c_add_9ea2d_16 : decode cJx4a65c_add_9ea2d 16 = .ok (.aload_n 0, 1) := by decide +kernel
theorem dJx4a65c_add_9ea2d_17 : decode cJx4a65c_add_9ea2d 17 = .ok (.getfield 48, 3) := by decide +kernel
theorem dJx4a65c_add_9ea2d_20 : decode cJx4a65c_add_9ea2d 20 = .ok (.invokevirtual 131, 3) := by decide +kernel
theorem dJx4a65c_add_9ea2d_23 : decode cJx4a65c_add_9ea2d 23 = .ok (.iconst 1, 1) := by decide +kernel
theorem dJx4a65c_add_9ea2d_24 : decode cJx4a65c_add_9ea2d 24 = .ok (.ireturn, 1) := by decide +kernel
theorem dJ7_fill_53178_0 : decode cJ7_fill_53178 0 = .ok (.iconst 0, 1) := by decide +kernel
theorem dJ7_fill_53178_1 : decode cJ7_fill_53178 1 = .ok (.istore_n 2, 1) := by decide +kernel
theorem dJ7_fill_53178_2 : decode cJ7_fill_53178 2 = .ok (.aload_n 0, 1) := by decide +kernel
theorem dJ7_fill_53178_3 : decode cJ7_fill_53178 3 = .ok (.arraylength, 1) := by decide +kernel
theorem dJ7_fill_53178_4 : decode cJ7_fill_53178 4 = .ok (.istore_n 3, 1) := by decide +kernel
theorem dJ7_fill_53178_5 : decode cJ7_fill_53178 5 = .ok (.iload_n 2, 1) := by decide +kernel
theorem dJ7_fill_53178_6 : decode cJ7_fill_53178 6 = .ok (.iload_n 3, 1) := by decide +kernel
theorem dJ7_fill_53178_7 : decode cJ7_fill_53178 7 = .ok (.if_icmp .ge 13, 3) := by decide +kernel
theorem dJ7_fill_53178_10 : decode cJ7_fill_53178 10 = .ok (.aload_n 0, 1) := by decide +kernel
theorem dJ7_fill_53178_11 : decode cJ7_fill_53178 11 = .ok (.iload_n 2, 1) := by decide +kernel
theorem dJ7_fill_53178_12 : decode cJ7_fill_53178 12 = .ok (.iload_n 1, 1) := by decide +kernel
theorem dJ7_fill_53178_13 : decode cJ7_fill_53178 13 = .ok (.iastore, 1) := by decide +kernel
theorem dJ7_fill_53178_14 : decode cJ7_fill_53178 14 = .ok (.iinc 2 1, 3) := by decide +kernel
theorem dJ7_fill_53178_17 : decode cJ7_fill_53178 17 = .ok (.goto (-12), 3) := by decide +kernel
theorem dJ7_fill_53178_20 : decode cJ7_fill_53178 20 = .ok (.return_, 1) := by decide +kernel
theorem dJ7_copyOf_1904c_0 : decode cJ7_copyOf_1904c 0 = .ok (.aload_n 0, 1) := by decide +kernel
theorem dJ7_copyOf_1904c_1 : decode cJ7_copyOf_1904c 1 = .ok (.iload_n 1, 1) := by decide +kernel
theorem dJ7_copyOf_1904c_2 : decode cJ7_copyOf_1904c 2 = .ok (.aload_n 0, 1) := by decide +kernel
theorem dJ7_copyOf_1904c_3 : decode cJ7_copyOf_1904c 3 = .ok (.invokevirtual 86, 3) := by decide +kernel
theorem dJ7_copyOf_1904c_6 : decode cJ7_copyOf_1904c 6 = .ok (.invokestatic 300, 3) := by decide +kernel
theorem dJ7_copyOf_1904c_9 : decode cJ7_copyOf_1904c 9 = .ok (.areturn, 1) := by decide +kernel
theorem dJ7_copyOf_6403c_0 : decode cJ7_copyOf_6403c 0 = .ok (.aload_n 2, 1) := by decide +kernel
theorem dJ7_copyOf_6403c_1 : decode cJ7_copyOf_6403c 1 = .ok (.ldc 110, 2) := by decide +kernel
theorem dJ7_copyOf_6403c_3 : decode cJ7_copyOf_6403c 3 = .ok (.if_acmp .ne 10, 3) := by decide +kernel
theorem dJ7_copyOf_6403c_6 : decode cJ7_copyOf_6403c 6 = .ok (.iload_n 1, 1) := by decide +kernel
theorem dJ7_copyOf_6403c_7 : decode cJ7_copyOf_6403c 7 = .ok (.anewarray 2, 3) := by decide +kernel
theorem dJ7_copyOf_6403c_10 : decode cJ7_copyOf_6403c 10 = .ok (.goto 14, 3) := by decide +kernel
theorem dJ7_copyOf_6403c_13 : decode cJ7_copyOf_6403c 13 = .ok (.aload_n 2, 1) := by decide +kernel
theorem dJ7_copyOf_6403c_14 : decode cJ7_copyOf_6403c 14 = .ok (.invokevirtual 90, 3) := by decide +kernel
theorem dJ7_copyOf_6403c_17 : decode cJ7_copyOf_6403c 17 = .ok (.iload_n 1, 1) := by decide +kernel
theorem dJ7_copyOf_6403c_18 : decode cJ7_copyOf_6403c 18 = .ok (.invokestatic 95, 3) := by decide +kernel
theorem dJ7_copyOf_6403c_21 : decode cJ7_copyOf_6403c 21 = .ok (.checkcast 110, 3) := by decide +kernel
theorem dJ7_copyOf_6403c_24 : decode cJ7_copyOf_6403c 24 = .ok (.astore_n 3, 1) := by decide +kernel
theorem dJ7_copyOf_6403c_25 : decode cJ7_copyOf_6403c 25 = .ok (.aload_n 0, 1) := by decide +kernel
theorem dJ7_copyOf_6403c_26 : decode cJ7_copyOf_6403c 26 = .ok (.iconst 0, 1) := by decide +kernel
theorem dJ7_copyOf_6403c_27 : decode cJ7_copyOf_6403c 27 = .ok (.aload_n 3, 1) := by decide +kernel
theorem dJ7_copyOf_6403c_28 : decode cJ7_copyOf_6403c 28 = .ok (.iconst 0, 1) := by decide +kernel
theorem dJ7_copyOf_6403c_29 : decode cJ7_copyOf_6403c 29 = .ok (.aload_n 0, 1) := by decide +kernel
theorem dJ7_copyOf_6403c_30 : decode cJ7_copyOf_6403c 30 = .ok (.arraylength, 1) := by decide +kernel
theorem dJ7_copyOf_6403c_31 : decode cJ7_copyOf_6403c 31 = .ok (.iload_n 1, 1) := by decide +kernel
theorem dJ7_copyOf_6403c_32 : decode cJ7_copyOf_6403c 32 = .ok (.invokestatic 304, 3) := by decide +kernel
theorem dJ7_copyOf_6403c_35 : decode cJ7_copyOf_6403c 35 = .ok (.invokestatic 150, 3) := by decide +kernel
theorem dJ7_copyOf_6403c_38 : decode cJ7_copyOf_6403c 38 = .ok (.aload_n 3, 1) := by decide +kernel
theorem dJ7_copyOf_6403c_39 : decode cJ7_copyOf_6403c 39 = .ok (.areturn, 1) := by decide +kernel
theorem dJ15_checkIndex_7cf53_0 : decode cJ15_checkIndex_7cf53 0 = .ok (.iload_n 0, 1) := by decide +kernel
theorem dJ15_checkIndex_7cf53_1 : decode cJ15_checkIndex_7cf53 1 = .ok (.iload_n 1, 1) := by decide +kernel
theorem dJ15_checkIndex_7cf53_2 : decode cJ15_checkIndex_7cf53 2 = .ok (.aconst_null, 1) := by decide +kernel
theorem dJ15_checkIndex_7cf53_3 : decode cJ15_checkIndex_7cf53 3 = .ok (.invokestatic 105, 3) := by decide +kernel
theorem dJ15_checkIndex_7cf53_6 : decode cJ15_checkIndex_7cf53 6 = .ok (.ireturn, 1) := by decide +kernel
theorem dJ8_newLength_cabcc_0 : decode cJ8_newLength_cabcc 0 = .ok (.iload_n 0, 1) := by decide +kernel
theorem dJ8_newLength_cabcc_1 : decode cJ8_newLength_cabcc 1 = .ok (.iload_n 1, 1) := by decide +kernel
theorem dJ8_newLength_cabcc_2 : decode cJ8_newLength_cabcc 2 = .ok (.iload_n 2, 1) := by decide +kernel
theorem dJ8_newLength_cabcc_3 : decode cJ8_newLength_cabcc 3 = .ok (.invokestatic 194, 3) := by decide +kernel
theorem dJ8_newLength_cabcc_6 : decode cJ8_newLength_cabcc 6 = .ok (.iadd, 1) := by decide +kernel
theorem dJ8_newLength_cabcc_7 : decode cJ8_newLength_cabcc 7 = .ok (.istore_n 3, 1) := by decide +kernel
theorem dJ8_newLength_cabcc_8 : decode cJ8_newLength_cabcc 8 = .ok (.iconst 0, 1) := by decide +kernel
theorem dJ8_newLength_cabcc_9 : decode cJ8_newLength_cabcc 9 = .ok (.iload_n 3, 1) := by decide +kernel
theorem dJ8_newLength_cabcc_10 : decode cJ8_newLength_cabcc 10 = .ok (.if_icmp .ge 11, 3) := by decide +kernel
theorem dJ8_newLength_cabcc_13 : decode cJ8_newLength_cabcc 13 = .ok (.iload_n 3, 1) := by decide +kernel
theorem dJ8_newLength_cabcc_14 : decode cJ8_newLength_cabcc 14 = .ok (.ldc 200, 2) := by decide +kernel
theorem dJ8_newLength_cabcc_16 : decode cJ8_newLength_cabcc 16 = .ok (.if_icmp .gt 5, 3) := by decide +kernel
theorem dJ8_newLength_cabcc_19 : decode cJ8_newLength_cabcc 19 = .ok (.iload_n 3, 1) := by decide +kernel
theorem dJ8_newLength_cabcc_20 : decode cJ8_newLength_cabcc 20 = .ok (.ireturn, 1) := by decide +kernel
theorem dJ8_newLength_cabcc_21 : decode cJ8_newLength_cabcc 21 = .ok (.iload_n 0, 1) := by decide +kernel
theorem dJ8_newLength_cabcc_22 : decode cJ8_newLength_cabcc 22 = .ok (.iload_n 1, 1) := by decide +kernel
theorem dJ8_newLength_cabcc_23 : decode cJ8_newLength_cabcc 23 = .ok (.invokestatic 201, 3) := by decide +kernel
theorem dJ8_newLength_cabcc_26 : decode cJ8_newLength_cabcc 26 = .ok (.ireturn, 1) := by decide +kernel
theorem dJ8_hugeLength_7cf53_0 : decode cJ8_hugeLength_7cf53 0 = .ok (.iload_n 0, 1) := by decide +kernel
theorem dJ8_hugeLength_7cf53_1 : decode cJ8_hugeLength_7cf53 1 = .ok (.iload_n 1, 1) := by decide +kernel
theorem dJ8_hugeLength_7cf53_2 : decode cJ8_hugeLength_7cf53 2 = .ok (.iadd, 1) := by decide +kernel
theorem dJ8_hugeLength_7cf53_3 : decode cJ8_hugeLength_7cf53 3 = .ok (.istore_n 2, 1) := by decide +kernel
theorem dJ8_hugeLength_7cf53_4 : decode cJ8_hugeLength_7cf53 4 = .ok (.iload_n 2, 1) := by decide +kernel
theorem dJ8_hugeLength_7cf53_5 : decode cJ8_hugeLength_7cf53 5 = .ok (.ifCond .ge 44, 3) := by decide +kernel
theorem dJ8_hugeLength_7cf53_8 : decode cJ8_hugeLength_7cf53 8 = .ok (.new 204, 3) := by decide +kernel
theorem dJ8_hugeLength_7cf53_11 : decode cJ8_hugeLength_7cf53 11 = .ok (.dup, 1) := by decide +kernel
theorem dJ8_hugeLength_7cf53_12 : decode cJ8_hugeLength_7cf53 12 = .ok (.new 89, 3) := by decide +kernel
theorem dJ8_hugeLength_7cf53_15 : decode cJ8_hugeLength_7cf53 15 = .ok (.dup, 1) := by decide +kernel
theorem dJ8_hugeLength_7cf53_16 : decode cJ8_hugeLength_7cf53 16 = .ok (.invokespecial 91, 3) := by decide +kernel
theorem dJ8_hugeLength_7cf53_19 : decode cJ8_hugeLength_7cf53 19 = .ok (.ldc 206, 2) := by decide +kernel
theorem dJ8_hugeLength_7cf53_21 : decode cJ8_hugeLength_7cf53 21 = .ok (.invokevirtual 94, 3) := by decide +kernel
theorem dJ8_hugeLength_7cf53_24 : decode cJ8_hugeLength_7cf53 24 = .ok (.iload_n 0, 1) := by decide +kernel
theorem dJ8_hugeLength_7cf53_25 : decode cJ8_hugeLength_7cf53 25 = .ok (.invokevirtual 98, 3) := by decide +kernel
theorem dJ8_hugeLength_7cf53_28 : decode cJ8_hugeLength_7cf53 28 = .ok (.ldc 208, 2) := by decide +kernel
theorem dJ8_hugeLength_7cf53_30 : decode cJ8_hugeLength_7cf53 30 = .ok (.invokevirtual 94, 3) := by decide +kernel
theorem dJ8_hugeLength_7cf53_33 : decode cJ8_hugeLength_7cf53 33 = .ok (.iload_n 1, 1) := by decide +kernel
theorem dJ8_hugeLength_7cf53_34 : decode cJ8_hugeLength_7cf53 34 = .ok (.invokevirtual 98, 3) := by decide +kernel
theorem dJ8_hugeLength_7cf53_37 : decode cJ8_hugeLength_7cf53 37 = .ok (.ldc 210, 2) := by decide +kernel
theorem dJ8_hugeLength_7cf53_39 : decode cJ8_hugeLength_7cf53 39 = .ok (.invokevirtual 94, 3) := by decide +kernel
theorem dJ8_hugeLength_7cf53_42 : decode cJ8_hugeLength_7cf53 42 = .ok (.invokevirtual 101, 3) := by decide +kernel
theorem dJ8_hugeLength_7cf53_45 : decode cJ8_hugeLength_7cf53 45 = .ok (.invokespecial 212, 3) := by decide +kernel
theorem dJ8_hugeLength_7cf53_48 : decode cJ8_hugeLength_7cf53 48 = .ok (.athrow, 1) := by decide +kernel
theorem dJ8_hugeLength_7cf53_49 : decode cJ8_hugeLength_7cf53 49 = .ok (.iload_n 2, 1) := by decide +kernel
theorem dJ8_hugeLength_7cf53_50 : decode cJ8_hugeLength_7cf53 50 = .ok (.ldc 200, 2) := by decide +kernel
theorem dJ8_hugeLength_7cf53_52 : decode cJ8_hugeLength_7cf53 52 = .ok (.if_icmp .gt 6, 3) := by decide +kernel
theorem dJ8_hugeLength_7cf53_55 : decode cJ8_hugeLength_7cf53 55 = .ok (.ldc 200, 2) := by decide +kernel
theorem dJ8_hugeLength_7cf53_57 : decode cJ8_hugeLength_7cf53 57 = .ok (.ireturn, 1) := by decide +kernel
theorem dJ8_hugeLength_7cf53_58 : decode cJ8_hugeLength_7cf53 58 = .ok (.iload_n 2, 1) := by decide +kernel
theorem dJ8_hugeLength_7cf53_59 : decode cJ8_hugeLength_7cf53 59 = .ok (.ireturn, 1) := by decide +kernel
theorem dJ3_checkIndex_8e157_0 : decode cJ3_checkIndex_8e157 0 = .ok (.iload_n 0, 1) := by decide +kernel
theorem dJ3_checkIndex_8e157_1 : decode cJ3_checkIndex_8e157 1 = .ok (.ifCond .lt 8, 3) := by decide +kernel
theorem dJ3_checkIndex_8e157_4 : decode cJ3_checkIndex_8e157 4 = .ok (.iload_n 0, 1) := by decide +kernel
theorem dJ3_checkIndex_8e157_5 : decode cJ3_checkIndex_8e157 5 = .ok (.iload_n 1, 1) := by decide +kernel
theorem dJ3_checkIndex_8e157_6 : decode cJ3_checkIndex_8e157 6 = .ok (.if_icmp .lt 10, 3) := by decide +kernel
theorem dJ3_checkIndex_8e157_9 : decode cJ3_checkIndex_8e157 9 = .ok (.aload_n 2, 1) := by decide +kernel
theorem dJ3_checkIndex_8e157_10 : decode cJ3_checkIndex_8e157 10 = .ok (.iload_n 0, 1) := by decide +kernel
theorem dJ3_checkIndex_8e157_11 : decode cJ3_checkIndex_8e157 11 = .ok (.iload_n 1, 1) := by decide +kernel
theorem dJ3_checkIndex_8e157_12 : decode cJ3_checkIndex_8e157 12 = .ok (.invokestatic 95, 3) := by decide +kernel
theorem dJ3_checkIndex_8e157_15 : decode cJ3_checkIndex_8e157 15 = .ok (.athrow, 1) := by decide +kernel
theorem dJ3_checkIndex_8e157_16 : decode cJ3_checkIndex_8e157 16 = .ok (.iload_n 0, 1) := by decide +kernel
theorem dJ3_checkIndex_8e157_17 : decode cJ3_checkIndex_8e157 17 = .ok (.ireturn, 1) := by decide +kernel
end
section
theorem dX7_init_0 : decode cX7_init 0 = .ok (.aload_n 0, 1) := by decide +kernel
theorem dX7_init_1 : decode cX7_init 1 = .ok (.invokespecial 1, 3) := by decide +kernel
theorem dX7_init_4 : decode cX7_init 4 = .ok (.aload_n 0, 1) := by decide +kernel
theorem dX7_init_5 : decode cX7_init 5 = .ok (.new 7, 3) := by decide +kernel
theorem dX7_init_8 : decode cX7_init 8 = .ok (.dup, 1) := by decide +kernel
theorem dX7_init_9 : decode cX7_init 9 = .ok (.invokespecial 9, 3) := by decide +kernel
theorem dX7_init_12 : decode cX7_init 12 = .ok (.putfield 10, 3) := by decide +kernel
theorem dX7_init_15 : decode cX7_init 15 = .ok (.aload_n 0, 1) := by decide +kernel
theorem dX7_init_16 : decode cX7_init 16 = .ok (.new 7, 3) := by decide +kernel
theorem dX7_init_19 : decode cX7_init 19 = .ok (.dup, 1) := by decide +kernel
theorem dX7_init_20 : decode cX7_init 20 = .ok (.invokespecial 9, 3) := by decide +kernel
theorem dX7_init_23 : decode cX7_init 23 = .ok (.putfield 16, 3) := by decide +kernel
theorem dX7_init_26 : decode cX7_init 26 = .ok (.aload_n 0, 1) := by decide +kernel
theorem dX7_init_27 : decode cX7_init 27 = .ok (.new 7, 3) := by decide +kernel
theorem dX7_init_30 : decode cX7_init 30 = .ok (.dup, 1) := by decide +kernel
theorem dX7_init_31 : decode cX7_init 31 = .ok (.invokespecial 9, 3) := by decide +kernel
theorem dX7_init_34 : decode cX7_init 34 = .ok (.putfield 19, 3) := by decide +kernel
theorem dX7_init_37 : decode cX7_init 37 = .ok (.aload_n 0, 1) := by decide +kernel
theorem dX7_init_38 : decode cX7_init 38 = .ok (.new 7, 3) := by decide +kernel
theorem dX7_init_41 : decode cX7_init 41 = .ok (.dup, 1) := by decide +kernel
theorem dX7_init_42 : decode cX7_init 42 = .ok (.invokespecial 9, 3) := by decide +kernel
theorem dX7_init_45 : decode cX7_init 45 = .ok (.putfield 22, 3) := by decide +kernel
theorem dX7_init_48 : decode cX7_init 48 = .ok (.aload_n 0, 1) := by decide +kernel
theorem dX7_init_49 : decode cX7_init 49 = .ok (.new 25, 3) := by decide +kernel
theorem dX7_init_52 : decode cX7_init 52 = .ok (.dup, 1) := by decide +kernel
theorem dX7_init_53 : decode cX7_init 53 = .ok (.invokespecial 27, 3) := by decide +kernel
theorem dX7_init_56 : decode cX7_init 56 = .ok (.putfield 28, 3) := by decide +kernel
theorem dX7_init_59 : decode cX7_init 59 = .ok (.aload_n 0, 1) := by decide +kernel
theorem dX7_init_60 : decode cX7_init 60 = .ok (.new 25, 3) := by decide +kernel
theorem dX7_init_63 : decode cX7_init 63 = .ok (.dup, 1) := by decide +kernel
theorem dX7_init_64 : decode cX7_init 64 = .ok (.invokespecial 27, 3) := by decide +kernel
theorem dX7_init_67 : decode cX7_init 67 = .ok (.putfield 32, 3) := by decide +kernel
theorem dX7_init_70 : decode cX7_init 70 = .ok (.aload_n 0, 1) := by decide +kernel
theorem dX7_init_71 : decode cX7_init 71 = .ok (.bipush 6, 2) := by decide +kernel
theorem dX7_init_73 : decode cX7_init 73 = .ok (.newarray .int, 2) := by decide +kernel
theorem dX7_init_75 : decode cX7_init 75 = .ok (.putfield 35, 3) := by decide +kernel
theorem dX7_init_78 : decode cX7_init 78 = .ok (.aload_n 0, 1) := by decide +kernel
theorem dX7_init_79 : decode cX7_init 79 = .ok (.bipush 6, 2) := by decide +kernel
theorem dX7_init_81 : decode cX7_init 81 = .ok (.newarray .int, 2) := by decide +kernel
theorem dX7_init_83 : decode cX7_init 83 = .ok (.putfield 39, 3) := by decide +kernel
theorem dX7_init_86 : decode cX7_init 86 = .ok (.aload_n 0, 1) := by decide +kernel
theorem dX7_init_87 : decode cX7_init 87 = .ok (.bipush 8, 2) := by decide +kernel
theorem dX7_init_89 : decode cX7_init 89 = .ok (.newarray .int, 2) := by decide +kernel
theorem dX7_init_91 : decode cX7_init 91 = .ok (.putfield 42, 3) := by decide +kernel
theorem dX7_init_94 : decode cX7_init 94 = .ok (.return_, 1) := by decide +kernel
theorem dX7_add_0 : decode cX7_add 0 = .ok (.iload_n 1, 1) := by decide +kernel
theorem dX7_add_1 : decode cX7_add 1 = .ok (.invokestatic 45, 3) := by decide +kernel
theorem dX7_add_4 : decode cX7_add 4 = .ok (.iload_n 2, 1) := by decide +kernel
theorem dX7_add_5 : decode cX7_add 5 = .ok (.iload_n 3, 1) := by decide +kernel
theorem dX7_add_6 : decode cX7_add 6 = .ok (.iload 4, 2) := by decide +kernel
theorem dX7_add_8 : decode cX7_add 8 = .ok (.iload 5, 2) := by decide +kernel
theorem dX7_add_10 : decode cX7_add 10 = .ok (.invokestatic 49, 3) := by decide +kernel
theorem dX7_add_13 : decode cX7_add 13 = .ok (.iload 6, 2) := by decide +kernel
theorem dX7_add_15 : decode cX7_add 15 = .ok (.iconst 1, 1) := by decide +kernel
theorem dX7_add_16 : decode cX7_add 16 = .ok (.bipush 9, 2) := by decide +kernel
theorem dX7_add_18 : decode cX7_add 18 = .ok (.invokestatic 53, 3) := by decide +kernel
theorem dX7_add_21 : decode cX7_add 21 = .ok (.aload_n 0, 1) := by decide +kernel
theorem dX7_add_22 : decode cX7_add 22 = .ok (.getfield 10, 3) := by decide +kernel
theorem dX7_add_25 : decode cX7_add 25 = .ok (.invokevirtual 57, 3) := by decide +kernel
theorem dX7_add_28 : decode cX7_add 28 = .ok (.bipush 40, 2) := by decide +kernel
theorem dX7_add_30 : decode cX7_add 30 = .ok (.if_icmp .ge 16, 3) := by decide +kernel
theorem dX7_add_33 : decode cX7_add 33 = .ok (.aload_n 0, 1) := by decide +kernel
theorem dX7_add_34 : decode cX7_add 34 = .ok (.getfield 16, 3) := by decide +kernel
theorem dX7_add_37 : decode cX7_add 37 = .ok (.invokevirtual 57, 3) := by decide +kernel
theorem dX7_add_40 : decode cX7_add 40 = .ok (.sipush 200, 3) := by decide +kernel
theorem dX7_add_43 : decode cX7_add 43 = .ok (.if_icmp .lt 13, 3) := by decide +kernel
theorem dX7_add_46 : decode cX7_add 46 = .ok (.new 61, 3) := by decide +kernel
theorem dX7_add_49 : decode cX7_add 49 = .ok (.dup, 1) := by decide +kernel
theorem dX7_add_50 : decode cX7_add 50 = .ok (.ldc 63, 2) := by decide +kernel
theorem dX7_add_52 : decode cX7_add 52 = .ok (.invokespecial 65, 3) := by decide +kernel
theorem dX7_add_55 : decode cX7_add 55 = .ok (.athrow, 1) := by decide +kernel
theorem dX7_add_56 : decode cX7_add 56 = .ok (.aload_n 0, 1) := by decide +kernel
theorem dX7_add_57 : decode cX7_add 57 = .ok (.getfield 10, 3) := by decide +kernel
theorem dX7_add_60 : decode cX7_add 60 = .ok (.invokevirtual 57, 3) := by decide +kernel
theorem dX7_add_63 : decode cX7_add 63 = .ok (.istore 7, 2) := by decide +kernel
theorem dX7_add_65 : decode cX7_add 65 = .ok (.aload_n 0, 1) := by decide +kernel
theorem dX7_add_66 : decode cX7_add 66 = .ok (.getfield 10, 3) := by decide +kernel
theorem dX7_add_69 : decode cX7_add 69 = .ok (.new 68, 3) := by decide +kernel
theorem dX7_add_72 : decode cX7_add 72 = .ok (.dup, 1) := by decide +kernel
theorem dX7_add_73 : decode cX7_add 73 = .ok (.iload_n 1, 1) := by decide +kernel
theorem dX7_add_74 : decode cX7_add 74 = .ok (.iload_n 2, 1) := by decide +kernel
theorem dX7_add_75 : decode cX7_add 75 = .ok (.iload_n 3, 1) := by decide +kernel
theorem dX7_add_76 : decode cX7_add 76 = .ok (.iload 4, 2) := by decide +kernel
theorem dX7_add_78 : decode cX7_add 78 = .ok (.iload 5, 2) := by decide +kernel
theorem dX7_add_80 : decode cX7_add 80 = .ok (.iload 6, 2) := by decide +kernel
theorem dX7_add_82 : decode cX7_add 82 = .ok (.invokespecial 70, 3) := by decide +kernel
theorem dX7_add_85 : decode cX7_add 85 = .ok (.invokevirtual 73, 3) := by decide +kernel
theorem dX7_add_88 : decode cX7_add 88 = .ok (.pop, 1) := by decide +kernel
theorem dX7_add_89 : decode cX7_add 89 = .ok (.aload_n 0, 1) := by decide +kernel
theorem dX7_add_90 : decode cX7_add 90 = .ok (.new 77, 3) := by decide +kernel
theorem dX7_add_93 : decode cX7_add 93 = .ok (.dup, 1) := by decide +kernel
theorem dX7_add_94 : decode cX7_add 94 = .ok (.iload_n 1, 1) := by decide +kernel
theorem dX7_add_95 : decode cX7_add 95 = .ok (.iconst 0, 1) := by decide +kernel
theorem dX7_add_96 : decode cX7_add 96 = .ok (.iload 7, 2) := by decide +kernel
theorem dX7_add_98 : decode cX7_add 98 = .ok (.iconst (-1), 1) := by decide +kernel
theorem dX7_add_99 : decode cX7_add 99 = .ok (.iconst (-1), 1) := by decide +kernel
theorem dX7_add_100 : decode cX7_add 100 = .ok (.invokespecial 79, 3) := by decide +kernel
theorem dX7_add_103 : decode cX7_add 103 = .ok (.invokevirtual 82, 3) := by decide +kernel
theorem dX7_add_106 : decode cX7_add 106 = .ok (.iload 7, 2) := by decide +kernel
theorem dX7_add_108 : decode cX7_add 108 = .ok (.ireturn, 1) := by decide +kernel
theorem dX7_move_0 : decode cX7_move 0 = .ok (.iload_n 1, 1) := by decide +kernel
theorem dX7_move_1 : decode cX7_move 1 = .ok (.invokestatic 45, 3) := by decide +kernel
theorem dX7_move_4 : decode cX7_move 4 = .ok (.aload_n 0, 1) := by decide +kernel
theorem dX7_move_5 : decode cX7_move 5 = .ok (.iload_n 2, 1) := by decide +kernel
theorem dX7_move_6 : decode cX7_move 6 = .ok (.invokevirtual 86, 3) := by decide +kernel
theorem dX7_move_9 : decode cX7_move 9 = .ok (.iload_n 3, 1) := by decide +kernel
theorem dX7_move_10 : decode cX7_move 10 = .ok (.bipush (-24), 2) := by decide +kernel
theorem dX7_move_12 : decode cX7_move 12 = .ok (.bipush 24, 2) := by decide +kernel
theorem dX7_move_14 : decode cX7_move 14 = .ok (.invokestatic 53, 3) := by decide +kernel
theorem dX7_move_17 : decode cX7_move 17 = .ok (.iload 4, 2) := by decide +kernel
theorem dX7_move_19 : decode cX7_move 19 = .ok (.bipush (-16), 2) := by decide +kernel
theorem dX7_move_21 : decode cX7_move 21 = .ok (.bipush 16, 2) := by decide +kernel
theorem dX7_move_23 : decode cX7_move 23 = .ok (.invokestatic 53, 3) := by decide +kernel
theorem dX7_move_26 : decode cX7_move 26 = .ok (.aload_n 0, 1) := by decide +kernel
theorem dX7_move_27 : decode cX7_move 27 = .ok (.iload_n 2, 1) := by decide +kernel
theorem dX7_move_28 : decode cX7_move 28 = .ok (.invokevirtual 89, 3) := by decide +kernel
theorem dX7_move_31 : decode cX7_move 31 = .ok (.aload_n 0, 1) := by decide +kernel
theorem dX7_move_32 : decode cX7_move 32 = .ok (.new 77, 3) := by decide +kernel
theorem dX7_move_35 : decode cX7_move 35 = .ok (.dup, 1) := by decide +kernel
theorem dX7_move_36 : decode cX7_move 36 = .ok (.iload_n 1, 1) := by decide +kernel
theorem dX7_move_37 : decode cX7_move 37 = .ok (.iconst 1, 1) := by decide +kernel
theorem dX7_move_38 : decode cX7_move 38 = .ok (.iload_n 2, 1) := by decide +kernel
theorem dX7_move_39 : decode cX7_move 39 = .ok (.iload_n 3, 1) := by decide +kernel
theorem dX7_move_40 : decode cX7_move 40 = .ok (.iload 4, 2) := by decide +kernel
theorem dX7_move_42 : decode cX7_move 42 = .ok (.invokespecial 79, 3) := by decide +kernel
theorem dX7_move_45 : decode cX7_move 45 = .ok (.invokevirtual 82, 3) := by decide +kernel
theorem dX7_move_48 : decode cX7_move 48 = .ok (.aload_n 0, 1) := by decide +kernel
theorem dX7_move_49 : decode cX7_move 49 = .ok (.getfield 28, 3) := by decide +kernel
theorem dX7_move_52 : decode cX7_move 52 = .ok (.iload_n 2, 1) := by decide +kernel
theorem dX7_move_53 : decode cX7_move 53 = .ok (.invokevirtual 92, 3) := by decide +kernel
theorem dX7_move_56 : decode cX7_move 56 = .ok (.ireturn, 1) := by decide +kernel
theorem dX7_paint_0 : decode cX7_paint 0 = .ok (.iload_n 1, 1) := by decide +kernel
theorem dX7_paint_1 : decode cX7_paint 1 = .ok (.invokestatic 45, 3) := by decide +kernel
theorem dX7_paint_4 : decode cX7_paint 4 = .ok (.aload_n 0, 1) := by decide +kernel
theorem dX7_paint_5 : decode cX7_paint 5 = .ok (.iload_n 2, 1) := by decide +kernel
theorem dX7_paint_6 : decode cX7_paint 6 = .ok (.invokevirtual 86, 3) := by decide +kernel
theorem dX7_paint_9 : decode cX7_paint 9 = .ok (.iload_n 3, 1) := by decide +kernel
theorem dX7_paint_10 : decode cX7_paint 10 = .ok (.iconst 1, 1) := by decide +kernel
theorem dX7_paint_11 : decode cX7_paint 11 = .ok (.bipush 9, 2) := by decide +kernel
theorem dX7_paint_13 : decode cX7_paint 13 = .ok (.invokestatic 53, 3) := by decide +kernel
theorem dX7_paint_16 : decode cX7_paint 16 = .ok (.aload_n 0, 1) := by decide +kernel
theorem dX7_paint_17 : decode cX7_paint 17 = .ok (.iload_n 2, 1) := by decide +kernel
theorem dX7_paint_18 : decode cX7_paint 18 = .ok (.invokevirtual 89, 3) := by decide +kernel
theorem dX7_paint_21 : decode cX7_paint 21 = .ok (.aload_n 0, 1) := by decide +kernel
theorem dX7_paint_22 : decode cX7_paint 22 = .ok (.getfield 28, 3) := by decide +kernel
theorem dX7_paint_25 : decode cX7_paint 25 = .ok (.getfield 96, 3) := by decide +kernel
theorem dX7_paint_28 : decode cX7_paint 28 = .ok (.iload_n 2, 1) := by decide +kernel
theorem dX7_paint_29 : decode cX7_paint 29 = .ok (.iaload, 1) := by decide +kernel
theorem dX7_paint_30 : decode cX7_paint 30 = .ok (.istore 4, 2) := by decide +kernel
theorem dX7_paint_32 : decode cX7_paint 32 = .ok (.aload_n 0, 1) := by decide +kernel
theorem dX7_paint_33 : decode cX7_paint 33 = .ok (.new 77, 3) := by decide +kernel
theorem dX7_paint_36 : decode cX7_paint 36 = .ok (.dup, 1) := by decide +kernel
theorem dX7_paint_37 : decode cX7_paint 37 = .ok (.iload_n 1, 1) := by decide +kernel
theorem dX7_paint_38 : decode cX7_paint 38 = .ok (.iconst 2, 1) := by decide +kernel
theorem dX7_paint_39 : decode cX7_paint 39 = .ok (.iload_n 2, 1) := by decide +kernel
theorem dX7_paint_40 : decode cX7_paint 40 = .ok (.iload_n 3, 1) := by decide +kernel
theorem dX7_paint_41 : decode cX7_paint 41 = .ok (.iconst (-1), 1) := by decide +kernel
theorem dX7_paint_42 : decode cX7_paint 42 = .ok (.invokespecial 79, 3) := by decide +kernel
theorem dX7_paint_45 : decode cX7_paint 45 = .ok (.invokevirtual 82, 3) := by decide +kernel
theorem dX7_paint_48 : decode cX7_paint 48 = .ok (.iload 4, 2) := by decide +kernel
theorem dX7_paint_50 : decode cX7_paint 50 = .ok (.ireturn, 1) := by decide +kernel
theorem dX7_layer_0 : decode cX7_layer 0 = .ok (.iload_n 1, 1) := by decide +kernel
theorem dX7_layer_1 : decode cX7_layer 1 = .ok (.invokestatic 45, 3) := by decide +kernel
theorem dX7_layer_4 : decode cX7_layer 4 = .ok (.aload_n 0, 1) := by decide +kernel
theorem dX7_layer_5 : decode cX7_layer 5 = .ok (.iload_n 2, 1) := by decide +kernel
theorem dX7_layer_6 : decode cX7_layer 6 = .ok (.invokevirtual 86, 3) := by decide +kernel
theorem dX7_layer_9 : decode cX7_layer 9 = .ok (.aload_n 0, 1) := by decide +kernel
theorem dX7_layer_10 : decode cX7_layer 10 = .ok (.iload_n 2, 1) := by decide +kernel
theorem dX7_layer_11 : decode cX7_layer 11 = .ok (.invokevirtual 89, 3) := by decide +kernel
theorem dX7_layer_14 : decode cX7_layer 14 = .ok (.aload_n 0, 1) := by decide +kernel
theorem dX7_layer_15 : decode cX7_layer 15 = .ok (.new 77, 3) := by decide +kernel
theorem dX7_layer_18 : decode cX7_layer 18 = .ok (.dup, 1) := by decide +kernel
theorem dX7_layer_19 : decode cX7_layer 19 = .ok (.iload_n 1, 1) := by decide +kernel
theorem dX7_layer_20 : decode cX7_layer 20 = .ok (.iload_n 3, 1) := by decide +kernel
theorem dX7_layer_21 : decode cX7_layer 21 = .ok (.ifCond .eq 7, 3) := by decide +kernel
theorem dX7_layer_24 : decode cX7_layer 24 = .ok (.iconst 3, 1) := by decide +kernel
theorem dX7_layer_25 : decode cX7_layer 25 = .ok (.goto 4, 3) := by decide +kernel
theorem dX7_layer_28 : decode cX7_layer 28 = .ok (.iconst 4, 1) := by decide +kernel
theorem dX7_layer_29 : decode cX7_layer 29 = .ok (.iload_n 2, 1) := by decide +kernel
theorem dX7_layer_30 : decode cX7_layer 30 = .ok (.iconst (-1), 1) := by decide +kernel
theorem dX7_layer_31 : decode cX7_layer 31 = .ok (.iconst (-1), 1) := by decide +kernel
theorem dX7_layer_32 : decode cX7_layer 32 = .ok (.invokespecial 79, 3) := by decide +kernel
theorem dX7_layer_35 : decode cX7_layer 35 = .ok (.invokevirtual 82, 3) := by decide +kernel
theorem dX7_layer_38 : decode cX7_layer 38 = .ok (.aload_n 0, 1) := by decide +kernel
theorem dX7_layer_39 : decode cX7_layer 39 = .ok (.getfield 28, 3) := by decide +kernel
theorem dX7_layer_42 : decode cX7_layer 42 = .ok (.getfield 99, 3) := by decide +kernel
theorem dX7_layer_45 : decode cX7_layer 45 = .ok (.invokestatic 103, 3) := by decide +kernel
theorem dX7_layer_48 : decode cX7_layer 48 = .ok (.ireturn, 1) := by decide +kernel
theorem dX7_join_0 : decode cX7_join 0 = .ok (.iload_n 1, 1) := by decide +kernel
theorem dX7_join_1 : decode cX7_join 1 = .ok (.invokestatic 45, 3) := by decide +kernel
theorem dX7_join_4 : decode cX7_join 4 = .ok (.aload_n 0, 1) := by decide +kernel
theorem dX7_join_5 : decode cX7_join 5 = .ok (.iload_n 2, 1) := by decide +kernel
theorem dX7_join_6 : decode cX7_join 6 = .ok (.invokevirtual 86, 3) := by decide +kernel
theorem dX7_join_9 : decode cX7_join 9 = .ok (.aload_n 0, 1) := by decide +kernel
theorem dX7_join_10 : decode cX7_join 10 = .ok (.iload_n 3, 1) := by decide +kernel
theorem dX7_join_11 : decode cX7_join 11 = .ok (.invokevirtual 86, 3) := by decide +kernel
theorem dX7_join_14 : decode cX7_join 14 = .ok (.iload_n 2, 1) := by decide +kernel
theorem dX7_join_15 : decode cX7_join 15 = .ok (.iload_n 3, 1) := by decide +kernel
theorem dX7_join_16 : decode cX7_join 16 = .ok (.if_icmp .ne 13, 3) := by decide +kernel
theorem dX7_join_19 : decode cX7_join 19 = .ok (.new 109, 3) := by decide +kernel
theorem dX7_join_22 : decode cX7_join 22 = .ok (.dup, 1) := by decide +kernel
theorem dX7_join_23 : decode cX7_join 23 = .ok (.ldc 111, 2) := by decide +kernel
theorem dX7_join_25 : decode cX7_join 25 = .ok (.invokespecial 113, 3) := by decide +kernel
theorem dX7_join_28 : decode cX7_join 28 = .ok (.athrow, 1) := by decide +kernel
theorem dX7_join_29 : decode cX7_join 29 = .ok (.aload_n 0, 1) := by decide +kernel
theorem dX7_join_30 : decode cX7_join 30 = .ok (.iload_n 2, 1) := by decide +kernel
theorem dX7_join_31 : decode cX7_join 31 = .ok (.invokevirtual 89, 3) := by decide +kernel
theorem dX7_join_34 : decode cX7_join 34 = .ok (.aload_n 0, 1) := by decide +kernel
theorem dX7_join_35 : decode cX7_join 35 = .ok (.iload_n 3, 1) := by decide +kernel
theorem dX7_join_36 : decode cX7_join 36 = .ok (.invokevirtual 89, 3) := by decide +kernel
theorem dX7_join_39 : decode cX7_join 39 = .ok (.aload_n 0, 1) := by decide +kernel
theorem dX7_join_40 : decode cX7_join 40 = .ok (.new 77, 3) := by decide +kernel
theorem dX7_join_43 : decode cX7_join 43 = .ok (.dup, 1) := by decide +kernel
theorem dX7_join_44 : decode cX7_join 44 = .ok (.iload_n 1, 1) := by decide +kernel
theorem dX7_join_45 : decode cX7_join 45 = .ok (.iconst 5, 1) := by decide +kernel
theorem dX7_join_46 : decode cX7_join 46 = .ok (.iload_n 2, 1) := by decide +kernel
theorem dX7_join_47 : decode cX7_join 47 = .ok (.iload_n 3, 1) := by decide +kernel
theorem dX7_join_48 : decode cX7_join 48 = .ok (.iconst (-1), 1) := by decide +kernel
theorem dX7_join_49 : decode cX7_join 49 = .ok (.invokespecial 79, 3) := by decide +kernel
theorem dX7_join_52 : decode cX7_join 52 = .ok (.invokevirtual 82, 3) := by decide +kernel
theorem dX7_join_55 : decode cX7_join 55 = .ok (.aload_n 0, 1) := by decide +kernel
theorem dX7_join_56 : decode cX7_join 56 = .ok (.getfield 28, 3) := by decide +kernel
theorem dX7_join_59 : decode cX7_join 59 = .ok (.iload_n 2, 1) := by decide +kernel
theorem dX7_join_60 : decode cX7_join 60 = .ok (.invokevirtual 92, 3) := by decide +kernel
theorem dX7_join_63 : decode cX7_join 63 = .ok (.ireturn, 1) := by decide +kernel
theorem dX7_part_0 : decode cX7_part 0 = .ok (.iload_n 1, 1) := by decide +kernel
theorem dX7_part_1 : decode cX7_part 1 = .ok (.invokestatic 45, 3) := by decide +kernel
theorem dX7_part_4 : decode cX7_part 4 = .ok (.aload_n 0, 1) := by decide +kernel
theorem dX7_part_5 : decode cX7_part 5 = .ok (.iload_n 2, 1) := by decide +kernel
theorem dX7_part_6 : decode cX7_part 6 = .ok (.invokevirtual 86, 3) := by decide +kernel
theorem dX7_part_9 : decode cX7_part 9 = .ok (.aload_n 0, 1) := by decide +kernel
theorem dX7_part_10 : decode cX7_part 10 = .ok (.iload_n 2, 1) := by decide +kernel
theorem dX7_part_11 : decode cX7_part 11 = .ok (.invokevirtual 89, 3) := by decide +kernel
theorem dX7_part_14 : decode cX7_part 14 = .ok (.aload_n 0, 1) := by decide +kernel
theorem dX7_part_15 : decode cX7_part 15 = .ok (.getfield 28, 3) := by decide +kernel
theorem dX7_part_18 : decode cX7_part 18 = .ok (.iload_n 2, 1) := by decide +kernel
theorem dX7_part_19 : decode cX7_part 19 = .ok (.invokevirtual 92, 3) := by decide +kernel
theorem dX7_part_22 : decode cX7_part 22 = .ok (.iconst 1, 1) := by decide +kernel
theorem dX7_part_23 : decode cX7_part 23 = .ok (.isub, 1) := by decide +kernel
theorem dX7_part_24 : decode cX7_part 24 = .ok (.istore_n 3, 1) := by decide +kernel
theorem dX7_part_25 : decode cX7_part 25 = .ok (.aload_n 0, 1) := by decide +kernel
theorem dX7_part_26 : decode cX7_part 26 = .ok (.new 77, 3) := by decide +kernel
theorem dX7_part_29 : decode cX7_part 29 = .ok (.dup, 1) := by decide +kernel
theorem dX7_part_30 : decode cX7_part 30 = .ok (.iload_n 1, 1) := by decide +kernel
theorem dX7_part_31 : decode cX7_part 31 = .ok (.bipush 6, 2) := by decide +kernel
theorem dX7_part_33 : decode cX7_part 33 = .ok (.iload_n 2, 1) := by decide +kernel
theorem dX7_part_34 : decode cX7_part 34 = .ok (.iconst (-1), 1) := by decide +kernel
theorem dX7_part_35 : decode cX7_part 35 = .ok (.iconst (-1), 1) := by decide +kernel
theorem dX7_part_36 : decode cX7_part 36 = .ok (.invokespecial 79, 3) := by decide +kernel
theorem dX7_part_39 : decode cX7_part 39 = .ok (.invokevirtual 82, 3) := by decide +kernel
theorem dX7_part_42 : decode cX7_part 42 = .ok (.iload_n 3, 1) := by decide +kernel
theorem dX7_part_43 : decode cX7_part 43 = .ok (.ireturn, 1) := by decide +kernel
theorem dX7_drop_0 : decode cX7_drop 0 = .ok (.iload_n 1, 1) := by decide +kernel
theorem dX7_drop_1 : decode cX7_drop 1 = .ok (.invokestatic 45, 3) := by decide +kernel
theorem dX7_drop_4 : decode cX7_drop 4 = .ok (.aload_n 0, 1) := by decide +kernel
theorem dX7_drop_5 : decode cX7_drop 5 = .ok (.iload_n 2, 1) := by decide +kernel
theorem dX7_drop_6 : decode cX7_drop 6 = .ok (.invokevirtual 86, 3) := by decide +kernel
theorem dX7_drop_9 : decode cX7_drop 9 = .ok (.aload_n 0, 1) := by decide +kernel
theorem dX7_drop_10 : decode cX7_drop 10 = .ok (.iload_n 2, 1) := by decide +kernel
theorem dX7_drop_11 : decode cX7_drop 11 = .ok (.invokevirtual 89, 3) := by decide +kernel
theorem dX7_drop_14 : decode cX7_drop 14 = .ok (.aload_n 0, 1) := by decide +kernel
theorem dX7_drop_15 : decode cX7_drop 15 = .ok (.new 77, 3) := by decide +kernel
theorem dX7_drop_18 : decode cX7_drop 18 = .ok (.dup, 1) := by decide +kernel
theorem dX7_drop_19 : decode cX7_drop 19 = .ok (.iload_n 1, 1) := by decide +kernel
theorem dX7_drop_20 : decode cX7_drop 20 = .ok (.bipush 7, 2) := by decide +kernel
theorem dX7_drop_22 : decode cX7_drop 22 = .ok (.iload_n 2, 1) := by decide +kernel
theorem dX7_drop_23 : decode cX7_drop 23 = .ok (.iconst (-1), 1) := by decide +kernel
theorem dX7_drop_24 : decode cX7_drop 24 = .ok (.iconst (-1), 1) := by decide +kernel
theorem dX7_drop_25 : decode cX7_drop 25 = .ok (.invokespecial 79, 3) := by decide +kernel
theorem dX7_drop_28 : decode cX7_drop 28 = .ok (.invokevirtual 82, 3) := by decide +kernel
theorem dX7_drop_31 : decode cX7_drop 31 = .ok (.aload_n 0, 1) := by decide +kernel
theorem dX7_drop_32 : decode cX7_drop 32 = .ok (.getfield 28, 3) := by decide +kernel
theorem dX7_drop_35 : decode cX7_drop 35 = .ok (.getfield 99, 3) := by decide +kernel
theorem dX7_drop_38 : decode cX7_drop 38 = .ok (.invokestatic 103, 3) := by decide +kernel
theorem dX7_drop_41 : decode cX7_drop 41 = .ok (.ireturn, 1) := by decide +kernel
theorem dX7_undo_0 : decode cX7_undo 0 = .ok (.iload_n 1, 1) := by decide +kernel
theorem dX7_undo_1 : decode cX7_undo 1 = .ok (.invokestatic 45, 3) := by decide +kernel
theorem dX7_undo_4 : decode cX7_undo 4 = .ok (.aload_n 0, 1) := by decide +kernel
theorem dX7_undo_5 : decode cX7_undo 5 = .ok (.iload_n 1, 1) := by decide +kernel
theorem dX7_undo_6 : decode cX7_undo 6 = .ok (.invokevirtual 114, 3) := by decide +kernel
theorem dX7_undo_9 : decode cX7_undo 9 = .ok (.istore_n 2, 1) := by decide +kernel
theorem dX7_undo_10 : decode cX7_undo 10 = .ok (.iload_n 2, 1) := by decide +kernel
theorem dX7_undo_11 : decode cX7_undo 11 = .ok (.iconst (-1), 1) := by decide +kernel
theorem dX7_undo_12 : decode cX7_undo 12 = .ok (.if_icmp .eq 12, 3) := by decide +kernel
theorem dX7_undo_15 : decode cX7_undo 15 = .ok (.aload_n 0, 1) := by decide +kernel
theorem dX7_undo_16 : decode cX7_undo 16 = .ok (.iload_n 2, 1) := by decide +kernel
theorem dX7_undo_17 : decode cX7_undo 17 = .ok (.invokevirtual 117, 3) := by decide +kernel
theorem dX7_undo_20 : decode cX7_undo 20 = .ok (.iconst (-1), 1) := by decide +kernel
theorem dX7_undo_21 : decode cX7_undo 21 = .ok (.if_icmp .eq 13, 3) := by decide +kernel
theorem dX7_undo_24 : decode cX7_undo 24 = .ok (.new 61, 3) := by decide +kernel
theorem dX7_undo_27 : decode cX7_undo 27 = .ok (.dup, 1) := by decide +kernel
theorem dX7_undo_28 : decode cX7_undo 28 = .ok (.ldc 120, 2) := by decide +kernel
theorem dX7_undo_30 : decode cX7_undo 30 = .ok (.invokespecial 65, 3) := by decide +kernel
theorem dX7_undo_33 : decode cX7_undo 33 = .ok (.athrow, 1) := by decide +kernel
theorem dX7_undo_34 : decode cX7_undo 34 = .ok (.aload_n 0, 1) := by decide +kernel
theorem dX7_undo_35 : decode cX7_undo 35 = .ok (.iload_n 2, 1) := by decide +kernel
theorem dX7_undo_36 : decode cX7_undo 36 = .ok (.iconst 0, 1) := by decide +kernel
theorem dX7_undo_37 : decode cX7_undo 37 = .ok (.invokevirtual 122, 3) := by decide +kernel
theorem dX7_undo_40 : decode cX7_undo 40 = .ok (.aload_n 0, 1) := by decide +kernel
theorem dX7_undo_41 : decode cX7_undo 41 = .ok (.aload_n 0, 1) := by decide +kernel
theorem dX7_undo_42 : decode cX7_undo 42 = .ok (.getfield 28, 3) := by decide +kernel
theorem dX7_undo_45 : decode cX7_undo 45 = .ok (.invokevirtual 126, 3) := by decide +kernel
theorem dX7_undo_48 : decode cX7_undo 48 = .ok (.iload_n 2, 1) := by decide +kernel
theorem dX7_undo_49 : decode cX7_undo 49 = .ok (.ireturn, 1) := by decide +kernel
theorem dX7_redo_0 : decode cX7_redo 0 = .ok (.iload_n 1, 1) := by decide +kernel
theorem dX7_redo_1 : decode cX7_redo 1 = .ok (.invokestatic 45, 3) := by decide +kernel
theorem dX7_redo_4 : decode cX7_redo 4 = .ok (.aload_n 0, 1) := by decide +kernel
theorem dX7_redo_5 : decode cX7_redo 5 = .ok (.iload_n 1, 1) := by decide +kernel
theorem dX7_redo_6 : decode cX7_redo 6 = .ok (.invokevirtual 130, 3) := by decide +kernel
theorem dX7_redo_9 : decode cX7_redo 9 = .ok (.istore_n 2, 1) := by decide +kernel
theorem dX7_redo_10 : decode cX7_redo 10 = .ok (.iload_n 2, 1) := by decide +kernel
theorem dX7_redo_11 : decode cX7_redo 11 = .ok (.iconst (-1), 1) := by decide +kernel
theorem dX7_redo_12 : decode cX7_redo 12 = .ok (.if_icmp .ne 13, 3) := by decide +kernel
theorem dX7_redo_15 : decode cX7_redo 15 = .ok (.new 61, 3) := by decide +kernel
theorem dX7_redo_18 : decode cX7_redo 18 = .ok (.dup, 1) := by decide +kernel
theorem dX7_redo_19 : decode cX7_redo 19 = .ok (.ldc 133, 2) := by decide +kernel
theorem dX7_redo_21 : decode cX7_redo 21 = .ok (.invokespecial 65, 3) := by decide +kernel
theorem dX7_redo_24 : decode cX7_redo 24 = .ok (.athrow, 1) := by decide +kernel
theorem dX7_redo_25 : decode cX7_redo 25 = .ok (.aload_n 0, 1) := by decide +kernel
theorem dX7_redo_26 : decode cX7_redo 26 = .ok (.iload_n 2, 1) := by decide +kernel
theorem dX7_redo_27 : decode cX7_redo 27 = .ok (.iconst 1, 1) := by decide +kernel
theorem dX7_redo_28 : decode cX7_redo 28 = .ok (.invokevirtual 122, 3) := by decide +kernel
theorem dX7_redo_31 : decode cX7_redo 31 = .ok (.aload_n 0, 1) := by decide +kernel
theorem dX7_redo_32 : decode cX7_redo 32 = .ok (.aload_n 0, 1) := by decide +kernel
theorem dX7_redo_33 : decode cX7_redo 33 = .ok (.getfield 28, 3) := by decide +kernel
theorem dX7_redo_36 : decode cX7_redo 36 = .ok (.invokevirtual 126, 3) := by decide +kernel
theorem dX7_redo_39 : decode cX7_redo 39 = .ok (.iload_n 2, 1) := by decide +kernel
theorem dX7_redo_40 : decode cX7_redo 40 = .ok (.ireturn, 1) := by decide +kernel
theorem dX7_acts_0 : decode cX7_acts 0 = .ok (.aload_n 0, 1) := by decide +kernel
theorem dX7_acts_1 : decode cX7_acts 1 = .ok (.getfield 16, 3) := by decide +kernel
theorem dX7_acts_4 : decode cX7_acts 4 = .ok (.invokevirtual 57, 3) := by decide +kernel
theorem dX7_acts_7 : decode cX7_acts 7 = .ok (.ireturn, 1) := by decide +kernel
theorem dX7_isLive_0 : decode cX7_isLive 0 = .ok (.aload_n 0, 1) := by decide +kernel
theorem dX7_isLive_1 : decode cX7_isLive 1 = .ok (.iload_n 1, 1) := by decide +kernel
theorem dX7_isLive_2 : decode cX7_isLive 2 = .ok (.invokevirtual 135, 3) := by decide +kernel
theorem dX7_isLive_5 : decode cX7_isLive 5 = .ok (.getfield 139, 3) := by decide +kernel
theorem dX7_isLive_8 : decode cX7_isLive 8 = .ok (.ireturn, 1) := by decide +kernel
theorem dX7_holder_0 : decode cX7_holder 0 = .ok (.aload_n 0, 1) := by decide +kernel
theorem dX7_holder_1 : decode cX7_holder 1 = .ok (.iload_n 1, 1) := by decide +kernel
theorem dX7_holder_2 : decode cX7_holder 2 = .ok (.invokevirtual 135, 3) := by decide +kernel
theorem dX7_holder_5 : decode cX7_holder 5 = .ok (.pop, 1) := by decide +kernel
theorem dX7_holder_6 : decode cX7_holder 6 = .ok (.aload_n 0, 1) := by decide +kernel
theorem dX7_holder_7 : decode cX7_holder 7 = .ok (.iload_n 1, 1) := by decide +kernel
theorem dX7_holder_8 : decode cX7_holder 8 = .ok (.invokevirtual 117, 3) := by decide +kernel
theorem dX7_holder_11 : decode cX7_holder 11 = .ok (.ireturn, 1) := by decide +kernel
theorem dX7_shapes_0 : decode cX7_shapes 0 = .ok (.aload_n 0, 1) := by decide +kernel
theorem dX7_shapes_1 : decode cX7_shapes 1 = .ok (.getfield 10, 3) := by decide +kernel
theorem dX7_shapes_4 : decode cX7_shapes 4 = .ok (.invokevirtual 57, 3) := by decide +kernel
theorem dX7_shapes_7 : decode cX7_shapes 7 = .ok (.ireturn, 1) := by decide +kernel
theorem dX7_there_0 : decode cX7_there 0 = .ok (.aload_n 0, 1) := by decide +kernel
theorem dX7_there_1 : decode cX7_there 1 = .ok (.getfield 28, 3) := by decide +kernel
theorem dX7_there_4 : decode cX7_there 4 = .ok (.getfield 99, 3) := by decide +kernel
theorem dX7_there_7 : decode cX7_there 7 = .ok (.lreturn, 1) := by decide +kernel
theorem dX7_place_0 : decode cX7_place 0 = .ok (.aload_n 0, 1) := by decide +kernel
theorem dX7_place_1 : decode cX7_place 1 = .ok (.iload_n 1, 1) := by decide +kernel
theorem dX7_place_2 : decode cX7_place 2 = .ok (.invokevirtual 86, 3) := by decide +kernel
theorem dX7_place_5 : decode cX7_place 5 = .ok (.aload_n 0, 1) := by decide +kernel
theorem dX7_place_6 : decode cX7_place 6 = .ok (.getfield 28, 3) := by decide +kernel
theorem dX7_place_9 : decode cX7_place 9 = .ok (.iload_n 1, 1) := by decide +kernel
theorem dX7_place_10 : decode cX7_place 10 = .ok (.invokevirtual 143, 3) := by decide +kernel
theorem dX7_place_13 : decode cX7_place 13 = .ok (.ifCond .ne 13, 3) := by decide +kernel
theorem dX7_place_16 : decode cX7_place 16 = .ok (.new 61, 3) := by decide +kernel
theorem dX7_place_19 : decode cX7_place 19 = .ok (.dup, 1) := by decide +kernel
theorem dX7_place_20 : decode cX7_place 20 = .ok (.ldc 147, 2) := by decide +kernel
theorem dX7_place_22 : decode cX7_place 22 = .ok (.invokespecial 65, 3) := by decide +kernel
theorem dX7_place_25 : decode cX7_place 25 = .ok (.athrow, 1) := by decide +kernel
theorem dX7_place_26 : decode cX7_place 26 = .ok (.sipush 10000, 3) := by decide +kernel
theorem dX7_place_29 : decode cX7_place 29 = .ok (.aload_n 0, 1) := by decide +kernel
theorem dX7_place_30 : decode cX7_place 30 = .ok (.getfield 28, 3) := by decide +kernel
theorem dX7_place_33 : decode cX7_place 33 = .ok (.getfield 149, 3) := by decide +kernel
theorem dX7_place_36 : decode cX7_place 36 = .ok (.iload_n 1, 1) := by decide +kernel
theorem dX7_place_37 : decode cX7_place 37 = .ok (.iaload, 1) := by decide +kernel
theorem dX7_place_38 : decode cX7_place 38 = .ok (.imul, 1) := by decide +kernel
theorem dX7_place_39 : decode cX7_place 39 = .ok (.aload_n 0, 1) := by decide +kernel
theorem dX7_place_40 : decode cX7_place 40 = .ok (.getfield 28, 3) := by decide +kernel
theorem dX7_place_43 : decode cX7_place 43 = .ok (.getfield 152, 3) := by decide +kernel
theorem dX7_place_46 : decode cX7_place 46 = .ok (.iload_n 1, 1) := by decide +kernel
theorem dX7_place_47 : decode cX7_place 47 = .ok (.iaload, 1) := by decide +kernel
theorem dX7_place_48 : decode cX7_place 48 = .ok (.iadd, 1) := by decide +kernel
theorem dX7_place_49 : decode cX7_place 49 = .ok (.ireturn, 1) := by decide +kernel
theorem dX7_colour_0 : decode cX7_colour 0 = .ok (.aload_n 0, 1) := by decide +kernel
theorem dX7_colour_1 : decode cX7_colour 1 = .ok (.iload_n 1, 1) := by decide +kernel
theorem dX7_colour_2 : decode cX7_colour 2 = .ok (.invokevirtual 86, 3) := by decide +kernel
theorem dX7_colour_5 : decode cX7_colour 5 = .ok (.aload_n 0, 1) := by decide +kernel
theorem dX7_colour_6 : decode cX7_colour 6 = .ok (.getfield 28, 3) := by decide +kernel
theorem dX7_colour_9 : decode cX7_colour 9 = .ok (.iload_n 1, 1) := by decide +kernel
theorem dX7_colour_10 : decode cX7_colour 10 = .ok (.invokevirtual 143, 3) := by decide +kernel
theorem dX7_colour_13 : decode cX7_colour 13 = .ok (.ifCond .eq 15, 3) := by decide +kernel
theorem dX7_colour_16 : decode cX7_colour 16 = .ok (.aload_n 0, 1) := by decide +kernel
theorem dX7_colour_17 : decode cX7_colour 17 = .ok (.getfield 28, 3) := by decide +kernel
theorem dX7_colour_20 : decode cX7_colour 20 = .ok (.getfield 96, 3) := by decide +kernel
theorem dX7_colour_23 : decode cX7_colour 23 = .ok (.iload_n 1, 1) := by decide +kernel
theorem dX7_colour_24 : decode cX7_colour 24 = .ok (.iaload, 1) := by decide +kernel
theorem dX7_colour_25 : decode cX7_colour 25 = .ok (.goto 4, 3) := by decide +kernel
theorem dX7_colour_28 : decode cX7_colour 28 = .ok (.iconst 0, 1) := by decide +kernel
theorem dX7_colour_29 : decode cX7_colour 29 = .ok (.ireturn, 1) := by decide +kernel
theorem dX7_above_0 : decode cX7_above 0 = .ok (.aload_n 0, 1) := by decide +kernel
theorem dX7_above_1 : decode cX7_above 1 = .ok (.iload_n 1, 1) := by decide +kernel
theorem dX7_above_2 : decode cX7_above 2 = .ok (.invokevirtual 86, 3) := by decide +kernel
theorem dX7_above_5 : decode cX7_above 5 = .ok (.aload_n 0, 1) := by decide +kernel
theorem dX7_above_6 : decode cX7_above 6 = .ok (.getfield 28, 3) := by decide +kernel
theorem dX7_above_9 : decode cX7_above 9 = .ok (.iload_n 1, 1) := by decide +kernel
theorem dX7_above_10 : decode cX7_above 10 = .ok (.invokevirtual 143, 3) := by decide +kernel
theorem dX7_above_13 : decode cX7_above 13 = .ok (.ifCond .eq 14, 3) := by decide +kernel
theorem dX7_above_16 : decode cX7_above 16 = .ok (.aload_n 0, 1) := by decide +kernel
theorem dX7_above_17 : decode cX7_above 17 = .ok (.getfield 28, 3) := by decide +kernel
theorem dX7_above_20 : decode cX7_above 20 = .ok (.iload_n 1, 1) := by decide +kernel
theorem dX7_above_21 : decode cX7_above 21 = .ok (.invokevirtual 155, 3) := by decide +kernel
theorem dX7_above_24 : decode cX7_above 24 = .ok (.goto 4, 3) := by decide +kernel
theorem dX7_above_27 : decode cX7_above 27 = .ok (.iconst (-1), 1) := by decide +kernel
theorem dX7_above_28 : decode cX7_above 28 = .ok (.ireturn, 1) := by decide +kernel
theorem dX7_group_0 : decode cX7_group 0 = .ok (.aload_n 0, 1) := by decide +kernel
theorem dX7_group_1 : decode cX7_group 1 = .ok (.iload_n 1, 1) := by decide +kernel
theorem dX7_group_2 : decode cX7_group 2 = .ok (.invokevirtual 86, 3) := by decide +kernel
theorem dX7_group_5 : decode cX7_group 5 = .ok (.aload_n 0, 1) := by decide +kernel
theorem dX7_group_6 : decode cX7_group 6 = .ok (.getfield 28, 3) := by decide +kernel
theorem dX7_group_9 : decode cX7_group 9 = .ok (.iload_n 1, 1) := by decide +kernel
theorem dX7_group_10 : decode cX7_group 10 = .ok (.invokevirtual 143, 3) := by decide +kernel
theorem dX7_group_13 : decode cX7_group 13 = .ok (.ifCond .eq 15, 3) := by decide +kernel
theorem dX7_group_16 : decode cX7_group 16 = .ok (.aload_n 0, 1) := by decide +kernel
theorem dX7_group_17 : decode cX7_group 17 = .ok (.getfield 28, 3) := by decide +kernel
theorem dX7_group_20 : decode cX7_group 20 = .ok (.getfield 158, 3) := by decide +kernel
theorem dX7_group_23 : decode cX7_group 23 = .ok (.iload_n 1, 1) := by decide +kernel
theorem dX7_group_24 : decode cX7_group 24 = .ok (.laload, 1) := by decide +kernel
theorem dX7_group_25 : decode cX7_group 25 = .ok (.goto 4, 3) := by decide +kernel
theorem dX7_group_28 : decode cX7_group 28 = .ok (.lconst 0, 1) := by decide +kernel
theorem dX7_group_29 : decode cX7_group 29 = .ok (.lreturn, 1) := by decide +kernel
theorem dX7_seen_0 : decode cX7_seen 0 = .ok (.iload_n 1, 1) := by decide +kernel
theorem dX7_seen_1 : decode cX7_seen 1 = .ok (.iload_n 2, 1) := by decide +kernel
theorem dX7_seen_2 : decode cX7_seen 2 = .ok (.bipush 24, 2) := by decide +kernel
theorem dX7_seen_4 : decode cX7_seen 4 = .ok (.bipush 16, 2) := by decide +kernel
theorem dX7_seen_6 : decode cX7_seen 6 = .ok (.invokestatic 162, 3) := by decide +kernel
theorem dX7_seen_9 : decode cX7_seen 9 = .ok (.aload_n 0, 1) := by decide +kernel
theorem dX7_seen_10 : decode cX7_seen 10 = .ok (.getfield 28, 3) := by decide +kernel
theorem dX7_seen_13 : decode cX7_seen 13 = .ok (.iload_n 1, 1) := by decide +kernel
theorem dX7_seen_14 : decode cX7_seen 14 = .ok (.iload_n 2, 1) := by decide +kernel
theorem dX7_seen_15 : decode cX7_seen 15 = .ok (.aload_n 0, 1) := by decide +kernel
theorem dX7_seen_16 : decode cX7_seen 16 = .ok (.getfield 165, 3) := by decide +kernel
theorem dX7_seen_19 : decode cX7_seen 19 = .ok (.invokevirtual 168, 3) := by decide +kernel
theorem dX7_seen_22 : decode cX7_seen 22 = .ok (.ireturn, 1) := by decide +kernel
theorem dX7_seenAnew_0 : decode cX7_seenAnew 0 = .ok (.iload_n 1, 1) := by decide +kernel
theorem dX7_seenAnew_1 : decode cX7_seenAnew 1 = .ok (.iload_n 2, 1) := by decide +kernel
theorem dX7_seenAnew_2 : decode cX7_seenAnew 2 = .ok (.bipush 24, 2) := by decide +kernel
theorem dX7_seenAnew_4 : decode cX7_seenAnew 4 = .ok (.bipush 16, 2) := by decide +kernel
theorem dX7_seenAnew_6 : decode cX7_seenAnew 6 = .ok (.invokestatic 162, 3) := by decide +kernel
theorem dX7_seenAnew_9 : decode cX7_seenAnew 9 = .ok (.aload_n 0, 1) := by decide +kernel
theorem dX7_seenAnew_10 : decode cX7_seenAnew 10 = .ok (.aload_n 0, 1) := by decide +kernel
theorem dX7_seenAnew_11 : decode cX7_seenAnew 11 = .ok (.getfield 32, 3) := by decide +kernel
theorem dX7_seenAnew_14 : decode cX7_seenAnew 14 = .ok (.invokevirtual 126, 3) := by decide +kernel
theorem dX7_seenAnew_17 : decode cX7_seenAnew 17 = .ok (.aload_n 0, 1) := by decide +kernel
theorem dX7_seenAnew_18 : decode cX7_seenAnew 18 = .ok (.getfield 32, 3) := by decide +kernel
theorem dX7_seenAnew_21 : decode cX7_seenAnew 21 = .ok (.iload_n 1, 1) := by decide +kernel
theorem dX7_seenAnew_22 : decode cX7_seenAnew 22 = .ok (.iload_n 2, 1) := by decide +kernel
theorem dX7_seenAnew_23 : decode cX7_seenAnew 23 = .ok (.aload_n 0, 1) := by decide +kernel
theorem dX7_seenAnew_24 : decode cX7_seenAnew 24 = .ok (.getfield 165, 3) := by decide +kernel
theorem dX7_seenAnew_27 : decode cX7_seenAnew 27 = .ok (.invokevirtual 168, 3) := by decide +kernel
theorem dX7_seenAnew_30 : decode cX7_seenAnew 30 = .ok (.ireturn, 1) := by decide +kernel
theorem dX7_freeze_0 : decode cX7_freeze 0 = .ok (.iload_n 1, 1) := by decide +kernel
theorem dX7_freeze_1 : decode cX7_freeze 1 = .ok (.invokestatic 45, 3) := by decide +kernel
theorem dX7_freeze_4 : decode cX7_freeze 4 = .ok (.iload_n 2, 1) := by decide +kernel
theorem dX7_freeze_5 : decode cX7_freeze 5 = .ok (.iload_n 3, 1) := by decide +kernel
theorem dX7_freeze_6 : decode cX7_freeze 6 = .ok (.iload 4, 2) := by decide +kernel
theorem dX7_freeze_8 : decode cX7_freeze 8 = .ok (.iload 5, 2) := by decide +kernel
theorem dX7_freeze_10 : decode cX7_freeze 10 = .ok (.invokestatic 49, 3) := by decide +kernel
theorem dX7_freeze_13 : decode cX7_freeze 13 = .ok (.iload 6, 2) := by decide +kernel
theorem dX7_freeze_15 : decode cX7_freeze 15 = .ok (.iconst 1, 1) := by decide +kernel
theorem dX7_freeze_16 : decode cX7_freeze 16 = .ok (.bipush 20, 2) := by decide +kernel
theorem dX7_freeze_18 : decode cX7_freeze 18 = .ok (.invokestatic 53, 3) := by decide +kernel
theorem dX7_freeze_21 : decode cX7_freeze 21 = .ok (.iload 7, 2) := by decide +kernel
theorem dX7_freeze_23 : decode cX7_freeze 23 = .ok (.iconst 0, 1) := by decide +kernel
theorem dX7_freeze_24 : decode cX7_freeze 24 = .ok (.ldc 172, 2) := by decide +kernel
theorem dX7_freeze_26 : decode cX7_freeze 26 = .ok (.invokestatic 53, 3) := by decide +kernel
theorem dX7_freeze_29 : decode cX7_freeze 29 = .ok (.new 173, 3) := by decide +kernel
theorem dX7_freeze_32 : decode cX7_freeze 32 = .ok (.dup, 1) := by decide +kernel
theorem dX7_freeze_33 : decode cX7_freeze 33 = .ok (.iload_n 2, 1) := by decide +kernel
theorem dX7_freeze_34 : decode cX7_freeze 34 = .ok (.iload_n 3, 1) := by decide +kernel
theorem dX7_freeze_35 : decode cX7_freeze 35 = .ok (.iload 4, 2) := by decide +kernel
theorem dX7_freeze_37 : decode cX7_freeze 37 = .ok (.iload 5, 2) := by decide +kernel
theorem dX7_freeze_39 : decode cX7_freeze 39 = .ok (.invokespecial 175, 3) := by decide +kernel
theorem dX7_freeze_42 : decode cX7_freeze 42 = .ok (.astore 8, 2) := by decide +kernel
theorem dX7_freeze_44 : decode cX7_freeze 44 = .ok (.aload_n 0, 1) := by decide +kernel
theorem dX7_freeze_45 : decode cX7_freeze 45 = .ok (.getfield 19, 3) := by decide +kernel
theorem dX7_freeze_48 : decode cX7_freeze 48 = .ok (.invokevirtual 57, 3) := by decide +kernel
theorem dX7_freeze_51 : decode cX7_freeze 51 = .ok (.bipush 8, 2) := by decide +kernel
theorem dX7_freeze_53 : decode cX7_freeze 53 = .ok (.if_icmp .ge 19, 3) := by decide +kernel
theorem dX7_freeze_56 : decode cX7_freeze 56 = .ok (.aload 8, 2) := by decide +kernel
theorem dX7_freeze_58 : decode cX7_freeze 58 = .ok (.aload_n 0, 1) := by decide +kernel
theorem dX7_freeze_59 : decode cX7_freeze 59 = .ok (.getfield 28, 3) := by decide +kernel
theorem dX7_freeze_62 : decode cX7_freeze 62 = .ok (.aload_n 0, 1) := by decide +kernel
theorem dX7_freeze_63 : decode cX7_freeze 63 = .ok (.getfield 165, 3) := by decide +kernel
theorem dX7_freeze_66 : decode cX7_freeze 66 = .ok (.invokevirtual 177, 3) := by decide +kernel
theorem dX7_freeze_69 : decode cX7_freeze 69 = .ok (.ifCond .ne 13, 3) := by decide +kernel
theorem dX7_freeze_72 : decode cX7_freeze 72 = .ok (.new 61, 3) := by decide +kernel
theorem dX7_freeze_75 : decode cX7_freeze 75 = .ok (.dup, 1) := by decide +kernel
theorem dX7_freeze_76 : decode cX7_freeze 76 = .ok (.ldc 181, 2) := by decide +kernel
theorem dX7_freeze_78 : decode cX7_freeze 78 = .ok (.invokespecial 65, 3) := by decide +kernel
theorem dX7_freeze_81 : decode cX7_freeze 81 = .ok (.athrow, 1) := by decide +kernel
theorem dX7_freeze_82 : decode cX7_freeze 82 = .ok (.new 183, 3) := by decide +kernel
theorem dX7_freeze_85 : decode cX7_freeze 85 = .ok (.dup, 1) := by decide +kernel
theorem dX7_freeze_86 : decode cX7_freeze 86 = .ok (.iload_n 1, 1) := by decide +kernel
theorem dX7_freeze_87 : decode cX7_freeze 87 = .ok (.aload 8, 2) := by decide +kernel
theorem dX7_freeze_89 : decode cX7_freeze 89 = .ok (.iload 7, 2) := by decide +kernel
theorem dX7_freeze_91 : decode cX7_freeze 91 = .ok (.invokespecial 185, 3) := by decide +kernel
theorem dX7_freeze_94 : decode cX7_freeze 94 = .ok (.astore 9, 2) := by decide +kernel
theorem dX7_freeze_96 : decode cX7_freeze 96 = .ok (.aload 9, 2) := by decide +kernel
theorem dX7_freeze_98 : decode cX7_freeze 98 = .ok (.iload 6, 2) := by decide +kernel
theorem dX7_freeze_100 : decode cX7_freeze 100 = .ok (.invokevirtual 188, 3) := by decide +kernel
theorem dX7_freeze_103 : decode cX7_freeze 103 = .ok (.aload 9, 2) := by decide +kernel
theorem dX7_freeze_105 : decode cX7_freeze 105 = .ok (.getfield 191, 3) := by decide +kernel
theorem dX7_freeze_108 : decode cX7_freeze 108 = .ok (.aload_n 0, 1) := by decide +kernel
theorem dX7_freeze_109 : decode cX7_freeze 109 = .ok (.getfield 28, 3) := by decide +kernel
theorem dX7_freeze_112 : decode cX7_freeze 112 = .ok (.invokevirtual 194, 3) := by decide +kernel
theorem dX7_freeze_115 : decode cX7_freeze 115 = .ok (.aload_n 0, 1) := by decide +kernel
theorem dX7_freeze_116 : decode cX7_freeze 116 = .ok (.aload 9, 2) := by decide +kernel
theorem dX7_freeze_118 : decode cX7_freeze 118 = .ok (.invokevirtual 197, 3) := by decide +kernel
theorem dX7_freeze_121 : decode cX7_freeze 121 = .ok (.aload_n 0, 1) := by decide +kernel
theorem dX7_freeze_122 : decode cX7_freeze 122 = .ok (.getfield 19, 3) := by decide +kernel
theorem dX7_freeze_125 : decode cX7_freeze 125 = .ok (.aload 9, 2) := by decide +kernel
theorem dX7_freeze_127 : decode cX7_freeze 127 = .ok (.invokevirtual 73, 3) := by decide +kernel
theorem dX7_freeze_130 : decode cX7_freeze 130 = .ok (.pop, 1) := by decide +kernel
theorem dX7_freeze_131 : decode cX7_freeze 131 = .ok (.aload_n 0, 1) := by decide +kernel
theorem dX7_freeze_132 : decode cX7_freeze 132 = .ok (.getfield 19, 3) := by decide +kernel
theorem dX7_freeze_135 : decode cX7_freeze 135 = .ok (.invokevirtual 57, 3) := by decide +kernel
theorem dX7_freeze_138 : decode cX7_freeze 138 = .ok (.iconst 1, 1) := by decide +kernel
theorem dX7_freeze_139 : decode cX7_freeze 139 = .ok (.isub, 1) := by decide +kernel
theorem dX7_freeze_140 : decode cX7_freeze 140 = .ok (.ireturn, 1) := by decide +kernel
theorem dX7_withdraw_0 : decode cX7_withdraw 0 = .ok (.aload_n 0, 1) := by decide +kernel
theorem dX7_withdraw_1 : decode cX7_withdraw 1 = .ok (.iload_n 1, 1) := by decide +kernel
theorem dX7_withdraw_2 : decode cX7_withdraw 2 = .ok (.invokevirtual 201, 3) := by decide +kernel
theorem dX7_withdraw_5 : decode cX7_withdraw 5 = .ok (.astore_n 2, 1) := by decide +kernel
theorem dX7_withdraw_6 : decode cX7_withdraw 6 = .ok (.aload_n 2, 1) := by decide +kernel
theorem dX7_withdraw_7 : decode cX7_withdraw 7 = .ok (.getfield 205, 3) := by decide +kernel
theorem dX7_withdraw_10 : decode cX7_withdraw 10 = .ok (.ifCond .ne 10, 3) := by decide +kernel
theorem dX7_withdraw_13 : decode cX7_withdraw 13 = .ok (.aload_n 2, 1) := by decide +kernel
theorem dX7_withdraw_14 : decode cX7_withdraw 14 = .ok (.getfield 208, 3) := by decide +kernel
theorem dX7_withdraw_17 : decode cX7_withdraw 17 = .ok (.ifCond .le 13, 3) := by decide +kernel
theorem dX7_withdraw_20 : decode cX7_withdraw 20 = .ok (.new 61, 3) := by decide +kernel
theorem dX7_withdraw_23 : decode cX7_withdraw 23 = .ok (.dup, 1) := by decide +kernel
theorem dX7_withdraw_24 : decode cX7_withdraw 24 = .ok (.ldc 212, 2) := by decide +kernel
theorem dX7_withdraw_26 : decode cX7_withdraw 26 = .ok (.invokespecial 65, 3) := by decide +kernel
theorem dX7_withdraw_29 : decode cX7_withdraw 29 = .ok (.athrow, 1) := by decide +kernel
theorem dX7_withdraw_30 : decode cX7_withdraw 30 = .ok (.aload_n 2, 1) := by decide +kernel
theorem dX7_withdraw_31 : decode cX7_withdraw 31 = .ok (.invokevirtual 214, 3) := by decide +kernel
theorem dX7_withdraw_34 : decode cX7_withdraw 34 = .ok (.istore_n 3, 1) := by decide +kernel
theorem dX7_withdraw_35 : decode cX7_withdraw 35 = .ok (.aload_n 2, 1) := by decide +kernel
theorem dX7_withdraw_36 : decode cX7_withdraw 36 = .ok (.iconst 1, 1) := by decide +kernel
theorem dX7_withdraw_37 : decode cX7_withdraw 37 = .ok (.putfield 205, 3) := by decide +kernel
theorem dX7_withdraw_40 : decode cX7_withdraw 40 = .ok (.iload_n 3, 1) := by decide +kernel
theorem dX7_withdraw_41 : decode cX7_withdraw 41 = .ok (.ireturn, 1) := by decide +kernel
theorem dX7_viewed_0 : decode cX7_viewed 0 = .ok (.aload_n 0, 1) := by decide +kernel
theorem dX7_viewed_1 : decode cX7_viewed 1 = .ok (.iload_n 1, 1) := by decide +kernel
theorem dX7_viewed_2 : decode cX7_viewed 2 = .ok (.invokevirtual 201, 3) := by decide +kernel
theorem dX7_viewed_5 : decode cX7_viewed 5 = .ok (.astore 4, 2) := by decide +kernel
theorem dX7_viewed_7 : decode cX7_viewed 7 = .ok (.aload 4, 2) := by decide +kernel
theorem dX7_viewed_9 : decode cX7_viewed 9 = .ok (.getfield 217, 3) := by decide +kernel
theorem dX7_viewed_12 : decode cX7_viewed 12 = .ok (.astore 5, 2) := by decide +kernel
theorem dX7_viewed_14 : decode cX7_viewed 14 = .ok (.iload_n 2, 1) := by decide +kernel
theorem dX7_viewed_15 : decode cX7_viewed 15 = .ok (.iload_n 3, 1) := by decide +kernel
theorem dX7_viewed_16 : decode cX7_viewed 16 = .ok (.aload 5, 2) := by decide +kernel
theorem dX7_viewed_18 : decode cX7_viewed 18 = .ok (.getfield 221, 3) := by decide +kernel
theorem dX7_viewed_21 : decode cX7_viewed 21 = .ok (.aload 5, 2) := by decide +kernel
theorem dX7_viewed_23 : decode cX7_viewed 23 = .ok (.getfield 224, 3) := by decide +kernel
theorem dX7_viewed_26 : decode cX7_viewed 26 = .ok (.invokestatic 162, 3) := by decide +kernel
theorem dX7_viewed_29 : decode cX7_viewed 29 = .ok (.aload 4, 2) := by decide +kernel
theorem dX7_viewed_31 : decode cX7_viewed 31 = .ok (.getfield 191, 3) := by decide +kernel
theorem dX7_viewed_34 : decode cX7_viewed 34 = .ok (.aload 5, 2) := by decide +kernel
theorem dX7_viewed_36 : decode cX7_viewed 36 = .ok (.getfield 227, 3) := by decide +kernel
theorem dX7_viewed_39 : decode cX7_viewed 39 = .ok (.iload_n 2, 1) := by decide +kernel
theorem dX7_viewed_40 : decode cX7_viewed 40 = .ok (.iadd, 1) := by decide +kernel
theorem dX7_viewed_41 : decode cX7_viewed 41 = .ok (.aload 5, 2) := by decide +kernel
theorem dX7_viewed_43 : decode cX7_viewed 43 = .ok (.getfield 230, 3) := by decide +kernel
theorem dX7_viewed_46 : decode cX7_viewed 46 = .ok (.iload_n 3, 1) := by decide +kernel
theorem dX7_viewed_47 : decode cX7_viewed 47 = .ok (.iadd, 1) := by decide +kernel
theorem dX7_viewed_48 : decode cX7_viewed 48 = .ok (.aload_n 0, 1) := by decide +kernel
theorem dX7_viewed_49 : decode cX7_viewed 49 = .ok (.getfield 165, 3) := by decide +kernel
theorem dX7_viewed_52 : decode cX7_viewed 52 = .ok (.invokevirtual 168, 3) := by decide +kernel
theorem dX7_viewed_55 : decode cX7_viewed 55 = .ok (.istore 6, 2) := by decide +kernel
theorem dX7_viewed_57 : decode cX7_viewed 57 = .ok (.iload 6, 2) := by decide +kernel
theorem dX7_viewed_59 : decode cX7_viewed 59 = .ok (.iconst (-1), 1) := by decide +kernel
theorem dX7_viewed_60 : decode cX7_viewed 60 = .ok (.if_icmp .ne 7, 3) := by decide +kernel
theorem dX7_viewed_63 : decode cX7_viewed 63 = .ok (.iconst 0, 1) := by decide +kernel
theorem dX7_viewed_64 : decode cX7_viewed 64 = .ok (.goto 14, 3) := by decide +kernel
theorem dX7_viewed_67 : decode cX7_viewed 67 = .ok (.aload 4, 2) := by decide +kernel
theorem dX7_viewed_69 : decode cX7_viewed 69 = .ok (.getfield 191, 3) := by decide +kernel
theorem dX7_viewed_72 : decode cX7_viewed 72 = .ok (.getfield 96, 3) := by decide +kernel
theorem dX7_viewed_75 : decode cX7_viewed 75 = .ok (.iload 6, 2) := by decide +kernel
theorem dX7_viewed_77 : decode cX7_viewed 77 = .ok (.iaload, 1) := by decide +kernel
theorem dX7_viewed_78 : decode cX7_viewed 78 = .ok (.ireturn, 1) := by decide +kernel
theorem dX7_area_0 : decode cX7_area 0 = .ok (.aload_n 0, 1) := by decide +kernel
theorem dX7_area_1 : decode cX7_area 1 = .ok (.iload_n 1, 1) := by decide +kernel
theorem dX7_area_2 : decode cX7_area 2 = .ok (.invokevirtual 201, 3) := by decide +kernel
theorem dX7_area_5 : decode cX7_area 5 = .ok (.astore_n 3, 1) := by decide +kernel
theorem dX7_area_6 : decode cX7_area 6 = .ok (.iload_n 2, 1) := by decide +kernel
theorem dX7_area_7 : decode cX7_area 7 = .ok (.invokestatic 45, 3) := by decide +kernel
theorem dX7_area_10 : decode cX7_area 10 = .ok (.aload_n 3, 1) := by decide +kernel
theorem dX7_area_11 : decode cX7_area 11 = .ok (.getfield 233, 3) := by decide +kernel
theorem dX7_area_14 : decode cX7_area 14 = .ok (.iload_n 2, 1) := by decide +kernel
theorem dX7_area_15 : decode cX7_area 15 = .ok (.iaload, 1) := by decide +kernel
theorem dX7_area_16 : decode cX7_area 16 = .ok (.ireturn, 1) := by decide +kernel
theorem dX7_sell_0 : decode cX7_sell 0 = .ok (.aload_n 0, 1) := by decide +kernel
theorem dX7_sell_1 : decode cX7_sell 1 = .ok (.iload_n 1, 1) := by decide +kernel
theorem dX7_sell_2 : decode cX7_sell 2 = .ok (.invokevirtual 201, 3) := by decide +kernel
theorem dX7_sell_5 : decode cX7_sell 5 = .ok (.astore_n 3, 1) := by decide +kernel
theorem dX7_sell_6 : decode cX7_sell 6 = .ok (.iload_n 2, 1) := by decide +kernel
theorem dX7_sell_7 : decode cX7_sell 7 = .ok (.invokestatic 236, 3) := by decide +kernel
theorem dX7_sell_10 : decode cX7_sell 10 = .ok (.aload_n 3, 1) := by decide +kernel
theorem dX7_sell_11 : decode cX7_sell 11 = .ok (.getfield 208, 3) := by decide +kernel
theorem dX7_sell_14 : decode cX7_sell 14 = .ok (.istore 4, 2) := by decide +kernel
theorem dX7_sell_16 : decode cX7_sell 16 = .ok (.aload_n 3, 1) := by decide +kernel
theorem dX7_sell_17 : decode cX7_sell 17 = .ok (.getfield 205, 3) := by decide +kernel
theorem dX7_sell_20 : decode cX7_sell 20 = .ok (.ifCond .ne 15, 3) := by decide +kernel
theorem dX7_sell_23 : decode cX7_sell 23 = .ok (.iload 4, 2) := by decide +kernel
theorem dX7_sell_25 : decode cX7_sell 25 = .ok (.aload_n 3, 1) := by decide +kernel
theorem dX7_sell_26 : decode cX7_sell 26 = .ok (.getfield 239, 3) := by decide +kernel
theorem dX7_sell_29 : decode cX7_sell 29 = .ok (.invokevirtual 57, 3) := by decide +kernel
theorem dX7_sell_32 : decode cX7_sell 32 = .ok (.if_icmp .lt 13, 3) := by decide +kernel
theorem dX7_sell_35 : decode cX7_sell 35 = .ok (.new 61, 3) := by decide +kernel
theorem dX7_sell_38 : decode cX7_sell 38 = .ok (.dup, 1) := by decide +kernel
theorem dX7_sell_39 : decode cX7_sell 39 = .ok (.ldc 242, 2) := by decide +kernel
theorem dX7_sell_41 : decode cX7_sell 41 = .ok (.invokespecial 65, 3) := by decide +kernel
theorem dX7_sell_44 : decode cX7_sell 44 = .ok (.athrow, 1) := by decide +kernel
theorem dX7_sell_45 : decode cX7_sell 45 = .ok (.aload_n 3, 1) := by decide +kernel
theorem dX7_sell_46 : decode cX7_sell 46 = .ok (.getfield 244, 3) := by decide +kernel
theorem dX7_sell_49 : decode cX7_sell 49 = .ok (.bipush 10, 2) := by decide +kernel
theorem dX7_sell_51 : decode cX7_sell 51 = .ok (.idiv, 1) := by decide +kernel
theorem dX7_sell_52 : decode cX7_sell 52 = .ok (.istore 5, 2) := by decide +kernel
theorem dX7_sell_54 : decode cX7_sell 54 = .ok (.aload_n 3, 1) := by decide +kernel
theorem dX7_sell_55 : decode cX7_sell 55 = .ok (.getfield 239, 3) := by decide +kernel
theorem dX7_sell_58 : decode cX7_sell 58 = .ok (.iload 4, 2) := by decide +kernel
theorem dX7_sell_60 : decode cX7_sell 60 = .ok (.invokevirtual 247, 3) := by decide +kernel
theorem dX7_sell_63 : decode cX7_sell 63 = .ok (.checkcast 251, 3) := by decide +kernel
theorem dX7_sell_66 : decode cX7_sell 66 = .ok (.iload_n 2, 1) := by decide +kernel
theorem dX7_sell_67 : decode cX7_sell 67 = .ok (.aload_n 3, 1) := by decide +kernel
theorem dX7_sell_68 : decode cX7_sell 68 = .ok (.getfield 244, 3) := by decide +kernel
theorem dX7_sell_71 : decode cX7_sell 71 = .ok (.invokevirtual 253, 3) := by decide +kernel
theorem dX7_sell_74 : decode cX7_sell 74 = .ok (.aload_n 3, 1) := by decide +kernel
theorem dX7_sell_75 : decode cX7_sell 75 = .ok (.dup, 1) := by decide +kernel
theorem dX7_sell_76 : decode cX7_sell 76 = .ok (.getfield 208, 3) := by decide +kernel
theorem dX7_sell_79 : decode cX7_sell 79 = .ok (.iconst 1, 1) := by decide +kernel
theorem dX7_sell_80 : decode cX7_sell 80 = .ok (.iadd, 1) := by decide +kernel
theorem dX7_sell_81 : decode cX7_sell 81 = .ok (.putfield 208, 3) := by decide +kernel
theorem dX7_sell_84 : decode cX7_sell 84 = .ok (.aload_n 0, 1) := by decide +kernel
theorem dX7_sell_85 : decode cX7_sell 85 = .ok (.getfield 42, 3) := by decide +kernel
theorem dX7_sell_88 : decode cX7_sell 88 = .ok (.iload_n 2, 1) := by decide +kernel
theorem dX7_sell_89 : decode cX7_sell 89 = .ok (.dup2, 1) := by decide +kernel
theorem dX7_sell_90 : decode cX7_sell 90 = .ok (.iaload, 1) := by decide +kernel
theorem dX7_sell_91 : decode cX7_sell 91 = .ok (.aload_n 3, 1) := by decide +kernel
theorem dX7_sell_92 : decode cX7_sell 92 = .ok (.getfield 244, 3) := by decide +kernel
theorem dX7_sell_95 : decode cX7_sell 95 = .ok (.isub, 1) := by decide +kernel
theorem dX7_sell_96 : decode cX7_sell 96 = .ok (.iastore, 1) := by decide +kernel
theorem dX7_sell_97 : decode cX7_sell 97 = .ok (.aload_n 0, 1) := by decide +kernel
theorem dX7_sell_98 : decode cX7_sell 98 = .ok (.dup, 1) := by decide +kernel
theorem dX7_sell_99 : decode cX7_sell 99 = .ok (.getfield 257, 3) := by decide +kernel
theorem dX7_sell_102 : decode cX7_sell 102 = .ok (.iload 5, 2) := by decide +kernel
theorem dX7_sell_104 : decode cX7_sell 104 = .ok (.iadd, 1) := by decide +kernel
theorem dX7_sell_105 : decode cX7_sell 105 = .ok (.putfield 257, 3) := by decide +kernel
theorem dX7_sell_108 : decode cX7_sell 108 = .ok (.aload_n 0, 1) := by decide +kernel
theorem dX7_sell_109 : decode cX7_sell 109 = .ok (.new 260, 3) := by decide +kernel
theorem dX7_sell_112 : decode cX7_sell 112 = .ok (.dup, 1) := by decide +kernel
theorem dX7_sell_113 : decode cX7_sell 113 = .ok (.iload_n 1, 1) := by decide +kernel
theorem dX7_sell_114 : decode cX7_sell 114 = .ok (.iconst (-1), 1) := by decide +kernel
theorem dX7_sell_115 : decode cX7_sell 115 = .ok (.aload_n 3, 1) := by decide +kernel
theorem dX7_sell_116 : decode cX7_sell 116 = .ok (.getfield 244, 3) := by decide +kernel
theorem dX7_sell_119 : decode cX7_sell 119 = .ok (.iload 5, 2) := by decide +kernel
theorem dX7_sell_121 : decode cX7_sell 121 = .ok (.isub, 1) := by decide +kernel
theorem dX7_sell_122 : decode cX7_sell 122 = .ok (.invokespecial 262, 3) := by decide +kernel
theorem dX7_sell_125 : decode cX7_sell 125 = .ok (.invokevirtual 264, 3) := by decide +kernel
theorem dX7_sell_128 : decode cX7_sell 128 = .ok (.iload 4, 2) := by decide +kernel
theorem dX7_sell_130 : decode cX7_sell 130 = .ok (.ireturn, 1) := by decide +kernel
theorem dX7_resell_0 : decode cX7_resell 0 = .ok (.aload_n 0, 1) := by decide +kernel
theorem dX7_resell_1 : decode cX7_resell 1 = .ok (.iload_n 1, 1) := by decide +kernel
theorem dX7_resell_2 : decode cX7_resell 2 = .ok (.iload_n 2, 1) := by decide +kernel
theorem dX7_resell_3 : decode cX7_resell 3 = .ok (.invokevirtual 268, 3) := by decide +kernel
theorem dX7_resell_6 : decode cX7_resell 6 = .ok (.astore 5, 2) := by decide +kernel
theorem dX7_resell_8 : decode cX7_resell 8 = .ok (.iload_n 3, 1) := by decide +kernel
theorem dX7_resell_9 : decode cX7_resell 9 = .ok (.invokestatic 236, 3) := by decide +kernel
theorem dX7_resell_12 : decode cX7_resell 12 = .ok (.iload 4, 2) := by decide +kernel
theorem dX7_resell_14 : decode cX7_resell 14 = .ok (.iconst 0, 1) := by decide +kernel
theorem dX7_resell_15 : decode cX7_resell 15 = .ok (.ldc 172, 2) := by decide +kernel
theorem dX7_resell_17 : decode cX7_resell 17 = .ok (.invokestatic 53, 3) := by decide +kernel
theorem dX7_resell_20 : decode cX7_resell 20 = .ok (.aload 5, 2) := by decide +kernel
theorem dX7_resell_22 : decode cX7_resell 22 = .ok (.getfield 272, 3) := by decide +kernel
theorem dX7_resell_25 : decode cX7_resell 25 = .ok (.iconst 1, 1) := by decide +kernel
theorem dX7_resell_26 : decode cX7_resell 26 = .ok (.if_icmp .ne 12, 3) := by decide +kernel
theorem dX7_resell_29 : decode cX7_resell 29 = .ok (.aload 5, 2) := by decide +kernel
theorem dX7_resell_31 : decode cX7_resell 31 = .ok (.getfield 275, 3) := by decide +kernel
theorem dX7_resell_34 : decode cX7_resell 34 = .ok (.iload_n 3, 1) := by decide +kernel
theorem dX7_resell_35 : decode cX7_resell 35 = .ok (.if_icmp .ne 14, 3) := by decide +kernel
theorem dX7_resell_38 : decode cX7_resell 38 = .ok (.new 61, 3) := by decide +kernel
theorem dX7_resell_41 : decode cX7_resell 41 = .ok (.dup, 1) := by decide +kernel
theorem dX7_resell_42 : decode cX7_resell 42 = .ok (.ldc_w 278, 3) := by decide +kernel
theorem dX7_resell_45 : decode cX7_resell 45 = .ok (.invokespecial 65, 3) := by decide +kernel
theorem dX7_resell_48 : decode cX7_resell 48 = .ok (.athrow, 1) := by decide +kernel
theorem dX7_resell_49 : decode cX7_resell 49 = .ok (.iload 4, 2) := by decide +kernel
theorem dX7_resell_51 : decode cX7_resell 51 = .ok (.iconst 5, 1) := by decide +kernel
theorem dX7_resell_52 : decode cX7_resell 52 = .ok (.idiv, 1) := by decide +kernel
theorem dX7_resell_53 : decode cX7_resell 53 = .ok (.istore 6, 2) := by decide +kernel
theorem dX7_resell_55 : decode cX7_resell 55 = .ok (.aload_n 0, 1) := by decide +kernel
theorem dX7_resell_56 : decode cX7_resell 56 = .ok (.aload 5, 2) := by decide +kernel
theorem dX7_resell_58 : decode cX7_resell 58 = .ok (.getfield 275, 3) := by decide +kernel
theorem dX7_resell_61 : decode cX7_resell 61 = .ok (.iload 4, 2) := by decide +kernel
theorem dX7_resell_63 : decode cX7_resell 63 = .ok (.iload 6, 2) := by decide +kernel
theorem dX7_resell_65 : decode cX7_resell 65 = .ok (.isub, 1) := by decide +kernel
theorem dX7_resell_66 : decode cX7_resell 66 = .ok (.invokevirtual 280, 3) := by decide +kernel
theorem dX7_resell_69 : decode cX7_resell 69 = .ok (.aload_n 0, 1) := by decide +kernel
theorem dX7_resell_70 : decode cX7_resell 70 = .ok (.iload_n 3, 1) := by decide +kernel
theorem dX7_resell_71 : decode cX7_resell 71 = .ok (.iload 4, 2) := by decide +kernel
theorem dX7_resell_73 : decode cX7_resell 73 = .ok (.ineg, 1) := by decide +kernel
theorem dX7_resell_74 : decode cX7_resell 74 = .ok (.invokevirtual 280, 3) := by decide +kernel
theorem dX7_resell_77 : decode cX7_resell 77 = .ok (.aload 5, 2) := by decide +kernel
theorem dX7_resell_79 : decode cX7_resell 79 = .ok (.iload_n 3, 1) := by decide +kernel
theorem dX7_resell_80 : decode cX7_resell 80 = .ok (.iload 4, 2) := by decide +kernel
theorem dX7_resell_82 : decode cX7_resell 82 = .ok (.invokevirtual 253, 3) := by decide +kernel
theorem dX7_resell_85 : decode cX7_resell 85 = .ok (.aload_n 0, 1) := by decide +kernel
theorem dX7_resell_86 : decode cX7_resell 86 = .ok (.new 260, 3) := by decide +kernel
theorem dX7_resell_89 : decode cX7_resell 89 = .ok (.dup, 1) := by decide +kernel
theorem dX7_resell_90 : decode cX7_resell 90 = .ok (.iload_n 1, 1) := by decide +kernel
theorem dX7_resell_91 : decode cX7_resell 91 = .ok (.iconst (-1), 1) := by decide +kernel
theorem dX7_resell_92 : decode cX7_resell 92 = .ok (.iload 6, 2) := by decide +kernel
theorem dX7_resell_94 : decode cX7_resell 94 = .ok (.invokespecial 262, 3) := by decide +kernel
theorem dX7_resell_97 : decode cX7_resell 97 = .ok (.invokevirtual 264, 3) := by decide +kernel
theorem dX7_resell_100 : decode cX7_resell 100 = .ok (.iload 6, 2) := by decide +kernel
theorem dX7_resell_102 : decode cX7_resell 102 = .ok (.ireturn, 1) := by decide +kernel
theorem dX7_takeDown_0 : decode cX7_takeDown 0 = .ok (.aload_n 0, 1) := by decide +kernel
theorem dX7_takeDown_1 : decode cX7_takeDown 1 = .ok (.iload_n 1, 1) := by decide +kernel
theorem dX7_takeDown_2 : decode cX7_takeDown 2 = .ok (.invokevirtual 86, 3) := by decide +kernel
theorem dX7_takeDown_5 : decode cX7_takeDown 5 = .ok (.aload_n 0, 1) := by decide +kernel
theorem dX7_takeDown_6 : decode cX7_takeDown 6 = .ok (.iload_n 1, 1) := by decide +kernel
theorem dX7_takeDown_7 : decode cX7_takeDown 7 = .ok (.invokevirtual 283, 3) := by decide +kernel
theorem dX7_takeDown_10 : decode cX7_takeDown 10 = .ok (.ifCond .eq 14, 3) := by decide +kernel
theorem dX7_takeDown_13 : decode cX7_takeDown 13 = .ok (.new 61, 3) := by decide +kernel
theorem dX7_takeDown_16 : decode cX7_takeDown 16 = .ok (.dup, 1) := by decide +kernel
theorem dX7_takeDown_17 : decode cX7_takeDown 17 = .ok (.ldc_w 286, 3) := by decide +kernel
theorem dX7_takeDown_20 : decode cX7_takeDown 20 = .ok (.invokespecial 65, 3) := by decide +kernel
theorem dX7_takeDown_23 : decode cX7_takeDown 23 = .ok (.athrow, 1) := by decide +kernel
theorem dX7_takeDown_24 : decode cX7_takeDown 24 = .ok (.aload_n 0, 1) := by decide +kernel
theorem dX7_takeDown_25 : decode cX7_takeDown 25 = .ok (.getfield 10, 3) := by decide +kernel
theorem dX7_takeDown_28 : decode cX7_takeDown 28 = .ok (.iload_n 1, 1) := by decide +kernel
theorem dX7_takeDown_29 : decode cX7_takeDown 29 = .ok (.invokevirtual 247, 3) := by decide +kernel
theorem dX7_takeDown_32 : decode cX7_takeDown 32 = .ok (.checkcast 68, 3) := by decide +kernel
theorem dX7_takeDown_35 : decode cX7_takeDown 35 = .ok (.getfield 288, 3) := by decide +kernel
theorem dX7_takeDown_38 : decode cX7_takeDown 38 = .ok (.istore_n 2, 1) := by decide +kernel
theorem dX7_takeDown_39 : decode cX7_takeDown 39 = .ok (.iconst 0, 1) := by decide +kernel
theorem dX7_takeDown_40 : decode cX7_takeDown 40 = .ok (.istore_n 3, 1) := by decide +kernel
theorem dX7_takeDown_41 : decode cX7_takeDown 41 = .ok (.iconst 0, 1) := by decide +kernel
theorem dX7_takeDown_42 : decode cX7_takeDown 42 = .ok (.istore 4, 2) := by decide +kernel
theorem dX7_takeDown_44 : decode cX7_takeDown 44 = .ok (.iload 4, 2) := by decide +kernel
theorem dX7_takeDown_46 : decode cX7_takeDown 46 = .ok (.aload_n 0, 1) := by decide +kernel
theorem dX7_takeDown_47 : decode cX7_takeDown 47 = .ok (.getfield 19, 3) := by decide +kernel
theorem dX7_takeDown_50 : decode cX7_takeDown 50 = .ok (.invokevirtual 57, 3) := by decide +kernel
theorem dX7_takeDown_53 : decode cX7_takeDown 53 = .ok (.if_icmp .ge 53, 3) := by decide +kernel
theorem dX7_takeDown_56 : decode cX7_takeDown 56 = .ok (.aload_n 0, 1) := by decide +kernel
theorem dX7_takeDown_57 : decode cX7_takeDown 57 = .ok (.getfield 19, 3) := by decide +kernel
theorem dX7_takeDown_60 : decode cX7_takeDown 60 = .ok (.iload 4, 2) := by decide +kernel
theorem dX7_takeDown_62 : decode cX7_takeDown 62 = .ok (.invokevirtual 247, 3) := by decide +kernel
theorem dX7_takeDown_65 : decode cX7_takeDown 65 = .ok (.checkcast 183, 3) := by decide +kernel
theorem dX7_takeDown_68 : decode cX7_takeDown 68 = .ok (.astore 5, 2) := by decide +kernel
theorem dX7_takeDown_70 : decode cX7_takeDown 70 = .ok (.aload 5, 2) := by decide +kernel
theorem dX7_takeDown_72 : decode cX7_takeDown 72 = .ok (.getfield 217, 3) := by decide +kernel
theorem dX7_takeDown_75 : decode cX7_takeDown 75 = .ok (.aload 5, 2) := by decide +kernel
theorem dX7_takeDown_77 : decode cX7_takeDown 77 = .ok (.getfield 191, 3) := by decide +kernel
theorem dX7_takeDown_80 : decode cX7_takeDown 80 = .ok (.iload_n 1, 1) := by decide +kernel
theorem dX7_takeDown_81 : decode cX7_takeDown 81 = .ok (.aload_n 0, 1) := by decide +kernel
theorem dX7_takeDown_82 : decode cX7_takeDown 82 = .ok (.getfield 165, 3) := by decide +kernel
theorem dX7_takeDown_85 : decode cX7_takeDown 85 = .ok (.invokevirtual 291, 3) := by decide +kernel
theorem dX7_takeDown_88 : decode cX7_takeDown 88 = .ok (.ifCond .le 12, 3) := by decide +kernel
theorem dX7_takeDown_91 : decode cX7_takeDown 91 = .ok (.iload_n 3, 1) := by decide +kernel
theorem dX7_takeDown_92 : decode cX7_takeDown 92 = .ok (.aload 5, 2) := by decide +kernel
theorem dX7_takeDown_94 : decode cX7_takeDown 94 = .ok (.iload_n 2, 1) := by decide +kernel
theorem dX7_takeDown_95 : decode cX7_takeDown 95 = .ok (.invokevirtual 295, 3) := by decide +kernel
theorem dX7_takeDown_98 : decode cX7_takeDown 98 = .ok (.iadd, 1) := by decide +kernel
theorem dX7_takeDown_99 : decode cX7_takeDown 99 = .ok (.istore_n 3, 1) := by decide +kernel
theorem dX7_takeDown_100 : decode cX7_takeDown 100 = .ok (.iinc 4 1, 3) := by decide +kernel
theorem dX7_takeDown_103 : decode cX7_takeDown 103 = .ok (.goto (-59), 3) := by decide +kernel
theorem dX7_takeDown_106 : decode cX7_takeDown 106 = .ok (.aload_n 0, 1) := by decide +kernel
theorem dX7_takeDown_107 : decode cX7_takeDown 107 = .ok (.dup, 1) := by decide +kernel
theorem dX7_takeDown_108 : decode cX7_takeDown 108 = .ok (.getfield 165, 3) := by decide +kernel
theorem dX7_takeDown_111 : decode cX7_takeDown 111 = .ok (.iload_n 1, 1) := by decide +kernel
theorem dX7_takeDown_112 : decode cX7_takeDown 112 = .ok (.invokestatic 298, 3) := by decide +kernel
theorem dX7_takeDown_115 : decode cX7_takeDown 115 = .ok (.lor, 1) := by decide +kernel
theorem dX7_takeDown_116 : decode cX7_takeDown 116 = .ok (.putfield 165, 3) := by decide +kernel
theorem dX7_takeDown_119 : decode cX7_takeDown 119 = .ok (.iload_n 3, 1) := by decide +kernel
theorem dX7_takeDown_120 : decode cX7_takeDown 120 = .ok (.ireturn, 1) := by decide +kernel
theorem dX7_accept_0 : decode cX7_accept 0 = .ok (.aload_n 0, 1) := by decide +kernel
theorem dX7_accept_1 : decode cX7_accept 1 = .ok (.iload_n 1, 1) := by decide +kernel
theorem dX7_accept_2 : decode cX7_accept 2 = .ok (.iload_n 2, 1) := by decide +kernel
theorem dX7_accept_3 : decode cX7_accept 3 = .ok (.invokevirtual 302, 3) := by decide +kernel
theorem dX7_accept_6 : decode cX7_accept 6 = .ok (.astore_n 3, 1) := by decide +kernel
theorem dX7_accept_7 : decode cX7_accept 7 = .ok (.aload_n 3, 1) := by decide +kernel
theorem dX7_accept_8 : decode cX7_accept 8 = .ok (.iconst 1, 1) := by decide +kernel
theorem dX7_accept_9 : decode cX7_accept 9 = .ok (.putfield 272, 3) := by decide +kernel
theorem dX7_accept_12 : decode cX7_accept 12 = .ok (.aload_n 3, 1) := by decide +kernel
theorem dX7_accept_13 : decode cX7_accept 13 = .ok (.getfield 275, 3) := by decide +kernel
theorem dX7_accept_16 : decode cX7_accept 16 = .ok (.ireturn, 1) := by decide +kernel
theorem dX7_giveBack_0 : decode cX7_giveBack 0 = .ok (.aload_n 0, 1) := by decide +kernel
theorem dX7_giveBack_1 : decode cX7_giveBack 1 = .ok (.iload_n 1, 1) := by decide +kernel
theorem dX7_giveBack_2 : decode cX7_giveBack 2 = .ok (.iload_n 2, 1) := by decide +kernel
theorem dX7_giveBack_3 : decode cX7_giveBack 3 = .ok (.invokevirtual 302, 3) := by decide +kernel
theorem dX7_giveBack_6 : decode cX7_giveBack 6 = .ok (.astore_n 3, 1) := by decide +kernel
theorem dX7_giveBack_7 : decode cX7_giveBack 7 = .ok (.aload_n 3, 1) := by decide +kernel
theorem dX7_giveBack_8 : decode cX7_giveBack 8 = .ok (.getfield 305, 3) := by decide +kernel
theorem dX7_giveBack_11 : decode cX7_giveBack 11 = .ok (.istore 4, 2) := by decide +kernel
theorem dX7_giveBack_13 : decode cX7_giveBack 13 = .ok (.aload_n 0, 1) := by decide +kernel
theorem dX7_giveBack_14 : decode cX7_giveBack 14 = .ok (.aload_n 3, 1) := by decide +kernel
theorem dX7_giveBack_15 : decode cX7_giveBack 15 = .ok (.getfield 275, 3) := by decide +kernel
theorem dX7_giveBack_18 : decode cX7_giveBack 18 = .ok (.iload 4, 2) := by decide +kernel
theorem dX7_giveBack_20 : decode cX7_giveBack 20 = .ok (.invokevirtual 280, 3) := by decide +kernel
theorem dX7_giveBack_23 : decode cX7_giveBack 23 = .ok (.aload_n 0, 1) := by decide +kernel
theorem dX7_giveBack_24 : decode cX7_giveBack 24 = .ok (.new 260, 3) := by decide +kernel
theorem dX7_giveBack_27 : decode cX7_giveBack 27 = .ok (.dup, 1) := by decide +kernel
theorem dX7_giveBack_28 : decode cX7_giveBack 28 = .ok (.iconst (-1), 1) := by decide +kernel
theorem dX7_giveBack_29 : decode cX7_giveBack 29 = .ok (.aload_n 3, 1) := by decide +kernel
theorem dX7_giveBack_30 : decode cX7_giveBack 30 = .ok (.getfield 308, 3) := by decide +kernel
theorem dX7_giveBack_33 : decode cX7_giveBack 33 = .ok (.iload 4, 2) := by decide +kernel
theorem dX7_giveBack_35 : decode cX7_giveBack 35 = .ok (.ineg, 1) := by decide +kernel
theorem dX7_giveBack_36 : decode cX7_giveBack 36 = .ok (.invokespecial 262, 3) := by decide +kernel
theorem dX7_giveBack_39 : decode cX7_giveBack 39 = .ok (.invokevirtual 264, 3) := by decide +kernel
theorem dX7_giveBack_42 : decode cX7_giveBack 42 = .ok (.aload_n 3, 1) := by decide +kernel
theorem dX7_giveBack_43 : decode cX7_giveBack 43 = .ok (.iconst 3, 1) := by decide +kernel
theorem dX7_giveBack_44 : decode cX7_giveBack 44 = .ok (.putfield 272, 3) := by decide +kernel
theorem dX7_giveBack_47 : decode cX7_giveBack 47 = .ok (.aload_n 3, 1) := by decide +kernel
theorem dX7_giveBack_48 : decode cX7_giveBack 48 = .ok (.iconst (-1), 1) := by decide +kernel
theorem dX7_giveBack_49 : decode cX7_giveBack 49 = .ok (.putfield 275, 3) := by decide +kernel
theorem dX7_giveBack_52 : decode cX7_giveBack 52 = .ok (.iload 4, 2) := by decide +kernel
theorem dX7_giveBack_54 : decode cX7_giveBack 54 = .ok (.ireturn, 1) := by decide +kernel
theorem dX7_copyState_0 : decode cX7_copyState 0 = .ok (.aload_n 0, 1) := by decide +kernel
theorem dX7_copyState_1 : decode cX7_copyState 1 = .ok (.iload_n 1, 1) := by decide +kernel
theorem dX7_copyState_2 : decode cX7_copyState 2 = .ok (.iload_n 2, 1) := by decide +kernel
theorem dX7_copyState_3 : decode cX7_copyState 3 = .ok (.invokevirtual 268, 3) := by decide +kernel
theorem dX7_copyState_6 : decode cX7_copyState 6 = .ok (.getfield 272, 3) := by decide +kernel
theorem dX7_copyState_9 : decode cX7_copyState 9 = .ok (.ireturn, 1) := by decide +kernel
theorem dX7_owner_0 : decode cX7_owner 0 = .ok (.aload_n 0, 1) := by decide +kernel
theorem dX7_owner_1 : decode cX7_owner 1 = .ok (.iload_n 1, 1) := by decide +kernel
theorem dX7_owner_2 : decode cX7_owner 2 = .ok (.iload_n 2, 1) := by decide +kernel
theorem dX7_owner_3 : decode cX7_owner 3 = .ok (.invokevirtual 268, 3) := by decide +kernel
theorem dX7_owner_6 : decode cX7_owner 6 = .ok (.getfield 275, 3) := by decide +kernel
theorem dX7_owner_9 : decode cX7_owner 9 = .ok (.ireturn, 1) := by decide +kernel
theorem dX7_money_0 : decode cX7_money 0 = .ok (.iload_n 1, 1) := by decide +kernel
theorem dX7_money_1 : decode cX7_money 1 = .ok (.invokestatic 45, 3) := by decide +kernel
theorem dX7_money_4 : decode cX7_money 4 = .ok (.aload_n 0, 1) := by decide +kernel
theorem dX7_money_5 : decode cX7_money 5 = .ok (.getfield 35, 3) := by decide +kernel
theorem dX7_money_8 : decode cX7_money 8 = .ok (.iload_n 1, 1) := by decide +kernel
theorem dX7_money_9 : decode cX7_money 9 = .ok (.iaload, 1) := by decide +kernel
theorem dX7_money_10 : decode cX7_money 10 = .ok (.ireturn, 1) := by decide +kernel
theorem dX7_moneyAnew_0 : decode cX7_moneyAnew 0 = .ok (.iload_n 1, 1) := by decide +kernel
theorem dX7_moneyAnew_1 : decode cX7_moneyAnew 1 = .ok (.invokestatic 45, 3) := by decide +kernel
theorem dX7_moneyAnew_4 : decode cX7_moneyAnew 4 = .ok (.aload_n 0, 1) := by decide +kernel
theorem dX7_moneyAnew_5 : decode cX7_moneyAnew 5 = .ok (.getfield 39, 3) := by decide +kernel
theorem dX7_moneyAnew_8 : decode cX7_moneyAnew 8 = .ok (.iconst 0, 1) := by decide +kernel
theorem dX7_moneyAnew_9 : decode cX7_moneyAnew 9 = .ok (.invokestatic 311, 3) := by decide +kernel
theorem dX7_moneyAnew_12 : decode cX7_moneyAnew 12 = .ok (.iconst 0, 1) := by decide +kernel
theorem dX7_moneyAnew_13 : decode cX7_moneyAnew 13 = .ok (.istore_n 2, 1) := by decide +kernel
theorem dX7_moneyAnew_14 : decode cX7_moneyAnew 14 = .ok (.iload_n 2, 1) := by decide +kernel
theorem dX7_moneyAnew_15 : decode cX7_moneyAnew 15 = .ok (.aload_n 0, 1) := by decide +kernel
theorem dX7_moneyAnew_16 : decode cX7_moneyAnew 16 = .ok (.getfield 22, 3) := by decide +kernel
theorem dX7_moneyAnew_19 : decode cX7_moneyAnew 19 = .ok (.invokevirtual 57, 3) := by decide +kernel
theorem dX7_moneyAnew_22 : decode cX7_moneyAnew 22 = .ok (.if_icmp .ge 28, 3) := by decide +kernel
theorem dX7_moneyAnew_25 : decode cX7_moneyAnew 25 = .ok (.aload_n 0, 1) := by decide +kernel
theorem dX7_moneyAnew_26 : decode cX7_moneyAnew 26 = .ok (.aload_n 0, 1) := by decide +kernel
theorem dX7_moneyAnew_27 : decode cX7_moneyAnew 27 = .ok (.getfield 22, 3) := by decide +kernel
theorem dX7_moneyAnew_30 : decode cX7_moneyAnew 30 = .ok (.iload_n 2, 1) := by decide +kernel
theorem dX7_moneyAnew_31 : decode cX7_moneyAnew 31 = .ok (.invokevirtual 247, 3) := by decide +kernel
theorem dX7_moneyAnew_34 : decode cX7_moneyAnew 34 = .ok (.checkcast 260, 3) := by decide +kernel
theorem dX7_moneyAnew_37 : decode cX7_moneyAnew 37 = .ok (.aload_n 0, 1) := by decide +kernel
theorem dX7_moneyAnew_38 : decode cX7_moneyAnew 38 = .ok (.getfield 39, 3) := by decide +kernel
theorem dX7_moneyAnew_41 : decode cX7_moneyAnew 41 = .ok (.invokevirtual 317, 3) := by decide +kernel
theorem dX7_moneyAnew_44 : decode cX7_moneyAnew 44 = .ok (.iinc 2 1, 3) := by decide +kernel
theorem dX7_moneyAnew_47 : decode cX7_moneyAnew 47 = .ok (.goto (-33), 3) := by decide +kernel
theorem dX7_moneyAnew_50 : decode cX7_moneyAnew 50 = .ok (.aload_n 0, 1) := by decide +kernel
theorem dX7_moneyAnew_51 : decode cX7_moneyAnew 51 = .ok (.getfield 39, 3) := by decide +kernel
theorem dX7_moneyAnew_54 : decode cX7_moneyAnew 54 = .ok (.iload_n 1, 1) := by decide +kernel
theorem dX7_moneyAnew_55 : decode cX7_moneyAnew 55 = .ok (.iaload, 1) := by decide +kernel
theorem dX7_moneyAnew_56 : decode cX7_moneyAnew 56 = .ok (.ireturn, 1) := by decide +kernel
theorem dX7_purse_0 : decode cX7_purse 0 = .ok (.iload_n 1, 1) := by decide +kernel
theorem dX7_purse_1 : decode cX7_purse 1 = .ok (.invokestatic 236, 3) := by decide +kernel
theorem dX7_purse_4 : decode cX7_purse 4 = .ok (.aload_n 0, 1) := by decide +kernel
theorem dX7_purse_5 : decode cX7_purse 5 = .ok (.getfield 42, 3) := by decide +kernel
theorem dX7_purse_8 : decode cX7_purse 8 = .ok (.iload_n 1, 1) := by decide +kernel
theorem dX7_purse_9 : decode cX7_purse 9 = .ok (.iaload, 1) := by decide +kernel
theorem dX7_purse_10 : decode cX7_purse 10 = .ok (.ireturn, 1) := by decide +kernel
theorem dX7_house_0 : decode cX7_house 0 = .ok (.aload_n 0, 1) := by decide +kernel
theorem dX7_house_1 : decode cX7_house 1 = .ok (.getfield 257, 3) := by decide +kernel
theorem dX7_house_4 : decode cX7_house 4 = .ok (.ireturn, 1) := by decide +kernel
theorem dX7_checkHand_0 : decode cX7_checkHand 0 = .ok (.iload_n 0, 1) := by decide +kernel
theorem dX7_checkHand_1 : decode cX7_checkHand 1 = .ok (.ifCond .lt 9, 3) := by decide +kernel
theorem dX7_checkHand_4 : decode cX7_checkHand 4 = .ok (.iload_n 0, 1) := by decide +kernel
theorem dX7_checkHand_5 : decode cX7_checkHand 5 = .ok (.bipush 6, 2) := by decide +kernel
theorem dX7_checkHand_7 : decode cX7_checkHand 7 = .ok (.if_icmp .lt 14, 3) := by decide +kernel
theorem dX7_checkHand_10 : decode cX7_checkHand 10 = .ok (.new 321, 3) := by decide +kernel
theorem dX7_checkHand_13 : decode cX7_checkHand 13 = .ok (.dup, 1) := by decide +kernel
theorem dX7_checkHand_14 : decode cX7_checkHand 14 = .ok (.ldc_w 323, 3) := by decide +kernel
theorem dX7_checkHand_17 : decode cX7_checkHand 17 = .ok (.invokespecial 325, 3) := by decide +kernel
theorem dX7_checkHand_20 : decode cX7_checkHand 20 = .ok (.athrow, 1) := by decide +kernel
theorem dX7_checkHand_21 : decode cX7_checkHand 21 = .ok (.return_, 1) := by decide +kernel
theorem dX7_checkBuyer_0 : decode cX7_checkBuyer 0 = .ok (.iload_n 0, 1) := by decide +kernel
theorem dX7_checkBuyer_1 : decode cX7_checkBuyer 1 = .ok (.ifCond .lt 9, 3) := by decide +kernel
theorem dX7_checkBuyer_4 : decode cX7_checkBuyer 4 = .ok (.iload_n 0, 1) := by decide +kernel
theorem dX7_checkBuyer_5 : decode cX7_checkBuyer 5 = .ok (.bipush 8, 2) := by decide +kernel
theorem dX7_checkBuyer_7 : decode cX7_checkBuyer 7 = .ok (.if_icmp .lt 14, 3) := by decide +kernel
theorem dX7_checkBuyer_10 : decode cX7_checkBuyer 10 = .ok (.new 321, 3) := by decide +kernel
theorem dX7_checkBuyer_13 : decode cX7_checkBuyer 13 = .ok (.dup, 1) := by decide +kernel
theorem dX7_checkBuyer_14 : decode cX7_checkBuyer 14 = .ok (.ldc_w 326, 3) := by decide +kernel
theorem dX7_checkBuyer_17 : decode cX7_checkBuyer 17 = .ok (.invokespecial 325, 3) := by decide +kernel
theorem dX7_checkBuyer_20 : decode cX7_checkBuyer 20 = .ok (.athrow, 1) := by decide +kernel
theorem dX7_checkBuyer_21 : decode cX7_checkBuyer 21 = .ok (.return_, 1) := by decide +kernel
theorem dX7_checkCell_0 : decode cX7_checkCell 0 = .ok (.iload_n 0, 1) := by decide +kernel
theorem dX7_checkCell_1 : decode cX7_checkCell 1 = .ok (.ifCond .lt 17, 3) := by decide +kernel
theorem dX7_checkCell_4 : decode cX7_checkCell 4 = .ok (.iload_n 0, 1) := by decide +kernel
theorem dX7_checkCell_5 : decode cX7_checkCell 5 = .ok (.iload_n 2, 1) := by decide +kernel
theorem dX7_checkCell_6 : decode cX7_checkCell 6 = .ok (.if_icmp .ge 12, 3) := by decide +kernel
theorem dX7_checkCell_9 : decode cX7_checkCell 9 = .ok (.iload_n 1, 1) := by decide +kernel
theorem dX7_checkCell_10 : decode cX7_checkCell 10 = .ok (.ifCond .lt 8, 3) := by decide +kernel
theorem dX7_checkCell_13 : decode cX7_checkCell 13 = .ok (.iload_n 1, 1) := by decide +kernel
theorem dX7_checkCell_14 : decode cX7_checkCell 14 = .ok (.iload_n 3, 1) := by decide +kernel
theorem dX7_checkCell_15 : decode cX7_checkCell 15 = .ok (.if_icmp .lt 14, 3) := by decide +kernel
theorem dX7_checkCell_18 : decode cX7_checkCell 18 = .ok (.new 321, 3) := by decide +kernel
theorem dX7_checkCell_21 : decode cX7_checkCell 21 = .ok (.dup, 1) := by decide +kernel
theorem dX7_checkCell_22 : decode cX7_checkCell 22 = .ok (.ldc_w 328, 3) := by decide +kernel
theorem dX7_checkCell_25 : decode cX7_checkCell 25 = .ok (.invokespecial 325, 3) := by decide +kernel
theorem dX7_checkCell_28 : decode cX7_checkCell 28 = .ok (.athrow, 1) := by decide +kernel
theorem dX7_checkCell_29 : decode cX7_checkCell 29 = .ok (.return_, 1) := by decide +kernel
theorem dX7_checkRange_0 : decode cX7_checkRange 0 = .ok (.iload_n 0, 1) := by decide +kernel
theorem dX7_checkRange_1 : decode cX7_checkRange 1 = .ok (.iload_n 1, 1) := by decide +kernel
theorem dX7_checkRange_2 : decode cX7_checkRange 2 = .ok (.if_icmp .lt 8, 3) := by decide +kernel
theorem dX7_checkRange_5 : decode cX7_checkRange 5 = .ok (.iload_n 0, 1) := by decide +kernel
theorem dX7_checkRange_6 : decode cX7_checkRange 6 = .ok (.iload_n 2, 1) := by decide +kernel
theorem dX7_checkRange_7 : decode cX7_checkRange 7 = .ok (.if_icmp .le 14, 3) := by decide +kernel
theorem dX7_checkRange_10 : decode cX7_checkRange 10 = .ok (.new 109, 3) := by decide +kernel
theorem dX7_checkRange_13 : decode cX7_checkRange 13 = .ok (.dup, 1) := by decide +kernel
theorem dX7_checkRange_14 : decode cX7_checkRange 14 = .ok (.ldc_w 330, 3) := by decide +kernel
theorem dX7_checkRange_17 : decode cX7_checkRange 17 = .ok (.invokespecial 113, 3) := by decide +kernel
theorem dX7_checkRange_20 : decode cX7_checkRange 20 = .ok (.athrow, 1) := by decide +kernel
theorem dX7_checkRange_21 : decode cX7_checkRange 21 = .ok (.return_, 1) := by decide +kernel
theorem dX7_checkRectangle_0 : decode cX7_checkRectangle 0 = .ok (.iload_n 0, 1) := by decide +kernel
theorem dX7_checkRectangle_1 : decode cX7_checkRectangle 1 = .ok (.iconst 0, 1) := by decide +kernel
theorem dX7_checkRectangle_2 : decode cX7_checkRectangle 2 = .ok (.bipush 23, 2) := by decide +kernel
theorem dX7_checkRectangle_4 : decode cX7_checkRectangle 4 = .ok (.invokestatic 53, 3) := by decide +kernel
theorem dX7_checkRectangle_7 : decode cX7_checkRectangle 7 = .ok (.iload_n 1, 1) := by decide +kernel
theorem dX7_checkRectangle_8 : decode cX7_checkRectangle 8 = .ok (.iconst 0, 1) := by decide +kernel
theorem dX7_checkRectangle_9 : decode cX7_checkRectangle 9 = .ok (.bipush 15, 2) := by decide +kernel
theorem dX7_checkRectangle_11 : decode cX7_checkRectangle 11 = .ok (.invokestatic 53, 3) := by decide +kernel
theorem dX7_checkRectangle_14 : decode cX7_checkRectangle 14 = .ok (.iload_n 2, 1) := by decide +kernel
theorem dX7_checkRectangle_15 : decode cX7_checkRectangle 15 = .ok (.iconst 1, 1) := by decide +kernel
theorem dX7_checkRectangle_16 : decode cX7_checkRectangle 16 = .ok (.bipush 24, 2) := by decide +kernel
theorem dX7_checkRectangle_18 : decode cX7_checkRectangle 18 = .ok (.iload_n 0, 1) := by decide +kernel
theorem dX7_checkRectangle_19 : decode cX7_checkRectangle 19 = .ok (.isub, 1) := by decide +kernel
theorem dX7_checkRectangle_20 : decode cX7_checkRectangle 20 = .ok (.invokestatic 53, 3) := by decide +kernel
theorem dX7_checkRectangle_23 : decode cX7_checkRectangle 23 = .ok (.iload_n 3, 1) := by decide +kernel
theorem dX7_checkRectangle_24 : decode cX7_checkRectangle 24 = .ok (.iconst 1, 1) := by decide +kernel
theorem dX7_checkRectangle_25 : decode cX7_checkRectangle 25 = .ok (.bipush 16, 2) := by decide +kernel
theorem dX7_checkRectangle_27 : decode cX7_checkRectangle 27 = .ok (.iload_n 1, 1) := by decide +kernel
theorem dX7_checkRectangle_28 : decode cX7_checkRectangle 28 = .ok (.isub, 1) := by decide +kernel
theorem dX7_checkRectangle_29 : decode cX7_checkRectangle 29 = .ok (.invokestatic 53, 3) := by decide +kernel
theorem dX7_checkRectangle_32 : decode cX7_checkRectangle 32 = .ok (.return_, 1) := by decide +kernel
theorem dX7_checkShape_0 : decode cX7_checkShape 0 = .ok (.aload_n 0, 1) := by decide +kernel
theorem dX7_checkShape_1 : decode cX7_checkShape 1 = .ok (.iload_n 1, 1) := by decide +kernel
theorem dX7_checkShape_2 : decode cX7_checkShape 2 = .ok (.invokevirtual 332, 3) := by decide +kernel
theorem dX7_checkShape_5 : decode cX7_checkShape 5 = .ok (.ifCond .ne 14, 3) := by decide +kernel
theorem dX7_checkShape_8 : decode cX7_checkShape 8 = .ok (.new 321, 3) := by decide +kernel
theorem dX7_checkShape_11 : decode cX7_checkShape 11 = .ok (.dup, 1) := by decide +kernel
theorem dX7_checkShape_12 : decode cX7_checkShape 12 = .ok (.ldc_w 335, 3) := by decide +kernel
theorem dX7_checkShape_15 : decode cX7_checkShape 15 = .ok (.invokespecial 325, 3) := by decide +kernel
theorem dX7_checkShape_18 : decode cX7_checkShape 18 = .ok (.athrow, 1) := by decide +kernel
theorem dX7_checkShape_19 : decode cX7_checkShape 19 = .ok (.return_, 1) := by decide +kernel
theorem dX7_checkCanAct_0 : decode cX7_checkCanAct 0 = .ok (.aload_n 0, 1) := by decide +kernel
theorem dX7_checkCanAct_1 : decode cX7_checkCanAct 1 = .ok (.getfield 28, 3) := by decide +kernel
theorem dX7_checkCanAct_4 : decode cX7_checkCanAct 4 = .ok (.iload_n 1, 1) := by decide +kernel
theorem dX7_checkCanAct_5 : decode cX7_checkCanAct 5 = .ok (.invokevirtual 143, 3) := by decide +kernel
theorem dX7_checkCanAct_8 : decode cX7_checkCanAct 8 = .ok (.ifCond .eq 24, 3) := by decide +kernel
theorem dX7_checkCanAct_11 : decode cX7_checkCanAct 11 = .ok (.aload_n 0, 1) := by decide +kernel
theorem dX7_checkCanAct_12 : decode cX7_checkCanAct 12 = .ok (.iload_n 1, 1) := by decide +kernel
theorem dX7_checkCanAct_13 : decode cX7_checkCanAct 13 = .ok (.invokevirtual 283, 3) := by decide +kernel
theorem dX7_checkCanAct_16 : decode cX7_checkCanAct 16 = .ok (.ifCond .ne 16, 3) := by decide +kernel
theorem dX7_checkCanAct_19 : decode cX7_checkCanAct 19 = .ok (.aload_n 0, 1) := by decide +kernel
theorem dX7_checkCanAct_20 : decode cX7_checkCanAct 20 = .ok (.getfield 16, 3) := by decide +kernel
theorem dX7_checkCanAct_23 : decode cX7_checkCanAct 23 = .ok (.invokevirtual 57, 3) := by decide +kernel
theorem dX7_checkCanAct_26 : decode cX7_checkCanAct 26 = .ok (.sipush 200, 3) := by decide +kernel
theorem dX7_checkCanAct_29 : decode cX7_checkCanAct 29 = .ok (.if_icmp .lt 14, 3) := by decide +kernel
theorem dX7_checkCanAct_32 : decode cX7_checkCanAct 32 = .ok (.new 61, 3) := by decide +kernel
theorem dX7_checkCanAct_35 : decode cX7_checkCanAct 35 = .ok (.dup, 1) := by decide +kernel
theorem dX7_checkCanAct_36 : decode cX7_checkCanAct 36 = .ok (.ldc_w 337, 3) := by decide +kernel
theorem dX7_checkCanAct_39 : decode cX7_checkCanAct 39 = .ok (.invokespecial 65, 3) := by decide +kernel
theorem dX7_checkCanAct_42 : decode cX7_checkCanAct 42 = .ok (.athrow, 1) := by decide +kernel
theorem dX7_checkCanAct_43 : decode cX7_checkCanAct 43 = .ok (.return_, 1) := by decide +kernel
theorem dX7_checkedAct_0 : decode cX7_checkedAct 0 = .ok (.iload_n 1, 1) := by decide +kernel
theorem dX7_checkedAct_1 : decode cX7_checkedAct 1 = .ok (.ifCond .lt 14, 3) := by decide +kernel
theorem dX7_checkedAct_4 : decode cX7_checkedAct 4 = .ok (.iload_n 1, 1) := by decide +kernel
theorem dX7_checkedAct_5 : decode cX7_checkedAct 5 = .ok (.aload_n 0, 1) := by decide +kernel
theorem dX7_checkedAct_6 : decode cX7_checkedAct 6 = .ok (.getfield 16, 3) := by decide +kernel
theorem dX7_checkedAct_9 : decode cX7_checkedAct 9 = .ok (.invokevirtual 57, 3) := by decide +kernel
theorem dX7_checkedAct_12 : decode cX7_checkedAct 12 = .ok (.if_icmp .lt 14, 3) := by decide +kernel
theorem dX7_checkedAct_15 : decode cX7_checkedAct 15 = .ok (.new 321, 3) := by decide +kernel
theorem dX7_checkedAct_18 : decode cX7_checkedAct 18 = .ok (.dup, 1) := by decide +kernel
theorem dX7_checkedAct_19 : decode cX7_checkedAct 19 = .ok (.ldc_w 339, 3) := by decide +kernel
theorem dX7_checkedAct_22 : decode cX7_checkedAct 22 = .ok (.invokespecial 325, 3) := by decide +kernel
theorem dX7_checkedAct_25 : decode cX7_checkedAct 25 = .ok (.athrow, 1) := by decide +kernel
theorem dX7_checkedAct_26 : decode cX7_checkedAct 26 = .ok (.aload_n 0, 1) := by decide +kernel
theorem dX7_checkedAct_27 : decode cX7_checkedAct 27 = .ok (.getfield 16, 3) := by decide +kernel
theorem dX7_checkedAct_30 : decode cX7_checkedAct 30 = .ok (.iload_n 1, 1) := by decide +kernel
theorem dX7_checkedAct_31 : decode cX7_checkedAct 31 = .ok (.invokevirtual 247, 3) := by decide +kernel
theorem dX7_checkedAct_34 : decode cX7_checkedAct 34 = .ok (.checkcast 77, 3) := by decide +kernel
theorem dX7_checkedAct_37 : decode cX7_checkedAct 37 = .ok (.areturn, 1) := by decide +kernel
theorem dX7_checkedEdition_0 : decode cX7_checkedEdition 0 = .ok (.aload_n 0, 1) := by decide +kernel
theorem dX7_checkedEdition_1 : decode cX7_checkedEdition 1 = .ok (.iload_n 1, 1) := by decide +kernel
theorem dX7_checkedEdition_2 : decode cX7_checkedEdition 2 = .ok (.invokevirtual 341, 3) := by decide +kernel
theorem dX7_checkedEdition_5 : decode cX7_checkedEdition 5 = .ok (.ifCond .ne 14, 3) := by decide +kernel
theorem dX7_checkedEdition_8 : decode cX7_checkedEdition 8 = .ok (.new 321, 3) := by decide +kernel
theorem dX7_checkedEdition_11 : decode cX7_checkedEdition 11 = .ok (.dup, 1) := by decide +kernel
theorem dX7_checkedEdition_12 : decode cX7_checkedEdition 12 = .ok (.ldc_w 344, 3) := by decide +kernel
theorem dX7_checkedEdition_15 : decode cX7_checkedEdition 15 = .ok (.invokespecial 325, 3) := by decide +kernel
theorem dX7_checkedEdition_18 : decode cX7_checkedEdition 18 = .ok (.athrow, 1) := by decide +kernel
theorem dX7_checkedEdition_19 : decode cX7_checkedEdition 19 = .ok (.aload_n 0, 1) := by decide +kernel
theorem dX7_checkedEdition_20 : decode cX7_checkedEdition 20 = .ok (.getfield 19, 3) := by decide +kernel
theorem dX7_checkedEdition_23 : decode cX7_checkedEdition 23 = .ok (.iload_n 1, 1) := by decide +kernel
theorem dX7_checkedEdition_24 : decode cX7_checkedEdition 24 = .ok (.invokevirtual 247, 3) := by decide +kernel
theorem dX7_checkedEdition_27 : decode cX7_checkedEdition 27 = .ok (.checkcast 183, 3) := by decide +kernel
theorem dX7_checkedEdition_30 : decode cX7_checkedEdition 30 = .ok (.areturn, 1) := by decide +kernel
theorem dX7_checkedCopy_0 : decode cX7_checkedCopy 0 = .ok (.aload_n 0, 1) := by decide +kernel
theorem dX7_checkedCopy_1 : decode cX7_checkedCopy 1 = .ok (.iload_n 1, 1) := by decide +kernel
theorem dX7_checkedCopy_2 : decode cX7_checkedCopy 2 = .ok (.invokevirtual 201, 3) := by decide +kernel
theorem dX7_checkedCopy_5 : decode cX7_checkedCopy 5 = .ok (.getfield 239, 3) := by decide +kernel
theorem dX7_checkedCopy_8 : decode cX7_checkedCopy 8 = .ok (.astore_n 3, 1) := by decide +kernel
theorem dX7_checkedCopy_9 : decode cX7_checkedCopy 9 = .ok (.iload_n 2, 1) := by decide +kernel
theorem dX7_checkedCopy_10 : decode cX7_checkedCopy 10 = .ok (.ifCond .lt 11, 3) := by decide +kernel
theorem dX7_checkedCopy_13 : decode cX7_checkedCopy 13 = .ok (.iload_n 2, 1) := by decide +kernel
theorem dX7_checkedCopy_14 : decode cX7_checkedCopy 14 = .ok (.aload_n 3, 1) := by decide +kernel
theorem dX7_checkedCopy_15 : decode cX7_checkedCopy 15 = .ok (.invokevirtual 57, 3) := by decide +kernel
theorem dX7_checkedCopy_18 : decode cX7_checkedCopy 18 = .ok (.if_icmp .lt 14, 3) := by decide +kernel
theorem dX7_checkedCopy_21 : decode cX7_checkedCopy 21 = .ok (.new 321, 3) := by decide +kernel
theorem dX7_checkedCopy_24 : decode cX7_checkedCopy 24 = .ok (.dup, 1) := by decide +kernel
theorem dX7_checkedCopy_25 : decode cX7_checkedCopy 25 = .ok (.ldc_w 346, 3) := by decide +kernel
theorem dX7_checkedCopy_28 : decode cX7_checkedCopy 28 = .ok (.invokespecial 325, 3) := by decide +kernel
theorem dX7_checkedCopy_31 : decode cX7_checkedCopy 31 = .ok (.athrow, 1) := by decide +kernel
theorem dX7_checkedCopy_32 : decode cX7_checkedCopy 32 = .ok (.aload_n 3, 1) := by decide +kernel
theorem dX7_checkedCopy_33 : decode cX7_checkedCopy 33 = .ok (.iload_n 2, 1) := by decide +kernel
theorem dX7_checkedCopy_34 : decode cX7_checkedCopy 34 = .ok (.invokevirtual 247, 3) := by decide +kernel
theorem dX7_checkedCopy_37 : decode cX7_checkedCopy 37 = .ok (.checkcast 251, 3) := by decide +kernel
theorem dX7_checkedCopy_40 : decode cX7_checkedCopy 40 = .ok (.areturn, 1) := by decide +kernel
theorem dX7_checkedChangedCopy_0 : decode cX7_checkedChangedCopy 0 = .ok (.aload_n 0, 1) := by decide +kernel
theorem dX7_checkedChangedCopy_1 : decode cX7_checkedChangedCopy 1 = .ok (.iload_n 1, 1) := by decide +kernel
theorem dX7_checkedChangedCopy_2 : decode cX7_checkedChangedCopy 2 = .ok (.iload_n 2, 1) := by decide +kernel
theorem dX7_checkedChangedCopy_3 : decode cX7_checkedChangedCopy 3 = .ok (.invokevirtual 268, 3) := by decide +kernel
theorem dX7_checkedChangedCopy_6 : decode cX7_checkedChangedCopy 6 = .ok (.astore_n 3, 1) := by decide +kernel
theorem dX7_checkedChangedCopy_7 : decode cX7_checkedChangedCopy 7 = .ok (.aload_n 3, 1) := by decide +kernel
theorem dX7_checkedChangedCopy_8 : decode cX7_checkedChangedCopy 8 = .ok (.getfield 272, 3) := by decide +kernel
theorem dX7_checkedChangedCopy_11 : decode cX7_checkedChangedCopy 11 = .ok (.iconst 2, 1) := by decide +kernel
theorem dX7_checkedChangedCopy_12 : decode cX7_checkedChangedCopy 12 = .ok (.if_icmp .eq 14, 3) := by decide +kernel
theorem dX7_checkedChangedCopy_15 : decode cX7_checkedChangedCopy 15 = .ok (.new 61, 3) := by decide +kernel
theorem dX7_checkedChangedCopy_18 : decode cX7_checkedChangedCopy 18 = .ok (.dup, 1) := by decide +kernel
theorem dX7_checkedChangedCopy_19 : decode cX7_checkedChangedCopy 19 = .ok (.ldc_w 348, 3) := by decide +kernel
theorem dX7_checkedChangedCopy_22 : decode cX7_checkedChangedCopy 22 = .ok (.invokespecial 65, 3) := by decide +kernel
theorem dX7_checkedChangedCopy_25 : decode cX7_checkedChangedCopy 25 = .ok (.athrow, 1) := by decide +kernel
theorem dX7_checkedChangedCopy_26 : decode cX7_checkedChangedCopy 26 = .ok (.aload_n 3, 1) := by decide +kernel
theorem dX7_checkedChangedCopy_27 : decode cX7_checkedChangedCopy 27 = .ok (.areturn, 1) := by decide +kernel
theorem dX7_isShape_0 : decode cX7_isShape 0 = .ok (.iload_n 1, 1) := by decide +kernel
theorem dX7_isShape_1 : decode cX7_isShape 1 = .ok (.ifCond .lt 18, 3) := by decide +kernel
theorem dX7_isShape_4 : decode cX7_isShape 4 = .ok (.iload_n 1, 1) := by decide +kernel
theorem dX7_isShape_5 : decode cX7_isShape 5 = .ok (.aload_n 0, 1) := by decide +kernel
theorem dX7_isShape_6 : decode cX7_isShape 6 = .ok (.getfield 10, 3) := by decide +kernel
theorem dX7_isShape_9 : decode cX7_isShape 9 = .ok (.invokevirtual 57, 3) := by decide +kernel
theorem dX7_isShape_12 : decode cX7_isShape 12 = .ok (.if_icmp .ge 7, 3) := by decide +kernel
theorem dX7_isShape_15 : decode cX7_isShape 15 = .ok (.iconst 1, 1) := by decide +kernel
theorem dX7_isShape_16 : decode cX7_isShape 16 = .ok (.goto 4, 3) := by decide +kernel
theorem dX7_isShape_19 : decode cX7_isShape 19 = .ok (.iconst 0, 1) := by decide +kernel
theorem dX7_isShape_20 : decode cX7_isShape 20 = .ok (.ireturn, 1) := by decide +kernel
theorem dX7_isEdition_0 : decode cX7_isEdition 0 = .ok (.iload_n 1, 1) := by decide +kernel
theorem dX7_isEdition_1 : decode cX7_isEdition 1 = .ok (.ifCond .lt 18, 3) := by decide +kernel
theorem dX7_isEdition_4 : decode cX7_isEdition 4 = .ok (.iload_n 1, 1) := by decide +kernel
theorem dX7_isEdition_5 : decode cX7_isEdition 5 = .ok (.aload_n 0, 1) := by decide +kernel
theorem dX7_isEdition_6 : decode cX7_isEdition 6 = .ok (.getfield 19, 3) := by decide +kernel
theorem dX7_isEdition_9 : decode cX7_isEdition 9 = .ok (.invokevirtual 57, 3) := by decide +kernel
theorem dX7_isEdition_12 : decode cX7_isEdition 12 = .ok (.if_icmp .ge 7, 3) := by decide +kernel
theorem dX7_isEdition_15 : decode cX7_isEdition 15 = .ok (.iconst 1, 1) := by decide +kernel
theorem dX7_isEdition_16 : decode cX7_isEdition 16 = .ok (.goto 4, 3) := by decide +kernel
theorem dX7_isEdition_19 : decode cX7_isEdition 19 = .ok (.iconst 0, 1) := by decide +kernel
theorem dX7_isEdition_20 : decode cX7_isEdition 20 = .ok (.ireturn, 1) := by decide +kernel
theorem dX7_isTakenDown_0 : decode cX7_isTakenDown 0 = .ok (.aload_n 0, 1) := by decide +kernel
theorem dX7_isTakenDown_1 : decode cX7_isTakenDown 1 = .ok (.getfield 165, 3) := by decide +kernel
theorem dX7_isTakenDown_4 : decode cX7_isTakenDown 4 = .ok (.iload_n 1, 1) := by decide +kernel
theorem dX7_isTakenDown_5 : decode cX7_isTakenDown 5 = .ok (.invokestatic 298, 3) := by decide +kernel
theorem dX7_isTakenDown_8 : decode cX7_isTakenDown 8 = .ok (.land, 1) := by decide +kernel
theorem dX7_isTakenDown_9 : decode cX7_isTakenDown 9 = .ok (.lconst 0, 1) := by decide +kernel
theorem dX7_isTakenDown_10 : decode cX7_isTakenDown 10 = .ok (.lcmp, 1) := by decide +kernel
theorem dX7_isTakenDown_11 : decode cX7_isTakenDown 11 = .ok (.ifCond .eq 7, 3) := by decide +kernel
theorem dX7_isTakenDown_14 : decode cX7_isTakenDown 14 = .ok (.iconst 1, 1) := by decide +kernel
theorem dX7_isTakenDown_15 : decode cX7_isTakenDown 15 = .ok (.goto 4, 3) := by decide +kernel
theorem dX7_isTakenDown_18 : decode cX7_isTakenDown 18 = .ok (.iconst 0, 1) := by decide +kernel
theorem dX7_isTakenDown_19 : decode cX7_isTakenDown 19 = .ok (.ireturn, 1) := by decide +kernel
theorem dX7_bit_0 : decode cX7_bit 0 = .ok (.lconst 1, 1) := by decide +kernel
theorem dX7_bit_1 : decode cX7_bit 1 = .ok (.iload_n 0, 1) := by decide +kernel
theorem dX7_bit_2 : decode cX7_bit 2 = .ok (.lshl, 1) := by decide +kernel
theorem dX7_bit_3 : decode cX7_bit 3 = .ok (.lreturn, 1) := by decide +kernel
theorem dX7_columnSet_0 : decode cX7_columnSet 0 = .ok (.iconst 1, 1) := by decide +kernel
theorem dX7_columnSet_1 : decode cX7_columnSet 1 = .ok (.iload_n 1, 1) := by decide +kernel
theorem dX7_columnSet_2 : decode cX7_columnSet 2 = .ok (.ishl, 1) := by decide +kernel
theorem dX7_columnSet_3 : decode cX7_columnSet 3 = .ok (.iconst 1, 1) := by decide +kernel
theorem dX7_columnSet_4 : decode cX7_columnSet 4 = .ok (.isub, 1) := by decide +kernel
theorem dX7_columnSet_5 : decode cX7_columnSet 5 = .ok (.iload_n 0, 1) := by decide +kernel
theorem dX7_columnSet_6 : decode cX7_columnSet 6 = .ok (.ishl, 1) := by decide +kernel
theorem dX7_columnSet_7 : decode cX7_columnSet 7 = .ok (.ireturn, 1) := by decide +kernel
theorem dX7_tell_0 : decode cX7_tell 0 = .ok (.iconst 0, 1) := by decide +kernel
theorem dX7_tell_1 : decode cX7_tell 1 = .ok (.istore_n 2, 1) := by decide +kernel
theorem dX7_tell_2 : decode cX7_tell 2 = .ok (.iload_n 2, 1) := by decide +kernel
theorem dX7_tell_3 : decode cX7_tell 3 = .ok (.aload_n 0, 1) := by decide +kernel
theorem dX7_tell_4 : decode cX7_tell 4 = .ok (.getfield 16, 3) := by decide +kernel
theorem dX7_tell_7 : decode cX7_tell 7 = .ok (.invokevirtual 57, 3) := by decide +kernel
theorem dX7_tell_10 : decode cX7_tell 10 = .ok (.if_icmp .ge 37, 3) := by decide +kernel
theorem dX7_tell_13 : decode cX7_tell 13 = .ok (.aload_n 0, 1) := by decide +kernel
theorem dX7_tell_14 : decode cX7_tell 14 = .ok (.getfield 16, 3) := by decide +kernel
theorem dX7_tell_17 : decode cX7_tell 17 = .ok (.iload_n 2, 1) := by decide +kernel
theorem dX7_tell_18 : decode cX7_tell 18 = .ok (.invokevirtual 247, 3) := by decide +kernel
theorem dX7_tell_21 : decode cX7_tell 21 = .ok (.checkcast 77, 3) := by decide +kernel
theorem dX7_tell_24 : decode cX7_tell 24 = .ok (.astore_n 3, 1) := by decide +kernel
theorem dX7_tell_25 : decode cX7_tell 25 = .ok (.aload_n 3, 1) := by decide +kernel
theorem dX7_tell_26 : decode cX7_tell 26 = .ok (.getfield 350, 3) := by decide +kernel
theorem dX7_tell_29 : decode cX7_tell 29 = .ok (.aload_n 1, 1) := by decide +kernel
theorem dX7_tell_30 : decode cX7_tell 30 = .ok (.getfield 350, 3) := by decide +kernel
theorem dX7_tell_33 : decode cX7_tell 33 = .ok (.if_icmp .ne 8, 3) := by decide +kernel
theorem dX7_tell_36 : decode cX7_tell 36 = .ok (.aload_n 3, 1) := by decide +kernel
theorem dX7_tell_37 : decode cX7_tell 37 = .ok (.iconst 0, 1) := by decide +kernel
theorem dX7_tell_38 : decode cX7_tell 38 = .ok (.putfield 353, 3) := by decide +kernel
theorem dX7_tell_41 : decode cX7_tell 41 = .ok (.iinc 2 1, 3) := by decide +kernel
theorem dX7_tell_44 : decode cX7_tell 44 = .ok (.goto (-42), 3) := by decide +kernel
theorem dX7_tell_47 : decode cX7_tell 47 = .ok (.aload_n 0, 1) := by decide +kernel
theorem dX7_tell_48 : decode cX7_tell 48 = .ok (.getfield 16, 3) := by decide +kernel
theorem dX7_tell_51 : decode cX7_tell 51 = .ok (.aload_n 1, 1) := by decide +kernel
theorem dX7_tell_52 : decode cX7_tell 52 = .ok (.invokevirtual 73, 3) := by decide +kernel
theorem dX7_tell_55 : decode cX7_tell 55 = .ok (.pop, 1) := by decide +kernel
theorem dX7_tell_56 : decode cX7_tell 56 = .ok (.aload_n 0, 1) := by decide +kernel
theorem dX7_tell_57 : decode cX7_tell 57 = .ok (.aload_n 1, 1) := by decide +kernel
theorem dX7_tell_58 : decode cX7_tell 58 = .ok (.aload_n 0, 1) := by decide +kernel
theorem dX7_tell_59 : decode cX7_tell 59 = .ok (.getfield 28, 3) := by decide +kernel
theorem dX7_tell_62 : decode cX7_tell 62 = .ok (.invokevirtual 356, 3) := by decide +kernel
theorem dX7_tell_65 : decode cX7_tell 65 = .ok (.return_, 1) := by decide +kernel
theorem dX7_doAllActs_0 : decode cX7_doAllActs 0 = .ok (.aload_n 1, 1) := by decide +kernel
theorem dX7_doAllActs_1 : decode cX7_doAllActs 1 = .ok (.invokevirtual 360, 3) := by decide +kernel
theorem dX7_doAllActs_4 : decode cX7_doAllActs 4 = .ok (.iconst 0, 1) := by decide +kernel
theorem dX7_doAllActs_5 : decode cX7_doAllActs 5 = .ok (.istore_n 2, 1) := by decide +kernel
theorem dX7_doAllActs_6 : decode cX7_doAllActs 6 = .ok (.iload_n 2, 1) := by decide +kernel
theorem dX7_doAllActs_7 : decode cX7_doAllActs 7 = .ok (.aload_n 0, 1) := by decide +kernel
theorem dX7_doAllActs_8 : decode cX7_doAllActs 8 = .ok (.getfield 16, 3) := by decide +kernel
theorem dX7_doAllActs_11 : decode cX7_doAllActs 11 = .ok (.invokevirtual 57, 3) := by decide +kernel
theorem dX7_doAllActs_14 : decode cX7_doAllActs 14 = .ok (.if_icmp .ge 34, 3) := by decide +kernel
theorem dX7_doAllActs_17 : decode cX7_doAllActs 17 = .ok (.aload_n 0, 1) := by decide +kernel
theorem dX7_doAllActs_18 : decode cX7_doAllActs 18 = .ok (.getfield 16, 3) := by decide +kernel
theorem dX7_doAllActs_21 : decode cX7_doAllActs 21 = .ok (.iload_n 2, 1) := by decide +kernel
theorem dX7_doAllActs_22 : decode cX7_doAllActs 22 = .ok (.invokevirtual 247, 3) := by decide +kernel
theorem dX7_doAllActs_25 : decode cX7_doAllActs 25 = .ok (.checkcast 77, 3) := by decide +kernel
theorem dX7_doAllActs_28 : decode cX7_doAllActs 28 = .ok (.astore_n 3, 1) := by decide +kernel
theorem dX7_doAllActs_29 : decode cX7_doAllActs 29 = .ok (.aload_n 3, 1) := by decide +kernel
theorem dX7_doAllActs_30 : decode cX7_doAllActs 30 = .ok (.getfield 139, 3) := by decide +kernel
theorem dX7_doAllActs_33 : decode cX7_doAllActs 33 = .ok (.ifCond .eq 9, 3) := by decide +kernel
theorem dX7_doAllActs_36 : decode cX7_doAllActs 36 = .ok (.aload_n 0, 1) := by decide +kernel
theorem dX7_doAllActs_37 : decode cX7_doAllActs 37 = .ok (.aload_n 3, 1) := by decide +kernel
theorem dX7_doAllActs_38 : decode cX7_doAllActs 38 = .ok (.aload_n 1, 1) := by decide +kernel
theorem dX7_doAllActs_39 : decode cX7_doAllActs 39 = .ok (.invokevirtual 356, 3) := by decide +kernel
theorem dX7_doAllActs_42 : decode cX7_doAllActs 42 = .ok (.iinc 2 1, 3) := by decide +kernel
theorem dX7_doAllActs_45 : decode cX7_doAllActs 45 = .ok (.goto (-39), 3) := by decide +kernel
theorem dX7_doAllActs_48 : decode cX7_doAllActs 48 = .ok (.return_, 1) := by decide +kernel
theorem dX7_perform_0 : decode cX7_perform 0 = .ok (.aload_n 1, 1) := by decide +kernel
theorem dX7_perform_1 : decode cX7_perform 1 = .ok (.getfield 363, 3) := by decide +kernel
theorem dX7_perform_4 : decode cX7_perform 4 = .ok (.ifCond .eq 11, 3) := by decide +kernel
theorem dX7_perform_7 : decode cX7_perform 7 = .ok (.aload_n 2, 1) := by decide +kernel
theorem dX7_perform_8 : decode cX7_perform 8 = .ok (.aload_n 1, 1) := by decide +kernel
theorem dX7_perform_9 : decode cX7_perform 9 = .ok (.invokevirtual 366, 3) := by decide +kernel
theorem dX7_perform_12 : decode cX7_perform 12 = .ok (.goto 36, 3) := by decide +kernel
theorem dX7_perform_15 : decode cX7_perform 15 = .ok (.aload_n 0, 1) := by decide +kernel
theorem dX7_perform_16 : decode cX7_perform 16 = .ok (.aload_n 1, 1) := by decide +kernel
theorem dX7_perform_17 : decode cX7_perform 17 = .ok (.getfield 369, 3) := by decide +kernel
theorem dX7_perform_20 : decode cX7_perform 20 = .ok (.invokevirtual 332, 3) := by decide +kernel
theorem dX7_perform_23 : decode cX7_perform 23 = .ok (.ifCond .eq 25, 3) := by decide +kernel
theorem dX7_perform_26 : decode cX7_perform 26 = .ok (.aload_n 2, 1) := by decide +kernel
theorem dX7_perform_27 : decode cX7_perform 27 = .ok (.aload_n 1, 1) := by decide +kernel
theorem dX7_perform_28 : decode cX7_perform 28 = .ok (.getfield 369, 3) := by decide +kernel
theorem dX7_perform_31 : decode cX7_perform 31 = .ok (.aload_n 0, 1) := by decide +kernel
theorem dX7_perform_32 : decode cX7_perform 32 = .ok (.getfield 10, 3) := by decide +kernel
theorem dX7_perform_35 : decode cX7_perform 35 = .ok (.aload_n 1, 1) := by decide +kernel
theorem dX7_perform_36 : decode cX7_perform 36 = .ok (.getfield 369, 3) := by decide +kernel
theorem dX7_perform_39 : decode cX7_perform 39 = .ok (.invokevirtual 247, 3) := by decide +kernel
theorem dX7_perform_42 : decode cX7_perform 42 = .ok (.checkcast 68, 3) := by decide +kernel
theorem dX7_perform_45 : decode cX7_perform 45 = .ok (.invokevirtual 372, 3) := by decide +kernel
theorem dX7_perform_48 : decode cX7_perform 48 = .ok (.return_, 1) := by decide +kernel
theorem dX7_latestLiveAct_0 : decode cX7_latestLiveAct 0 = .ok (.aload_n 0, 1) := by decide +kernel
theorem dX7_latestLiveAct_1 : decode cX7_latestLiveAct 1 = .ok (.getfield 16, 3) := by decide +kernel
theorem dX7_latestLiveAct_4 : decode cX7_latestLiveAct 4 = .ok (.invokevirtual 57, 3) := by decide +kernel
theorem dX7_latestLiveAct_7 : decode cX7_latestLiveAct 7 = .ok (.iconst 1, 1) := by decide +kernel
theorem dX7_latestLiveAct_8 : decode cX7_latestLiveAct 8 = .ok (.isub, 1) := by decide +kernel
theorem dX7_latestLiveAct_9 : decode cX7_latestLiveAct 9 = .ok (.istore_n 2, 1) := by decide +kernel
theorem dX7_latestLiveAct_10 : decode cX7_latestLiveAct 10 = .ok (.iload_n 2, 1) := by decide +kernel
theorem dX7_latestLiveAct_11 : decode cX7_latestLiveAct 11 = .ok (.ifCond .lt 38, 3) := by decide +kernel
theorem dX7_latestLiveAct_14 : decode cX7_latestLiveAct 14 = .ok (.aload_n 0, 1) := by decide +kernel
theorem dX7_latestLiveAct_15 : decode cX7_latestLiveAct 15 = .ok (.getfield 16, 3) := by decide +kernel
theorem dX7_latestLiveAct_18 : decode cX7_latestLiveAct 18 = .ok (.iload_n 2, 1) := by decide +kernel
theorem dX7_latestLiveAct_19 : decode cX7_latestLiveAct 19 = .ok (.invokevirtual 247, 3) := by decide +kernel
theorem dX7_latestLiveAct_22 : decode cX7_latestLiveAct 22 = .ok (.checkcast 77, 3) := by decide +kernel
theorem dX7_latestLiveAct_25 : decode cX7_latestLiveAct 25 = .ok (.astore_n 3, 1) := by decide +kernel
theorem dX7_latestLiveAct_26 : decode cX7_latestLiveAct 26 = .ok (.aload_n 3, 1) := by decide +kernel
theorem dX7_latestLiveAct_27 : decode cX7_latestLiveAct 27 = .ok (.getfield 350, 3) := by decide +kernel
theorem dX7_latestLiveAct_30 : decode cX7_latestLiveAct 30 = .ok (.iload_n 1, 1) := by decide +kernel
theorem dX7_latestLiveAct_31 : decode cX7_latestLiveAct 31 = .ok (.if_icmp .ne 12, 3) := by decide +kernel
theorem dX7_latestLiveAct_34 : decode cX7_latestLiveAct 34 = .ok (.aload_n 3, 1) := by decide +kernel
theorem dX7_latestLiveAct_35 : decode cX7_latestLiveAct 35 = .ok (.getfield 139, 3) := by decide +kernel
theorem dX7_latestLiveAct_38 : decode cX7_latestLiveAct 38 = .ok (.ifCond .eq 5, 3) := by decide +kernel
theorem dX7_latestLiveAct_41 : decode cX7_latestLiveAct 41 = .ok (.iload_n 2, 1) := by decide +kernel
theorem dX7_latestLiveAct_42 : decode cX7_latestLiveAct 42 = .ok (.ireturn, 1) := by decide +kernel
theorem dX7_latestLiveAct_43 : decode cX7_latestLiveAct 43 = .ok (.iinc 2 (-1), 3) := by decide +kernel
theorem dX7_latestLiveAct_46 : decode cX7_latestLiveAct 46 = .ok (.goto (-36), 3) := by decide +kernel
theorem dX7_latestLiveAct_49 : decode cX7_latestLiveAct 49 = .ok (.iconst (-1), 1) := by decide +kernel
theorem dX7_latestLiveAct_50 : decode cX7_latestLiveAct 50 = .ok (.ireturn, 1) := by decide +kernel
theorem dX7_actUndoneLast_0 : decode cX7_actUndoneLast 0 = .ok (.iconst 0, 1) := by decide +kernel
theorem dX7_actUndoneLast_1 : decode cX7_actUndoneLast 1 = .ok (.istore_n 2, 1) := by decide +kernel
theorem dX7_actUndoneLast_2 : decode cX7_actUndoneLast 2 = .ok (.iload_n 2, 1) := by decide +kernel
theorem dX7_actUndoneLast_3 : decode cX7_actUndoneLast 3 = .ok (.aload_n 0, 1) := by decide +kernel
theorem dX7_actUndoneLast_4 : decode cX7_actUndoneLast 4 = .ok (.getfield 16, 3) := by decide +kernel
theorem dX7_actUndoneLast_7 : decode cX7_actUndoneLast 7 = .ok (.invokevirtual 57, 3) := by decide +kernel
theorem dX7_actUndoneLast_10 : decode cX7_actUndoneLast 10 = .ok (.if_icmp .ge 38, 3) := by decide +kernel
theorem dX7_actUndoneLast_13 : decode cX7_actUndoneLast 13 = .ok (.aload_n 0, 1) := by decide +kernel
theorem dX7_actUndoneLast_14 : decode cX7_actUndoneLast 14 = .ok (.getfield 16, 3) := by decide +kernel
theorem dX7_actUndoneLast_17 : decode cX7_actUndoneLast 17 = .ok (.iload_n 2, 1) := by decide +kernel
theorem dX7_actUndoneLast_18 : decode cX7_actUndoneLast 18 = .ok (.invokevirtual 247, 3) := by decide +kernel
theorem dX7_actUndoneLast_21 : decode cX7_actUndoneLast 21 = .ok (.checkcast 77, 3) := by decide +kernel
theorem dX7_actUndoneLast_24 : decode cX7_actUndoneLast 24 = .ok (.astore_n 3, 1) := by decide +kernel
theorem dX7_actUndoneLast_25 : decode cX7_actUndoneLast 25 = .ok (.aload_n 3, 1) := by decide +kernel
theorem dX7_actUndoneLast_26 : decode cX7_actUndoneLast 26 = .ok (.getfield 350, 3) := by decide +kernel
theorem dX7_actUndoneLast_29 : decode cX7_actUndoneLast 29 = .ok (.iload_n 1, 1) := by decide +kernel
theorem dX7_actUndoneLast_30 : decode cX7_actUndoneLast 30 = .ok (.if_icmp .ne 12, 3) := by decide +kernel
theorem dX7_actUndoneLast_33 : decode cX7_actUndoneLast 33 = .ok (.aload_n 3, 1) := by decide +kernel
theorem dX7_actUndoneLast_34 : decode cX7_actUndoneLast 34 = .ok (.getfield 353, 3) := by decide +kernel
theorem dX7_actUndoneLast_37 : decode cX7_actUndoneLast 37 = .ok (.ifCond .eq 5, 3) := by decide +kernel
theorem dX7_actUndoneLast_40 : decode cX7_actUndoneLast 40 = .ok (.iload_n 2, 1) := by decide +kernel
theorem dX7_actUndoneLast_41 : decode cX7_actUndoneLast 41 = .ok (.ireturn, 1) := by decide +kernel
theorem dX7_actUndoneLast_42 : decode cX7_actUndoneLast 42 = .ok (.iinc 2 1, 3) := by decide +kernel
theorem dX7_actUndoneLast_45 : decode cX7_actUndoneLast 45 = .ok (.goto (-43), 3) := by decide +kernel
theorem dX7_actUndoneLast_48 : decode cX7_actUndoneLast 48 = .ok (.iconst (-1), 1) := by decide +kernel
theorem dX7_actUndoneLast_49 : decode cX7_actUndoneLast 49 = .ok (.ireturn, 1) := by decide +kernel
theorem dX7_setLive_0 : decode cX7_setLive 0 = .ok (.iload_n 1, 1) := by decide +kernel
theorem dX7_setLive_1 : decode cX7_setLive 1 = .ok (.ifCond .lt 44, 3) := by decide +kernel
theorem dX7_setLive_4 : decode cX7_setLive 4 = .ok (.iload_n 1, 1) := by decide +kernel
theorem dX7_setLive_5 : decode cX7_setLive 5 = .ok (.aload_n 0, 1) := by decide +kernel
theorem dX7_setLive_6 : decode cX7_setLive 6 = .ok (.getfield 16, 3) := by decide +kernel
theorem dX7_setLive_9 : decode cX7_setLive 9 = .ok (.invokevirtual 57, 3) := by decide +kernel
theorem dX7_setLive_12 : decode cX7_setLive 12 = .ok (.if_icmp .ge 33, 3) := by decide +kernel
theorem dX7_setLive_15 : decode cX7_setLive 15 = .ok (.aload_n 0, 1) := by decide +kernel
theorem dX7_setLive_16 : decode cX7_setLive 16 = .ok (.getfield 16, 3) := by decide +kernel
theorem dX7_setLive_19 : decode cX7_setLive 19 = .ok (.iload_n 1, 1) := by decide +kernel
theorem dX7_setLive_20 : decode cX7_setLive 20 = .ok (.invokevirtual 247, 3) := by decide +kernel
theorem dX7_setLive_23 : decode cX7_setLive 23 = .ok (.checkcast 77, 3) := by decide +kernel
theorem dX7_setLive_26 : decode cX7_setLive 26 = .ok (.astore_n 3, 1) := by decide +kernel
theorem dX7_setLive_27 : decode cX7_setLive 27 = .ok (.aload_n 3, 1) := by decide +kernel
theorem dX7_setLive_28 : decode cX7_setLive 28 = .ok (.iload_n 2, 1) := by decide +kernel
theorem dX7_setLive_29 : decode cX7_setLive 29 = .ok (.putfield 139, 3) := by decide +kernel
theorem dX7_setLive_32 : decode cX7_setLive 32 = .ok (.aload_n 3, 1) := by decide +kernel
theorem dX7_setLive_33 : decode cX7_setLive 33 = .ok (.iload_n 2, 1) := by decide +kernel
theorem dX7_setLive_34 : decode cX7_setLive 34 = .ok (.ifCond .ne 7, 3) := by decide +kernel
theorem dX7_setLive_37 : decode cX7_setLive 37 = .ok (.iconst 1, 1) := by decide +kernel
theorem dX7_setLive_38 : decode cX7_setLive 38 = .ok (.goto 4, 3) := by decide +kernel
theorem dX7_setLive_41 : decode cX7_setLive 41 = .ok (.iconst 0, 1) := by decide +kernel
theorem dX7_setLive_42 : decode cX7_setLive 42 = .ok (.putfield 353, 3) := by decide +kernel
theorem dX7_setLive_45 : decode cX7_setLive 45 = .ok (.return_, 1) := by decide +kernel
theorem dX7_lowestHolder_0 : decode cX7_lowestHolder 0 = .ok (.iconst 0, 1) := by decide +kernel
theorem dX7_lowestHolder_1 : decode cX7_lowestHolder 1 = .ok (.istore_n 2, 1) := by decide +kernel
theorem dX7_lowestHolder_2 : decode cX7_lowestHolder 2 = .ok (.iload_n 2, 1) := by decide +kernel
theorem dX7_lowestHolder_3 : decode cX7_lowestHolder 3 = .ok (.aload_n 0, 1) := by decide +kernel
theorem dX7_lowestHolder_4 : decode cX7_lowestHolder 4 = .ok (.getfield 19, 3) := by decide +kernel
theorem dX7_lowestHolder_7 : decode cX7_lowestHolder 7 = .ok (.invokevirtual 57, 3) := by decide +kernel
theorem dX7_lowestHolder_10 : decode cX7_lowestHolder 10 = .ok (.if_icmp .ge 29, 3) := by decide +kernel
theorem dX7_lowestHolder_13 : decode cX7_lowestHolder 13 = .ok (.aload_n 0, 1) := by decide +kernel
theorem dX7_lowestHolder_14 : decode cX7_lowestHolder 14 = .ok (.getfield 19, 3) := by decide +kernel
theorem dX7_lowestHolder_17 : decode cX7_lowestHolder 17 = .ok (.iload_n 2, 1) := by decide +kernel
theorem dX7_lowestHolder_18 : decode cX7_lowestHolder 18 = .ok (.invokevirtual 247, 3) := by decide +kernel
theorem dX7_lowestHolder_21 : decode cX7_lowestHolder 21 = .ok (.checkcast 183, 3) := by decide +kernel
theorem dX7_lowestHolder_24 : decode cX7_lowestHolder 24 = .ok (.iload_n 1, 1) := by decide +kernel
theorem dX7_lowestHolder_25 : decode cX7_lowestHolder 25 = .ok (.invokevirtual 376, 3) := by decide +kernel
theorem dX7_lowestHolder_28 : decode cX7_lowestHolder 28 = .ok (.ifCond .eq 5, 3) := by decide +kernel
theorem dX7_lowestHolder_31 : decode cX7_lowestHolder 31 = .ok (.iload_n 2, 1) := by decide +kernel
theorem dX7_lowestHolder_32 : decode cX7_lowestHolder 32 = .ok (.ireturn, 1) := by decide +kernel
theorem dX7_lowestHolder_33 : decode cX7_lowestHolder 33 = .ok (.iinc 2 1, 3) := by decide +kernel
theorem dX7_lowestHolder_36 : decode cX7_lowestHolder 36 = .ok (.goto (-34), 3) := by decide +kernel
theorem dX7_lowestHolder_39 : decode cX7_lowestHolder 39 = .ok (.iconst (-1), 1) := by decide +kernel
theorem dX7_lowestHolder_40 : decode cX7_lowestHolder 40 = .ok (.ireturn, 1) := by decide +kernel
theorem dX7_measureAndHold_0 : decode cX7_measureAndHold 0 = .ok (.iconst 0, 1) := by decide +kernel
theorem dX7_measureAndHold_1 : decode cX7_measureAndHold 1 = .ok (.istore_n 2, 1) := by decide +kernel
theorem dX7_measureAndHold_2 : decode cX7_measureAndHold 2 = .ok (.iload_n 2, 1) := by decide +kernel
theorem dX7_measureAndHold_3 : decode cX7_measureAndHold 3 = .ok (.aload_n 0, 1) := by decide +kernel
theorem dX7_measureAndHold_4 : decode cX7_measureAndHold 4 = .ok (.getfield 10, 3) := by decide +kernel
theorem dX7_measureAndHold_7 : decode cX7_measureAndHold 7 = .ok (.invokevirtual 57, 3) := by decide +kernel
theorem dX7_measureAndHold_10 : decode cX7_measureAndHold 10 = .ok (.if_icmp .ge 55, 3) := by decide +kernel
theorem dX7_measureAndHold_13 : decode cX7_measureAndHold 13 = .ok (.aload_n 1, 1) := by decide +kernel
theorem dX7_measureAndHold_14 : decode cX7_measureAndHold 14 = .ok (.getfield 217, 3) := by decide +kernel
theorem dX7_measureAndHold_17 : decode cX7_measureAndHold 17 = .ok (.aload_n 0, 1) := by decide +kernel
theorem dX7_measureAndHold_18 : decode cX7_measureAndHold 18 = .ok (.getfield 28, 3) := by decide +kernel
theorem dX7_measureAndHold_21 : decode cX7_measureAndHold 21 = .ok (.iload_n 2, 1) := by decide +kernel
theorem dX7_measureAndHold_22 : decode cX7_measureAndHold 22 = .ok (.aload_n 0, 1) := by decide +kernel
theorem dX7_measureAndHold_23 : decode cX7_measureAndHold 23 = .ok (.getfield 165, 3) := by decide +kernel
theorem dX7_measureAndHold_26 : decode cX7_measureAndHold 26 = .ok (.invokevirtual 291, 3) := by decide +kernel
theorem dX7_measureAndHold_29 : decode cX7_measureAndHold 29 = .ok (.istore_n 3, 1) := by decide +kernel
theorem dX7_measureAndHold_30 : decode cX7_measureAndHold 30 = .ok (.iload_n 3, 1) := by decide +kernel
theorem dX7_measureAndHold_31 : decode cX7_measureAndHold 31 = .ok (.ifCond .le 28, 3) := by decide +kernel
theorem dX7_measureAndHold_34 : decode cX7_measureAndHold 34 = .ok (.aload_n 1, 1) := by decide +kernel
theorem dX7_measureAndHold_35 : decode cX7_measureAndHold 35 = .ok (.aload_n 0, 1) := by decide +kernel
theorem dX7_measureAndHold_36 : decode cX7_measureAndHold 36 = .ok (.getfield 10, 3) := by decide +kernel
theorem dX7_measureAndHold_39 : decode cX7_measureAndHold 39 = .ok (.iload_n 2, 1) := by decide +kernel
theorem dX7_measureAndHold_40 : decode cX7_measureAndHold 40 = .ok (.invokevirtual 247, 3) := by decide +kernel
theorem dX7_measureAndHold_43 : decode cX7_measureAndHold 43 = .ok (.checkcast 68, 3) := by decide +kernel
theorem dX7_measureAndHold_46 : decode cX7_measureAndHold 46 = .ok (.getfield 288, 3) := by decide +kernel
theorem dX7_measureAndHold_49 : decode cX7_measureAndHold 49 = .ok (.iload_n 3, 1) := by decide +kernel
theorem dX7_measureAndHold_50 : decode cX7_measureAndHold 50 = .ok (.invokevirtual 379, 3) := by decide +kernel
theorem dX7_measureAndHold_53 : decode cX7_measureAndHold 53 = .ok (.aload_n 0, 1) := by decide +kernel
theorem dX7_measureAndHold_54 : decode cX7_measureAndHold 54 = .ok (.iload_n 2, 1) := by decide +kernel
theorem dX7_measureAndHold_55 : decode cX7_measureAndHold 55 = .ok (.aload_n 1, 1) := by decide +kernel
theorem dX7_measureAndHold_56 : decode cX7_measureAndHold 56 = .ok (.invokevirtual 382, 3) := by decide +kernel
theorem dX7_measureAndHold_59 : decode cX7_measureAndHold 59 = .ok (.iinc 2 1, 3) := by decide +kernel
theorem dX7_measureAndHold_62 : decode cX7_measureAndHold 62 = .ok (.goto (-60), 3) := by decide +kernel
theorem dX7_measureAndHold_65 : decode cX7_measureAndHold 65 = .ok (.return_, 1) := by decide +kernel
theorem dX7_holdActsOf_0 : decode cX7_holdActsOf 0 = .ok (.iconst 0, 1) := by decide +kernel
theorem dX7_holdActsOf_1 : decode cX7_holdActsOf 1 = .ok (.istore_n 3, 1) := by decide +kernel
theorem dX7_holdActsOf_2 : decode cX7_holdActsOf 2 = .ok (.iload_n 3, 1) := by decide +kernel
theorem dX7_holdActsOf_3 : decode cX7_holdActsOf 3 = .ok (.aload_n 0, 1) := by decide +kernel
theorem dX7_holdActsOf_4 : decode cX7_holdActsOf 4 = .ok (.getfield 16, 3) := by decide +kernel
theorem dX7_holdActsOf_7 : decode cX7_holdActsOf 7 = .ok (.invokevirtual 57, 3) := by decide +kernel
theorem dX7_holdActsOf_10 : decode cX7_holdActsOf 10 = .ok (.if_icmp .ge 44, 3) := by decide +kernel
theorem dX7_holdActsOf_13 : decode cX7_holdActsOf 13 = .ok (.aload_n 0, 1) := by decide +kernel
theorem dX7_holdActsOf_14 : decode cX7_holdActsOf 14 = .ok (.getfield 16, 3) := by decide +kernel
theorem dX7_holdActsOf_17 : decode cX7_holdActsOf 17 = .ok (.iload_n 3, 1) := by decide +kernel
theorem dX7_holdActsOf_18 : decode cX7_holdActsOf 18 = .ok (.invokevirtual 247, 3) := by decide +kernel
theorem dX7_holdActsOf_21 : decode cX7_holdActsOf 21 = .ok (.checkcast 77, 3) := by decide +kernel
theorem dX7_holdActsOf_24 : decode cX7_holdActsOf 24 = .ok (.astore 4, 2) := by decide +kernel
theorem dX7_holdActsOf_26 : decode cX7_holdActsOf 26 = .ok (.aload 4, 2) := by decide +kernel
theorem dX7_holdActsOf_28 : decode cX7_holdActsOf 28 = .ok (.getfield 139, 3) := by decide +kernel
theorem dX7_holdActsOf_31 : decode cX7_holdActsOf 31 = .ok (.ifCond .eq 17, 3) := by decide +kernel
theorem dX7_holdActsOf_34 : decode cX7_holdActsOf 34 = .ok (.aload 4, 2) := by decide +kernel
theorem dX7_holdActsOf_36 : decode cX7_holdActsOf 36 = .ok (.iload_n 1, 1) := by decide +kernel
theorem dX7_holdActsOf_37 : decode cX7_holdActsOf 37 = .ok (.invokevirtual 386, 3) := by decide +kernel
theorem dX7_holdActsOf_40 : decode cX7_holdActsOf 40 = .ok (.ifCond .eq 8, 3) := by decide +kernel
theorem dX7_holdActsOf_43 : decode cX7_holdActsOf 43 = .ok (.aload_n 2, 1) := by decide +kernel
theorem dX7_holdActsOf_44 : decode cX7_holdActsOf 44 = .ok (.iload_n 3, 1) := by decide +kernel
theorem dX7_holdActsOf_45 : decode cX7_holdActsOf 45 = .ok (.invokevirtual 389, 3) := by decide +kernel
theorem dX7_holdActsOf_48 : decode cX7_holdActsOf 48 = .ok (.iinc 3 1, 3) := by decide +kernel
theorem dX7_holdActsOf_51 : decode cX7_holdActsOf 51 = .ok (.goto (-49), 3) := by decide +kernel
theorem dX7_holdActsOf_54 : decode cX7_holdActsOf 54 = .ok (.return_, 1) := by decide +kernel
theorem dX7_payBuyer_0 : decode cX7_payBuyer 0 = .ok (.iload_n 1, 1) := by decide +kernel
theorem dX7_payBuyer_1 : decode cX7_payBuyer 1 = .ok (.ifCond .lt 19, 3) := by decide +kernel
theorem dX7_payBuyer_4 : decode cX7_payBuyer 4 = .ok (.iload_n 1, 1) := by decide +kernel
theorem dX7_payBuyer_5 : decode cX7_payBuyer 5 = .ok (.bipush 8, 2) := by decide +kernel
theorem dX7_payBuyer_7 : decode cX7_payBuyer 7 = .ok (.if_icmp .ge 13, 3) := by decide +kernel
theorem dX7_payBuyer_10 : decode cX7_payBuyer 10 = .ok (.aload_n 0, 1) := by decide +kernel
theorem dX7_payBuyer_11 : decode cX7_payBuyer 11 = .ok (.getfield 42, 3) := by decide +kernel
theorem dX7_payBuyer_14 : decode cX7_payBuyer 14 = .ok (.iload_n 1, 1) := by decide +kernel
theorem dX7_payBuyer_15 : decode cX7_payBuyer 15 = .ok (.dup2, 1) := by decide +kernel
theorem dX7_payBuyer_16 : decode cX7_payBuyer 16 = .ok (.iaload, 1) := by decide +kernel
theorem dX7_payBuyer_17 : decode cX7_payBuyer 17 = .ok (.iload_n 2, 1) := by decide +kernel
theorem dX7_payBuyer_18 : decode cX7_payBuyer 18 = .ok (.iadd, 1) := by decide +kernel
theorem dX7_payBuyer_19 : decode cX7_payBuyer 19 = .ok (.iastore, 1) := by decide +kernel
theorem dX7_payBuyer_20 : decode cX7_payBuyer 20 = .ok (.return_, 1) := by decide +kernel
theorem dX7_enter_0 : decode cX7_enter 0 = .ok (.aload_n 0, 1) := by decide +kernel
theorem dX7_enter_1 : decode cX7_enter 1 = .ok (.aload_n 1, 1) := by decide +kernel
theorem dX7_enter_2 : decode cX7_enter 2 = .ok (.aload_n 0, 1) := by decide +kernel
theorem dX7_enter_3 : decode cX7_enter 3 = .ok (.getfield 35, 3) := by decide +kernel
theorem dX7_enter_6 : decode cX7_enter 6 = .ok (.invokevirtual 317, 3) := by decide +kernel
theorem dX7_enter_9 : decode cX7_enter 9 = .ok (.aload_n 0, 1) := by decide +kernel
theorem dX7_enter_10 : decode cX7_enter 10 = .ok (.getfield 22, 3) := by decide +kernel
theorem dX7_enter_13 : decode cX7_enter 13 = .ok (.invokevirtual 57, 3) := by decide +kernel
theorem dX7_enter_16 : decode cX7_enter 16 = .ok (.sipush 512, 3) := by decide +kernel
theorem dX7_enter_19 : decode cX7_enter 19 = .ok (.if_icmp .ge 12, 3) := by decide +kernel
theorem dX7_enter_22 : decode cX7_enter 22 = .ok (.aload_n 0, 1) := by decide +kernel
theorem dX7_enter_23 : decode cX7_enter 23 = .ok (.getfield 22, 3) := by decide +kernel
theorem dX7_enter_26 : decode cX7_enter 26 = .ok (.aload_n 1, 1) := by decide +kernel
theorem dX7_enter_27 : decode cX7_enter 27 = .ok (.invokevirtual 73, 3) := by decide +kernel
theorem dX7_enter_30 : decode cX7_enter 30 = .ok (.pop, 1) := by decide +kernel
theorem dX7_enter_31 : decode cX7_enter 31 = .ok (.return_, 1) := by decide +kernel
theorem dX7_payHands_0 : decode cX7_payHands 0 = .ok (.aload_n 0, 1) := by decide +kernel
theorem dX7_payHands_1 : decode cX7_payHands 1 = .ok (.aload_n 1, 1) := by decide +kernel
theorem dX7_payHands_2 : decode cX7_payHands 2 = .ok (.getfield 392, 3) := by decide +kernel
theorem dX7_payHands_5 : decode cX7_payHands 5 = .ok (.invokevirtual 341, 3) := by decide +kernel
theorem dX7_payHands_8 : decode cX7_payHands 8 = .ok (.ifCond .eq 28, 3) := by decide +kernel
theorem dX7_payHands_11 : decode cX7_payHands 11 = .ok (.aload_n 0, 1) := by decide +kernel
theorem dX7_payHands_12 : decode cX7_payHands 12 = .ok (.getfield 19, 3) := by decide +kernel
theorem dX7_payHands_15 : decode cX7_payHands 15 = .ok (.aload_n 1, 1) := by decide +kernel
theorem dX7_payHands_16 : decode cX7_payHands 16 = .ok (.getfield 392, 3) := by decide +kernel
theorem dX7_payHands_19 : decode cX7_payHands 19 = .ok (.invokevirtual 247, 3) := by decide +kernel
theorem dX7_payHands_22 : decode cX7_payHands 22 = .ok (.checkcast 183, 3) := by decide +kernel
theorem dX7_payHands_25 : decode cX7_payHands 25 = .ok (.aload_n 1, 1) := by decide +kernel
theorem dX7_payHands_26 : decode cX7_payHands 26 = .ok (.getfield 395, 3) := by decide +kernel
theorem dX7_payHands_29 : decode cX7_payHands 29 = .ok (.aload_n 2, 1) := by decide +kernel
theorem dX7_payHands_30 : decode cX7_payHands 30 = .ok (.invokevirtual 398, 3) := by decide +kernel
theorem dX7_payHands_33 : decode cX7_payHands 33 = .ok (.goto 32, 3) := by decide +kernel
theorem dX7_payHands_36 : decode cX7_payHands 36 = .ok (.aload_n 1, 1) := by decide +kernel
theorem dX7_payHands_37 : decode cX7_payHands 37 = .ok (.getfield 402, 3) := by decide +kernel
theorem dX7_payHands_40 : decode cX7_payHands 40 = .ok (.ifCond .lt 25, 3) := by decide +kernel
theorem dX7_payHands_43 : decode cX7_payHands 43 = .ok (.aload_n 1, 1) := by decide +kernel
theorem dX7_payHands_44 : decode cX7_payHands 44 = .ok (.getfield 402, 3) := by decide +kernel
theorem dX7_payHands_47 : decode cX7_payHands 47 = .ok (.aload_n 2, 1) := by decide +kernel
theorem dX7_payHands_48 : decode cX7_payHands 48 = .ok (.arraylength, 1) := by decide +kernel
theorem dX7_payHands_49 : decode cX7_payHands 49 = .ok (.if_icmp .ge 16, 3) := by decide +kernel
theorem dX7_payHands_52 : decode cX7_payHands 52 = .ok (.aload_n 2, 1) := by decide +kernel
theorem dX7_payHands_53 : decode cX7_payHands 53 = .ok (.aload_n 1, 1) := by decide +kernel
theorem dX7_payHands_54 : decode cX7_payHands 54 = .ok (.getfield 402, 3) := by decide +kernel
theorem dX7_payHands_57 : decode cX7_payHands 57 = .ok (.dup2, 1) := by decide +kernel
theorem dX7_payHands_58 : decode cX7_payHands 58 = .ok (.iaload, 1) := by decide +kernel
theorem dX7_payHands_59 : decode cX7_payHands 59 = .ok (.aload_n 1, 1) := by decide +kernel
theorem dX7_payHands_60 : decode cX7_payHands 60 = .ok (.getfield 395, 3) := by decide +kernel
theorem dX7_payHands_63 : decode cX7_payHands 63 = .ok (.iadd, 1) := by decide +kernel
theorem dX7_payHands_64 : decode cX7_payHands 64 = .ok (.iastore, 1) := by decide +kernel
theorem dX7_payHands_65 : decode cX7_payHands 65 = .ok (.return_, 1) := by decide +kernel
end
section
theorem dX8_init_0 : decode cX8_init 0 = .ok (.aload_n 0, 1) := by decide +kernel
theorem dX8_init_1 : decode cX8_init 1 = .ok (.invokespecial 1, 3) := by decide +kernel
theorem dX8_init_4 : decode cX8_init 4 = .ok (.aload_n 0, 1) := by decide +kernel
theorem dX8_init_5 : decode cX8_init 5 = .ok (.sipush 200, 3) := by decide +kernel
theorem dX8_init_8 : decode cX8_init 8 = .ok (.newarray .int, 2) := by decide +kernel
theorem dX8_init_10 : decode cX8_init 10 = .ok (.putfield 7, 3) := by decide +kernel
theorem dX8_init_13 : decode cX8_init 13 = .ok (.aload_n 0, 1) := by decide +kernel
theorem dX8_init_14 : decode cX8_init 14 = .ok (.sipush 200, 3) := by decide +kernel
theorem dX8_init_17 : decode cX8_init 17 = .ok (.newarray .int, 2) := by decide +kernel
theorem dX8_init_19 : decode cX8_init 19 = .ok (.putfield 13, 3) := by decide +kernel
theorem dX8_init_22 : decode cX8_init 22 = .ok (.aload_n 0, 1) := by decide +kernel
theorem dX8_init_23 : decode cX8_init 23 = .ok (.sipush 200, 3) := by decide +kernel
theorem dX8_init_26 : decode cX8_init 26 = .ok (.newarray .int, 2) := by decide +kernel
theorem dX8_init_28 : decode cX8_init 28 = .ok (.putfield 16, 3) := by decide +kernel
theorem dX8_init_31 : decode cX8_init 31 = .ok (.aload_n 0, 1) := by decide +kernel
theorem dX8_init_32 : decode cX8_init 32 = .ok (.sipush 200, 3) := by decide +kernel
theorem dX8_init_35 : decode cX8_init 35 = .ok (.newarray .int, 2) := by decide +kernel
theorem dX8_init_37 : decode cX8_init 37 = .ok (.putfield 19, 3) := by decide +kernel
theorem dX8_init_40 : decode cX8_init 40 = .ok (.aload_n 0, 1) := by decide +kernel
theorem dX8_init_41 : decode cX8_init 41 = .ok (.sipush 200, 3) := by decide +kernel
theorem dX8_init_44 : decode cX8_init 44 = .ok (.newarray .int, 2) := by decide +kernel
theorem dX8_init_46 : decode cX8_init 46 = .ok (.putfield 22, 3) := by decide +kernel
theorem dX8_init_49 : decode cX8_init 49 = .ok (.aload_n 0, 1) := by decide +kernel
theorem dX8_init_50 : decode cX8_init 50 = .ok (.sipush 200, 3) := by decide +kernel
theorem dX8_init_53 : decode cX8_init 53 = .ok (.newarray .boolean, 2) := by decide +kernel
theorem dX8_init_55 : decode cX8_init 55 = .ok (.putfield 25, 3) := by decide +kernel
theorem dX8_init_58 : decode cX8_init 58 = .ok (.aload_n 0, 1) := by decide +kernel
theorem dX8_init_59 : decode cX8_init 59 = .ok (.sipush 1200, 3) := by decide +kernel
theorem dX8_init_62 : decode cX8_init 62 = .ok (.newarray .int, 2) := by decide +kernel
theorem dX8_init_64 : decode cX8_init 64 = .ok (.putfield 29, 3) := by decide +kernel
theorem dX8_init_67 : decode cX8_init 67 = .ok (.aload_n 0, 1) := by decide +kernel
theorem dX8_init_68 : decode cX8_init 68 = .ok (.bipush 6, 2) := by decide +kernel
theorem dX8_init_70 : decode cX8_init 70 = .ok (.newarray .int, 2) := by decide +kernel
theorem dX8_init_72 : decode cX8_init 72 = .ok (.putfield 32, 3) := by decide +kernel
theorem dX8_init_75 : decode cX8_init 75 = .ok (.aload_n 0, 1) := by decide +kernel
theorem dX8_init_76 : decode cX8_init 76 = .ok (.bipush 40, 2) := by decide +kernel
theorem dX8_init_78 : decode cX8_init 78 = .ok (.newarray .int, 2) := by decide +kernel
theorem dX8_init_80 : decode cX8_init 80 = .ok (.putfield 35, 3) := by decide +kernel
theorem dX8_init_83 : decode cX8_init 83 = .ok (.aload_n 0, 1) := by decide +kernel
theorem dX8_init_84 : decode cX8_init 84 = .ok (.bipush 40, 2) := by decide +kernel
theorem dX8_init_86 : decode cX8_init 86 = .ok (.newarray .int, 2) := by decide +kernel
theorem dX8_init_88 : decode cX8_init 88 = .ok (.putfield 38, 3) := by decide +kernel
theorem dX8_init_91 : decode cX8_init 91 = .ok (.aload_n 0, 1) := by decide +kernel
theorem dX8_init_92 : decode cX8_init 92 = .ok (.bipush 40, 2) := by decide +kernel
theorem dX8_init_94 : decode cX8_init 94 = .ok (.newarray .int, 2) := by decide +kernel
theorem dX8_init_96 : decode cX8_init 96 = .ok (.putfield 41, 3) := by decide +kernel
theorem dX8_init_99 : decode cX8_init 99 = .ok (.aload_n 0, 1) := by decide +kernel
theorem dX8_init_100 : decode cX8_init 100 = .ok (.bipush 40, 2) := by decide +kernel
theorem dX8_init_102 : decode cX8_init 102 = .ok (.newarray .int, 2) := by decide +kernel
theorem dX8_init_104 : decode cX8_init 104 = .ok (.putfield 44, 3) := by decide +kernel
theorem dX8_init_107 : decode cX8_init 107 = .ok (.aload_n 0, 1) := by decide +kernel
theorem dX8_init_108 : decode cX8_init 108 = .ok (.bipush 40, 2) := by decide +kernel
theorem dX8_init_110 : decode cX8_init 110 = .ok (.newarray .int, 2) := by decide +kernel
theorem dX8_init_112 : decode cX8_init 112 = .ok (.putfield 47, 3) := by decide +kernel
theorem dX8_init_115 : decode cX8_init 115 = .ok (.aload_n 0, 1) := by decide +kernel
theorem dX8_init_116 : decode cX8_init 116 = .ok (.bipush 40, 2) := by decide +kernel
theorem dX8_init_118 : decode cX8_init 118 = .ok (.newarray .int, 2) := by decide +kernel
theorem dX8_init_120 : decode cX8_init 120 = .ok (.putfield 50, 3) := by decide +kernel
theorem dX8_init_123 : decode cX8_init 123 = .ok (.aload_n 0, 1) := by decide +kernel
theorem dX8_init_124 : decode cX8_init 124 = .ok (.bipush 40, 2) := by decide +kernel
theorem dX8_init_126 : decode cX8_init 126 = .ok (.newarray .boolean, 2) := by decide +kernel
theorem dX8_init_128 : decode cX8_init 128 = .ok (.putfield 53, 3) := by decide +kernel
theorem dX8_init_131 : decode cX8_init 131 = .ok (.aload_n 0, 1) := by decide +kernel
theorem dX8_init_132 : decode cX8_init 132 = .ok (.bipush 40, 2) := by decide +kernel
theorem dX8_init_134 : decode cX8_init 134 = .ok (.newarray .int, 2) := by decide +kernel
theorem dX8_init_136 : decode cX8_init 136 = .ok (.putfield 56, 3) := by decide +kernel
theorem dX8_init_139 : decode cX8_init 139 = .ok (.aload_n 0, 1) := by decide +kernel
theorem dX8_init_140 : decode cX8_init 140 = .ok (.bipush 40, 2) := by decide +kernel
theorem dX8_init_142 : decode cX8_init 142 = .ok (.newarray .boolean, 2) := by decide +kernel
theorem dX8_init_144 : decode cX8_init 144 = .ok (.putfield 59, 3) := by decide +kernel
theorem dX8_init_147 : decode cX8_init 147 = .ok (.aload_n 0, 1) := by decide +kernel
theorem dX8_init_148 : decode cX8_init 148 = .ok (.bipush 40, 2) := by decide +kernel
theorem dX8_init_150 : decode cX8_init 150 = .ok (.newarray .int, 2) := by decide +kernel
theorem dX8_init_152 : decode cX8_init 152 = .ok (.putfield 62, 3) := by decide +kernel
theorem dX8_init_155 : decode cX8_init 155 = .ok (.aload_n 0, 1) := by decide +kernel
theorem dX8_init_156 : decode cX8_init 156 = .ok (.bipush 40, 2) := by decide +kernel
theorem dX8_init_158 : decode cX8_init 158 = .ok (.newarray .int, 2) := by decide +kernel
theorem dX8_init_160 : decode cX8_init 160 = .ok (.putfield 65, 3) := by decide +kernel
theorem dX8_init_163 : decode cX8_init 163 = .ok (.aload_n 0, 1) := by decide +kernel
theorem dX8_init_164 : decode cX8_init 164 = .ok (.bipush 40, 2) := by decide +kernel
theorem dX8_init_166 : decode cX8_init 166 = .ok (.newarray .int, 2) := by decide +kernel
theorem dX8_init_168 : decode cX8_init 168 = .ok (.putfield 68, 3) := by decide +kernel
theorem dX8_init_171 : decode cX8_init 171 = .ok (.aload_n 0, 1) := by decide +kernel
theorem dX8_init_172 : decode cX8_init 172 = .ok (.bipush 40, 2) := by decide +kernel
theorem dX8_init_174 : decode cX8_init 174 = .ok (.newarray .int, 2) := by decide +kernel
theorem dX8_init_176 : decode cX8_init 176 = .ok (.putfield 71, 3) := by decide +kernel
theorem dX8_init_179 : decode cX8_init 179 = .ok (.aload_n 0, 1) := by decide +kernel
theorem dX8_init_180 : decode cX8_init 180 = .ok (.bipush 8, 2) := by decide +kernel
theorem dX8_init_182 : decode cX8_init 182 = .ok (.newarray .int, 2) := by decide +kernel
theorem dX8_init_184 : decode cX8_init 184 = .ok (.putfield 74, 3) := by decide +kernel
theorem dX8_init_187 : decode cX8_init 187 = .ok (.aload_n 0, 1) := by decide +kernel
theorem dX8_init_188 : decode cX8_init 188 = .ok (.bipush 8, 2) := by decide +kernel
theorem dX8_init_190 : decode cX8_init 190 = .ok (.newarray .int, 2) := by decide +kernel
theorem dX8_init_192 : decode cX8_init 192 = .ok (.putfield 77, 3) := by decide +kernel
theorem dX8_init_195 : decode cX8_init 195 = .ok (.aload_n 0, 1) := by decide +kernel
theorem dX8_init_196 : decode cX8_init 196 = .ok (.bipush 8, 2) := by decide +kernel
theorem dX8_init_198 : decode cX8_init 198 = .ok (.newarray .int, 2) := by decide +kernel
theorem dX8_init_200 : decode cX8_init 200 = .ok (.putfield 80, 3) := by decide +kernel
theorem dX8_init_203 : decode cX8_init 203 = .ok (.aload_n 0, 1) := by decide +kernel
theorem dX8_init_204 : decode cX8_init 204 = .ok (.bipush 8, 2) := by decide +kernel
theorem dX8_init_206 : decode cX8_init 206 = .ok (.newarray .int, 2) := by decide +kernel
theorem dX8_init_208 : decode cX8_init 208 = .ok (.putfield 83, 3) := by decide +kernel
theorem dX8_init_211 : decode cX8_init 211 = .ok (.aload_n 0, 1) := by decide +kernel
theorem dX8_init_212 : decode cX8_init 212 = .ok (.bipush 8, 2) := by decide +kernel
theorem dX8_init_214 : decode cX8_init 214 = .ok (.newarray .int, 2) := by decide +kernel
theorem dX8_init_216 : decode cX8_init 216 = .ok (.putfield 86, 3) := by decide +kernel
theorem dX8_init_219 : decode cX8_init 219 = .ok (.aload_n 0, 1) := by decide +kernel
theorem dX8_init_220 : decode cX8_init 220 = .ok (.bipush 8, 2) := by decide +kernel
theorem dX8_init_222 : decode cX8_init 222 = .ok (.newarray .int, 2) := by decide +kernel
theorem dX8_init_224 : decode cX8_init 224 = .ok (.putfield 89, 3) := by decide +kernel
theorem dX8_init_227 : decode cX8_init 227 = .ok (.aload_n 0, 1) := by decide +kernel
theorem dX8_init_228 : decode cX8_init 228 = .ok (.bipush 8, 2) := by decide +kernel
theorem dX8_init_230 : decode cX8_init 230 = .ok (.newarray .int, 2) := by decide +kernel
theorem dX8_init_232 : decode cX8_init 232 = .ok (.putfield 92, 3) := by decide +kernel
theorem dX8_init_235 : decode cX8_init 235 = .ok (.aload_n 0, 1) := by decide +kernel
theorem dX8_init_236 : decode cX8_init 236 = .ok (.bipush 8, 2) := by decide +kernel
theorem dX8_init_238 : decode cX8_init 238 = .ok (.newarray .boolean, 2) := by decide +kernel
theorem dX8_init_240 : decode cX8_init 240 = .ok (.putfield 95, 3) := by decide +kernel
theorem dX8_init_243 : decode cX8_init 243 = .ok (.aload_n 0, 1) := by decide +kernel
theorem dX8_init_244 : decode cX8_init 244 = .ok (.bipush 8, 2) := by decide +kernel
theorem dX8_init_246 : decode cX8_init 246 = .ok (.newarray .boolean, 2) := by decide +kernel
theorem dX8_init_248 : decode cX8_init 248 = .ok (.putfield 98, 3) := by decide +kernel
theorem dX8_init_251 : decode cX8_init 251 = .ok (.aload_n 0, 1) := by decide +kernel
theorem dX8_init_252 : decode cX8_init 252 = .ok (.bipush 48, 2) := by decide +kernel
theorem dX8_init_254 : decode cX8_init 254 = .ok (.newarray .int, 2) := by decide +kernel
theorem dX8_init_256 : decode cX8_init 256 = .ok (.putfield 101, 3) := by decide +kernel
theorem dX8_init_259 : decode cX8_init 259 = .ok (.aload_n 0, 1) := by decide +kernel
theorem dX8_init_260 : decode cX8_init 260 = .ok (.sipush 1600, 3) := by decide +kernel
theorem dX8_init_263 : decode cX8_init 263 = .ok (.newarray .boolean, 2) := by decide +kernel
theorem dX8_init_265 : decode cX8_init 265 = .ok (.putfield 104, 3) := by decide +kernel
theorem dX8_init_268 : decode cX8_init 268 = .ok (.aload_n 0, 1) := by decide +kernel
theorem dX8_init_269 : decode cX8_init 269 = .ok (.bipush 8, 2) := by decide +kernel
theorem dX8_init_271 : decode cX8_init 271 = .ok (.newarray .int, 2) := by decide +kernel
theorem dX8_init_273 : decode cX8_init 273 = .ok (.putfield 107, 3) := by decide +kernel
theorem dX8_init_276 : decode cX8_init 276 = .ok (.aload_n 0, 1) := by decide +kernel
theorem dX8_init_277 : decode cX8_init 277 = .ok (.sipush 320, 3) := by decide +kernel
theorem dX8_init_280 : decode cX8_init 280 = .ok (.newarray .int, 2) := by decide +kernel
theorem dX8_init_282 : decode cX8_init 282 = .ok (.putfield 110, 3) := by decide +kernel
theorem dX8_init_285 : decode cX8_init 285 = .ok (.aload_n 0, 1) := by decide +kernel
theorem dX8_init_286 : decode cX8_init 286 = .ok (.sipush 320, 3) := by decide +kernel
theorem dX8_init_289 : decode cX8_init 289 = .ok (.newarray .int, 2) := by decide +kernel
theorem dX8_init_291 : decode cX8_init 291 = .ok (.putfield 113, 3) := by decide +kernel
theorem dX8_init_294 : decode cX8_init 294 = .ok (.aload_n 0, 1) := by decide +kernel
theorem dX8_init_295 : decode cX8_init 295 = .ok (.sipush 320, 3) := by decide +kernel
theorem dX8_init_298 : decode cX8_init 298 = .ok (.newarray .int, 2) := by decide +kernel
theorem dX8_init_300 : decode cX8_init 300 = .ok (.putfield 116, 3) := by decide +kernel
theorem dX8_init_303 : decode cX8_init 303 = .ok (.aload_n 0, 1) := by decide +kernel
theorem dX8_init_304 : decode cX8_init 304 = .ok (.sipush 320, 3) := by decide +kernel
theorem dX8_init_307 : decode cX8_init 307 = .ok (.newarray .int, 2) := by decide +kernel
theorem dX8_init_309 : decode cX8_init 309 = .ok (.putfield 119, 3) := by decide +kernel
theorem dX8_init_312 : decode cX8_init 312 = .ok (.aload_n 0, 1) := by decide +kernel
theorem dX8_init_313 : decode cX8_init 313 = .ok (.sipush 160, 3) := by decide +kernel
theorem dX8_init_316 : decode cX8_init 316 = .ok (.newarray .int, 2) := by decide +kernel
theorem dX8_init_318 : decode cX8_init 318 = .ok (.putfield 122, 3) := by decide +kernel
theorem dX8_init_321 : decode cX8_init 321 = .ok (.aload_n 0, 1) := by decide +kernel
theorem dX8_init_322 : decode cX8_init 322 = .ok (.sipush 160, 3) := by decide +kernel
theorem dX8_init_325 : decode cX8_init 325 = .ok (.newarray .int, 2) := by decide +kernel
theorem dX8_init_327 : decode cX8_init 327 = .ok (.putfield 125, 3) := by decide +kernel
theorem dX8_init_330 : decode cX8_init 330 = .ok (.aload_n 0, 1) := by decide +kernel
theorem dX8_init_331 : decode cX8_init 331 = .ok (.sipush 160, 3) := by decide +kernel
theorem dX8_init_334 : decode cX8_init 334 = .ok (.newarray .int, 2) := by decide +kernel
theorem dX8_init_336 : decode cX8_init 336 = .ok (.putfield 128, 3) := by decide +kernel
theorem dX8_init_339 : decode cX8_init 339 = .ok (.aload_n 0, 1) := by decide +kernel
theorem dX8_init_340 : decode cX8_init 340 = .ok (.sipush 160, 3) := by decide +kernel
theorem dX8_init_343 : decode cX8_init 343 = .ok (.newarray .int, 2) := by decide +kernel
theorem dX8_init_345 : decode cX8_init 345 = .ok (.putfield 131, 3) := by decide +kernel
theorem dX8_init_348 : decode cX8_init 348 = .ok (.aload_n 0, 1) := by decide +kernel
theorem dX8_init_349 : decode cX8_init 349 = .ok (.bipush 6, 2) := by decide +kernel
theorem dX8_init_351 : decode cX8_init 351 = .ok (.newarray .int, 2) := by decide +kernel
theorem dX8_init_353 : decode cX8_init 353 = .ok (.putfield 134, 3) := by decide +kernel
theorem dX8_init_356 : decode cX8_init 356 = .ok (.aload_n 0, 1) := by decide +kernel
theorem dX8_init_357 : decode cX8_init 357 = .ok (.bipush 8, 2) := by decide +kernel
theorem dX8_init_359 : decode cX8_init 359 = .ok (.newarray .int, 2) := by decide +kernel
theorem dX8_init_361 : decode cX8_init 361 = .ok (.putfield 137, 3) := by decide +kernel
theorem dX8_init_364 : decode cX8_init 364 = .ok (.return_, 1) := by decide +kernel
theorem dX8_thrown_0 : decode cX8_thrown 0 = .ok (.aload_n 0, 1) := by decide +kernel
theorem dX8_thrown_1 : decode cX8_thrown 1 = .ok (.getfield 140, 3) := by decide +kernel
theorem dX8_thrown_4 : decode cX8_thrown 4 = .ok (.ireturn, 1) := by decide +kernel
theorem dX8_isIn_0 : decode cX8_isIn 0 = .ok (.iload_n 0, 1) := by decide +kernel
theorem dX8_isIn_1 : decode cX8_isIn 1 = .ok (.iload_n 1, 1) := by decide +kernel
theorem dX8_isIn_2 : decode cX8_isIn 2 = .ok (.if_icmp .lt 12, 3) := by decide +kernel
theorem dX8_isIn_5 : decode cX8_isIn 5 = .ok (.iload_n 0, 1) := by decide +kernel
theorem dX8_isIn_6 : decode cX8_isIn 6 = .ok (.iload_n 2, 1) := by decide +kernel
theorem dX8_isIn_7 : decode cX8_isIn 7 = .ok (.if_icmp .gt 7, 3) := by decide +kernel
theorem dX8_isIn_10 : decode cX8_isIn 10 = .ok (.iconst 1, 1) := by decide +kernel
theorem dX8_isIn_11 : decode cX8_isIn 11 = .ok (.goto 4, 3) := by decide +kernel
theorem dX8_isIn_14 : decode cX8_isIn 14 = .ok (.iconst 0, 1) := by decide +kernel
theorem dX8_isIn_15 : decode cX8_isIn 15 = .ok (.ireturn, 1) := by decide +kernel
theorem dX8_isHand_0 : decode cX8_isHand 0 = .ok (.iload_n 0, 1) := by decide +kernel
theorem dX8_isHand_1 : decode cX8_isHand 1 = .ok (.iconst 0, 1) := by decide +kernel
theorem dX8_isHand_2 : decode cX8_isHand 2 = .ok (.iconst 5, 1) := by decide +kernel
theorem dX8_isHand_3 : decode cX8_isHand 3 = .ok (.invokestatic 144, 3) := by decide +kernel
theorem dX8_isHand_6 : decode cX8_isHand 6 = .ok (.ireturn, 1) := by decide +kernel
theorem dX8_isBuyer_0 : decode cX8_isBuyer 0 = .ok (.iload_n 0, 1) := by decide +kernel
theorem dX8_isBuyer_1 : decode cX8_isBuyer 1 = .ok (.iconst 0, 1) := by decide +kernel
theorem dX8_isBuyer_2 : decode cX8_isBuyer 2 = .ok (.bipush 7, 2) := by decide +kernel
theorem dX8_isBuyer_4 : decode cX8_isBuyer 4 = .ok (.invokestatic 144, 3) := by decide +kernel
theorem dX8_isBuyer_7 : decode cX8_isBuyer 7 = .ok (.ireturn, 1) := by decide +kernel
theorem dX8_isShape_0 : decode cX8_isShape 0 = .ok (.iload_n 1, 1) := by decide +kernel
theorem dX8_isShape_1 : decode cX8_isShape 1 = .ok (.iconst 0, 1) := by decide +kernel
theorem dX8_isShape_2 : decode cX8_isShape 2 = .ok (.aload_n 0, 1) := by decide +kernel
theorem dX8_isShape_3 : decode cX8_isShape 3 = .ok (.getfield 148, 3) := by decide +kernel
theorem dX8_isShape_6 : decode cX8_isShape 6 = .ok (.iconst 1, 1) := by decide +kernel
theorem dX8_isShape_7 : decode cX8_isShape 7 = .ok (.isub, 1) := by decide +kernel
theorem dX8_isShape_8 : decode cX8_isShape 8 = .ok (.invokestatic 144, 3) := by decide +kernel
theorem dX8_isShape_11 : decode cX8_isShape 11 = .ok (.ireturn, 1) := by decide +kernel
theorem dX8_isAct_0 : decode cX8_isAct 0 = .ok (.iload_n 1, 1) := by decide +kernel
theorem dX8_isAct_1 : decode cX8_isAct 1 = .ok (.iconst 0, 1) := by decide +kernel
theorem dX8_isAct_2 : decode cX8_isAct 2 = .ok (.aload_n 0, 1) := by decide +kernel
theorem dX8_isAct_3 : decode cX8_isAct 3 = .ok (.getfield 151, 3) := by decide +kernel
theorem dX8_isAct_6 : decode cX8_isAct 6 = .ok (.iconst 1, 1) := by decide +kernel
theorem dX8_isAct_7 : decode cX8_isAct 7 = .ok (.isub, 1) := by decide +kernel
theorem dX8_isAct_8 : decode cX8_isAct 8 = .ok (.invokestatic 144, 3) := by decide +kernel
theorem dX8_isAct_11 : decode cX8_isAct 11 = .ok (.ireturn, 1) := by decide +kernel
theorem dX8_isEdition_0 : decode cX8_isEdition 0 = .ok (.iload_n 1, 1) := by decide +kernel
theorem dX8_isEdition_1 : decode cX8_isEdition 1 = .ok (.iconst 0, 1) := by decide +kernel
theorem dX8_isEdition_2 : decode cX8_isEdition 2 = .ok (.aload_n 0, 1) := by decide +kernel
theorem dX8_isEdition_3 : decode cX8_isEdition 3 = .ok (.getfield 154, 3) := by decide +kernel
theorem dX8_isEdition_6 : decode cX8_isEdition 6 = .ok (.iconst 1, 1) := by decide +kernel
theorem dX8_isEdition_7 : decode cX8_isEdition 7 = .ok (.isub, 1) := by decide +kernel
theorem dX8_isEdition_8 : decode cX8_isEdition 8 = .ok (.invokestatic 144, 3) := by decide +kernel
theorem dX8_isEdition_11 : decode cX8_isEdition 11 = .ok (.ireturn, 1) := by decide +kernel
theorem dX8_isCopy_0 : decode cX8_isCopy 0 = .ok (.aload_n 0, 1) := by decide +kernel
theorem dX8_isCopy_1 : decode cX8_isCopy 1 = .ok (.iload_n 1, 1) := by decide +kernel
theorem dX8_isCopy_2 : decode cX8_isCopy 2 = .ok (.invokevirtual 157, 3) := by decide +kernel
theorem dX8_isCopy_5 : decode cX8_isCopy 5 = .ok (.ifCond .eq 35, 3) := by decide +kernel
theorem dX8_isCopy_8 : decode cX8_isCopy 8 = .ok (.iload_n 2, 1) := by decide +kernel
theorem dX8_isCopy_9 : decode cX8_isCopy 9 = .ok (.iconst 0, 1) := by decide +kernel
theorem dX8_isCopy_10 : decode cX8_isCopy 10 = .ok (.aload_n 0, 1) := by decide +kernel
theorem dX8_isCopy_11 : decode cX8_isCopy 11 = .ok (.getfield 89, 3) := by decide +kernel
theorem dX8_isCopy_14 : decode cX8_isCopy 14 = .ok (.aload_n 0, 1) := by decide +kernel
theorem dX8_isCopy_15 : decode cX8_isCopy 15 = .ok (.iload_n 1, 1) := by decide +kernel
theorem dX8_isCopy_16 : decode cX8_isCopy 16 = .ok (.invokevirtual 157, 3) := by decide +kernel
theorem dX8_isCopy_19 : decode cX8_isCopy 19 = .ok (.ifCond .eq 7, 3) := by decide +kernel
theorem dX8_isCopy_22 : decode cX8_isCopy 22 = .ok (.iload_n 1, 1) := by decide +kernel
theorem dX8_isCopy_23 : decode cX8_isCopy 23 = .ok (.goto 4, 3) := by decide +kernel
theorem dX8_isCopy_26 : decode cX8_isCopy 26 = .ok (.iconst 0, 1) := by decide +kernel
theorem dX8_isCopy_27 : decode cX8_isCopy 27 = .ok (.iaload, 1) := by decide +kernel
theorem dX8_isCopy_28 : decode cX8_isCopy 28 = .ok (.iconst 1, 1) := by decide +kernel
theorem dX8_isCopy_29 : decode cX8_isCopy 29 = .ok (.isub, 1) := by decide +kernel
theorem dX8_isCopy_30 : decode cX8_isCopy 30 = .ok (.invokestatic 144, 3) := by decide +kernel
theorem dX8_isCopy_33 : decode cX8_isCopy 33 = .ok (.ifCond .eq 7, 3) := by decide +kernel
theorem dX8_isCopy_36 : decode cX8_isCopy 36 = .ok (.iconst 1, 1) := by decide +kernel
theorem dX8_isCopy_37 : decode cX8_isCopy 37 = .ok (.goto 4, 3) := by decide +kernel
theorem dX8_isCopy_40 : decode cX8_isCopy 40 = .ok (.iconst 0, 1) := by decide +kernel
theorem dX8_isCopy_41 : decode cX8_isCopy 41 = .ok (.ireturn, 1) := by decide +kernel
theorem dX8_takeOut_0 : decode cX8_takeOut 0 = .ok (.iconst 0, 1) := by decide +kernel
theorem dX8_takeOut_1 : decode cX8_takeOut 1 = .ok (.istore_n 2, 1) := by decide +kernel
theorem dX8_takeOut_2 : decode cX8_takeOut 2 = .ok (.iconst 0, 1) := by decide +kernel
theorem dX8_takeOut_3 : decode cX8_takeOut 3 = .ok (.istore_n 3, 1) := by decide +kernel
theorem dX8_takeOut_4 : decode cX8_takeOut 4 = .ok (.iload_n 3, 1) := by decide +kernel
theorem dX8_takeOut_5 : decode cX8_takeOut 5 = .ok (.aload_n 0, 1) := by decide +kernel
theorem dX8_takeOut_6 : decode cX8_takeOut 6 = .ok (.getfield 161, 3) := by decide +kernel
theorem dX8_takeOut_9 : decode cX8_takeOut 9 = .ok (.if_icmp .ge 39, 3) := by decide +kernel
theorem dX8_takeOut_12 : decode cX8_takeOut 12 = .ok (.aload_n 0, 1) := by decide +kernel
theorem dX8_takeOut_13 : decode cX8_takeOut 13 = .ok (.getfield 56, 3) := by decide +kernel
theorem dX8_takeOut_16 : decode cX8_takeOut 16 = .ok (.iload_n 2, 1) := by decide +kernel
theorem dX8_takeOut_17 : decode cX8_takeOut 17 = .ok (.aload_n 0, 1) := by decide +kernel
theorem dX8_takeOut_18 : decode cX8_takeOut 18 = .ok (.getfield 56, 3) := by decide +kernel
theorem dX8_takeOut_21 : decode cX8_takeOut 21 = .ok (.iload_n 3, 1) := by decide +kernel
theorem dX8_takeOut_22 : decode cX8_takeOut 22 = .ok (.iaload, 1) := by decide +kernel
theorem dX8_takeOut_23 : decode cX8_takeOut 23 = .ok (.iastore, 1) := by decide +kernel
theorem dX8_takeOut_24 : decode cX8_takeOut 24 = .ok (.iload_n 2, 1) := by decide +kernel
theorem dX8_takeOut_25 : decode cX8_takeOut 25 = .ok (.aload_n 0, 1) := by decide +kernel
theorem dX8_takeOut_26 : decode cX8_takeOut 26 = .ok (.getfield 56, 3) := by decide +kernel
theorem dX8_takeOut_29 : decode cX8_takeOut 29 = .ok (.iload_n 3, 1) := by decide +kernel
theorem dX8_takeOut_30 : decode cX8_takeOut 30 = .ok (.iaload, 1) := by decide +kernel
theorem dX8_takeOut_31 : decode cX8_takeOut 31 = .ok (.iload_n 1, 1) := by decide +kernel
theorem dX8_takeOut_32 : decode cX8_takeOut 32 = .ok (.if_icmp .ne 7, 3) := by decide +kernel
theorem dX8_takeOut_35 : decode cX8_takeOut 35 = .ok (.iconst 0, 1) := by decide +kernel
theorem dX8_takeOut_36 : decode cX8_takeOut 36 = .ok (.goto 4, 3) := by decide +kernel
theorem dX8_takeOut_39 : decode cX8_takeOut 39 = .ok (.iconst 1, 1) := by decide +kernel
theorem dX8_takeOut_40 : decode cX8_takeOut 40 = .ok (.iadd, 1) := by decide +kernel
theorem dX8_takeOut_41 : decode cX8_takeOut 41 = .ok (.istore_n 2, 1) := by decide +kernel
theorem dX8_takeOut_42 : decode cX8_takeOut 42 = .ok (.iinc 3 1, 3) := by decide +kernel
theorem dX8_takeOut_45 : decode cX8_takeOut 45 = .ok (.goto (-41), 3) := by decide +kernel
theorem dX8_takeOut_48 : decode cX8_takeOut 48 = .ok (.aload_n 0, 1) := by decide +kernel
theorem dX8_takeOut_49 : decode cX8_takeOut 49 = .ok (.iload_n 2, 1) := by decide +kernel
theorem dX8_takeOut_50 : decode cX8_takeOut 50 = .ok (.putfield 161, 3) := by decide +kernel
theorem dX8_takeOut_53 : decode cX8_takeOut 53 = .ok (.return_, 1) := by decide +kernel
theorem dX8_putIn_0 : decode cX8_putIn 0 = .ok (.aload_n 0, 1) := by decide +kernel
theorem dX8_putIn_1 : decode cX8_putIn 1 = .ok (.getfield 161, 3) := by decide +kernel
theorem dX8_putIn_4 : decode cX8_putIn 4 = .ok (.istore_n 3, 1) := by decide +kernel
theorem dX8_putIn_5 : decode cX8_putIn 5 = .ok (.iload_n 3, 1) := by decide +kernel
theorem dX8_putIn_6 : decode cX8_putIn 6 = .ok (.ifCond .le 27, 3) := by decide +kernel
theorem dX8_putIn_9 : decode cX8_putIn 9 = .ok (.iload_n 2, 1) := by decide +kernel
theorem dX8_putIn_10 : decode cX8_putIn 10 = .ok (.ifCond .ne 23, 3) := by decide +kernel
theorem dX8_putIn_13 : decode cX8_putIn 13 = .ok (.aload_n 0, 1) := by decide +kernel
theorem dX8_putIn_14 : decode cX8_putIn 14 = .ok (.getfield 56, 3) := by decide +kernel
theorem dX8_putIn_17 : decode cX8_putIn 17 = .ok (.iload_n 3, 1) := by decide +kernel
theorem dX8_putIn_18 : decode cX8_putIn 18 = .ok (.aload_n 0, 1) := by decide +kernel
theorem dX8_putIn_19 : decode cX8_putIn 19 = .ok (.getfield 56, 3) := by decide +kernel
theorem dX8_putIn_22 : decode cX8_putIn 22 = .ok (.iload_n 3, 1) := by decide +kernel
theorem dX8_putIn_23 : decode cX8_putIn 23 = .ok (.iconst 1, 1) := by decide +kernel
theorem dX8_putIn_24 : decode cX8_putIn 24 = .ok (.isub, 1) := by decide +kernel
theorem dX8_putIn_25 : decode cX8_putIn 25 = .ok (.iaload, 1) := by decide +kernel
theorem dX8_putIn_26 : decode cX8_putIn 26 = .ok (.iastore, 1) := by decide +kernel
theorem dX8_putIn_27 : decode cX8_putIn 27 = .ok (.iinc 3 (-1), 3) := by decide +kernel
theorem dX8_putIn_30 : decode cX8_putIn 30 = .ok (.goto (-25), 3) := by decide +kernel
theorem dX8_putIn_33 : decode cX8_putIn 33 = .ok (.aload_n 0, 1) := by decide +kernel
theorem dX8_putIn_34 : decode cX8_putIn 34 = .ok (.getfield 56, 3) := by decide +kernel
theorem dX8_putIn_37 : decode cX8_putIn 37 = .ok (.iload_n 2, 1) := by decide +kernel
theorem dX8_putIn_38 : decode cX8_putIn 38 = .ok (.ifCond .eq 10, 3) := by decide +kernel
theorem dX8_putIn_41 : decode cX8_putIn 41 = .ok (.aload_n 0, 1) := by decide +kernel
theorem dX8_putIn_42 : decode cX8_putIn 42 = .ok (.getfield 161, 3) := by decide +kernel
theorem dX8_putIn_45 : decode cX8_putIn 45 = .ok (.goto 4, 3) := by decide +kernel
theorem dX8_putIn_48 : decode cX8_putIn 48 = .ok (.iconst 0, 1) := by decide +kernel
theorem dX8_putIn_49 : decode cX8_putIn 49 = .ok (.iload_n 1, 1) := by decide +kernel
theorem dX8_putIn_50 : decode cX8_putIn 50 = .ok (.iastore, 1) := by decide +kernel
theorem dX8_putIn_51 : decode cX8_putIn 51 = .ok (.aload_n 0, 1) := by decide +kernel
theorem dX8_putIn_52 : decode cX8_putIn 52 = .ok (.dup, 1) := by decide +kernel
theorem dX8_putIn_53 : decode cX8_putIn 53 = .ok (.getfield 161, 3) := by decide +kernel
theorem dX8_putIn_56 : decode cX8_putIn 56 = .ok (.iconst 1, 1) := by decide +kernel
theorem dX8_putIn_57 : decode cX8_putIn 57 = .ok (.iadd, 1) := by decide +kernel
theorem dX8_putIn_58 : decode cX8_putIn 58 = .ok (.putfield 161, 3) := by decide +kernel
theorem dX8_putIn_61 : decode cX8_putIn 61 = .ok (.return_, 1) := by decide +kernel
theorem dX8_freeGroup_0 : decode cX8_freeGroup 0 = .ok (.iconst 0, 1) := by decide +kernel
theorem dX8_freeGroup_1 : decode cX8_freeGroup 1 = .ok (.istore_n 1, 1) := by decide +kernel
theorem dX8_freeGroup_2 : decode cX8_freeGroup 2 = .ok (.iconst 0, 1) := by decide +kernel
theorem dX8_freeGroup_3 : decode cX8_freeGroup 3 = .ok (.istore_n 2, 1) := by decide +kernel
theorem dX8_freeGroup_4 : decode cX8_freeGroup 4 = .ok (.iload_n 2, 1) := by decide +kernel
theorem dX8_freeGroup_5 : decode cX8_freeGroup 5 = .ok (.ifCond .ne 65, 3) := by decide +kernel
theorem dX8_freeGroup_8 : decode cX8_freeGroup 8 = .ok (.iconst 1, 1) := by decide +kernel
theorem dX8_freeGroup_9 : decode cX8_freeGroup 9 = .ok (.istore_n 2, 1) := by decide +kernel
theorem dX8_freeGroup_10 : decode cX8_freeGroup 10 = .ok (.iconst 0, 1) := by decide +kernel
theorem dX8_freeGroup_11 : decode cX8_freeGroup 11 = .ok (.istore_n 3, 1) := by decide +kernel
theorem dX8_freeGroup_12 : decode cX8_freeGroup 12 = .ok (.iload_n 3, 1) := by decide +kernel
theorem dX8_freeGroup_13 : decode cX8_freeGroup 13 = .ok (.aload_n 0, 1) := by decide +kernel
theorem dX8_freeGroup_14 : decode cX8_freeGroup 14 = .ok (.getfield 148, 3) := by decide +kernel
theorem dX8_freeGroup_17 : decode cX8_freeGroup 17 = .ok (.if_icmp .ge 38, 3) := by decide +kernel
theorem dX8_freeGroup_20 : decode cX8_freeGroup 20 = .ok (.iload_n 2, 1) := by decide +kernel
theorem dX8_freeGroup_21 : decode cX8_freeGroup 21 = .ok (.ifCond .eq 26, 3) := by decide +kernel
theorem dX8_freeGroup_24 : decode cX8_freeGroup 24 = .ok (.aload_n 0, 1) := by decide +kernel
theorem dX8_freeGroup_25 : decode cX8_freeGroup 25 = .ok (.getfield 59, 3) := by decide +kernel
theorem dX8_freeGroup_28 : decode cX8_freeGroup 28 = .ok (.iload_n 3, 1) := by decide +kernel
theorem dX8_freeGroup_29 : decode cX8_freeGroup 29 = .ok (.baload, 1) := by decide +kernel
theorem dX8_freeGroup_30 : decode cX8_freeGroup 30 = .ok (.ifCond .eq 13, 3) := by decide +kernel
theorem dX8_freeGroup_33 : decode cX8_freeGroup 33 = .ok (.aload_n 0, 1) := by decide +kernel
theorem dX8_freeGroup_34 : decode cX8_freeGroup 34 = .ok (.getfield 71, 3) := by decide +kernel
theorem dX8_freeGroup_37 : decode cX8_freeGroup 37 = .ok (.iload_n 3, 1) := by decide +kernel
theorem dX8_freeGroup_38 : decode cX8_freeGroup 38 = .ok (.iaload, 1) := by decide +kernel
theorem dX8_freeGroup_39 : decode cX8_freeGroup 39 = .ok (.iload_n 1, 1) := by decide +kernel
theorem dX8_freeGroup_40 : decode cX8_freeGroup 40 = .ok (.if_icmp .eq 7, 3) := by decide +kernel
theorem dX8_freeGroup_43 : decode cX8_freeGroup 43 = .ok (.iconst 1, 1) := by decide +kernel
theorem dX8_freeGroup_44 : decode cX8_freeGroup 44 = .ok (.goto 4, 3) := by decide +kernel
theorem dX8_freeGroup_47 : decode cX8_freeGroup 47 = .ok (.iconst 0, 1) := by decide +kernel
theorem dX8_freeGroup_48 : decode cX8_freeGroup 48 = .ok (.istore_n 2, 1) := by decide +kernel
theorem dX8_freeGroup_49 : decode cX8_freeGroup 49 = .ok (.iinc 3 1, 3) := by decide +kernel
theorem dX8_freeGroup_52 : decode cX8_freeGroup 52 = .ok (.goto (-40), 3) := by decide +kernel
theorem dX8_freeGroup_55 : decode cX8_freeGroup 55 = .ok (.iload_n 1, 1) := by decide +kernel
theorem dX8_freeGroup_56 : decode cX8_freeGroup 56 = .ok (.iload_n 2, 1) := by decide +kernel
theorem dX8_freeGroup_57 : decode cX8_freeGroup 57 = .ok (.ifCond .eq 7, 3) := by decide +kernel
theorem dX8_freeGroup_60 : decode cX8_freeGroup 60 = .ok (.iconst 0, 1) := by decide +kernel
theorem dX8_freeGroup_61 : decode cX8_freeGroup 61 = .ok (.goto 4, 3) := by decide +kernel
theorem dX8_freeGroup_64 : decode cX8_freeGroup 64 = .ok (.iconst 1, 1) := by decide +kernel
theorem dX8_freeGroup_65 : decode cX8_freeGroup 65 = .ok (.iadd, 1) := by decide +kernel
theorem dX8_freeGroup_66 : decode cX8_freeGroup 66 = .ok (.istore_n 1, 1) := by decide +kernel
theorem dX8_freeGroup_67 : decode cX8_freeGroup 67 = .ok (.goto (-63), 3) := by decide +kernel
theorem dX8_freeGroup_70 : decode cX8_freeGroup 70 = .ok (.iload_n 1, 1) := by decide +kernel
theorem dX8_freeGroup_71 : decode cX8_freeGroup 71 = .ok (.ireturn, 1) := by decide +kernel
theorem dX8_comes_0 : decode cX8_comes 0 = .ok (.aload_n 0, 1) := by decide +kernel
theorem dX8_comes_1 : decode cX8_comes 1 = .ok (.getfield 59, 3) := by decide +kernel
theorem dX8_comes_4 : decode cX8_comes 4 = .ok (.iload_n 1, 1) := by decide +kernel
theorem dX8_comes_5 : decode cX8_comes 5 = .ok (.iconst 0, 1) := by decide +kernel
theorem dX8_comes_6 : decode cX8_comes 6 = .ok (.bastore, 1) := by decide +kernel
theorem dX8_comes_7 : decode cX8_comes 7 = .ok (.aload_n 0, 1) := by decide +kernel
theorem dX8_comes_8 : decode cX8_comes 8 = .ok (.getfield 71, 3) := by decide +kernel
theorem dX8_comes_11 : decode cX8_comes 11 = .ok (.iload_n 1, 1) := by decide +kernel
theorem dX8_comes_12 : decode cX8_comes 12 = .ok (.aload_n 0, 1) := by decide +kernel
theorem dX8_comes_13 : decode cX8_comes 13 = .ok (.invokevirtual 164, 3) := by decide +kernel
theorem dX8_comes_16 : decode cX8_comes 16 = .ok (.iastore, 1) := by decide +kernel
theorem dX8_comes_17 : decode cX8_comes 17 = .ok (.aload_n 0, 1) := by decide +kernel
theorem dX8_comes_18 : decode cX8_comes 18 = .ok (.getfield 59, 3) := by decide +kernel
theorem dX8_comes_21 : decode cX8_comes 21 = .ok (.iload_n 1, 1) := by decide +kernel
theorem dX8_comes_22 : decode cX8_comes 22 = .ok (.iconst 1, 1) := by decide +kernel
theorem dX8_comes_23 : decode cX8_comes 23 = .ok (.bastore, 1) := by decide +kernel
theorem dX8_comes_24 : decode cX8_comes 24 = .ok (.aload_n 0, 1) := by decide +kernel
theorem dX8_comes_25 : decode cX8_comes 25 = .ok (.getfield 62, 3) := by decide +kernel
theorem dX8_comes_28 : decode cX8_comes 28 = .ok (.iload_n 1, 1) := by decide +kernel
theorem dX8_comes_29 : decode cX8_comes 29 = .ok (.aload_n 0, 1) := by decide +kernel
theorem dX8_comes_30 : decode cX8_comes 30 = .ok (.getfield 44, 3) := by decide +kernel
theorem dX8_comes_33 : decode cX8_comes 33 = .ok (.iload_n 1, 1) := by decide +kernel
theorem dX8_comes_34 : decode cX8_comes 34 = .ok (.iaload, 1) := by decide +kernel
theorem dX8_comes_35 : decode cX8_comes 35 = .ok (.iastore, 1) := by decide +kernel
theorem dX8_comes_36 : decode cX8_comes 36 = .ok (.aload_n 0, 1) := by decide +kernel
theorem dX8_comes_37 : decode cX8_comes 37 = .ok (.getfield 65, 3) := by decide +kernel
theorem dX8_comes_40 : decode cX8_comes 40 = .ok (.iload_n 1, 1) := by decide +kernel
theorem dX8_comes_41 : decode cX8_comes 41 = .ok (.aload_n 0, 1) := by decide +kernel
theorem dX8_comes_42 : decode cX8_comes 42 = .ok (.getfield 47, 3) := by decide +kernel
theorem dX8_comes_45 : decode cX8_comes 45 = .ok (.iload_n 1, 1) := by decide +kernel
theorem dX8_comes_46 : decode cX8_comes 46 = .ok (.iaload, 1) := by decide +kernel
theorem dX8_comes_47 : decode cX8_comes 47 = .ok (.iastore, 1) := by decide +kernel
theorem dX8_comes_48 : decode cX8_comes 48 = .ok (.aload_n 0, 1) := by decide +kernel
theorem dX8_comes_49 : decode cX8_comes 49 = .ok (.getfield 68, 3) := by decide +kernel
theorem dX8_comes_52 : decode cX8_comes 52 = .ok (.iload_n 1, 1) := by decide +kernel
theorem dX8_comes_53 : decode cX8_comes 53 = .ok (.aload_n 0, 1) := by decide +kernel
theorem dX8_comes_54 : decode cX8_comes 54 = .ok (.getfield 50, 3) := by decide +kernel
theorem dX8_comes_57 : decode cX8_comes 57 = .ok (.iload_n 1, 1) := by decide +kernel
theorem dX8_comes_58 : decode cX8_comes 58 = .ok (.iaload, 1) := by decide +kernel
theorem dX8_comes_59 : decode cX8_comes 59 = .ok (.iastore, 1) := by decide +kernel
theorem dX8_comes_60 : decode cX8_comes 60 = .ok (.aload_n 0, 1) := by decide +kernel
theorem dX8_comes_61 : decode cX8_comes 61 = .ok (.iload_n 1, 1) := by decide +kernel
theorem dX8_comes_62 : decode cX8_comes 62 = .ok (.iconst 1, 1) := by decide +kernel
theorem dX8_comes_63 : decode cX8_comes 63 = .ok (.invokevirtual 168, 3) := by decide +kernel
theorem dX8_comes_66 : decode cX8_comes 66 = .ok (.return_, 1) := by decide +kernel
theorem dX8_moves_0 : decode cX8_moves 0 = .ok (.iconst 0, 1) := by decide +kernel
theorem dX8_moves_1 : decode cX8_moves 1 = .ok (.istore 4, 2) := by decide +kernel
theorem dX8_moves_3 : decode cX8_moves 3 = .ok (.iload 4, 2) := by decide +kernel
theorem dX8_moves_5 : decode cX8_moves 5 = .ok (.aload_n 0, 1) := by decide +kernel
theorem dX8_moves_6 : decode cX8_moves 6 = .ok (.getfield 148, 3) := by decide +kernel
theorem dX8_moves_9 : decode cX8_moves 9 = .ok (.if_icmp .ge 57, 3) := by decide +kernel
theorem dX8_moves_12 : decode cX8_moves 12 = .ok (.aload_n 0, 1) := by decide +kernel
theorem dX8_moves_13 : decode cX8_moves 13 = .ok (.getfield 59, 3) := by decide +kernel
theorem dX8_moves_16 : decode cX8_moves 16 = .ok (.iload 4, 2) := by decide +kernel
theorem dX8_moves_18 : decode cX8_moves 18 = .ok (.baload, 1) := by decide +kernel
theorem dX8_moves_19 : decode cX8_moves 19 = .ok (.ifCond .eq 41, 3) := by decide +kernel
theorem dX8_moves_22 : decode cX8_moves 22 = .ok (.aload_n 0, 1) := by decide +kernel
theorem dX8_moves_23 : decode cX8_moves 23 = .ok (.getfield 71, 3) := by decide +kernel
theorem dX8_moves_26 : decode cX8_moves 26 = .ok (.iload 4, 2) := by decide +kernel
theorem dX8_moves_28 : decode cX8_moves 28 = .ok (.iaload, 1) := by decide +kernel
theorem dX8_moves_29 : decode cX8_moves 29 = .ok (.aload_n 0, 1) := by decide +kernel
theorem dX8_moves_30 : decode cX8_moves 30 = .ok (.getfield 71, 3) := by decide +kernel
theorem dX8_moves_33 : decode cX8_moves 33 = .ok (.iload_n 1, 1) := by decide +kernel
theorem dX8_moves_34 : decode cX8_moves 34 = .ok (.iaload, 1) := by decide +kernel
theorem dX8_moves_35 : decode cX8_moves 35 = .ok (.if_icmp .ne 25, 3) := by decide +kernel
theorem dX8_moves_38 : decode cX8_moves 38 = .ok (.aload_n 0, 1) := by decide +kernel
theorem dX8_moves_39 : decode cX8_moves 39 = .ok (.getfield 62, 3) := by decide +kernel
theorem dX8_moves_42 : decode cX8_moves 42 = .ok (.iload 4, 2) := by decide +kernel
theorem dX8_moves_44 : decode cX8_moves 44 = .ok (.dup2, 1) := by decide +kernel
theorem dX8_moves_45 : decode cX8_moves 45 = .ok (.iaload, 1) := by decide +kernel
theorem dX8_moves_46 : decode cX8_moves 46 = .ok (.iload_n 2, 1) := by decide +kernel
theorem dX8_moves_47 : decode cX8_moves 47 = .ok (.iadd, 1) := by decide +kernel
theorem dX8_moves_48 : decode cX8_moves 48 = .ok (.iastore, 1) := by decide +kernel
theorem dX8_moves_49 : decode cX8_moves 49 = .ok (.aload_n 0, 1) := by decide +kernel
theorem dX8_moves_50 : decode cX8_moves 50 = .ok (.getfield 65, 3) := by decide +kernel
theorem dX8_moves_53 : decode cX8_moves 53 = .ok (.iload 4, 2) := by decide +kernel
theorem dX8_moves_55 : decode cX8_moves 55 = .ok (.dup2, 1) := by decide +kernel
theorem dX8_moves_56 : decode cX8_moves 56 = .ok (.iaload, 1) := by decide +kernel
theorem dX8_moves_57 : decode cX8_moves 57 = .ok (.iload_n 3, 1) := by decide +kernel
theorem dX8_moves_58 : decode cX8_moves 58 = .ok (.iadd, 1) := by decide +kernel
theorem dX8_moves_59 : decode cX8_moves 59 = .ok (.iastore, 1) := by decide +kernel
theorem dX8_moves_60 : decode cX8_moves 60 = .ok (.iinc 4 1, 3) := by decide +kernel
theorem dX8_moves_63 : decode cX8_moves 63 = .ok (.goto (-60), 3) := by decide +kernel
theorem dX8_moves_66 : decode cX8_moves 66 = .ok (.return_, 1) := by decide +kernel
theorem dX8_joins_0 : decode cX8_joins 0 = .ok (.aload_n 0, 1) := by decide +kernel
theorem dX8_joins_1 : decode cX8_joins 1 = .ok (.getfield 71, 3) := by decide +kernel
theorem dX8_joins_4 : decode cX8_joins 4 = .ok (.iload_n 2, 1) := by decide +kernel
theorem dX8_joins_5 : decode cX8_joins 5 = .ok (.iaload, 1) := by decide +kernel
theorem dX8_joins_6 : decode cX8_joins 6 = .ok (.istore_n 3, 1) := by decide +kernel
theorem dX8_joins_7 : decode cX8_joins 7 = .ok (.iconst 0, 1) := by decide +kernel
theorem dX8_joins_8 : decode cX8_joins 8 = .ok (.istore 4, 2) := by decide +kernel
theorem dX8_joins_10 : decode cX8_joins 10 = .ok (.iload 4, 2) := by decide +kernel
theorem dX8_joins_12 : decode cX8_joins 12 = .ok (.aload_n 0, 1) := by decide +kernel
theorem dX8_joins_13 : decode cX8_joins 13 = .ok (.getfield 148, 3) := by decide +kernel
theorem dX8_joins_16 : decode cX8_joins 16 = .ok (.if_icmp .ge 53, 3) := by decide +kernel
theorem dX8_joins_19 : decode cX8_joins 19 = .ok (.aload_n 0, 1) := by decide +kernel
theorem dX8_joins_20 : decode cX8_joins 20 = .ok (.getfield 71, 3) := by decide +kernel
theorem dX8_joins_23 : decode cX8_joins 23 = .ok (.iload 4, 2) := by decide +kernel
theorem dX8_joins_25 : decode cX8_joins 25 = .ok (.aload_n 0, 1) := by decide +kernel
theorem dX8_joins_26 : decode cX8_joins 26 = .ok (.getfield 59, 3) := by decide +kernel
theorem dX8_joins_29 : decode cX8_joins 29 = .ok (.iload 4, 2) := by decide +kernel
theorem dX8_joins_31 : decode cX8_joins 31 = .ok (.baload, 1) := by decide +kernel
theorem dX8_joins_32 : decode cX8_joins 32 = .ok (.ifCond .eq 23, 3) := by decide +kernel
theorem dX8_joins_35 : decode cX8_joins 35 = .ok (.aload_n 0, 1) := by decide +kernel
theorem dX8_joins_36 : decode cX8_joins 36 = .ok (.getfield 71, 3) := by decide +kernel
theorem dX8_joins_39 : decode cX8_joins 39 = .ok (.iload 4, 2) := by decide +kernel
theorem dX8_joins_41 : decode cX8_joins 41 = .ok (.iaload, 1) := by decide +kernel
theorem dX8_joins_42 : decode cX8_joins 42 = .ok (.iload_n 3, 1) := by decide +kernel
theorem dX8_joins_43 : decode cX8_joins 43 = .ok (.if_icmp .ne 12, 3) := by decide +kernel
theorem dX8_joins_46 : decode cX8_joins 46 = .ok (.aload_n 0, 1) := by decide +kernel
theorem dX8_joins_47 : decode cX8_joins 47 = .ok (.getfield 71, 3) := by decide +kernel
theorem dX8_joins_50 : decode cX8_joins 50 = .ok (.iload_n 1, 1) := by decide +kernel
theorem dX8_joins_51 : decode cX8_joins 51 = .ok (.iaload, 1) := by decide +kernel
theorem dX8_joins_52 : decode cX8_joins 52 = .ok (.goto 10, 3) := by decide +kernel
theorem dX8_joins_55 : decode cX8_joins 55 = .ok (.aload_n 0, 1) := by decide +kernel
theorem dX8_joins_56 : decode cX8_joins 56 = .ok (.getfield 71, 3) := by decide +kernel
theorem dX8_joins_59 : decode cX8_joins 59 = .ok (.iload 4, 2) := by decide +kernel
theorem dX8_joins_61 : decode cX8_joins 61 = .ok (.iaload, 1) := by decide +kernel
theorem dX8_joins_62 : decode cX8_joins 62 = .ok (.iastore, 1) := by decide +kernel
theorem dX8_joins_63 : decode cX8_joins 63 = .ok (.iinc 4 1, 3) := by decide +kernel
theorem dX8_joins_66 : decode cX8_joins 66 = .ok (.goto (-56), 3) := by decide +kernel
theorem dX8_joins_69 : decode cX8_joins 69 = .ok (.return_, 1) := by decide +kernel
theorem dX8_does_0 : decode cX8_does 0 = .ok (.aload_n 0, 1) := by decide +kernel
theorem dX8_does_1 : decode cX8_does 1 = .ok (.getfield 16, 3) := by decide +kernel
theorem dX8_does_4 : decode cX8_does 4 = .ok (.iload_n 1, 1) := by decide +kernel
theorem dX8_does_5 : decode cX8_does 5 = .ok (.iaload, 1) := by decide +kernel
theorem dX8_does_6 : decode cX8_does 6 = .ok (.istore_n 2, 1) := by decide +kernel
theorem dX8_does_7 : decode cX8_does 7 = .ok (.aload_n 0, 1) := by decide +kernel
theorem dX8_does_8 : decode cX8_does 8 = .ok (.getfield 7, 3) := by decide +kernel
theorem dX8_does_11 : decode cX8_does 11 = .ok (.iload_n 1, 1) := by decide +kernel
theorem dX8_does_12 : decode cX8_does 12 = .ok (.iaload, 1) := by decide +kernel
theorem dX8_does_13 : decode cX8_does 13 = .ok (.ifCond .ne 11, 3) := by decide +kernel
theorem dX8_does_16 : decode cX8_does 16 = .ok (.aload_n 0, 1) := by decide +kernel
theorem dX8_does_17 : decode cX8_does 17 = .ok (.iload_n 2, 1) := by decide +kernel
theorem dX8_does_18 : decode cX8_does 18 = .ok (.invokevirtual 172, 3) := by decide +kernel
theorem dX8_does_21 : decode cX8_does 21 = .ok (.goto 209, 3) := by decide +kernel
theorem dX8_does_24 : decode cX8_does 24 = .ok (.aload_n 0, 1) := by decide +kernel
theorem dX8_does_25 : decode cX8_does 25 = .ok (.getfield 59, 3) := by decide +kernel
theorem dX8_does_28 : decode cX8_does 28 = .ok (.iload_n 2, 1) := by decide +kernel
theorem dX8_does_29 : decode cX8_does 29 = .ok (.baload, 1) := by decide +kernel
theorem dX8_does_30 : decode cX8_does 30 = .ok (.ifCond .eq 200, 3) := by decide +kernel
theorem dX8_does_33 : decode cX8_does 33 = .ok (.aload_n 0, 1) := by decide +kernel
theorem dX8_does_34 : decode cX8_does 34 = .ok (.getfield 7, 3) := by decide +kernel
theorem dX8_does_37 : decode cX8_does 37 = .ok (.iload_n 1, 1) := by decide +kernel
theorem dX8_does_38 : decode cX8_does 38 = .ok (.iaload, 1) := by decide +kernel
theorem dX8_does_39 : decode cX8_does 39 = .ok (.iconst 5, 1) := by decide +kernel
theorem dX8_does_40 : decode cX8_does 40 = .ok (.if_icmp .ne 17, 3) := by decide +kernel
theorem dX8_does_43 : decode cX8_does 43 = .ok (.aload_n 0, 1) := by decide +kernel
theorem dX8_does_44 : decode cX8_does 44 = .ok (.getfield 59, 3) := by decide +kernel
theorem dX8_does_47 : decode cX8_does 47 = .ok (.aload_n 0, 1) := by decide +kernel
theorem dX8_does_48 : decode cX8_does 48 = .ok (.getfield 19, 3) := by decide +kernel
theorem dX8_does_51 : decode cX8_does 51 = .ok (.iload_n 1, 1) := by decide +kernel
theorem dX8_does_52 : decode cX8_does 52 = .ok (.iaload, 1) := by decide +kernel
theorem dX8_does_53 : decode cX8_does 53 = .ok (.baload, 1) := by decide +kernel
theorem dX8_does_54 : decode cX8_does 54 = .ok (.ifCond .eq 176, 3) := by decide +kernel
theorem dX8_does_57 : decode cX8_does 57 = .ok (.aload_n 0, 1) := by decide +kernel
theorem dX8_does_58 : decode cX8_does 58 = .ok (.getfield 7, 3) := by decide +kernel
theorem dX8_does_61 : decode cX8_does 61 = .ok (.iload_n 1, 1) := by decide +kernel
theorem dX8_does_62 : decode cX8_does 62 = .ok (.iaload, 1) := by decide +kernel
theorem dX8_does_63 : decode cX8_does 63 = .ok (.iconst 1, 1) := by decide +kernel
theorem dX8_does_64 : decode cX8_does 64 = .ok (.if_icmp .ne 23, 3) := by decide +kernel
theorem dX8_does_67 : decode cX8_does 67 = .ok (.aload_n 0, 1) := by decide +kernel
theorem dX8_does_68 : decode cX8_does 68 = .ok (.iload_n 2, 1) := by decide +kernel
theorem dX8_does_69 : decode cX8_does 69 = .ok (.aload_n 0, 1) := by decide +kernel
theorem dX8_does_70 : decode cX8_does 70 = .ok (.getfield 19, 3) := by decide +kernel
theorem dX8_does_73 : decode cX8_does 73 = .ok (.iload_n 1, 1) := by decide +kernel
theorem dX8_does_74 : decode cX8_does 74 = .ok (.iaload, 1) := by decide +kernel
theorem dX8_does_75 : decode cX8_does 75 = .ok (.aload_n 0, 1) := by decide +kernel
theorem dX8_does_76 : decode cX8_does 76 = .ok (.getfield 22, 3) := by decide +kernel
theorem dX8_does_79 : decode cX8_does 79 = .ok (.iload_n 1, 1) := by decide +kernel
theorem dX8_does_80 : decode cX8_does 80 = .ok (.iaload, 1) := by decide +kernel
theorem dX8_does_81 : decode cX8_does 81 = .ok (.invokevirtual 176, 3) := by decide +kernel
theorem dX8_does_84 : decode cX8_does 84 = .ok (.goto 146, 3) := by decide +kernel
theorem dX8_does_87 : decode cX8_does 87 = .ok (.aload_n 0, 1) := by decide +kernel
theorem dX8_does_88 : decode cX8_does 88 = .ok (.getfield 7, 3) := by decide +kernel
theorem dX8_does_91 : decode cX8_does 91 = .ok (.iload_n 1, 1) := by decide +kernel
theorem dX8_does_92 : decode cX8_does 92 = .ok (.iaload, 1) := by decide +kernel
theorem dX8_does_93 : decode cX8_does 93 = .ok (.iconst 2, 1) := by decide +kernel
theorem dX8_does_94 : decode cX8_does 94 = .ok (.if_icmp .ne 18, 3) := by decide +kernel
theorem dX8_does_97 : decode cX8_does 97 = .ok (.aload_n 0, 1) := by decide +kernel
theorem dX8_does_98 : decode cX8_does 98 = .ok (.getfield 68, 3) := by decide +kernel
theorem dX8_does_101 : decode cX8_does 101 = .ok (.iload_n 2, 1) := by decide +kernel
theorem dX8_does_102 : decode cX8_does 102 = .ok (.aload_n 0, 1) := by decide +kernel
theorem dX8_does_103 : decode cX8_does 103 = .ok (.getfield 19, 3) := by decide +kernel
theorem dX8_does_106 : decode cX8_does 106 = .ok (.iload_n 1, 1) := by decide +kernel
theorem dX8_does_107 : decode cX8_does 107 = .ok (.iaload, 1) := by decide +kernel
theorem dX8_does_108 : decode cX8_does 108 = .ok (.iastore, 1) := by decide +kernel
theorem dX8_does_109 : decode cX8_does 109 = .ok (.goto 121, 3) := by decide +kernel
theorem dX8_does_112 : decode cX8_does 112 = .ok (.aload_n 0, 1) := by decide +kernel
theorem dX8_does_113 : decode cX8_does 113 = .ok (.getfield 7, 3) := by decide +kernel
theorem dX8_does_116 : decode cX8_does 116 = .ok (.iload_n 1, 1) := by decide +kernel
theorem dX8_does_117 : decode cX8_does 117 = .ok (.iaload, 1) := by decide +kernel
theorem dX8_does_118 : decode cX8_does 118 = .ok (.iconst 5, 1) := by decide +kernel
theorem dX8_does_119 : decode cX8_does 119 = .ok (.if_icmp .ne 17, 3) := by decide +kernel
theorem dX8_does_122 : decode cX8_does 122 = .ok (.aload_n 0, 1) := by decide +kernel
theorem dX8_does_123 : decode cX8_does 123 = .ok (.iload_n 2, 1) := by decide +kernel
theorem dX8_does_124 : decode cX8_does 124 = .ok (.aload_n 0, 1) := by decide +kernel
theorem dX8_does_125 : decode cX8_does 125 = .ok (.getfield 19, 3) := by decide +kernel
theorem dX8_does_128 : decode cX8_does 128 = .ok (.iload_n 1, 1) := by decide +kernel
theorem dX8_does_129 : decode cX8_does 129 = .ok (.iaload, 1) := by decide +kernel
theorem dX8_does_130 : decode cX8_does 130 = .ok (.invokevirtual 180, 3) := by decide +kernel
theorem dX8_does_133 : decode cX8_does 133 = .ok (.goto 97, 3) := by decide +kernel
theorem dX8_does_136 : decode cX8_does 136 = .ok (.aload_n 0, 1) := by decide +kernel
theorem dX8_does_137 : decode cX8_does 137 = .ok (.getfield 7, 3) := by decide +kernel
theorem dX8_does_140 : decode cX8_does 140 = .ok (.iload_n 1, 1) := by decide +kernel
theorem dX8_does_141 : decode cX8_does 141 = .ok (.iaload, 1) := by decide +kernel
theorem dX8_does_142 : decode cX8_does 142 = .ok (.bipush 6, 2) := by decide +kernel
theorem dX8_does_144 : decode cX8_does 144 = .ok (.if_icmp .ne 30, 3) := by decide +kernel
theorem dX8_does_147 : decode cX8_does 147 = .ok (.aload_n 0, 1) := by decide +kernel
theorem dX8_does_148 : decode cX8_does 148 = .ok (.getfield 59, 3) := by decide +kernel
theorem dX8_does_151 : decode cX8_does 151 = .ok (.iload_n 2, 1) := by decide +kernel
theorem dX8_does_152 : decode cX8_does 152 = .ok (.iconst 0, 1) := by decide +kernel
theorem dX8_does_153 : decode cX8_does 153 = .ok (.bastore, 1) := by decide +kernel
theorem dX8_does_154 : decode cX8_does 154 = .ok (.aload_n 0, 1) := by decide +kernel
theorem dX8_does_155 : decode cX8_does 155 = .ok (.getfield 71, 3) := by decide +kernel
theorem dX8_does_158 : decode cX8_does 158 = .ok (.iload_n 2, 1) := by decide +kernel
theorem dX8_does_159 : decode cX8_does 159 = .ok (.aload_n 0, 1) := by decide +kernel
theorem dX8_does_160 : decode cX8_does 160 = .ok (.invokevirtual 164, 3) := by decide +kernel
theorem dX8_does_163 : decode cX8_does 163 = .ok (.iastore, 1) := by decide +kernel
theorem dX8_does_164 : decode cX8_does 164 = .ok (.aload_n 0, 1) := by decide +kernel
theorem dX8_does_165 : decode cX8_does 165 = .ok (.getfield 59, 3) := by decide +kernel
theorem dX8_does_168 : decode cX8_does 168 = .ok (.iload_n 2, 1) := by decide +kernel
theorem dX8_does_169 : decode cX8_does 169 = .ok (.iconst 1, 1) := by decide +kernel
theorem dX8_does_170 : decode cX8_does 170 = .ok (.bastore, 1) := by decide +kernel
theorem dX8_does_171 : decode cX8_does 171 = .ok (.goto 59, 3) := by decide +kernel
theorem dX8_does_174 : decode cX8_does 174 = .ok (.aload_n 0, 1) := by decide +kernel
theorem dX8_does_175 : decode cX8_does 175 = .ok (.iload_n 2, 1) := by decide +kernel
theorem dX8_does_176 : decode cX8_does 176 = .ok (.invokevirtual 184, 3) := by decide +kernel
theorem dX8_does_179 : decode cX8_does 179 = .ok (.aload_n 0, 1) := by decide +kernel
theorem dX8_does_180 : decode cX8_does 180 = .ok (.getfield 59, 3) := by decide +kernel
theorem dX8_does_183 : decode cX8_does 183 = .ok (.iload_n 2, 1) := by decide +kernel
theorem dX8_does_184 : decode cX8_does 184 = .ok (.aload_n 0, 1) := by decide +kernel
theorem dX8_does_185 : decode cX8_does 185 = .ok (.getfield 7, 3) := by decide +kernel
theorem dX8_does_188 : decode cX8_does 188 = .ok (.iload_n 1, 1) := by decide +kernel
theorem dX8_does_189 : decode cX8_does 189 = .ok (.iaload, 1) := by decide +kernel
theorem dX8_does_190 : decode cX8_does 190 = .ok (.bipush 7, 2) := by decide +kernel
theorem dX8_does_192 : decode cX8_does 192 = .ok (.if_icmp .eq 7, 3) := by decide +kernel
theorem dX8_does_195 : decode cX8_does 195 = .ok (.iconst 1, 1) := by decide +kernel
theorem dX8_does_196 : decode cX8_does 196 = .ok (.goto 4, 3) := by decide +kernel
theorem dX8_does_199 : decode cX8_does 199 = .ok (.iconst 0, 1) := by decide +kernel
theorem dX8_does_200 : decode cX8_does 200 = .ok (.bastore, 1) := by decide +kernel
theorem dX8_does_201 : decode cX8_does 201 = .ok (.aload_n 0, 1) := by decide +kernel
theorem dX8_does_202 : decode cX8_does 202 = .ok (.getfield 59, 3) := by decide +kernel
theorem dX8_does_205 : decode cX8_does 205 = .ok (.iload_n 2, 1) := by decide +kernel
theorem dX8_does_206 : decode cX8_does 206 = .ok (.baload, 1) := by decide +kernel
theorem dX8_does_207 : decode cX8_does 207 = .ok (.ifCond .eq 23, 3) := by decide +kernel
theorem dX8_does_210 : decode cX8_does 210 = .ok (.aload_n 0, 1) := by decide +kernel
theorem dX8_does_211 : decode cX8_does 211 = .ok (.iload_n 2, 1) := by decide +kernel
theorem dX8_does_212 : decode cX8_does 212 = .ok (.aload_n 0, 1) := by decide +kernel
theorem dX8_does_213 : decode cX8_does 213 = .ok (.getfield 7, 3) := by decide +kernel
theorem dX8_does_216 : decode cX8_does 216 = .ok (.iload_n 1, 1) := by decide +kernel
theorem dX8_does_217 : decode cX8_does 217 = .ok (.iaload, 1) := by decide +kernel
theorem dX8_does_218 : decode cX8_does 218 = .ok (.iconst 3, 1) := by decide +kernel
theorem dX8_does_219 : decode cX8_does 219 = .ok (.if_icmp .ne 7, 3) := by decide +kernel
theorem dX8_does_222 : decode cX8_does 222 = .ok (.iconst 1, 1) := by decide +kernel
theorem dX8_does_223 : decode cX8_does 223 = .ok (.goto 4, 3) := by decide +kernel
theorem dX8_does_226 : decode cX8_does 226 = .ok (.iconst 0, 1) := by decide +kernel
theorem dX8_does_227 : decode cX8_does 227 = .ok (.invokevirtual 168, 3) := by decide +kernel
theorem dX8_does_230 : decode cX8_does 230 = .ok (.return_, 1) := by decide +kernel
theorem dX8_anew_0 : decode cX8_anew 0 = .ok (.aload_n 0, 1) := by decide +kernel
theorem dX8_anew_1 : decode cX8_anew 1 = .ok (.iconst 0, 1) := by decide +kernel
theorem dX8_anew_2 : decode cX8_anew 2 = .ok (.putfield 161, 3) := by decide +kernel
theorem dX8_anew_5 : decode cX8_anew 5 = .ok (.iconst 0, 1) := by decide +kernel
theorem dX8_anew_6 : decode cX8_anew 6 = .ok (.istore_n 1, 1) := by decide +kernel
theorem dX8_anew_7 : decode cX8_anew 7 = .ok (.iload_n 1, 1) := by decide +kernel
theorem dX8_anew_8 : decode cX8_anew 8 = .ok (.aload_n 0, 1) := by decide +kernel
theorem dX8_anew_9 : decode cX8_anew 9 = .ok (.getfield 148, 3) := by decide +kernel
theorem dX8_anew_12 : decode cX8_anew 12 = .ok (.if_icmp .ge 16, 3) := by decide +kernel
theorem dX8_anew_15 : decode cX8_anew 15 = .ok (.aload_n 0, 1) := by decide +kernel
theorem dX8_anew_16 : decode cX8_anew 16 = .ok (.getfield 59, 3) := by decide +kernel
theorem dX8_anew_19 : decode cX8_anew 19 = .ok (.iload_n 1, 1) := by decide +kernel
theorem dX8_anew_20 : decode cX8_anew 20 = .ok (.iconst 0, 1) := by decide +kernel
theorem dX8_anew_21 : decode cX8_anew 21 = .ok (.bastore, 1) := by decide +kernel
theorem dX8_anew_22 : decode cX8_anew 22 = .ok (.iinc 1 1, 3) := by decide +kernel
theorem dX8_anew_25 : decode cX8_anew 25 = .ok (.goto (-18), 3) := by decide +kernel
theorem dX8_anew_28 : decode cX8_anew 28 = .ok (.iconst 0, 1) := by decide +kernel
theorem dX8_anew_29 : decode cX8_anew 29 = .ok (.istore_n 1, 1) := by decide +kernel
theorem dX8_anew_30 : decode cX8_anew 30 = .ok (.iload_n 1, 1) := by decide +kernel
theorem dX8_anew_31 : decode cX8_anew 31 = .ok (.aload_n 0, 1) := by decide +kernel
theorem dX8_anew_32 : decode cX8_anew 32 = .ok (.getfield 151, 3) := by decide +kernel
theorem dX8_anew_35 : decode cX8_anew 35 = .ok (.if_icmp .ge 23, 3) := by decide +kernel
theorem dX8_anew_38 : decode cX8_anew 38 = .ok (.aload_n 0, 1) := by decide +kernel
theorem dX8_anew_39 : decode cX8_anew 39 = .ok (.getfield 25, 3) := by decide +kernel
theorem dX8_anew_42 : decode cX8_anew 42 = .ok (.iload_n 1, 1) := by decide +kernel
theorem dX8_anew_43 : decode cX8_anew 43 = .ok (.baload, 1) := by decide +kernel
theorem dX8_anew_44 : decode cX8_anew 44 = .ok (.ifCond .eq 8, 3) := by decide +kernel
theorem dX8_anew_47 : decode cX8_anew 47 = .ok (.aload_n 0, 1) := by decide +kernel
theorem dX8_anew_48 : decode cX8_anew 48 = .ok (.iload_n 1, 1) := by decide +kernel
theorem dX8_anew_49 : decode cX8_anew 49 = .ok (.invokevirtual 187, 3) := by decide +kernel
theorem dX8_anew_52 : decode cX8_anew 52 = .ok (.iinc 1 1, 3) := by decide +kernel
theorem dX8_anew_55 : decode cX8_anew 55 = .ok (.goto (-25), 3) := by decide +kernel
theorem dX8_anew_58 : decode cX8_anew 58 = .ok (.return_, 1) := by decide +kernel
theorem dX8_covers_0 : decode cX8_covers 0 = .ok (.iload_n 2, 1) := by decide +kernel
theorem dX8_covers_1 : decode cX8_covers 1 = .ok (.aload_n 0, 1) := by decide +kernel
theorem dX8_covers_2 : decode cX8_covers 2 = .ok (.getfield 62, 3) := by decide +kernel
theorem dX8_covers_5 : decode cX8_covers 5 = .ok (.iload_n 1, 1) := by decide +kernel
theorem dX8_covers_6 : decode cX8_covers 6 = .ok (.iaload, 1) := by decide +kernel
theorem dX8_covers_7 : decode cX8_covers 7 = .ok (.aload_n 0, 1) := by decide +kernel
theorem dX8_covers_8 : decode cX8_covers 8 = .ok (.getfield 62, 3) := by decide +kernel
theorem dX8_covers_11 : decode cX8_covers 11 = .ok (.iload_n 1, 1) := by decide +kernel
theorem dX8_covers_12 : decode cX8_covers 12 = .ok (.iaload, 1) := by decide +kernel
theorem dX8_covers_13 : decode cX8_covers 13 = .ok (.aload_n 0, 1) := by decide +kernel
theorem dX8_covers_14 : decode cX8_covers 14 = .ok (.getfield 38, 3) := by decide +kernel
theorem dX8_covers_17 : decode cX8_covers 17 = .ok (.iload_n 1, 1) := by decide +kernel
theorem dX8_covers_18 : decode cX8_covers 18 = .ok (.iaload, 1) := by decide +kernel
theorem dX8_covers_19 : decode cX8_covers 19 = .ok (.iadd, 1) := by decide +kernel
theorem dX8_covers_20 : decode cX8_covers 20 = .ok (.iconst 1, 1) := by decide +kernel
theorem dX8_covers_21 : decode cX8_covers 21 = .ok (.isub, 1) := by decide +kernel
theorem dX8_covers_22 : decode cX8_covers 22 = .ok (.invokestatic 144, 3) := by decide +kernel
theorem dX8_covers_25 : decode cX8_covers 25 = .ok (.ifCond .eq 35, 3) := by decide +kernel
theorem dX8_covers_28 : decode cX8_covers 28 = .ok (.iload_n 3, 1) := by decide +kernel
theorem dX8_covers_29 : decode cX8_covers 29 = .ok (.aload_n 0, 1) := by decide +kernel
theorem dX8_covers_30 : decode cX8_covers 30 = .ok (.getfield 65, 3) := by decide +kernel
theorem dX8_covers_33 : decode cX8_covers 33 = .ok (.iload_n 1, 1) := by decide +kernel
theorem dX8_covers_34 : decode cX8_covers 34 = .ok (.iaload, 1) := by decide +kernel
theorem dX8_covers_35 : decode cX8_covers 35 = .ok (.aload_n 0, 1) := by decide +kernel
theorem dX8_covers_36 : decode cX8_covers 36 = .ok (.getfield 65, 3) := by decide +kernel
theorem dX8_covers_39 : decode cX8_covers 39 = .ok (.iload_n 1, 1) := by decide +kernel
theorem dX8_covers_40 : decode cX8_covers 40 = .ok (.iaload, 1) := by decide +kernel
theorem dX8_covers_41 : decode cX8_covers 41 = .ok (.aload_n 0, 1) := by decide +kernel
theorem dX8_covers_42 : decode cX8_covers 42 = .ok (.getfield 41, 3) := by decide +kernel
theorem dX8_covers_45 : decode cX8_covers 45 = .ok (.iload_n 1, 1) := by decide +kernel
theorem dX8_covers_46 : decode cX8_covers 46 = .ok (.iaload, 1) := by decide +kernel
theorem dX8_covers_47 : decode cX8_covers 47 = .ok (.iadd, 1) := by decide +kernel
theorem dX8_covers_48 : decode cX8_covers 48 = .ok (.iconst 1, 1) := by decide +kernel
theorem dX8_covers_49 : decode cX8_covers 49 = .ok (.isub, 1) := by decide +kernel
theorem dX8_covers_50 : decode cX8_covers 50 = .ok (.invokestatic 144, 3) := by decide +kernel
theorem dX8_covers_53 : decode cX8_covers 53 = .ok (.ifCond .eq 7, 3) := by decide +kernel
theorem dX8_covers_56 : decode cX8_covers 56 = .ok (.iconst 1, 1) := by decide +kernel
theorem dX8_covers_57 : decode cX8_covers 57 = .ok (.goto 4, 3) := by decide +kernel
theorem dX8_covers_60 : decode cX8_covers 60 = .ok (.iconst 0, 1) := by decide +kernel
theorem dX8_covers_61 : decode cX8_covers 61 = .ok (.ireturn, 1) := by decide +kernel
theorem dX8_seenAt_0 : decode cX8_seenAt 0 = .ok (.iconst (-1), 1) := by decide +kernel
theorem dX8_seenAt_1 : decode cX8_seenAt 1 = .ok (.istore_n 3, 1) := by decide +kernel
theorem dX8_seenAt_2 : decode cX8_seenAt 2 = .ok (.iconst 0, 1) := by decide +kernel
theorem dX8_seenAt_3 : decode cX8_seenAt 3 = .ok (.istore 4, 2) := by decide +kernel
theorem dX8_seenAt_5 : decode cX8_seenAt 5 = .ok (.iload 4, 2) := by decide +kernel
theorem dX8_seenAt_7 : decode cX8_seenAt 7 = .ok (.aload_n 0, 1) := by decide +kernel
theorem dX8_seenAt_8 : decode cX8_seenAt 8 = .ok (.getfield 161, 3) := by decide +kernel
theorem dX8_seenAt_11 : decode cX8_seenAt 11 = .ok (.if_icmp .ge 52, 3) := by decide +kernel
theorem dX8_seenAt_14 : decode cX8_seenAt 14 = .ok (.aload_n 0, 1) := by decide +kernel
theorem dX8_seenAt_15 : decode cX8_seenAt 15 = .ok (.getfield 53, 3) := by decide +kernel
theorem dX8_seenAt_18 : decode cX8_seenAt 18 = .ok (.aload_n 0, 1) := by decide +kernel
theorem dX8_seenAt_19 : decode cX8_seenAt 19 = .ok (.getfield 56, 3) := by decide +kernel
theorem dX8_seenAt_22 : decode cX8_seenAt 22 = .ok (.iload 4, 2) := by decide +kernel
theorem dX8_seenAt_24 : decode cX8_seenAt 24 = .ok (.iaload, 1) := by decide +kernel
theorem dX8_seenAt_25 : decode cX8_seenAt 25 = .ok (.baload, 1) := by decide +kernel
theorem dX8_seenAt_26 : decode cX8_seenAt 26 = .ok (.ifCond .ne 29, 3) := by decide +kernel
theorem dX8_seenAt_29 : decode cX8_seenAt 29 = .ok (.aload_n 0, 1) := by decide +kernel
theorem dX8_seenAt_30 : decode cX8_seenAt 30 = .ok (.aload_n 0, 1) := by decide +kernel
theorem dX8_seenAt_31 : decode cX8_seenAt 31 = .ok (.getfield 56, 3) := by decide +kernel
theorem dX8_seenAt_34 : decode cX8_seenAt 34 = .ok (.iload 4, 2) := by decide +kernel
theorem dX8_seenAt_36 : decode cX8_seenAt 36 = .ok (.iaload, 1) := by decide +kernel
theorem dX8_seenAt_37 : decode cX8_seenAt 37 = .ok (.iload_n 1, 1) := by decide +kernel
theorem dX8_seenAt_38 : decode cX8_seenAt 38 = .ok (.iload_n 2, 1) := by decide +kernel
theorem dX8_seenAt_39 : decode cX8_seenAt 39 = .ok (.invokevirtual 190, 3) := by decide +kernel
theorem dX8_seenAt_42 : decode cX8_seenAt 42 = .ok (.ifCond .eq 13, 3) := by decide +kernel
theorem dX8_seenAt_45 : decode cX8_seenAt 45 = .ok (.aload_n 0, 1) := by decide +kernel
theorem dX8_seenAt_46 : decode cX8_seenAt 46 = .ok (.getfield 56, 3) := by decide +kernel
theorem dX8_seenAt_49 : decode cX8_seenAt 49 = .ok (.iload 4, 2) := by decide +kernel
theorem dX8_seenAt_51 : decode cX8_seenAt 51 = .ok (.iaload, 1) := by decide +kernel
theorem dX8_seenAt_52 : decode cX8_seenAt 52 = .ok (.goto 4, 3) := by decide +kernel
theorem dX8_seenAt_55 : decode cX8_seenAt 55 = .ok (.iload_n 3, 1) := by decide +kernel
theorem dX8_seenAt_56 : decode cX8_seenAt 56 = .ok (.istore_n 3, 1) := by decide +kernel
theorem dX8_seenAt_57 : decode cX8_seenAt 57 = .ok (.iinc 4 1, 3) := by decide +kernel
theorem dX8_seenAt_60 : decode cX8_seenAt 60 = .ok (.goto (-55), 3) := by decide +kernel
theorem dX8_seenAt_63 : decode cX8_seenAt 63 = .ok (.iload_n 3, 1) := by decide +kernel
theorem dX8_seenAt_64 : decode cX8_seenAt 64 = .ok (.ireturn, 1) := by decide +kernel
theorem dX8_inGroup_0 : decode cX8_inGroup 0 = .ok (.iconst 0, 1) := by decide +kernel
theorem dX8_inGroup_1 : decode cX8_inGroup 1 = .ok (.istore_n 2, 1) := by decide +kernel
theorem dX8_inGroup_2 : decode cX8_inGroup 2 = .ok (.iconst 0, 1) := by decide +kernel
theorem dX8_inGroup_3 : decode cX8_inGroup 3 = .ok (.istore_n 3, 1) := by decide +kernel
theorem dX8_inGroup_4 : decode cX8_inGroup 4 = .ok (.iload_n 3, 1) := by decide +kernel
theorem dX8_inGroup_5 : decode cX8_inGroup 5 = .ok (.aload_n 0, 1) := by decide +kernel
theorem dX8_inGroup_6 : decode cX8_inGroup 6 = .ok (.getfield 148, 3) := by decide +kernel
theorem dX8_inGroup_9 : decode cX8_inGroup 9 = .ok (.if_icmp .ge 41, 3) := by decide +kernel
theorem dX8_inGroup_12 : decode cX8_inGroup 12 = .ok (.iload_n 2, 1) := by decide +kernel
theorem dX8_inGroup_13 : decode cX8_inGroup 13 = .ok (.aload_n 0, 1) := by decide +kernel
theorem dX8_inGroup_14 : decode cX8_inGroup 14 = .ok (.getfield 59, 3) := by decide +kernel
theorem dX8_inGroup_17 : decode cX8_inGroup 17 = .ok (.iload_n 3, 1) := by decide +kernel
theorem dX8_inGroup_18 : decode cX8_inGroup 18 = .ok (.baload, 1) := by decide +kernel
theorem dX8_inGroup_19 : decode cX8_inGroup 19 = .ok (.ifCond .eq 22, 3) := by decide +kernel
theorem dX8_inGroup_22 : decode cX8_inGroup 22 = .ok (.aload_n 0, 1) := by decide +kernel
theorem dX8_inGroup_23 : decode cX8_inGroup 23 = .ok (.getfield 71, 3) := by decide +kernel
theorem dX8_inGroup_26 : decode cX8_inGroup 26 = .ok (.iload_n 3, 1) := by decide +kernel
theorem dX8_inGroup_27 : decode cX8_inGroup 27 = .ok (.iaload, 1) := by decide +kernel
theorem dX8_inGroup_28 : decode cX8_inGroup 28 = .ok (.aload_n 0, 1) := by decide +kernel
theorem dX8_inGroup_29 : decode cX8_inGroup 29 = .ok (.getfield 71, 3) := by decide +kernel
theorem dX8_inGroup_32 : decode cX8_inGroup 32 = .ok (.iload_n 1, 1) := by decide +kernel
theorem dX8_inGroup_33 : decode cX8_inGroup 33 = .ok (.iaload, 1) := by decide +kernel
theorem dX8_inGroup_34 : decode cX8_inGroup 34 = .ok (.if_icmp .ne 7, 3) := by decide +kernel
theorem dX8_inGroup_37 : decode cX8_inGroup 37 = .ok (.iconst 1, 1) := by decide +kernel
theorem dX8_inGroup_38 : decode cX8_inGroup 38 = .ok (.goto 4, 3) := by decide +kernel
theorem dX8_inGroup_41 : decode cX8_inGroup 41 = .ok (.iconst 0, 1) := by decide +kernel
theorem dX8_inGroup_42 : decode cX8_inGroup 42 = .ok (.iadd, 1) := by decide +kernel
theorem dX8_inGroup_43 : decode cX8_inGroup 43 = .ok (.istore_n 2, 1) := by decide +kernel
theorem dX8_inGroup_44 : decode cX8_inGroup 44 = .ok (.iinc 3 1, 3) := by decide +kernel
theorem dX8_inGroup_47 : decode cX8_inGroup 47 = .ok (.goto (-43), 3) := by decide +kernel
theorem dX8_inGroup_50 : decode cX8_inGroup 50 = .ok (.iload_n 2, 1) := by decide +kernel
theorem dX8_inGroup_51 : decode cX8_inGroup 51 = .ok (.ireturn, 1) := by decide +kernel
theorem dX8_tells_0 : decode cX8_tells 0 = .ok (.aload_n 0, 1) := by decide +kernel
theorem dX8_tells_1 : decode cX8_tells 1 = .ok (.getfield 7, 3) := by decide +kernel
theorem dX8_tells_4 : decode cX8_tells 4 = .ok (.aload_n 0, 1) := by decide +kernel
theorem dX8_tells_5 : decode cX8_tells 5 = .ok (.getfield 151, 3) := by decide +kernel
theorem dX8_tells_8 : decode cX8_tells 8 = .ok (.iload_n 2, 1) := by decide +kernel
theorem dX8_tells_9 : decode cX8_tells 9 = .ok (.iastore, 1) := by decide +kernel
theorem dX8_tells_10 : decode cX8_tells 10 = .ok (.aload_n 0, 1) := by decide +kernel
theorem dX8_tells_11 : decode cX8_tells 11 = .ok (.getfield 13, 3) := by decide +kernel
theorem dX8_tells_14 : decode cX8_tells 14 = .ok (.aload_n 0, 1) := by decide +kernel
theorem dX8_tells_15 : decode cX8_tells 15 = .ok (.getfield 151, 3) := by decide +kernel
theorem dX8_tells_18 : decode cX8_tells 18 = .ok (.iload_n 1, 1) := by decide +kernel
theorem dX8_tells_19 : decode cX8_tells 19 = .ok (.iastore, 1) := by decide +kernel
theorem dX8_tells_20 : decode cX8_tells 20 = .ok (.aload_n 0, 1) := by decide +kernel
theorem dX8_tells_21 : decode cX8_tells 21 = .ok (.getfield 16, 3) := by decide +kernel
theorem dX8_tells_24 : decode cX8_tells 24 = .ok (.aload_n 0, 1) := by decide +kernel
theorem dX8_tells_25 : decode cX8_tells 25 = .ok (.getfield 151, 3) := by decide +kernel
theorem dX8_tells_28 : decode cX8_tells 28 = .ok (.iload_n 3, 1) := by decide +kernel
theorem dX8_tells_29 : decode cX8_tells 29 = .ok (.iastore, 1) := by decide +kernel
theorem dX8_tells_30 : decode cX8_tells 30 = .ok (.aload_n 0, 1) := by decide +kernel
theorem dX8_tells_31 : decode cX8_tells 31 = .ok (.getfield 19, 3) := by decide +kernel
theorem dX8_tells_34 : decode cX8_tells 34 = .ok (.aload_n 0, 1) := by decide +kernel
theorem dX8_tells_35 : decode cX8_tells 35 = .ok (.getfield 151, 3) := by decide +kernel
theorem dX8_tells_38 : decode cX8_tells 38 = .ok (.iload 4, 2) := by decide +kernel
theorem dX8_tells_40 : decode cX8_tells 40 = .ok (.iastore, 1) := by decide +kernel
theorem dX8_tells_41 : decode cX8_tells 41 = .ok (.aload_n 0, 1) := by decide +kernel
theorem dX8_tells_42 : decode cX8_tells 42 = .ok (.getfield 22, 3) := by decide +kernel
theorem dX8_tells_45 : decode cX8_tells 45 = .ok (.aload_n 0, 1) := by decide +kernel
theorem dX8_tells_46 : decode cX8_tells 46 = .ok (.getfield 151, 3) := by decide +kernel
theorem dX8_tells_49 : decode cX8_tells 49 = .ok (.iload 5, 2) := by decide +kernel
theorem dX8_tells_51 : decode cX8_tells 51 = .ok (.iastore, 1) := by decide +kernel
theorem dX8_tells_52 : decode cX8_tells 52 = .ok (.aload_n 0, 1) := by decide +kernel
theorem dX8_tells_53 : decode cX8_tells 53 = .ok (.getfield 25, 3) := by decide +kernel
theorem dX8_tells_56 : decode cX8_tells 56 = .ok (.aload_n 0, 1) := by decide +kernel
theorem dX8_tells_57 : decode cX8_tells 57 = .ok (.getfield 151, 3) := by decide +kernel
theorem dX8_tells_60 : decode cX8_tells 60 = .ok (.iconst 1, 1) := by decide +kernel
theorem dX8_tells_61 : decode cX8_tells 61 = .ok (.bastore, 1) := by decide +kernel
theorem dX8_tells_62 : decode cX8_tells 62 = .ok (.aload_n 0, 1) := by decide +kernel
theorem dX8_tells_63 : decode cX8_tells 63 = .ok (.getfield 32, 3) := by decide +kernel
theorem dX8_tells_66 : decode cX8_tells 66 = .ok (.iload_n 1, 1) := by decide +kernel
theorem dX8_tells_67 : decode cX8_tells 67 = .ok (.iconst 0, 1) := by decide +kernel
theorem dX8_tells_68 : decode cX8_tells 68 = .ok (.iastore, 1) := by decide +kernel
theorem dX8_tells_69 : decode cX8_tells 69 = .ok (.aload_n 0, 1) := by decide +kernel
theorem dX8_tells_70 : decode cX8_tells 70 = .ok (.dup, 1) := by decide +kernel
theorem dX8_tells_71 : decode cX8_tells 71 = .ok (.getfield 151, 3) := by decide +kernel
theorem dX8_tells_74 : decode cX8_tells 74 = .ok (.iconst 1, 1) := by decide +kernel
theorem dX8_tells_75 : decode cX8_tells 75 = .ok (.iadd, 1) := by decide +kernel
theorem dX8_tells_76 : decode cX8_tells 76 = .ok (.putfield 151, 3) := by decide +kernel
theorem dX8_tells_79 : decode cX8_tells 79 = .ok (.aload_n 0, 1) := by decide +kernel
theorem dX8_tells_80 : decode cX8_tells 80 = .ok (.invokevirtual 193, 3) := by decide +kernel
theorem dX8_tells_83 : decode cX8_tells 83 = .ok (.return_, 1) := by decide +kernel
theorem dX8_canName_0 : decode cX8_canName 0 = .ok (.aload_n 0, 1) := by decide +kernel
theorem dX8_canName_1 : decode cX8_canName 1 = .ok (.getfield 59, 3) := by decide +kernel
theorem dX8_canName_4 : decode cX8_canName 4 = .ok (.iload_n 1, 1) := by decide +kernel
theorem dX8_canName_5 : decode cX8_canName 5 = .ok (.baload, 1) := by decide +kernel
theorem dX8_canName_6 : decode cX8_canName 6 = .ok (.ifCond .eq 26, 3) := by decide +kernel
theorem dX8_canName_9 : decode cX8_canName 9 = .ok (.aload_n 0, 1) := by decide +kernel
theorem dX8_canName_10 : decode cX8_canName 10 = .ok (.getfield 53, 3) := by decide +kernel
theorem dX8_canName_13 : decode cX8_canName 13 = .ok (.iload_n 1, 1) := by decide +kernel
theorem dX8_canName_14 : decode cX8_canName 14 = .ok (.baload, 1) := by decide +kernel
theorem dX8_canName_15 : decode cX8_canName 15 = .ok (.ifCond .ne 17, 3) := by decide +kernel
theorem dX8_canName_18 : decode cX8_canName 18 = .ok (.aload_n 0, 1) := by decide +kernel
theorem dX8_canName_19 : decode cX8_canName 19 = .ok (.getfield 151, 3) := by decide +kernel
theorem dX8_canName_22 : decode cX8_canName 22 = .ok (.sipush 200, 3) := by decide +kernel
theorem dX8_canName_25 : decode cX8_canName 25 = .ok (.if_icmp .ge 7, 3) := by decide +kernel
theorem dX8_canName_28 : decode cX8_canName 28 = .ok (.iconst 1, 1) := by decide +kernel
theorem dX8_canName_29 : decode cX8_canName 29 = .ok (.goto 4, 3) := by decide +kernel
theorem dX8_canName_32 : decode cX8_canName 32 = .ok (.iconst 0, 1) := by decide +kernel
theorem dX8_canName_33 : decode cX8_canName 33 = .ok (.ireturn, 1) := by decide +kernel
theorem dX8_add_0 : decode cX8_add 0 = .ok (.iload_n 2, 1) := by decide +kernel
theorem dX8_add_1 : decode cX8_add 1 = .ok (.iconst 0, 1) := by decide +kernel
theorem dX8_add_2 : decode cX8_add 2 = .ok (.bipush 23, 2) := by decide +kernel
theorem dX8_add_4 : decode cX8_add 4 = .ok (.invokestatic 144, 3) := by decide +kernel
theorem dX8_add_7 : decode cX8_add 7 = .ok (.ifCond .eq 28, 3) := by decide +kernel
theorem dX8_add_10 : decode cX8_add 10 = .ok (.iload_n 3, 1) := by decide +kernel
theorem dX8_add_11 : decode cX8_add 11 = .ok (.iconst 0, 1) := by decide +kernel
theorem dX8_add_12 : decode cX8_add 12 = .ok (.bipush 15, 2) := by decide +kernel
theorem dX8_add_14 : decode cX8_add 14 = .ok (.invokestatic 144, 3) := by decide +kernel
theorem dX8_add_17 : decode cX8_add 17 = .ok (.ifCond .eq 18, 3) := by decide +kernel
theorem dX8_add_20 : decode cX8_add 20 = .ok (.iload 6, 2) := by decide +kernel
theorem dX8_add_22 : decode cX8_add 22 = .ok (.iconst 1, 1) := by decide +kernel
theorem dX8_add_23 : decode cX8_add 23 = .ok (.bipush 9, 2) := by decide +kernel
theorem dX8_add_25 : decode cX8_add 25 = .ok (.invokestatic 144, 3) := by decide +kernel
theorem dX8_add_28 : decode cX8_add 28 = .ok (.ifCond .eq 7, 3) := by decide +kernel
theorem dX8_add_31 : decode cX8_add 31 = .ok (.iconst 1, 1) := by decide +kernel
theorem dX8_add_32 : decode cX8_add 32 = .ok (.goto 4, 3) := by decide +kernel
theorem dX8_add_35 : decode cX8_add 35 = .ok (.iconst 0, 1) := by decide +kernel
theorem dX8_add_36 : decode cX8_add 36 = .ok (.istore 7, 2) := by decide +kernel
theorem dX8_add_38 : decode cX8_add 38 = .ok (.iload 7, 2) := by decide +kernel
theorem dX8_add_40 : decode cX8_add 40 = .ok (.ifCond .eq 33, 3) := by decide +kernel
theorem dX8_add_43 : decode cX8_add 43 = .ok (.iload 4, 2) := by decide +kernel
theorem dX8_add_45 : decode cX8_add 45 = .ok (.iconst 1, 1) := by decide +kernel
theorem dX8_add_46 : decode cX8_add 46 = .ok (.bipush 24, 2) := by decide +kernel
theorem dX8_add_48 : decode cX8_add 48 = .ok (.iload_n 2, 1) := by decide +kernel
theorem dX8_add_49 : decode cX8_add 49 = .ok (.isub, 1) := by decide +kernel
theorem dX8_add_50 : decode cX8_add 50 = .ok (.invokestatic 144, 3) := by decide +kernel
theorem dX8_add_53 : decode cX8_add 53 = .ok (.ifCond .eq 20, 3) := by decide +kernel
theorem dX8_add_56 : decode cX8_add 56 = .ok (.iload 5, 2) := by decide +kernel
theorem dX8_add_58 : decode cX8_add 58 = .ok (.iconst 1, 1) := by decide +kernel
theorem dX8_add_59 : decode cX8_add 59 = .ok (.bipush 16, 2) := by decide +kernel
theorem dX8_add_61 : decode cX8_add 61 = .ok (.iload_n 3, 1) := by decide +kernel
theorem dX8_add_62 : decode cX8_add 62 = .ok (.isub, 1) := by decide +kernel
theorem dX8_add_63 : decode cX8_add 63 = .ok (.invokestatic 144, 3) := by decide +kernel
theorem dX8_add_66 : decode cX8_add 66 = .ok (.ifCond .eq 7, 3) := by decide +kernel
theorem dX8_add_69 : decode cX8_add 69 = .ok (.iconst 1, 1) := by decide +kernel
theorem dX8_add_70 : decode cX8_add 70 = .ok (.goto 4, 3) := by decide +kernel
theorem dX8_add_73 : decode cX8_add 73 = .ok (.iconst 0, 1) := by decide +kernel
theorem dX8_add_74 : decode cX8_add 74 = .ok (.istore 7, 2) := by decide +kernel
theorem dX8_add_76 : decode cX8_add 76 = .ok (.aload_n 0, 1) := by decide +kernel
theorem dX8_add_77 : decode cX8_add 77 = .ok (.iload_n 1, 1) := by decide +kernel
theorem dX8_add_78 : decode cX8_add 78 = .ok (.invokestatic 196, 3) := by decide +kernel
theorem dX8_add_81 : decode cX8_add 81 = .ok (.ifCond .ne 7, 3) := by decide +kernel
theorem dX8_add_84 : decode cX8_add 84 = .ok (.iconst 1, 1) := by decide +kernel
theorem dX8_add_85 : decode cX8_add 85 = .ok (.goto 36, 3) := by decide +kernel
theorem dX8_add_88 : decode cX8_add 88 = .ok (.iload 7, 2) := by decide +kernel
theorem dX8_add_90 : decode cX8_add 90 = .ok (.ifCond .ne 7, 3) := by decide +kernel
theorem dX8_add_93 : decode cX8_add 93 = .ok (.iconst 2, 1) := by decide +kernel
theorem dX8_add_94 : decode cX8_add 94 = .ok (.goto 27, 3) := by decide +kernel
theorem dX8_add_97 : decode cX8_add 97 = .ok (.aload_n 0, 1) := by decide +kernel
theorem dX8_add_98 : decode cX8_add 98 = .ok (.getfield 148, 3) := by decide +kernel
theorem dX8_add_101 : decode cX8_add 101 = .ok (.bipush 40, 2) := by decide +kernel
theorem dX8_add_103 : decode cX8_add 103 = .ok (.if_icmp .eq 13, 3) := by decide +kernel
theorem dX8_add_106 : decode cX8_add 106 = .ok (.aload_n 0, 1) := by decide +kernel
theorem dX8_add_107 : decode cX8_add 107 = .ok (.getfield 151, 3) := by decide +kernel
theorem dX8_add_110 : decode cX8_add 110 = .ok (.sipush 200, 3) := by decide +kernel
theorem dX8_add_113 : decode cX8_add 113 = .ok (.if_icmp .ne 7, 3) := by decide +kernel
theorem dX8_add_116 : decode cX8_add 116 = .ok (.iconst 3, 1) := by decide +kernel
theorem dX8_add_117 : decode cX8_add 117 = .ok (.goto 4, 3) := by decide +kernel
theorem dX8_add_120 : decode cX8_add 120 = .ok (.iconst 0, 1) := by decide +kernel
theorem dX8_add_121 : decode cX8_add 121 = .ok (.putfield 140, 3) := by decide +kernel
theorem dX8_add_124 : decode cX8_add 124 = .ok (.aload_n 0, 1) := by decide +kernel
theorem dX8_add_125 : decode cX8_add 125 = .ok (.getfield 140, 3) := by decide +kernel
theorem dX8_add_128 : decode cX8_add 128 = .ok (.ifCond .le 5, 3) := by decide +kernel
theorem dX8_add_131 : decode cX8_add 131 = .ok (.iconst 0, 1) := by decide +kernel
theorem dX8_add_132 : decode cX8_add 132 = .ok (.ireturn, 1) := by decide +kernel
theorem dX8_add_133 : decode cX8_add 133 = .ok (.aload_n 0, 1) := by decide +kernel
theorem dX8_add_134 : decode cX8_add 134 = .ok (.getfield 35, 3) := by decide +kernel
theorem dX8_add_137 : decode cX8_add 137 = .ok (.aload_n 0, 1) := by decide +kernel
theorem dX8_add_138 : decode cX8_add 138 = .ok (.getfield 148, 3) := by decide +kernel
theorem dX8_add_141 : decode cX8_add 141 = .ok (.iload_n 1, 1) := by decide +kernel
theorem dX8_add_142 : decode cX8_add 142 = .ok (.iastore, 1) := by decide +kernel
theorem dX8_add_143 : decode cX8_add 143 = .ok (.aload_n 0, 1) := by decide +kernel
theorem dX8_add_144 : decode cX8_add 144 = .ok (.getfield 38, 3) := by decide +kernel
theorem dX8_add_147 : decode cX8_add 147 = .ok (.aload_n 0, 1) := by decide +kernel
theorem dX8_add_148 : decode cX8_add 148 = .ok (.getfield 148, 3) := by decide +kernel
theorem dX8_add_151 : decode cX8_add 151 = .ok (.iload 4, 2) := by decide +kernel
theorem dX8_add_153 : decode cX8_add 153 = .ok (.iastore, 1) := by decide +kernel
theorem dX8_add_154 : decode cX8_add 154 = .ok (.aload_n 0, 1) := by decide +kernel
theorem dX8_add_155 : decode cX8_add 155 = .ok (.getfield 41, 3) := by decide +kernel
theorem dX8_add_158 : decode cX8_add 158 = .ok (.aload_n 0, 1) := by decide +kernel
theorem dX8_add_159 : decode cX8_add 159 = .ok (.getfield 148, 3) := by decide +kernel
theorem dX8_add_162 : decode cX8_add 162 = .ok (.iload 5, 2) := by decide +kernel
theorem dX8_add_164 : decode cX8_add 164 = .ok (.iastore, 1) := by decide +kernel
theorem dX8_add_165 : decode cX8_add 165 = .ok (.aload_n 0, 1) := by decide +kernel
theorem dX8_add_166 : decode cX8_add 166 = .ok (.getfield 44, 3) := by decide +kernel
theorem dX8_add_169 : decode cX8_add 169 = .ok (.aload_n 0, 1) := by decide +kernel
theorem dX8_add_170 : decode cX8_add 170 = .ok (.getfield 148, 3) := by decide +kernel
theorem dX8_add_173 : decode cX8_add 173 = .ok (.iload_n 2, 1) := by decide +kernel
theorem dX8_add_174 : decode cX8_add 174 = .ok (.iastore, 1) := by decide +kernel
theorem dX8_add_175 : decode cX8_add 175 = .ok (.aload_n 0, 1) := by decide +kernel
theorem dX8_add_176 : decode cX8_add 176 = .ok (.getfield 47, 3) := by decide +kernel
theorem dX8_add_179 : decode cX8_add 179 = .ok (.aload_n 0, 1) := by decide +kernel
theorem dX8_add_180 : decode cX8_add 180 = .ok (.getfield 148, 3) := by decide +kernel
theorem dX8_add_183 : decode cX8_add 183 = .ok (.iload_n 3, 1) := by decide +kernel
theorem dX8_add_184 : decode cX8_add 184 = .ok (.iastore, 1) := by decide +kernel
theorem dX8_add_185 : decode cX8_add 185 = .ok (.aload_n 0, 1) := by decide +kernel
theorem dX8_add_186 : decode cX8_add 186 = .ok (.getfield 50, 3) := by decide +kernel
theorem dX8_add_189 : decode cX8_add 189 = .ok (.aload_n 0, 1) := by decide +kernel
theorem dX8_add_190 : decode cX8_add 190 = .ok (.getfield 148, 3) := by decide +kernel
theorem dX8_add_193 : decode cX8_add 193 = .ok (.iload 6, 2) := by decide +kernel
theorem dX8_add_195 : decode cX8_add 195 = .ok (.iastore, 1) := by decide +kernel
theorem dX8_add_196 : decode cX8_add 196 = .ok (.aload_n 0, 1) := by decide +kernel
theorem dX8_add_197 : decode cX8_add 197 = .ok (.dup, 1) := by decide +kernel
theorem dX8_add_198 : decode cX8_add 198 = .ok (.getfield 148, 3) := by decide +kernel
theorem dX8_add_201 : decode cX8_add 201 = .ok (.iconst 1, 1) := by decide +kernel
theorem dX8_add_202 : decode cX8_add 202 = .ok (.iadd, 1) := by decide +kernel
theorem dX8_add_203 : decode cX8_add 203 = .ok (.putfield 148, 3) := by decide +kernel
theorem dX8_add_206 : decode cX8_add 206 = .ok (.aload_n 0, 1) := by decide +kernel
theorem dX8_add_207 : decode cX8_add 207 = .ok (.iload_n 1, 1) := by decide +kernel
theorem dX8_add_208 : decode cX8_add 208 = .ok (.iconst 0, 1) := by decide +kernel
theorem dX8_add_209 : decode cX8_add 209 = .ok (.aload_n 0, 1) := by decide +kernel
theorem dX8_add_210 : decode cX8_add 210 = .ok (.getfield 148, 3) := by decide +kernel
theorem dX8_add_213 : decode cX8_add 213 = .ok (.iconst 1, 1) := by decide +kernel
theorem dX8_add_214 : decode cX8_add 214 = .ok (.isub, 1) := by decide +kernel
theorem dX8_add_215 : decode cX8_add 215 = .ok (.iconst 0, 1) := by decide +kernel
theorem dX8_add_216 : decode cX8_add 216 = .ok (.iconst 0, 1) := by decide +kernel
theorem dX8_add_217 : decode cX8_add 217 = .ok (.invokevirtual 199, 3) := by decide +kernel
theorem dX8_add_220 : decode cX8_add 220 = .ok (.aload_n 0, 1) := by decide +kernel
theorem dX8_add_221 : decode cX8_add 221 = .ok (.getfield 148, 3) := by decide +kernel
theorem dX8_add_224 : decode cX8_add 224 = .ok (.iconst 1, 1) := by decide +kernel
theorem dX8_add_225 : decode cX8_add 225 = .ok (.isub, 1) := by decide +kernel
theorem dX8_add_226 : decode cX8_add 226 = .ok (.ireturn, 1) := by decide +kernel
theorem dX8_move_0 : decode cX8_move 0 = .ok (.aload_n 0, 1) := by decide +kernel
theorem dX8_move_1 : decode cX8_move 1 = .ok (.iload_n 1, 1) := by decide +kernel
theorem dX8_move_2 : decode cX8_move 2 = .ok (.invokestatic 196, 3) := by decide +kernel
theorem dX8_move_5 : decode cX8_move 5 = .ok (.ifCond .eq 11, 3) := by decide +kernel
theorem dX8_move_8 : decode cX8_move 8 = .ok (.aload_n 0, 1) := by decide +kernel
theorem dX8_move_9 : decode cX8_move 9 = .ok (.iload_n 2, 1) := by decide +kernel
theorem dX8_move_10 : decode cX8_move 10 = .ok (.invokevirtual 203, 3) := by decide +kernel
theorem dX8_move_13 : decode cX8_move 13 = .ok (.ifCond .ne 7, 3) := by decide +kernel
theorem dX8_move_16 : decode cX8_move 16 = .ok (.iconst 1, 1) := by decide +kernel
theorem dX8_move_17 : decode cX8_move 17 = .ok (.goto 31, 3) := by decide +kernel
theorem dX8_move_20 : decode cX8_move 20 = .ok (.iload_n 3, 1) := by decide +kernel
theorem dX8_move_21 : decode cX8_move 21 = .ok (.bipush (-24), 2) := by decide +kernel
theorem dX8_move_23 : decode cX8_move 23 = .ok (.bipush 24, 2) := by decide +kernel
theorem dX8_move_25 : decode cX8_move 25 = .ok (.invokestatic 144, 3) := by decide +kernel
theorem dX8_move_28 : decode cX8_move 28 = .ok (.ifCond .eq 19, 3) := by decide +kernel
theorem dX8_move_31 : decode cX8_move 31 = .ok (.iload 4, 2) := by decide +kernel
theorem dX8_move_33 : decode cX8_move 33 = .ok (.bipush (-16), 2) := by decide +kernel
theorem dX8_move_35 : decode cX8_move 35 = .ok (.bipush 16, 2) := by decide +kernel
theorem dX8_move_37 : decode cX8_move 37 = .ok (.invokestatic 144, 3) := by decide +kernel
theorem dX8_move_40 : decode cX8_move 40 = .ok (.ifCond .eq 7, 3) := by decide +kernel
theorem dX8_move_43 : decode cX8_move 43 = .ok (.iconst 0, 1) := by decide +kernel
theorem dX8_move_44 : decode cX8_move 44 = .ok (.goto 4, 3) := by decide +kernel
theorem dX8_move_47 : decode cX8_move 47 = .ok (.iconst 2, 1) := by decide +kernel
theorem dX8_move_48 : decode cX8_move 48 = .ok (.putfield 140, 3) := by decide +kernel
theorem dX8_move_51 : decode cX8_move 51 = .ok (.aload_n 0, 1) := by decide +kernel
theorem dX8_move_52 : decode cX8_move 52 = .ok (.getfield 140, 3) := by decide +kernel
theorem dX8_move_55 : decode cX8_move 55 = .ok (.ifCond .le 5, 3) := by decide +kernel
theorem dX8_move_58 : decode cX8_move 58 = .ok (.iconst 0, 1) := by decide +kernel
theorem dX8_move_59 : decode cX8_move 59 = .ok (.ireturn, 1) := by decide +kernel
theorem dX8_move_60 : decode cX8_move 60 = .ok (.aload_n 0, 1) := by decide +kernel
theorem dX8_move_61 : decode cX8_move 61 = .ok (.aload_n 0, 1) := by decide +kernel
theorem dX8_move_62 : decode cX8_move 62 = .ok (.iload_n 2, 1) := by decide +kernel
theorem dX8_move_63 : decode cX8_move 63 = .ok (.invokevirtual 206, 3) := by decide +kernel
theorem dX8_move_66 : decode cX8_move 66 = .ok (.ifCond .eq 7, 3) := by decide +kernel
theorem dX8_move_69 : decode cX8_move 69 = .ok (.iconst 0, 1) := by decide +kernel
theorem dX8_move_70 : decode cX8_move 70 = .ok (.goto 4, 3) := by decide +kernel
theorem dX8_move_73 : decode cX8_move 73 = .ok (.iconst 3, 1) := by decide +kernel
theorem dX8_move_74 : decode cX8_move 74 = .ok (.putfield 140, 3) := by decide +kernel
theorem dX8_move_77 : decode cX8_move 77 = .ok (.aload_n 0, 1) := by decide +kernel
theorem dX8_move_78 : decode cX8_move 78 = .ok (.getfield 140, 3) := by decide +kernel
theorem dX8_move_81 : decode cX8_move 81 = .ok (.ifCond .le 5, 3) := by decide +kernel
theorem dX8_move_84 : decode cX8_move 84 = .ok (.iconst 0, 1) := by decide +kernel
theorem dX8_move_85 : decode cX8_move 85 = .ok (.ireturn, 1) := by decide +kernel
theorem dX8_move_86 : decode cX8_move 86 = .ok (.aload_n 0, 1) := by decide +kernel
theorem dX8_move_87 : decode cX8_move 87 = .ok (.iload_n 1, 1) := by decide +kernel
theorem dX8_move_88 : decode cX8_move 88 = .ok (.iconst 1, 1) := by decide +kernel
theorem dX8_move_89 : decode cX8_move 89 = .ok (.iload_n 2, 1) := by decide +kernel
theorem dX8_move_90 : decode cX8_move 90 = .ok (.iload_n 3, 1) := by decide +kernel
theorem dX8_move_91 : decode cX8_move 91 = .ok (.iload 4, 2) := by decide +kernel
theorem dX8_move_93 : decode cX8_move 93 = .ok (.invokevirtual 199, 3) := by decide +kernel
theorem dX8_move_96 : decode cX8_move 96 = .ok (.aload_n 0, 1) := by decide +kernel
theorem dX8_move_97 : decode cX8_move 97 = .ok (.iload_n 2, 1) := by decide +kernel
theorem dX8_move_98 : decode cX8_move 98 = .ok (.invokevirtual 209, 3) := by decide +kernel
theorem dX8_move_101 : decode cX8_move 101 = .ok (.ireturn, 1) := by decide +kernel
theorem dX8_paint_0 : decode cX8_paint 0 = .ok (.aload_n 0, 1) := by decide +kernel
theorem dX8_paint_1 : decode cX8_paint 1 = .ok (.iload_n 1, 1) := by decide +kernel
theorem dX8_paint_2 : decode cX8_paint 2 = .ok (.invokestatic 196, 3) := by decide +kernel
theorem dX8_paint_5 : decode cX8_paint 5 = .ok (.ifCond .eq 11, 3) := by decide +kernel
theorem dX8_paint_8 : decode cX8_paint 8 = .ok (.aload_n 0, 1) := by decide +kernel
theorem dX8_paint_9 : decode cX8_paint 9 = .ok (.iload_n 2, 1) := by decide +kernel
theorem dX8_paint_10 : decode cX8_paint 10 = .ok (.invokevirtual 203, 3) := by decide +kernel
theorem dX8_paint_13 : decode cX8_paint 13 = .ok (.ifCond .ne 7, 3) := by decide +kernel
theorem dX8_paint_16 : decode cX8_paint 16 = .ok (.iconst 1, 1) := by decide +kernel
theorem dX8_paint_17 : decode cX8_paint 17 = .ok (.goto 18, 3) := by decide +kernel
theorem dX8_paint_20 : decode cX8_paint 20 = .ok (.iload_n 3, 1) := by decide +kernel
theorem dX8_paint_21 : decode cX8_paint 21 = .ok (.iconst 1, 1) := by decide +kernel
theorem dX8_paint_22 : decode cX8_paint 22 = .ok (.bipush 9, 2) := by decide +kernel
theorem dX8_paint_24 : decode cX8_paint 24 = .ok (.invokestatic 144, 3) := by decide +kernel
theorem dX8_paint_27 : decode cX8_paint 27 = .ok (.ifCond .eq 7, 3) := by decide +kernel
theorem dX8_paint_30 : decode cX8_paint 30 = .ok (.iconst 0, 1) := by decide +kernel
theorem dX8_paint_31 : decode cX8_paint 31 = .ok (.goto 4, 3) := by decide +kernel
theorem dX8_paint_34 : decode cX8_paint 34 = .ok (.iconst 2, 1) := by decide +kernel
theorem dX8_paint_35 : decode cX8_paint 35 = .ok (.putfield 140, 3) := by decide +kernel
theorem dX8_paint_38 : decode cX8_paint 38 = .ok (.aload_n 0, 1) := by decide +kernel
theorem dX8_paint_39 : decode cX8_paint 39 = .ok (.getfield 140, 3) := by decide +kernel
theorem dX8_paint_42 : decode cX8_paint 42 = .ok (.ifCond .le 5, 3) := by decide +kernel
theorem dX8_paint_45 : decode cX8_paint 45 = .ok (.iconst 0, 1) := by decide +kernel
theorem dX8_paint_46 : decode cX8_paint 46 = .ok (.ireturn, 1) := by decide +kernel
theorem dX8_paint_47 : decode cX8_paint 47 = .ok (.aload_n 0, 1) := by decide +kernel
theorem dX8_paint_48 : decode cX8_paint 48 = .ok (.aload_n 0, 1) := by decide +kernel
theorem dX8_paint_49 : decode cX8_paint 49 = .ok (.iload_n 2, 1) := by decide +kernel
theorem dX8_paint_50 : decode cX8_paint 50 = .ok (.invokevirtual 206, 3) := by decide +kernel
theorem dX8_paint_53 : decode cX8_paint 53 = .ok (.ifCond .eq 7, 3) := by decide +kernel
theorem dX8_paint_56 : decode cX8_paint 56 = .ok (.iconst 0, 1) := by decide +kernel
theorem dX8_paint_57 : decode cX8_paint 57 = .ok (.goto 4, 3) := by decide +kernel
theorem dX8_paint_60 : decode cX8_paint 60 = .ok (.iconst 3, 1) := by decide +kernel
theorem dX8_paint_61 : decode cX8_paint 61 = .ok (.putfield 140, 3) := by decide +kernel
theorem dX8_paint_64 : decode cX8_paint 64 = .ok (.aload_n 0, 1) := by decide +kernel
theorem dX8_paint_65 : decode cX8_paint 65 = .ok (.getfield 140, 3) := by decide +kernel
theorem dX8_paint_68 : decode cX8_paint 68 = .ok (.ifCond .le 5, 3) := by decide +kernel
theorem dX8_paint_71 : decode cX8_paint 71 = .ok (.iconst 0, 1) := by decide +kernel
theorem dX8_paint_72 : decode cX8_paint 72 = .ok (.ireturn, 1) := by decide +kernel
theorem dX8_paint_73 : decode cX8_paint 73 = .ok (.aload_n 0, 1) := by decide +kernel
theorem dX8_paint_74 : decode cX8_paint 74 = .ok (.getfield 68, 3) := by decide +kernel
theorem dX8_paint_77 : decode cX8_paint 77 = .ok (.iload_n 2, 1) := by decide +kernel
theorem dX8_paint_78 : decode cX8_paint 78 = .ok (.iaload, 1) := by decide +kernel
theorem dX8_paint_79 : decode cX8_paint 79 = .ok (.istore 4, 2) := by decide +kernel
theorem dX8_paint_81 : decode cX8_paint 81 = .ok (.aload_n 0, 1) := by decide +kernel
theorem dX8_paint_82 : decode cX8_paint 82 = .ok (.iload_n 1, 1) := by decide +kernel
theorem dX8_paint_83 : decode cX8_paint 83 = .ok (.iconst 2, 1) := by decide +kernel
theorem dX8_paint_84 : decode cX8_paint 84 = .ok (.iload_n 2, 1) := by decide +kernel
theorem dX8_paint_85 : decode cX8_paint 85 = .ok (.iload_n 3, 1) := by decide +kernel
theorem dX8_paint_86 : decode cX8_paint 86 = .ok (.iconst 0, 1) := by decide +kernel
theorem dX8_paint_87 : decode cX8_paint 87 = .ok (.invokevirtual 199, 3) := by decide +kernel
theorem dX8_paint_90 : decode cX8_paint 90 = .ok (.iload 4, 2) := by decide +kernel
theorem dX8_paint_92 : decode cX8_paint 92 = .ok (.ireturn, 1) := by decide +kernel
theorem dX8_names_0 : decode cX8_names 0 = .ok (.iload_n 1, 1) := by decide +kernel
theorem dX8_names_1 : decode cX8_names 1 = .ok (.invokestatic 196, 3) := by decide +kernel
theorem dX8_names_4 : decode cX8_names 4 = .ok (.ifCond .eq 11, 3) := by decide +kernel
theorem dX8_names_7 : decode cX8_names 7 = .ok (.aload_n 0, 1) := by decide +kernel
theorem dX8_names_8 : decode cX8_names 8 = .ok (.iload_n 2, 1) := by decide +kernel
theorem dX8_names_9 : decode cX8_names 9 = .ok (.invokevirtual 203, 3) := by decide +kernel
theorem dX8_names_12 : decode cX8_names 12 = .ok (.ifCond .ne 5, 3) := by decide +kernel
theorem dX8_names_15 : decode cX8_names 15 = .ok (.iconst 1, 1) := by decide +kernel
theorem dX8_names_16 : decode cX8_names 16 = .ok (.ireturn, 1) := by decide +kernel
theorem dX8_names_17 : decode cX8_names 17 = .ok (.aload_n 0, 1) := by decide +kernel
theorem dX8_names_18 : decode cX8_names 18 = .ok (.iload_n 2, 1) := by decide +kernel
theorem dX8_names_19 : decode cX8_names 19 = .ok (.invokevirtual 206, 3) := by decide +kernel
theorem dX8_names_22 : decode cX8_names 22 = .ok (.ifCond .eq 7, 3) := by decide +kernel
theorem dX8_names_25 : decode cX8_names 25 = .ok (.iconst 0, 1) := by decide +kernel
theorem dX8_names_26 : decode cX8_names 26 = .ok (.goto 4, 3) := by decide +kernel
theorem dX8_names_29 : decode cX8_names 29 = .ok (.iconst 2, 1) := by decide +kernel
theorem dX8_names_30 : decode cX8_names 30 = .ok (.ireturn, 1) := by decide +kernel
theorem dX8_layer_0 : decode cX8_layer 0 = .ok (.aload_n 0, 1) := by decide +kernel
theorem dX8_layer_1 : decode cX8_layer 1 = .ok (.aload_n 0, 1) := by decide +kernel
theorem dX8_layer_2 : decode cX8_layer 2 = .ok (.iload_n 1, 1) := by decide +kernel
theorem dX8_layer_3 : decode cX8_layer 3 = .ok (.iload_n 2, 1) := by decide +kernel
theorem dX8_layer_4 : decode cX8_layer 4 = .ok (.invokevirtual 213, 3) := by decide +kernel
theorem dX8_layer_7 : decode cX8_layer 7 = .ok (.putfield 140, 3) := by decide +kernel
theorem dX8_layer_10 : decode cX8_layer 10 = .ok (.aload_n 0, 1) := by decide +kernel
theorem dX8_layer_11 : decode cX8_layer 11 = .ok (.getfield 140, 3) := by decide +kernel
theorem dX8_layer_14 : decode cX8_layer 14 = .ok (.ifCond .le 5, 3) := by decide +kernel
theorem dX8_layer_17 : decode cX8_layer 17 = .ok (.iconst 0, 1) := by decide +kernel
theorem dX8_layer_18 : decode cX8_layer 18 = .ok (.ireturn, 1) := by decide +kernel
theorem dX8_layer_19 : decode cX8_layer 19 = .ok (.aload_n 0, 1) := by decide +kernel
theorem dX8_layer_20 : decode cX8_layer 20 = .ok (.iload_n 1, 1) := by decide +kernel
theorem dX8_layer_21 : decode cX8_layer 21 = .ok (.iload_n 3, 1) := by decide +kernel
theorem dX8_layer_22 : decode cX8_layer 22 = .ok (.ifCond .eq 7, 3) := by decide +kernel
theorem dX8_layer_25 : decode cX8_layer 25 = .ok (.iconst 3, 1) := by decide +kernel
theorem dX8_layer_26 : decode cX8_layer 26 = .ok (.goto 4, 3) := by decide +kernel
theorem dX8_layer_29 : decode cX8_layer 29 = .ok (.iconst 4, 1) := by decide +kernel
theorem dX8_layer_30 : decode cX8_layer 30 = .ok (.iload_n 2, 1) := by decide +kernel
theorem dX8_layer_31 : decode cX8_layer 31 = .ok (.iconst 0, 1) := by decide +kernel
theorem dX8_layer_32 : decode cX8_layer 32 = .ok (.iconst 0, 1) := by decide +kernel
theorem dX8_layer_33 : decode cX8_layer 33 = .ok (.invokevirtual 199, 3) := by decide +kernel
theorem dX8_layer_36 : decode cX8_layer 36 = .ok (.aload_n 0, 1) := by decide +kernel
theorem dX8_layer_37 : decode cX8_layer 37 = .ok (.getfield 161, 3) := by decide +kernel
theorem dX8_layer_40 : decode cX8_layer 40 = .ok (.ireturn, 1) := by decide +kernel
theorem dX8_join_0 : decode cX8_join 0 = .ok (.aload_n 0, 1) := by decide +kernel
theorem dX8_join_1 : decode cX8_join 1 = .ok (.iload_n 1, 1) := by decide +kernel
theorem dX8_join_2 : decode cX8_join 2 = .ok (.invokestatic 196, 3) := by decide +kernel
theorem dX8_join_5 : decode cX8_join 5 = .ok (.ifCond .eq 19, 3) := by decide +kernel
theorem dX8_join_8 : decode cX8_join 8 = .ok (.aload_n 0, 1) := by decide +kernel
theorem dX8_join_9 : decode cX8_join 9 = .ok (.iload_n 2, 1) := by decide +kernel
theorem dX8_join_10 : decode cX8_join 10 = .ok (.invokevirtual 203, 3) := by decide +kernel
theorem dX8_join_13 : decode cX8_join 13 = .ok (.ifCond .eq 11, 3) := by decide +kernel
theorem dX8_join_16 : decode cX8_join 16 = .ok (.aload_n 0, 1) := by decide +kernel
theorem dX8_join_17 : decode cX8_join 17 = .ok (.iload_n 3, 1) := by decide +kernel
theorem dX8_join_18 : decode cX8_join 18 = .ok (.invokevirtual 203, 3) := by decide +kernel
theorem dX8_join_21 : decode cX8_join 21 = .ok (.ifCond .ne 7, 3) := by decide +kernel
theorem dX8_join_24 : decode cX8_join 24 = .ok (.iconst 1, 1) := by decide +kernel
theorem dX8_join_25 : decode cX8_join 25 = .ok (.goto 13, 3) := by decide +kernel
theorem dX8_join_28 : decode cX8_join 28 = .ok (.iload_n 2, 1) := by decide +kernel
theorem dX8_join_29 : decode cX8_join 29 = .ok (.iload_n 3, 1) := by decide +kernel
theorem dX8_join_30 : decode cX8_join 30 = .ok (.if_icmp .ne 7, 3) := by decide +kernel
theorem dX8_join_33 : decode cX8_join 33 = .ok (.iconst 2, 1) := by decide +kernel
theorem dX8_join_34 : decode cX8_join 34 = .ok (.goto 4, 3) := by decide +kernel
theorem dX8_join_37 : decode cX8_join 37 = .ok (.iconst 0, 1) := by decide +kernel
theorem dX8_join_38 : decode cX8_join 38 = .ok (.putfield 140, 3) := by decide +kernel
theorem dX8_join_41 : decode cX8_join 41 = .ok (.aload_n 0, 1) := by decide +kernel
theorem dX8_join_42 : decode cX8_join 42 = .ok (.getfield 140, 3) := by decide +kernel
theorem dX8_join_45 : decode cX8_join 45 = .ok (.ifCond .le 5, 3) := by decide +kernel
theorem dX8_join_48 : decode cX8_join 48 = .ok (.iconst 0, 1) := by decide +kernel
theorem dX8_join_49 : decode cX8_join 49 = .ok (.ireturn, 1) := by decide +kernel
theorem dX8_join_50 : decode cX8_join 50 = .ok (.aload_n 0, 1) := by decide +kernel
theorem dX8_join_51 : decode cX8_join 51 = .ok (.aload_n 0, 1) := by decide +kernel
theorem dX8_join_52 : decode cX8_join 52 = .ok (.iload_n 2, 1) := by decide +kernel
theorem dX8_join_53 : decode cX8_join 53 = .ok (.invokevirtual 206, 3) := by decide +kernel
theorem dX8_join_56 : decode cX8_join 56 = .ok (.ifCond .eq 15, 3) := by decide +kernel
theorem dX8_join_59 : decode cX8_join 59 = .ok (.aload_n 0, 1) := by decide +kernel
theorem dX8_join_60 : decode cX8_join 60 = .ok (.iload_n 3, 1) := by decide +kernel
theorem dX8_join_61 : decode cX8_join 61 = .ok (.invokevirtual 206, 3) := by decide +kernel
theorem dX8_join_64 : decode cX8_join 64 = .ok (.ifCond .eq 7, 3) := by decide +kernel
theorem dX8_join_67 : decode cX8_join 67 = .ok (.iconst 0, 1) := by decide +kernel
theorem dX8_join_68 : decode cX8_join 68 = .ok (.goto 4, 3) := by decide +kernel
theorem dX8_join_71 : decode cX8_join 71 = .ok (.iconst 3, 1) := by decide +kernel
theorem dX8_join_72 : decode cX8_join 72 = .ok (.putfield 140, 3) := by decide +kernel
theorem dX8_join_75 : decode cX8_join 75 = .ok (.aload_n 0, 1) := by decide +kernel
theorem dX8_join_76 : decode cX8_join 76 = .ok (.getfield 140, 3) := by decide +kernel
theorem dX8_join_79 : decode cX8_join 79 = .ok (.ifCond .le 5, 3) := by decide +kernel
theorem dX8_join_82 : decode cX8_join 82 = .ok (.iconst 0, 1) := by decide +kernel
theorem dX8_join_83 : decode cX8_join 83 = .ok (.ireturn, 1) := by decide +kernel
theorem dX8_join_84 : decode cX8_join 84 = .ok (.aload_n 0, 1) := by decide +kernel
theorem dX8_join_85 : decode cX8_join 85 = .ok (.iload_n 1, 1) := by decide +kernel
theorem dX8_join_86 : decode cX8_join 86 = .ok (.iconst 5, 1) := by decide +kernel
theorem dX8_join_87 : decode cX8_join 87 = .ok (.iload_n 2, 1) := by decide +kernel
theorem dX8_join_88 : decode cX8_join 88 = .ok (.iload_n 3, 1) := by decide +kernel
theorem dX8_join_89 : decode cX8_join 89 = .ok (.iconst 0, 1) := by decide +kernel
theorem dX8_join_90 : decode cX8_join 90 = .ok (.invokevirtual 199, 3) := by decide +kernel
theorem dX8_join_93 : decode cX8_join 93 = .ok (.aload_n 0, 1) := by decide +kernel
theorem dX8_join_94 : decode cX8_join 94 = .ok (.iload_n 2, 1) := by decide +kernel
theorem dX8_join_95 : decode cX8_join 95 = .ok (.invokevirtual 209, 3) := by decide +kernel
theorem dX8_join_98 : decode cX8_join 98 = .ok (.ireturn, 1) := by decide +kernel
theorem dX8_part_0 : decode cX8_part 0 = .ok (.aload_n 0, 1) := by decide +kernel
theorem dX8_part_1 : decode cX8_part 1 = .ok (.aload_n 0, 1) := by decide +kernel
theorem dX8_part_2 : decode cX8_part 2 = .ok (.iload_n 1, 1) := by decide +kernel
theorem dX8_part_3 : decode cX8_part 3 = .ok (.iload_n 2, 1) := by decide +kernel
theorem dX8_part_4 : decode cX8_part 4 = .ok (.invokevirtual 213, 3) := by decide +kernel
theorem dX8_part_7 : decode cX8_part 7 = .ok (.putfield 140, 3) := by decide +kernel
theorem dX8_part_10 : decode cX8_part 10 = .ok (.aload_n 0, 1) := by decide +kernel
theorem dX8_part_11 : decode cX8_part 11 = .ok (.getfield 140, 3) := by decide +kernel
theorem dX8_part_14 : decode cX8_part 14 = .ok (.ifCond .le 5, 3) := by decide +kernel
theorem dX8_part_17 : decode cX8_part 17 = .ok (.iconst 0, 1) := by decide +kernel
theorem dX8_part_18 : decode cX8_part 18 = .ok (.ireturn, 1) := by decide +kernel
theorem dX8_part_19 : decode cX8_part 19 = .ok (.aload_n 0, 1) := by decide +kernel
theorem dX8_part_20 : decode cX8_part 20 = .ok (.iload_n 2, 1) := by decide +kernel
theorem dX8_part_21 : decode cX8_part 21 = .ok (.invokevirtual 209, 3) := by decide +kernel
theorem dX8_part_24 : decode cX8_part 24 = .ok (.iconst 1, 1) := by decide +kernel
theorem dX8_part_25 : decode cX8_part 25 = .ok (.isub, 1) := by decide +kernel
theorem dX8_part_26 : decode cX8_part 26 = .ok (.istore_n 3, 1) := by decide +kernel
theorem dX8_part_27 : decode cX8_part 27 = .ok (.aload_n 0, 1) := by decide +kernel
theorem dX8_part_28 : decode cX8_part 28 = .ok (.iload_n 1, 1) := by decide +kernel
theorem dX8_part_29 : decode cX8_part 29 = .ok (.bipush 6, 2) := by decide +kernel
theorem dX8_part_31 : decode cX8_part 31 = .ok (.iload_n 2, 1) := by decide +kernel
theorem dX8_part_32 : decode cX8_part 32 = .ok (.iconst 0, 1) := by decide +kernel
theorem dX8_part_33 : decode cX8_part 33 = .ok (.iconst 0, 1) := by decide +kernel
theorem dX8_part_34 : decode cX8_part 34 = .ok (.invokevirtual 199, 3) := by decide +kernel
theorem dX8_part_37 : decode cX8_part 37 = .ok (.iload_n 3, 1) := by decide +kernel
theorem dX8_part_38 : decode cX8_part 38 = .ok (.ireturn, 1) := by decide +kernel
theorem dX8_drop_0 : decode cX8_drop 0 = .ok (.aload_n 0, 1) := by decide +kernel
theorem dX8_drop_1 : decode cX8_drop 1 = .ok (.aload_n 0, 1) := by decide +kernel
theorem dX8_drop_2 : decode cX8_drop 2 = .ok (.iload_n 1, 1) := by decide +kernel
theorem dX8_drop_3 : decode cX8_drop 3 = .ok (.iload_n 2, 1) := by decide +kernel
theorem dX8_drop_4 : decode cX8_drop 4 = .ok (.invokevirtual 213, 3) := by decide +kernel
theorem dX8_drop_7 : decode cX8_drop 7 = .ok (.putfield 140, 3) := by decide +kernel
theorem dX8_drop_10 : decode cX8_drop 10 = .ok (.aload_n 0, 1) := by decide +kernel
theorem dX8_drop_11 : decode cX8_drop 11 = .ok (.getfield 140, 3) := by decide +kernel
theorem dX8_drop_14 : decode cX8_drop 14 = .ok (.ifCond .le 5, 3) := by decide +kernel
theorem dX8_drop_17 : decode cX8_drop 17 = .ok (.iconst 0, 1) := by decide +kernel
theorem dX8_drop_18 : decode cX8_drop 18 = .ok (.ireturn, 1) := by decide +kernel
theorem dX8_drop_19 : decode cX8_drop 19 = .ok (.aload_n 0, 1) := by decide +kernel
theorem dX8_drop_20 : decode cX8_drop 20 = .ok (.iload_n 1, 1) := by decide +kernel
theorem dX8_drop_21 : decode cX8_drop 21 = .ok (.bipush 7, 2) := by decide +kernel
theorem dX8_drop_23 : decode cX8_drop 23 = .ok (.iload_n 2, 1) := by decide +kernel
theorem dX8_drop_24 : decode cX8_drop 24 = .ok (.iconst 0, 1) := by decide +kernel
theorem dX8_drop_25 : decode cX8_drop 25 = .ok (.iconst 0, 1) := by decide +kernel
theorem dX8_drop_26 : decode cX8_drop 26 = .ok (.invokevirtual 199, 3) := by decide +kernel
theorem dX8_drop_29 : decode cX8_drop 29 = .ok (.aload_n 0, 1) := by decide +kernel
theorem dX8_drop_30 : decode cX8_drop 30 = .ok (.getfield 161, 3) := by decide +kernel
theorem dX8_drop_33 : decode cX8_drop 33 = .ok (.ireturn, 1) := by decide +kernel
theorem dX8_holderOf_0 : decode cX8_holderOf 0 = .ok (.iconst (-1), 1) := by decide +kernel
theorem dX8_holderOf_1 : decode cX8_holderOf 1 = .ok (.istore_n 2, 1) := by decide +kernel
theorem dX8_holderOf_2 : decode cX8_holderOf 2 = .ok (.aload_n 0, 1) := by decide +kernel
theorem dX8_holderOf_3 : decode cX8_holderOf 3 = .ok (.getfield 154, 3) := by decide +kernel
theorem dX8_holderOf_6 : decode cX8_holderOf 6 = .ok (.iconst 1, 1) := by decide +kernel
theorem dX8_holderOf_7 : decode cX8_holderOf 7 = .ok (.isub, 1) := by decide +kernel
theorem dX8_holderOf_8 : decode cX8_holderOf 8 = .ok (.istore_n 3, 1) := by decide +kernel
theorem dX8_holderOf_9 : decode cX8_holderOf 9 = .ok (.iload_n 3, 1) := by decide +kernel
theorem dX8_holderOf_10 : decode cX8_holderOf 10 = .ok (.ifCond .lt 30, 3) := by decide +kernel
theorem dX8_holderOf_13 : decode cX8_holderOf 13 = .ok (.aload_n 0, 1) := by decide +kernel
theorem dX8_holderOf_14 : decode cX8_holderOf 14 = .ok (.getfield 104, 3) := by decide +kernel
theorem dX8_holderOf_17 : decode cX8_holderOf 17 = .ok (.sipush 200, 3) := by decide +kernel
theorem dX8_holderOf_20 : decode cX8_holderOf 20 = .ok (.iload_n 3, 1) := by decide +kernel
theorem dX8_holderOf_21 : decode cX8_holderOf 21 = .ok (.imul, 1) := by decide +kernel
theorem dX8_holderOf_22 : decode cX8_holderOf 22 = .ok (.iload_n 1, 1) := by decide +kernel
theorem dX8_holderOf_23 : decode cX8_holderOf 23 = .ok (.iadd, 1) := by decide +kernel
theorem dX8_holderOf_24 : decode cX8_holderOf 24 = .ok (.baload, 1) := by decide +kernel
theorem dX8_holderOf_25 : decode cX8_holderOf 25 = .ok (.ifCond .eq 7, 3) := by decide +kernel
theorem dX8_holderOf_28 : decode cX8_holderOf 28 = .ok (.iload_n 3, 1) := by decide +kernel
theorem dX8_holderOf_29 : decode cX8_holderOf 29 = .ok (.goto 4, 3) := by decide +kernel
theorem dX8_holderOf_32 : decode cX8_holderOf 32 = .ok (.iload_n 2, 1) := by decide +kernel
theorem dX8_holderOf_33 : decode cX8_holderOf 33 = .ok (.istore_n 2, 1) := by decide +kernel
theorem dX8_holderOf_34 : decode cX8_holderOf 34 = .ok (.iinc 3 (-1), 3) := by decide +kernel
theorem dX8_holderOf_37 : decode cX8_holderOf 37 = .ok (.goto (-28), 3) := by decide +kernel
theorem dX8_holderOf_40 : decode cX8_holderOf 40 = .ok (.iload_n 2, 1) := by decide +kernel
theorem dX8_holderOf_41 : decode cX8_holderOf 41 = .ok (.ireturn, 1) := by decide +kernel
theorem dX8_undo_0 : decode cX8_undo 0 = .ok (.aload_n 0, 1) := by decide +kernel
theorem dX8_undo_1 : decode cX8_undo 1 = .ok (.iload_n 1, 1) := by decide +kernel
theorem dX8_undo_2 : decode cX8_undo 2 = .ok (.invokestatic 196, 3) := by decide +kernel
theorem dX8_undo_5 : decode cX8_undo 5 = .ok (.ifCond .eq 7, 3) := by decide +kernel
theorem dX8_undo_8 : decode cX8_undo 8 = .ok (.iconst 0, 1) := by decide +kernel
theorem dX8_undo_9 : decode cX8_undo 9 = .ok (.goto 4, 3) := by decide +kernel
theorem dX8_undo_12 : decode cX8_undo 12 = .ok (.iconst 1, 1) := by decide +kernel
theorem dX8_undo_13 : decode cX8_undo 13 = .ok (.putfield 140, 3) := by decide +kernel
theorem dX8_undo_16 : decode cX8_undo 16 = .ok (.aload_n 0, 1) := by decide +kernel
theorem dX8_undo_17 : decode cX8_undo 17 = .ok (.getfield 140, 3) := by decide +kernel
theorem dX8_undo_20 : decode cX8_undo 20 = .ok (.ifCond .le 5, 3) := by decide +kernel
theorem dX8_undo_23 : decode cX8_undo 23 = .ok (.iconst 0, 1) := by decide +kernel
theorem dX8_undo_24 : decode cX8_undo 24 = .ok (.ireturn, 1) := by decide +kernel
theorem dX8_undo_25 : decode cX8_undo 25 = .ok (.iconst (-1), 1) := by decide +kernel
theorem dX8_undo_26 : decode cX8_undo 26 = .ok (.istore_n 2, 1) := by decide +kernel
theorem dX8_undo_27 : decode cX8_undo 27 = .ok (.iconst 0, 1) := by decide +kernel
theorem dX8_undo_28 : decode cX8_undo 28 = .ok (.istore_n 3, 1) := by decide +kernel
theorem dX8_undo_29 : decode cX8_undo 29 = .ok (.iload_n 3, 1) := by decide +kernel
theorem dX8_undo_30 : decode cX8_undo 30 = .ok (.aload_n 0, 1) := by decide +kernel
theorem dX8_undo_31 : decode cX8_undo 31 = .ok (.getfield 151, 3) := by decide +kernel
theorem dX8_undo_34 : decode cX8_undo 34 = .ok (.if_icmp .ge 34, 3) := by decide +kernel
theorem dX8_undo_37 : decode cX8_undo 37 = .ok (.aload_n 0, 1) := by decide +kernel
theorem dX8_undo_38 : decode cX8_undo 38 = .ok (.getfield 25, 3) := by decide +kernel
theorem dX8_undo_41 : decode cX8_undo 41 = .ok (.iload_n 3, 1) := by decide +kernel
theorem dX8_undo_42 : decode cX8_undo 42 = .ok (.baload, 1) := by decide +kernel
theorem dX8_undo_43 : decode cX8_undo 43 = .ok (.ifCond .eq 17, 3) := by decide +kernel
theorem dX8_undo_46 : decode cX8_undo 46 = .ok (.aload_n 0, 1) := by decide +kernel
theorem dX8_undo_47 : decode cX8_undo 47 = .ok (.getfield 13, 3) := by decide +kernel
theorem dX8_undo_50 : decode cX8_undo 50 = .ok (.iload_n 3, 1) := by decide +kernel
theorem dX8_undo_51 : decode cX8_undo 51 = .ok (.iaload, 1) := by decide +kernel
theorem dX8_undo_52 : decode cX8_undo 52 = .ok (.iload_n 1, 1) := by decide +kernel
theorem dX8_undo_53 : decode cX8_undo 53 = .ok (.if_icmp .ne 7, 3) := by decide +kernel
theorem dX8_undo_56 : decode cX8_undo 56 = .ok (.iload_n 3, 1) := by decide +kernel
theorem dX8_undo_57 : decode cX8_undo 57 = .ok (.goto 4, 3) := by decide +kernel
theorem dX8_undo_60 : decode cX8_undo 60 = .ok (.iload_n 2, 1) := by decide +kernel
theorem dX8_undo_61 : decode cX8_undo 61 = .ok (.istore_n 2, 1) := by decide +kernel
theorem dX8_undo_62 : decode cX8_undo 62 = .ok (.iinc 3 1, 3) := by decide +kernel
theorem dX8_undo_65 : decode cX8_undo 65 = .ok (.goto (-36), 3) := by decide +kernel
theorem dX8_undo_68 : decode cX8_undo 68 = .ok (.aload_n 0, 1) := by decide +kernel
theorem dX8_undo_69 : decode cX8_undo 69 = .ok (.iload_n 2, 1) := by decide +kernel
theorem dX8_undo_70 : decode cX8_undo 70 = .ok (.iconst (-1), 1) := by decide +kernel
theorem dX8_undo_71 : decode cX8_undo 71 = .ok (.if_icmp .eq 21, 3) := by decide +kernel
theorem dX8_undo_74 : decode cX8_undo 74 = .ok (.aload_n 0, 1) := by decide +kernel
theorem dX8_undo_75 : decode cX8_undo 75 = .ok (.iload_n 2, 1) := by decide +kernel
theorem dX8_undo_76 : decode cX8_undo 76 = .ok (.iconst (-1), 1) := by decide +kernel
theorem dX8_undo_77 : decode cX8_undo 77 = .ok (.if_icmp .ne 7, 3) := by decide +kernel
theorem dX8_undo_80 : decode cX8_undo 80 = .ok (.iconst 0, 1) := by decide +kernel
theorem dX8_undo_81 : decode cX8_undo 81 = .ok (.goto 4, 3) := by decide +kernel
theorem dX8_undo_84 : decode cX8_undo 84 = .ok (.iload_n 2, 1) := by decide +kernel
theorem dX8_undo_85 : decode cX8_undo 85 = .ok (.invokevirtual 217, 3) := by decide +kernel
theorem dX8_undo_88 : decode cX8_undo 88 = .ok (.iconst (-1), 1) := by decide +kernel
theorem dX8_undo_89 : decode cX8_undo 89 = .ok (.if_icmp .eq 7, 3) := by decide +kernel
theorem dX8_undo_92 : decode cX8_undo 92 = .ok (.iconst 2, 1) := by decide +kernel
theorem dX8_undo_93 : decode cX8_undo 93 = .ok (.goto 4, 3) := by decide +kernel
theorem dX8_undo_96 : decode cX8_undo 96 = .ok (.iconst 0, 1) := by decide +kernel
theorem dX8_undo_97 : decode cX8_undo 97 = .ok (.putfield 140, 3) := by decide +kernel
theorem dX8_undo_100 : decode cX8_undo 100 = .ok (.aload_n 0, 1) := by decide +kernel
theorem dX8_undo_101 : decode cX8_undo 101 = .ok (.getfield 140, 3) := by decide +kernel
theorem dX8_undo_104 : decode cX8_undo 104 = .ok (.ifCond .le 5, 3) := by decide +kernel
theorem dX8_undo_107 : decode cX8_undo 107 = .ok (.iconst 0, 1) := by decide +kernel
theorem dX8_undo_108 : decode cX8_undo 108 = .ok (.ireturn, 1) := by decide +kernel
theorem dX8_undo_109 : decode cX8_undo 109 = .ok (.aload_n 0, 1) := by decide +kernel
theorem dX8_undo_110 : decode cX8_undo 110 = .ok (.getfield 25, 3) := by decide +kernel
theorem dX8_undo_113 : decode cX8_undo 113 = .ok (.iload_n 2, 1) := by decide +kernel
theorem dX8_undo_114 : decode cX8_undo 114 = .ok (.iconst 0, 1) := by decide +kernel
theorem dX8_undo_115 : decode cX8_undo 115 = .ok (.bastore, 1) := by decide +kernel
theorem dX8_undo_116 : decode cX8_undo 116 = .ok (.aload_n 0, 1) := by decide +kernel
theorem dX8_undo_117 : decode cX8_undo 117 = .ok (.getfield 29, 3) := by decide +kernel
theorem dX8_undo_120 : decode cX8_undo 120 = .ok (.sipush 200, 3) := by decide +kernel
theorem dX8_undo_123 : decode cX8_undo 123 = .ok (.iload_n 1, 1) := by decide +kernel
theorem dX8_undo_124 : decode cX8_undo 124 = .ok (.imul, 1) := by decide +kernel
theorem dX8_undo_125 : decode cX8_undo 125 = .ok (.aload_n 0, 1) := by decide +kernel
theorem dX8_undo_126 : decode cX8_undo 126 = .ok (.getfield 32, 3) := by decide +kernel
theorem dX8_undo_129 : decode cX8_undo 129 = .ok (.iload_n 1, 1) := by decide +kernel
theorem dX8_undo_130 : decode cX8_undo 130 = .ok (.iaload, 1) := by decide +kernel
theorem dX8_undo_131 : decode cX8_undo 131 = .ok (.iadd, 1) := by decide +kernel
theorem dX8_undo_132 : decode cX8_undo 132 = .ok (.iload_n 2, 1) := by decide +kernel
theorem dX8_undo_133 : decode cX8_undo 133 = .ok (.iastore, 1) := by decide +kernel
theorem dX8_undo_134 : decode cX8_undo 134 = .ok (.aload_n 0, 1) := by decide +kernel
theorem dX8_undo_135 : decode cX8_undo 135 = .ok (.getfield 32, 3) := by decide +kernel
theorem dX8_undo_138 : decode cX8_undo 138 = .ok (.iload_n 1, 1) := by decide +kernel
theorem dX8_undo_139 : decode cX8_undo 139 = .ok (.dup2, 1) := by decide +kernel
theorem dX8_undo_140 : decode cX8_undo 140 = .ok (.iaload, 1) := by decide +kernel
theorem dX8_undo_141 : decode cX8_undo 141 = .ok (.iconst 1, 1) := by decide +kernel
theorem dX8_undo_142 : decode cX8_undo 142 = .ok (.iadd, 1) := by decide +kernel
theorem dX8_undo_143 : decode cX8_undo 143 = .ok (.iastore, 1) := by decide +kernel
theorem dX8_undo_144 : decode cX8_undo 144 = .ok (.aload_n 0, 1) := by decide +kernel
theorem dX8_undo_145 : decode cX8_undo 145 = .ok (.invokevirtual 193, 3) := by decide +kernel
theorem dX8_undo_148 : decode cX8_undo 148 = .ok (.iload_n 2, 1) := by decide +kernel
theorem dX8_undo_149 : decode cX8_undo 149 = .ok (.ireturn, 1) := by decide +kernel
theorem dX8_redo_0 : decode cX8_redo 0 = .ok (.aload_n 0, 1) := by decide +kernel
theorem dX8_redo_1 : decode cX8_redo 1 = .ok (.iload_n 1, 1) := by decide +kernel
theorem dX8_redo_2 : decode cX8_redo 2 = .ok (.invokestatic 196, 3) := by decide +kernel
theorem dX8_redo_5 : decode cX8_redo 5 = .ok (.ifCond .eq 7, 3) := by decide +kernel
theorem dX8_redo_8 : decode cX8_redo 8 = .ok (.iconst 0, 1) := by decide +kernel
theorem dX8_redo_9 : decode cX8_redo 9 = .ok (.goto 4, 3) := by decide +kernel
theorem dX8_redo_12 : decode cX8_redo 12 = .ok (.iconst 1, 1) := by decide +kernel
theorem dX8_redo_13 : decode cX8_redo 13 = .ok (.putfield 140, 3) := by decide +kernel
theorem dX8_redo_16 : decode cX8_redo 16 = .ok (.aload_n 0, 1) := by decide +kernel
theorem dX8_redo_17 : decode cX8_redo 17 = .ok (.getfield 140, 3) := by decide +kernel
theorem dX8_redo_20 : decode cX8_redo 20 = .ok (.ifCond .le 5, 3) := by decide +kernel
theorem dX8_redo_23 : decode cX8_redo 23 = .ok (.iconst 0, 1) := by decide +kernel
theorem dX8_redo_24 : decode cX8_redo 24 = .ok (.ireturn, 1) := by decide +kernel
theorem dX8_redo_25 : decode cX8_redo 25 = .ok (.aload_n 0, 1) := by decide +kernel
theorem dX8_redo_26 : decode cX8_redo 26 = .ok (.aload_n 0, 1) := by decide +kernel
theorem dX8_redo_27 : decode cX8_redo 27 = .ok (.getfield 32, 3) := by decide +kernel
theorem dX8_redo_30 : decode cX8_redo 30 = .ok (.iload_n 1, 1) := by decide +kernel
theorem dX8_redo_31 : decode cX8_redo 31 = .ok (.iaload, 1) := by decide +kernel
theorem dX8_redo_32 : decode cX8_redo 32 = .ok (.ifCond .ne 7, 3) := by decide +kernel
theorem dX8_redo_35 : decode cX8_redo 35 = .ok (.iconst 2, 1) := by decide +kernel
theorem dX8_redo_36 : decode cX8_redo 36 = .ok (.goto 4, 3) := by decide +kernel
theorem dX8_redo_39 : decode cX8_redo 39 = .ok (.iconst 0, 1) := by decide +kernel
theorem dX8_redo_40 : decode cX8_redo 40 = .ok (.putfield 140, 3) := by decide +kernel
theorem dX8_redo_43 : decode cX8_redo 43 = .ok (.aload_n 0, 1) := by decide +kernel
theorem dX8_redo_44 : decode cX8_redo 44 = .ok (.getfield 140, 3) := by decide +kernel
theorem dX8_redo_47 : decode cX8_redo 47 = .ok (.ifCond .le 5, 3) := by decide +kernel
theorem dX8_redo_50 : decode cX8_redo 50 = .ok (.iconst 0, 1) := by decide +kernel
theorem dX8_redo_51 : decode cX8_redo 51 = .ok (.ireturn, 1) := by decide +kernel
theorem dX8_redo_52 : decode cX8_redo 52 = .ok (.aload_n 0, 1) := by decide +kernel
theorem dX8_redo_53 : decode cX8_redo 53 = .ok (.getfield 32, 3) := by decide +kernel
theorem dX8_redo_56 : decode cX8_redo 56 = .ok (.iload_n 1, 1) := by decide +kernel
theorem dX8_redo_57 : decode cX8_redo 57 = .ok (.dup2, 1) := by decide +kernel
theorem dX8_redo_58 : decode cX8_redo 58 = .ok (.iaload, 1) := by decide +kernel
theorem dX8_redo_59 : decode cX8_redo 59 = .ok (.iconst 1, 1) := by decide +kernel
theorem dX8_redo_60 : decode cX8_redo 60 = .ok (.isub, 1) := by decide +kernel
theorem dX8_redo_61 : decode cX8_redo 61 = .ok (.iastore, 1) := by decide +kernel
theorem dX8_redo_62 : decode cX8_redo 62 = .ok (.aload_n 0, 1) := by decide +kernel
theorem dX8_redo_63 : decode cX8_redo 63 = .ok (.getfield 29, 3) := by decide +kernel
theorem dX8_redo_66 : decode cX8_redo 66 = .ok (.sipush 200, 3) := by decide +kernel
theorem dX8_redo_69 : decode cX8_redo 69 = .ok (.iload_n 1, 1) := by decide +kernel
theorem dX8_redo_70 : decode cX8_redo 70 = .ok (.imul, 1) := by decide +kernel
theorem dX8_redo_71 : decode cX8_redo 71 = .ok (.aload_n 0, 1) := by decide +kernel
theorem dX8_redo_72 : decode cX8_redo 72 = .ok (.getfield 32, 3) := by decide +kernel
theorem dX8_redo_75 : decode cX8_redo 75 = .ok (.iload_n 1, 1) := by decide +kernel
theorem dX8_redo_76 : decode cX8_redo 76 = .ok (.iaload, 1) := by decide +kernel
theorem dX8_redo_77 : decode cX8_redo 77 = .ok (.iadd, 1) := by decide +kernel
theorem dX8_redo_78 : decode cX8_redo 78 = .ok (.iaload, 1) := by decide +kernel
theorem dX8_redo_79 : decode cX8_redo 79 = .ok (.istore_n 2, 1) := by decide +kernel
theorem dX8_redo_80 : decode cX8_redo 80 = .ok (.aload_n 0, 1) := by decide +kernel
theorem dX8_redo_81 : decode cX8_redo 81 = .ok (.getfield 25, 3) := by decide +kernel
theorem dX8_redo_84 : decode cX8_redo 84 = .ok (.iload_n 2, 1) := by decide +kernel
theorem dX8_redo_85 : decode cX8_redo 85 = .ok (.iconst 1, 1) := by decide +kernel
theorem dX8_redo_86 : decode cX8_redo 86 = .ok (.bastore, 1) := by decide +kernel
theorem dX8_redo_87 : decode cX8_redo 87 = .ok (.aload_n 0, 1) := by decide +kernel
theorem dX8_redo_88 : decode cX8_redo 88 = .ok (.invokevirtual 193, 3) := by decide +kernel
theorem dX8_redo_91 : decode cX8_redo 91 = .ok (.iload_n 2, 1) := by decide +kernel
theorem dX8_redo_92 : decode cX8_redo 92 = .ok (.ireturn, 1) := by decide +kernel
theorem dX8_acts_0 : decode cX8_acts 0 = .ok (.aload_n 0, 1) := by decide +kernel
theorem dX8_acts_1 : decode cX8_acts 1 = .ok (.iconst 0, 1) := by decide +kernel
theorem dX8_acts_2 : decode cX8_acts 2 = .ok (.putfield 140, 3) := by decide +kernel
theorem dX8_acts_5 : decode cX8_acts 5 = .ok (.aload_n 0, 1) := by decide +kernel
theorem dX8_acts_6 : decode cX8_acts 6 = .ok (.getfield 151, 3) := by decide +kernel
theorem dX8_acts_9 : decode cX8_acts 9 = .ok (.ireturn, 1) := by decide +kernel
theorem dX8_isLive_0 : decode cX8_isLive 0 = .ok (.aload_n 0, 1) := by decide +kernel
theorem dX8_isLive_1 : decode cX8_isLive 1 = .ok (.aload_n 0, 1) := by decide +kernel
theorem dX8_isLive_2 : decode cX8_isLive 2 = .ok (.iload_n 1, 1) := by decide +kernel
theorem dX8_isLive_3 : decode cX8_isLive 3 = .ok (.invokevirtual 220, 3) := by decide +kernel
theorem dX8_isLive_6 : decode cX8_isLive 6 = .ok (.ifCond .eq 7, 3) := by decide +kernel
theorem dX8_isLive_9 : decode cX8_isLive 9 = .ok (.iconst 0, 1) := by decide +kernel
theorem dX8_isLive_10 : decode cX8_isLive 10 = .ok (.goto 4, 3) := by decide +kernel
theorem dX8_isLive_13 : decode cX8_isLive 13 = .ok (.iconst 1, 1) := by decide +kernel
theorem dX8_isLive_14 : decode cX8_isLive 14 = .ok (.putfield 140, 3) := by decide +kernel
theorem dX8_isLive_17 : decode cX8_isLive 17 = .ok (.aload_n 0, 1) := by decide +kernel
theorem dX8_isLive_18 : decode cX8_isLive 18 = .ok (.getfield 140, 3) := by decide +kernel
theorem dX8_isLive_21 : decode cX8_isLive 21 = .ok (.ifCond .ne 16, 3) := by decide +kernel
theorem dX8_isLive_24 : decode cX8_isLive 24 = .ok (.aload_n 0, 1) := by decide +kernel
theorem dX8_isLive_25 : decode cX8_isLive 25 = .ok (.getfield 25, 3) := by decide +kernel
theorem dX8_isLive_28 : decode cX8_isLive 28 = .ok (.iload_n 1, 1) := by decide +kernel
theorem dX8_isLive_29 : decode cX8_isLive 29 = .ok (.baload, 1) := by decide +kernel
theorem dX8_isLive_30 : decode cX8_isLive 30 = .ok (.ifCond .eq 7, 3) := by decide +kernel
theorem dX8_isLive_33 : decode cX8_isLive 33 = .ok (.iconst 1, 1) := by decide +kernel
theorem dX8_isLive_34 : decode cX8_isLive 34 = .ok (.goto 4, 3) := by decide +kernel
theorem dX8_isLive_37 : decode cX8_isLive 37 = .ok (.iconst 0, 1) := by decide +kernel
theorem dX8_isLive_38 : decode cX8_isLive 38 = .ok (.ireturn, 1) := by decide +kernel
theorem dX8_holder_0 : decode cX8_holder 0 = .ok (.aload_n 0, 1) := by decide +kernel
theorem dX8_holder_1 : decode cX8_holder 1 = .ok (.aload_n 0, 1) := by decide +kernel
theorem dX8_holder_2 : decode cX8_holder 2 = .ok (.iload_n 1, 1) := by decide +kernel
theorem dX8_holder_3 : decode cX8_holder 3 = .ok (.invokevirtual 220, 3) := by decide +kernel
theorem dX8_holder_6 : decode cX8_holder 6 = .ok (.ifCond .eq 7, 3) := by decide +kernel
theorem dX8_holder_9 : decode cX8_holder 9 = .ok (.iconst 0, 1) := by decide +kernel
theorem dX8_holder_10 : decode cX8_holder 10 = .ok (.goto 4, 3) := by decide +kernel
theorem dX8_holder_13 : decode cX8_holder 13 = .ok (.iconst 1, 1) := by decide +kernel
theorem dX8_holder_14 : decode cX8_holder 14 = .ok (.putfield 140, 3) := by decide +kernel
theorem dX8_holder_17 : decode cX8_holder 17 = .ok (.aload_n 0, 1) := by decide +kernel
theorem dX8_holder_18 : decode cX8_holder 18 = .ok (.getfield 140, 3) := by decide +kernel
theorem dX8_holder_21 : decode cX8_holder 21 = .ok (.ifCond .le 7, 3) := by decide +kernel
theorem dX8_holder_24 : decode cX8_holder 24 = .ok (.iconst 0, 1) := by decide +kernel
theorem dX8_holder_25 : decode cX8_holder 25 = .ok (.goto 8, 3) := by decide +kernel
theorem dX8_holder_28 : decode cX8_holder 28 = .ok (.aload_n 0, 1) := by decide +kernel
theorem dX8_holder_29 : decode cX8_holder 29 = .ok (.iload_n 1, 1) := by decide +kernel
theorem dX8_holder_30 : decode cX8_holder 30 = .ok (.invokevirtual 217, 3) := by decide +kernel
theorem dX8_holder_33 : decode cX8_holder 33 = .ok (.ireturn, 1) := by decide +kernel
theorem dX8_shapes_0 : decode cX8_shapes 0 = .ok (.aload_n 0, 1) := by decide +kernel
theorem dX8_shapes_1 : decode cX8_shapes 1 = .ok (.iconst 0, 1) := by decide +kernel
theorem dX8_shapes_2 : decode cX8_shapes 2 = .ok (.putfield 140, 3) := by decide +kernel
theorem dX8_shapes_5 : decode cX8_shapes 5 = .ok (.aload_n 0, 1) := by decide +kernel
theorem dX8_shapes_6 : decode cX8_shapes 6 = .ok (.getfield 148, 3) := by decide +kernel
theorem dX8_shapes_9 : decode cX8_shapes 9 = .ok (.ireturn, 1) := by decide +kernel
theorem dX8_there_0 : decode cX8_there 0 = .ok (.aload_n 0, 1) := by decide +kernel
theorem dX8_there_1 : decode cX8_there 1 = .ok (.iconst 0, 1) := by decide +kernel
theorem dX8_there_2 : decode cX8_there 2 = .ok (.putfield 140, 3) := by decide +kernel
theorem dX8_there_5 : decode cX8_there 5 = .ok (.lconst 0, 1) := by decide +kernel
theorem dX8_there_6 : decode cX8_there 6 = .ok (.lstore_n 1, 1) := by decide +kernel
theorem dX8_there_7 : decode cX8_there 7 = .ok (.iconst 0, 1) := by decide +kernel
theorem dX8_there_8 : decode cX8_there 8 = .ok (.istore_n 3, 1) := by decide +kernel
theorem dX8_there_9 : decode cX8_there 9 = .ok (.iload_n 3, 1) := by decide +kernel
theorem dX8_there_10 : decode cX8_there 10 = .ok (.aload_n 0, 1) := by decide +kernel
theorem dX8_there_11 : decode cX8_there 11 = .ok (.getfield 148, 3) := by decide +kernel
theorem dX8_there_14 : decode cX8_there 14 = .ok (.if_icmp .ge 28, 3) := by decide +kernel
theorem dX8_there_17 : decode cX8_there 17 = .ok (.lload_n 1, 1) := by decide +kernel
theorem dX8_there_18 : decode cX8_there 18 = .ok (.aload_n 0, 1) := by decide +kernel
theorem dX8_there_19 : decode cX8_there 19 = .ok (.getfield 59, 3) := by decide +kernel
theorem dX8_there_22 : decode cX8_there 22 = .ok (.iload_n 3, 1) := by decide +kernel
theorem dX8_there_23 : decode cX8_there 23 = .ok (.baload, 1) := by decide +kernel
theorem dX8_there_24 : decode cX8_there 24 = .ok (.ifCond .eq 9, 3) := by decide +kernel
theorem dX8_there_27 : decode cX8_there 27 = .ok (.lconst 1, 1) := by decide +kernel
theorem dX8_there_28 : decode cX8_there 28 = .ok (.iload_n 3, 1) := by decide +kernel
theorem dX8_there_29 : decode cX8_there 29 = .ok (.lshl, 1) := by decide +kernel
theorem dX8_there_30 : decode cX8_there 30 = .ok (.goto 4, 3) := by decide +kernel
theorem dX8_there_33 : decode cX8_there 33 = .ok (.lconst 0, 1) := by decide +kernel
theorem dX8_there_34 : decode cX8_there 34 = .ok (.lor, 1) := by decide +kernel
theorem dX8_there_35 : decode cX8_there 35 = .ok (.lstore_n 1, 1) := by decide +kernel
theorem dX8_there_36 : decode cX8_there 36 = .ok (.iinc 3 1, 3) := by decide +kernel
theorem dX8_there_39 : decode cX8_there 39 = .ok (.goto (-30), 3) := by decide +kernel
theorem dX8_there_42 : decode cX8_there 42 = .ok (.lload_n 1, 1) := by decide +kernel
theorem dX8_there_43 : decode cX8_there 43 = .ok (.lreturn, 1) := by decide +kernel
theorem dX8_place_0 : decode cX8_place 0 = .ok (.aload_n 0, 1) := by decide +kernel
theorem dX8_place_1 : decode cX8_place 1 = .ok (.aload_n 0, 1) := by decide +kernel
theorem dX8_place_2 : decode cX8_place 2 = .ok (.iload_n 1, 1) := by decide +kernel
theorem dX8_place_3 : decode cX8_place 3 = .ok (.invokevirtual 203, 3) := by decide +kernel
theorem dX8_place_6 : decode cX8_place 6 = .ok (.ifCond .eq 7, 3) := by decide +kernel
theorem dX8_place_9 : decode cX8_place 9 = .ok (.iconst 0, 1) := by decide +kernel
theorem dX8_place_10 : decode cX8_place 10 = .ok (.goto 4, 3) := by decide +kernel
theorem dX8_place_13 : decode cX8_place 13 = .ok (.iconst 1, 1) := by decide +kernel
theorem dX8_place_14 : decode cX8_place 14 = .ok (.putfield 140, 3) := by decide +kernel
theorem dX8_place_17 : decode cX8_place 17 = .ok (.aload_n 0, 1) := by decide +kernel
theorem dX8_place_18 : decode cX8_place 18 = .ok (.getfield 140, 3) := by decide +kernel
theorem dX8_place_21 : decode cX8_place 21 = .ok (.ifCond .le 5, 3) := by decide +kernel
theorem dX8_place_24 : decode cX8_place 24 = .ok (.iconst 0, 1) := by decide +kernel
theorem dX8_place_25 : decode cX8_place 25 = .ok (.ireturn, 1) := by decide +kernel
theorem dX8_place_26 : decode cX8_place 26 = .ok (.aload_n 0, 1) := by decide +kernel
theorem dX8_place_27 : decode cX8_place 27 = .ok (.aload_n 0, 1) := by decide +kernel
theorem dX8_place_28 : decode cX8_place 28 = .ok (.getfield 59, 3) := by decide +kernel
theorem dX8_place_31 : decode cX8_place 31 = .ok (.iload_n 1, 1) := by decide +kernel
theorem dX8_place_32 : decode cX8_place 32 = .ok (.baload, 1) := by decide +kernel
theorem dX8_place_33 : decode cX8_place 33 = .ok (.ifCond .eq 7, 3) := by decide +kernel
theorem dX8_place_36 : decode cX8_place 36 = .ok (.iconst 0, 1) := by decide +kernel
theorem dX8_place_37 : decode cX8_place 37 = .ok (.goto 4, 3) := by decide +kernel
theorem dX8_place_40 : decode cX8_place 40 = .ok (.iconst 2, 1) := by decide +kernel
theorem dX8_place_41 : decode cX8_place 41 = .ok (.putfield 140, 3) := by decide +kernel
theorem dX8_place_44 : decode cX8_place 44 = .ok (.aload_n 0, 1) := by decide +kernel
theorem dX8_place_45 : decode cX8_place 45 = .ok (.getfield 140, 3) := by decide +kernel
theorem dX8_place_48 : decode cX8_place 48 = .ok (.ifCond .le 7, 3) := by decide +kernel
theorem dX8_place_51 : decode cX8_place 51 = .ok (.iconst 0, 1) := by decide +kernel
theorem dX8_place_52 : decode cX8_place 52 = .ok (.goto 20, 3) := by decide +kernel
theorem dX8_place_55 : decode cX8_place 55 = .ok (.sipush 10000, 3) := by decide +kernel
theorem dX8_place_58 : decode cX8_place 58 = .ok (.aload_n 0, 1) := by decide +kernel
theorem dX8_place_59 : decode cX8_place 59 = .ok (.getfield 65, 3) := by decide +kernel
theorem dX8_place_62 : decode cX8_place 62 = .ok (.iload_n 1, 1) := by decide +kernel
theorem dX8_place_63 : decode cX8_place 63 = .ok (.iaload, 1) := by decide +kernel
theorem dX8_place_64 : decode cX8_place 64 = .ok (.imul, 1) := by decide +kernel
theorem dX8_place_65 : decode cX8_place 65 = .ok (.aload_n 0, 1) := by decide +kernel
theorem dX8_place_66 : decode cX8_place 66 = .ok (.getfield 62, 3) := by decide +kernel
theorem dX8_place_69 : decode cX8_place 69 = .ok (.iload_n 1, 1) := by decide +kernel
theorem dX8_place_70 : decode cX8_place 70 = .ok (.iaload, 1) := by decide +kernel
theorem dX8_place_71 : decode cX8_place 71 = .ok (.iadd, 1) := by decide +kernel
theorem dX8_place_72 : decode cX8_place 72 = .ok (.ireturn, 1) := by decide +kernel
theorem dX8_colour_0 : decode cX8_colour 0 = .ok (.aload_n 0, 1) := by decide +kernel
theorem dX8_colour_1 : decode cX8_colour 1 = .ok (.aload_n 0, 1) := by decide +kernel
theorem dX8_colour_2 : decode cX8_colour 2 = .ok (.iload_n 1, 1) := by decide +kernel
theorem dX8_colour_3 : decode cX8_colour 3 = .ok (.invokevirtual 203, 3) := by decide +kernel
theorem dX8_colour_6 : decode cX8_colour 6 = .ok (.ifCond .eq 7, 3) := by decide +kernel
theorem dX8_colour_9 : decode cX8_colour 9 = .ok (.iconst 0, 1) := by decide +kernel
theorem dX8_colour_10 : decode cX8_colour 10 = .ok (.goto 4, 3) := by decide +kernel
theorem dX8_colour_13 : decode cX8_colour 13 = .ok (.iconst 1, 1) := by decide +kernel
theorem dX8_colour_14 : decode cX8_colour 14 = .ok (.putfield 140, 3) := by decide +kernel
theorem dX8_colour_17 : decode cX8_colour 17 = .ok (.aload_n 0, 1) := by decide +kernel
theorem dX8_colour_18 : decode cX8_colour 18 = .ok (.getfield 140, 3) := by decide +kernel
theorem dX8_colour_21 : decode cX8_colour 21 = .ok (.ifCond .gt 12, 3) := by decide +kernel
theorem dX8_colour_24 : decode cX8_colour 24 = .ok (.aload_n 0, 1) := by decide +kernel
theorem dX8_colour_25 : decode cX8_colour 25 = .ok (.getfield 59, 3) := by decide +kernel
theorem dX8_colour_28 : decode cX8_colour 28 = .ok (.iload_n 1, 1) := by decide +kernel
theorem dX8_colour_29 : decode cX8_colour 29 = .ok (.baload, 1) := by decide +kernel
theorem dX8_colour_30 : decode cX8_colour 30 = .ok (.ifCond .ne 7, 3) := by decide +kernel
theorem dX8_colour_33 : decode cX8_colour 33 = .ok (.iconst 0, 1) := by decide +kernel
theorem dX8_colour_34 : decode cX8_colour 34 = .ok (.goto 9, 3) := by decide +kernel
theorem dX8_colour_37 : decode cX8_colour 37 = .ok (.aload_n 0, 1) := by decide +kernel
theorem dX8_colour_38 : decode cX8_colour 38 = .ok (.getfield 68, 3) := by decide +kernel
theorem dX8_colour_41 : decode cX8_colour 41 = .ok (.iload_n 1, 1) := by decide +kernel
theorem dX8_colour_42 : decode cX8_colour 42 = .ok (.iaload, 1) := by decide +kernel
theorem dX8_colour_43 : decode cX8_colour 43 = .ok (.ireturn, 1) := by decide +kernel
theorem dX8_above_0 : decode cX8_above 0 = .ok (.aload_n 0, 1) := by decide +kernel
theorem dX8_above_1 : decode cX8_above 1 = .ok (.aload_n 0, 1) := by decide +kernel
theorem dX8_above_2 : decode cX8_above 2 = .ok (.iload_n 1, 1) := by decide +kernel
theorem dX8_above_3 : decode cX8_above 3 = .ok (.invokevirtual 203, 3) := by decide +kernel
theorem dX8_above_6 : decode cX8_above 6 = .ok (.ifCond .eq 7, 3) := by decide +kernel
theorem dX8_above_9 : decode cX8_above 9 = .ok (.iconst 0, 1) := by decide +kernel
theorem dX8_above_10 : decode cX8_above 10 = .ok (.goto 4, 3) := by decide +kernel
theorem dX8_above_13 : decode cX8_above 13 = .ok (.iconst 1, 1) := by decide +kernel
theorem dX8_above_14 : decode cX8_above 14 = .ok (.putfield 140, 3) := by decide +kernel
theorem dX8_above_17 : decode cX8_above 17 = .ok (.iconst (-1), 1) := by decide +kernel
theorem dX8_above_18 : decode cX8_above 18 = .ok (.istore_n 2, 1) := by decide +kernel
theorem dX8_above_19 : decode cX8_above 19 = .ok (.iconst 0, 1) := by decide +kernel
theorem dX8_above_20 : decode cX8_above 20 = .ok (.istore_n 3, 1) := by decide +kernel
theorem dX8_above_21 : decode cX8_above 21 = .ok (.iload_n 3, 1) := by decide +kernel
theorem dX8_above_22 : decode cX8_above 22 = .ok (.aload_n 0, 1) := by decide +kernel
theorem dX8_above_23 : decode cX8_above 23 = .ok (.getfield 161, 3) := by decide +kernel
theorem dX8_above_26 : decode cX8_above 26 = .ok (.if_icmp .ge 32, 3) := by decide +kernel
theorem dX8_above_29 : decode cX8_above 29 = .ok (.aload_n 0, 1) := by decide +kernel
theorem dX8_above_30 : decode cX8_above 30 = .ok (.getfield 140, 3) := by decide +kernel
theorem dX8_above_33 : decode cX8_above 33 = .ok (.ifCond .ne 25, 3) := by decide +kernel
theorem dX8_above_36 : decode cX8_above 36 = .ok (.aload_n 0, 1) := by decide +kernel
theorem dX8_above_37 : decode cX8_above 37 = .ok (.getfield 56, 3) := by decide +kernel
theorem dX8_above_40 : decode cX8_above 40 = .ok (.iload_n 3, 1) := by decide +kernel
theorem dX8_above_41 : decode cX8_above 41 = .ok (.iaload, 1) := by decide +kernel
theorem dX8_above_42 : decode cX8_above 42 = .ok (.iload_n 1, 1) := by decide +kernel
theorem dX8_above_43 : decode cX8_above 43 = .ok (.if_icmp .ne 7, 3) := by decide +kernel
theorem dX8_above_46 : decode cX8_above 46 = .ok (.iload_n 3, 1) := by decide +kernel
theorem dX8_above_47 : decode cX8_above 47 = .ok (.goto 4, 3) := by decide +kernel
theorem dX8_above_50 : decode cX8_above 50 = .ok (.iload_n 2, 1) := by decide +kernel
theorem dX8_above_51 : decode cX8_above 51 = .ok (.istore_n 2, 1) := by decide +kernel
theorem dX8_above_52 : decode cX8_above 52 = .ok (.iinc 3 1, 3) := by decide +kernel
theorem dX8_above_55 : decode cX8_above 55 = .ok (.goto (-34), 3) := by decide +kernel
theorem dX8_above_58 : decode cX8_above 58 = .ok (.iload_n 2, 1) := by decide +kernel
theorem dX8_above_59 : decode cX8_above 59 = .ok (.ireturn, 1) := by decide +kernel
theorem dX8_group_0 : decode cX8_group 0 = .ok (.aload_n 0, 1) := by decide +kernel
theorem dX8_group_1 : decode cX8_group 1 = .ok (.aload_n 0, 1) := by decide +kernel
theorem dX8_group_2 : decode cX8_group 2 = .ok (.iload_n 1, 1) := by decide +kernel
theorem dX8_group_3 : decode cX8_group 3 = .ok (.invokevirtual 203, 3) := by decide +kernel
theorem dX8_group_6 : decode cX8_group 6 = .ok (.ifCond .eq 7, 3) := by decide +kernel
theorem dX8_group_9 : decode cX8_group 9 = .ok (.iconst 0, 1) := by decide +kernel
theorem dX8_group_10 : decode cX8_group 10 = .ok (.goto 4, 3) := by decide +kernel
theorem dX8_group_13 : decode cX8_group 13 = .ok (.iconst 1, 1) := by decide +kernel
theorem dX8_group_14 : decode cX8_group 14 = .ok (.putfield 140, 3) := by decide +kernel
theorem dX8_group_17 : decode cX8_group 17 = .ok (.lconst 0, 1) := by decide +kernel
theorem dX8_group_18 : decode cX8_group 18 = .ok (.lstore_n 2, 1) := by decide +kernel
theorem dX8_group_19 : decode cX8_group 19 = .ok (.iconst 0, 1) := by decide +kernel
theorem dX8_group_20 : decode cX8_group 20 = .ok (.istore 4, 2) := by decide +kernel
theorem dX8_group_22 : decode cX8_group 22 = .ok (.iload 4, 2) := by decide +kernel
theorem dX8_group_24 : decode cX8_group 24 = .ok (.aload_n 0, 1) := by decide +kernel
theorem dX8_group_25 : decode cX8_group 25 = .ok (.getfield 148, 3) := by decide +kernel
theorem dX8_group_28 : decode cX8_group 28 = .ok (.if_icmp .ge 62, 3) := by decide +kernel
theorem dX8_group_31 : decode cX8_group 31 = .ok (.aload_n 0, 1) := by decide +kernel
theorem dX8_group_32 : decode cX8_group 32 = .ok (.getfield 140, 3) := by decide +kernel
theorem dX8_group_35 : decode cX8_group 35 = .ok (.ifCond .ne 55, 3) := by decide +kernel
theorem dX8_group_38 : decode cX8_group 38 = .ok (.aload_n 0, 1) := by decide +kernel
theorem dX8_group_39 : decode cX8_group 39 = .ok (.getfield 59, 3) := by decide +kernel
theorem dX8_group_42 : decode cX8_group 42 = .ok (.iload_n 1, 1) := by decide +kernel
theorem dX8_group_43 : decode cX8_group 43 = .ok (.baload, 1) := by decide +kernel
theorem dX8_group_44 : decode cX8_group 44 = .ok (.ifCond .eq 46, 3) := by decide +kernel
theorem dX8_group_47 : decode cX8_group 47 = .ok (.lload_n 2, 1) := by decide +kernel
theorem dX8_group_48 : decode cX8_group 48 = .ok (.aload_n 0, 1) := by decide +kernel
theorem dX8_group_49 : decode cX8_group 49 = .ok (.getfield 59, 3) := by decide +kernel
theorem dX8_group_52 : decode cX8_group 52 = .ok (.iload 4, 2) := by decide +kernel
theorem dX8_group_54 : decode cX8_group 54 = .ok (.baload, 1) := by decide +kernel
theorem dX8_group_55 : decode cX8_group 55 = .ok (.ifCond .eq 26, 3) := by decide +kernel
theorem dX8_group_58 : decode cX8_group 58 = .ok (.aload_n 0, 1) := by decide +kernel
theorem dX8_group_59 : decode cX8_group 59 = .ok (.getfield 71, 3) := by decide +kernel
theorem dX8_group_62 : decode cX8_group 62 = .ok (.iload 4, 2) := by decide +kernel
theorem dX8_group_64 : decode cX8_group 64 = .ok (.iaload, 1) := by decide +kernel
theorem dX8_group_65 : decode cX8_group 65 = .ok (.aload_n 0, 1) := by decide +kernel
theorem dX8_group_66 : decode cX8_group 66 = .ok (.getfield 71, 3) := by decide +kernel
theorem dX8_group_69 : decode cX8_group 69 = .ok (.iload_n 1, 1) := by decide +kernel
theorem dX8_group_70 : decode cX8_group 70 = .ok (.iaload, 1) := by decide +kernel
theorem dX8_group_71 : decode cX8_group 71 = .ok (.if_icmp .ne 10, 3) := by decide +kernel
theorem dX8_group_74 : decode cX8_group 74 = .ok (.lconst 1, 1) := by decide +kernel
theorem dX8_group_75 : decode cX8_group 75 = .ok (.iload 4, 2) := by decide +kernel
theorem dX8_group_77 : decode cX8_group 77 = .ok (.lshl, 1) := by decide +kernel
theorem dX8_group_78 : decode cX8_group 78 = .ok (.goto 4, 3) := by decide +kernel
theorem dX8_group_81 : decode cX8_group 81 = .ok (.lconst 0, 1) := by decide +kernel
theorem dX8_group_82 : decode cX8_group 82 = .ok (.lor, 1) := by decide +kernel
theorem dX8_group_83 : decode cX8_group 83 = .ok (.lstore_n 2, 1) := by decide +kernel
theorem dX8_group_84 : decode cX8_group 84 = .ok (.iinc 4 1, 3) := by decide +kernel
theorem dX8_group_87 : decode cX8_group 87 = .ok (.goto (-65), 3) := by decide +kernel
theorem dX8_group_90 : decode cX8_group 90 = .ok (.lload_n 2, 1) := by decide +kernel
theorem dX8_group_91 : decode cX8_group 91 = .ok (.lreturn, 1) := by decide +kernel
theorem dX8_seen_0 : decode cX8_seen 0 = .ok (.aload_n 0, 1) := by decide +kernel
theorem dX8_seen_1 : decode cX8_seen 1 = .ok (.iload_n 1, 1) := by decide +kernel
theorem dX8_seen_2 : decode cX8_seen 2 = .ok (.iconst 0, 1) := by decide +kernel
theorem dX8_seen_3 : decode cX8_seen 3 = .ok (.bipush 23, 2) := by decide +kernel
theorem dX8_seen_5 : decode cX8_seen 5 = .ok (.invokestatic 144, 3) := by decide +kernel
theorem dX8_seen_8 : decode cX8_seen 8 = .ok (.ifCond .eq 17, 3) := by decide +kernel
theorem dX8_seen_11 : decode cX8_seen 11 = .ok (.iload_n 2, 1) := by decide +kernel
theorem dX8_seen_12 : decode cX8_seen 12 = .ok (.iconst 0, 1) := by decide +kernel
theorem dX8_seen_13 : decode cX8_seen 13 = .ok (.bipush 15, 2) := by decide +kernel
theorem dX8_seen_15 : decode cX8_seen 15 = .ok (.invokestatic 144, 3) := by decide +kernel
theorem dX8_seen_18 : decode cX8_seen 18 = .ok (.ifCond .eq 7, 3) := by decide +kernel
theorem dX8_seen_21 : decode cX8_seen 21 = .ok (.iconst 0, 1) := by decide +kernel
theorem dX8_seen_22 : decode cX8_seen 22 = .ok (.goto 4, 3) := by decide +kernel
theorem dX8_seen_25 : decode cX8_seen 25 = .ok (.iconst 1, 1) := by decide +kernel
theorem dX8_seen_26 : decode cX8_seen 26 = .ok (.putfield 140, 3) := by decide +kernel
theorem dX8_seen_29 : decode cX8_seen 29 = .ok (.aload_n 0, 1) := by decide +kernel
theorem dX8_seen_30 : decode cX8_seen 30 = .ok (.getfield 140, 3) := by decide +kernel
theorem dX8_seen_33 : decode cX8_seen 33 = .ok (.ifCond .le 7, 3) := by decide +kernel
theorem dX8_seen_36 : decode cX8_seen 36 = .ok (.iconst 0, 1) := by decide +kernel
theorem dX8_seen_37 : decode cX8_seen 37 = .ok (.goto 9, 3) := by decide +kernel
theorem dX8_seen_40 : decode cX8_seen 40 = .ok (.aload_n 0, 1) := by decide +kernel
theorem dX8_seen_41 : decode cX8_seen 41 = .ok (.iload_n 1, 1) := by decide +kernel
theorem dX8_seen_42 : decode cX8_seen 42 = .ok (.iload_n 2, 1) := by decide +kernel
theorem dX8_seen_43 : decode cX8_seen 43 = .ok (.invokevirtual 223, 3) := by decide +kernel
theorem dX8_seen_46 : decode cX8_seen 46 = .ok (.ireturn, 1) := by decide +kernel
theorem dX8_seenAnew_0 : decode cX8_seenAnew 0 = .ok (.aload_n 0, 1) := by decide +kernel
theorem dX8_seenAnew_1 : decode cX8_seenAnew 1 = .ok (.iload_n 1, 1) := by decide +kernel
theorem dX8_seenAnew_2 : decode cX8_seenAnew 2 = .ok (.iconst 0, 1) := by decide +kernel
theorem dX8_seenAnew_3 : decode cX8_seenAnew 3 = .ok (.bipush 23, 2) := by decide +kernel
theorem dX8_seenAnew_5 : decode cX8_seenAnew 5 = .ok (.invokestatic 144, 3) := by decide +kernel
theorem dX8_seenAnew_8 : decode cX8_seenAnew 8 = .ok (.ifCond .eq 17, 3) := by decide +kernel
theorem dX8_seenAnew_11 : decode cX8_seenAnew 11 = .ok (.iload_n 2, 1) := by decide +kernel
theorem dX8_seenAnew_12 : decode cX8_seenAnew 12 = .ok (.iconst 0, 1) := by decide +kernel
theorem dX8_seenAnew_13 : decode cX8_seenAnew 13 = .ok (.bipush 15, 2) := by decide +kernel
theorem dX8_seenAnew_15 : decode cX8_seenAnew 15 = .ok (.invokestatic 144, 3) := by decide +kernel
theorem dX8_seenAnew_18 : decode cX8_seenAnew 18 = .ok (.ifCond .eq 7, 3) := by decide +kernel
theorem dX8_seenAnew_21 : decode cX8_seenAnew 21 = .ok (.iconst 0, 1) := by decide +kernel
theorem dX8_seenAnew_22 : decode cX8_seenAnew 22 = .ok (.goto 4, 3) := by decide +kernel
theorem dX8_seenAnew_25 : decode cX8_seenAnew 25 = .ok (.iconst 1, 1) := by decide +kernel
theorem dX8_seenAnew_26 : decode cX8_seenAnew 26 = .ok (.putfield 140, 3) := by decide +kernel
theorem dX8_seenAnew_29 : decode cX8_seenAnew 29 = .ok (.aload_n 0, 1) := by decide +kernel
theorem dX8_seenAnew_30 : decode cX8_seenAnew 30 = .ok (.getfield 140, 3) := by decide +kernel
theorem dX8_seenAnew_33 : decode cX8_seenAnew 33 = .ok (.ifCond .le 7, 3) := by decide +kernel
theorem dX8_seenAnew_36 : decode cX8_seenAnew 36 = .ok (.iconst 0, 1) := by decide +kernel
theorem dX8_seenAnew_37 : decode cX8_seenAnew 37 = .ok (.goto 9, 3) := by decide +kernel
theorem dX8_seenAnew_40 : decode cX8_seenAnew 40 = .ok (.aload_n 0, 1) := by decide +kernel
theorem dX8_seenAnew_41 : decode cX8_seenAnew 41 = .ok (.iload_n 1, 1) := by decide +kernel
theorem dX8_seenAnew_42 : decode cX8_seenAnew 42 = .ok (.iload_n 2, 1) := by decide +kernel
theorem dX8_seenAnew_43 : decode cX8_seenAnew 43 = .ok (.invokevirtual 223, 3) := by decide +kernel
theorem dX8_seenAnew_46 : decode cX8_seenAnew 46 = .ok (.ireturn, 1) := by decide +kernel
theorem dX8_viewedAt_0 : decode cX8_viewedAt 0 = .ok (.iconst (-1), 1) := by decide +kernel
theorem dX8_viewedAt_1 : decode cX8_viewedAt 1 = .ok (.istore 4, 2) := by decide +kernel
theorem dX8_viewedAt_3 : decode cX8_viewedAt 3 = .ok (.iconst 0, 1) := by decide +kernel
theorem dX8_viewedAt_4 : decode cX8_viewedAt 4 = .ok (.istore 5, 2) := by decide +kernel
theorem dX8_viewedAt_6 : decode cX8_viewedAt 6 = .ok (.iload 5, 2) := by decide +kernel
theorem dX8_viewedAt_8 : decode cX8_viewedAt 8 = .ok (.aload_n 0, 1) := by decide +kernel
theorem dX8_viewedAt_9 : decode cX8_viewedAt 9 = .ok (.getfield 107, 3) := by decide +kernel
theorem dX8_viewedAt_12 : decode cX8_viewedAt 12 = .ok (.iload_n 1, 1) := by decide +kernel
theorem dX8_viewedAt_13 : decode cX8_viewedAt 13 = .ok (.iaload, 1) := by decide +kernel
theorem dX8_viewedAt_14 : decode cX8_viewedAt 14 = .ok (.if_icmp .ge 120, 3) := by decide +kernel
theorem dX8_viewedAt_17 : decode cX8_viewedAt 17 = .ok (.bipush 40, 2) := by decide +kernel
theorem dX8_viewedAt_19 : decode cX8_viewedAt 19 = .ok (.iload_n 1, 1) := by decide +kernel
theorem dX8_viewedAt_20 : decode cX8_viewedAt 20 = .ok (.imul, 1) := by decide +kernel
theorem dX8_viewedAt_21 : decode cX8_viewedAt 21 = .ok (.iload 5, 2) := by decide +kernel
theorem dX8_viewedAt_23 : decode cX8_viewedAt 23 = .ok (.iadd, 1) := by decide +kernel
theorem dX8_viewedAt_24 : decode cX8_viewedAt 24 = .ok (.istore 6, 2) := by decide +kernel
theorem dX8_viewedAt_26 : decode cX8_viewedAt 26 = .ok (.aload_n 0, 1) := by decide +kernel
theorem dX8_viewedAt_27 : decode cX8_viewedAt 27 = .ok (.getfield 110, 3) := by decide +kernel
theorem dX8_viewedAt_30 : decode cX8_viewedAt 30 = .ok (.iload 6, 2) := by decide +kernel
theorem dX8_viewedAt_32 : decode cX8_viewedAt 32 = .ok (.iaload, 1) := by decide +kernel
theorem dX8_viewedAt_33 : decode cX8_viewedAt 33 = .ok (.istore 7, 2) := by decide +kernel
theorem dX8_viewedAt_35 : decode cX8_viewedAt 35 = .ok (.iload_n 2, 1) := by decide +kernel
theorem dX8_viewedAt_36 : decode cX8_viewedAt 36 = .ok (.aload_n 0, 1) := by decide +kernel
theorem dX8_viewedAt_37 : decode cX8_viewedAt 37 = .ok (.getfield 113, 3) := by decide +kernel
theorem dX8_viewedAt_40 : decode cX8_viewedAt 40 = .ok (.iload 6, 2) := by decide +kernel
theorem dX8_viewedAt_42 : decode cX8_viewedAt 42 = .ok (.iaload, 1) := by decide +kernel
theorem dX8_viewedAt_43 : decode cX8_viewedAt 43 = .ok (.aload_n 0, 1) := by decide +kernel
theorem dX8_viewedAt_44 : decode cX8_viewedAt 44 = .ok (.getfield 113, 3) := by decide +kernel
theorem dX8_viewedAt_47 : decode cX8_viewedAt 47 = .ok (.iload 6, 2) := by decide +kernel
theorem dX8_viewedAt_49 : decode cX8_viewedAt 49 = .ok (.iaload, 1) := by decide +kernel
theorem dX8_viewedAt_50 : decode cX8_viewedAt 50 = .ok (.aload_n 0, 1) := by decide +kernel
theorem dX8_viewedAt_51 : decode cX8_viewedAt 51 = .ok (.getfield 38, 3) := by decide +kernel
theorem dX8_viewedAt_54 : decode cX8_viewedAt 54 = .ok (.iload 7, 2) := by decide +kernel
theorem dX8_viewedAt_56 : decode cX8_viewedAt 56 = .ok (.iaload, 1) := by decide +kernel
theorem dX8_viewedAt_57 : decode cX8_viewedAt 57 = .ok (.iadd, 1) := by decide +kernel
theorem dX8_viewedAt_58 : decode cX8_viewedAt 58 = .ok (.iconst 1, 1) := by decide +kernel
theorem dX8_viewedAt_59 : decode cX8_viewedAt 59 = .ok (.isub, 1) := by decide +kernel
theorem dX8_viewedAt_60 : decode cX8_viewedAt 60 = .ok (.invokestatic 144, 3) := by decide +kernel
theorem dX8_viewedAt_63 : decode cX8_viewedAt 63 = .ok (.ifCond .eq 38, 3) := by decide +kernel
theorem dX8_viewedAt_66 : decode cX8_viewedAt 66 = .ok (.iload_n 3, 1) := by decide +kernel
theorem dX8_viewedAt_67 : decode cX8_viewedAt 67 = .ok (.aload_n 0, 1) := by decide +kernel
theorem dX8_viewedAt_68 : decode cX8_viewedAt 68 = .ok (.getfield 116, 3) := by decide +kernel
theorem dX8_viewedAt_71 : decode cX8_viewedAt 71 = .ok (.iload 6, 2) := by decide +kernel
theorem dX8_viewedAt_73 : decode cX8_viewedAt 73 = .ok (.iaload, 1) := by decide +kernel
theorem dX8_viewedAt_74 : decode cX8_viewedAt 74 = .ok (.aload_n 0, 1) := by decide +kernel
theorem dX8_viewedAt_75 : decode cX8_viewedAt 75 = .ok (.getfield 116, 3) := by decide +kernel
theorem dX8_viewedAt_78 : decode cX8_viewedAt 78 = .ok (.iload 6, 2) := by decide +kernel
theorem dX8_viewedAt_80 : decode cX8_viewedAt 80 = .ok (.iaload, 1) := by decide +kernel
theorem dX8_viewedAt_81 : decode cX8_viewedAt 81 = .ok (.aload_n 0, 1) := by decide +kernel
theorem dX8_viewedAt_82 : decode cX8_viewedAt 82 = .ok (.getfield 41, 3) := by decide +kernel
theorem dX8_viewedAt_85 : decode cX8_viewedAt 85 = .ok (.iload 7, 2) := by decide +kernel
theorem dX8_viewedAt_87 : decode cX8_viewedAt 87 = .ok (.iaload, 1) := by decide +kernel
theorem dX8_viewedAt_88 : decode cX8_viewedAt 88 = .ok (.iadd, 1) := by decide +kernel
theorem dX8_viewedAt_89 : decode cX8_viewedAt 89 = .ok (.iconst 1, 1) := by decide +kernel
theorem dX8_viewedAt_90 : decode cX8_viewedAt 90 = .ok (.isub, 1) := by decide +kernel
theorem dX8_viewedAt_91 : decode cX8_viewedAt 91 = .ok (.invokestatic 144, 3) := by decide +kernel
theorem dX8_viewedAt_94 : decode cX8_viewedAt 94 = .ok (.ifCond .eq 7, 3) := by decide +kernel
theorem dX8_viewedAt_97 : decode cX8_viewedAt 97 = .ok (.iconst 1, 1) := by decide +kernel
theorem dX8_viewedAt_98 : decode cX8_viewedAt 98 = .ok (.goto 4, 3) := by decide +kernel
theorem dX8_viewedAt_101 : decode cX8_viewedAt 101 = .ok (.iconst 0, 1) := by decide +kernel
theorem dX8_viewedAt_102 : decode cX8_viewedAt 102 = .ok (.istore 8, 2) := by decide +kernel
theorem dX8_viewedAt_104 : decode cX8_viewedAt 104 = .ok (.iload 8, 2) := by decide +kernel
theorem dX8_viewedAt_106 : decode cX8_viewedAt 106 = .ok (.ifCond .eq 18, 3) := by decide +kernel
theorem dX8_viewedAt_109 : decode cX8_viewedAt 109 = .ok (.aload_n 0, 1) := by decide +kernel
theorem dX8_viewedAt_110 : decode cX8_viewedAt 110 = .ok (.getfield 53, 3) := by decide +kernel
theorem dX8_viewedAt_113 : decode cX8_viewedAt 113 = .ok (.iload 7, 2) := by decide +kernel
theorem dX8_viewedAt_115 : decode cX8_viewedAt 115 = .ok (.baload, 1) := by decide +kernel
theorem dX8_viewedAt_116 : decode cX8_viewedAt 116 = .ok (.ifCond .ne 8, 3) := by decide +kernel
theorem dX8_viewedAt_119 : decode cX8_viewedAt 119 = .ok (.iload 6, 2) := by decide +kernel
theorem dX8_viewedAt_121 : decode cX8_viewedAt 121 = .ok (.goto 5, 3) := by decide +kernel
theorem dX8_viewedAt_124 : decode cX8_viewedAt 124 = .ok (.iload 4, 2) := by decide +kernel
theorem dX8_viewedAt_126 : decode cX8_viewedAt 126 = .ok (.istore 4, 2) := by decide +kernel
theorem dX8_viewedAt_128 : decode cX8_viewedAt 128 = .ok (.iinc 5 1, 3) := by decide +kernel
theorem dX8_viewedAt_131 : decode cX8_viewedAt 131 = .ok (.goto (-125), 3) := by decide +kernel
theorem dX8_viewedAt_134 : decode cX8_viewedAt 134 = .ok (.iload 4, 2) := by decide +kernel
theorem dX8_viewedAt_136 : decode cX8_viewedAt 136 = .ok (.ireturn, 1) := by decide +kernel
theorem dX8_isViewed_0 : decode cX8_isViewed 0 = .ok (.iconst 0, 1) := by decide +kernel
theorem dX8_isViewed_1 : decode cX8_isViewed 1 = .ok (.istore_n 3, 1) := by decide +kernel
theorem dX8_isViewed_2 : decode cX8_isViewed 2 = .ok (.iconst 0, 1) := by decide +kernel
theorem dX8_isViewed_3 : decode cX8_isViewed 3 = .ok (.istore 4, 2) := by decide +kernel
theorem dX8_isViewed_5 : decode cX8_isViewed 5 = .ok (.iload 4, 2) := by decide +kernel
theorem dX8_isViewed_7 : decode cX8_isViewed 7 = .ok (.aload_n 0, 1) := by decide +kernel
theorem dX8_isViewed_8 : decode cX8_isViewed 8 = .ok (.getfield 83, 3) := by decide +kernel
theorem dX8_isViewed_11 : decode cX8_isViewed 11 = .ok (.iload_n 1, 1) := by decide +kernel
theorem dX8_isViewed_12 : decode cX8_isViewed 12 = .ok (.iaload, 1) := by decide +kernel
theorem dX8_isViewed_13 : decode cX8_isViewed 13 = .ok (.aload_n 0, 1) := by decide +kernel
theorem dX8_isViewed_14 : decode cX8_isViewed 14 = .ok (.getfield 86, 3) := by decide +kernel
theorem dX8_isViewed_17 : decode cX8_isViewed 17 = .ok (.iload_n 1, 1) := by decide +kernel
theorem dX8_isViewed_18 : decode cX8_isViewed 18 = .ok (.iaload, 1) := by decide +kernel
theorem dX8_isViewed_19 : decode cX8_isViewed 19 = .ok (.imul, 1) := by decide +kernel
theorem dX8_isViewed_20 : decode cX8_isViewed 20 = .ok (.if_icmp .ge 85, 3) := by decide +kernel
theorem dX8_isViewed_23 : decode cX8_isViewed 23 = .ok (.aload_n 0, 1) := by decide +kernel
theorem dX8_isViewed_24 : decode cX8_isViewed 24 = .ok (.iload_n 1, 1) := by decide +kernel
theorem dX8_isViewed_25 : decode cX8_isViewed 25 = .ok (.aload_n 0, 1) := by decide +kernel
theorem dX8_isViewed_26 : decode cX8_isViewed 26 = .ok (.getfield 77, 3) := by decide +kernel
theorem dX8_isViewed_29 : decode cX8_isViewed 29 = .ok (.iload_n 1, 1) := by decide +kernel
theorem dX8_isViewed_30 : decode cX8_isViewed 30 = .ok (.iaload, 1) := by decide +kernel
theorem dX8_isViewed_31 : decode cX8_isViewed 31 = .ok (.iload 4, 2) := by decide +kernel
theorem dX8_isViewed_33 : decode cX8_isViewed 33 = .ok (.aload_n 0, 1) := by decide +kernel
theorem dX8_isViewed_34 : decode cX8_isViewed 34 = .ok (.getfield 83, 3) := by decide +kernel
theorem dX8_isViewed_37 : decode cX8_isViewed 37 = .ok (.iload_n 1, 1) := by decide +kernel
theorem dX8_isViewed_38 : decode cX8_isViewed 38 = .ok (.iaload, 1) := by decide +kernel
theorem dX8_isViewed_39 : decode cX8_isViewed 39 = .ok (.irem, 1) := by decide +kernel
theorem dX8_isViewed_40 : decode cX8_isViewed 40 = .ok (.iadd, 1) := by decide +kernel
theorem dX8_isViewed_41 : decode cX8_isViewed 41 = .ok (.aload_n 0, 1) := by decide +kernel
theorem dX8_isViewed_42 : decode cX8_isViewed 42 = .ok (.getfield 80, 3) := by decide +kernel
theorem dX8_isViewed_45 : decode cX8_isViewed 45 = .ok (.iload_n 1, 1) := by decide +kernel
theorem dX8_isViewed_46 : decode cX8_isViewed 46 = .ok (.iaload, 1) := by decide +kernel
theorem dX8_isViewed_47 : decode cX8_isViewed 47 = .ok (.iload 4, 2) := by decide +kernel
theorem dX8_isViewed_49 : decode cX8_isViewed 49 = .ok (.aload_n 0, 1) := by decide +kernel
theorem dX8_isViewed_50 : decode cX8_isViewed 50 = .ok (.getfield 83, 3) := by decide +kernel
theorem dX8_isViewed_53 : decode cX8_isViewed 53 = .ok (.iload_n 1, 1) := by decide +kernel
theorem dX8_isViewed_54 : decode cX8_isViewed 54 = .ok (.iaload, 1) := by decide +kernel
theorem dX8_isViewed_55 : decode cX8_isViewed 55 = .ok (.idiv, 1) := by decide +kernel
theorem dX8_isViewed_56 : decode cX8_isViewed 56 = .ok (.iadd, 1) := by decide +kernel
theorem dX8_isViewed_57 : decode cX8_isViewed 57 = .ok (.invokevirtual 226, 3) := by decide +kernel
theorem dX8_isViewed_60 : decode cX8_isViewed 60 = .ok (.istore 5, 2) := by decide +kernel
theorem dX8_isViewed_62 : decode cX8_isViewed 62 = .ok (.iload_n 3, 1) := by decide +kernel
theorem dX8_isViewed_63 : decode cX8_isViewed 63 = .ok (.ifCond .ne 30, 3) := by decide +kernel
theorem dX8_isViewed_66 : decode cX8_isViewed 66 = .ok (.iload 5, 2) := by decide +kernel
theorem dX8_isViewed_68 : decode cX8_isViewed 68 = .ok (.iconst (-1), 1) := by decide +kernel
theorem dX8_isViewed_69 : decode cX8_isViewed 69 = .ok (.if_icmp .eq 28, 3) := by decide +kernel
theorem dX8_isViewed_72 : decode cX8_isViewed 72 = .ok (.aload_n 0, 1) := by decide +kernel
theorem dX8_isViewed_73 : decode cX8_isViewed 73 = .ok (.getfield 110, 3) := by decide +kernel
theorem dX8_isViewed_76 : decode cX8_isViewed 76 = .ok (.iload 5, 2) := by decide +kernel
theorem dX8_isViewed_78 : decode cX8_isViewed 78 = .ok (.iconst (-1), 1) := by decide +kernel
theorem dX8_isViewed_79 : decode cX8_isViewed 79 = .ok (.if_icmp .ne 7, 3) := by decide +kernel
theorem dX8_isViewed_82 : decode cX8_isViewed 82 = .ok (.iconst 0, 1) := by decide +kernel
theorem dX8_isViewed_83 : decode cX8_isViewed 83 = .ok (.goto 5, 3) := by decide +kernel
theorem dX8_isViewed_86 : decode cX8_isViewed 86 = .ok (.iload 5, 2) := by decide +kernel
theorem dX8_isViewed_88 : decode cX8_isViewed 88 = .ok (.iaload, 1) := by decide +kernel
theorem dX8_isViewed_89 : decode cX8_isViewed 89 = .ok (.iload_n 2, 1) := by decide +kernel
theorem dX8_isViewed_90 : decode cX8_isViewed 90 = .ok (.if_icmp .ne 7, 3) := by decide +kernel
theorem dX8_isViewed_93 : decode cX8_isViewed 93 = .ok (.iconst 1, 1) := by decide +kernel
theorem dX8_isViewed_94 : decode cX8_isViewed 94 = .ok (.goto 4, 3) := by decide +kernel
theorem dX8_isViewed_97 : decode cX8_isViewed 97 = .ok (.iconst 0, 1) := by decide +kernel
theorem dX8_isViewed_98 : decode cX8_isViewed 98 = .ok (.istore_n 3, 1) := by decide +kernel
theorem dX8_isViewed_99 : decode cX8_isViewed 99 = .ok (.iinc 4 1, 3) := by decide +kernel
theorem dX8_isViewed_102 : decode cX8_isViewed 102 = .ok (.goto (-97), 3) := by decide +kernel
theorem dX8_isViewed_105 : decode cX8_isViewed 105 = .ok (.iload_n 3, 1) := by decide +kernel
theorem dX8_isViewed_106 : decode cX8_isViewed 106 = .ok (.ireturn, 1) := by decide +kernel
theorem dX8_isEmpty_0 : decode cX8_isEmpty 0 = .ok (.iconst 1, 1) := by decide +kernel
theorem dX8_isEmpty_1 : decode cX8_isEmpty 1 = .ok (.istore 5, 2) := by decide +kernel
theorem dX8_isEmpty_3 : decode cX8_isEmpty 3 = .ok (.iconst 0, 1) := by decide +kernel
theorem dX8_isEmpty_4 : decode cX8_isEmpty 4 = .ok (.istore 6, 2) := by decide +kernel
theorem dX8_isEmpty_6 : decode cX8_isEmpty 6 = .ok (.iload 6, 2) := by decide +kernel
theorem dX8_isEmpty_8 : decode cX8_isEmpty 8 = .ok (.iload_n 3, 1) := by decide +kernel
theorem dX8_isEmpty_9 : decode cX8_isEmpty 9 = .ok (.iload 4, 2) := by decide +kernel
theorem dX8_isEmpty_11 : decode cX8_isEmpty 11 = .ok (.imul, 1) := by decide +kernel
theorem dX8_isEmpty_12 : decode cX8_isEmpty 12 = .ok (.if_icmp .ge 41, 3) := by decide +kernel
theorem dX8_isEmpty_15 : decode cX8_isEmpty 15 = .ok (.iload 5, 2) := by decide +kernel
theorem dX8_isEmpty_17 : decode cX8_isEmpty 17 = .ok (.ifCond .eq 27, 3) := by decide +kernel
theorem dX8_isEmpty_20 : decode cX8_isEmpty 20 = .ok (.aload_n 0, 1) := by decide +kernel
theorem dX8_isEmpty_21 : decode cX8_isEmpty 21 = .ok (.iload_n 1, 1) := by decide +kernel
theorem dX8_isEmpty_22 : decode cX8_isEmpty 22 = .ok (.iload 6, 2) := by decide +kernel
theorem dX8_isEmpty_24 : decode cX8_isEmpty 24 = .ok (.iload_n 3, 1) := by decide +kernel
theorem dX8_isEmpty_25 : decode cX8_isEmpty 25 = .ok (.irem, 1) := by decide +kernel
theorem dX8_isEmpty_26 : decode cX8_isEmpty 26 = .ok (.iadd, 1) := by decide +kernel
theorem dX8_isEmpty_27 : decode cX8_isEmpty 27 = .ok (.iload_n 2, 1) := by decide +kernel
theorem dX8_isEmpty_28 : decode cX8_isEmpty 28 = .ok (.iload 6, 2) := by decide +kernel
theorem dX8_isEmpty_30 : decode cX8_isEmpty 30 = .ok (.iload_n 3, 1) := by decide +kernel
theorem dX8_isEmpty_31 : decode cX8_isEmpty 31 = .ok (.idiv, 1) := by decide +kernel
theorem dX8_isEmpty_32 : decode cX8_isEmpty 32 = .ok (.iadd, 1) := by decide +kernel
theorem dX8_isEmpty_33 : decode cX8_isEmpty 33 = .ok (.invokevirtual 223, 3) := by decide +kernel
theorem dX8_isEmpty_36 : decode cX8_isEmpty 36 = .ok (.iconst (-1), 1) := by decide +kernel
theorem dX8_isEmpty_37 : decode cX8_isEmpty 37 = .ok (.if_icmp .ne 7, 3) := by decide +kernel
theorem dX8_isEmpty_40 : decode cX8_isEmpty 40 = .ok (.iconst 1, 1) := by decide +kernel
theorem dX8_isEmpty_41 : decode cX8_isEmpty 41 = .ok (.goto 4, 3) := by decide +kernel
theorem dX8_isEmpty_44 : decode cX8_isEmpty 44 = .ok (.iconst 0, 1) := by decide +kernel
theorem dX8_isEmpty_45 : decode cX8_isEmpty 45 = .ok (.istore 5, 2) := by decide +kernel
theorem dX8_isEmpty_47 : decode cX8_isEmpty 47 = .ok (.iinc 6 1, 3) := by decide +kernel
theorem dX8_isEmpty_50 : decode cX8_isEmpty 50 = .ok (.goto (-44), 3) := by decide +kernel
theorem dX8_isEmpty_53 : decode cX8_isEmpty 53 = .ok (.iload 5, 2) := by decide +kernel
theorem dX8_isEmpty_55 : decode cX8_isEmpty 55 = .ok (.ireturn, 1) := by decide +kernel
theorem dX8_keeps_0 : decode cX8_keeps 0 = .ok (.aload_n 0, 1) := by decide +kernel
theorem dX8_keeps_1 : decode cX8_keeps 1 = .ok (.getfield 107, 3) := by decide +kernel
theorem dX8_keeps_4 : decode cX8_keeps 4 = .ok (.iload_n 1, 1) := by decide +kernel
theorem dX8_keeps_5 : decode cX8_keeps 5 = .ok (.aload_n 0, 1) := by decide +kernel
theorem dX8_keeps_6 : decode cX8_keeps 6 = .ok (.getfield 161, 3) := by decide +kernel
theorem dX8_keeps_9 : decode cX8_keeps 9 = .ok (.iastore, 1) := by decide +kernel
theorem dX8_keeps_10 : decode cX8_keeps 10 = .ok (.iconst 0, 1) := by decide +kernel
theorem dX8_keeps_11 : decode cX8_keeps 11 = .ok (.istore_n 2, 1) := by decide +kernel
theorem dX8_keeps_12 : decode cX8_keeps 12 = .ok (.iload_n 2, 1) := by decide +kernel
theorem dX8_keeps_13 : decode cX8_keeps 13 = .ok (.aload_n 0, 1) := by decide +kernel
theorem dX8_keeps_14 : decode cX8_keeps 14 = .ok (.getfield 161, 3) := by decide +kernel
theorem dX8_keeps_17 : decode cX8_keeps 17 = .ok (.if_icmp .ge 79, 3) := by decide +kernel
theorem dX8_keeps_20 : decode cX8_keeps 20 = .ok (.bipush 40, 2) := by decide +kernel
theorem dX8_keeps_22 : decode cX8_keeps 22 = .ok (.iload_n 1, 1) := by decide +kernel
theorem dX8_keeps_23 : decode cX8_keeps 23 = .ok (.imul, 1) := by decide +kernel
theorem dX8_keeps_24 : decode cX8_keeps 24 = .ok (.iload_n 2, 1) := by decide +kernel
theorem dX8_keeps_25 : decode cX8_keeps 25 = .ok (.iadd, 1) := by decide +kernel
theorem dX8_keeps_26 : decode cX8_keeps 26 = .ok (.istore_n 3, 1) := by decide +kernel
theorem dX8_keeps_27 : decode cX8_keeps 27 = .ok (.aload_n 0, 1) := by decide +kernel
theorem dX8_keeps_28 : decode cX8_keeps 28 = .ok (.getfield 110, 3) := by decide +kernel
theorem dX8_keeps_31 : decode cX8_keeps 31 = .ok (.iload_n 3, 1) := by decide +kernel
theorem dX8_keeps_32 : decode cX8_keeps 32 = .ok (.aload_n 0, 1) := by decide +kernel
theorem dX8_keeps_33 : decode cX8_keeps 33 = .ok (.getfield 56, 3) := by decide +kernel
theorem dX8_keeps_36 : decode cX8_keeps 36 = .ok (.iload_n 2, 1) := by decide +kernel
theorem dX8_keeps_37 : decode cX8_keeps 37 = .ok (.iaload, 1) := by decide +kernel
theorem dX8_keeps_38 : decode cX8_keeps 38 = .ok (.iastore, 1) := by decide +kernel
theorem dX8_keeps_39 : decode cX8_keeps 39 = .ok (.aload_n 0, 1) := by decide +kernel
theorem dX8_keeps_40 : decode cX8_keeps 40 = .ok (.getfield 113, 3) := by decide +kernel
theorem dX8_keeps_43 : decode cX8_keeps 43 = .ok (.iload_n 3, 1) := by decide +kernel
theorem dX8_keeps_44 : decode cX8_keeps 44 = .ok (.aload_n 0, 1) := by decide +kernel
theorem dX8_keeps_45 : decode cX8_keeps 45 = .ok (.getfield 62, 3) := by decide +kernel
theorem dX8_keeps_48 : decode cX8_keeps 48 = .ok (.aload_n 0, 1) := by decide +kernel
theorem dX8_keeps_49 : decode cX8_keeps 49 = .ok (.getfield 56, 3) := by decide +kernel
theorem dX8_keeps_52 : decode cX8_keeps 52 = .ok (.iload_n 2, 1) := by decide +kernel
theorem dX8_keeps_53 : decode cX8_keeps 53 = .ok (.iaload, 1) := by decide +kernel
theorem dX8_keeps_54 : decode cX8_keeps 54 = .ok (.iaload, 1) := by decide +kernel
theorem dX8_keeps_55 : decode cX8_keeps 55 = .ok (.iastore, 1) := by decide +kernel
theorem dX8_keeps_56 : decode cX8_keeps 56 = .ok (.aload_n 0, 1) := by decide +kernel
theorem dX8_keeps_57 : decode cX8_keeps 57 = .ok (.getfield 116, 3) := by decide +kernel
theorem dX8_keeps_60 : decode cX8_keeps 60 = .ok (.iload_n 3, 1) := by decide +kernel
theorem dX8_keeps_61 : decode cX8_keeps 61 = .ok (.aload_n 0, 1) := by decide +kernel
theorem dX8_keeps_62 : decode cX8_keeps 62 = .ok (.getfield 65, 3) := by decide +kernel
theorem dX8_keeps_65 : decode cX8_keeps 65 = .ok (.aload_n 0, 1) := by decide +kernel
theorem dX8_keeps_66 : decode cX8_keeps 66 = .ok (.getfield 56, 3) := by decide +kernel
theorem dX8_keeps_69 : decode cX8_keeps 69 = .ok (.iload_n 2, 1) := by decide +kernel
theorem dX8_keeps_70 : decode cX8_keeps 70 = .ok (.iaload, 1) := by decide +kernel
theorem dX8_keeps_71 : decode cX8_keeps 71 = .ok (.iaload, 1) := by decide +kernel
theorem dX8_keeps_72 : decode cX8_keeps 72 = .ok (.iastore, 1) := by decide +kernel
theorem dX8_keeps_73 : decode cX8_keeps 73 = .ok (.aload_n 0, 1) := by decide +kernel
theorem dX8_keeps_74 : decode cX8_keeps 74 = .ok (.getfield 119, 3) := by decide +kernel
theorem dX8_keeps_77 : decode cX8_keeps 77 = .ok (.iload_n 3, 1) := by decide +kernel
theorem dX8_keeps_78 : decode cX8_keeps 78 = .ok (.aload_n 0, 1) := by decide +kernel
theorem dX8_keeps_79 : decode cX8_keeps 79 = .ok (.getfield 68, 3) := by decide +kernel
theorem dX8_keeps_82 : decode cX8_keeps 82 = .ok (.aload_n 0, 1) := by decide +kernel
theorem dX8_keeps_83 : decode cX8_keeps 83 = .ok (.getfield 56, 3) := by decide +kernel
theorem dX8_keeps_86 : decode cX8_keeps 86 = .ok (.iload_n 2, 1) := by decide +kernel
theorem dX8_keeps_87 : decode cX8_keeps 87 = .ok (.iaload, 1) := by decide +kernel
theorem dX8_keeps_88 : decode cX8_keeps 88 = .ok (.iaload, 1) := by decide +kernel
theorem dX8_keeps_89 : decode cX8_keeps 89 = .ok (.iastore, 1) := by decide +kernel
theorem dX8_keeps_90 : decode cX8_keeps 90 = .ok (.iinc 2 1, 3) := by decide +kernel
theorem dX8_keeps_93 : decode cX8_keeps 93 = .ok (.goto (-81), 3) := by decide +kernel
theorem dX8_keeps_96 : decode cX8_keeps 96 = .ok (.iconst 0, 1) := by decide +kernel
theorem dX8_keeps_97 : decode cX8_keeps 97 = .ok (.istore_n 2, 1) := by decide +kernel
theorem dX8_keeps_98 : decode cX8_keeps 98 = .ok (.iload_n 2, 1) := by decide +kernel
theorem dX8_keeps_99 : decode cX8_keeps 99 = .ok (.aload_n 0, 1) := by decide +kernel
theorem dX8_keeps_100 : decode cX8_keeps 100 = .ok (.getfield 83, 3) := by decide +kernel
theorem dX8_keeps_103 : decode cX8_keeps 103 = .ok (.iload_n 1, 1) := by decide +kernel
theorem dX8_keeps_104 : decode cX8_keeps 104 = .ok (.iaload, 1) := by decide +kernel
theorem dX8_keeps_105 : decode cX8_keeps 105 = .ok (.aload_n 0, 1) := by decide +kernel
theorem dX8_keeps_106 : decode cX8_keeps 106 = .ok (.getfield 86, 3) := by decide +kernel
theorem dX8_keeps_109 : decode cX8_keeps 109 = .ok (.iload_n 1, 1) := by decide +kernel
theorem dX8_keeps_110 : decode cX8_keeps 110 = .ok (.iaload, 1) := by decide +kernel
theorem dX8_keeps_111 : decode cX8_keeps 111 = .ok (.imul, 1) := by decide +kernel
theorem dX8_keeps_112 : decode cX8_keeps 112 = .ok (.if_icmp .ge 69, 3) := by decide +kernel
theorem dX8_keeps_115 : decode cX8_keeps 115 = .ok (.aload_n 0, 1) := by decide +kernel
theorem dX8_keeps_116 : decode cX8_keeps 116 = .ok (.aload_n 0, 1) := by decide +kernel
theorem dX8_keeps_117 : decode cX8_keeps 117 = .ok (.getfield 77, 3) := by decide +kernel
theorem dX8_keeps_120 : decode cX8_keeps 120 = .ok (.iload_n 1, 1) := by decide +kernel
theorem dX8_keeps_121 : decode cX8_keeps 121 = .ok (.iaload, 1) := by decide +kernel
theorem dX8_keeps_122 : decode cX8_keeps 122 = .ok (.iload_n 2, 1) := by decide +kernel
theorem dX8_keeps_123 : decode cX8_keeps 123 = .ok (.aload_n 0, 1) := by decide +kernel
theorem dX8_keeps_124 : decode cX8_keeps 124 = .ok (.getfield 83, 3) := by decide +kernel
theorem dX8_keeps_127 : decode cX8_keeps 127 = .ok (.iload_n 1, 1) := by decide +kernel
theorem dX8_keeps_128 : decode cX8_keeps 128 = .ok (.iaload, 1) := by decide +kernel
theorem dX8_keeps_129 : decode cX8_keeps 129 = .ok (.irem, 1) := by decide +kernel
theorem dX8_keeps_130 : decode cX8_keeps 130 = .ok (.iadd, 1) := by decide +kernel
theorem dX8_keeps_131 : decode cX8_keeps 131 = .ok (.aload_n 0, 1) := by decide +kernel
theorem dX8_keeps_132 : decode cX8_keeps 132 = .ok (.getfield 80, 3) := by decide +kernel
theorem dX8_keeps_135 : decode cX8_keeps 135 = .ok (.iload_n 1, 1) := by decide +kernel
theorem dX8_keeps_136 : decode cX8_keeps 136 = .ok (.iaload, 1) := by decide +kernel
theorem dX8_keeps_137 : decode cX8_keeps 137 = .ok (.iload_n 2, 1) := by decide +kernel
theorem dX8_keeps_138 : decode cX8_keeps 138 = .ok (.aload_n 0, 1) := by decide +kernel
theorem dX8_keeps_139 : decode cX8_keeps 139 = .ok (.getfield 83, 3) := by decide +kernel
theorem dX8_keeps_142 : decode cX8_keeps 142 = .ok (.iload_n 1, 1) := by decide +kernel
theorem dX8_keeps_143 : decode cX8_keeps 143 = .ok (.iaload, 1) := by decide +kernel
theorem dX8_keeps_144 : decode cX8_keeps 144 = .ok (.idiv, 1) := by decide +kernel
theorem dX8_keeps_145 : decode cX8_keeps 145 = .ok (.iadd, 1) := by decide +kernel
theorem dX8_keeps_146 : decode cX8_keeps 146 = .ok (.invokevirtual 223, 3) := by decide +kernel
theorem dX8_keeps_149 : decode cX8_keeps 149 = .ok (.istore_n 3, 1) := by decide +kernel
theorem dX8_keeps_150 : decode cX8_keeps 150 = .ok (.iload_n 3, 1) := by decide +kernel
theorem dX8_keeps_151 : decode cX8_keeps 151 = .ok (.iconst (-1), 1) := by decide +kernel
theorem dX8_keeps_152 : decode cX8_keeps 152 = .ok (.if_icmp .eq 23, 3) := by decide +kernel
theorem dX8_keeps_155 : decode cX8_keeps 155 = .ok (.aload_n 0, 1) := by decide +kernel
theorem dX8_keeps_156 : decode cX8_keeps 156 = .ok (.getfield 101, 3) := by decide +kernel
theorem dX8_keeps_159 : decode cX8_keeps 159 = .ok (.bipush 6, 2) := by decide +kernel
theorem dX8_keeps_161 : decode cX8_keeps 161 = .ok (.iload_n 1, 1) := by decide +kernel
theorem dX8_keeps_162 : decode cX8_keeps 162 = .ok (.imul, 1) := by decide +kernel
theorem dX8_keeps_163 : decode cX8_keeps 163 = .ok (.aload_n 0, 1) := by decide +kernel
theorem dX8_keeps_164 : decode cX8_keeps 164 = .ok (.getfield 35, 3) := by decide +kernel
theorem dX8_keeps_167 : decode cX8_keeps 167 = .ok (.iload_n 3, 1) := by decide +kernel
theorem dX8_keeps_168 : decode cX8_keeps 168 = .ok (.iaload, 1) := by decide +kernel
theorem dX8_keeps_169 : decode cX8_keeps 169 = .ok (.iadd, 1) := by decide +kernel
theorem dX8_keeps_170 : decode cX8_keeps 170 = .ok (.dup2, 1) := by decide +kernel
theorem dX8_keeps_171 : decode cX8_keeps 171 = .ok (.iaload, 1) := by decide +kernel
theorem dX8_keeps_172 : decode cX8_keeps 172 = .ok (.iconst 1, 1) := by decide +kernel
theorem dX8_keeps_173 : decode cX8_keeps 173 = .ok (.iadd, 1) := by decide +kernel
theorem dX8_keeps_174 : decode cX8_keeps 174 = .ok (.iastore, 1) := by decide +kernel
theorem dX8_keeps_175 : decode cX8_keeps 175 = .ok (.iinc 2 1, 3) := by decide +kernel
theorem dX8_keeps_178 : decode cX8_keeps 178 = .ok (.goto (-80), 3) := by decide +kernel
theorem dX8_keeps_181 : decode cX8_keeps 181 = .ok (.iconst 0, 1) := by decide +kernel
theorem dX8_keeps_182 : decode cX8_keeps 182 = .ok (.istore_n 2, 1) := by decide +kernel
theorem dX8_keeps_183 : decode cX8_keeps 183 = .ok (.iload_n 2, 1) := by decide +kernel
theorem dX8_keeps_184 : decode cX8_keeps 184 = .ok (.aload_n 0, 1) := by decide +kernel
theorem dX8_keeps_185 : decode cX8_keeps 185 = .ok (.getfield 151, 3) := by decide +kernel
theorem dX8_keeps_188 : decode cX8_keeps 188 = .ok (.if_icmp .ge 83, 3) := by decide +kernel
theorem dX8_keeps_191 : decode cX8_keeps 191 = .ok (.aload_n 0, 1) := by decide +kernel
theorem dX8_keeps_192 : decode cX8_keeps 192 = .ok (.iload_n 1, 1) := by decide +kernel
theorem dX8_keeps_193 : decode cX8_keeps 193 = .ok (.aload_n 0, 1) := by decide +kernel
theorem dX8_keeps_194 : decode cX8_keeps 194 = .ok (.getfield 16, 3) := by decide +kernel
theorem dX8_keeps_197 : decode cX8_keeps 197 = .ok (.iload_n 2, 1) := by decide +kernel
theorem dX8_keeps_198 : decode cX8_keeps 198 = .ok (.iaload, 1) := by decide +kernel
theorem dX8_keeps_199 : decode cX8_keeps 199 = .ok (.invokevirtual 230, 3) := by decide +kernel
theorem dX8_keeps_202 : decode cX8_keeps 202 = .ok (.ifCond .ne 27, 3) := by decide +kernel
theorem dX8_keeps_205 : decode cX8_keeps 205 = .ok (.aload_n 0, 1) := by decide +kernel
theorem dX8_keeps_206 : decode cX8_keeps 206 = .ok (.getfield 7, 3) := by decide +kernel
theorem dX8_keeps_209 : decode cX8_keeps 209 = .ok (.iload_n 2, 1) := by decide +kernel
theorem dX8_keeps_210 : decode cX8_keeps 210 = .ok (.iaload, 1) := by decide +kernel
theorem dX8_keeps_211 : decode cX8_keeps 211 = .ok (.iconst 5, 1) := by decide +kernel
theorem dX8_keeps_212 : decode cX8_keeps 212 = .ok (.if_icmp .ne 21, 3) := by decide +kernel
theorem dX8_keeps_215 : decode cX8_keeps 215 = .ok (.aload_n 0, 1) := by decide +kernel
theorem dX8_keeps_216 : decode cX8_keeps 216 = .ok (.iload_n 1, 1) := by decide +kernel
theorem dX8_keeps_217 : decode cX8_keeps 217 = .ok (.aload_n 0, 1) := by decide +kernel
theorem dX8_keeps_218 : decode cX8_keeps 218 = .ok (.getfield 19, 3) := by decide +kernel
theorem dX8_keeps_221 : decode cX8_keeps 221 = .ok (.iload_n 2, 1) := by decide +kernel
theorem dX8_keeps_222 : decode cX8_keeps 222 = .ok (.iaload, 1) := by decide +kernel
theorem dX8_keeps_223 : decode cX8_keeps 223 = .ok (.invokevirtual 230, 3) := by decide +kernel
theorem dX8_keeps_226 : decode cX8_keeps 226 = .ok (.ifCond .eq 7, 3) := by decide +kernel
theorem dX8_keeps_229 : decode cX8_keeps 229 = .ok (.iconst 1, 1) := by decide +kernel
theorem dX8_keeps_230 : decode cX8_keeps 230 = .ok (.goto 4, 3) := by decide +kernel
theorem dX8_keeps_233 : decode cX8_keeps 233 = .ok (.iconst 0, 1) := by decide +kernel
theorem dX8_keeps_234 : decode cX8_keeps 234 = .ok (.istore_n 3, 1) := by decide +kernel
theorem dX8_keeps_235 : decode cX8_keeps 235 = .ok (.aload_n 0, 1) := by decide +kernel
theorem dX8_keeps_236 : decode cX8_keeps 236 = .ok (.getfield 104, 3) := by decide +kernel
theorem dX8_keeps_239 : decode cX8_keeps 239 = .ok (.sipush 200, 3) := by decide +kernel
theorem dX8_keeps_242 : decode cX8_keeps 242 = .ok (.iload_n 1, 1) := by decide +kernel
theorem dX8_keeps_243 : decode cX8_keeps 243 = .ok (.imul, 1) := by decide +kernel
theorem dX8_keeps_244 : decode cX8_keeps 244 = .ok (.iload_n 2, 1) := by decide +kernel
theorem dX8_keeps_245 : decode cX8_keeps 245 = .ok (.iadd, 1) := by decide +kernel
theorem dX8_keeps_246 : decode cX8_keeps 246 = .ok (.aload_n 0, 1) := by decide +kernel
theorem dX8_keeps_247 : decode cX8_keeps 247 = .ok (.getfield 25, 3) := by decide +kernel
theorem dX8_keeps_250 : decode cX8_keeps 250 = .ok (.iload_n 2, 1) := by decide +kernel
theorem dX8_keeps_251 : decode cX8_keeps 251 = .ok (.baload, 1) := by decide +kernel
theorem dX8_keeps_252 : decode cX8_keeps 252 = .ok (.ifCond .eq 11, 3) := by decide +kernel
theorem dX8_keeps_255 : decode cX8_keeps 255 = .ok (.iload_n 3, 1) := by decide +kernel
theorem dX8_keeps_256 : decode cX8_keeps 256 = .ok (.ifCond .eq 7, 3) := by decide +kernel
theorem dX8_keeps_259 : decode cX8_keeps 259 = .ok (.iconst 1, 1) := by decide +kernel
theorem dX8_keeps_260 : decode cX8_keeps 260 = .ok (.goto 4, 3) := by decide +kernel
theorem dX8_keeps_263 : decode cX8_keeps 263 = .ok (.iconst 0, 1) := by decide +kernel
theorem dX8_keeps_264 : decode cX8_keeps 264 = .ok (.bastore, 1) := by decide +kernel
theorem dX8_keeps_265 : decode cX8_keeps 265 = .ok (.iinc 2 1, 3) := by decide +kernel
theorem dX8_keeps_268 : decode cX8_keeps 268 = .ok (.goto (-85), 3) := by decide +kernel
theorem dX8_keeps_271 : decode cX8_keeps 271 = .ok (.return_, 1) := by decide +kernel
theorem dX8_freeze_0 : decode cX8_freeze 0 = .ok (.iload_n 2, 1) := by decide +kernel
theorem dX8_freeze_1 : decode cX8_freeze 1 = .ok (.iconst 0, 1) := by decide +kernel
theorem dX8_freeze_2 : decode cX8_freeze 2 = .ok (.bipush 23, 2) := by decide +kernel
theorem dX8_freeze_4 : decode cX8_freeze 4 = .ok (.invokestatic 144, 3) := by decide +kernel
theorem dX8_freeze_7 : decode cX8_freeze 7 = .ok (.ifCond .eq 39, 3) := by decide +kernel
theorem dX8_freeze_10 : decode cX8_freeze 10 = .ok (.iload_n 3, 1) := by decide +kernel
theorem dX8_freeze_11 : decode cX8_freeze 11 = .ok (.iconst 0, 1) := by decide +kernel
theorem dX8_freeze_12 : decode cX8_freeze 12 = .ok (.bipush 15, 2) := by decide +kernel
theorem dX8_freeze_14 : decode cX8_freeze 14 = .ok (.invokestatic 144, 3) := by decide +kernel
theorem dX8_freeze_17 : decode cX8_freeze 17 = .ok (.ifCond .eq 29, 3) := by decide +kernel
theorem dX8_freeze_20 : decode cX8_freeze 20 = .ok (.iload 6, 2) := by decide +kernel
theorem dX8_freeze_22 : decode cX8_freeze 22 = .ok (.iconst 1, 1) := by decide +kernel
theorem dX8_freeze_23 : decode cX8_freeze 23 = .ok (.bipush 20, 2) := by decide +kernel
theorem dX8_freeze_25 : decode cX8_freeze 25 = .ok (.invokestatic 144, 3) := by decide +kernel
theorem dX8_freeze_28 : decode cX8_freeze 28 = .ok (.ifCond .eq 18, 3) := by decide +kernel
theorem dX8_freeze_31 : decode cX8_freeze 31 = .ok (.iload 7, 2) := by decide +kernel
theorem dX8_freeze_33 : decode cX8_freeze 33 = .ok (.iconst 0, 1) := by decide +kernel
theorem dX8_freeze_34 : decode cX8_freeze 34 = .ok (.ldc 234, 2) := by decide +kernel
theorem dX8_freeze_36 : decode cX8_freeze 36 = .ok (.invokestatic 144, 3) := by decide +kernel
theorem dX8_freeze_39 : decode cX8_freeze 39 = .ok (.ifCond .eq 7, 3) := by decide +kernel
theorem dX8_freeze_42 : decode cX8_freeze 42 = .ok (.iconst 1, 1) := by decide +kernel
theorem dX8_freeze_43 : decode cX8_freeze 43 = .ok (.goto 4, 3) := by decide +kernel
theorem dX8_freeze_46 : decode cX8_freeze 46 = .ok (.iconst 0, 1) := by decide +kernel
theorem dX8_freeze_47 : decode cX8_freeze 47 = .ok (.istore 8, 2) := by decide +kernel
theorem dX8_freeze_49 : decode cX8_freeze 49 = .ok (.iload 8, 2) := by decide +kernel
theorem dX8_freeze_51 : decode cX8_freeze 51 = .ok (.ifCond .eq 33, 3) := by decide +kernel
theorem dX8_freeze_54 : decode cX8_freeze 54 = .ok (.iload 4, 2) := by decide +kernel
theorem dX8_freeze_56 : decode cX8_freeze 56 = .ok (.iconst 1, 1) := by decide +kernel
theorem dX8_freeze_57 : decode cX8_freeze 57 = .ok (.bipush 24, 2) := by decide +kernel
theorem dX8_freeze_59 : decode cX8_freeze 59 = .ok (.iload_n 2, 1) := by decide +kernel
theorem dX8_freeze_60 : decode cX8_freeze 60 = .ok (.isub, 1) := by decide +kernel
theorem dX8_freeze_61 : decode cX8_freeze 61 = .ok (.invokestatic 144, 3) := by decide +kernel
theorem dX8_freeze_64 : decode cX8_freeze 64 = .ok (.ifCond .eq 20, 3) := by decide +kernel
theorem dX8_freeze_67 : decode cX8_freeze 67 = .ok (.iload 5, 2) := by decide +kernel
theorem dX8_freeze_69 : decode cX8_freeze 69 = .ok (.iconst 1, 1) := by decide +kernel
theorem dX8_freeze_70 : decode cX8_freeze 70 = .ok (.bipush 16, 2) := by decide +kernel
theorem dX8_freeze_72 : decode cX8_freeze 72 = .ok (.iload_n 3, 1) := by decide +kernel
theorem dX8_freeze_73 : decode cX8_freeze 73 = .ok (.isub, 1) := by decide +kernel
theorem dX8_freeze_74 : decode cX8_freeze 74 = .ok (.invokestatic 144, 3) := by decide +kernel
theorem dX8_freeze_77 : decode cX8_freeze 77 = .ok (.ifCond .eq 7, 3) := by decide +kernel
theorem dX8_freeze_80 : decode cX8_freeze 80 = .ok (.iconst 1, 1) := by decide +kernel
theorem dX8_freeze_81 : decode cX8_freeze 81 = .ok (.goto 4, 3) := by decide +kernel
theorem dX8_freeze_84 : decode cX8_freeze 84 = .ok (.iconst 0, 1) := by decide +kernel
theorem dX8_freeze_85 : decode cX8_freeze 85 = .ok (.istore 8, 2) := by decide +kernel
theorem dX8_freeze_87 : decode cX8_freeze 87 = .ok (.aload_n 0, 1) := by decide +kernel
theorem dX8_freeze_88 : decode cX8_freeze 88 = .ok (.iload_n 1, 1) := by decide +kernel
theorem dX8_freeze_89 : decode cX8_freeze 89 = .ok (.invokestatic 196, 3) := by decide +kernel
theorem dX8_freeze_92 : decode cX8_freeze 92 = .ok (.ifCond .ne 7, 3) := by decide +kernel
theorem dX8_freeze_95 : decode cX8_freeze 95 = .ok (.iconst 1, 1) := by decide +kernel
theorem dX8_freeze_96 : decode cX8_freeze 96 = .ok (.goto 13, 3) := by decide +kernel
theorem dX8_freeze_99 : decode cX8_freeze 99 = .ok (.iload 8, 2) := by decide +kernel
theorem dX8_freeze_101 : decode cX8_freeze 101 = .ok (.ifCond .eq 7, 3) := by decide +kernel
theorem dX8_freeze_104 : decode cX8_freeze 104 = .ok (.iconst 0, 1) := by decide +kernel
theorem dX8_freeze_105 : decode cX8_freeze 105 = .ok (.goto 4, 3) := by decide +kernel
theorem dX8_freeze_108 : decode cX8_freeze 108 = .ok (.iconst 2, 1) := by decide +kernel
theorem dX8_freeze_109 : decode cX8_freeze 109 = .ok (.putfield 140, 3) := by decide +kernel
theorem dX8_freeze_112 : decode cX8_freeze 112 = .ok (.aload_n 0, 1) := by decide +kernel
theorem dX8_freeze_113 : decode cX8_freeze 113 = .ok (.getfield 140, 3) := by decide +kernel
theorem dX8_freeze_116 : decode cX8_freeze 116 = .ok (.ifCond .le 5, 3) := by decide +kernel
theorem dX8_freeze_119 : decode cX8_freeze 119 = .ok (.iconst 0, 1) := by decide +kernel
theorem dX8_freeze_120 : decode cX8_freeze 120 = .ok (.ireturn, 1) := by decide +kernel
theorem dX8_freeze_121 : decode cX8_freeze 121 = .ok (.aload_n 0, 1) := by decide +kernel
theorem dX8_freeze_122 : decode cX8_freeze 122 = .ok (.aload_n 0, 1) := by decide +kernel
theorem dX8_freeze_123 : decode cX8_freeze 123 = .ok (.getfield 154, 3) := by decide +kernel
theorem dX8_freeze_126 : decode cX8_freeze 126 = .ok (.bipush 8, 2) := by decide +kernel
theorem dX8_freeze_128 : decode cX8_freeze 128 = .ok (.if_icmp .eq 16, 3) := by decide +kernel
theorem dX8_freeze_131 : decode cX8_freeze 131 = .ok (.aload_n 0, 1) := by decide +kernel
theorem dX8_freeze_132 : decode cX8_freeze 132 = .ok (.iload_n 2, 1) := by decide +kernel
theorem dX8_freeze_133 : decode cX8_freeze 133 = .ok (.iload_n 3, 1) := by decide +kernel
theorem dX8_freeze_134 : decode cX8_freeze 134 = .ok (.iload 4, 2) := by decide +kernel
theorem dX8_freeze_136 : decode cX8_freeze 136 = .ok (.iload 5, 2) := by decide +kernel
theorem dX8_freeze_138 : decode cX8_freeze 138 = .ok (.invokevirtual 235, 3) := by decide +kernel
theorem dX8_freeze_141 : decode cX8_freeze 141 = .ok (.ifCond .eq 7, 3) := by decide +kernel
theorem dX8_freeze_144 : decode cX8_freeze 144 = .ok (.iconst 3, 1) := by decide +kernel
theorem dX8_freeze_145 : decode cX8_freeze 145 = .ok (.goto 4, 3) := by decide +kernel
theorem dX8_freeze_148 : decode cX8_freeze 148 = .ok (.iconst 0, 1) := by decide +kernel
theorem dX8_freeze_149 : decode cX8_freeze 149 = .ok (.putfield 140, 3) := by decide +kernel
theorem dX8_freeze_152 : decode cX8_freeze 152 = .ok (.aload_n 0, 1) := by decide +kernel
theorem dX8_freeze_153 : decode cX8_freeze 153 = .ok (.getfield 140, 3) := by decide +kernel
theorem dX8_freeze_156 : decode cX8_freeze 156 = .ok (.ifCond .le 5, 3) := by decide +kernel
theorem dX8_freeze_159 : decode cX8_freeze 159 = .ok (.iconst 0, 1) := by decide +kernel
theorem dX8_freeze_160 : decode cX8_freeze 160 = .ok (.ireturn, 1) := by decide +kernel
theorem dX8_freeze_161 : decode cX8_freeze 161 = .ok (.aload_n 0, 1) := by decide +kernel
theorem dX8_freeze_162 : decode cX8_freeze 162 = .ok (.getfield 74, 3) := by decide +kernel
theorem dX8_freeze_165 : decode cX8_freeze 165 = .ok (.aload_n 0, 1) := by decide +kernel
theorem dX8_freeze_166 : decode cX8_freeze 166 = .ok (.getfield 154, 3) := by decide +kernel
theorem dX8_freeze_169 : decode cX8_freeze 169 = .ok (.iload_n 1, 1) := by decide +kernel
theorem dX8_freeze_170 : decode cX8_freeze 170 = .ok (.iastore, 1) := by decide +kernel
theorem dX8_freeze_171 : decode cX8_freeze 171 = .ok (.aload_n 0, 1) := by decide +kernel
theorem dX8_freeze_172 : decode cX8_freeze 172 = .ok (.getfield 77, 3) := by decide +kernel
theorem dX8_freeze_175 : decode cX8_freeze 175 = .ok (.aload_n 0, 1) := by decide +kernel
theorem dX8_freeze_176 : decode cX8_freeze 176 = .ok (.getfield 154, 3) := by decide +kernel
theorem dX8_freeze_179 : decode cX8_freeze 179 = .ok (.iload_n 2, 1) := by decide +kernel
theorem dX8_freeze_180 : decode cX8_freeze 180 = .ok (.iastore, 1) := by decide +kernel
theorem dX8_freeze_181 : decode cX8_freeze 181 = .ok (.aload_n 0, 1) := by decide +kernel
theorem dX8_freeze_182 : decode cX8_freeze 182 = .ok (.getfield 80, 3) := by decide +kernel
theorem dX8_freeze_185 : decode cX8_freeze 185 = .ok (.aload_n 0, 1) := by decide +kernel
theorem dX8_freeze_186 : decode cX8_freeze 186 = .ok (.getfield 154, 3) := by decide +kernel
theorem dX8_freeze_189 : decode cX8_freeze 189 = .ok (.iload_n 3, 1) := by decide +kernel
theorem dX8_freeze_190 : decode cX8_freeze 190 = .ok (.iastore, 1) := by decide +kernel
theorem dX8_freeze_191 : decode cX8_freeze 191 = .ok (.aload_n 0, 1) := by decide +kernel
theorem dX8_freeze_192 : decode cX8_freeze 192 = .ok (.getfield 83, 3) := by decide +kernel
theorem dX8_freeze_195 : decode cX8_freeze 195 = .ok (.aload_n 0, 1) := by decide +kernel
theorem dX8_freeze_196 : decode cX8_freeze 196 = .ok (.getfield 154, 3) := by decide +kernel
theorem dX8_freeze_199 : decode cX8_freeze 199 = .ok (.iload 4, 2) := by decide +kernel
theorem dX8_freeze_201 : decode cX8_freeze 201 = .ok (.iastore, 1) := by decide +kernel
theorem dX8_freeze_202 : decode cX8_freeze 202 = .ok (.aload_n 0, 1) := by decide +kernel
theorem dX8_freeze_203 : decode cX8_freeze 203 = .ok (.getfield 86, 3) := by decide +kernel
theorem dX8_freeze_206 : decode cX8_freeze 206 = .ok (.aload_n 0, 1) := by decide +kernel
theorem dX8_freeze_207 : decode cX8_freeze 207 = .ok (.getfield 154, 3) := by decide +kernel
theorem dX8_freeze_210 : decode cX8_freeze 210 = .ok (.iload 5, 2) := by decide +kernel
theorem dX8_freeze_212 : decode cX8_freeze 212 = .ok (.iastore, 1) := by decide +kernel
theorem dX8_freeze_213 : decode cX8_freeze 213 = .ok (.aload_n 0, 1) := by decide +kernel
theorem dX8_freeze_214 : decode cX8_freeze 214 = .ok (.getfield 89, 3) := by decide +kernel
theorem dX8_freeze_217 : decode cX8_freeze 217 = .ok (.aload_n 0, 1) := by decide +kernel
theorem dX8_freeze_218 : decode cX8_freeze 218 = .ok (.getfield 154, 3) := by decide +kernel
theorem dX8_freeze_221 : decode cX8_freeze 221 = .ok (.iload 6, 2) := by decide +kernel
theorem dX8_freeze_223 : decode cX8_freeze 223 = .ok (.iastore, 1) := by decide +kernel
theorem dX8_freeze_224 : decode cX8_freeze 224 = .ok (.aload_n 0, 1) := by decide +kernel
theorem dX8_freeze_225 : decode cX8_freeze 225 = .ok (.getfield 92, 3) := by decide +kernel
theorem dX8_freeze_228 : decode cX8_freeze 228 = .ok (.aload_n 0, 1) := by decide +kernel
theorem dX8_freeze_229 : decode cX8_freeze 229 = .ok (.getfield 154, 3) := by decide +kernel
theorem dX8_freeze_232 : decode cX8_freeze 232 = .ok (.iload 7, 2) := by decide +kernel
theorem dX8_freeze_234 : decode cX8_freeze 234 = .ok (.iastore, 1) := by decide +kernel
theorem dX8_freeze_235 : decode cX8_freeze 235 = .ok (.aload_n 0, 1) := by decide +kernel
theorem dX8_freeze_236 : decode cX8_freeze 236 = .ok (.aload_n 0, 1) := by decide +kernel
theorem dX8_freeze_237 : decode cX8_freeze 237 = .ok (.getfield 154, 3) := by decide +kernel
theorem dX8_freeze_240 : decode cX8_freeze 240 = .ok (.invokevirtual 239, 3) := by decide +kernel
theorem dX8_freeze_243 : decode cX8_freeze 243 = .ok (.aload_n 0, 1) := by decide +kernel
theorem dX8_freeze_244 : decode cX8_freeze 244 = .ok (.dup, 1) := by decide +kernel
theorem dX8_freeze_245 : decode cX8_freeze 245 = .ok (.getfield 154, 3) := by decide +kernel
theorem dX8_freeze_248 : decode cX8_freeze 248 = .ok (.iconst 1, 1) := by decide +kernel
theorem dX8_freeze_249 : decode cX8_freeze 249 = .ok (.iadd, 1) := by decide +kernel
theorem dX8_freeze_250 : decode cX8_freeze 250 = .ok (.putfield 154, 3) := by decide +kernel
theorem dX8_freeze_253 : decode cX8_freeze 253 = .ok (.aload_n 0, 1) := by decide +kernel
theorem dX8_freeze_254 : decode cX8_freeze 254 = .ok (.getfield 154, 3) := by decide +kernel
theorem dX8_freeze_257 : decode cX8_freeze 257 = .ok (.iconst 1, 1) := by decide +kernel
theorem dX8_freeze_258 : decode cX8_freeze 258 = .ok (.isub, 1) := by decide +kernel
theorem dX8_freeze_259 : decode cX8_freeze 259 = .ok (.ireturn, 1) := by decide +kernel
theorem dX8_withdraw_0 : decode cX8_withdraw 0 = .ok (.aload_n 0, 1) := by decide +kernel
theorem dX8_withdraw_1 : decode cX8_withdraw 1 = .ok (.aload_n 0, 1) := by decide +kernel
theorem dX8_withdraw_2 : decode cX8_withdraw 2 = .ok (.iload_n 1, 1) := by decide +kernel
theorem dX8_withdraw_3 : decode cX8_withdraw 3 = .ok (.invokevirtual 157, 3) := by decide +kernel
theorem dX8_withdraw_6 : decode cX8_withdraw 6 = .ok (.ifCond .eq 7, 3) := by decide +kernel
theorem dX8_withdraw_9 : decode cX8_withdraw 9 = .ok (.iconst 0, 1) := by decide +kernel
theorem dX8_withdraw_10 : decode cX8_withdraw 10 = .ok (.goto 4, 3) := by decide +kernel
theorem dX8_withdraw_13 : decode cX8_withdraw 13 = .ok (.iconst 1, 1) := by decide +kernel
theorem dX8_withdraw_14 : decode cX8_withdraw 14 = .ok (.putfield 140, 3) := by decide +kernel
theorem dX8_withdraw_17 : decode cX8_withdraw 17 = .ok (.aload_n 0, 1) := by decide +kernel
theorem dX8_withdraw_18 : decode cX8_withdraw 18 = .ok (.getfield 140, 3) := by decide +kernel
theorem dX8_withdraw_21 : decode cX8_withdraw 21 = .ok (.ifCond .le 5, 3) := by decide +kernel
theorem dX8_withdraw_24 : decode cX8_withdraw 24 = .ok (.iconst 0, 1) := by decide +kernel
theorem dX8_withdraw_25 : decode cX8_withdraw 25 = .ok (.ireturn, 1) := by decide +kernel
theorem dX8_withdraw_26 : decode cX8_withdraw 26 = .ok (.aload_n 0, 1) := by decide +kernel
theorem dX8_withdraw_27 : decode cX8_withdraw 27 = .ok (.aload_n 0, 1) := by decide +kernel
theorem dX8_withdraw_28 : decode cX8_withdraw 28 = .ok (.getfield 95, 3) := by decide +kernel
theorem dX8_withdraw_31 : decode cX8_withdraw 31 = .ok (.iload_n 1, 1) := by decide +kernel
theorem dX8_withdraw_32 : decode cX8_withdraw 32 = .ok (.baload, 1) := by decide +kernel
theorem dX8_withdraw_33 : decode cX8_withdraw 33 = .ok (.ifCond .ne 12, 3) := by decide +kernel
theorem dX8_withdraw_36 : decode cX8_withdraw 36 = .ok (.aload_n 0, 1) := by decide +kernel
theorem dX8_withdraw_37 : decode cX8_withdraw 37 = .ok (.getfield 98, 3) := by decide +kernel
theorem dX8_withdraw_40 : decode cX8_withdraw 40 = .ok (.iload_n 1, 1) := by decide +kernel
theorem dX8_withdraw_41 : decode cX8_withdraw 41 = .ok (.baload, 1) := by decide +kernel
theorem dX8_withdraw_42 : decode cX8_withdraw 42 = .ok (.ifCond .eq 7, 3) := by decide +kernel
theorem dX8_withdraw_45 : decode cX8_withdraw 45 = .ok (.iconst 2, 1) := by decide +kernel
theorem dX8_withdraw_46 : decode cX8_withdraw 46 = .ok (.goto 4, 3) := by decide +kernel
theorem dX8_withdraw_49 : decode cX8_withdraw 49 = .ok (.iconst 0, 1) := by decide +kernel
theorem dX8_withdraw_50 : decode cX8_withdraw 50 = .ok (.putfield 140, 3) := by decide +kernel
theorem dX8_withdraw_53 : decode cX8_withdraw 53 = .ok (.aload_n 0, 1) := by decide +kernel
theorem dX8_withdraw_54 : decode cX8_withdraw 54 = .ok (.getfield 140, 3) := by decide +kernel
theorem dX8_withdraw_57 : decode cX8_withdraw 57 = .ok (.ifCond .le 5, 3) := by decide +kernel
theorem dX8_withdraw_60 : decode cX8_withdraw 60 = .ok (.iconst 0, 1) := by decide +kernel
theorem dX8_withdraw_61 : decode cX8_withdraw 61 = .ok (.ireturn, 1) := by decide +kernel
theorem dX8_withdraw_62 : decode cX8_withdraw 62 = .ok (.iconst 0, 1) := by decide +kernel
theorem dX8_withdraw_63 : decode cX8_withdraw 63 = .ok (.istore_n 2, 1) := by decide +kernel
theorem dX8_withdraw_64 : decode cX8_withdraw 64 = .ok (.iconst 0, 1) := by decide +kernel
theorem dX8_withdraw_65 : decode cX8_withdraw 65 = .ok (.istore_n 3, 1) := by decide +kernel
theorem dX8_withdraw_66 : decode cX8_withdraw 66 = .ok (.iload_n 3, 1) := by decide +kernel
theorem dX8_withdraw_67 : decode cX8_withdraw 67 = .ok (.aload_n 0, 1) := by decide +kernel
theorem dX8_withdraw_68 : decode cX8_withdraw 68 = .ok (.getfield 151, 3) := by decide +kernel
theorem dX8_withdraw_71 : decode cX8_withdraw 71 = .ok (.if_icmp .ge 45, 3) := by decide +kernel
theorem dX8_withdraw_74 : decode cX8_withdraw 74 = .ok (.iload_n 2, 1) := by decide +kernel
theorem dX8_withdraw_75 : decode cX8_withdraw 75 = .ok (.aload_n 0, 1) := by decide +kernel
theorem dX8_withdraw_76 : decode cX8_withdraw 76 = .ok (.getfield 104, 3) := by decide +kernel
theorem dX8_withdraw_79 : decode cX8_withdraw 79 = .ok (.sipush 200, 3) := by decide +kernel
theorem dX8_withdraw_82 : decode cX8_withdraw 82 = .ok (.iload_n 1, 1) := by decide +kernel
theorem dX8_withdraw_83 : decode cX8_withdraw 83 = .ok (.imul, 1) := by decide +kernel
theorem dX8_withdraw_84 : decode cX8_withdraw 84 = .ok (.iload_n 3, 1) := by decide +kernel
theorem dX8_withdraw_85 : decode cX8_withdraw 85 = .ok (.iadd, 1) := by decide +kernel
theorem dX8_withdraw_86 : decode cX8_withdraw 86 = .ok (.baload, 1) := by decide +kernel
theorem dX8_withdraw_87 : decode cX8_withdraw 87 = .ok (.ifCond .eq 7, 3) := by decide +kernel
theorem dX8_withdraw_90 : decode cX8_withdraw 90 = .ok (.iconst 1, 1) := by decide +kernel
theorem dX8_withdraw_91 : decode cX8_withdraw 91 = .ok (.goto 4, 3) := by decide +kernel
theorem dX8_withdraw_94 : decode cX8_withdraw 94 = .ok (.iconst 0, 1) := by decide +kernel
theorem dX8_withdraw_95 : decode cX8_withdraw 95 = .ok (.iadd, 1) := by decide +kernel
theorem dX8_withdraw_96 : decode cX8_withdraw 96 = .ok (.istore_n 2, 1) := by decide +kernel
theorem dX8_withdraw_97 : decode cX8_withdraw 97 = .ok (.aload_n 0, 1) := by decide +kernel
theorem dX8_withdraw_98 : decode cX8_withdraw 98 = .ok (.getfield 104, 3) := by decide +kernel
theorem dX8_withdraw_101 : decode cX8_withdraw 101 = .ok (.sipush 200, 3) := by decide +kernel
theorem dX8_withdraw_104 : decode cX8_withdraw 104 = .ok (.iload_n 1, 1) := by decide +kernel
theorem dX8_withdraw_105 : decode cX8_withdraw 105 = .ok (.imul, 1) := by decide +kernel
theorem dX8_withdraw_106 : decode cX8_withdraw 106 = .ok (.iload_n 3, 1) := by decide +kernel
theorem dX8_withdraw_107 : decode cX8_withdraw 107 = .ok (.iadd, 1) := by decide +kernel
theorem dX8_withdraw_108 : decode cX8_withdraw 108 = .ok (.iconst 0, 1) := by decide +kernel
theorem dX8_withdraw_109 : decode cX8_withdraw 109 = .ok (.bastore, 1) := by decide +kernel
theorem dX8_withdraw_110 : decode cX8_withdraw 110 = .ok (.iinc 3 1, 3) := by decide +kernel
theorem dX8_withdraw_113 : decode cX8_withdraw 113 = .ok (.goto (-47), 3) := by decide +kernel
theorem dX8_withdraw_116 : decode cX8_withdraw 116 = .ok (.aload_n 0, 1) := by decide +kernel
theorem dX8_withdraw_117 : decode cX8_withdraw 117 = .ok (.getfield 95, 3) := by decide +kernel
theorem dX8_withdraw_120 : decode cX8_withdraw 120 = .ok (.iload_n 1, 1) := by decide +kernel
theorem dX8_withdraw_121 : decode cX8_withdraw 121 = .ok (.iconst 1, 1) := by decide +kernel
theorem dX8_withdraw_122 : decode cX8_withdraw 122 = .ok (.bastore, 1) := by decide +kernel
theorem dX8_withdraw_123 : decode cX8_withdraw 123 = .ok (.iload_n 2, 1) := by decide +kernel
theorem dX8_withdraw_124 : decode cX8_withdraw 124 = .ok (.ireturn, 1) := by decide +kernel
theorem dX8_viewed_0 : decode cX8_viewed 0 = .ok (.aload_n 0, 1) := by decide +kernel
theorem dX8_viewed_1 : decode cX8_viewed 1 = .ok (.iload_n 1, 1) := by decide +kernel
theorem dX8_viewed_2 : decode cX8_viewed 2 = .ok (.invokevirtual 157, 3) := by decide +kernel
theorem dX8_viewed_5 : decode cX8_viewed 5 = .ok (.ifCond .eq 7, 3) := by decide +kernel
theorem dX8_viewed_8 : decode cX8_viewed 8 = .ok (.iload_n 1, 1) := by decide +kernel
theorem dX8_viewed_9 : decode cX8_viewed 9 = .ok (.goto 4, 3) := by decide +kernel
theorem dX8_viewed_12 : decode cX8_viewed 12 = .ok (.iconst 0, 1) := by decide +kernel
theorem dX8_viewed_13 : decode cX8_viewed 13 = .ok (.istore 4, 2) := by decide +kernel
theorem dX8_viewed_15 : decode cX8_viewed 15 = .ok (.aload_n 0, 1) := by decide +kernel
theorem dX8_viewed_16 : decode cX8_viewed 16 = .ok (.iload_n 1, 1) := by decide +kernel
theorem dX8_viewed_17 : decode cX8_viewed 17 = .ok (.invokevirtual 157, 3) := by decide +kernel
theorem dX8_viewed_20 : decode cX8_viewed 20 = .ok (.ifCond .eq 41, 3) := by decide +kernel
theorem dX8_viewed_23 : decode cX8_viewed 23 = .ok (.iload_n 2, 1) := by decide +kernel
theorem dX8_viewed_24 : decode cX8_viewed 24 = .ok (.iconst 0, 1) := by decide +kernel
theorem dX8_viewed_25 : decode cX8_viewed 25 = .ok (.aload_n 0, 1) := by decide +kernel
theorem dX8_viewed_26 : decode cX8_viewed 26 = .ok (.getfield 83, 3) := by decide +kernel
theorem dX8_viewed_29 : decode cX8_viewed 29 = .ok (.iload 4, 2) := by decide +kernel
theorem dX8_viewed_31 : decode cX8_viewed 31 = .ok (.iaload, 1) := by decide +kernel
theorem dX8_viewed_32 : decode cX8_viewed 32 = .ok (.iconst 1, 1) := by decide +kernel
theorem dX8_viewed_33 : decode cX8_viewed 33 = .ok (.isub, 1) := by decide +kernel
theorem dX8_viewed_34 : decode cX8_viewed 34 = .ok (.invokestatic 144, 3) := by decide +kernel
theorem dX8_viewed_37 : decode cX8_viewed 37 = .ok (.ifCond .eq 24, 3) := by decide +kernel
theorem dX8_viewed_40 : decode cX8_viewed 40 = .ok (.iload_n 3, 1) := by decide +kernel
theorem dX8_viewed_41 : decode cX8_viewed 41 = .ok (.iconst 0, 1) := by decide +kernel
theorem dX8_viewed_42 : decode cX8_viewed 42 = .ok (.aload_n 0, 1) := by decide +kernel
theorem dX8_viewed_43 : decode cX8_viewed 43 = .ok (.getfield 86, 3) := by decide +kernel
theorem dX8_viewed_46 : decode cX8_viewed 46 = .ok (.iload 4, 2) := by decide +kernel
theorem dX8_viewed_48 : decode cX8_viewed 48 = .ok (.iaload, 1) := by decide +kernel
theorem dX8_viewed_49 : decode cX8_viewed 49 = .ok (.iconst 1, 1) := by decide +kernel
theorem dX8_viewed_50 : decode cX8_viewed 50 = .ok (.isub, 1) := by decide +kernel
theorem dX8_viewed_51 : decode cX8_viewed 51 = .ok (.invokestatic 144, 3) := by decide +kernel
theorem dX8_viewed_54 : decode cX8_viewed 54 = .ok (.ifCond .eq 7, 3) := by decide +kernel
theorem dX8_viewed_57 : decode cX8_viewed 57 = .ok (.iconst 1, 1) := by decide +kernel
theorem dX8_viewed_58 : decode cX8_viewed 58 = .ok (.goto 4, 3) := by decide +kernel
theorem dX8_viewed_61 : decode cX8_viewed 61 = .ok (.iconst 0, 1) := by decide +kernel
theorem dX8_viewed_62 : decode cX8_viewed 62 = .ok (.istore 5, 2) := by decide +kernel
theorem dX8_viewed_64 : decode cX8_viewed 64 = .ok (.aload_n 0, 1) := by decide +kernel
theorem dX8_viewed_65 : decode cX8_viewed 65 = .ok (.iload 5, 2) := by decide +kernel
theorem dX8_viewed_67 : decode cX8_viewed 67 = .ok (.ifCond .eq 7, 3) := by decide +kernel
theorem dX8_viewed_70 : decode cX8_viewed 70 = .ok (.iconst 0, 1) := by decide +kernel
theorem dX8_viewed_71 : decode cX8_viewed 71 = .ok (.goto 4, 3) := by decide +kernel
theorem dX8_viewed_74 : decode cX8_viewed 74 = .ok (.iconst 1, 1) := by decide +kernel
theorem dX8_viewed_75 : decode cX8_viewed 75 = .ok (.putfield 140, 3) := by decide +kernel
theorem dX8_viewed_78 : decode cX8_viewed 78 = .ok (.aload_n 0, 1) := by decide +kernel
theorem dX8_viewed_79 : decode cX8_viewed 79 = .ok (.getfield 140, 3) := by decide +kernel
theorem dX8_viewed_82 : decode cX8_viewed 82 = .ok (.ifCond .le 5, 3) := by decide +kernel
theorem dX8_viewed_85 : decode cX8_viewed 85 = .ok (.iconst 0, 1) := by decide +kernel
theorem dX8_viewed_86 : decode cX8_viewed 86 = .ok (.ireturn, 1) := by decide +kernel
theorem dX8_viewed_87 : decode cX8_viewed 87 = .ok (.aload_n 0, 1) := by decide +kernel
theorem dX8_viewed_88 : decode cX8_viewed 88 = .ok (.iload_n 1, 1) := by decide +kernel
theorem dX8_viewed_89 : decode cX8_viewed 89 = .ok (.aload_n 0, 1) := by decide +kernel
theorem dX8_viewed_90 : decode cX8_viewed 90 = .ok (.getfield 77, 3) := by decide +kernel
theorem dX8_viewed_93 : decode cX8_viewed 93 = .ok (.iload_n 1, 1) := by decide +kernel
theorem dX8_viewed_94 : decode cX8_viewed 94 = .ok (.iaload, 1) := by decide +kernel
theorem dX8_viewed_95 : decode cX8_viewed 95 = .ok (.iload_n 2, 1) := by decide +kernel
theorem dX8_viewed_96 : decode cX8_viewed 96 = .ok (.iadd, 1) := by decide +kernel
theorem dX8_viewed_97 : decode cX8_viewed 97 = .ok (.aload_n 0, 1) := by decide +kernel
theorem dX8_viewed_98 : decode cX8_viewed 98 = .ok (.getfield 80, 3) := by decide +kernel
theorem dX8_viewed_101 : decode cX8_viewed 101 = .ok (.iload_n 1, 1) := by decide +kernel
theorem dX8_viewed_102 : decode cX8_viewed 102 = .ok (.iaload, 1) := by decide +kernel
theorem dX8_viewed_103 : decode cX8_viewed 103 = .ok (.iload_n 3, 1) := by decide +kernel
theorem dX8_viewed_104 : decode cX8_viewed 104 = .ok (.iadd, 1) := by decide +kernel
theorem dX8_viewed_105 : decode cX8_viewed 105 = .ok (.invokevirtual 226, 3) := by decide +kernel
theorem dX8_viewed_108 : decode cX8_viewed 108 = .ok (.istore 6, 2) := by decide +kernel
theorem dX8_viewed_110 : decode cX8_viewed 110 = .ok (.iload 6, 2) := by decide +kernel
theorem dX8_viewed_112 : decode cX8_viewed 112 = .ok (.iconst (-1), 1) := by decide +kernel
theorem dX8_viewed_113 : decode cX8_viewed 113 = .ok (.if_icmp .ne 7, 3) := by decide +kernel
theorem dX8_viewed_116 : decode cX8_viewed 116 = .ok (.iconst 0, 1) := by decide +kernel
theorem dX8_viewed_117 : decode cX8_viewed 117 = .ok (.goto 10, 3) := by decide +kernel
theorem dX8_viewed_120 : decode cX8_viewed 120 = .ok (.aload_n 0, 1) := by decide +kernel
theorem dX8_viewed_121 : decode cX8_viewed 121 = .ok (.getfield 119, 3) := by decide +kernel
theorem dX8_viewed_124 : decode cX8_viewed 124 = .ok (.iload 6, 2) := by decide +kernel
theorem dX8_viewed_126 : decode cX8_viewed 126 = .ok (.iaload, 1) := by decide +kernel
theorem dX8_viewed_127 : decode cX8_viewed 127 = .ok (.ireturn, 1) := by decide +kernel
theorem dX8_area_0 : decode cX8_area 0 = .ok (.aload_n 0, 1) := by decide +kernel
theorem dX8_area_1 : decode cX8_area 1 = .ok (.aload_n 0, 1) := by decide +kernel
theorem dX8_area_2 : decode cX8_area 2 = .ok (.iload_n 1, 1) := by decide +kernel
theorem dX8_area_3 : decode cX8_area 3 = .ok (.invokevirtual 157, 3) := by decide +kernel
theorem dX8_area_6 : decode cX8_area 6 = .ok (.ifCond .eq 14, 3) := by decide +kernel
theorem dX8_area_9 : decode cX8_area 9 = .ok (.iload_n 2, 1) := by decide +kernel
theorem dX8_area_10 : decode cX8_area 10 = .ok (.invokestatic 196, 3) := by decide +kernel
theorem dX8_area_13 : decode cX8_area 13 = .ok (.ifCond .eq 7, 3) := by decide +kernel
theorem dX8_area_16 : decode cX8_area 16 = .ok (.iconst 0, 1) := by decide +kernel
theorem dX8_area_17 : decode cX8_area 17 = .ok (.goto 4, 3) := by decide +kernel
theorem dX8_area_20 : decode cX8_area 20 = .ok (.iconst 1, 1) := by decide +kernel
theorem dX8_area_21 : decode cX8_area 21 = .ok (.putfield 140, 3) := by decide +kernel
theorem dX8_area_24 : decode cX8_area 24 = .ok (.aload_n 0, 1) := by decide +kernel
theorem dX8_area_25 : decode cX8_area 25 = .ok (.getfield 140, 3) := by decide +kernel
theorem dX8_area_28 : decode cX8_area 28 = .ok (.ifCond .le 7, 3) := by decide +kernel
theorem dX8_area_31 : decode cX8_area 31 = .ok (.iconst 0, 1) := by decide +kernel
theorem dX8_area_32 : decode cX8_area 32 = .ok (.goto 14, 3) := by decide +kernel
theorem dX8_area_35 : decode cX8_area 35 = .ok (.aload_n 0, 1) := by decide +kernel
theorem dX8_area_36 : decode cX8_area 36 = .ok (.getfield 101, 3) := by decide +kernel
theorem dX8_area_39 : decode cX8_area 39 = .ok (.bipush 6, 2) := by decide +kernel
theorem dX8_area_41 : decode cX8_area 41 = .ok (.iload_n 1, 1) := by decide +kernel
theorem dX8_area_42 : decode cX8_area 42 = .ok (.imul, 1) := by decide +kernel
theorem dX8_area_43 : decode cX8_area 43 = .ok (.iload_n 2, 1) := by decide +kernel
theorem dX8_area_44 : decode cX8_area 44 = .ok (.iadd, 1) := by decide +kernel
theorem dX8_area_45 : decode cX8_area 45 = .ok (.iaload, 1) := by decide +kernel
theorem dX8_area_46 : decode cX8_area 46 = .ok (.ireturn, 1) := by decide +kernel
theorem dX8_shares_0 : decode cX8_shares 0 = .ok (.iconst 0, 1) := by decide +kernel
theorem dX8_shares_1 : decode cX8_shares 1 = .ok (.istore_n 3, 1) := by decide +kernel
theorem dX8_shares_2 : decode cX8_shares 2 = .ok (.iconst 0, 1) := by decide +kernel
theorem dX8_shares_3 : decode cX8_shares 3 = .ok (.istore 4, 2) := by decide +kernel
theorem dX8_shares_5 : decode cX8_shares 5 = .ok (.iload 4, 2) := by decide +kernel
theorem dX8_shares_7 : decode cX8_shares 7 = .ok (.bipush 6, 2) := by decide +kernel
theorem dX8_shares_9 : decode cX8_shares 9 = .ok (.if_icmp .ge 24, 3) := by decide +kernel
theorem dX8_shares_12 : decode cX8_shares 12 = .ok (.iload_n 3, 1) := by decide +kernel
theorem dX8_shares_13 : decode cX8_shares 13 = .ok (.aload_n 0, 1) := by decide +kernel
theorem dX8_shares_14 : decode cX8_shares 14 = .ok (.getfield 101, 3) := by decide +kernel
theorem dX8_shares_17 : decode cX8_shares 17 = .ok (.bipush 6, 2) := by decide +kernel
theorem dX8_shares_19 : decode cX8_shares 19 = .ok (.iload_n 1, 1) := by decide +kernel
theorem dX8_shares_20 : decode cX8_shares 20 = .ok (.imul, 1) := by decide +kernel
theorem dX8_shares_21 : decode cX8_shares 21 = .ok (.iload 4, 2) := by decide +kernel
theorem dX8_shares_23 : decode cX8_shares 23 = .ok (.iadd, 1) := by decide +kernel
theorem dX8_shares_24 : decode cX8_shares 24 = .ok (.iaload, 1) := by decide +kernel
theorem dX8_shares_25 : decode cX8_shares 25 = .ok (.iadd, 1) := by decide +kernel
theorem dX8_shares_26 : decode cX8_shares 26 = .ok (.istore_n 3, 1) := by decide +kernel
theorem dX8_shares_27 : decode cX8_shares 27 = .ok (.iinc 4 1, 3) := by decide +kernel
theorem dX8_shares_30 : decode cX8_shares 30 = .ok (.goto (-25), 3) := by decide +kernel
theorem dX8_shares_33 : decode cX8_shares 33 = .ok (.iload_n 2, 1) := by decide +kernel
theorem dX8_shares_34 : decode cX8_shares 34 = .ok (.istore 4, 2) := by decide +kernel
theorem dX8_shares_36 : decode cX8_shares 36 = .ok (.iconst 0, 1) := by decide +kernel
theorem dX8_shares_37 : decode cX8_shares 37 = .ok (.istore 5, 2) := by decide +kernel
theorem dX8_shares_39 : decode cX8_shares 39 = .ok (.iload 5, 2) := by decide +kernel
theorem dX8_shares_41 : decode cX8_shares 41 = .ok (.bipush 6, 2) := by decide +kernel
theorem dX8_shares_43 : decode cX8_shares 43 = .ok (.if_icmp .ge 46, 3) := by decide +kernel
theorem dX8_shares_46 : decode cX8_shares 46 = .ok (.iload_n 2, 1) := by decide +kernel
theorem dX8_shares_47 : decode cX8_shares 47 = .ok (.aload_n 0, 1) := by decide +kernel
theorem dX8_shares_48 : decode cX8_shares 48 = .ok (.getfield 101, 3) := by decide +kernel
theorem dX8_shares_51 : decode cX8_shares 51 = .ok (.bipush 6, 2) := by decide +kernel
theorem dX8_shares_53 : decode cX8_shares 53 = .ok (.iload_n 1, 1) := by decide +kernel
theorem dX8_shares_54 : decode cX8_shares 54 = .ok (.imul, 1) := by decide +kernel
theorem dX8_shares_55 : decode cX8_shares 55 = .ok (.iload 5, 2) := by decide +kernel
theorem dX8_shares_57 : decode cX8_shares 57 = .ok (.iadd, 1) := by decide +kernel
theorem dX8_shares_58 : decode cX8_shares 58 = .ok (.iaload, 1) := by decide +kernel
theorem dX8_shares_59 : decode cX8_shares 59 = .ok (.imul, 1) := by decide +kernel
theorem dX8_shares_60 : decode cX8_shares 60 = .ok (.iload_n 3, 1) := by decide +kernel
theorem dX8_shares_61 : decode cX8_shares 61 = .ok (.idiv, 1) := by decide +kernel
theorem dX8_shares_62 : decode cX8_shares 62 = .ok (.istore 6, 2) := by decide +kernel
theorem dX8_shares_64 : decode cX8_shares 64 = .ok (.aload_n 0, 1) := by decide +kernel
theorem dX8_shares_65 : decode cX8_shares 65 = .ok (.getfield 134, 3) := by decide +kernel
theorem dX8_shares_68 : decode cX8_shares 68 = .ok (.iload 5, 2) := by decide +kernel
theorem dX8_shares_70 : decode cX8_shares 70 = .ok (.dup2, 1) := by decide +kernel
theorem dX8_shares_71 : decode cX8_shares 71 = .ok (.iaload, 1) := by decide +kernel
theorem dX8_shares_72 : decode cX8_shares 72 = .ok (.iload 6, 2) := by decide +kernel
theorem dX8_shares_74 : decode cX8_shares 74 = .ok (.iadd, 1) := by decide +kernel
theorem dX8_shares_75 : decode cX8_shares 75 = .ok (.iastore, 1) := by decide +kernel
theorem dX8_shares_76 : decode cX8_shares 76 = .ok (.iload 4, 2) := by decide +kernel
theorem dX8_shares_78 : decode cX8_shares 78 = .ok (.iload 6, 2) := by decide +kernel
theorem dX8_shares_80 : decode cX8_shares 80 = .ok (.isub, 1) := by decide +kernel
theorem dX8_shares_81 : decode cX8_shares 81 = .ok (.istore 4, 2) := by decide +kernel
theorem dX8_shares_83 : decode cX8_shares 83 = .ok (.iinc 5 1, 3) := by decide +kernel
theorem dX8_shares_86 : decode cX8_shares 86 = .ok (.goto (-47), 3) := by decide +kernel
theorem dX8_shares_89 : decode cX8_shares 89 = .ok (.aload_n 0, 1) := by decide +kernel
theorem dX8_shares_90 : decode cX8_shares 90 = .ok (.getfield 134, 3) := by decide +kernel
theorem dX8_shares_93 : decode cX8_shares 93 = .ok (.aload_n 0, 1) := by decide +kernel
theorem dX8_shares_94 : decode cX8_shares 94 = .ok (.getfield 74, 3) := by decide +kernel
theorem dX8_shares_97 : decode cX8_shares 97 = .ok (.iload_n 1, 1) := by decide +kernel
theorem dX8_shares_98 : decode cX8_shares 98 = .ok (.iaload, 1) := by decide +kernel
theorem dX8_shares_99 : decode cX8_shares 99 = .ok (.dup2, 1) := by decide +kernel
theorem dX8_shares_100 : decode cX8_shares 100 = .ok (.iaload, 1) := by decide +kernel
theorem dX8_shares_101 : decode cX8_shares 101 = .ok (.iload 4, 2) := by decide +kernel
theorem dX8_shares_103 : decode cX8_shares 103 = .ok (.iadd, 1) := by decide +kernel
theorem dX8_shares_104 : decode cX8_shares 104 = .ok (.iastore, 1) := by decide +kernel
theorem dX8_shares_105 : decode cX8_shares 105 = .ok (.return_, 1) := by decide +kernel
theorem dX8_sells_0 : decode cX8_sells 0 = .ok (.aload_n 0, 1) := by decide +kernel
theorem dX8_sells_1 : decode cX8_sells 1 = .ok (.getfield 122, 3) := by decide +kernel
theorem dX8_sells_4 : decode cX8_sells 4 = .ok (.iload_n 1, 1) := by decide +kernel
theorem dX8_sells_5 : decode cX8_sells 5 = .ok (.iconst 1, 1) := by decide +kernel
theorem dX8_sells_6 : decode cX8_sells 6 = .ok (.iastore, 1) := by decide +kernel
theorem dX8_sells_7 : decode cX8_sells 7 = .ok (.aload_n 0, 1) := by decide +kernel
theorem dX8_sells_8 : decode cX8_sells 8 = .ok (.getfield 125, 3) := by decide +kernel
theorem dX8_sells_11 : decode cX8_sells 11 = .ok (.iload_n 1, 1) := by decide +kernel
theorem dX8_sells_12 : decode cX8_sells 12 = .ok (.iload_n 2, 1) := by decide +kernel
theorem dX8_sells_13 : decode cX8_sells 13 = .ok (.iastore, 1) := by decide +kernel
theorem dX8_sells_14 : decode cX8_sells 14 = .ok (.aload_n 0, 1) := by decide +kernel
theorem dX8_sells_15 : decode cX8_sells 15 = .ok (.getfield 128, 3) := by decide +kernel
theorem dX8_sells_18 : decode cX8_sells 18 = .ok (.iload_n 1, 1) := by decide +kernel
theorem dX8_sells_19 : decode cX8_sells 19 = .ok (.iload_n 3, 1) := by decide +kernel
theorem dX8_sells_20 : decode cX8_sells 20 = .ok (.iastore, 1) := by decide +kernel
theorem dX8_sells_21 : decode cX8_sells 21 = .ok (.aload_n 0, 1) := by decide +kernel
theorem dX8_sells_22 : decode cX8_sells 22 = .ok (.getfield 137, 3) := by decide +kernel
theorem dX8_sells_25 : decode cX8_sells 25 = .ok (.iload_n 2, 1) := by decide +kernel
theorem dX8_sells_26 : decode cX8_sells 26 = .ok (.dup2, 1) := by decide +kernel
theorem dX8_sells_27 : decode cX8_sells 27 = .ok (.iaload, 1) := by decide +kernel
theorem dX8_sells_28 : decode cX8_sells 28 = .ok (.iload_n 3, 1) := by decide +kernel
theorem dX8_sells_29 : decode cX8_sells 29 = .ok (.isub, 1) := by decide +kernel
theorem dX8_sells_30 : decode cX8_sells 30 = .ok (.iastore, 1) := by decide +kernel
theorem dX8_sells_31 : decode cX8_sells 31 = .ok (.return_, 1) := by decide +kernel
theorem dX8_sell_0 : decode cX8_sell 0 = .ok (.aload_n 0, 1) := by decide +kernel
theorem dX8_sell_1 : decode cX8_sell 1 = .ok (.aload_n 0, 1) := by decide +kernel
theorem dX8_sell_2 : decode cX8_sell 2 = .ok (.iload_n 1, 1) := by decide +kernel
theorem dX8_sell_3 : decode cX8_sell 3 = .ok (.invokevirtual 157, 3) := by decide +kernel
theorem dX8_sell_6 : decode cX8_sell 6 = .ok (.ifCond .eq 14, 3) := by decide +kernel
theorem dX8_sell_9 : decode cX8_sell 9 = .ok (.iload_n 2, 1) := by decide +kernel
theorem dX8_sell_10 : decode cX8_sell 10 = .ok (.invokestatic 242, 3) := by decide +kernel
theorem dX8_sell_13 : decode cX8_sell 13 = .ok (.ifCond .eq 7, 3) := by decide +kernel
theorem dX8_sell_16 : decode cX8_sell 16 = .ok (.iconst 0, 1) := by decide +kernel
theorem dX8_sell_17 : decode cX8_sell 17 = .ok (.goto 4, 3) := by decide +kernel
theorem dX8_sell_20 : decode cX8_sell 20 = .ok (.iconst 1, 1) := by decide +kernel
theorem dX8_sell_21 : decode cX8_sell 21 = .ok (.putfield 140, 3) := by decide +kernel
theorem dX8_sell_24 : decode cX8_sell 24 = .ok (.aload_n 0, 1) := by decide +kernel
theorem dX8_sell_25 : decode cX8_sell 25 = .ok (.getfield 140, 3) := by decide +kernel
theorem dX8_sell_28 : decode cX8_sell 28 = .ok (.ifCond .le 5, 3) := by decide +kernel
theorem dX8_sell_31 : decode cX8_sell 31 = .ok (.iconst 0, 1) := by decide +kernel
theorem dX8_sell_32 : decode cX8_sell 32 = .ok (.ireturn, 1) := by decide +kernel
theorem dX8_sell_33 : decode cX8_sell 33 = .ok (.iconst 0, 1) := by decide +kernel
theorem dX8_sell_34 : decode cX8_sell 34 = .ok (.istore_n 3, 1) := by decide +kernel
theorem dX8_sell_35 : decode cX8_sell 35 = .ok (.iload_n 3, 1) := by decide +kernel
theorem dX8_sell_36 : decode cX8_sell 36 = .ok (.aload_n 0, 1) := by decide +kernel
theorem dX8_sell_37 : decode cX8_sell 37 = .ok (.getfield 89, 3) := by decide +kernel
theorem dX8_sell_40 : decode cX8_sell 40 = .ok (.iload_n 1, 1) := by decide +kernel
theorem dX8_sell_41 : decode cX8_sell 41 = .ok (.iaload, 1) := by decide +kernel
theorem dX8_sell_42 : decode cX8_sell 42 = .ok (.if_icmp .ge 23, 3) := by decide +kernel
theorem dX8_sell_45 : decode cX8_sell 45 = .ok (.aload_n 0, 1) := by decide +kernel
theorem dX8_sell_46 : decode cX8_sell 46 = .ok (.getfield 122, 3) := by decide +kernel
theorem dX8_sell_49 : decode cX8_sell 49 = .ok (.bipush 20, 2) := by decide +kernel
theorem dX8_sell_51 : decode cX8_sell 51 = .ok (.iload_n 1, 1) := by decide +kernel
theorem dX8_sell_52 : decode cX8_sell 52 = .ok (.imul, 1) := by decide +kernel
theorem dX8_sell_53 : decode cX8_sell 53 = .ok (.iload_n 3, 1) := by decide +kernel
theorem dX8_sell_54 : decode cX8_sell 54 = .ok (.iadd, 1) := by decide +kernel
theorem dX8_sell_55 : decode cX8_sell 55 = .ok (.iaload, 1) := by decide +kernel
theorem dX8_sell_56 : decode cX8_sell 56 = .ok (.ifCond .eq 9, 3) := by decide +kernel
theorem dX8_sell_59 : decode cX8_sell 59 = .ok (.iinc 3 1, 3) := by decide +kernel
theorem dX8_sell_62 : decode cX8_sell 62 = .ok (.goto (-27), 3) := by decide +kernel
theorem dX8_sell_65 : decode cX8_sell 65 = .ok (.aload_n 0, 1) := by decide +kernel
theorem dX8_sell_66 : decode cX8_sell 66 = .ok (.aload_n 0, 1) := by decide +kernel
theorem dX8_sell_67 : decode cX8_sell 67 = .ok (.getfield 95, 3) := by decide +kernel
theorem dX8_sell_70 : decode cX8_sell 70 = .ok (.iload_n 1, 1) := by decide +kernel
theorem dX8_sell_71 : decode cX8_sell 71 = .ok (.baload, 1) := by decide +kernel
theorem dX8_sell_72 : decode cX8_sell 72 = .ok (.ifCond .ne 13, 3) := by decide +kernel
theorem dX8_sell_75 : decode cX8_sell 75 = .ok (.iload_n 3, 1) := by decide +kernel
theorem dX8_sell_76 : decode cX8_sell 76 = .ok (.aload_n 0, 1) := by decide +kernel
theorem dX8_sell_77 : decode cX8_sell 77 = .ok (.getfield 89, 3) := by decide +kernel
theorem dX8_sell_80 : decode cX8_sell 80 = .ok (.iload_n 1, 1) := by decide +kernel
theorem dX8_sell_81 : decode cX8_sell 81 = .ok (.iaload, 1) := by decide +kernel
theorem dX8_sell_82 : decode cX8_sell 82 = .ok (.if_icmp .ne 7, 3) := by decide +kernel
theorem dX8_sell_85 : decode cX8_sell 85 = .ok (.iconst 2, 1) := by decide +kernel
theorem dX8_sell_86 : decode cX8_sell 86 = .ok (.goto 4, 3) := by decide +kernel
theorem dX8_sell_89 : decode cX8_sell 89 = .ok (.iconst 0, 1) := by decide +kernel
theorem dX8_sell_90 : decode cX8_sell 90 = .ok (.putfield 140, 3) := by decide +kernel
theorem dX8_sell_93 : decode cX8_sell 93 = .ok (.aload_n 0, 1) := by decide +kernel
theorem dX8_sell_94 : decode cX8_sell 94 = .ok (.getfield 140, 3) := by decide +kernel
theorem dX8_sell_97 : decode cX8_sell 97 = .ok (.ifCond .le 5, 3) := by decide +kernel
theorem dX8_sell_100 : decode cX8_sell 100 = .ok (.iconst 0, 1) := by decide +kernel
theorem dX8_sell_101 : decode cX8_sell 101 = .ok (.ireturn, 1) := by decide +kernel
theorem dX8_sell_102 : decode cX8_sell 102 = .ok (.aload_n 0, 1) := by decide +kernel
theorem dX8_sell_103 : decode cX8_sell 103 = .ok (.getfield 98, 3) := by decide +kernel
theorem dX8_sell_106 : decode cX8_sell 106 = .ok (.iload_n 1, 1) := by decide +kernel
theorem dX8_sell_107 : decode cX8_sell 107 = .ok (.iconst 1, 1) := by decide +kernel
theorem dX8_sell_108 : decode cX8_sell 108 = .ok (.bastore, 1) := by decide +kernel
theorem dX8_sell_109 : decode cX8_sell 109 = .ok (.aload_n 0, 1) := by decide +kernel
theorem dX8_sell_110 : decode cX8_sell 110 = .ok (.bipush 20, 2) := by decide +kernel
theorem dX8_sell_112 : decode cX8_sell 112 = .ok (.iload_n 1, 1) := by decide +kernel
theorem dX8_sell_113 : decode cX8_sell 113 = .ok (.imul, 1) := by decide +kernel
theorem dX8_sell_114 : decode cX8_sell 114 = .ok (.iload_n 3, 1) := by decide +kernel
theorem dX8_sell_115 : decode cX8_sell 115 = .ok (.iadd, 1) := by decide +kernel
theorem dX8_sell_116 : decode cX8_sell 116 = .ok (.iload_n 2, 1) := by decide +kernel
theorem dX8_sell_117 : decode cX8_sell 117 = .ok (.aload_n 0, 1) := by decide +kernel
theorem dX8_sell_118 : decode cX8_sell 118 = .ok (.getfield 92, 3) := by decide +kernel
theorem dX8_sell_121 : decode cX8_sell 121 = .ok (.iload_n 1, 1) := by decide +kernel
theorem dX8_sell_122 : decode cX8_sell 122 = .ok (.iaload, 1) := by decide +kernel
theorem dX8_sell_123 : decode cX8_sell 123 = .ok (.invokevirtual 245, 3) := by decide +kernel
theorem dX8_sell_126 : decode cX8_sell 126 = .ok (.aload_n 0, 1) := by decide +kernel
theorem dX8_sell_127 : decode cX8_sell 127 = .ok (.dup, 1) := by decide +kernel
theorem dX8_sell_128 : decode cX8_sell 128 = .ok (.getfield 248, 3) := by decide +kernel
theorem dX8_sell_131 : decode cX8_sell 131 = .ok (.aload_n 0, 1) := by decide +kernel
theorem dX8_sell_132 : decode cX8_sell 132 = .ok (.getfield 92, 3) := by decide +kernel
theorem dX8_sell_135 : decode cX8_sell 135 = .ok (.iload_n 1, 1) := by decide +kernel
theorem dX8_sell_136 : decode cX8_sell 136 = .ok (.iaload, 1) := by decide +kernel
theorem dX8_sell_137 : decode cX8_sell 137 = .ok (.bipush 10, 2) := by decide +kernel
theorem dX8_sell_139 : decode cX8_sell 139 = .ok (.idiv, 1) := by decide +kernel
theorem dX8_sell_140 : decode cX8_sell 140 = .ok (.iadd, 1) := by decide +kernel
theorem dX8_sell_141 : decode cX8_sell 141 = .ok (.putfield 248, 3) := by decide +kernel
theorem dX8_sell_144 : decode cX8_sell 144 = .ok (.aload_n 0, 1) := by decide +kernel
theorem dX8_sell_145 : decode cX8_sell 145 = .ok (.iload_n 1, 1) := by decide +kernel
theorem dX8_sell_146 : decode cX8_sell 146 = .ok (.aload_n 0, 1) := by decide +kernel
theorem dX8_sell_147 : decode cX8_sell 147 = .ok (.getfield 92, 3) := by decide +kernel
theorem dX8_sell_150 : decode cX8_sell 150 = .ok (.iload_n 1, 1) := by decide +kernel
theorem dX8_sell_151 : decode cX8_sell 151 = .ok (.iaload, 1) := by decide +kernel
theorem dX8_sell_152 : decode cX8_sell 152 = .ok (.aload_n 0, 1) := by decide +kernel
theorem dX8_sell_153 : decode cX8_sell 153 = .ok (.getfield 92, 3) := by decide +kernel
theorem dX8_sell_156 : decode cX8_sell 156 = .ok (.iload_n 1, 1) := by decide +kernel
theorem dX8_sell_157 : decode cX8_sell 157 = .ok (.iaload, 1) := by decide +kernel
theorem dX8_sell_158 : decode cX8_sell 158 = .ok (.bipush 10, 2) := by decide +kernel
theorem dX8_sell_160 : decode cX8_sell 160 = .ok (.idiv, 1) := by decide +kernel
theorem dX8_sell_161 : decode cX8_sell 161 = .ok (.isub, 1) := by decide +kernel
theorem dX8_sell_162 : decode cX8_sell 162 = .ok (.invokevirtual 251, 3) := by decide +kernel
theorem dX8_sell_165 : decode cX8_sell 165 = .ok (.iload_n 3, 1) := by decide +kernel
theorem dX8_sell_166 : decode cX8_sell 166 = .ok (.ireturn, 1) := by decide +kernel
theorem dX8_resell_0 : decode cX8_resell 0 = .ok (.aload_n 0, 1) := by decide +kernel
theorem dX8_resell_1 : decode cX8_resell 1 = .ok (.aload_n 0, 1) := by decide +kernel
theorem dX8_resell_2 : decode cX8_resell 2 = .ok (.iload_n 1, 1) := by decide +kernel
theorem dX8_resell_3 : decode cX8_resell 3 = .ok (.iload_n 2, 1) := by decide +kernel
theorem dX8_resell_4 : decode cX8_resell 4 = .ok (.invokevirtual 254, 3) := by decide +kernel
theorem dX8_resell_7 : decode cX8_resell 7 = .ok (.ifCond .eq 10, 3) := by decide +kernel
theorem dX8_resell_10 : decode cX8_resell 10 = .ok (.iload_n 3, 1) := by decide +kernel
theorem dX8_resell_11 : decode cX8_resell 11 = .ok (.invokestatic 242, 3) := by decide +kernel
theorem dX8_resell_14 : decode cX8_resell 14 = .ok (.ifCond .ne 7, 3) := by decide +kernel
theorem dX8_resell_17 : decode cX8_resell 17 = .ok (.iconst 1, 1) := by decide +kernel
theorem dX8_resell_18 : decode cX8_resell 18 = .ok (.goto 19, 3) := by decide +kernel
theorem dX8_resell_21 : decode cX8_resell 21 = .ok (.iload 4, 2) := by decide +kernel
theorem dX8_resell_23 : decode cX8_resell 23 = .ok (.iconst 0, 1) := by decide +kernel
theorem dX8_resell_24 : decode cX8_resell 24 = .ok (.ldc 234, 2) := by decide +kernel
theorem dX8_resell_26 : decode cX8_resell 26 = .ok (.invokestatic 144, 3) := by decide +kernel
theorem dX8_resell_29 : decode cX8_resell 29 = .ok (.ifCond .eq 7, 3) := by decide +kernel
theorem dX8_resell_32 : decode cX8_resell 32 = .ok (.iconst 0, 1) := by decide +kernel
theorem dX8_resell_33 : decode cX8_resell 33 = .ok (.goto 4, 3) := by decide +kernel
theorem dX8_resell_36 : decode cX8_resell 36 = .ok (.iconst 2, 1) := by decide +kernel
theorem dX8_resell_37 : decode cX8_resell 37 = .ok (.putfield 140, 3) := by decide +kernel
theorem dX8_resell_40 : decode cX8_resell 40 = .ok (.aload_n 0, 1) := by decide +kernel
theorem dX8_resell_41 : decode cX8_resell 41 = .ok (.getfield 140, 3) := by decide +kernel
theorem dX8_resell_44 : decode cX8_resell 44 = .ok (.ifCond .le 5, 3) := by decide +kernel
theorem dX8_resell_47 : decode cX8_resell 47 = .ok (.iconst 0, 1) := by decide +kernel
theorem dX8_resell_48 : decode cX8_resell 48 = .ok (.ireturn, 1) := by decide +kernel
theorem dX8_resell_49 : decode cX8_resell 49 = .ok (.bipush 20, 2) := by decide +kernel
theorem dX8_resell_51 : decode cX8_resell 51 = .ok (.iload_n 1, 1) := by decide +kernel
theorem dX8_resell_52 : decode cX8_resell 52 = .ok (.imul, 1) := by decide +kernel
theorem dX8_resell_53 : decode cX8_resell 53 = .ok (.iload_n 2, 1) := by decide +kernel
theorem dX8_resell_54 : decode cX8_resell 54 = .ok (.iadd, 1) := by decide +kernel
theorem dX8_resell_55 : decode cX8_resell 55 = .ok (.istore 5, 2) := by decide +kernel
theorem dX8_resell_57 : decode cX8_resell 57 = .ok (.aload_n 0, 1) := by decide +kernel
theorem dX8_resell_58 : decode cX8_resell 58 = .ok (.aload_n 0, 1) := by decide +kernel
theorem dX8_resell_59 : decode cX8_resell 59 = .ok (.getfield 122, 3) := by decide +kernel
theorem dX8_resell_62 : decode cX8_resell 62 = .ok (.iload 5, 2) := by decide +kernel
theorem dX8_resell_64 : decode cX8_resell 64 = .ok (.iaload, 1) := by decide +kernel
theorem dX8_resell_65 : decode cX8_resell 65 = .ok (.iconst 1, 1) := by decide +kernel
theorem dX8_resell_66 : decode cX8_resell 66 = .ok (.if_icmp .ne 14, 3) := by decide +kernel
theorem dX8_resell_69 : decode cX8_resell 69 = .ok (.aload_n 0, 1) := by decide +kernel
theorem dX8_resell_70 : decode cX8_resell 70 = .ok (.getfield 125, 3) := by decide +kernel
theorem dX8_resell_73 : decode cX8_resell 73 = .ok (.iload 5, 2) := by decide +kernel
theorem dX8_resell_75 : decode cX8_resell 75 = .ok (.iaload, 1) := by decide +kernel
theorem dX8_resell_76 : decode cX8_resell 76 = .ok (.iload_n 3, 1) := by decide +kernel
theorem dX8_resell_77 : decode cX8_resell 77 = .ok (.if_icmp .ne 7, 3) := by decide +kernel
theorem dX8_resell_80 : decode cX8_resell 80 = .ok (.iconst 3, 1) := by decide +kernel
theorem dX8_resell_81 : decode cX8_resell 81 = .ok (.goto 4, 3) := by decide +kernel
theorem dX8_resell_84 : decode cX8_resell 84 = .ok (.iconst 0, 1) := by decide +kernel
theorem dX8_resell_85 : decode cX8_resell 85 = .ok (.putfield 140, 3) := by decide +kernel
theorem dX8_resell_88 : decode cX8_resell 88 = .ok (.aload_n 0, 1) := by decide +kernel
theorem dX8_resell_89 : decode cX8_resell 89 = .ok (.getfield 140, 3) := by decide +kernel
theorem dX8_resell_92 : decode cX8_resell 92 = .ok (.ifCond .le 5, 3) := by decide +kernel
theorem dX8_resell_95 : decode cX8_resell 95 = .ok (.iconst 0, 1) := by decide +kernel
theorem dX8_resell_96 : decode cX8_resell 96 = .ok (.ireturn, 1) := by decide +kernel
theorem dX8_resell_97 : decode cX8_resell 97 = .ok (.aload_n 0, 1) := by decide +kernel
theorem dX8_resell_98 : decode cX8_resell 98 = .ok (.getfield 137, 3) := by decide +kernel
theorem dX8_resell_101 : decode cX8_resell 101 = .ok (.aload_n 0, 1) := by decide +kernel
theorem dX8_resell_102 : decode cX8_resell 102 = .ok (.getfield 125, 3) := by decide +kernel
theorem dX8_resell_105 : decode cX8_resell 105 = .ok (.iload 5, 2) := by decide +kernel
theorem dX8_resell_107 : decode cX8_resell 107 = .ok (.iaload, 1) := by decide +kernel
theorem dX8_resell_108 : decode cX8_resell 108 = .ok (.dup2, 1) := by decide +kernel
theorem dX8_resell_109 : decode cX8_resell 109 = .ok (.iaload, 1) := by decide +kernel
theorem dX8_resell_110 : decode cX8_resell 110 = .ok (.iload 4, 2) := by decide +kernel
theorem dX8_resell_112 : decode cX8_resell 112 = .ok (.iload 4, 2) := by decide +kernel
theorem dX8_resell_114 : decode cX8_resell 114 = .ok (.iconst 5, 1) := by decide +kernel
theorem dX8_resell_115 : decode cX8_resell 115 = .ok (.idiv, 1) := by decide +kernel
theorem dX8_resell_116 : decode cX8_resell 116 = .ok (.isub, 1) := by decide +kernel
theorem dX8_resell_117 : decode cX8_resell 117 = .ok (.iadd, 1) := by decide +kernel
theorem dX8_resell_118 : decode cX8_resell 118 = .ok (.iastore, 1) := by decide +kernel
theorem dX8_resell_119 : decode cX8_resell 119 = .ok (.aload_n 0, 1) := by decide +kernel
theorem dX8_resell_120 : decode cX8_resell 120 = .ok (.iload 5, 2) := by decide +kernel
theorem dX8_resell_122 : decode cX8_resell 122 = .ok (.iload_n 3, 1) := by decide +kernel
theorem dX8_resell_123 : decode cX8_resell 123 = .ok (.iload 4, 2) := by decide +kernel
theorem dX8_resell_125 : decode cX8_resell 125 = .ok (.invokevirtual 245, 3) := by decide +kernel
theorem dX8_resell_128 : decode cX8_resell 128 = .ok (.aload_n 0, 1) := by decide +kernel
theorem dX8_resell_129 : decode cX8_resell 129 = .ok (.iload_n 1, 1) := by decide +kernel
theorem dX8_resell_130 : decode cX8_resell 130 = .ok (.iload 4, 2) := by decide +kernel
theorem dX8_resell_132 : decode cX8_resell 132 = .ok (.iconst 5, 1) := by decide +kernel
theorem dX8_resell_133 : decode cX8_resell 133 = .ok (.idiv, 1) := by decide +kernel
theorem dX8_resell_134 : decode cX8_resell 134 = .ok (.invokevirtual 251, 3) := by decide +kernel
theorem dX8_resell_137 : decode cX8_resell 137 = .ok (.iload 4, 2) := by decide +kernel
theorem dX8_resell_139 : decode cX8_resell 139 = .ok (.iconst 5, 1) := by decide +kernel
theorem dX8_resell_140 : decode cX8_resell 140 = .ok (.idiv, 1) := by decide +kernel
theorem dX8_resell_141 : decode cX8_resell 141 = .ok (.ireturn, 1) := by decide +kernel
theorem dX8_takeDown_0 : decode cX8_takeDown 0 = .ok (.aload_n 0, 1) := by decide +kernel
theorem dX8_takeDown_1 : decode cX8_takeDown 1 = .ok (.aload_n 0, 1) := by decide +kernel
theorem dX8_takeDown_2 : decode cX8_takeDown 2 = .ok (.iload_n 1, 1) := by decide +kernel
theorem dX8_takeDown_3 : decode cX8_takeDown 3 = .ok (.invokevirtual 203, 3) := by decide +kernel
theorem dX8_takeDown_6 : decode cX8_takeDown 6 = .ok (.ifCond .eq 7, 3) := by decide +kernel
theorem dX8_takeDown_9 : decode cX8_takeDown 9 = .ok (.iconst 0, 1) := by decide +kernel
theorem dX8_takeDown_10 : decode cX8_takeDown 10 = .ok (.goto 4, 3) := by decide +kernel
theorem dX8_takeDown_13 : decode cX8_takeDown 13 = .ok (.iconst 1, 1) := by decide +kernel
theorem dX8_takeDown_14 : decode cX8_takeDown 14 = .ok (.putfield 140, 3) := by decide +kernel
theorem dX8_takeDown_17 : decode cX8_takeDown 17 = .ok (.aload_n 0, 1) := by decide +kernel
theorem dX8_takeDown_18 : decode cX8_takeDown 18 = .ok (.getfield 140, 3) := by decide +kernel
theorem dX8_takeDown_21 : decode cX8_takeDown 21 = .ok (.ifCond .le 5, 3) := by decide +kernel
theorem dX8_takeDown_24 : decode cX8_takeDown 24 = .ok (.iconst 0, 1) := by decide +kernel
theorem dX8_takeDown_25 : decode cX8_takeDown 25 = .ok (.ireturn, 1) := by decide +kernel
theorem dX8_takeDown_26 : decode cX8_takeDown 26 = .ok (.aload_n 0, 1) := by decide +kernel
theorem dX8_takeDown_27 : decode cX8_takeDown 27 = .ok (.aload_n 0, 1) := by decide +kernel
theorem dX8_takeDown_28 : decode cX8_takeDown 28 = .ok (.getfield 53, 3) := by decide +kernel
theorem dX8_takeDown_31 : decode cX8_takeDown 31 = .ok (.iload_n 1, 1) := by decide +kernel
theorem dX8_takeDown_32 : decode cX8_takeDown 32 = .ok (.baload, 1) := by decide +kernel
theorem dX8_takeDown_33 : decode cX8_takeDown 33 = .ok (.ifCond .eq 7, 3) := by decide +kernel
theorem dX8_takeDown_36 : decode cX8_takeDown 36 = .ok (.iconst 2, 1) := by decide +kernel
theorem dX8_takeDown_37 : decode cX8_takeDown 37 = .ok (.goto 4, 3) := by decide +kernel
theorem dX8_takeDown_40 : decode cX8_takeDown 40 = .ok (.iconst 0, 1) := by decide +kernel
theorem dX8_takeDown_41 : decode cX8_takeDown 41 = .ok (.putfield 140, 3) := by decide +kernel
theorem dX8_takeDown_44 : decode cX8_takeDown 44 = .ok (.aload_n 0, 1) := by decide +kernel
theorem dX8_takeDown_45 : decode cX8_takeDown 45 = .ok (.getfield 140, 3) := by decide +kernel
theorem dX8_takeDown_48 : decode cX8_takeDown 48 = .ok (.ifCond .le 5, 3) := by decide +kernel
theorem dX8_takeDown_51 : decode cX8_takeDown 51 = .ok (.iconst 0, 1) := by decide +kernel
theorem dX8_takeDown_52 : decode cX8_takeDown 52 = .ok (.ireturn, 1) := by decide +kernel
theorem dX8_takeDown_53 : decode cX8_takeDown 53 = .ok (.iconst 0, 1) := by decide +kernel
theorem dX8_takeDown_54 : decode cX8_takeDown 54 = .ok (.istore_n 2, 1) := by decide +kernel
theorem dX8_takeDown_55 : decode cX8_takeDown 55 = .ok (.iconst 0, 1) := by decide +kernel
theorem dX8_takeDown_56 : decode cX8_takeDown 56 = .ok (.istore_n 3, 1) := by decide +kernel
theorem dX8_takeDown_57 : decode cX8_takeDown 57 = .ok (.iload_n 3, 1) := by decide +kernel
theorem dX8_takeDown_58 : decode cX8_takeDown 58 = .ok (.sipush 160, 3) := by decide +kernel
theorem dX8_takeDown_61 : decode cX8_takeDown 61 = .ok (.if_icmp .ge 64, 3) := by decide +kernel
theorem dX8_takeDown_64 : decode cX8_takeDown 64 = .ok (.iload_n 3, 1) := by decide +kernel
theorem dX8_takeDown_65 : decode cX8_takeDown 65 = .ok (.bipush 20, 2) := by decide +kernel
theorem dX8_takeDown_67 : decode cX8_takeDown 67 = .ok (.idiv, 1) := by decide +kernel
theorem dX8_takeDown_68 : decode cX8_takeDown 68 = .ok (.aload_n 0, 1) := by decide +kernel
theorem dX8_takeDown_69 : decode cX8_takeDown 69 = .ok (.getfield 154, 3) := by decide +kernel
theorem dX8_takeDown_72 : decode cX8_takeDown 72 = .ok (.if_icmp .ge 47, 3) := by decide +kernel
theorem dX8_takeDown_75 : decode cX8_takeDown 75 = .ok (.aload_n 0, 1) := by decide +kernel
theorem dX8_takeDown_76 : decode cX8_takeDown 76 = .ok (.getfield 122, 3) := by decide +kernel
theorem dX8_takeDown_79 : decode cX8_takeDown 79 = .ok (.iload_n 3, 1) := by decide +kernel
theorem dX8_takeDown_80 : decode cX8_takeDown 80 = .ok (.iaload, 1) := by decide +kernel
theorem dX8_takeDown_81 : decode cX8_takeDown 81 = .ok (.iconst 1, 1) := by decide +kernel
theorem dX8_takeDown_82 : decode cX8_takeDown 82 = .ok (.if_icmp .ne 37, 3) := by decide +kernel
theorem dX8_takeDown_85 : decode cX8_takeDown 85 = .ok (.aload_n 0, 1) := by decide +kernel
theorem dX8_takeDown_86 : decode cX8_takeDown 86 = .ok (.iload_n 3, 1) := by decide +kernel
theorem dX8_takeDown_87 : decode cX8_takeDown 87 = .ok (.bipush 20, 2) := by decide +kernel
theorem dX8_takeDown_89 : decode cX8_takeDown 89 = .ok (.idiv, 1) := by decide +kernel
theorem dX8_takeDown_90 : decode cX8_takeDown 90 = .ok (.iload_n 1, 1) := by decide +kernel
theorem dX8_takeDown_91 : decode cX8_takeDown 91 = .ok (.invokevirtual 230, 3) := by decide +kernel
theorem dX8_takeDown_94 : decode cX8_takeDown 94 = .ok (.ifCond .eq 25, 3) := by decide +kernel
theorem dX8_takeDown_97 : decode cX8_takeDown 97 = .ok (.aload_n 0, 1) := by decide +kernel
theorem dX8_takeDown_98 : decode cX8_takeDown 98 = .ok (.getfield 122, 3) := by decide +kernel
theorem dX8_takeDown_101 : decode cX8_takeDown 101 = .ok (.iload_n 3, 1) := by decide +kernel
theorem dX8_takeDown_102 : decode cX8_takeDown 102 = .ok (.iconst 2, 1) := by decide +kernel
theorem dX8_takeDown_103 : decode cX8_takeDown 103 = .ok (.iastore, 1) := by decide +kernel
theorem dX8_takeDown_104 : decode cX8_takeDown 104 = .ok (.aload_n 0, 1) := by decide +kernel
theorem dX8_takeDown_105 : decode cX8_takeDown 105 = .ok (.getfield 131, 3) := by decide +kernel
theorem dX8_takeDown_108 : decode cX8_takeDown 108 = .ok (.iload_n 3, 1) := by decide +kernel
theorem dX8_takeDown_109 : decode cX8_takeDown 109 = .ok (.aload_n 0, 1) := by decide +kernel
theorem dX8_takeDown_110 : decode cX8_takeDown 110 = .ok (.getfield 35, 3) := by decide +kernel
theorem dX8_takeDown_113 : decode cX8_takeDown 113 = .ok (.iload_n 1, 1) := by decide +kernel
theorem dX8_takeDown_114 : decode cX8_takeDown 114 = .ok (.iaload, 1) := by decide +kernel
theorem dX8_takeDown_115 : decode cX8_takeDown 115 = .ok (.iastore, 1) := by decide +kernel
theorem dX8_takeDown_116 : decode cX8_takeDown 116 = .ok (.iinc 2 1, 3) := by decide +kernel
theorem dX8_takeDown_119 : decode cX8_takeDown 119 = .ok (.iinc 3 1, 3) := by decide +kernel
theorem dX8_takeDown_122 : decode cX8_takeDown 122 = .ok (.goto (-65), 3) := by decide +kernel
theorem dX8_takeDown_125 : decode cX8_takeDown 125 = .ok (.aload_n 0, 1) := by decide +kernel
theorem dX8_takeDown_126 : decode cX8_takeDown 126 = .ok (.getfield 53, 3) := by decide +kernel
theorem dX8_takeDown_129 : decode cX8_takeDown 129 = .ok (.iload_n 1, 1) := by decide +kernel
theorem dX8_takeDown_130 : decode cX8_takeDown 130 = .ok (.iconst 1, 1) := by decide +kernel
theorem dX8_takeDown_131 : decode cX8_takeDown 131 = .ok (.bastore, 1) := by decide +kernel
theorem dX8_takeDown_132 : decode cX8_takeDown 132 = .ok (.iload_n 2, 1) := by decide +kernel
theorem dX8_takeDown_133 : decode cX8_takeDown 133 = .ok (.ireturn, 1) := by decide +kernel
theorem dX8_changed_0 : decode cX8_changed 0 = .ok (.aload_n 0, 1) := by decide +kernel
theorem dX8_changed_1 : decode cX8_changed 1 = .ok (.iload_n 1, 1) := by decide +kernel
theorem dX8_changed_2 : decode cX8_changed 2 = .ok (.iload_n 2, 1) := by decide +kernel
theorem dX8_changed_3 : decode cX8_changed 3 = .ok (.invokevirtual 254, 3) := by decide +kernel
theorem dX8_changed_6 : decode cX8_changed 6 = .ok (.ifCond .ne 5, 3) := by decide +kernel
theorem dX8_changed_9 : decode cX8_changed 9 = .ok (.iconst 1, 1) := by decide +kernel
theorem dX8_changed_10 : decode cX8_changed 10 = .ok (.ireturn, 1) := by decide +kernel
theorem dX8_changed_11 : decode cX8_changed 11 = .ok (.aload_n 0, 1) := by decide +kernel
theorem dX8_changed_12 : decode cX8_changed 12 = .ok (.getfield 122, 3) := by decide +kernel
theorem dX8_changed_15 : decode cX8_changed 15 = .ok (.bipush 20, 2) := by decide +kernel
theorem dX8_changed_17 : decode cX8_changed 17 = .ok (.iload_n 1, 1) := by decide +kernel
theorem dX8_changed_18 : decode cX8_changed 18 = .ok (.imul, 1) := by decide +kernel
theorem dX8_changed_19 : decode cX8_changed 19 = .ok (.iload_n 2, 1) := by decide +kernel
theorem dX8_changed_20 : decode cX8_changed 20 = .ok (.iadd, 1) := by decide +kernel
theorem dX8_changed_21 : decode cX8_changed 21 = .ok (.iaload, 1) := by decide +kernel
theorem dX8_changed_22 : decode cX8_changed 22 = .ok (.iconst 2, 1) := by decide +kernel
theorem dX8_changed_23 : decode cX8_changed 23 = .ok (.if_icmp .ne 7, 3) := by decide +kernel
theorem dX8_changed_26 : decode cX8_changed 26 = .ok (.iconst 0, 1) := by decide +kernel
theorem dX8_changed_27 : decode cX8_changed 27 = .ok (.goto 4, 3) := by decide +kernel
theorem dX8_changed_30 : decode cX8_changed 30 = .ok (.iconst 2, 1) := by decide +kernel
theorem dX8_changed_31 : decode cX8_changed 31 = .ok (.ireturn, 1) := by decide +kernel
theorem dX8_accept_0 : decode cX8_accept 0 = .ok (.aload_n 0, 1) := by decide +kernel
theorem dX8_accept_1 : decode cX8_accept 1 = .ok (.aload_n 0, 1) := by decide +kernel
theorem dX8_accept_2 : decode cX8_accept 2 = .ok (.iload_n 1, 1) := by decide +kernel
theorem dX8_accept_3 : decode cX8_accept 3 = .ok (.iload_n 2, 1) := by decide +kernel
theorem dX8_accept_4 : decode cX8_accept 4 = .ok (.invokevirtual 257, 3) := by decide +kernel
theorem dX8_accept_7 : decode cX8_accept 7 = .ok (.putfield 140, 3) := by decide +kernel
theorem dX8_accept_10 : decode cX8_accept 10 = .ok (.aload_n 0, 1) := by decide +kernel
theorem dX8_accept_11 : decode cX8_accept 11 = .ok (.getfield 140, 3) := by decide +kernel
theorem dX8_accept_14 : decode cX8_accept 14 = .ok (.ifCond .le 5, 3) := by decide +kernel
theorem dX8_accept_17 : decode cX8_accept 17 = .ok (.iconst 0, 1) := by decide +kernel
theorem dX8_accept_18 : decode cX8_accept 18 = .ok (.ireturn, 1) := by decide +kernel
theorem dX8_accept_19 : decode cX8_accept 19 = .ok (.aload_n 0, 1) := by decide +kernel
theorem dX8_accept_20 : decode cX8_accept 20 = .ok (.getfield 122, 3) := by decide +kernel
theorem dX8_accept_23 : decode cX8_accept 23 = .ok (.bipush 20, 2) := by decide +kernel
theorem dX8_accept_25 : decode cX8_accept 25 = .ok (.iload_n 1, 1) := by decide +kernel
theorem dX8_accept_26 : decode cX8_accept 26 = .ok (.imul, 1) := by decide +kernel
theorem dX8_accept_27 : decode cX8_accept 27 = .ok (.iload_n 2, 1) := by decide +kernel
theorem dX8_accept_28 : decode cX8_accept 28 = .ok (.iadd, 1) := by decide +kernel
theorem dX8_accept_29 : decode cX8_accept 29 = .ok (.iconst 1, 1) := by decide +kernel
theorem dX8_accept_30 : decode cX8_accept 30 = .ok (.iastore, 1) := by decide +kernel
theorem dX8_accept_31 : decode cX8_accept 31 = .ok (.aload_n 0, 1) := by decide +kernel
theorem dX8_accept_32 : decode cX8_accept 32 = .ok (.getfield 125, 3) := by decide +kernel
theorem dX8_accept_35 : decode cX8_accept 35 = .ok (.bipush 20, 2) := by decide +kernel
theorem dX8_accept_37 : decode cX8_accept 37 = .ok (.iload_n 1, 1) := by decide +kernel
theorem dX8_accept_38 : decode cX8_accept 38 = .ok (.imul, 1) := by decide +kernel
theorem dX8_accept_39 : decode cX8_accept 39 = .ok (.iload_n 2, 1) := by decide +kernel
theorem dX8_accept_40 : decode cX8_accept 40 = .ok (.iadd, 1) := by decide +kernel
theorem dX8_accept_41 : decode cX8_accept 41 = .ok (.iaload, 1) := by decide +kernel
theorem dX8_accept_42 : decode cX8_accept 42 = .ok (.ireturn, 1) := by decide +kernel
theorem dX8_giveBack_0 : decode cX8_giveBack 0 = .ok (.aload_n 0, 1) := by decide +kernel
theorem dX8_giveBack_1 : decode cX8_giveBack 1 = .ok (.aload_n 0, 1) := by decide +kernel
theorem dX8_giveBack_2 : decode cX8_giveBack 2 = .ok (.iload_n 1, 1) := by decide +kernel
theorem dX8_giveBack_3 : decode cX8_giveBack 3 = .ok (.iload_n 2, 1) := by decide +kernel
theorem dX8_giveBack_4 : decode cX8_giveBack 4 = .ok (.invokevirtual 257, 3) := by decide +kernel
theorem dX8_giveBack_7 : decode cX8_giveBack 7 = .ok (.putfield 140, 3) := by decide +kernel
theorem dX8_giveBack_10 : decode cX8_giveBack 10 = .ok (.aload_n 0, 1) := by decide +kernel
theorem dX8_giveBack_11 : decode cX8_giveBack 11 = .ok (.getfield 140, 3) := by decide +kernel
theorem dX8_giveBack_14 : decode cX8_giveBack 14 = .ok (.ifCond .le 5, 3) := by decide +kernel
theorem dX8_giveBack_17 : decode cX8_giveBack 17 = .ok (.iconst 0, 1) := by decide +kernel
theorem dX8_giveBack_18 : decode cX8_giveBack 18 = .ok (.ireturn, 1) := by decide +kernel
theorem dX8_giveBack_19 : decode cX8_giveBack 19 = .ok (.bipush 20, 2) := by decide +kernel
theorem dX8_giveBack_21 : decode cX8_giveBack 21 = .ok (.iload_n 1, 1) := by decide +kernel
theorem dX8_giveBack_22 : decode cX8_giveBack 22 = .ok (.imul, 1) := by decide +kernel
theorem dX8_giveBack_23 : decode cX8_giveBack 23 = .ok (.iload_n 2, 1) := by decide +kernel
theorem dX8_giveBack_24 : decode cX8_giveBack 24 = .ok (.iadd, 1) := by decide +kernel
theorem dX8_giveBack_25 : decode cX8_giveBack 25 = .ok (.istore_n 3, 1) := by decide +kernel
theorem dX8_giveBack_26 : decode cX8_giveBack 26 = .ok (.aload_n 0, 1) := by decide +kernel
theorem dX8_giveBack_27 : decode cX8_giveBack 27 = .ok (.getfield 122, 3) := by decide +kernel
theorem dX8_giveBack_30 : decode cX8_giveBack 30 = .ok (.iload_n 3, 1) := by decide +kernel
theorem dX8_giveBack_31 : decode cX8_giveBack 31 = .ok (.iconst 3, 1) := by decide +kernel
theorem dX8_giveBack_32 : decode cX8_giveBack 32 = .ok (.iastore, 1) := by decide +kernel
theorem dX8_giveBack_33 : decode cX8_giveBack 33 = .ok (.aload_n 0, 1) := by decide +kernel
theorem dX8_giveBack_34 : decode cX8_giveBack 34 = .ok (.getfield 137, 3) := by decide +kernel
theorem dX8_giveBack_37 : decode cX8_giveBack 37 = .ok (.aload_n 0, 1) := by decide +kernel
theorem dX8_giveBack_38 : decode cX8_giveBack 38 = .ok (.getfield 125, 3) := by decide +kernel
theorem dX8_giveBack_41 : decode cX8_giveBack 41 = .ok (.iload_n 3, 1) := by decide +kernel
theorem dX8_giveBack_42 : decode cX8_giveBack 42 = .ok (.iaload, 1) := by decide +kernel
theorem dX8_giveBack_43 : decode cX8_giveBack 43 = .ok (.dup2, 1) := by decide +kernel
theorem dX8_giveBack_44 : decode cX8_giveBack 44 = .ok (.iaload, 1) := by decide +kernel
theorem dX8_giveBack_45 : decode cX8_giveBack 45 = .ok (.aload_n 0, 1) := by decide +kernel
theorem dX8_giveBack_46 : decode cX8_giveBack 46 = .ok (.getfield 128, 3) := by decide +kernel
theorem dX8_giveBack_49 : decode cX8_giveBack 49 = .ok (.iload_n 3, 1) := by decide +kernel
theorem dX8_giveBack_50 : decode cX8_giveBack 50 = .ok (.iaload, 1) := by decide +kernel
theorem dX8_giveBack_51 : decode cX8_giveBack 51 = .ok (.iadd, 1) := by decide +kernel
theorem dX8_giveBack_52 : decode cX8_giveBack 52 = .ok (.iastore, 1) := by decide +kernel
theorem dX8_giveBack_53 : decode cX8_giveBack 53 = .ok (.aload_n 0, 1) := by decide +kernel
theorem dX8_giveBack_54 : decode cX8_giveBack 54 = .ok (.getfield 134, 3) := by decide +kernel
theorem dX8_giveBack_57 : decode cX8_giveBack 57 = .ok (.aload_n 0, 1) := by decide +kernel
theorem dX8_giveBack_58 : decode cX8_giveBack 58 = .ok (.getfield 131, 3) := by decide +kernel
theorem dX8_giveBack_61 : decode cX8_giveBack 61 = .ok (.iload_n 3, 1) := by decide +kernel
theorem dX8_giveBack_62 : decode cX8_giveBack 62 = .ok (.iaload, 1) := by decide +kernel
theorem dX8_giveBack_63 : decode cX8_giveBack 63 = .ok (.dup2, 1) := by decide +kernel
theorem dX8_giveBack_64 : decode cX8_giveBack 64 = .ok (.iaload, 1) := by decide +kernel
theorem dX8_giveBack_65 : decode cX8_giveBack 65 = .ok (.aload_n 0, 1) := by decide +kernel
theorem dX8_giveBack_66 : decode cX8_giveBack 66 = .ok (.getfield 128, 3) := by decide +kernel
theorem dX8_giveBack_69 : decode cX8_giveBack 69 = .ok (.iload_n 3, 1) := by decide +kernel
theorem dX8_giveBack_70 : decode cX8_giveBack 70 = .ok (.iaload, 1) := by decide +kernel
theorem dX8_giveBack_71 : decode cX8_giveBack 71 = .ok (.isub, 1) := by decide +kernel
theorem dX8_giveBack_72 : decode cX8_giveBack 72 = .ok (.iastore, 1) := by decide +kernel
theorem dX8_giveBack_73 : decode cX8_giveBack 73 = .ok (.aload_n 0, 1) := by decide +kernel
theorem dX8_giveBack_74 : decode cX8_giveBack 74 = .ok (.getfield 128, 3) := by decide +kernel
theorem dX8_giveBack_77 : decode cX8_giveBack 77 = .ok (.iload_n 3, 1) := by decide +kernel
theorem dX8_giveBack_78 : decode cX8_giveBack 78 = .ok (.iaload, 1) := by decide +kernel
theorem dX8_giveBack_79 : decode cX8_giveBack 79 = .ok (.ireturn, 1) := by decide +kernel
theorem dX8_copyState_0 : decode cX8_copyState 0 = .ok (.aload_n 0, 1) := by decide +kernel
theorem dX8_copyState_1 : decode cX8_copyState 1 = .ok (.aload_n 0, 1) := by decide +kernel
theorem dX8_copyState_2 : decode cX8_copyState 2 = .ok (.iload_n 1, 1) := by decide +kernel
theorem dX8_copyState_3 : decode cX8_copyState 3 = .ok (.iload_n 2, 1) := by decide +kernel
theorem dX8_copyState_4 : decode cX8_copyState 4 = .ok (.invokevirtual 254, 3) := by decide +kernel
theorem dX8_copyState_7 : decode cX8_copyState 7 = .ok (.ifCond .eq 7, 3) := by decide +kernel
theorem dX8_copyState_10 : decode cX8_copyState 10 = .ok (.iconst 0, 1) := by decide +kernel
theorem dX8_copyState_11 : decode cX8_copyState 11 = .ok (.goto 4, 3) := by decide +kernel
theorem dX8_copyState_14 : decode cX8_copyState 14 = .ok (.iconst 1, 1) := by decide +kernel
theorem dX8_copyState_15 : decode cX8_copyState 15 = .ok (.putfield 140, 3) := by decide +kernel
theorem dX8_copyState_18 : decode cX8_copyState 18 = .ok (.aload_n 0, 1) := by decide +kernel
theorem dX8_copyState_19 : decode cX8_copyState 19 = .ok (.getfield 140, 3) := by decide +kernel
theorem dX8_copyState_22 : decode cX8_copyState 22 = .ok (.ifCond .le 7, 3) := by decide +kernel
theorem dX8_copyState_25 : decode cX8_copyState 25 = .ok (.iconst 0, 1) := by decide +kernel
theorem dX8_copyState_26 : decode cX8_copyState 26 = .ok (.goto 14, 3) := by decide +kernel
theorem dX8_copyState_29 : decode cX8_copyState 29 = .ok (.aload_n 0, 1) := by decide +kernel
theorem dX8_copyState_30 : decode cX8_copyState 30 = .ok (.getfield 122, 3) := by decide +kernel
theorem dX8_copyState_33 : decode cX8_copyState 33 = .ok (.bipush 20, 2) := by decide +kernel
theorem dX8_copyState_35 : decode cX8_copyState 35 = .ok (.iload_n 1, 1) := by decide +kernel
theorem dX8_copyState_36 : decode cX8_copyState 36 = .ok (.imul, 1) := by decide +kernel
theorem dX8_copyState_37 : decode cX8_copyState 37 = .ok (.iload_n 2, 1) := by decide +kernel
theorem dX8_copyState_38 : decode cX8_copyState 38 = .ok (.iadd, 1) := by decide +kernel
theorem dX8_copyState_39 : decode cX8_copyState 39 = .ok (.iaload, 1) := by decide +kernel
theorem dX8_copyState_40 : decode cX8_copyState 40 = .ok (.ireturn, 1) := by decide +kernel
theorem dX8_owner_0 : decode cX8_owner 0 = .ok (.aload_n 0, 1) := by decide +kernel
theorem dX8_owner_1 : decode cX8_owner 1 = .ok (.aload_n 0, 1) := by decide +kernel
theorem dX8_owner_2 : decode cX8_owner 2 = .ok (.iload_n 1, 1) := by decide +kernel
theorem dX8_owner_3 : decode cX8_owner 3 = .ok (.iload_n 2, 1) := by decide +kernel
theorem dX8_owner_4 : decode cX8_owner 4 = .ok (.invokevirtual 254, 3) := by decide +kernel
theorem dX8_owner_7 : decode cX8_owner 7 = .ok (.ifCond .eq 7, 3) := by decide +kernel
theorem dX8_owner_10 : decode cX8_owner 10 = .ok (.iconst 0, 1) := by decide +kernel
theorem dX8_owner_11 : decode cX8_owner 11 = .ok (.goto 4, 3) := by decide +kernel
theorem dX8_owner_14 : decode cX8_owner 14 = .ok (.iconst 1, 1) := by decide +kernel
theorem dX8_owner_15 : decode cX8_owner 15 = .ok (.putfield 140, 3) := by decide +kernel
theorem dX8_owner_18 : decode cX8_owner 18 = .ok (.aload_n 0, 1) := by decide +kernel
theorem dX8_owner_19 : decode cX8_owner 19 = .ok (.getfield 140, 3) := by decide +kernel
theorem dX8_owner_22 : decode cX8_owner 22 = .ok (.ifCond .le 5, 3) := by decide +kernel
theorem dX8_owner_25 : decode cX8_owner 25 = .ok (.iconst 0, 1) := by decide +kernel
theorem dX8_owner_26 : decode cX8_owner 26 = .ok (.ireturn, 1) := by decide +kernel
theorem dX8_owner_27 : decode cX8_owner 27 = .ok (.bipush 20, 2) := by decide +kernel
theorem dX8_owner_29 : decode cX8_owner 29 = .ok (.iload_n 1, 1) := by decide +kernel
theorem dX8_owner_30 : decode cX8_owner 30 = .ok (.imul, 1) := by decide +kernel
theorem dX8_owner_31 : decode cX8_owner 31 = .ok (.iload_n 2, 1) := by decide +kernel
theorem dX8_owner_32 : decode cX8_owner 32 = .ok (.iadd, 1) := by decide +kernel
theorem dX8_owner_33 : decode cX8_owner 33 = .ok (.istore_n 3, 1) := by decide +kernel
theorem dX8_owner_34 : decode cX8_owner 34 = .ok (.aload_n 0, 1) := by decide +kernel
theorem dX8_owner_35 : decode cX8_owner 35 = .ok (.getfield 122, 3) := by decide +kernel
theorem dX8_owner_38 : decode cX8_owner 38 = .ok (.iload_n 3, 1) := by decide +kernel
theorem dX8_owner_39 : decode cX8_owner 39 = .ok (.iaload, 1) := by decide +kernel
theorem dX8_owner_40 : decode cX8_owner 40 = .ok (.iconst 1, 1) := by decide +kernel
theorem dX8_owner_41 : decode cX8_owner 41 = .ok (.if_icmp .eq 13, 3) := by decide +kernel
theorem dX8_owner_44 : decode cX8_owner 44 = .ok (.aload_n 0, 1) := by decide +kernel
theorem dX8_owner_45 : decode cX8_owner 45 = .ok (.getfield 122, 3) := by decide +kernel
theorem dX8_owner_48 : decode cX8_owner 48 = .ok (.iload_n 3, 1) := by decide +kernel
theorem dX8_owner_49 : decode cX8_owner 49 = .ok (.iaload, 1) := by decide +kernel
theorem dX8_owner_50 : decode cX8_owner 50 = .ok (.iconst 2, 1) := by decide +kernel
theorem dX8_owner_51 : decode cX8_owner 51 = .ok (.if_icmp .ne 12, 3) := by decide +kernel
theorem dX8_owner_54 : decode cX8_owner 54 = .ok (.aload_n 0, 1) := by decide +kernel
theorem dX8_owner_55 : decode cX8_owner 55 = .ok (.getfield 125, 3) := by decide +kernel
theorem dX8_owner_58 : decode cX8_owner 58 = .ok (.iload_n 3, 1) := by decide +kernel
theorem dX8_owner_59 : decode cX8_owner 59 = .ok (.iaload, 1) := by decide +kernel
theorem dX8_owner_60 : decode cX8_owner 60 = .ok (.goto 4, 3) := by decide +kernel
theorem dX8_owner_63 : decode cX8_owner 63 = .ok (.iconst (-1), 1) := by decide +kernel
theorem dX8_owner_64 : decode cX8_owner 64 = .ok (.ireturn, 1) := by decide +kernel
theorem dX8_money_0 : decode cX8_money 0 = .ok (.aload_n 0, 1) := by decide +kernel
theorem dX8_money_1 : decode cX8_money 1 = .ok (.iload_n 1, 1) := by decide +kernel
theorem dX8_money_2 : decode cX8_money 2 = .ok (.invokestatic 196, 3) := by decide +kernel
theorem dX8_money_5 : decode cX8_money 5 = .ok (.ifCond .eq 7, 3) := by decide +kernel
theorem dX8_money_8 : decode cX8_money 8 = .ok (.iconst 0, 1) := by decide +kernel
theorem dX8_money_9 : decode cX8_money 9 = .ok (.goto 4, 3) := by decide +kernel
theorem dX8_money_12 : decode cX8_money 12 = .ok (.iconst 1, 1) := by decide +kernel
theorem dX8_money_13 : decode cX8_money 13 = .ok (.putfield 140, 3) := by decide +kernel
theorem dX8_money_16 : decode cX8_money 16 = .ok (.aload_n 0, 1) := by decide +kernel
theorem dX8_money_17 : decode cX8_money 17 = .ok (.getfield 140, 3) := by decide +kernel
theorem dX8_money_20 : decode cX8_money 20 = .ok (.ifCond .le 7, 3) := by decide +kernel
theorem dX8_money_23 : decode cX8_money 23 = .ok (.iconst 0, 1) := by decide +kernel
theorem dX8_money_24 : decode cX8_money 24 = .ok (.goto 9, 3) := by decide +kernel
theorem dX8_money_27 : decode cX8_money 27 = .ok (.aload_n 0, 1) := by decide +kernel
theorem dX8_money_28 : decode cX8_money 28 = .ok (.getfield 134, 3) := by decide +kernel
theorem dX8_money_31 : decode cX8_money 31 = .ok (.iload_n 1, 1) := by decide +kernel
theorem dX8_money_32 : decode cX8_money 32 = .ok (.iaload, 1) := by decide +kernel
theorem dX8_money_33 : decode cX8_money 33 = .ok (.ireturn, 1) := by decide +kernel
theorem dX8_moneyAnew_0 : decode cX8_moneyAnew 0 = .ok (.aload_n 0, 1) := by decide +kernel
theorem dX8_moneyAnew_1 : decode cX8_moneyAnew 1 = .ok (.iload_n 1, 1) := by decide +kernel
theorem dX8_moneyAnew_2 : decode cX8_moneyAnew 2 = .ok (.invokestatic 196, 3) := by decide +kernel
theorem dX8_moneyAnew_5 : decode cX8_moneyAnew 5 = .ok (.ifCond .eq 7, 3) := by decide +kernel
theorem dX8_moneyAnew_8 : decode cX8_moneyAnew 8 = .ok (.iconst 0, 1) := by decide +kernel
theorem dX8_moneyAnew_9 : decode cX8_moneyAnew 9 = .ok (.goto 4, 3) := by decide +kernel
theorem dX8_moneyAnew_12 : decode cX8_moneyAnew 12 = .ok (.iconst 1, 1) := by decide +kernel
theorem dX8_moneyAnew_13 : decode cX8_moneyAnew 13 = .ok (.putfield 140, 3) := by decide +kernel
theorem dX8_moneyAnew_16 : decode cX8_moneyAnew 16 = .ok (.aload_n 0, 1) := by decide +kernel
theorem dX8_moneyAnew_17 : decode cX8_moneyAnew 17 = .ok (.getfield 140, 3) := by decide +kernel
theorem dX8_moneyAnew_20 : decode cX8_moneyAnew 20 = .ok (.ifCond .le 7, 3) := by decide +kernel
theorem dX8_moneyAnew_23 : decode cX8_moneyAnew 23 = .ok (.iconst 0, 1) := by decide +kernel
theorem dX8_moneyAnew_24 : decode cX8_moneyAnew 24 = .ok (.goto 9, 3) := by decide +kernel
theorem dX8_moneyAnew_27 : decode cX8_moneyAnew 27 = .ok (.aload_n 0, 1) := by decide +kernel
theorem dX8_moneyAnew_28 : decode cX8_moneyAnew 28 = .ok (.getfield 134, 3) := by decide +kernel
theorem dX8_moneyAnew_31 : decode cX8_moneyAnew 31 = .ok (.iload_n 1, 1) := by decide +kernel
theorem dX8_moneyAnew_32 : decode cX8_moneyAnew 32 = .ok (.iaload, 1) := by decide +kernel
theorem dX8_moneyAnew_33 : decode cX8_moneyAnew 33 = .ok (.ireturn, 1) := by decide +kernel
theorem dX8_purse_0 : decode cX8_purse 0 = .ok (.aload_n 0, 1) := by decide +kernel
theorem dX8_purse_1 : decode cX8_purse 1 = .ok (.iload_n 1, 1) := by decide +kernel
theorem dX8_purse_2 : decode cX8_purse 2 = .ok (.invokestatic 242, 3) := by decide +kernel
theorem dX8_purse_5 : decode cX8_purse 5 = .ok (.ifCond .eq 7, 3) := by decide +kernel
theorem dX8_purse_8 : decode cX8_purse 8 = .ok (.iconst 0, 1) := by decide +kernel
theorem dX8_purse_9 : decode cX8_purse 9 = .ok (.goto 4, 3) := by decide +kernel
theorem dX8_purse_12 : decode cX8_purse 12 = .ok (.iconst 1, 1) := by decide +kernel
theorem dX8_purse_13 : decode cX8_purse 13 = .ok (.putfield 140, 3) := by decide +kernel
theorem dX8_purse_16 : decode cX8_purse 16 = .ok (.aload_n 0, 1) := by decide +kernel
theorem dX8_purse_17 : decode cX8_purse 17 = .ok (.getfield 140, 3) := by decide +kernel
theorem dX8_purse_20 : decode cX8_purse 20 = .ok (.ifCond .le 7, 3) := by decide +kernel
theorem dX8_purse_23 : decode cX8_purse 23 = .ok (.iconst 0, 1) := by decide +kernel
theorem dX8_purse_24 : decode cX8_purse 24 = .ok (.goto 9, 3) := by decide +kernel
theorem dX8_purse_27 : decode cX8_purse 27 = .ok (.aload_n 0, 1) := by decide +kernel
theorem dX8_purse_28 : decode cX8_purse 28 = .ok (.getfield 137, 3) := by decide +kernel
theorem dX8_purse_31 : decode cX8_purse 31 = .ok (.iload_n 1, 1) := by decide +kernel
theorem dX8_purse_32 : decode cX8_purse 32 = .ok (.iaload, 1) := by decide +kernel
theorem dX8_purse_33 : decode cX8_purse 33 = .ok (.ireturn, 1) := by decide +kernel
theorem dX8_house_0 : decode cX8_house 0 = .ok (.aload_n 0, 1) := by decide +kernel
theorem dX8_house_1 : decode cX8_house 1 = .ok (.iconst 0, 1) := by decide +kernel
theorem dX8_house_2 : decode cX8_house 2 = .ok (.putfield 140, 3) := by decide +kernel
theorem dX8_house_5 : decode cX8_house 5 = .ok (.aload_n 0, 1) := by decide +kernel
theorem dX8_house_6 : decode cX8_house 6 = .ok (.getfield 248, 3) := by decide +kernel
theorem dX8_house_9 : decode cX8_house 9 = .ok (.ireturn, 1) := by decide +kernel
end
section
theorem dL_add_0 : decode cL_add 0 = .ok (.aload 7, 2) := by decide +kernel
theorem dL_add_2 : decode cL_add 2 = .ok (.iconst 0, 1) := by decide +kernel
theorem dL_add_3 : decode cL_add 3 = .ok (.aload_n 0, 1) := by decide +kernel
theorem dL_add_4 : decode cL_add 4 = .ok (.iload_n 1, 1) := by decide +kernel
theorem dL_add_5 : decode cL_add 5 = .ok (.iload_n 2, 1) := by decide +kernel
theorem dL_add_6 : decode cL_add 6 = .ok (.iload_n 3, 1) := by decide +kernel
theorem dL_add_7 : decode cL_add 7 = .ok (.iload 4, 2) := by decide +kernel
theorem dL_add_9 : decode cL_add 9 = .ok (.iload 5, 2) := by decide +kernel
theorem dL_add_11 : decode cL_add 11 = .ok (.iload 6, 2) := by decide +kernel
theorem dL_add_13 : decode cL_add 13 = .ok (.invokevirtual 7, 3) := by decide +kernel
theorem dL_add_16 : decode cL_add 16 = .ok (.i2l, 1) := by decide +kernel
theorem dL_add_17 : decode cL_add 17 = .ok (.lastore, 1) := by decide +kernel
theorem dL_add_18 : decode cL_add 18 = .ok (.goto 15, 3) := by decide +kernel
theorem dL_add_21 : decode cL_add 21 = .ok (.astore 8, 2) := by decide +kernel
theorem dL_add_23 : decode cL_add 23 = .ok (.iconst 1, 1) := by decide +kernel
theorem dL_add_24 : decode cL_add 24 = .ok (.ireturn, 1) := by decide +kernel
theorem dL_add_25 : decode cL_add 25 = .ok (.astore 8, 2) := by decide +kernel
theorem dL_add_27 : decode cL_add 27 = .ok (.iconst 2, 1) := by decide +kernel
theorem dL_add_28 : decode cL_add 28 = .ok (.ireturn, 1) := by decide +kernel
theorem dL_add_29 : decode cL_add 29 = .ok (.astore 8, 2) := by decide +kernel
theorem dL_add_31 : decode cL_add 31 = .ok (.iconst 3, 1) := by decide +kernel
theorem dL_add_32 : decode cL_add 32 = .ok (.ireturn, 1) := by decide +kernel
theorem dL_add_33 : decode cL_add 33 = .ok (.iconst 0, 1) := by decide +kernel
theorem dL_add_34 : decode cL_add 34 = .ok (.ireturn, 1) := by decide +kernel
theorem dL_move_0 : decode cL_move 0 = .ok (.aload 5, 2) := by decide +kernel
theorem dL_move_2 : decode cL_move 2 = .ok (.iconst 0, 1) := by decide +kernel
theorem dL_move_3 : decode cL_move 3 = .ok (.aload_n 0, 1) := by decide +kernel
theorem dL_move_4 : decode cL_move 4 = .ok (.iload_n 1, 1) := by decide +kernel
theorem dL_move_5 : decode cL_move 5 = .ok (.iload_n 2, 1) := by decide +kernel
theorem dL_move_6 : decode cL_move 6 = .ok (.iload_n 3, 1) := by decide +kernel
theorem dL_move_7 : decode cL_move 7 = .ok (.iload 4, 2) := by decide +kernel
theorem dL_move_9 : decode cL_move 9 = .ok (.invokevirtual 19, 3) := by decide +kernel
theorem dL_move_12 : decode cL_move 12 = .ok (.i2l, 1) := by decide +kernel
theorem dL_move_13 : decode cL_move 13 = .ok (.lastore, 1) := by decide +kernel
theorem dL_move_14 : decode cL_move 14 = .ok (.goto 15, 3) := by decide +kernel
theorem dL_move_17 : decode cL_move 17 = .ok (.astore 6, 2) := by decide +kernel
theorem dL_move_19 : decode cL_move 19 = .ok (.iconst 1, 1) := by decide +kernel
theorem dL_move_20 : decode cL_move 20 = .ok (.ireturn, 1) := by decide +kernel
theorem dL_move_21 : decode cL_move 21 = .ok (.astore 6, 2) := by decide +kernel
theorem dL_move_23 : decode cL_move 23 = .ok (.iconst 2, 1) := by decide +kernel
theorem dL_move_24 : decode cL_move 24 = .ok (.ireturn, 1) := by decide +kernel
theorem dL_move_25 : decode cL_move 25 = .ok (.astore 6, 2) := by decide +kernel
theorem dL_move_27 : decode cL_move 27 = .ok (.iconst 3, 1) := by decide +kernel
theorem dL_move_28 : decode cL_move 28 = .ok (.ireturn, 1) := by decide +kernel
theorem dL_move_29 : decode cL_move 29 = .ok (.iconst 0, 1) := by decide +kernel
theorem dL_move_30 : decode cL_move 30 = .ok (.ireturn, 1) := by decide +kernel
theorem dL_paint_0 : decode cL_paint 0 = .ok (.aload 4, 2) := by decide +kernel
theorem dL_paint_2 : decode cL_paint 2 = .ok (.iconst 0, 1) := by decide +kernel
theorem dL_paint_3 : decode cL_paint 3 = .ok (.aload_n 0, 1) := by decide +kernel
theorem dL_paint_4 : decode cL_paint 4 = .ok (.iload_n 1, 1) := by decide +kernel
theorem dL_paint_5 : decode cL_paint 5 = .ok (.iload_n 2, 1) := by decide +kernel
theorem dL_paint_6 : decode cL_paint 6 = .ok (.iload_n 3, 1) := by decide +kernel
theorem dL_paint_7 : decode cL_paint 7 = .ok (.invokevirtual 23, 3) := by decide +kernel
theorem dL_paint_10 : decode cL_paint 10 = .ok (.i2l, 1) := by decide +kernel
theorem dL_paint_11 : decode cL_paint 11 = .ok (.lastore, 1) := by decide +kernel
theorem dL_paint_12 : decode cL_paint 12 = .ok (.goto 15, 3) := by decide +kernel
theorem dL_paint_15 : decode cL_paint 15 = .ok (.astore 5, 2) := by decide +kernel
theorem dL_paint_17 : decode cL_paint 17 = .ok (.iconst 1, 1) := by decide +kernel
theorem dL_paint_18 : decode cL_paint 18 = .ok (.ireturn, 1) := by decide +kernel
theorem dL_paint_19 : decode cL_paint 19 = .ok (.astore 5, 2) := by decide +kernel
theorem dL_paint_21 : decode cL_paint 21 = .ok (.iconst 2, 1) := by decide +kernel
theorem dL_paint_22 : decode cL_paint 22 = .ok (.ireturn, 1) := by decide +kernel
theorem dL_paint_23 : decode cL_paint 23 = .ok (.astore 5, 2) := by decide +kernel
theorem dL_paint_25 : decode cL_paint 25 = .ok (.iconst 3, 1) := by decide +kernel
theorem dL_paint_26 : decode cL_paint 26 = .ok (.ireturn, 1) := by decide +kernel
theorem dL_paint_27 : decode cL_paint 27 = .ok (.iconst 0, 1) := by decide +kernel
theorem dL_paint_28 : decode cL_paint 28 = .ok (.ireturn, 1) := by decide +kernel
theorem dL_layer_0 : decode cL_layer 0 = .ok (.aload 4, 2) := by decide +kernel
theorem dL_layer_2 : decode cL_layer 2 = .ok (.iconst 0, 1) := by decide +kernel
theorem dL_layer_3 : decode cL_layer 3 = .ok (.aload_n 0, 1) := by decide +kernel
theorem dL_layer_4 : decode cL_layer 4 = .ok (.iload_n 1, 1) := by decide +kernel
theorem dL_layer_5 : decode cL_layer 5 = .ok (.iload_n 2, 1) := by decide +kernel
theorem dL_layer_6 : decode cL_layer 6 = .ok (.iload_n 3, 1) := by decide +kernel
theorem dL_layer_7 : decode cL_layer 7 = .ok (.invokevirtual 27, 3) := by decide +kernel
theorem dL_layer_10 : decode cL_layer 10 = .ok (.i2l, 1) := by decide +kernel
theorem dL_layer_11 : decode cL_layer 11 = .ok (.lastore, 1) := by decide +kernel
theorem dL_layer_12 : decode cL_layer 12 = .ok (.goto 11, 3) := by decide +kernel
theorem dL_layer_15 : decode cL_layer 15 = .ok (.astore 5, 2) := by decide +kernel
theorem dL_layer_17 : decode cL_layer 17 = .ok (.iconst 1, 1) := by decide +kernel
theorem dL_layer_18 : decode cL_layer 18 = .ok (.ireturn, 1) := by decide +kernel
theorem dL_layer_19 : decode cL_layer 19 = .ok (.astore 5, 2) := by decide +kernel
theorem dL_layer_21 : decode cL_layer 21 = .ok (.iconst 2, 1) := by decide +kernel
theorem dL_layer_22 : decode cL_layer 22 = .ok (.ireturn, 1) := by decide +kernel
theorem dL_layer_23 : decode cL_layer 23 = .ok (.iconst 0, 1) := by decide +kernel
theorem dL_layer_24 : decode cL_layer 24 = .ok (.ireturn, 1) := by decide +kernel
theorem dL_join_0 : decode cL_join 0 = .ok (.aload 4, 2) := by decide +kernel
theorem dL_join_2 : decode cL_join 2 = .ok (.iconst 0, 1) := by decide +kernel
theorem dL_join_3 : decode cL_join 3 = .ok (.aload_n 0, 1) := by decide +kernel
theorem dL_join_4 : decode cL_join 4 = .ok (.iload_n 1, 1) := by decide +kernel
theorem dL_join_5 : decode cL_join 5 = .ok (.iload_n 2, 1) := by decide +kernel
theorem dL_join_6 : decode cL_join 6 = .ok (.iload_n 3, 1) := by decide +kernel
theorem dL_join_7 : decode cL_join 7 = .ok (.invokevirtual 31, 3) := by decide +kernel
theorem dL_join_10 : decode cL_join 10 = .ok (.i2l, 1) := by decide +kernel
theorem dL_join_11 : decode cL_join 11 = .ok (.lastore, 1) := by decide +kernel
theorem dL_join_12 : decode cL_join 12 = .ok (.goto 15, 3) := by decide +kernel
theorem dL_join_15 : decode cL_join 15 = .ok (.astore 5, 2) := by decide +kernel
theorem dL_join_17 : decode cL_join 17 = .ok (.iconst 1, 1) := by decide +kernel
theorem dL_join_18 : decode cL_join 18 = .ok (.ireturn, 1) := by decide +kernel
theorem dL_join_19 : decode cL_join 19 = .ok (.astore 5, 2) := by decide +kernel
theorem dL_join_21 : decode cL_join 21 = .ok (.iconst 2, 1) := by decide +kernel
theorem dL_join_22 : decode cL_join 22 = .ok (.ireturn, 1) := by decide +kernel
theorem dL_join_23 : decode cL_join 23 = .ok (.astore 5, 2) := by decide +kernel
theorem dL_join_25 : decode cL_join 25 = .ok (.iconst 3, 1) := by decide +kernel
theorem dL_join_26 : decode cL_join 26 = .ok (.ireturn, 1) := by decide +kernel
theorem dL_join_27 : decode cL_join 27 = .ok (.iconst 0, 1) := by decide +kernel
theorem dL_join_28 : decode cL_join 28 = .ok (.ireturn, 1) := by decide +kernel
theorem dL_part_0 : decode cL_part 0 = .ok (.aload_n 3, 1) := by decide +kernel
theorem dL_part_1 : decode cL_part 1 = .ok (.iconst 0, 1) := by decide +kernel
theorem dL_part_2 : decode cL_part 2 = .ok (.aload_n 0, 1) := by decide +kernel
theorem dL_part_3 : decode cL_part 3 = .ok (.iload_n 1, 1) := by decide +kernel
theorem dL_part_4 : decode cL_part 4 = .ok (.iload_n 2, 1) := by decide +kernel
theorem dL_part_5 : decode cL_part 5 = .ok (.invokevirtual 34, 3) := by decide +kernel
theorem dL_part_8 : decode cL_part 8 = .ok (.i2l, 1) := by decide +kernel
theorem dL_part_9 : decode cL_part 9 = .ok (.lastore, 1) := by decide +kernel
theorem dL_part_10 : decode cL_part 10 = .ok (.goto 11, 3) := by decide +kernel
theorem dL_part_13 : decode cL_part 13 = .ok (.astore 4, 2) := by decide +kernel
theorem dL_part_15 : decode cL_part 15 = .ok (.iconst 1, 1) := by decide +kernel
theorem dL_part_16 : decode cL_part 16 = .ok (.ireturn, 1) := by decide +kernel
theorem dL_part_17 : decode cL_part 17 = .ok (.astore 4, 2) := by decide +kernel
theorem dL_part_19 : decode cL_part 19 = .ok (.iconst 2, 1) := by decide +kernel
theorem dL_part_20 : decode cL_part 20 = .ok (.ireturn, 1) := by decide +kernel
theorem dL_part_21 : decode cL_part 21 = .ok (.iconst 0, 1) := by decide +kernel
theorem dL_part_22 : decode cL_part 22 = .ok (.ireturn, 1) := by decide +kernel
theorem dL_drop_0 : decode cL_drop 0 = .ok (.aload_n 3, 1) := by decide +kernel
theorem dL_drop_1 : decode cL_drop 1 = .ok (.iconst 0, 1) := by decide +kernel
theorem dL_drop_2 : decode cL_drop 2 = .ok (.aload_n 0, 1) := by decide +kernel
theorem dL_drop_3 : decode cL_drop 3 = .ok (.iload_n 1, 1) := by decide +kernel
theorem dL_drop_4 : decode cL_drop 4 = .ok (.iload_n 2, 1) := by decide +kernel
theorem dL_drop_5 : decode cL_drop 5 = .ok (.invokevirtual 38, 3) := by decide +kernel
theorem dL_drop_8 : decode cL_drop 8 = .ok (.i2l, 1) := by decide +kernel
theorem dL_drop_9 : decode cL_drop 9 = .ok (.lastore, 1) := by decide +kernel
theorem dL_drop_10 : decode cL_drop 10 = .ok (.goto 11, 3) := by decide +kernel
theorem dL_drop_13 : decode cL_drop 13 = .ok (.astore 4, 2) := by decide +kernel
theorem dL_drop_15 : decode cL_drop 15 = .ok (.iconst 1, 1) := by decide +kernel
theorem dL_drop_16 : decode cL_drop 16 = .ok (.ireturn, 1) := by decide +kernel
theorem dL_drop_17 : decode cL_drop 17 = .ok (.astore 4, 2) := by decide +kernel
theorem dL_drop_19 : decode cL_drop 19 = .ok (.iconst 2, 1) := by decide +kernel
theorem dL_drop_20 : decode cL_drop 20 = .ok (.ireturn, 1) := by decide +kernel
theorem dL_drop_21 : decode cL_drop 21 = .ok (.iconst 0, 1) := by decide +kernel
theorem dL_drop_22 : decode cL_drop 22 = .ok (.ireturn, 1) := by decide +kernel
theorem dL_undo_0 : decode cL_undo 0 = .ok (.aload_n 2, 1) := by decide +kernel
theorem dL_undo_1 : decode cL_undo 1 = .ok (.iconst 0, 1) := by decide +kernel
theorem dL_undo_2 : decode cL_undo 2 = .ok (.aload_n 0, 1) := by decide +kernel
theorem dL_undo_3 : decode cL_undo 3 = .ok (.iload_n 1, 1) := by decide +kernel
theorem dL_undo_4 : decode cL_undo 4 = .ok (.invokevirtual 41, 3) := by decide +kernel
theorem dL_undo_7 : decode cL_undo 7 = .ok (.i2l, 1) := by decide +kernel
theorem dL_undo_8 : decode cL_undo 8 = .ok (.lastore, 1) := by decide +kernel
theorem dL_undo_9 : decode cL_undo 9 = .ok (.goto 9, 3) := by decide +kernel
theorem dL_undo_12 : decode cL_undo 12 = .ok (.astore_n 3, 1) := by decide +kernel
theorem dL_undo_13 : decode cL_undo 13 = .ok (.iconst 1, 1) := by decide +kernel
theorem dL_undo_14 : decode cL_undo 14 = .ok (.ireturn, 1) := by decide +kernel
theorem dL_undo_15 : decode cL_undo 15 = .ok (.astore_n 3, 1) := by decide +kernel
theorem dL_undo_16 : decode cL_undo 16 = .ok (.iconst 2, 1) := by decide +kernel
theorem dL_undo_17 : decode cL_undo 17 = .ok (.ireturn, 1) := by decide +kernel
theorem dL_undo_18 : decode cL_undo 18 = .ok (.iconst 0, 1) := by decide +kernel
theorem dL_undo_19 : decode cL_undo 19 = .ok (.ireturn, 1) := by decide +kernel
theorem dL_redo_0 : decode cL_redo 0 = .ok (.aload_n 2, 1) := by decide +kernel
theorem dL_redo_1 : decode cL_redo 1 = .ok (.iconst 0, 1) := by decide +kernel
theorem dL_redo_2 : decode cL_redo 2 = .ok (.aload_n 0, 1) := by decide +kernel
theorem dL_redo_3 : decode cL_redo 3 = .ok (.iload_n 1, 1) := by decide +kernel
theorem dL_redo_4 : decode cL_redo 4 = .ok (.invokevirtual 45, 3) := by decide +kernel
theorem dL_redo_7 : decode cL_redo 7 = .ok (.i2l, 1) := by decide +kernel
theorem dL_redo_8 : decode cL_redo 8 = .ok (.lastore, 1) := by decide +kernel
theorem dL_redo_9 : decode cL_redo 9 = .ok (.goto 9, 3) := by decide +kernel
theorem dL_redo_12 : decode cL_redo 12 = .ok (.astore_n 3, 1) := by decide +kernel
theorem dL_redo_13 : decode cL_redo 13 = .ok (.iconst 1, 1) := by decide +kernel
theorem dL_redo_14 : decode cL_redo 14 = .ok (.ireturn, 1) := by decide +kernel
theorem dL_redo_15 : decode cL_redo 15 = .ok (.astore_n 3, 1) := by decide +kernel
theorem dL_redo_16 : decode cL_redo 16 = .ok (.iconst 2, 1) := by decide +kernel
theorem dL_redo_17 : decode cL_redo 17 = .ok (.ireturn, 1) := by decide +kernel
theorem dL_redo_18 : decode cL_redo 18 = .ok (.iconst 0, 1) := by decide +kernel
theorem dL_redo_19 : decode cL_redo 19 = .ok (.ireturn, 1) := by decide +kernel
theorem dL_isLive_0 : decode cL_isLive 0 = .ok (.aload_n 2, 1) := by decide +kernel
theorem dL_isLive_1 : decode cL_isLive 1 = .ok (.iconst 0, 1) := by decide +kernel
theorem dL_isLive_2 : decode cL_isLive 2 = .ok (.aload_n 0, 1) := by decide +kernel
theorem dL_isLive_3 : decode cL_isLive 3 = .ok (.iload_n 1, 1) := by decide +kernel
theorem dL_isLive_4 : decode cL_isLive 4 = .ok (.invokevirtual 48, 3) := by decide +kernel
theorem dL_isLive_7 : decode cL_isLive 7 = .ok (.ifCond .eq 7, 3) := by decide +kernel
theorem dL_isLive_10 : decode cL_isLive 10 = .ok (.lconst 1, 1) := by decide +kernel
theorem dL_isLive_11 : decode cL_isLive 11 = .ok (.goto 4, 3) := by decide +kernel
theorem dL_isLive_14 : decode cL_isLive 14 = .ok (.lconst 0, 1) := by decide +kernel
theorem dL_isLive_15 : decode cL_isLive 15 = .ok (.lastore, 1) := by decide +kernel
theorem dL_isLive_16 : decode cL_isLive 16 = .ok (.goto 6, 3) := by decide +kernel
theorem dL_isLive_19 : decode cL_isLive 19 = .ok (.astore_n 3, 1) := by decide +kernel
theorem dL_isLive_20 : decode cL_isLive 20 = .ok (.iconst 1, 1) := by decide +kernel
theorem dL_isLive_21 : decode cL_isLive 21 = .ok (.ireturn, 1) := by decide +kernel
theorem dL_isLive_22 : decode cL_isLive 22 = .ok (.iconst 0, 1) := by decide +kernel
theorem dL_isLive_23 : decode cL_isLive 23 = .ok (.ireturn, 1) := by decide +kernel
theorem dL_holder_0 : decode cL_holder 0 = .ok (.aload_n 2, 1) := by decide +kernel
theorem dL_holder_1 : decode cL_holder 1 = .ok (.iconst 0, 1) := by decide +kernel
theorem dL_holder_2 : decode cL_holder 2 = .ok (.aload_n 0, 1) := by decide +kernel
theorem dL_holder_3 : decode cL_holder 3 = .ok (.iload_n 1, 1) := by decide +kernel
theorem dL_holder_4 : decode cL_holder 4 = .ok (.invokevirtual 52, 3) := by decide +kernel
theorem dL_holder_7 : decode cL_holder 7 = .ok (.i2l, 1) := by decide +kernel
theorem dL_holder_8 : decode cL_holder 8 = .ok (.lastore, 1) := by decide +kernel
theorem dL_holder_9 : decode cL_holder 9 = .ok (.goto 6, 3) := by decide +kernel
theorem dL_holder_12 : decode cL_holder 12 = .ok (.astore_n 3, 1) := by decide +kernel
theorem dL_holder_13 : decode cL_holder 13 = .ok (.iconst 1, 1) := by decide +kernel
theorem dL_holder_14 : decode cL_holder 14 = .ok (.ireturn, 1) := by decide +kernel
theorem dL_holder_15 : decode cL_holder 15 = .ok (.iconst 0, 1) := by decide +kernel
theorem dL_holder_16 : decode cL_holder 16 = .ok (.ireturn, 1) := by decide +kernel
theorem dL_place_0 : decode cL_place 0 = .ok (.aload_n 2, 1) := by decide +kernel
theorem dL_place_1 : decode cL_place 1 = .ok (.iconst 0, 1) := by decide +kernel
theorem dL_place_2 : decode cL_place 2 = .ok (.aload_n 0, 1) := by decide +kernel
theorem dL_place_3 : decode cL_place 3 = .ok (.iload_n 1, 1) := by decide +kernel
theorem dL_place_4 : decode cL_place 4 = .ok (.invokevirtual 55, 3) := by decide +kernel
theorem dL_place_7 : decode cL_place 7 = .ok (.i2l, 1) := by decide +kernel
theorem dL_place_8 : decode cL_place 8 = .ok (.lastore, 1) := by decide +kernel
theorem dL_place_9 : decode cL_place 9 = .ok (.goto 9, 3) := by decide +kernel
theorem dL_place_12 : decode cL_place 12 = .ok (.astore_n 3, 1) := by decide +kernel
theorem dL_place_13 : decode cL_place 13 = .ok (.iconst 1, 1) := by decide +kernel
theorem dL_place_14 : decode cL_place 14 = .ok (.ireturn, 1) := by decide +kernel
theorem dL_place_15 : decode cL_place 15 = .ok (.astore_n 3, 1) := by decide +kernel
theorem dL_place_16 : decode cL_place 16 = .ok (.iconst 2, 1) := by decide +kernel
theorem dL_place_17 : decode cL_place 17 = .ok (.ireturn, 1) := by decide +kernel
theorem dL_place_18 : decode cL_place 18 = .ok (.iconst 0, 1) := by decide +kernel
theorem dL_place_19 : decode cL_place 19 = .ok (.ireturn, 1) := by decide +kernel
theorem dL_colour_0 : decode cL_colour 0 = .ok (.aload_n 2, 1) := by decide +kernel
theorem dL_colour_1 : decode cL_colour 1 = .ok (.iconst 0, 1) := by decide +kernel
theorem dL_colour_2 : decode cL_colour 2 = .ok (.aload_n 0, 1) := by decide +kernel
theorem dL_colour_3 : decode cL_colour 3 = .ok (.iload_n 1, 1) := by decide +kernel
theorem dL_colour_4 : decode cL_colour 4 = .ok (.invokevirtual 58, 3) := by decide +kernel
theorem dL_colour_7 : decode cL_colour 7 = .ok (.i2l, 1) := by decide +kernel
theorem dL_colour_8 : decode cL_colour 8 = .ok (.lastore, 1) := by decide +kernel
theorem dL_colour_9 : decode cL_colour 9 = .ok (.goto 6, 3) := by decide +kernel
theorem dL_colour_12 : decode cL_colour 12 = .ok (.astore_n 3, 1) := by decide +kernel
theorem dL_colour_13 : decode cL_colour 13 = .ok (.iconst 1, 1) := by decide +kernel
theorem dL_colour_14 : decode cL_colour 14 = .ok (.ireturn, 1) := by decide +kernel
theorem dL_colour_15 : decode cL_colour 15 = .ok (.iconst 0, 1) := by decide +kernel
theorem dL_colour_16 : decode cL_colour 16 = .ok (.ireturn, 1) := by decide +kernel
theorem dL_above_0 : decode cL_above 0 = .ok (.aload_n 2, 1) := by decide +kernel
theorem dL_above_1 : decode cL_above 1 = .ok (.iconst 0, 1) := by decide +kernel
theorem dL_above_2 : decode cL_above 2 = .ok (.aload_n 0, 1) := by decide +kernel
theorem dL_above_3 : decode cL_above 3 = .ok (.iload_n 1, 1) := by decide +kernel
theorem dL_above_4 : decode cL_above 4 = .ok (.invokevirtual 61, 3) := by decide +kernel
theorem dL_above_7 : decode cL_above 7 = .ok (.i2l, 1) := by decide +kernel
theorem dL_above_8 : decode cL_above 8 = .ok (.lastore, 1) := by decide +kernel
theorem dL_above_9 : decode cL_above 9 = .ok (.goto 6, 3) := by decide +kernel
theorem dL_above_12 : decode cL_above 12 = .ok (.astore_n 3, 1) := by decide +kernel
theorem dL_above_13 : decode cL_above 13 = .ok (.iconst 1, 1) := by decide +kernel
theorem dL_above_14 : decode cL_above 14 = .ok (.ireturn, 1) := by decide +kernel
theorem dL_above_15 : decode cL_above 15 = .ok (.iconst 0, 1) := by decide +kernel
theorem dL_above_16 : decode cL_above 16 = .ok (.ireturn, 1) := by decide +kernel
theorem dL_group_0 : decode cL_group 0 = .ok (.aload_n 2, 1) := by decide +kernel
theorem dL_group_1 : decode cL_group 1 = .ok (.iconst 0, 1) := by decide +kernel
theorem dL_group_2 : decode cL_group 2 = .ok (.aload_n 0, 1) := by decide +kernel
theorem dL_group_3 : decode cL_group 3 = .ok (.iload_n 1, 1) := by decide +kernel
theorem dL_group_4 : decode cL_group 4 = .ok (.invokevirtual 64, 3) := by decide +kernel
theorem dL_group_7 : decode cL_group 7 = .ok (.lastore, 1) := by decide +kernel
theorem dL_group_8 : decode cL_group 8 = .ok (.goto 6, 3) := by decide +kernel
theorem dL_group_11 : decode cL_group 11 = .ok (.astore_n 3, 1) := by decide +kernel
theorem dL_group_12 : decode cL_group 12 = .ok (.iconst 1, 1) := by decide +kernel
theorem dL_group_13 : decode cL_group 13 = .ok (.ireturn, 1) := by decide +kernel
theorem dL_group_14 : decode cL_group 14 = .ok (.iconst 0, 1) := by decide +kernel
theorem dL_group_15 : decode cL_group 15 = .ok (.ireturn, 1) := by decide +kernel
theorem dL_seen_0 : decode cL_seen 0 = .ok (.aload_n 3, 1) := by decide +kernel
theorem dL_seen_1 : decode cL_seen 1 = .ok (.iconst 0, 1) := by decide +kernel
theorem dL_seen_2 : decode cL_seen 2 = .ok (.aload_n 0, 1) := by decide +kernel
theorem dL_seen_3 : decode cL_seen 3 = .ok (.iload_n 1, 1) := by decide +kernel
theorem dL_seen_4 : decode cL_seen 4 = .ok (.iload_n 2, 1) := by decide +kernel
theorem dL_seen_5 : decode cL_seen 5 = .ok (.invokevirtual 68, 3) := by decide +kernel
theorem dL_seen_8 : decode cL_seen 8 = .ok (.i2l, 1) := by decide +kernel
theorem dL_seen_9 : decode cL_seen 9 = .ok (.lastore, 1) := by decide +kernel
theorem dL_seen_10 : decode cL_seen 10 = .ok (.goto 7, 3) := by decide +kernel
theorem dL_seen_13 : decode cL_seen 13 = .ok (.astore 4, 2) := by decide +kernel
theorem dL_seen_15 : decode cL_seen 15 = .ok (.iconst 1, 1) := by decide +kernel
theorem dL_seen_16 : decode cL_seen 16 = .ok (.ireturn, 1) := by decide +kernel
theorem dL_seen_17 : decode cL_seen 17 = .ok (.iconst 0, 1) := by decide +kernel
theorem dL_seen_18 : decode cL_seen 18 = .ok (.ireturn, 1) := by decide +kernel
theorem dL_seenAnew_0 : decode cL_seenAnew 0 = .ok (.aload_n 3, 1) := by decide +kernel
theorem dL_seenAnew_1 : decode cL_seenAnew 1 = .ok (.iconst 0, 1) := by decide +kernel
theorem dL_seenAnew_2 : decode cL_seenAnew 2 = .ok (.aload_n 0, 1) := by decide +kernel
theorem dL_seenAnew_3 : decode cL_seenAnew 3 = .ok (.iload_n 1, 1) := by decide +kernel
theorem dL_seenAnew_4 : decode cL_seenAnew 4 = .ok (.iload_n 2, 1) := by decide +kernel
theorem dL_seenAnew_5 : decode cL_seenAnew 5 = .ok (.invokevirtual 71, 3) := by decide +kernel
theorem dL_seenAnew_8 : decode cL_seenAnew 8 = .ok (.i2l, 1) := by decide +kernel
theorem dL_seenAnew_9 : decode cL_seenAnew 9 = .ok (.lastore, 1) := by decide +kernel
theorem dL_seenAnew_10 : decode cL_seenAnew 10 = .ok (.goto 7, 3) := by decide +kernel
theorem dL_seenAnew_13 : decode cL_seenAnew 13 = .ok (.astore 4, 2) := by decide +kernel
theorem dL_seenAnew_15 : decode cL_seenAnew 15 = .ok (.iconst 1, 1) := by decide +kernel
theorem dL_seenAnew_16 : decode cL_seenAnew 16 = .ok (.ireturn, 1) := by decide +kernel
theorem dL_seenAnew_17 : decode cL_seenAnew 17 = .ok (.iconst 0, 1) := by decide +kernel
theorem dL_seenAnew_18 : decode cL_seenAnew 18 = .ok (.ireturn, 1) := by decide +kernel
theorem dL_freeze_0 : decode cL_freeze 0 = .ok (.aload 8, 2) := by decide +kernel
theorem dL_freeze_2 : decode cL_freeze 2 = .ok (.iconst 0, 1) := by decide +kernel
theorem dL_freeze_3 : decode cL_freeze 3 = .ok (.aload_n 0, 1) := by decide +kernel
theorem dL_freeze_4 : decode cL_freeze 4 = .ok (.iload_n 1, 1) := by decide +kernel
theorem dL_freeze_5 : decode cL_freeze 5 = .ok (.iload_n 2, 1) := by decide +kernel
theorem dL_freeze_6 : decode cL_freeze 6 = .ok (.iload_n 3, 1) := by decide +kernel
theorem dL_freeze_7 : decode cL_freeze 7 = .ok (.iload 4, 2) := by decide +kernel
theorem dL_freeze_9 : decode cL_freeze 9 = .ok (.iload 5, 2) := by decide +kernel
theorem dL_freeze_11 : decode cL_freeze 11 = .ok (.iload 6, 2) := by decide +kernel
theorem dL_freeze_13 : decode cL_freeze 13 = .ok (.iload 7, 2) := by decide +kernel
theorem dL_freeze_15 : decode cL_freeze 15 = .ok (.invokevirtual 74, 3) := by decide +kernel
theorem dL_freeze_18 : decode cL_freeze 18 = .ok (.i2l, 1) := by decide +kernel
theorem dL_freeze_19 : decode cL_freeze 19 = .ok (.lastore, 1) := by decide +kernel
theorem dL_freeze_20 : decode cL_freeze 20 = .ok (.goto 15, 3) := by decide +kernel
theorem dL_freeze_23 : decode cL_freeze 23 = .ok (.astore 9, 2) := by decide +kernel
theorem dL_freeze_25 : decode cL_freeze 25 = .ok (.iconst 1, 1) := by decide +kernel
theorem dL_freeze_26 : decode cL_freeze 26 = .ok (.ireturn, 1) := by decide +kernel
theorem dL_freeze_27 : decode cL_freeze 27 = .ok (.astore 9, 2) := by decide +kernel
theorem dL_freeze_29 : decode cL_freeze 29 = .ok (.iconst 2, 1) := by decide +kernel
theorem dL_freeze_30 : decode cL_freeze 30 = .ok (.ireturn, 1) := by decide +kernel
theorem dL_freeze_31 : decode cL_freeze 31 = .ok (.astore 9, 2) := by decide +kernel
theorem dL_freeze_33 : decode cL_freeze 33 = .ok (.iconst 3, 1) := by decide +kernel
theorem dL_freeze_34 : decode cL_freeze 34 = .ok (.ireturn, 1) := by decide +kernel
theorem dL_freeze_35 : decode cL_freeze 35 = .ok (.iconst 0, 1) := by decide +kernel
theorem dL_freeze_36 : decode cL_freeze 36 = .ok (.ireturn, 1) := by decide +kernel
theorem dL_withdraw_0 : decode cL_withdraw 0 = .ok (.aload_n 2, 1) := by decide +kernel
theorem dL_withdraw_1 : decode cL_withdraw 1 = .ok (.iconst 0, 1) := by decide +kernel
theorem dL_withdraw_2 : decode cL_withdraw 2 = .ok (.aload_n 0, 1) := by decide +kernel
theorem dL_withdraw_3 : decode cL_withdraw 3 = .ok (.iload_n 1, 1) := by decide +kernel
theorem dL_withdraw_4 : decode cL_withdraw 4 = .ok (.invokevirtual 78, 3) := by decide +kernel
theorem dL_withdraw_7 : decode cL_withdraw 7 = .ok (.i2l, 1) := by decide +kernel
theorem dL_withdraw_8 : decode cL_withdraw 8 = .ok (.lastore, 1) := by decide +kernel
theorem dL_withdraw_9 : decode cL_withdraw 9 = .ok (.goto 9, 3) := by decide +kernel
theorem dL_withdraw_12 : decode cL_withdraw 12 = .ok (.astore_n 3, 1) := by decide +kernel
theorem dL_withdraw_13 : decode cL_withdraw 13 = .ok (.iconst 1, 1) := by decide +kernel
theorem dL_withdraw_14 : decode cL_withdraw 14 = .ok (.ireturn, 1) := by decide +kernel
theorem dL_withdraw_15 : decode cL_withdraw 15 = .ok (.astore_n 3, 1) := by decide +kernel
theorem dL_withdraw_16 : decode cL_withdraw 16 = .ok (.iconst 2, 1) := by decide +kernel
theorem dL_withdraw_17 : decode cL_withdraw 17 = .ok (.ireturn, 1) := by decide +kernel
theorem dL_withdraw_18 : decode cL_withdraw 18 = .ok (.iconst 0, 1) := by decide +kernel
theorem dL_withdraw_19 : decode cL_withdraw 19 = .ok (.ireturn, 1) := by decide +kernel
theorem dL_viewed_0 : decode cL_viewed 0 = .ok (.aload 4, 2) := by decide +kernel
theorem dL_viewed_2 : decode cL_viewed 2 = .ok (.iconst 0, 1) := by decide +kernel
theorem dL_viewed_3 : decode cL_viewed 3 = .ok (.aload_n 0, 1) := by decide +kernel
theorem dL_viewed_4 : decode cL_viewed 4 = .ok (.iload_n 1, 1) := by decide +kernel
theorem dL_viewed_5 : decode cL_viewed 5 = .ok (.iload_n 2, 1) := by decide +kernel
theorem dL_viewed_6 : decode cL_viewed 6 = .ok (.iload_n 3, 1) := by decide +kernel
theorem dL_viewed_7 : decode cL_viewed 7 = .ok (.invokevirtual 81, 3) := by decide +kernel
theorem dL_viewed_10 : decode cL_viewed 10 = .ok (.i2l, 1) := by decide +kernel
theorem dL_viewed_11 : decode cL_viewed 11 = .ok (.lastore, 1) := by decide +kernel
theorem dL_viewed_12 : decode cL_viewed 12 = .ok (.goto 7, 3) := by decide +kernel
theorem dL_viewed_15 : decode cL_viewed 15 = .ok (.astore 5, 2) := by decide +kernel
theorem dL_viewed_17 : decode cL_viewed 17 = .ok (.iconst 1, 1) := by decide +kernel
theorem dL_viewed_18 : decode cL_viewed 18 = .ok (.ireturn, 1) := by decide +kernel
theorem dL_viewed_19 : decode cL_viewed 19 = .ok (.iconst 0, 1) := by decide +kernel
theorem dL_viewed_20 : decode cL_viewed 20 = .ok (.ireturn, 1) := by decide +kernel
theorem dL_area_0 : decode cL_area 0 = .ok (.aload_n 3, 1) := by decide +kernel
theorem dL_area_1 : decode cL_area 1 = .ok (.iconst 0, 1) := by decide +kernel
theorem dL_area_2 : decode cL_area 2 = .ok (.aload_n 0, 1) := by decide +kernel
theorem dL_area_3 : decode cL_area 3 = .ok (.iload_n 1, 1) := by decide +kernel
theorem dL_area_4 : decode cL_area 4 = .ok (.iload_n 2, 1) := by decide +kernel
theorem dL_area_5 : decode cL_area 5 = .ok (.invokevirtual 84, 3) := by decide +kernel
theorem dL_area_8 : decode cL_area 8 = .ok (.i2l, 1) := by decide +kernel
theorem dL_area_9 : decode cL_area 9 = .ok (.lastore, 1) := by decide +kernel
theorem dL_area_10 : decode cL_area 10 = .ok (.goto 7, 3) := by decide +kernel
theorem dL_area_13 : decode cL_area 13 = .ok (.astore 4, 2) := by decide +kernel
theorem dL_area_15 : decode cL_area 15 = .ok (.iconst 1, 1) := by decide +kernel
theorem dL_area_16 : decode cL_area 16 = .ok (.ireturn, 1) := by decide +kernel
theorem dL_area_17 : decode cL_area 17 = .ok (.iconst 0, 1) := by decide +kernel
theorem dL_area_18 : decode cL_area 18 = .ok (.ireturn, 1) := by decide +kernel
theorem dL_sell_0 : decode cL_sell 0 = .ok (.aload_n 3, 1) := by decide +kernel
theorem dL_sell_1 : decode cL_sell 1 = .ok (.iconst 0, 1) := by decide +kernel
theorem dL_sell_2 : decode cL_sell 2 = .ok (.aload_n 0, 1) := by decide +kernel
theorem dL_sell_3 : decode cL_sell 3 = .ok (.iload_n 1, 1) := by decide +kernel
theorem dL_sell_4 : decode cL_sell 4 = .ok (.iload_n 2, 1) := by decide +kernel
theorem dL_sell_5 : decode cL_sell 5 = .ok (.invokevirtual 87, 3) := by decide +kernel
theorem dL_sell_8 : decode cL_sell 8 = .ok (.i2l, 1) := by decide +kernel
theorem dL_sell_9 : decode cL_sell 9 = .ok (.lastore, 1) := by decide +kernel
theorem dL_sell_10 : decode cL_sell 10 = .ok (.goto 11, 3) := by decide +kernel
theorem dL_sell_13 : decode cL_sell 13 = .ok (.astore 4, 2) := by decide +kernel
theorem dL_sell_15 : decode cL_sell 15 = .ok (.iconst 1, 1) := by decide +kernel
theorem dL_sell_16 : decode cL_sell 16 = .ok (.ireturn, 1) := by decide +kernel
theorem dL_sell_17 : decode cL_sell 17 = .ok (.astore 4, 2) := by decide +kernel
theorem dL_sell_19 : decode cL_sell 19 = .ok (.iconst 2, 1) := by decide +kernel
theorem dL_sell_20 : decode cL_sell 20 = .ok (.ireturn, 1) := by decide +kernel
theorem dL_sell_21 : decode cL_sell 21 = .ok (.iconst 0, 1) := by decide +kernel
theorem dL_sell_22 : decode cL_sell 22 = .ok (.ireturn, 1) := by decide +kernel
theorem dL_resell_0 : decode cL_resell 0 = .ok (.aload 5, 2) := by decide +kernel
theorem dL_resell_2 : decode cL_resell 2 = .ok (.iconst 0, 1) := by decide +kernel
theorem dL_resell_3 : decode cL_resell 3 = .ok (.aload_n 0, 1) := by decide +kernel
theorem dL_resell_4 : decode cL_resell 4 = .ok (.iload_n 1, 1) := by decide +kernel
theorem dL_resell_5 : decode cL_resell 5 = .ok (.iload_n 2, 1) := by decide +kernel
theorem dL_resell_6 : decode cL_resell 6 = .ok (.iload_n 3, 1) := by decide +kernel
theorem dL_resell_7 : decode cL_resell 7 = .ok (.iload 4, 2) := by decide +kernel
theorem dL_resell_9 : decode cL_resell 9 = .ok (.invokevirtual 90, 3) := by decide +kernel
theorem dL_resell_12 : decode cL_resell 12 = .ok (.i2l, 1) := by decide +kernel
theorem dL_resell_13 : decode cL_resell 13 = .ok (.lastore, 1) := by decide +kernel
theorem dL_resell_14 : decode cL_resell 14 = .ok (.goto 15, 3) := by decide +kernel
theorem dL_resell_17 : decode cL_resell 17 = .ok (.astore 6, 2) := by decide +kernel
theorem dL_resell_19 : decode cL_resell 19 = .ok (.iconst 1, 1) := by decide +kernel
theorem dL_resell_20 : decode cL_resell 20 = .ok (.ireturn, 1) := by decide +kernel
theorem dL_resell_21 : decode cL_resell 21 = .ok (.astore 6, 2) := by decide +kernel
theorem dL_resell_23 : decode cL_resell 23 = .ok (.iconst 2, 1) := by decide +kernel
theorem dL_resell_24 : decode cL_resell 24 = .ok (.ireturn, 1) := by decide +kernel
theorem dL_resell_25 : decode cL_resell 25 = .ok (.astore 6, 2) := by decide +kernel
theorem dL_resell_27 : decode cL_resell 27 = .ok (.iconst 3, 1) := by decide +kernel
theorem dL_resell_28 : decode cL_resell 28 = .ok (.ireturn, 1) := by decide +kernel
theorem dL_resell_29 : decode cL_resell 29 = .ok (.iconst 0, 1) := by decide +kernel
theorem dL_resell_30 : decode cL_resell 30 = .ok (.ireturn, 1) := by decide +kernel
theorem dL_takeDown_0 : decode cL_takeDown 0 = .ok (.aload_n 2, 1) := by decide +kernel
theorem dL_takeDown_1 : decode cL_takeDown 1 = .ok (.iconst 0, 1) := by decide +kernel
theorem dL_takeDown_2 : decode cL_takeDown 2 = .ok (.aload_n 0, 1) := by decide +kernel
theorem dL_takeDown_3 : decode cL_takeDown 3 = .ok (.iload_n 1, 1) := by decide +kernel
theorem dL_takeDown_4 : decode cL_takeDown 4 = .ok (.invokevirtual 93, 3) := by decide +kernel
theorem dL_takeDown_7 : decode cL_takeDown 7 = .ok (.i2l, 1) := by decide +kernel
theorem dL_takeDown_8 : decode cL_takeDown 8 = .ok (.lastore, 1) := by decide +kernel
theorem dL_takeDown_9 : decode cL_takeDown 9 = .ok (.goto 9, 3) := by decide +kernel
theorem dL_takeDown_12 : decode cL_takeDown 12 = .ok (.astore_n 3, 1) := by decide +kernel
theorem dL_takeDown_13 : decode cL_takeDown 13 = .ok (.iconst 1, 1) := by decide +kernel
theorem dL_takeDown_14 : decode cL_takeDown 14 = .ok (.ireturn, 1) := by decide +kernel
theorem dL_takeDown_15 : decode cL_takeDown 15 = .ok (.astore_n 3, 1) := by decide +kernel
theorem dL_takeDown_16 : decode cL_takeDown 16 = .ok (.iconst 2, 1) := by decide +kernel
theorem dL_takeDown_17 : decode cL_takeDown 17 = .ok (.ireturn, 1) := by decide +kernel
theorem dL_takeDown_18 : decode cL_takeDown 18 = .ok (.iconst 0, 1) := by decide +kernel
theorem dL_takeDown_19 : decode cL_takeDown 19 = .ok (.ireturn, 1) := by decide +kernel
theorem dL_accept_0 : decode cL_accept 0 = .ok (.aload_n 3, 1) := by decide +kernel
theorem dL_accept_1 : decode cL_accept 1 = .ok (.iconst 0, 1) := by decide +kernel
theorem dL_accept_2 : decode cL_accept 2 = .ok (.aload_n 0, 1) := by decide +kernel
theorem dL_accept_3 : decode cL_accept 3 = .ok (.iload_n 1, 1) := by decide +kernel
theorem dL_accept_4 : decode cL_accept 4 = .ok (.iload_n 2, 1) := by decide +kernel
theorem dL_accept_5 : decode cL_accept 5 = .ok (.invokevirtual 96, 3) := by decide +kernel
theorem dL_accept_8 : decode cL_accept 8 = .ok (.i2l, 1) := by decide +kernel
theorem dL_accept_9 : decode cL_accept 9 = .ok (.lastore, 1) := by decide +kernel
theorem dL_accept_10 : decode cL_accept 10 = .ok (.goto 11, 3) := by decide +kernel
theorem dL_accept_13 : decode cL_accept 13 = .ok (.astore 4, 2) := by decide +kernel
theorem dL_accept_15 : decode cL_accept 15 = .ok (.iconst 1, 1) := by decide +kernel
theorem dL_accept_16 : decode cL_accept 16 = .ok (.ireturn, 1) := by decide +kernel
theorem dL_accept_17 : decode cL_accept 17 = .ok (.astore 4, 2) := by decide +kernel
theorem dL_accept_19 : decode cL_accept 19 = .ok (.iconst 2, 1) := by decide +kernel
theorem dL_accept_20 : decode cL_accept 20 = .ok (.ireturn, 1) := by decide +kernel
theorem dL_accept_21 : decode cL_accept 21 = .ok (.iconst 0, 1) := by decide +kernel
theorem dL_accept_22 : decode cL_accept 22 = .ok (.ireturn, 1) := by decide +kernel
theorem dL_giveBack_0 : decode cL_giveBack 0 = .ok (.aload_n 3, 1) := by decide +kernel
theorem dL_giveBack_1 : decode cL_giveBack 1 = .ok (.iconst 0, 1) := by decide +kernel
theorem dL_giveBack_2 : decode cL_giveBack 2 = .ok (.aload_n 0, 1) := by decide +kernel
theorem dL_giveBack_3 : decode cL_giveBack 3 = .ok (.iload_n 1, 1) := by decide +kernel
theorem dL_giveBack_4 : decode cL_giveBack 4 = .ok (.iload_n 2, 1) := by decide +kernel
theorem dL_giveBack_5 : decode cL_giveBack 5 = .ok (.invokevirtual 99, 3) := by decide +kernel
theorem dL_giveBack_8 : decode cL_giveBack 8 = .ok (.i2l, 1) := by decide +kernel
theorem dL_giveBack_9 : decode cL_giveBack 9 = .ok (.lastore, 1) := by decide +kernel
theorem dL_giveBack_10 : decode cL_giveBack 10 = .ok (.goto 11, 3) := by decide +kernel
theorem dL_giveBack_13 : decode cL_giveBack 13 = .ok (.astore 4, 2) := by decide +kernel
theorem dL_giveBack_15 : decode cL_giveBack 15 = .ok (.iconst 1, 1) := by decide +kernel
theorem dL_giveBack_16 : decode cL_giveBack 16 = .ok (.ireturn, 1) := by decide +kernel
theorem dL_giveBack_17 : decode cL_giveBack 17 = .ok (.astore 4, 2) := by decide +kernel
theorem dL_giveBack_19 : decode cL_giveBack 19 = .ok (.iconst 2, 1) := by decide +kernel
theorem dL_giveBack_20 : decode cL_giveBack 20 = .ok (.ireturn, 1) := by decide +kernel
theorem dL_giveBack_21 : decode cL_giveBack 21 = .ok (.iconst 0, 1) := by decide +kernel
theorem dL_giveBack_22 : decode cL_giveBack 22 = .ok (.ireturn, 1) := by decide +kernel
theorem dL_copyState_0 : decode cL_copyState 0 = .ok (.aload_n 3, 1) := by decide +kernel
theorem dL_copyState_1 : decode cL_copyState 1 = .ok (.iconst 0, 1) := by decide +kernel
theorem dL_copyState_2 : decode cL_copyState 2 = .ok (.aload_n 0, 1) := by decide +kernel
theorem dL_copyState_3 : decode cL_copyState 3 = .ok (.iload_n 1, 1) := by decide +kernel
theorem dL_copyState_4 : decode cL_copyState 4 = .ok (.iload_n 2, 1) := by decide +kernel
theorem dL_copyState_5 : decode cL_copyState 5 = .ok (.invokevirtual 102, 3) := by decide +kernel
theorem dL_copyState_8 : decode cL_copyState 8 = .ok (.i2l, 1) := by decide +kernel
theorem dL_copyState_9 : decode cL_copyState 9 = .ok (.lastore, 1) := by decide +kernel
theorem dL_copyState_10 : decode cL_copyState 10 = .ok (.goto 7, 3) := by decide +kernel
theorem dL_copyState_13 : decode cL_copyState 13 = .ok (.astore 4, 2) := by decide +kernel
theorem dL_copyState_15 : decode cL_copyState 15 = .ok (.iconst 1, 1) := by decide +kernel
theorem dL_copyState_16 : decode cL_copyState 16 = .ok (.ireturn, 1) := by decide +kernel
theorem dL_copyState_17 : decode cL_copyState 17 = .ok (.iconst 0, 1) := by decide +kernel
theorem dL_copyState_18 : decode cL_copyState 18 = .ok (.ireturn, 1) := by decide +kernel
theorem dL_owner_0 : decode cL_owner 0 = .ok (.aload_n 3, 1) := by decide +kernel
theorem dL_owner_1 : decode cL_owner 1 = .ok (.iconst 0, 1) := by decide +kernel
theorem dL_owner_2 : decode cL_owner 2 = .ok (.aload_n 0, 1) := by decide +kernel
theorem dL_owner_3 : decode cL_owner 3 = .ok (.iload_n 1, 1) := by decide +kernel
theorem dL_owner_4 : decode cL_owner 4 = .ok (.iload_n 2, 1) := by decide +kernel
theorem dL_owner_5 : decode cL_owner 5 = .ok (.invokevirtual 105, 3) := by decide +kernel
theorem dL_owner_8 : decode cL_owner 8 = .ok (.i2l, 1) := by decide +kernel
theorem dL_owner_9 : decode cL_owner 9 = .ok (.lastore, 1) := by decide +kernel
theorem dL_owner_10 : decode cL_owner 10 = .ok (.goto 7, 3) := by decide +kernel
theorem dL_owner_13 : decode cL_owner 13 = .ok (.astore 4, 2) := by decide +kernel
theorem dL_owner_15 : decode cL_owner 15 = .ok (.iconst 1, 1) := by decide +kernel
theorem dL_owner_16 : decode cL_owner 16 = .ok (.ireturn, 1) := by decide +kernel
theorem dL_owner_17 : decode cL_owner 17 = .ok (.iconst 0, 1) := by decide +kernel
theorem dL_owner_18 : decode cL_owner 18 = .ok (.ireturn, 1) := by decide +kernel
theorem dL_money_0 : decode cL_money 0 = .ok (.aload_n 2, 1) := by decide +kernel
theorem dL_money_1 : decode cL_money 1 = .ok (.iconst 0, 1) := by decide +kernel
theorem dL_money_2 : decode cL_money 2 = .ok (.aload_n 0, 1) := by decide +kernel
theorem dL_money_3 : decode cL_money 3 = .ok (.iload_n 1, 1) := by decide +kernel
theorem dL_money_4 : decode cL_money 4 = .ok (.invokevirtual 108, 3) := by decide +kernel
theorem dL_money_7 : decode cL_money 7 = .ok (.i2l, 1) := by decide +kernel
theorem dL_money_8 : decode cL_money 8 = .ok (.lastore, 1) := by decide +kernel
theorem dL_money_9 : decode cL_money 9 = .ok (.goto 6, 3) := by decide +kernel
theorem dL_money_12 : decode cL_money 12 = .ok (.astore_n 3, 1) := by decide +kernel
theorem dL_money_13 : decode cL_money 13 = .ok (.iconst 1, 1) := by decide +kernel
theorem dL_money_14 : decode cL_money 14 = .ok (.ireturn, 1) := by decide +kernel
theorem dL_money_15 : decode cL_money 15 = .ok (.iconst 0, 1) := by decide +kernel
theorem dL_money_16 : decode cL_money 16 = .ok (.ireturn, 1) := by decide +kernel
theorem dL_moneyAnew_0 : decode cL_moneyAnew 0 = .ok (.aload_n 2, 1) := by decide +kernel
theorem dL_moneyAnew_1 : decode cL_moneyAnew 1 = .ok (.iconst 0, 1) := by decide +kernel
theorem dL_moneyAnew_2 : decode cL_moneyAnew 2 = .ok (.aload_n 0, 1) := by decide +kernel
theorem dL_moneyAnew_3 : decode cL_moneyAnew 3 = .ok (.iload_n 1, 1) := by decide +kernel
theorem dL_moneyAnew_4 : decode cL_moneyAnew 4 = .ok (.invokevirtual 111, 3) := by decide +kernel
theorem dL_moneyAnew_7 : decode cL_moneyAnew 7 = .ok (.i2l, 1) := by decide +kernel
theorem dL_moneyAnew_8 : decode cL_moneyAnew 8 = .ok (.lastore, 1) := by decide +kernel
theorem dL_moneyAnew_9 : decode cL_moneyAnew 9 = .ok (.goto 6, 3) := by decide +kernel
theorem dL_moneyAnew_12 : decode cL_moneyAnew 12 = .ok (.astore_n 3, 1) := by decide +kernel
theorem dL_moneyAnew_13 : decode cL_moneyAnew 13 = .ok (.iconst 1, 1) := by decide +kernel
theorem dL_moneyAnew_14 : decode cL_moneyAnew 14 = .ok (.ireturn, 1) := by decide +kernel
theorem dL_moneyAnew_15 : decode cL_moneyAnew 15 = .ok (.iconst 0, 1) := by decide +kernel
theorem dL_moneyAnew_16 : decode cL_moneyAnew 16 = .ok (.ireturn, 1) := by decide +kernel
theorem dL_purse_0 : decode cL_purse 0 = .ok (.aload_n 2, 1) := by decide +kernel
theorem dL_purse_1 : decode cL_purse 1 = .ok (.iconst 0, 1) := by decide +kernel
theorem dL_purse_2 : decode cL_purse 2 = .ok (.aload_n 0, 1) := by decide +kernel
theorem dL_purse_3 : decode cL_purse 3 = .ok (.iload_n 1, 1) := by decide +kernel
theorem dL_purse_4 : decode cL_purse 4 = .ok (.invokevirtual 114, 3) := by decide +kernel
theorem dL_purse_7 : decode cL_purse 7 = .ok (.i2l, 1) := by decide +kernel
theorem dL_purse_8 : decode cL_purse 8 = .ok (.lastore, 1) := by decide +kernel
theorem dL_purse_9 : decode cL_purse 9 = .ok (.goto 6, 3) := by decide +kernel
theorem dL_purse_12 : decode cL_purse 12 = .ok (.astore_n 3, 1) := by decide +kernel
theorem dL_purse_13 : decode cL_purse 13 = .ok (.iconst 1, 1) := by decide +kernel
theorem dL_purse_14 : decode cL_purse 14 = .ok (.ireturn, 1) := by decide +kernel
theorem dL_purse_15 : decode cL_purse 15 = .ok (.iconst 0, 1) := by decide +kernel
theorem dL_purse_16 : decode cL_purse 16 = .ok (.ireturn, 1) := by decide +kernel
theorem dL_law_0 : decode cL_law 0 = .ok (.new 8, 3) := by decide +kernel
theorem dL_law_3 : decode cL_law 3 = .ok (.dup, 1) := by decide +kernel
theorem dL_law_4 : decode cL_law 4 = .ok (.invokespecial 117, 3) := by decide +kernel
theorem dL_law_7 : decode cL_law 7 = .ok (.astore_n 1, 1) := by decide +kernel
theorem dL_law_8 : decode cL_law 8 = .ok (.new 118, 3) := by decide +kernel
theorem dL_law_11 : decode cL_law 11 = .ok (.dup, 1) := by decide +kernel
theorem dL_law_12 : decode cL_law 12 = .ok (.invokespecial 120, 3) := by decide +kernel
theorem dL_law_15 : decode cL_law 15 = .ok (.astore_n 2, 1) := by decide +kernel
theorem dL_law_16 : decode cL_law 16 = .ok (.iconst 1, 1) := by decide +kernel
theorem dL_law_17 : decode cL_law 17 = .ok (.newarray .long, 2) := by decide +kernel
theorem dL_law_19 : decode cL_law 19 = .ok (.astore_n 3, 1) := by decide +kernel
theorem dL_law_20 : decode cL_law 20 = .ok (.iconst 0, 1) := by decide +kernel
theorem dL_law_21 : decode cL_law 21 = .ok (.istore 4, 2) := by decide +kernel
theorem dL_law_23 : decode cL_law 23 = .ok (.iload 4, 2) := by decide +kernel
theorem dL_law_25 : decode cL_law 25 = .ok (.aload_n 0, 1) := by decide +kernel
theorem dL_law_26 : decode cL_law 26 = .ok (.arraylength, 1) := by decide +kernel
theorem dL_law_27 : decode cL_law 27 = .ok (.bipush 8, 2) := by decide +kernel
theorem dL_law_29 : decode cL_law 29 = .ok (.isub, 1) := by decide +kernel
theorem dL_law_30 : decode cL_law 30 = .ok (.if_icmp .gt 2409, 3) := by decide +kernel
theorem dL_law_33 : decode cL_law 33 = .ok (.aload_n 0, 1) := by decide +kernel
theorem dL_law_34 : decode cL_law 34 = .ok (.iload 4, 2) := by decide +kernel
theorem dL_law_36 : decode cL_law 36 = .ok (.iaload, 1) := by decide +kernel
theorem dL_law_37 : decode cL_law 37 = .ok (.bipush 63, 2) := by decide +kernel
theorem dL_law_39 : decode cL_law 39 = .ok (.iand, 1) := by decide +kernel
theorem dL_law_40 : decode cL_law 40 = .ok (.tableswitch 2393 0 34 #[156, 274, 366, 446, 542, 622, 690, 758, 814, 870, 883, 946, 1002, 1015, 1029, 1085, 1141, 1197, 1252, 1320, 1388, 1520, 1576, 1656, 1724, 1792, 1884, 1940, 2008, 2076, 2144, 2212, 2268, 2324, 2380], 156) := by decide +kernel
theorem dL_law_196 : decode cL_law 196 = .ok (.aload_n 1, 1) := by decide +kernel
theorem dL_law_197 : decode cL_law 197 = .ok (.aload_n 0, 1) := by decide +kernel
theorem dL_law_198 : decode cL_law 198 = .ok (.iload 4, 2) := by decide +kernel
theorem dL_law_200 : decode cL_law 200 = .ok (.iconst 1, 1) := by decide +kernel
theorem dL_law_201 : decode cL_law 201 = .ok (.iadd, 1) := by decide +kernel
theorem dL_law_202 : decode cL_law 202 = .ok (.iaload, 1) := by decide +kernel
theorem dL_law_203 : decode cL_law 203 = .ok (.aload_n 0, 1) := by decide +kernel
theorem dL_law_204 : decode cL_law 204 = .ok (.iload 4, 2) := by decide +kernel
theorem dL_law_206 : decode cL_law 206 = .ok (.iconst 2, 1) := by decide +kernel
theorem dL_law_207 : decode cL_law 207 = .ok (.iadd, 1) := by decide +kernel
theorem dL_law_208 : decode cL_law 208 = .ok (.iaload, 1) := by decide +kernel
theorem dL_law_209 : decode cL_law 209 = .ok (.aload_n 0, 1) := by decide +kernel
theorem dL_law_210 : decode cL_law 210 = .ok (.iload 4, 2) := by decide +kernel
theorem dL_law_212 : decode cL_law 212 = .ok (.iconst 3, 1) := by decide +kernel
theorem dL_law_213 : decode cL_law 213 = .ok (.iadd, 1) := by decide +kernel
theorem dL_law_214 : decode cL_law 214 = .ok (.iaload, 1) := by decide +kernel
theorem dL_law_215 : decode cL_law 215 = .ok (.aload_n 0, 1) := by decide +kernel
theorem dL_law_216 : decode cL_law 216 = .ok (.iload 4, 2) := by decide +kernel
theorem dL_law_218 : decode cL_law 218 = .ok (.iconst 4, 1) := by decide +kernel
theorem dL_law_219 : decode cL_law 219 = .ok (.iadd, 1) := by decide +kernel
theorem dL_law_220 : decode cL_law 220 = .ok (.iaload, 1) := by decide +kernel
theorem dL_law_221 : decode cL_law 221 = .ok (.aload_n 0, 1) := by decide +kernel
theorem dL_law_222 : decode cL_law 222 = .ok (.iload 4, 2) := by decide +kernel
theorem dL_law_224 : decode cL_law 224 = .ok (.iconst 5, 1) := by decide +kernel
theorem dL_law_225 : decode cL_law 225 = .ok (.iadd, 1) := by decide +kernel
theorem dL_law_226 : decode cL_law 226 = .ok (.iaload, 1) := by decide +kernel
theorem dL_law_227 : decode cL_law 227 = .ok (.aload_n 0, 1) := by decide +kernel
theorem dL_law_228 : decode cL_law 228 = .ok (.iload 4, 2) := by decide +kernel
theorem dL_law_230 : decode cL_law 230 = .ok (.bipush 6, 2) := by decide +kernel
theorem dL_law_232 : decode cL_law 232 = .ok (.iadd, 1) := by decide +kernel
theorem dL_law_233 : decode cL_law 233 = .ok (.iaload, 1) := by decide +kernel
theorem dL_law_234 : decode cL_law 234 = .ok (.aload_n 3, 1) := by decide +kernel
theorem dL_law_235 : decode cL_law 235 = .ok (.invokestatic 121, 3) := by decide +kernel
theorem dL_law_238 : decode cL_law 238 = .ok (.istore 5, 2) := by decide +kernel
theorem dL_law_240 : decode cL_law 240 = .ok (.aload_n 2, 1) := by decide +kernel
theorem dL_law_241 : decode cL_law 241 = .ok (.aload_n 0, 1) := by decide +kernel
theorem dL_law_242 : decode cL_law 242 = .ok (.iload 4, 2) := by decide +kernel
theorem dL_law_244 : decode cL_law 244 = .ok (.iconst 1, 1) := by decide +kernel
theorem dL_law_245 : decode cL_law 245 = .ok (.iadd, 1) := by decide +kernel
theorem dL_law_246 : decode cL_law 246 = .ok (.iaload, 1) := by decide +kernel
theorem dL_law_247 : decode cL_law 247 = .ok (.aload_n 0, 1) := by decide +kernel
theorem dL_law_248 : decode cL_law 248 = .ok (.iload 4, 2) := by decide +kernel
theorem dL_law_250 : decode cL_law 250 = .ok (.iconst 2, 1) := by decide +kernel
theorem dL_law_251 : decode cL_law 251 = .ok (.iadd, 1) := by decide +kernel
theorem dL_law_252 : decode cL_law 252 = .ok (.iaload, 1) := by decide +kernel
theorem dL_law_253 : decode cL_law 253 = .ok (.aload_n 0, 1) := by decide +kernel
theorem dL_law_254 : decode cL_law 254 = .ok (.iload 4, 2) := by decide +kernel
theorem dL_law_256 : decode cL_law 256 = .ok (.iconst 3, 1) := by decide +kernel
theorem dL_law_257 : decode cL_law 257 = .ok (.iadd, 1) := by decide +kernel
theorem dL_law_258 : decode cL_law 258 = .ok (.iaload, 1) := by decide +kernel
theorem dL_law_259 : decode cL_law 259 = .ok (.aload_n 0, 1) := by decide +kernel
theorem dL_law_260 : decode cL_law 260 = .ok (.iload 4, 2) := by decide +kernel
theorem dL_law_262 : decode cL_law 262 = .ok (.iconst 4, 1) := by decide +kernel
theorem dL_law_263 : decode cL_law 263 = .ok (.iadd, 1) := by decide +kernel
theorem dL_law_264 : decode cL_law 264 = .ok (.iaload, 1) := by decide +kernel
theorem dL_law_265 : decode cL_law 265 = .ok (.aload_n 0, 1) := by decide +kernel
theorem dL_law_266 : decode cL_law 266 = .ok (.iload 4, 2) := by decide +kernel
theorem dL_law_268 : decode cL_law 268 = .ok (.iconst 5, 1) := by decide +kernel
theorem dL_law_269 : decode cL_law 269 = .ok (.iadd, 1) := by decide +kernel
theorem dL_law_270 : decode cL_law 270 = .ok (.iaload, 1) := by decide +kernel
theorem dL_law_271 : decode cL_law 271 = .ok (.aload_n 0, 1) := by decide +kernel
theorem dL_law_272 : decode cL_law 272 = .ok (.iload 4, 2) := by decide +kernel
theorem dL_law_274 : decode cL_law 274 = .ok (.bipush 6, 2) := by decide +kernel
theorem dL_law_276 : decode cL_law 276 = .ok (.iadd, 1) := by decide +kernel
theorem dL_law_277 : decode cL_law 277 = .ok (.iaload, 1) := by decide +kernel
theorem dL_law_278 : decode cL_law 278 = .ok (.invokevirtual 126, 3) := by decide +kernel
theorem dL_law_281 : decode cL_law 281 = .ok (.istore 6, 2) := by decide +kernel
theorem dL_law_283 : decode cL_law 283 = .ok (.aload_n 2, 1) := by decide +kernel
theorem dL_law_284 : decode cL_law 284 = .ok (.invokevirtual 127, 3) := by decide +kernel
theorem dL_law_287 : decode cL_law 287 = .ok (.iload 5, 2) := by decide +kernel
theorem dL_law_289 : decode cL_law 289 = .ok (.if_icmp .eq 5, 3) := by decide +kernel
theorem dL_law_292 : decode cL_law 292 = .ok (.iconst 0, 1) := by decide +kernel
theorem dL_law_293 : decode cL_law 293 = .ok (.ireturn, 1) := by decide +kernel
theorem dL_law_294 : decode cL_law 294 = .ok (.iload 5, 2) := by decide +kernel
theorem dL_law_296 : decode cL_law 296 = .ok (.ifCond .ne 15, 3) := by decide +kernel
theorem dL_law_299 : decode cL_law 299 = .ok (.aload_n 3, 1) := by decide +kernel
theorem dL_law_300 : decode cL_law 300 = .ok (.iconst 0, 1) := by decide +kernel
theorem dL_law_301 : decode cL_law 301 = .ok (.laload, 1) := by decide +kernel
theorem dL_law_302 : decode cL_law 302 = .ok (.iload 6, 2) := by decide +kernel
theorem dL_law_304 : decode cL_law 304 = .ok (.i2l, 1) := by decide +kernel
theorem dL_law_305 : decode cL_law 305 = .ok (.lcmp, 1) := by decide +kernel
theorem dL_law_306 : decode cL_law 306 = .ok (.ifCond .eq 5, 3) := by decide +kernel
theorem dL_law_309 : decode cL_law 309 = .ok (.iconst 0, 1) := by decide +kernel
theorem dL_law_310 : decode cL_law 310 = .ok (.ireturn, 1) := by decide +kernel
theorem dL_law_311 : decode cL_law 311 = .ok (.goto 2122, 3) := by decide +kernel
theorem dL_law_314 : decode cL_law 314 = .ok (.aload_n 1, 1) := by decide +kernel
theorem dL_law_315 : decode cL_law 315 = .ok (.aload_n 0, 1) := by decide +kernel
theorem dL_law_316 : decode cL_law 316 = .ok (.iload 4, 2) := by decide +kernel
theorem dL_law_318 : decode cL_law 318 = .ok (.iconst 1, 1) := by decide +kernel
theorem dL_law_319 : decode cL_law 319 = .ok (.iadd, 1) := by decide +kernel
theorem dL_law_320 : decode cL_law 320 = .ok (.iaload, 1) := by decide +kernel
theorem dL_law_321 : decode cL_law 321 = .ok (.aload_n 0, 1) := by decide +kernel
theorem dL_law_322 : decode cL_law 322 = .ok (.iload 4, 2) := by decide +kernel
theorem dL_law_324 : decode cL_law 324 = .ok (.iconst 2, 1) := by decide +kernel
theorem dL_law_325 : decode cL_law 325 = .ok (.iadd, 1) := by decide +kernel
theorem dL_law_326 : decode cL_law 326 = .ok (.iaload, 1) := by decide +kernel
theorem dL_law_327 : decode cL_law 327 = .ok (.aload_n 0, 1) := by decide +kernel
theorem dL_law_328 : decode cL_law 328 = .ok (.iload 4, 2) := by decide +kernel
theorem dL_law_330 : decode cL_law 330 = .ok (.iconst 3, 1) := by decide +kernel
theorem dL_law_331 : decode cL_law 331 = .ok (.iadd, 1) := by decide +kernel
theorem dL_law_332 : decode cL_law 332 = .ok (.iaload, 1) := by decide +kernel
theorem dL_law_333 : decode cL_law 333 = .ok (.aload_n 0, 1) := by decide +kernel
theorem dL_law_334 : decode cL_law 334 = .ok (.iload 4, 2) := by decide +kernel
theorem dL_law_336 : decode cL_law 336 = .ok (.iconst 4, 1) := by decide +kernel
theorem dL_law_337 : decode cL_law 337 = .ok (.iadd, 1) := by decide +kernel
theorem dL_law_338 : decode cL_law 338 = .ok (.iaload, 1) := by decide +kernel
theorem dL_law_339 : decode cL_law 339 = .ok (.aload_n 3, 1) := by decide +kernel
theorem dL_law_340 : decode cL_law 340 = .ok (.invokestatic 131, 3) := by decide +kernel
theorem dL_law_343 : decode cL_law 343 = .ok (.istore 5, 2) := by decide +kernel
theorem dL_law_345 : decode cL_law 345 = .ok (.aload_n 2, 1) := by decide +kernel
theorem dL_law_346 : decode cL_law 346 = .ok (.aload_n 0, 1) := by decide +kernel
theorem dL_law_347 : decode cL_law 347 = .ok (.iload 4, 2) := by decide +kernel
theorem dL_law_349 : decode cL_law 349 = .ok (.iconst 1, 1) := by decide +kernel
theorem dL_law_350 : decode cL_law 350 = .ok (.iadd, 1) := by decide +kernel
theorem dL_law_351 : decode cL_law 351 = .ok (.iaload, 1) := by decide +kernel
theorem dL_law_352 : decode cL_law 352 = .ok (.aload_n 0, 1) := by decide +kernel
theorem dL_law_353 : decode cL_law 353 = .ok (.iload 4, 2) := by decide +kernel
theorem dL_law_355 : decode cL_law 355 = .ok (.iconst 2, 1) := by decide +kernel
theorem dL_law_356 : decode cL_law 356 = .ok (.iadd, 1) := by decide +kernel
theorem dL_law_357 : decode cL_law 357 = .ok (.iaload, 1) := by decide +kernel
theorem dL_law_358 : decode cL_law 358 = .ok (.aload_n 0, 1) := by decide +kernel
theorem dL_law_359 : decode cL_law 359 = .ok (.iload 4, 2) := by decide +kernel
theorem dL_law_361 : decode cL_law 361 = .ok (.iconst 3, 1) := by decide +kernel
theorem dL_law_362 : decode cL_law 362 = .ok (.iadd, 1) := by decide +kernel
theorem dL_law_363 : decode cL_law 363 = .ok (.iaload, 1) := by decide +kernel
theorem dL_law_364 : decode cL_law 364 = .ok (.aload_n 0, 1) := by decide +kernel
theorem dL_law_365 : decode cL_law 365 = .ok (.iload 4, 2) := by decide +kernel
theorem dL_law_367 : decode cL_law 367 = .ok (.iconst 4, 1) := by decide +kernel
theorem dL_law_368 : decode cL_law 368 = .ok (.iadd, 1) := by decide +kernel
theorem dL_law_369 : decode cL_law 369 = .ok (.iaload, 1) := by decide +kernel
theorem dL_law_370 : decode cL_law 370 = .ok (.invokevirtual 134, 3) := by decide +kernel
theorem dL_law_373 : decode cL_law 373 = .ok (.istore 6, 2) := by decide +kernel
theorem dL_law_375 : decode cL_law 375 = .ok (.aload_n 2, 1) := by decide +kernel
theorem dL_law_376 : decode cL_law 376 = .ok (.invokevirtual 127, 3) := by decide +kernel
theorem dL_law_379 : decode cL_law 379 = .ok (.iload 5, 2) := by decide +kernel
theorem dL_law_381 : decode cL_law 381 = .ok (.if_icmp .eq 5, 3) := by decide +kernel
theorem dL_law_384 : decode cL_law 384 = .ok (.iconst 0, 1) := by decide +kernel
theorem dL_law_385 : decode cL_law 385 = .ok (.ireturn, 1) := by decide +kernel
theorem dL_law_386 : decode cL_law 386 = .ok (.iload 5, 2) := by decide +kernel
theorem dL_law_388 : decode cL_law 388 = .ok (.ifCond .ne 15, 3) := by decide +kernel
theorem dL_law_391 : decode cL_law 391 = .ok (.aload_n 3, 1) := by decide +kernel
theorem dL_law_392 : decode cL_law 392 = .ok (.iconst 0, 1) := by decide +kernel
theorem dL_law_393 : decode cL_law 393 = .ok (.laload, 1) := by decide +kernel
theorem dL_law_394 : decode cL_law 394 = .ok (.iload 6, 2) := by decide +kernel
theorem dL_law_396 : decode cL_law 396 = .ok (.i2l, 1) := by decide +kernel
theorem dL_law_397 : decode cL_law 397 = .ok (.lcmp, 1) := by decide +kernel
theorem dL_law_398 : decode cL_law 398 = .ok (.ifCond .eq 5, 3) := by decide +kernel
theorem dL_law_401 : decode cL_law 401 = .ok (.iconst 0, 1) := by decide +kernel
theorem dL_law_402 : decode cL_law 402 = .ok (.ireturn, 1) := by decide +kernel
theorem dL_law_403 : decode cL_law 403 = .ok (.goto 2030, 3) := by decide +kernel
theorem dL_law_406 : decode cL_law 406 = .ok (.aload_n 1, 1) := by decide +kernel
theorem dL_law_407 : decode cL_law 407 = .ok (.aload_n 0, 1) := by decide +kernel
theorem dL_law_408 : decode cL_law 408 = .ok (.iload 4, 2) := by decide +kernel
theorem dL_law_410 : decode cL_law 410 = .ok (.iconst 1, 1) := by decide +kernel
theorem dL_law_411 : decode cL_law 411 = .ok (.iadd, 1) := by decide +kernel
theorem dL_law_412 : decode cL_law 412 = .ok (.iaload, 1) := by decide +kernel
theorem dL_law_413 : decode cL_law 413 = .ok (.aload_n 0, 1) := by decide +kernel
theorem dL_law_414 : decode cL_law 414 = .ok (.iload 4, 2) := by decide +kernel
theorem dL_law_416 : decode cL_law 416 = .ok (.iconst 2, 1) := by decide +kernel
theorem dL_law_417 : decode cL_law 417 = .ok (.iadd, 1) := by decide +kernel
theorem dL_law_418 : decode cL_law 418 = .ok (.iaload, 1) := by decide +kernel
theorem dL_law_419 : decode cL_law 419 = .ok (.aload_n 0, 1) := by decide +kernel
theorem dL_law_420 : decode cL_law 420 = .ok (.iload 4, 2) := by decide +kernel
theorem dL_law_422 : decode cL_law 422 = .ok (.iconst 3, 1) := by decide +kernel
theorem dL_law_423 : decode cL_law 423 = .ok (.iadd, 1) := by decide +kernel
theorem dL_law_424 : decode cL_law 424 = .ok (.iaload, 1) := by decide +kernel
theorem dL_law_425 : decode cL_law 425 = .ok (.aload_n 3, 1) := by decide +kernel
theorem dL_law_426 : decode cL_law 426 = .ok (.invokestatic 135, 3) := by decide +kernel
theorem dL_law_429 : decode cL_law 429 = .ok (.istore 5, 2) := by decide +kernel
theorem dL_law_431 : decode cL_law 431 = .ok (.aload_n 2, 1) := by decide +kernel
theorem dL_law_432 : decode cL_law 432 = .ok (.aload_n 0, 1) := by decide +kernel
theorem dL_law_433 : decode cL_law 433 = .ok (.iload 4, 2) := by decide +kernel
theorem dL_law_435 : decode cL_law 435 = .ok (.iconst 1, 1) := by decide +kernel
theorem dL_law_436 : decode cL_law 436 = .ok (.iadd, 1) := by decide +kernel
theorem dL_law_437 : decode cL_law 437 = .ok (.iaload, 1) := by decide +kernel
theorem dL_law_438 : decode cL_law 438 = .ok (.aload_n 0, 1) := by decide +kernel
theorem dL_law_439 : decode cL_law 439 = .ok (.iload 4, 2) := by decide +kernel
theorem dL_law_441 : decode cL_law 441 = .ok (.iconst 2, 1) := by decide +kernel
theorem dL_law_442 : decode cL_law 442 = .ok (.iadd, 1) := by decide +kernel
theorem dL_law_443 : decode cL_law 443 = .ok (.iaload, 1) := by decide +kernel
theorem dL_law_444 : decode cL_law 444 = .ok (.aload_n 0, 1) := by decide +kernel
theorem dL_law_445 : decode cL_law 445 = .ok (.iload 4, 2) := by decide +kernel
theorem dL_law_447 : decode cL_law 447 = .ok (.iconst 3, 1) := by decide +kernel
theorem dL_law_448 : decode cL_law 448 = .ok (.iadd, 1) := by decide +kernel
theorem dL_law_449 : decode cL_law 449 = .ok (.iaload, 1) := by decide +kernel
theorem dL_law_450 : decode cL_law 450 = .ok (.invokevirtual 138, 3) := by decide +kernel
theorem dL_law_453 : decode cL_law 453 = .ok (.istore 6, 2) := by decide +kernel
theorem dL_law_455 : decode cL_law 455 = .ok (.aload_n 2, 1) := by decide +kernel
theorem dL_law_456 : decode cL_law 456 = .ok (.invokevirtual 127, 3) := by decide +kernel
theorem dL_law_459 : decode cL_law 459 = .ok (.iload 5, 2) := by decide +kernel
theorem dL_law_461 : decode cL_law 461 = .ok (.if_icmp .eq 5, 3) := by decide +kernel
theorem dL_law_464 : decode cL_law 464 = .ok (.iconst 0, 1) := by decide +kernel
theorem dL_law_465 : decode cL_law 465 = .ok (.ireturn, 1) := by decide +kernel
theorem dL_law_466 : decode cL_law 466 = .ok (.iload 5, 2) := by decide +kernel
theorem dL_law_468 : decode cL_law 468 = .ok (.ifCond .ne 15, 3) := by decide +kernel
theorem dL_law_471 : decode cL_law 471 = .ok (.aload_n 3, 1) := by decide +kernel
theorem dL_law_472 : decode cL_law 472 = .ok (.iconst 0, 1) := by decide +kernel
theorem dL_law_473 : decode cL_law 473 = .ok (.laload, 1) := by decide +kernel
theorem dL_law_474 : decode cL_law 474 = .ok (.iload 6, 2) := by decide +kernel
theorem dL_law_476 : decode cL_law 476 = .ok (.i2l, 1) := by decide +kernel
theorem dL_law_477 : decode cL_law 477 = .ok (.lcmp, 1) := by decide +kernel
theorem dL_law_478 : decode cL_law 478 = .ok (.ifCond .eq 5, 3) := by decide +kernel
theorem dL_law_481 : decode cL_law 481 = .ok (.iconst 0, 1) := by decide +kernel
theorem dL_law_482 : decode cL_law 482 = .ok (.ireturn, 1) := by decide +kernel
theorem dL_law_483 : decode cL_law 483 = .ok (.goto 1950, 3) := by decide +kernel
theorem dL_law_486 : decode cL_law 486 = .ok (.aload_n 1, 1) := by decide +kernel
theorem dL_law_487 : decode cL_law 487 = .ok (.aload_n 0, 1) := by decide +kernel
theorem dL_law_488 : decode cL_law 488 = .ok (.iload 4, 2) := by decide +kernel
theorem dL_law_490 : decode cL_law 490 = .ok (.iconst 1, 1) := by decide +kernel
theorem dL_law_491 : decode cL_law 491 = .ok (.iadd, 1) := by decide +kernel
theorem dL_law_492 : decode cL_law 492 = .ok (.iaload, 1) := by decide +kernel
theorem dL_law_493 : decode cL_law 493 = .ok (.aload_n 0, 1) := by decide +kernel
theorem dL_law_494 : decode cL_law 494 = .ok (.iload 4, 2) := by decide +kernel
theorem dL_law_496 : decode cL_law 496 = .ok (.iconst 2, 1) := by decide +kernel
theorem dL_law_497 : decode cL_law 497 = .ok (.iadd, 1) := by decide +kernel
theorem dL_law_498 : decode cL_law 498 = .ok (.iaload, 1) := by decide +kernel
theorem dL_law_499 : decode cL_law 499 = .ok (.aload_n 0, 1) := by decide +kernel
theorem dL_law_500 : decode cL_law 500 = .ok (.iload 4, 2) := by decide +kernel
theorem dL_law_502 : decode cL_law 502 = .ok (.iconst 3, 1) := by decide +kernel
theorem dL_law_503 : decode cL_law 503 = .ok (.iadd, 1) := by decide +kernel
theorem dL_law_504 : decode cL_law 504 = .ok (.iaload, 1) := by decide +kernel
theorem dL_law_505 : decode cL_law 505 = .ok (.ifCond .eq 7, 3) := by decide +kernel
theorem dL_law_508 : decode cL_law 508 = .ok (.iconst 1, 1) := by decide +kernel
theorem dL_law_509 : decode cL_law 509 = .ok (.goto 4, 3) := by decide +kernel
theorem dL_law_512 : decode cL_law 512 = .ok (.iconst 0, 1) := by decide +kernel
theorem dL_law_513 : decode cL_law 513 = .ok (.aload_n 3, 1) := by decide +kernel
theorem dL_law_514 : decode cL_law 514 = .ok (.invokestatic 139, 3) := by decide +kernel
theorem dL_law_517 : decode cL_law 517 = .ok (.istore 5, 2) := by decide +kernel
theorem dL_law_519 : decode cL_law 519 = .ok (.aload_n 2, 1) := by decide +kernel
theorem dL_law_520 : decode cL_law 520 = .ok (.aload_n 0, 1) := by decide +kernel
theorem dL_law_521 : decode cL_law 521 = .ok (.iload 4, 2) := by decide +kernel
theorem dL_law_523 : decode cL_law 523 = .ok (.iconst 1, 1) := by decide +kernel
theorem dL_law_524 : decode cL_law 524 = .ok (.iadd, 1) := by decide +kernel
theorem dL_law_525 : decode cL_law 525 = .ok (.iaload, 1) := by decide +kernel
theorem dL_law_526 : decode cL_law 526 = .ok (.aload_n 0, 1) := by decide +kernel
theorem dL_law_527 : decode cL_law 527 = .ok (.iload 4, 2) := by decide +kernel
theorem dL_law_529 : decode cL_law 529 = .ok (.iconst 2, 1) := by decide +kernel
theorem dL_law_530 : decode cL_law 530 = .ok (.iadd, 1) := by decide +kernel
theorem dL_law_531 : decode cL_law 531 = .ok (.iaload, 1) := by decide +kernel
theorem dL_law_532 : decode cL_law 532 = .ok (.aload_n 0, 1) := by decide +kernel
theorem dL_law_533 : decode cL_law 533 = .ok (.iload 4, 2) := by decide +kernel
theorem dL_law_535 : decode cL_law 535 = .ok (.iconst 3, 1) := by decide +kernel
theorem dL_law_536 : decode cL_law 536 = .ok (.iadd, 1) := by decide +kernel
theorem dL_law_537 : decode cL_law 537 = .ok (.iaload, 1) := by decide +kernel
theorem dL_law_538 : decode cL_law 538 = .ok (.ifCond .eq 7, 3) := by decide +kernel
theorem dL_law_541 : decode cL_law 541 = .ok (.iconst 1, 1) := by decide +kernel
theorem dL_law_542 : decode cL_law 542 = .ok (.goto 4, 3) := by decide +kernel
theorem dL_law_545 : decode cL_law 545 = .ok (.iconst 0, 1) := by decide +kernel
theorem dL_law_546 : decode cL_law 546 = .ok (.invokevirtual 142, 3) := by decide +kernel
theorem dL_law_549 : decode cL_law 549 = .ok (.istore 6, 2) := by decide +kernel
theorem dL_law_551 : decode cL_law 551 = .ok (.aload_n 2, 1) := by decide +kernel
theorem dL_law_552 : decode cL_law 552 = .ok (.invokevirtual 127, 3) := by decide +kernel
theorem dL_law_555 : decode cL_law 555 = .ok (.iload 5, 2) := by decide +kernel
theorem dL_law_557 : decode cL_law 557 = .ok (.if_icmp .eq 5, 3) := by decide +kernel
theorem dL_law_560 : decode cL_law 560 = .ok (.iconst 0, 1) := by decide +kernel
theorem dL_law_561 : decode cL_law 561 = .ok (.ireturn, 1) := by decide +kernel
theorem dL_law_562 : decode cL_law 562 = .ok (.iload 5, 2) := by decide +kernel
theorem dL_law_564 : decode cL_law 564 = .ok (.ifCond .ne 15, 3) := by decide +kernel
theorem dL_law_567 : decode cL_law 567 = .ok (.aload_n 3, 1) := by decide +kernel
theorem dL_law_568 : decode cL_law 568 = .ok (.iconst 0, 1) := by decide +kernel
theorem dL_law_569 : decode cL_law 569 = .ok (.laload, 1) := by decide +kernel
theorem dL_law_570 : decode cL_law 570 = .ok (.iload 6, 2) := by decide +kernel
theorem dL_law_572 : decode cL_law 572 = .ok (.i2l, 1) := by decide +kernel
theorem dL_law_573 : decode cL_law 573 = .ok (.lcmp, 1) := by decide +kernel
theorem dL_law_574 : decode cL_law 574 = .ok (.ifCond .eq 5, 3) := by decide +kernel
theorem dL_law_577 : decode cL_law 577 = .ok (.iconst 0, 1) := by decide +kernel
theorem dL_law_578 : decode cL_law 578 = .ok (.ireturn, 1) := by decide +kernel
theorem dL_law_579 : decode cL_law 579 = .ok (.goto 1854, 3) := by decide +kernel
theorem dL_law_582 : decode cL_law 582 = .ok (.aload_n 1, 1) := by decide +kernel
theorem dL_law_583 : decode cL_law 583 = .ok (.aload_n 0, 1) := by decide +kernel
theorem dL_law_584 : decode cL_law 584 = .ok (.iload 4, 2) := by decide +kernel
theorem dL_law_586 : decode cL_law 586 = .ok (.iconst 1, 1) := by decide +kernel
theorem dL_law_587 : decode cL_law 587 = .ok (.iadd, 1) := by decide +kernel
theorem dL_law_588 : decode cL_law 588 = .ok (.iaload, 1) := by decide +kernel
theorem dL_law_589 : decode cL_law 589 = .ok (.aload_n 0, 1) := by decide +kernel
theorem dL_law_590 : decode cL_law 590 = .ok (.iload 4, 2) := by decide +kernel
theorem dL_law_592 : decode cL_law 592 = .ok (.iconst 2, 1) := by decide +kernel
theorem dL_law_593 : decode cL_law 593 = .ok (.iadd, 1) := by decide +kernel
theorem dL_law_594 : decode cL_law 594 = .ok (.iaload, 1) := by decide +kernel
theorem dL_law_595 : decode cL_law 595 = .ok (.aload_n 0, 1) := by decide +kernel
theorem dL_law_596 : decode cL_law 596 = .ok (.iload 4, 2) := by decide +kernel
theorem dL_law_598 : decode cL_law 598 = .ok (.iconst 3, 1) := by decide +kernel
theorem dL_law_599 : decode cL_law 599 = .ok (.iadd, 1) := by decide +kernel
theorem dL_law_600 : decode cL_law 600 = .ok (.iaload, 1) := by decide +kernel
theorem dL_law_601 : decode cL_law 601 = .ok (.aload_n 3, 1) := by decide +kernel
theorem dL_law_602 : decode cL_law 602 = .ok (.invokestatic 143, 3) := by decide +kernel
theorem dL_law_605 : decode cL_law 605 = .ok (.istore 5, 2) := by decide +kernel
theorem dL_law_607 : decode cL_law 607 = .ok (.aload_n 2, 1) := by decide +kernel
theorem dL_law_608 : decode cL_law 608 = .ok (.aload_n 0, 1) := by decide +kernel
theorem dL_law_609 : decode cL_law 609 = .ok (.iload 4, 2) := by decide +kernel
theorem dL_law_611 : decode cL_law 611 = .ok (.iconst 1, 1) := by decide +kernel
theorem dL_law_612 : decode cL_law 612 = .ok (.iadd, 1) := by decide +kernel
theorem dL_law_613 : decode cL_law 613 = .ok (.iaload, 1) := by decide +kernel
theorem dL_law_614 : decode cL_law 614 = .ok (.aload_n 0, 1) := by decide +kernel
theorem dL_law_615 : decode cL_law 615 = .ok (.iload 4, 2) := by decide +kernel
theorem dL_law_617 : decode cL_law 617 = .ok (.iconst 2, 1) := by decide +kernel
theorem dL_law_618 : decode cL_law 618 = .ok (.iadd, 1) := by decide +kernel
theorem dL_law_619 : decode cL_law 619 = .ok (.iaload, 1) := by decide +kernel
theorem dL_law_620 : decode cL_law 620 = .ok (.aload_n 0, 1) := by decide +kernel
theorem dL_law_621 : decode cL_law 621 = .ok (.iload 4, 2) := by decide +kernel
theorem dL_law_623 : decode cL_law 623 = .ok (.iconst 3, 1) := by decide +kernel
theorem dL_law_624 : decode cL_law 624 = .ok (.iadd, 1) := by decide +kernel
theorem dL_law_625 : decode cL_law 625 = .ok (.iaload, 1) := by decide +kernel
theorem dL_law_626 : decode cL_law 626 = .ok (.invokevirtual 145, 3) := by decide +kernel
theorem dL_law_629 : decode cL_law 629 = .ok (.istore 6, 2) := by decide +kernel
theorem dL_law_631 : decode cL_law 631 = .ok (.aload_n 2, 1) := by decide +kernel
theorem dL_law_632 : decode cL_law 632 = .ok (.invokevirtual 127, 3) := by decide +kernel
theorem dL_law_635 : decode cL_law 635 = .ok (.iload 5, 2) := by decide +kernel
theorem dL_law_637 : decode cL_law 637 = .ok (.if_icmp .eq 5, 3) := by decide +kernel
theorem dL_law_640 : decode cL_law 640 = .ok (.iconst 0, 1) := by decide +kernel
theorem dL_law_641 : decode cL_law 641 = .ok (.ireturn, 1) := by decide +kernel
theorem dL_law_642 : decode cL_law 642 = .ok (.iload 5, 2) := by decide +kernel
theorem dL_law_644 : decode cL_law 644 = .ok (.ifCond .ne 15, 3) := by decide +kernel
theorem dL_law_647 : decode cL_law 647 = .ok (.aload_n 3, 1) := by decide +kernel
theorem dL_law_648 : decode cL_law 648 = .ok (.iconst 0, 1) := by decide +kernel
theorem dL_law_649 : decode cL_law 649 = .ok (.laload, 1) := by decide +kernel
theorem dL_law_650 : decode cL_law 650 = .ok (.iload 6, 2) := by decide +kernel
theorem dL_law_652 : decode cL_law 652 = .ok (.i2l, 1) := by decide +kernel
theorem dL_law_653 : decode cL_law 653 = .ok (.lcmp, 1) := by decide +kernel
theorem dL_law_654 : decode cL_law 654 = .ok (.ifCond .eq 5, 3) := by decide +kernel
theorem dL_law_657 : decode cL_law 657 = .ok (.iconst 0, 1) := by decide +kernel
theorem dL_law_658 : decode cL_law 658 = .ok (.ireturn, 1) := by decide +kernel
theorem dL_law_659 : decode cL_law 659 = .ok (.goto 1774, 3) := by decide +kernel
theorem dL_law_662 : decode cL_law 662 = .ok (.aload_n 1, 1) := by decide +kernel
theorem dL_law_663 : decode cL_law 663 = .ok (.aload_n 0, 1) := by decide +kernel
theorem dL_law_664 : decode cL_law 664 = .ok (.iload 4, 2) := by decide +kernel
theorem dL_law_666 : decode cL_law 666 = .ok (.iconst 1, 1) := by decide +kernel
theorem dL_law_667 : decode cL_law 667 = .ok (.iadd, 1) := by decide +kernel
theorem dL_law_668 : decode cL_law 668 = .ok (.iaload, 1) := by decide +kernel
theorem dL_law_669 : decode cL_law 669 = .ok (.aload_n 0, 1) := by decide +kernel
theorem dL_law_670 : decode cL_law 670 = .ok (.iload 4, 2) := by decide +kernel
theorem dL_law_672 : decode cL_law 672 = .ok (.iconst 2, 1) := by decide +kernel
theorem dL_law_673 : decode cL_law 673 = .ok (.iadd, 1) := by decide +kernel
theorem dL_law_674 : decode cL_law 674 = .ok (.iaload, 1) := by decide +kernel
theorem dL_law_675 : decode cL_law 675 = .ok (.aload_n 3, 1) := by decide +kernel
theorem dL_law_676 : decode cL_law 676 = .ok (.invokestatic 146, 3) := by decide +kernel
theorem dL_law_679 : decode cL_law 679 = .ok (.istore 5, 2) := by decide +kernel
theorem dL_law_681 : decode cL_law 681 = .ok (.aload_n 2, 1) := by decide +kernel
theorem dL_law_682 : decode cL_law 682 = .ok (.aload_n 0, 1) := by decide +kernel
theorem dL_law_683 : decode cL_law 683 = .ok (.iload 4, 2) := by decide +kernel
theorem dL_law_685 : decode cL_law 685 = .ok (.iconst 1, 1) := by decide +kernel
theorem dL_law_686 : decode cL_law 686 = .ok (.iadd, 1) := by decide +kernel
theorem dL_law_687 : decode cL_law 687 = .ok (.iaload, 1) := by decide +kernel
theorem dL_law_688 : decode cL_law 688 = .ok (.aload_n 0, 1) := by decide +kernel
theorem dL_law_689 : decode cL_law 689 = .ok (.iload 4, 2) := by decide +kernel
theorem dL_law_691 : decode cL_law 691 = .ok (.iconst 2, 1) := by decide +kernel
theorem dL_law_692 : decode cL_law 692 = .ok (.iadd, 1) := by decide +kernel
theorem dL_law_693 : decode cL_law 693 = .ok (.iaload, 1) := by decide +kernel
theorem dL_law_694 : decode cL_law 694 = .ok (.invokevirtual 149, 3) := by decide +kernel
theorem dL_law_697 : decode cL_law 697 = .ok (.istore 6, 2) := by decide +kernel
theorem dL_law_699 : decode cL_law 699 = .ok (.aload_n 2, 1) := by decide +kernel
theorem dL_law_700 : decode cL_law 700 = .ok (.invokevirtual 127, 3) := by decide +kernel
theorem dL_law_703 : decode cL_law 703 = .ok (.iload 5, 2) := by decide +kernel
theorem dL_law_705 : decode cL_law 705 = .ok (.if_icmp .eq 5, 3) := by decide +kernel
theorem dL_law_708 : decode cL_law 708 = .ok (.iconst 0, 1) := by decide +kernel
theorem dL_law_709 : decode cL_law 709 = .ok (.ireturn, 1) := by decide +kernel
theorem dL_law_710 : decode cL_law 710 = .ok (.iload 5, 2) := by decide +kernel
theorem dL_law_712 : decode cL_law 712 = .ok (.ifCond .ne 15, 3) := by decide +kernel
theorem dL_law_715 : decode cL_law 715 = .ok (.aload_n 3, 1) := by decide +kernel
theorem dL_law_716 : decode cL_law 716 = .ok (.iconst 0, 1) := by decide +kernel
theorem dL_law_717 : decode cL_law 717 = .ok (.laload, 1) := by decide +kernel
theorem dL_law_718 : decode cL_law 718 = .ok (.iload 6, 2) := by decide +kernel
theorem dL_law_720 : decode cL_law 720 = .ok (.i2l, 1) := by decide +kernel
theorem dL_law_721 : decode cL_law 721 = .ok (.lcmp, 1) := by decide +kernel
theorem dL_law_722 : decode cL_law 722 = .ok (.ifCond .eq 5, 3) := by decide +kernel
theorem dL_law_725 : decode cL_law 725 = .ok (.iconst 0, 1) := by decide +kernel
theorem dL_law_726 : decode cL_law 726 = .ok (.ireturn, 1) := by decide +kernel
theorem dL_law_727 : decode cL_law 727 = .ok (.goto 1706, 3) := by decide +kernel
theorem dL_law_730 : decode cL_law 730 = .ok (.aload_n 1, 1) := by decide +kernel
theorem dL_law_731 : decode cL_law 731 = .ok (.aload_n 0, 1) := by decide +kernel
theorem dL_law_732 : decode cL_law 732 = .ok (.iload 4, 2) := by decide +kernel
theorem dL_law_734 : decode cL_law 734 = .ok (.iconst 1, 1) := by decide +kernel
theorem dL_law_735 : decode cL_law 735 = .ok (.iadd, 1) := by decide +kernel
theorem dL_law_736 : decode cL_law 736 = .ok (.iaload, 1) := by decide +kernel
theorem dL_law_737 : decode cL_law 737 = .ok (.aload_n 0, 1) := by decide +kernel
theorem dL_law_738 : decode cL_law 738 = .ok (.iload 4, 2) := by decide +kernel
theorem dL_law_740 : decode cL_law 740 = .ok (.iconst 2, 1) := by decide +kernel
theorem dL_law_741 : decode cL_law 741 = .ok (.iadd, 1) := by decide +kernel
theorem dL_law_742 : decode cL_law 742 = .ok (.iaload, 1) := by decide +kernel
theorem dL_law_743 : decode cL_law 743 = .ok (.aload_n 3, 1) := by decide +kernel
theorem dL_law_744 : decode cL_law 744 = .ok (.invokestatic 150, 3) := by decide +kernel
theorem dL_law_747 : decode cL_law 747 = .ok (.istore 5, 2) := by decide +kernel
theorem dL_law_749 : decode cL_law 749 = .ok (.aload_n 2, 1) := by decide +kernel
theorem dL_law_750 : decode cL_law 750 = .ok (.aload_n 0, 1) := by decide +kernel
theorem dL_law_751 : decode cL_law 751 = .ok (.iload 4, 2) := by decide +kernel
theorem dL_law_753 : decode cL_law 753 = .ok (.iconst 1, 1) := by decide +kernel
theorem dL_law_754 : decode cL_law 754 = .ok (.iadd, 1) := by decide +kernel
theorem dL_law_755 : decode cL_law 755 = .ok (.iaload, 1) := by decide +kernel
theorem dL_law_756 : decode cL_law 756 = .ok (.aload_n 0, 1) := by decide +kernel
theorem dL_law_757 : decode cL_law 757 = .ok (.iload 4, 2) := by decide +kernel
theorem dL_law_759 : decode cL_law 759 = .ok (.iconst 2, 1) := by decide +kernel
theorem dL_law_760 : decode cL_law 760 = .ok (.iadd, 1) := by decide +kernel
theorem dL_law_761 : decode cL_law 761 = .ok (.iaload, 1) := by decide +kernel
theorem dL_law_762 : decode cL_law 762 = .ok (.invokevirtual 152, 3) := by decide +kernel
theorem dL_law_765 : decode cL_law 765 = .ok (.istore 6, 2) := by decide +kernel
theorem dL_law_767 : decode cL_law 767 = .ok (.aload_n 2, 1) := by decide +kernel
theorem dL_law_768 : decode cL_law 768 = .ok (.invokevirtual 127, 3) := by decide +kernel
theorem dL_law_771 : decode cL_law 771 = .ok (.iload 5, 2) := by decide +kernel
theorem dL_law_773 : decode cL_law 773 = .ok (.if_icmp .eq 5, 3) := by decide +kernel
theorem dL_law_776 : decode cL_law 776 = .ok (.iconst 0, 1) := by decide +kernel
theorem dL_law_777 : decode cL_law 777 = .ok (.ireturn, 1) := by decide +kernel
theorem dL_law_778 : decode cL_law 778 = .ok (.iload 5, 2) := by decide +kernel
theorem dL_law_780 : decode cL_law 780 = .ok (.ifCond .ne 15, 3) := by decide +kernel
theorem dL_law_783 : decode cL_law 783 = .ok (.aload_n 3, 1) := by decide +kernel
theorem dL_law_784 : decode cL_law 784 = .ok (.iconst 0, 1) := by decide +kernel
theorem dL_law_785 : decode cL_law 785 = .ok (.laload, 1) := by decide +kernel
theorem dL_law_786 : decode cL_law 786 = .ok (.iload 6, 2) := by decide +kernel
theorem dL_law_788 : decode cL_law 788 = .ok (.i2l, 1) := by decide +kernel
theorem dL_law_789 : decode cL_law 789 = .ok (.lcmp, 1) := by decide +kernel
theorem dL_law_790 : decode cL_law 790 = .ok (.ifCond .eq 5, 3) := by decide +kernel
theorem dL_law_793 : decode cL_law 793 = .ok (.iconst 0, 1) := by decide +kernel
theorem dL_law_794 : decode cL_law 794 = .ok (.ireturn, 1) := by decide +kernel
theorem dL_law_795 : decode cL_law 795 = .ok (.goto 1638, 3) := by decide +kernel
theorem dL_law_798 : decode cL_law 798 = .ok (.aload_n 1, 1) := by decide +kernel
theorem dL_law_799 : decode cL_law 799 = .ok (.aload_n 0, 1) := by decide +kernel
theorem dL_law_800 : decode cL_law 800 = .ok (.iload 4, 2) := by decide +kernel
theorem dL_law_802 : decode cL_law 802 = .ok (.iconst 1, 1) := by decide +kernel
theorem dL_law_803 : decode cL_law 803 = .ok (.iadd, 1) := by decide +kernel
theorem dL_law_804 : decode cL_law 804 = .ok (.iaload, 1) := by decide +kernel
theorem dL_law_805 : decode cL_law 805 = .ok (.aload_n 3, 1) := by decide +kernel
theorem dL_law_806 : decode cL_law 806 = .ok (.invokestatic 153, 3) := by decide +kernel
theorem dL_law_809 : decode cL_law 809 = .ok (.istore 5, 2) := by decide +kernel
theorem dL_law_811 : decode cL_law 811 = .ok (.aload_n 2, 1) := by decide +kernel
theorem dL_law_812 : decode cL_law 812 = .ok (.aload_n 0, 1) := by decide +kernel
theorem dL_law_813 : decode cL_law 813 = .ok (.iload 4, 2) := by decide +kernel
theorem dL_law_815 : decode cL_law 815 = .ok (.iconst 1, 1) := by decide +kernel
theorem dL_law_816 : decode cL_law 816 = .ok (.iadd, 1) := by decide +kernel
theorem dL_law_817 : decode cL_law 817 = .ok (.iaload, 1) := by decide +kernel
theorem dL_law_818 : decode cL_law 818 = .ok (.invokevirtual 156, 3) := by decide +kernel
theorem dL_law_821 : decode cL_law 821 = .ok (.istore 6, 2) := by decide +kernel
theorem dL_law_823 : decode cL_law 823 = .ok (.aload_n 2, 1) := by decide +kernel
theorem dL_law_824 : decode cL_law 824 = .ok (.invokevirtual 127, 3) := by decide +kernel
theorem dL_law_827 : decode cL_law 827 = .ok (.iload 5, 2) := by decide +kernel
theorem dL_law_829 : decode cL_law 829 = .ok (.if_icmp .eq 5, 3) := by decide +kernel
theorem dL_law_832 : decode cL_law 832 = .ok (.iconst 0, 1) := by decide +kernel
theorem dL_law_833 : decode cL_law 833 = .ok (.ireturn, 1) := by decide +kernel
theorem dL_law_834 : decode cL_law 834 = .ok (.iload 5, 2) := by decide +kernel
theorem dL_law_836 : decode cL_law 836 = .ok (.ifCond .ne 15, 3) := by decide +kernel
theorem dL_law_839 : decode cL_law 839 = .ok (.aload_n 3, 1) := by decide +kernel
theorem dL_law_840 : decode cL_law 840 = .ok (.iconst 0, 1) := by decide +kernel
theorem dL_law_841 : decode cL_law 841 = .ok (.laload, 1) := by decide +kernel
theorem dL_law_842 : decode cL_law 842 = .ok (.iload 6, 2) := by decide +kernel
theorem dL_law_844 : decode cL_law 844 = .ok (.i2l, 1) := by decide +kernel
theorem dL_law_845 : decode cL_law 845 = .ok (.lcmp, 1) := by decide +kernel
theorem dL_law_846 : decode cL_law 846 = .ok (.ifCond .eq 5, 3) := by decide +kernel
theorem dL_law_849 : decode cL_law 849 = .ok (.iconst 0, 1) := by decide +kernel
theorem dL_law_850 : decode cL_law 850 = .ok (.ireturn, 1) := by decide +kernel
theorem dL_law_851 : decode cL_law 851 = .ok (.goto 1582, 3) := by decide +kernel
theorem dL_law_854 : decode cL_law 854 = .ok (.aload_n 1, 1) := by decide +kernel
theorem dL_law_855 : decode cL_law 855 = .ok (.aload_n 0, 1) := by decide +kernel
theorem dL_law_856 : decode cL_law 856 = .ok (.iload 4, 2) := by decide +kernel
theorem dL_law_858 : decode cL_law 858 = .ok (.iconst 1, 1) := by decide +kernel
theorem dL_law_859 : decode cL_law 859 = .ok (.iadd, 1) := by decide +kernel
theorem dL_law_860 : decode cL_law 860 = .ok (.iaload, 1) := by decide +kernel
theorem dL_law_861 : decode cL_law 861 = .ok (.aload_n 3, 1) := by decide +kernel
theorem dL_law_862 : decode cL_law 862 = .ok (.invokestatic 157, 3) := by decide +kernel
theorem dL_law_865 : decode cL_law 865 = .ok (.istore 5, 2) := by decide +kernel
theorem dL_law_867 : decode cL_law 867 = .ok (.aload_n 2, 1) := by decide +kernel
theorem dL_law_868 : decode cL_law 868 = .ok (.aload_n 0, 1) := by decide +kernel
theorem dL_law_869 : decode cL_law 869 = .ok (.iload 4, 2) := by decide +kernel
theorem dL_law_871 : decode cL_law 871 = .ok (.iconst 1, 1) := by decide +kernel
theorem dL_law_872 : decode cL_law 872 = .ok (.iadd, 1) := by decide +kernel
theorem dL_law_873 : decode cL_law 873 = .ok (.iaload, 1) := by decide +kernel
theorem dL_law_874 : decode cL_law 874 = .ok (.invokevirtual 159, 3) := by decide +kernel
theorem dL_law_877 : decode cL_law 877 = .ok (.istore 6, 2) := by decide +kernel
theorem dL_law_879 : decode cL_law 879 = .ok (.aload_n 2, 1) := by decide +kernel
theorem dL_law_880 : decode cL_law 880 = .ok (.invokevirtual 127, 3) := by decide +kernel
theorem dL_law_883 : decode cL_law 883 = .ok (.iload 5, 2) := by decide +kernel
theorem dL_law_885 : decode cL_law 885 = .ok (.if_icmp .eq 5, 3) := by decide +kernel
theorem dL_law_888 : decode cL_law 888 = .ok (.iconst 0, 1) := by decide +kernel
theorem dL_law_889 : decode cL_law 889 = .ok (.ireturn, 1) := by decide +kernel
theorem dL_law_890 : decode cL_law 890 = .ok (.iload 5, 2) := by decide +kernel
theorem dL_law_892 : decode cL_law 892 = .ok (.ifCond .ne 15, 3) := by decide +kernel
theorem dL_law_895 : decode cL_law 895 = .ok (.aload_n 3, 1) := by decide +kernel
theorem dL_law_896 : decode cL_law 896 = .ok (.iconst 0, 1) := by decide +kernel
theorem dL_law_897 : decode cL_law 897 = .ok (.laload, 1) := by decide +kernel
theorem dL_law_898 : decode cL_law 898 = .ok (.iload 6, 2) := by decide +kernel
theorem dL_law_900 : decode cL_law 900 = .ok (.i2l, 1) := by decide +kernel
theorem dL_law_901 : decode cL_law 901 = .ok (.lcmp, 1) := by decide +kernel
theorem dL_law_902 : decode cL_law 902 = .ok (.ifCond .eq 5, 3) := by decide +kernel
theorem dL_law_905 : decode cL_law 905 = .ok (.iconst 0, 1) := by decide +kernel
theorem dL_law_906 : decode cL_law 906 = .ok (.ireturn, 1) := by decide +kernel
theorem dL_law_907 : decode cL_law 907 = .ok (.goto 1526, 3) := by decide +kernel
theorem dL_law_910 : decode cL_law 910 = .ok (.aload_n 1, 1) := by decide +kernel
theorem dL_law_911 : decode cL_law 911 = .ok (.invokevirtual 160, 3) := by decide +kernel
theorem dL_law_914 : decode cL_law 914 = .ok (.aload_n 2, 1) := by decide +kernel
theorem dL_law_915 : decode cL_law 915 = .ok (.invokevirtual 163, 3) := by decide +kernel
theorem dL_law_918 : decode cL_law 918 = .ok (.if_icmp .eq 1515, 3) := by decide +kernel
theorem dL_law_921 : decode cL_law 921 = .ok (.iconst 0, 1) := by decide +kernel
theorem dL_law_922 : decode cL_law 922 = .ok (.ireturn, 1) := by decide +kernel
theorem dL_law_923 : decode cL_law 923 = .ok (.aload_n 1, 1) := by decide +kernel
theorem dL_law_924 : decode cL_law 924 = .ok (.aload_n 0, 1) := by decide +kernel
theorem dL_law_925 : decode cL_law 925 = .ok (.iload 4, 2) := by decide +kernel
theorem dL_law_927 : decode cL_law 927 = .ok (.iconst 1, 1) := by decide +kernel
theorem dL_law_928 : decode cL_law 928 = .ok (.iadd, 1) := by decide +kernel
theorem dL_law_929 : decode cL_law 929 = .ok (.iaload, 1) := by decide +kernel
theorem dL_law_930 : decode cL_law 930 = .ok (.aload_n 3, 1) := by decide +kernel
theorem dL_law_931 : decode cL_law 931 = .ok (.invokestatic 164, 3) := by decide +kernel
theorem dL_law_934 : decode cL_law 934 = .ok (.istore 5, 2) := by decide +kernel
theorem dL_law_936 : decode cL_law 936 = .ok (.aload_n 2, 1) := by decide +kernel
theorem dL_law_937 : decode cL_law 937 = .ok (.aload_n 0, 1) := by decide +kernel
theorem dL_law_938 : decode cL_law 938 = .ok (.iload 4, 2) := by decide +kernel
theorem dL_law_940 : decode cL_law 940 = .ok (.iconst 1, 1) := by decide +kernel
theorem dL_law_941 : decode cL_law 941 = .ok (.iadd, 1) := by decide +kernel
theorem dL_law_942 : decode cL_law 942 = .ok (.iaload, 1) := by decide +kernel
theorem dL_law_943 : decode cL_law 943 = .ok (.invokevirtual 166, 3) := by decide +kernel
theorem dL_law_946 : decode cL_law 946 = .ok (.istore 6, 2) := by decide +kernel
theorem dL_law_948 : decode cL_law 948 = .ok (.aload_n 2, 1) := by decide +kernel
theorem dL_law_949 : decode cL_law 949 = .ok (.invokevirtual 127, 3) := by decide +kernel
theorem dL_law_952 : decode cL_law 952 = .ok (.iload 5, 2) := by decide +kernel
theorem dL_law_954 : decode cL_law 954 = .ok (.if_icmp .eq 5, 3) := by decide +kernel
theorem dL_law_957 : decode cL_law 957 = .ok (.iconst 0, 1) := by decide +kernel
theorem dL_law_958 : decode cL_law 958 = .ok (.ireturn, 1) := by decide +kernel
theorem dL_law_959 : decode cL_law 959 = .ok (.iload 5, 2) := by decide +kernel
theorem dL_law_961 : decode cL_law 961 = .ok (.ifCond .ne 22, 3) := by decide +kernel
theorem dL_law_964 : decode cL_law 964 = .ok (.aload_n 3, 1) := by decide +kernel
theorem dL_law_965 : decode cL_law 965 = .ok (.iconst 0, 1) := by decide +kernel
theorem dL_law_966 : decode cL_law 966 = .ok (.laload, 1) := by decide +kernel
theorem dL_law_967 : decode cL_law 967 = .ok (.iload 6, 2) := by decide +kernel
theorem dL_law_969 : decode cL_law 969 = .ok (.ifCond .eq 7, 3) := by decide +kernel
theorem dL_law_972 : decode cL_law 972 = .ok (.lconst 1, 1) := by decide +kernel
theorem dL_law_973 : decode cL_law 973 = .ok (.goto 4, 3) := by decide +kernel
theorem dL_law_976 : decode cL_law 976 = .ok (.lconst 0, 1) := by decide +kernel
theorem dL_law_977 : decode cL_law 977 = .ok (.lcmp, 1) := by decide +kernel
theorem dL_law_978 : decode cL_law 978 = .ok (.ifCond .eq 5, 3) := by decide +kernel
theorem dL_law_981 : decode cL_law 981 = .ok (.iconst 0, 1) := by decide +kernel
theorem dL_law_982 : decode cL_law 982 = .ok (.ireturn, 1) := by decide +kernel
theorem dL_law_983 : decode cL_law 983 = .ok (.goto 1450, 3) := by decide +kernel
theorem dL_law_986 : decode cL_law 986 = .ok (.aload_n 1, 1) := by decide +kernel
theorem dL_law_987 : decode cL_law 987 = .ok (.aload_n 0, 1) := by decide +kernel
theorem dL_law_988 : decode cL_law 988 = .ok (.iload 4, 2) := by decide +kernel
theorem dL_law_990 : decode cL_law 990 = .ok (.iconst 1, 1) := by decide +kernel
theorem dL_law_991 : decode cL_law 991 = .ok (.iadd, 1) := by decide +kernel
theorem dL_law_992 : decode cL_law 992 = .ok (.iaload, 1) := by decide +kernel
theorem dL_law_993 : decode cL_law 993 = .ok (.aload_n 3, 1) := by decide +kernel
theorem dL_law_994 : decode cL_law 994 = .ok (.invokestatic 167, 3) := by decide +kernel
theorem dL_law_997 : decode cL_law 997 = .ok (.istore 5, 2) := by decide +kernel
theorem dL_law_999 : decode cL_law 999 = .ok (.aload_n 2, 1) := by decide +kernel
theorem dL_law_1000 : decode cL_law 1000 = .ok (.aload_n 0, 1) := by decide +kernel
theorem dL_law_1001 : decode cL_law 1001 = .ok (.iload 4, 2) := by decide +kernel
theorem dL_law_1003 : decode cL_law 1003 = .ok (.iconst 1, 1) := by decide +kernel
theorem dL_law_1004 : decode cL_law 1004 = .ok (.iadd, 1) := by decide +kernel
theorem dL_law_1005 : decode cL_law 1005 = .ok (.iaload, 1) := by decide +kernel
theorem dL_law_1006 : decode cL_law 1006 = .ok (.invokevirtual 169, 3) := by decide +kernel
theorem dL_law_1009 : decode cL_law 1009 = .ok (.istore 6, 2) := by decide +kernel
theorem dL_law_1011 : decode cL_law 1011 = .ok (.aload_n 2, 1) := by decide +kernel
theorem dL_law_1012 : decode cL_law 1012 = .ok (.invokevirtual 127, 3) := by decide +kernel
theorem dL_law_1015 : decode cL_law 1015 = .ok (.iload 5, 2) := by decide +kernel
theorem dL_law_1017 : decode cL_law 1017 = .ok (.if_icmp .eq 5, 3) := by decide +kernel
theorem dL_law_1020 : decode cL_law 1020 = .ok (.iconst 0, 1) := by decide +kernel
theorem dL_law_1021 : decode cL_law 1021 = .ok (.ireturn, 1) := by decide +kernel
theorem dL_law_1022 : decode cL_law 1022 = .ok (.iload 5, 2) := by decide +kernel
theorem dL_law_1024 : decode cL_law 1024 = .ok (.ifCond .ne 15, 3) := by decide +kernel
theorem dL_law_1027 : decode cL_law 1027 = .ok (.aload_n 3, 1) := by decide +kernel
theorem dL_law_1028 : decode cL_law 1028 = .ok (.iconst 0, 1) := by decide +kernel
theorem dL_law_1029 : decode cL_law 1029 = .ok (.laload, 1) := by decide +kernel
theorem dL_law_1030 : decode cL_law 1030 = .ok (.iload 6, 2) := by decide +kernel
theorem dL_law_1032 : decode cL_law 1032 = .ok (.i2l, 1) := by decide +kernel
theorem dL_law_1033 : decode cL_law 1033 = .ok (.lcmp, 1) := by decide +kernel
theorem dL_law_1034 : decode cL_law 1034 = .ok (.ifCond .eq 5, 3) := by decide +kernel
theorem dL_law_1037 : decode cL_law 1037 = .ok (.iconst 0, 1) := by decide +kernel
theorem dL_law_1038 : decode cL_law 1038 = .ok (.ireturn, 1) := by decide +kernel
theorem dL_law_1039 : decode cL_law 1039 = .ok (.goto 1394, 3) := by decide +kernel
theorem dL_law_1042 : decode cL_law 1042 = .ok (.aload_n 1, 1) := by decide +kernel
theorem dL_law_1043 : decode cL_law 1043 = .ok (.invokevirtual 170, 3) := by decide +kernel
theorem dL_law_1046 : decode cL_law 1046 = .ok (.aload_n 2, 1) := by decide +kernel
theorem dL_law_1047 : decode cL_law 1047 = .ok (.invokevirtual 173, 3) := by decide +kernel
theorem dL_law_1050 : decode cL_law 1050 = .ok (.if_icmp .eq 1383, 3) := by decide +kernel
theorem dL_law_1053 : decode cL_law 1053 = .ok (.iconst 0, 1) := by decide +kernel
theorem dL_law_1054 : decode cL_law 1054 = .ok (.ireturn, 1) := by decide +kernel
theorem dL_law_1055 : decode cL_law 1055 = .ok (.aload_n 1, 1) := by decide +kernel
theorem dL_law_1056 : decode cL_law 1056 = .ok (.invokevirtual 174, 3) := by decide +kernel
theorem dL_law_1059 : decode cL_law 1059 = .ok (.aload_n 2, 1) := by decide +kernel
theorem dL_law_1060 : decode cL_law 1060 = .ok (.invokevirtual 178, 3) := by decide +kernel
theorem dL_law_1063 : decode cL_law 1063 = .ok (.lcmp, 1) := by decide +kernel
theorem dL_law_1064 : decode cL_law 1064 = .ok (.ifCond .eq 1369, 3) := by decide +kernel
theorem dL_law_1067 : decode cL_law 1067 = .ok (.iconst 0, 1) := by decide +kernel
theorem dL_law_1068 : decode cL_law 1068 = .ok (.ireturn, 1) := by decide +kernel
theorem dL_law_1069 : decode cL_law 1069 = .ok (.aload_n 1, 1) := by decide +kernel
theorem dL_law_1070 : decode cL_law 1070 = .ok (.aload_n 0, 1) := by decide +kernel
theorem dL_law_1071 : decode cL_law 1071 = .ok (.iload 4, 2) := by decide +kernel
theorem dL_law_1073 : decode cL_law 1073 = .ok (.iconst 1, 1) := by decide +kernel
theorem dL_law_1074 : decode cL_law 1074 = .ok (.iadd, 1) := by decide +kernel
theorem dL_law_1075 : decode cL_law 1075 = .ok (.iaload, 1) := by decide +kernel
theorem dL_law_1076 : decode cL_law 1076 = .ok (.aload_n 3, 1) := by decide +kernel
theorem dL_law_1077 : decode cL_law 1077 = .ok (.invokestatic 179, 3) := by decide +kernel
theorem dL_law_1080 : decode cL_law 1080 = .ok (.istore 5, 2) := by decide +kernel
theorem dL_law_1082 : decode cL_law 1082 = .ok (.aload_n 2, 1) := by decide +kernel
theorem dL_law_1083 : decode cL_law 1083 = .ok (.aload_n 0, 1) := by decide +kernel
theorem dL_law_1084 : decode cL_law 1084 = .ok (.iload 4, 2) := by decide +kernel
theorem dL_law_1086 : decode cL_law 1086 = .ok (.iconst 1, 1) := by decide +kernel
theorem dL_law_1087 : decode cL_law 1087 = .ok (.iadd, 1) := by decide +kernel
theorem dL_law_1088 : decode cL_law 1088 = .ok (.iaload, 1) := by decide +kernel
theorem dL_law_1089 : decode cL_law 1089 = .ok (.invokevirtual 181, 3) := by decide +kernel
theorem dL_law_1092 : decode cL_law 1092 = .ok (.istore 6, 2) := by decide +kernel
theorem dL_law_1094 : decode cL_law 1094 = .ok (.aload_n 2, 1) := by decide +kernel
theorem dL_law_1095 : decode cL_law 1095 = .ok (.invokevirtual 127, 3) := by decide +kernel
theorem dL_law_1098 : decode cL_law 1098 = .ok (.iload 5, 2) := by decide +kernel
theorem dL_law_1100 : decode cL_law 1100 = .ok (.if_icmp .eq 5, 3) := by decide +kernel
theorem dL_law_1103 : decode cL_law 1103 = .ok (.iconst 0, 1) := by decide +kernel
theorem dL_law_1104 : decode cL_law 1104 = .ok (.ireturn, 1) := by decide +kernel
theorem dL_law_1105 : decode cL_law 1105 = .ok (.iload 5, 2) := by decide +kernel
theorem dL_law_1107 : decode cL_law 1107 = .ok (.ifCond .ne 15, 3) := by decide +kernel
theorem dL_law_1110 : decode cL_law 1110 = .ok (.aload_n 3, 1) := by decide +kernel
theorem dL_law_1111 : decode cL_law 1111 = .ok (.iconst 0, 1) := by decide +kernel
theorem dL_law_1112 : decode cL_law 1112 = .ok (.laload, 1) := by decide +kernel
theorem dL_law_1113 : decode cL_law 1113 = .ok (.iload 6, 2) := by decide +kernel
theorem dL_law_1115 : decode cL_law 1115 = .ok (.i2l, 1) := by decide +kernel
theorem dL_law_1116 : decode cL_law 1116 = .ok (.lcmp, 1) := by decide +kernel
theorem dL_law_1117 : decode cL_law 1117 = .ok (.ifCond .eq 5, 3) := by decide +kernel
theorem dL_law_1120 : decode cL_law 1120 = .ok (.iconst 0, 1) := by decide +kernel
theorem dL_law_1121 : decode cL_law 1121 = .ok (.ireturn, 1) := by decide +kernel
theorem dL_law_1122 : decode cL_law 1122 = .ok (.goto 1311, 3) := by decide +kernel
theorem dL_law_1125 : decode cL_law 1125 = .ok (.aload_n 1, 1) := by decide +kernel
theorem dL_law_1126 : decode cL_law 1126 = .ok (.aload_n 0, 1) := by decide +kernel
theorem dL_law_1127 : decode cL_law 1127 = .ok (.iload 4, 2) := by decide +kernel
theorem dL_law_1129 : decode cL_law 1129 = .ok (.iconst 1, 1) := by decide +kernel
theorem dL_law_1130 : decode cL_law 1130 = .ok (.iadd, 1) := by decide +kernel
theorem dL_law_1131 : decode cL_law 1131 = .ok (.iaload, 1) := by decide +kernel
theorem dL_law_1132 : decode cL_law 1132 = .ok (.aload_n 3, 1) := by decide +kernel
theorem dL_law_1133 : decode cL_law 1133 = .ok (.invokestatic 182, 3) := by decide +kernel
theorem dL_law_1136 : decode cL_law 1136 = .ok (.istore 5, 2) := by decide +kernel
theorem dL_law_1138 : decode cL_law 1138 = .ok (.aload_n 2, 1) := by decide +kernel
theorem dL_law_1139 : decode cL_law 1139 = .ok (.aload_n 0, 1) := by decide +kernel
theorem dL_law_1140 : decode cL_law 1140 = .ok (.iload 4, 2) := by decide +kernel
theorem dL_law_1142 : decode cL_law 1142 = .ok (.iconst 1, 1) := by decide +kernel
theorem dL_law_1143 : decode cL_law 1143 = .ok (.iadd, 1) := by decide +kernel
theorem dL_law_1144 : decode cL_law 1144 = .ok (.iaload, 1) := by decide +kernel
theorem dL_law_1145 : decode cL_law 1145 = .ok (.invokevirtual 184, 3) := by decide +kernel
theorem dL_law_1148 : decode cL_law 1148 = .ok (.istore 6, 2) := by decide +kernel
theorem dL_law_1150 : decode cL_law 1150 = .ok (.aload_n 2, 1) := by decide +kernel
theorem dL_law_1151 : decode cL_law 1151 = .ok (.invokevirtual 127, 3) := by decide +kernel
theorem dL_law_1154 : decode cL_law 1154 = .ok (.iload 5, 2) := by decide +kernel
theorem dL_law_1156 : decode cL_law 1156 = .ok (.if_icmp .eq 5, 3) := by decide +kernel
theorem dL_law_1159 : decode cL_law 1159 = .ok (.iconst 0, 1) := by decide +kernel
theorem dL_law_1160 : decode cL_law 1160 = .ok (.ireturn, 1) := by decide +kernel
theorem dL_law_1161 : decode cL_law 1161 = .ok (.iload 5, 2) := by decide +kernel
theorem dL_law_1163 : decode cL_law 1163 = .ok (.ifCond .ne 15, 3) := by decide +kernel
theorem dL_law_1166 : decode cL_law 1166 = .ok (.aload_n 3, 1) := by decide +kernel
theorem dL_law_1167 : decode cL_law 1167 = .ok (.iconst 0, 1) := by decide +kernel
theorem dL_law_1168 : decode cL_law 1168 = .ok (.laload, 1) := by decide +kernel
theorem dL_law_1169 : decode cL_law 1169 = .ok (.iload 6, 2) := by decide +kernel
theorem dL_law_1171 : decode cL_law 1171 = .ok (.i2l, 1) := by decide +kernel
theorem dL_law_1172 : decode cL_law 1172 = .ok (.lcmp, 1) := by decide +kernel
theorem dL_law_1173 : decode cL_law 1173 = .ok (.ifCond .eq 5, 3) := by decide +kernel
theorem dL_law_1176 : decode cL_law 1176 = .ok (.iconst 0, 1) := by decide +kernel
theorem dL_law_1177 : decode cL_law 1177 = .ok (.ireturn, 1) := by decide +kernel
theorem dL_law_1178 : decode cL_law 1178 = .ok (.goto 1255, 3) := by decide +kernel
theorem dL_law_1181 : decode cL_law 1181 = .ok (.aload_n 1, 1) := by decide +kernel
theorem dL_law_1182 : decode cL_law 1182 = .ok (.aload_n 0, 1) := by decide +kernel
theorem dL_law_1183 : decode cL_law 1183 = .ok (.iload 4, 2) := by decide +kernel
theorem dL_law_1185 : decode cL_law 1185 = .ok (.iconst 1, 1) := by decide +kernel
theorem dL_law_1186 : decode cL_law 1186 = .ok (.iadd, 1) := by decide +kernel
theorem dL_law_1187 : decode cL_law 1187 = .ok (.iaload, 1) := by decide +kernel
theorem dL_law_1188 : decode cL_law 1188 = .ok (.aload_n 3, 1) := by decide +kernel
theorem dL_law_1189 : decode cL_law 1189 = .ok (.invokestatic 185, 3) := by decide +kernel
theorem dL_law_1192 : decode cL_law 1192 = .ok (.istore 5, 2) := by decide +kernel
theorem dL_law_1194 : decode cL_law 1194 = .ok (.aload_n 2, 1) := by decide +kernel
theorem dL_law_1195 : decode cL_law 1195 = .ok (.aload_n 0, 1) := by decide +kernel
theorem dL_law_1196 : decode cL_law 1196 = .ok (.iload 4, 2) := by decide +kernel
theorem dL_law_1198 : decode cL_law 1198 = .ok (.iconst 1, 1) := by decide +kernel
theorem dL_law_1199 : decode cL_law 1199 = .ok (.iadd, 1) := by decide +kernel
theorem dL_law_1200 : decode cL_law 1200 = .ok (.iaload, 1) := by decide +kernel
theorem dL_law_1201 : decode cL_law 1201 = .ok (.invokevirtual 187, 3) := by decide +kernel
theorem dL_law_1204 : decode cL_law 1204 = .ok (.istore 6, 2) := by decide +kernel
theorem dL_law_1206 : decode cL_law 1206 = .ok (.aload_n 2, 1) := by decide +kernel
theorem dL_law_1207 : decode cL_law 1207 = .ok (.invokevirtual 127, 3) := by decide +kernel
theorem dL_law_1210 : decode cL_law 1210 = .ok (.iload 5, 2) := by decide +kernel
theorem dL_law_1212 : decode cL_law 1212 = .ok (.if_icmp .eq 5, 3) := by decide +kernel
theorem dL_law_1215 : decode cL_law 1215 = .ok (.iconst 0, 1) := by decide +kernel
theorem dL_law_1216 : decode cL_law 1216 = .ok (.ireturn, 1) := by decide +kernel
theorem dL_law_1217 : decode cL_law 1217 = .ok (.iload 5, 2) := by decide +kernel
theorem dL_law_1219 : decode cL_law 1219 = .ok (.ifCond .ne 15, 3) := by decide +kernel
theorem dL_law_1222 : decode cL_law 1222 = .ok (.aload_n 3, 1) := by decide +kernel
theorem dL_law_1223 : decode cL_law 1223 = .ok (.iconst 0, 1) := by decide +kernel
theorem dL_law_1224 : decode cL_law 1224 = .ok (.laload, 1) := by decide +kernel
theorem dL_law_1225 : decode cL_law 1225 = .ok (.iload 6, 2) := by decide +kernel
theorem dL_law_1227 : decode cL_law 1227 = .ok (.i2l, 1) := by decide +kernel
theorem dL_law_1228 : decode cL_law 1228 = .ok (.lcmp, 1) := by decide +kernel
theorem dL_law_1229 : decode cL_law 1229 = .ok (.ifCond .eq 5, 3) := by decide +kernel
theorem dL_law_1232 : decode cL_law 1232 = .ok (.iconst 0, 1) := by decide +kernel
theorem dL_law_1233 : decode cL_law 1233 = .ok (.ireturn, 1) := by decide +kernel
theorem dL_law_1234 : decode cL_law 1234 = .ok (.goto 1199, 3) := by decide +kernel
theorem dL_law_1237 : decode cL_law 1237 = .ok (.aload_n 1, 1) := by decide +kernel
theorem dL_law_1238 : decode cL_law 1238 = .ok (.aload_n 0, 1) := by decide +kernel
theorem dL_law_1239 : decode cL_law 1239 = .ok (.iload 4, 2) := by decide +kernel
theorem dL_law_1241 : decode cL_law 1241 = .ok (.iconst 1, 1) := by decide +kernel
theorem dL_law_1242 : decode cL_law 1242 = .ok (.iadd, 1) := by decide +kernel
theorem dL_law_1243 : decode cL_law 1243 = .ok (.iaload, 1) := by decide +kernel
theorem dL_law_1244 : decode cL_law 1244 = .ok (.aload_n 3, 1) := by decide +kernel
theorem dL_law_1245 : decode cL_law 1245 = .ok (.invokestatic 188, 3) := by decide +kernel
theorem dL_law_1248 : decode cL_law 1248 = .ok (.istore 5, 2) := by decide +kernel
theorem dL_law_1250 : decode cL_law 1250 = .ok (.aload_n 2, 1) := by decide +kernel
theorem dL_law_1251 : decode cL_law 1251 = .ok (.aload_n 0, 1) := by decide +kernel
theorem dL_law_1252 : decode cL_law 1252 = .ok (.iload 4, 2) := by decide +kernel
theorem dL_law_1254 : decode cL_law 1254 = .ok (.iconst 1, 1) := by decide +kernel
theorem dL_law_1255 : decode cL_law 1255 = .ok (.iadd, 1) := by decide +kernel
theorem dL_law_1256 : decode cL_law 1256 = .ok (.iaload, 1) := by decide +kernel
theorem dL_law_1257 : decode cL_law 1257 = .ok (.invokevirtual 190, 3) := by decide +kernel
theorem dL_law_1260 : decode cL_law 1260 = .ok (.lstore 6, 2) := by decide +kernel
theorem dL_law_1262 : decode cL_law 1262 = .ok (.aload_n 2, 1) := by decide +kernel
theorem dL_law_1263 : decode cL_law 1263 = .ok (.invokevirtual 127, 3) := by decide +kernel
theorem dL_law_1266 : decode cL_law 1266 = .ok (.iload 5, 2) := by decide +kernel
theorem dL_law_1268 : decode cL_law 1268 = .ok (.if_icmp .eq 5, 3) := by decide +kernel
theorem dL_law_1271 : decode cL_law 1271 = .ok (.iconst 0, 1) := by decide +kernel
theorem dL_law_1272 : decode cL_law 1272 = .ok (.ireturn, 1) := by decide +kernel
theorem dL_law_1273 : decode cL_law 1273 = .ok (.iload 5, 2) := by decide +kernel
theorem dL_law_1275 : decode cL_law 1275 = .ok (.ifCond .ne 14, 3) := by decide +kernel
theorem dL_law_1278 : decode cL_law 1278 = .ok (.aload_n 3, 1) := by decide +kernel
theorem dL_law_1279 : decode cL_law 1279 = .ok (.iconst 0, 1) := by decide +kernel
theorem dL_law_1280 : decode cL_law 1280 = .ok (.laload, 1) := by decide +kernel
theorem dL_law_1281 : decode cL_law 1281 = .ok (.lload 6, 2) := by decide +kernel
theorem dL_law_1283 : decode cL_law 1283 = .ok (.lcmp, 1) := by decide +kernel
theorem dL_law_1284 : decode cL_law 1284 = .ok (.ifCond .eq 5, 3) := by decide +kernel
theorem dL_law_1287 : decode cL_law 1287 = .ok (.iconst 0, 1) := by decide +kernel
theorem dL_law_1288 : decode cL_law 1288 = .ok (.ireturn, 1) := by decide +kernel
theorem dL_law_1289 : decode cL_law 1289 = .ok (.goto 1144, 3) := by decide +kernel
theorem dL_law_1292 : decode cL_law 1292 = .ok (.aload_n 1, 1) := by decide +kernel
theorem dL_law_1293 : decode cL_law 1293 = .ok (.aload_n 0, 1) := by decide +kernel
theorem dL_law_1294 : decode cL_law 1294 = .ok (.iload 4, 2) := by decide +kernel
theorem dL_law_1296 : decode cL_law 1296 = .ok (.iconst 1, 1) := by decide +kernel
theorem dL_law_1297 : decode cL_law 1297 = .ok (.iadd, 1) := by decide +kernel
theorem dL_law_1298 : decode cL_law 1298 = .ok (.iaload, 1) := by decide +kernel
theorem dL_law_1299 : decode cL_law 1299 = .ok (.aload_n 0, 1) := by decide +kernel
theorem dL_law_1300 : decode cL_law 1300 = .ok (.iload 4, 2) := by decide +kernel
theorem dL_law_1302 : decode cL_law 1302 = .ok (.iconst 2, 1) := by decide +kernel
theorem dL_law_1303 : decode cL_law 1303 = .ok (.iadd, 1) := by decide +kernel
theorem dL_law_1304 : decode cL_law 1304 = .ok (.iaload, 1) := by decide +kernel
theorem dL_law_1305 : decode cL_law 1305 = .ok (.aload_n 3, 1) := by decide +kernel
theorem dL_law_1306 : decode cL_law 1306 = .ok (.invokestatic 191, 3) := by decide +kernel
theorem dL_law_1309 : decode cL_law 1309 = .ok (.istore 5, 2) := by decide +kernel
theorem dL_law_1311 : decode cL_law 1311 = .ok (.aload_n 2, 1) := by decide +kernel
theorem dL_law_1312 : decode cL_law 1312 = .ok (.aload_n 0, 1) := by decide +kernel
theorem dL_law_1313 : decode cL_law 1313 = .ok (.iload 4, 2) := by decide +kernel
theorem dL_law_1315 : decode cL_law 1315 = .ok (.iconst 1, 1) := by decide +kernel
theorem dL_law_1316 : decode cL_law 1316 = .ok (.iadd, 1) := by decide +kernel
theorem dL_law_1317 : decode cL_law 1317 = .ok (.iaload, 1) := by decide +kernel
theorem dL_law_1318 : decode cL_law 1318 = .ok (.aload_n 0, 1) := by decide +kernel
theorem dL_law_1319 : decode cL_law 1319 = .ok (.iload 4, 2) := by decide +kernel
theorem dL_law_1321 : decode cL_law 1321 = .ok (.iconst 2, 1) := by decide +kernel
theorem dL_law_1322 : decode cL_law 1322 = .ok (.iadd, 1) := by decide +kernel
theorem dL_law_1323 : decode cL_law 1323 = .ok (.iaload, 1) := by decide +kernel
theorem dL_law_1324 : decode cL_law 1324 = .ok (.invokevirtual 193, 3) := by decide +kernel
theorem dL_law_1327 : decode cL_law 1327 = .ok (.istore 6, 2) := by decide +kernel
theorem dL_law_1329 : decode cL_law 1329 = .ok (.aload_n 2, 1) := by decide +kernel
theorem dL_law_1330 : decode cL_law 1330 = .ok (.invokevirtual 127, 3) := by decide +kernel
theorem dL_law_1333 : decode cL_law 1333 = .ok (.iload 5, 2) := by decide +kernel
theorem dL_law_1335 : decode cL_law 1335 = .ok (.if_icmp .eq 5, 3) := by decide +kernel
theorem dL_law_1338 : decode cL_law 1338 = .ok (.iconst 0, 1) := by decide +kernel
theorem dL_law_1339 : decode cL_law 1339 = .ok (.ireturn, 1) := by decide +kernel
theorem dL_law_1340 : decode cL_law 1340 = .ok (.iload 5, 2) := by decide +kernel
theorem dL_law_1342 : decode cL_law 1342 = .ok (.ifCond .ne 15, 3) := by decide +kernel
theorem dL_law_1345 : decode cL_law 1345 = .ok (.aload_n 3, 1) := by decide +kernel
theorem dL_law_1346 : decode cL_law 1346 = .ok (.iconst 0, 1) := by decide +kernel
theorem dL_law_1347 : decode cL_law 1347 = .ok (.laload, 1) := by decide +kernel
theorem dL_law_1348 : decode cL_law 1348 = .ok (.iload 6, 2) := by decide +kernel
theorem dL_law_1350 : decode cL_law 1350 = .ok (.i2l, 1) := by decide +kernel
theorem dL_law_1351 : decode cL_law 1351 = .ok (.lcmp, 1) := by decide +kernel
theorem dL_law_1352 : decode cL_law 1352 = .ok (.ifCond .eq 5, 3) := by decide +kernel
theorem dL_law_1355 : decode cL_law 1355 = .ok (.iconst 0, 1) := by decide +kernel
theorem dL_law_1356 : decode cL_law 1356 = .ok (.ireturn, 1) := by decide +kernel
theorem dL_law_1357 : decode cL_law 1357 = .ok (.goto 1076, 3) := by decide +kernel
theorem dL_law_1360 : decode cL_law 1360 = .ok (.aload_n 1, 1) := by decide +kernel
theorem dL_law_1361 : decode cL_law 1361 = .ok (.aload_n 0, 1) := by decide +kernel
theorem dL_law_1362 : decode cL_law 1362 = .ok (.iload 4, 2) := by decide +kernel
theorem dL_law_1364 : decode cL_law 1364 = .ok (.iconst 1, 1) := by decide +kernel
theorem dL_law_1365 : decode cL_law 1365 = .ok (.iadd, 1) := by decide +kernel
theorem dL_law_1366 : decode cL_law 1366 = .ok (.iaload, 1) := by decide +kernel
theorem dL_law_1367 : decode cL_law 1367 = .ok (.aload_n 0, 1) := by decide +kernel
theorem dL_law_1368 : decode cL_law 1368 = .ok (.iload 4, 2) := by decide +kernel
theorem dL_law_1370 : decode cL_law 1370 = .ok (.iconst 2, 1) := by decide +kernel
theorem dL_law_1371 : decode cL_law 1371 = .ok (.iadd, 1) := by decide +kernel
theorem dL_law_1372 : decode cL_law 1372 = .ok (.iaload, 1) := by decide +kernel
theorem dL_law_1373 : decode cL_law 1373 = .ok (.aload_n 3, 1) := by decide +kernel
theorem dL_law_1374 : decode cL_law 1374 = .ok (.invokestatic 194, 3) := by decide +kernel
theorem dL_law_1377 : decode cL_law 1377 = .ok (.istore 5, 2) := by decide +kernel
theorem dL_law_1379 : decode cL_law 1379 = .ok (.aload_n 2, 1) := by decide +kernel
theorem dL_law_1380 : decode cL_law 1380 = .ok (.aload_n 0, 1) := by decide +kernel
theorem dL_law_1381 : decode cL_law 1381 = .ok (.iload 4, 2) := by decide +kernel
theorem dL_law_1383 : decode cL_law 1383 = .ok (.iconst 1, 1) := by decide +kernel
theorem dL_law_1384 : decode cL_law 1384 = .ok (.iadd, 1) := by decide +kernel
theorem dL_law_1385 : decode cL_law 1385 = .ok (.iaload, 1) := by decide +kernel
theorem dL_law_1386 : decode cL_law 1386 = .ok (.aload_n 0, 1) := by decide +kernel
theorem dL_law_1387 : decode cL_law 1387 = .ok (.iload 4, 2) := by decide +kernel
theorem dL_law_1389 : decode cL_law 1389 = .ok (.iconst 2, 1) := by decide +kernel
theorem dL_law_1390 : decode cL_law 1390 = .ok (.iadd, 1) := by decide +kernel
theorem dL_law_1391 : decode cL_law 1391 = .ok (.iaload, 1) := by decide +kernel
theorem dL_law_1392 : decode cL_law 1392 = .ok (.invokevirtual 196, 3) := by decide +kernel
theorem dL_law_1395 : decode cL_law 1395 = .ok (.istore 6, 2) := by decide +kernel
theorem dL_law_1397 : decode cL_law 1397 = .ok (.aload_n 2, 1) := by decide +kernel
theorem dL_law_1398 : decode cL_law 1398 = .ok (.invokevirtual 127, 3) := by decide +kernel
theorem dL_law_1401 : decode cL_law 1401 = .ok (.iload 5, 2) := by decide +kernel
theorem dL_law_1403 : decode cL_law 1403 = .ok (.if_icmp .eq 5, 3) := by decide +kernel
theorem dL_law_1406 : decode cL_law 1406 = .ok (.iconst 0, 1) := by decide +kernel
theorem dL_law_1407 : decode cL_law 1407 = .ok (.ireturn, 1) := by decide +kernel
theorem dL_law_1408 : decode cL_law 1408 = .ok (.iload 5, 2) := by decide +kernel
theorem dL_law_1410 : decode cL_law 1410 = .ok (.ifCond .ne 15, 3) := by decide +kernel
theorem dL_law_1413 : decode cL_law 1413 = .ok (.aload_n 3, 1) := by decide +kernel
theorem dL_law_1414 : decode cL_law 1414 = .ok (.iconst 0, 1) := by decide +kernel
theorem dL_law_1415 : decode cL_law 1415 = .ok (.laload, 1) := by decide +kernel
theorem dL_law_1416 : decode cL_law 1416 = .ok (.iload 6, 2) := by decide +kernel
theorem dL_law_1418 : decode cL_law 1418 = .ok (.i2l, 1) := by decide +kernel
theorem dL_law_1419 : decode cL_law 1419 = .ok (.lcmp, 1) := by decide +kernel
theorem dL_law_1420 : decode cL_law 1420 = .ok (.ifCond .eq 5, 3) := by decide +kernel
theorem dL_law_1423 : decode cL_law 1423 = .ok (.iconst 0, 1) := by decide +kernel
theorem dL_law_1424 : decode cL_law 1424 = .ok (.ireturn, 1) := by decide +kernel
theorem dL_law_1425 : decode cL_law 1425 = .ok (.goto 1008, 3) := by decide +kernel
theorem dL_law_1428 : decode cL_law 1428 = .ok (.aload_n 1, 1) := by decide +kernel
theorem dL_law_1429 : decode cL_law 1429 = .ok (.aload_n 0, 1) := by decide +kernel
theorem dL_law_1430 : decode cL_law 1430 = .ok (.iload 4, 2) := by decide +kernel
theorem dL_law_1432 : decode cL_law 1432 = .ok (.iconst 1, 1) := by decide +kernel
theorem dL_law_1433 : decode cL_law 1433 = .ok (.iadd, 1) := by decide +kernel
theorem dL_law_1434 : decode cL_law 1434 = .ok (.iaload, 1) := by decide +kernel
theorem dL_law_1435 : decode cL_law 1435 = .ok (.aload_n 0, 1) := by decide +kernel
theorem dL_law_1436 : decode cL_law 1436 = .ok (.iload 4, 2) := by decide +kernel
theorem dL_law_1438 : decode cL_law 1438 = .ok (.iconst 2, 1) := by decide +kernel
theorem dL_law_1439 : decode cL_law 1439 = .ok (.iadd, 1) := by decide +kernel
theorem dL_law_1440 : decode cL_law 1440 = .ok (.iaload, 1) := by decide +kernel
theorem dL_law_1441 : decode cL_law 1441 = .ok (.aload_n 0, 1) := by decide +kernel
theorem dL_law_1442 : decode cL_law 1442 = .ok (.iload 4, 2) := by decide +kernel
theorem dL_law_1444 : decode cL_law 1444 = .ok (.iconst 3, 1) := by decide +kernel
theorem dL_law_1445 : decode cL_law 1445 = .ok (.iadd, 1) := by decide +kernel
theorem dL_law_1446 : decode cL_law 1446 = .ok (.iaload, 1) := by decide +kernel
theorem dL_law_1447 : decode cL_law 1447 = .ok (.aload_n 0, 1) := by decide +kernel
theorem dL_law_1448 : decode cL_law 1448 = .ok (.iload 4, 2) := by decide +kernel
theorem dL_law_1450 : decode cL_law 1450 = .ok (.iconst 4, 1) := by decide +kernel
theorem dL_law_1451 : decode cL_law 1451 = .ok (.iadd, 1) := by decide +kernel
theorem dL_law_1452 : decode cL_law 1452 = .ok (.iaload, 1) := by decide +kernel
theorem dL_law_1453 : decode cL_law 1453 = .ok (.aload_n 0, 1) := by decide +kernel
theorem dL_law_1454 : decode cL_law 1454 = .ok (.iload 4, 2) := by decide +kernel
theorem dL_law_1456 : decode cL_law 1456 = .ok (.iconst 5, 1) := by decide +kernel
theorem dL_law_1457 : decode cL_law 1457 = .ok (.iadd, 1) := by decide +kernel
theorem dL_law_1458 : decode cL_law 1458 = .ok (.iaload, 1) := by decide +kernel
theorem dL_law_1459 : decode cL_law 1459 = .ok (.aload_n 0, 1) := by decide +kernel
theorem dL_law_1460 : decode cL_law 1460 = .ok (.iload 4, 2) := by decide +kernel
theorem dL_law_1462 : decode cL_law 1462 = .ok (.bipush 6, 2) := by decide +kernel
theorem dL_law_1464 : decode cL_law 1464 = .ok (.iadd, 1) := by decide +kernel
theorem dL_law_1465 : decode cL_law 1465 = .ok (.iaload, 1) := by decide +kernel
theorem dL_law_1466 : decode cL_law 1466 = .ok (.aload_n 0, 1) := by decide +kernel
theorem dL_law_1467 : decode cL_law 1467 = .ok (.iload 4, 2) := by decide +kernel
theorem dL_law_1469 : decode cL_law 1469 = .ok (.bipush 7, 2) := by decide +kernel
theorem dL_law_1471 : decode cL_law 1471 = .ok (.iadd, 1) := by decide +kernel
theorem dL_law_1472 : decode cL_law 1472 = .ok (.iaload, 1) := by decide +kernel
theorem dL_law_1473 : decode cL_law 1473 = .ok (.aload_n 3, 1) := by decide +kernel
theorem dL_law_1474 : decode cL_law 1474 = .ok (.invokestatic 197, 3) := by decide +kernel
theorem dL_law_1477 : decode cL_law 1477 = .ok (.istore 5, 2) := by decide +kernel
theorem dL_law_1479 : decode cL_law 1479 = .ok (.aload_n 2, 1) := by decide +kernel
theorem dL_law_1480 : decode cL_law 1480 = .ok (.aload_n 0, 1) := by decide +kernel
theorem dL_law_1481 : decode cL_law 1481 = .ok (.iload 4, 2) := by decide +kernel
theorem dL_law_1483 : decode cL_law 1483 = .ok (.iconst 1, 1) := by decide +kernel
theorem dL_law_1484 : decode cL_law 1484 = .ok (.iadd, 1) := by decide +kernel
theorem dL_law_1485 : decode cL_law 1485 = .ok (.iaload, 1) := by decide +kernel
theorem dL_law_1486 : decode cL_law 1486 = .ok (.aload_n 0, 1) := by decide +kernel
theorem dL_law_1487 : decode cL_law 1487 = .ok (.iload 4, 2) := by decide +kernel
theorem dL_law_1489 : decode cL_law 1489 = .ok (.iconst 2, 1) := by decide +kernel
theorem dL_law_1490 : decode cL_law 1490 = .ok (.iadd, 1) := by decide +kernel
theorem dL_law_1491 : decode cL_law 1491 = .ok (.iaload, 1) := by decide +kernel
theorem dL_law_1492 : decode cL_law 1492 = .ok (.aload_n 0, 1) := by decide +kernel
theorem dL_law_1493 : decode cL_law 1493 = .ok (.iload 4, 2) := by decide +kernel
theorem dL_law_1495 : decode cL_law 1495 = .ok (.iconst 3, 1) := by decide +kernel
theorem dL_law_1496 : decode cL_law 1496 = .ok (.iadd, 1) := by decide +kernel
theorem dL_law_1497 : decode cL_law 1497 = .ok (.iaload, 1) := by decide +kernel
theorem dL_law_1498 : decode cL_law 1498 = .ok (.aload_n 0, 1) := by decide +kernel
theorem dL_law_1499 : decode cL_law 1499 = .ok (.iload 4, 2) := by decide +kernel
theorem dL_law_1501 : decode cL_law 1501 = .ok (.iconst 4, 1) := by decide +kernel
theorem dL_law_1502 : decode cL_law 1502 = .ok (.iadd, 1) := by decide +kernel
theorem dL_law_1503 : decode cL_law 1503 = .ok (.iaload, 1) := by decide +kernel
theorem dL_law_1504 : decode cL_law 1504 = .ok (.aload_n 0, 1) := by decide +kernel
theorem dL_law_1505 : decode cL_law 1505 = .ok (.iload 4, 2) := by decide +kernel
theorem dL_law_1507 : decode cL_law 1507 = .ok (.iconst 5, 1) := by decide +kernel
theorem dL_law_1508 : decode cL_law 1508 = .ok (.iadd, 1) := by decide +kernel
theorem dL_law_1509 : decode cL_law 1509 = .ok (.iaload, 1) := by decide +kernel
theorem dL_law_1510 : decode cL_law 1510 = .ok (.aload_n 0, 1) := by decide +kernel
theorem dL_law_1511 : decode cL_law 1511 = .ok (.iload 4, 2) := by decide +kernel
theorem dL_law_1513 : decode cL_law 1513 = .ok (.bipush 6, 2) := by decide +kernel
theorem dL_law_1515 : decode cL_law 1515 = .ok (.iadd, 1) := by decide +kernel
theorem dL_law_1516 : decode cL_law 1516 = .ok (.iaload, 1) := by decide +kernel
theorem dL_law_1517 : decode cL_law 1517 = .ok (.aload_n 0, 1) := by decide +kernel
theorem dL_law_1518 : decode cL_law 1518 = .ok (.iload 4, 2) := by decide +kernel
theorem dL_law_1520 : decode cL_law 1520 = .ok (.bipush 7, 2) := by decide +kernel
theorem dL_law_1522 : decode cL_law 1522 = .ok (.iadd, 1) := by decide +kernel
theorem dL_law_1523 : decode cL_law 1523 = .ok (.iaload, 1) := by decide +kernel
theorem dL_law_1524 : decode cL_law 1524 = .ok (.invokevirtual 200, 3) := by decide +kernel
theorem dL_law_1527 : decode cL_law 1527 = .ok (.istore 6, 2) := by decide +kernel
theorem dL_law_1529 : decode cL_law 1529 = .ok (.aload_n 2, 1) := by decide +kernel
theorem dL_law_1530 : decode cL_law 1530 = .ok (.invokevirtual 127, 3) := by decide +kernel
theorem dL_law_1533 : decode cL_law 1533 = .ok (.iload 5, 2) := by decide +kernel
theorem dL_law_1535 : decode cL_law 1535 = .ok (.if_icmp .eq 5, 3) := by decide +kernel
theorem dL_law_1538 : decode cL_law 1538 = .ok (.iconst 0, 1) := by decide +kernel
theorem dL_law_1539 : decode cL_law 1539 = .ok (.ireturn, 1) := by decide +kernel
theorem dL_law_1540 : decode cL_law 1540 = .ok (.iload 5, 2) := by decide +kernel
theorem dL_law_1542 : decode cL_law 1542 = .ok (.ifCond .ne 15, 3) := by decide +kernel
theorem dL_law_1545 : decode cL_law 1545 = .ok (.aload_n 3, 1) := by decide +kernel
theorem dL_law_1546 : decode cL_law 1546 = .ok (.iconst 0, 1) := by decide +kernel
theorem dL_law_1547 : decode cL_law 1547 = .ok (.laload, 1) := by decide +kernel
theorem dL_law_1548 : decode cL_law 1548 = .ok (.iload 6, 2) := by decide +kernel
theorem dL_law_1550 : decode cL_law 1550 = .ok (.i2l, 1) := by decide +kernel
theorem dL_law_1551 : decode cL_law 1551 = .ok (.lcmp, 1) := by decide +kernel
theorem dL_law_1552 : decode cL_law 1552 = .ok (.ifCond .eq 5, 3) := by decide +kernel
theorem dL_law_1555 : decode cL_law 1555 = .ok (.iconst 0, 1) := by decide +kernel
theorem dL_law_1556 : decode cL_law 1556 = .ok (.ireturn, 1) := by decide +kernel
theorem dL_law_1557 : decode cL_law 1557 = .ok (.goto 876, 3) := by decide +kernel
theorem dL_law_1560 : decode cL_law 1560 = .ok (.aload_n 1, 1) := by decide +kernel
theorem dL_law_1561 : decode cL_law 1561 = .ok (.aload_n 0, 1) := by decide +kernel
theorem dL_law_1562 : decode cL_law 1562 = .ok (.iload 4, 2) := by decide +kernel
theorem dL_law_1564 : decode cL_law 1564 = .ok (.iconst 1, 1) := by decide +kernel
theorem dL_law_1565 : decode cL_law 1565 = .ok (.iadd, 1) := by decide +kernel
theorem dL_law_1566 : decode cL_law 1566 = .ok (.iaload, 1) := by decide +kernel
theorem dL_law_1567 : decode cL_law 1567 = .ok (.aload_n 3, 1) := by decide +kernel
theorem dL_law_1568 : decode cL_law 1568 = .ok (.invokestatic 201, 3) := by decide +kernel
theorem dL_law_1571 : decode cL_law 1571 = .ok (.istore 5, 2) := by decide +kernel
theorem dL_law_1573 : decode cL_law 1573 = .ok (.aload_n 2, 1) := by decide +kernel
theorem dL_law_1574 : decode cL_law 1574 = .ok (.aload_n 0, 1) := by decide +kernel
theorem dL_law_1575 : decode cL_law 1575 = .ok (.iload 4, 2) := by decide +kernel
theorem dL_law_1577 : decode cL_law 1577 = .ok (.iconst 1, 1) := by decide +kernel
theorem dL_law_1578 : decode cL_law 1578 = .ok (.iadd, 1) := by decide +kernel
theorem dL_law_1579 : decode cL_law 1579 = .ok (.iaload, 1) := by decide +kernel
theorem dL_law_1580 : decode cL_law 1580 = .ok (.invokevirtual 203, 3) := by decide +kernel
theorem dL_law_1583 : decode cL_law 1583 = .ok (.istore 6, 2) := by decide +kernel
theorem dL_law_1585 : decode cL_law 1585 = .ok (.aload_n 2, 1) := by decide +kernel
theorem dL_law_1586 : decode cL_law 1586 = .ok (.invokevirtual 127, 3) := by decide +kernel
theorem dL_law_1589 : decode cL_law 1589 = .ok (.iload 5, 2) := by decide +kernel
theorem dL_law_1591 : decode cL_law 1591 = .ok (.if_icmp .eq 5, 3) := by decide +kernel
theorem dL_law_1594 : decode cL_law 1594 = .ok (.iconst 0, 1) := by decide +kernel
theorem dL_law_1595 : decode cL_law 1595 = .ok (.ireturn, 1) := by decide +kernel
theorem dL_law_1596 : decode cL_law 1596 = .ok (.iload 5, 2) := by decide +kernel
theorem dL_law_1598 : decode cL_law 1598 = .ok (.ifCond .ne 15, 3) := by decide +kernel
theorem dL_law_1601 : decode cL_law 1601 = .ok (.aload_n 3, 1) := by decide +kernel
theorem dL_law_1602 : decode cL_law 1602 = .ok (.iconst 0, 1) := by decide +kernel
theorem dL_law_1603 : decode cL_law 1603 = .ok (.laload, 1) := by decide +kernel
theorem dL_law_1604 : decode cL_law 1604 = .ok (.iload 6, 2) := by decide +kernel
theorem dL_law_1606 : decode cL_law 1606 = .ok (.i2l, 1) := by decide +kernel
theorem dL_law_1607 : decode cL_law 1607 = .ok (.lcmp, 1) := by decide +kernel
theorem dL_law_1608 : decode cL_law 1608 = .ok (.ifCond .eq 5, 3) := by decide +kernel
theorem dL_law_1611 : decode cL_law 1611 = .ok (.iconst 0, 1) := by decide +kernel
theorem dL_law_1612 : decode cL_law 1612 = .ok (.ireturn, 1) := by decide +kernel
theorem dL_law_1613 : decode cL_law 1613 = .ok (.goto 820, 3) := by decide +kernel
theorem dL_law_1616 : decode cL_law 1616 = .ok (.aload_n 1, 1) := by decide +kernel
theorem dL_law_1617 : decode cL_law 1617 = .ok (.aload_n 0, 1) := by decide +kernel
theorem dL_law_1618 : decode cL_law 1618 = .ok (.iload 4, 2) := by decide +kernel
theorem dL_law_1620 : decode cL_law 1620 = .ok (.iconst 1, 1) := by decide +kernel
theorem dL_law_1621 : decode cL_law 1621 = .ok (.iadd, 1) := by decide +kernel
theorem dL_law_1622 : decode cL_law 1622 = .ok (.iaload, 1) := by decide +kernel
theorem dL_law_1623 : decode cL_law 1623 = .ok (.aload_n 0, 1) := by decide +kernel
theorem dL_law_1624 : decode cL_law 1624 = .ok (.iload 4, 2) := by decide +kernel
theorem dL_law_1626 : decode cL_law 1626 = .ok (.iconst 2, 1) := by decide +kernel
theorem dL_law_1627 : decode cL_law 1627 = .ok (.iadd, 1) := by decide +kernel
theorem dL_law_1628 : decode cL_law 1628 = .ok (.iaload, 1) := by decide +kernel
theorem dL_law_1629 : decode cL_law 1629 = .ok (.aload_n 0, 1) := by decide +kernel
theorem dL_law_1630 : decode cL_law 1630 = .ok (.iload 4, 2) := by decide +kernel
theorem dL_law_1632 : decode cL_law 1632 = .ok (.iconst 3, 1) := by decide +kernel
theorem dL_law_1633 : decode cL_law 1633 = .ok (.iadd, 1) := by decide +kernel
theorem dL_law_1634 : decode cL_law 1634 = .ok (.iaload, 1) := by decide +kernel
theorem dL_law_1635 : decode cL_law 1635 = .ok (.aload_n 3, 1) := by decide +kernel
theorem dL_law_1636 : decode cL_law 1636 = .ok (.invokestatic 204, 3) := by decide +kernel
theorem dL_law_1639 : decode cL_law 1639 = .ok (.istore 5, 2) := by decide +kernel
theorem dL_law_1641 : decode cL_law 1641 = .ok (.aload_n 2, 1) := by decide +kernel
theorem dL_law_1642 : decode cL_law 1642 = .ok (.aload_n 0, 1) := by decide +kernel
theorem dL_law_1643 : decode cL_law 1643 = .ok (.iload 4, 2) := by decide +kernel
theorem dL_law_1645 : decode cL_law 1645 = .ok (.iconst 1, 1) := by decide +kernel
theorem dL_law_1646 : decode cL_law 1646 = .ok (.iadd, 1) := by decide +kernel
theorem dL_law_1647 : decode cL_law 1647 = .ok (.iaload, 1) := by decide +kernel
theorem dL_law_1648 : decode cL_law 1648 = .ok (.aload_n 0, 1) := by decide +kernel
theorem dL_law_1649 : decode cL_law 1649 = .ok (.iload 4, 2) := by decide +kernel
theorem dL_law_1651 : decode cL_law 1651 = .ok (.iconst 2, 1) := by decide +kernel
theorem dL_law_1652 : decode cL_law 1652 = .ok (.iadd, 1) := by decide +kernel
theorem dL_law_1653 : decode cL_law 1653 = .ok (.iaload, 1) := by decide +kernel
theorem dL_law_1654 : decode cL_law 1654 = .ok (.aload_n 0, 1) := by decide +kernel
theorem dL_law_1655 : decode cL_law 1655 = .ok (.iload 4, 2) := by decide +kernel
theorem dL_law_1657 : decode cL_law 1657 = .ok (.iconst 3, 1) := by decide +kernel
theorem dL_law_1658 : decode cL_law 1658 = .ok (.iadd, 1) := by decide +kernel
theorem dL_law_1659 : decode cL_law 1659 = .ok (.iaload, 1) := by decide +kernel
theorem dL_law_1660 : decode cL_law 1660 = .ok (.invokevirtual 206, 3) := by decide +kernel
theorem dL_law_1663 : decode cL_law 1663 = .ok (.istore 6, 2) := by decide +kernel
theorem dL_law_1665 : decode cL_law 1665 = .ok (.aload_n 2, 1) := by decide +kernel
theorem dL_law_1666 : decode cL_law 1666 = .ok (.invokevirtual 127, 3) := by decide +kernel
theorem dL_law_1669 : decode cL_law 1669 = .ok (.iload 5, 2) := by decide +kernel
theorem dL_law_1671 : decode cL_law 1671 = .ok (.if_icmp .eq 5, 3) := by decide +kernel
theorem dL_law_1674 : decode cL_law 1674 = .ok (.iconst 0, 1) := by decide +kernel
theorem dL_law_1675 : decode cL_law 1675 = .ok (.ireturn, 1) := by decide +kernel
theorem dL_law_1676 : decode cL_law 1676 = .ok (.iload 5, 2) := by decide +kernel
theorem dL_law_1678 : decode cL_law 1678 = .ok (.ifCond .ne 15, 3) := by decide +kernel
theorem dL_law_1681 : decode cL_law 1681 = .ok (.aload_n 3, 1) := by decide +kernel
theorem dL_law_1682 : decode cL_law 1682 = .ok (.iconst 0, 1) := by decide +kernel
theorem dL_law_1683 : decode cL_law 1683 = .ok (.laload, 1) := by decide +kernel
theorem dL_law_1684 : decode cL_law 1684 = .ok (.iload 6, 2) := by decide +kernel
theorem dL_law_1686 : decode cL_law 1686 = .ok (.i2l, 1) := by decide +kernel
theorem dL_law_1687 : decode cL_law 1687 = .ok (.lcmp, 1) := by decide +kernel
theorem dL_law_1688 : decode cL_law 1688 = .ok (.ifCond .eq 5, 3) := by decide +kernel
theorem dL_law_1691 : decode cL_law 1691 = .ok (.iconst 0, 1) := by decide +kernel
theorem dL_law_1692 : decode cL_law 1692 = .ok (.ireturn, 1) := by decide +kernel
theorem dL_law_1693 : decode cL_law 1693 = .ok (.goto 740, 3) := by decide +kernel
theorem dL_law_1696 : decode cL_law 1696 = .ok (.aload_n 1, 1) := by decide +kernel
theorem dL_law_1697 : decode cL_law 1697 = .ok (.aload_n 0, 1) := by decide +kernel
theorem dL_law_1698 : decode cL_law 1698 = .ok (.iload 4, 2) := by decide +kernel
theorem dL_law_1700 : decode cL_law 1700 = .ok (.iconst 1, 1) := by decide +kernel
theorem dL_law_1701 : decode cL_law 1701 = .ok (.iadd, 1) := by decide +kernel
theorem dL_law_1702 : decode cL_law 1702 = .ok (.iaload, 1) := by decide +kernel
theorem dL_law_1703 : decode cL_law 1703 = .ok (.aload_n 0, 1) := by decide +kernel
theorem dL_law_1704 : decode cL_law 1704 = .ok (.iload 4, 2) := by decide +kernel
theorem dL_law_1706 : decode cL_law 1706 = .ok (.iconst 2, 1) := by decide +kernel
theorem dL_law_1707 : decode cL_law 1707 = .ok (.iadd, 1) := by decide +kernel
theorem dL_law_1708 : decode cL_law 1708 = .ok (.iaload, 1) := by decide +kernel
theorem dL_law_1709 : decode cL_law 1709 = .ok (.aload_n 3, 1) := by decide +kernel
theorem dL_law_1710 : decode cL_law 1710 = .ok (.invokestatic 207, 3) := by decide +kernel
theorem dL_law_1713 : decode cL_law 1713 = .ok (.istore 5, 2) := by decide +kernel
theorem dL_law_1715 : decode cL_law 1715 = .ok (.aload_n 2, 1) := by decide +kernel
theorem dL_law_1716 : decode cL_law 1716 = .ok (.aload_n 0, 1) := by decide +kernel
theorem dL_law_1717 : decode cL_law 1717 = .ok (.iload 4, 2) := by decide +kernel
theorem dL_law_1719 : decode cL_law 1719 = .ok (.iconst 1, 1) := by decide +kernel
theorem dL_law_1720 : decode cL_law 1720 = .ok (.iadd, 1) := by decide +kernel
theorem dL_law_1721 : decode cL_law 1721 = .ok (.iaload, 1) := by decide +kernel
theorem dL_law_1722 : decode cL_law 1722 = .ok (.aload_n 0, 1) := by decide +kernel
theorem dL_law_1723 : decode cL_law 1723 = .ok (.iload 4, 2) := by decide +kernel
theorem dL_law_1725 : decode cL_law 1725 = .ok (.iconst 2, 1) := by decide +kernel
theorem dL_law_1726 : decode cL_law 1726 = .ok (.iadd, 1) := by decide +kernel
theorem dL_law_1727 : decode cL_law 1727 = .ok (.iaload, 1) := by decide +kernel
theorem dL_law_1728 : decode cL_law 1728 = .ok (.invokevirtual 209, 3) := by decide +kernel
theorem dL_law_1731 : decode cL_law 1731 = .ok (.istore 6, 2) := by decide +kernel
theorem dL_law_1733 : decode cL_law 1733 = .ok (.aload_n 2, 1) := by decide +kernel
theorem dL_law_1734 : decode cL_law 1734 = .ok (.invokevirtual 127, 3) := by decide +kernel
theorem dL_law_1737 : decode cL_law 1737 = .ok (.iload 5, 2) := by decide +kernel
theorem dL_law_1739 : decode cL_law 1739 = .ok (.if_icmp .eq 5, 3) := by decide +kernel
theorem dL_law_1742 : decode cL_law 1742 = .ok (.iconst 0, 1) := by decide +kernel
theorem dL_law_1743 : decode cL_law 1743 = .ok (.ireturn, 1) := by decide +kernel
theorem dL_law_1744 : decode cL_law 1744 = .ok (.iload 5, 2) := by decide +kernel
theorem dL_law_1746 : decode cL_law 1746 = .ok (.ifCond .ne 15, 3) := by decide +kernel
theorem dL_law_1749 : decode cL_law 1749 = .ok (.aload_n 3, 1) := by decide +kernel
theorem dL_law_1750 : decode cL_law 1750 = .ok (.iconst 0, 1) := by decide +kernel
theorem dL_law_1751 : decode cL_law 1751 = .ok (.laload, 1) := by decide +kernel
theorem dL_law_1752 : decode cL_law 1752 = .ok (.iload 6, 2) := by decide +kernel
theorem dL_law_1754 : decode cL_law 1754 = .ok (.i2l, 1) := by decide +kernel
theorem dL_law_1755 : decode cL_law 1755 = .ok (.lcmp, 1) := by decide +kernel
theorem dL_law_1756 : decode cL_law 1756 = .ok (.ifCond .eq 5, 3) := by decide +kernel
theorem dL_law_1759 : decode cL_law 1759 = .ok (.iconst 0, 1) := by decide +kernel
theorem dL_law_1760 : decode cL_law 1760 = .ok (.ireturn, 1) := by decide +kernel
theorem dL_law_1761 : decode cL_law 1761 = .ok (.goto 672, 3) := by decide +kernel
theorem dL_law_1764 : decode cL_law 1764 = .ok (.aload_n 1, 1) := by decide +kernel
theorem dL_law_1765 : decode cL_law 1765 = .ok (.aload_n 0, 1) := by decide +kernel
theorem dL_law_1766 : decode cL_law 1766 = .ok (.iload 4, 2) := by decide +kernel
theorem dL_law_1768 : decode cL_law 1768 = .ok (.iconst 1, 1) := by decide +kernel
theorem dL_law_1769 : decode cL_law 1769 = .ok (.iadd, 1) := by decide +kernel
theorem dL_law_1770 : decode cL_law 1770 = .ok (.iaload, 1) := by decide +kernel
theorem dL_law_1771 : decode cL_law 1771 = .ok (.aload_n 0, 1) := by decide +kernel
theorem dL_law_1772 : decode cL_law 1772 = .ok (.iload 4, 2) := by decide +kernel
theorem dL_law_1774 : decode cL_law 1774 = .ok (.iconst 2, 1) := by decide +kernel
theorem dL_law_1775 : decode cL_law 1775 = .ok (.iadd, 1) := by decide +kernel
theorem dL_law_1776 : decode cL_law 1776 = .ok (.iaload, 1) := by decide +kernel
theorem dL_law_1777 : decode cL_law 1777 = .ok (.aload_n 3, 1) := by decide +kernel
theorem dL_law_1778 : decode cL_law 1778 = .ok (.invokestatic 210, 3) := by decide +kernel
theorem dL_law_1781 : decode cL_law 1781 = .ok (.istore 5, 2) := by decide +kernel
theorem dL_law_1783 : decode cL_law 1783 = .ok (.aload_n 2, 1) := by decide +kernel
theorem dL_law_1784 : decode cL_law 1784 = .ok (.aload_n 0, 1) := by decide +kernel
theorem dL_law_1785 : decode cL_law 1785 = .ok (.iload 4, 2) := by decide +kernel
theorem dL_law_1787 : decode cL_law 1787 = .ok (.iconst 1, 1) := by decide +kernel
theorem dL_law_1788 : decode cL_law 1788 = .ok (.iadd, 1) := by decide +kernel
theorem dL_law_1789 : decode cL_law 1789 = .ok (.iaload, 1) := by decide +kernel
theorem dL_law_1790 : decode cL_law 1790 = .ok (.aload_n 0, 1) := by decide +kernel
theorem dL_law_1791 : decode cL_law 1791 = .ok (.iload 4, 2) := by decide +kernel
theorem dL_law_1793 : decode cL_law 1793 = .ok (.iconst 2, 1) := by decide +kernel
theorem dL_law_1794 : decode cL_law 1794 = .ok (.iadd, 1) := by decide +kernel
theorem dL_law_1795 : decode cL_law 1795 = .ok (.iaload, 1) := by decide +kernel
theorem dL_law_1796 : decode cL_law 1796 = .ok (.invokevirtual 212, 3) := by decide +kernel
theorem dL_law_1799 : decode cL_law 1799 = .ok (.istore 6, 2) := by decide +kernel
theorem dL_law_1801 : decode cL_law 1801 = .ok (.aload_n 2, 1) := by decide +kernel
theorem dL_law_1802 : decode cL_law 1802 = .ok (.invokevirtual 127, 3) := by decide +kernel
theorem dL_law_1805 : decode cL_law 1805 = .ok (.iload 5, 2) := by decide +kernel
theorem dL_law_1807 : decode cL_law 1807 = .ok (.if_icmp .eq 5, 3) := by decide +kernel
theorem dL_law_1810 : decode cL_law 1810 = .ok (.iconst 0, 1) := by decide +kernel
theorem dL_law_1811 : decode cL_law 1811 = .ok (.ireturn, 1) := by decide +kernel
theorem dL_law_1812 : decode cL_law 1812 = .ok (.iload 5, 2) := by decide +kernel
theorem dL_law_1814 : decode cL_law 1814 = .ok (.ifCond .ne 15, 3) := by decide +kernel
theorem dL_law_1817 : decode cL_law 1817 = .ok (.aload_n 3, 1) := by decide +kernel
theorem dL_law_1818 : decode cL_law 1818 = .ok (.iconst 0, 1) := by decide +kernel
theorem dL_law_1819 : decode cL_law 1819 = .ok (.laload, 1) := by decide +kernel
theorem dL_law_1820 : decode cL_law 1820 = .ok (.iload 6, 2) := by decide +kernel
theorem dL_law_1822 : decode cL_law 1822 = .ok (.i2l, 1) := by decide +kernel
theorem dL_law_1823 : decode cL_law 1823 = .ok (.lcmp, 1) := by decide +kernel
theorem dL_law_1824 : decode cL_law 1824 = .ok (.ifCond .eq 5, 3) := by decide +kernel
theorem dL_law_1827 : decode cL_law 1827 = .ok (.iconst 0, 1) := by decide +kernel
theorem dL_law_1828 : decode cL_law 1828 = .ok (.ireturn, 1) := by decide +kernel
theorem dL_law_1829 : decode cL_law 1829 = .ok (.goto 604, 3) := by decide +kernel
theorem dL_law_1832 : decode cL_law 1832 = .ok (.aload_n 1, 1) := by decide +kernel
theorem dL_law_1833 : decode cL_law 1833 = .ok (.aload_n 0, 1) := by decide +kernel
theorem dL_law_1834 : decode cL_law 1834 = .ok (.iload 4, 2) := by decide +kernel
theorem dL_law_1836 : decode cL_law 1836 = .ok (.iconst 1, 1) := by decide +kernel
theorem dL_law_1837 : decode cL_law 1837 = .ok (.iadd, 1) := by decide +kernel
theorem dL_law_1838 : decode cL_law 1838 = .ok (.iaload, 1) := by decide +kernel
theorem dL_law_1839 : decode cL_law 1839 = .ok (.aload_n 0, 1) := by decide +kernel
theorem dL_law_1840 : decode cL_law 1840 = .ok (.iload 4, 2) := by decide +kernel
theorem dL_law_1842 : decode cL_law 1842 = .ok (.iconst 2, 1) := by decide +kernel
theorem dL_law_1843 : decode cL_law 1843 = .ok (.iadd, 1) := by decide +kernel
theorem dL_law_1844 : decode cL_law 1844 = .ok (.iaload, 1) := by decide +kernel
theorem dL_law_1845 : decode cL_law 1845 = .ok (.aload_n 0, 1) := by decide +kernel
theorem dL_law_1846 : decode cL_law 1846 = .ok (.iload 4, 2) := by decide +kernel
theorem dL_law_1848 : decode cL_law 1848 = .ok (.iconst 3, 1) := by decide +kernel
theorem dL_law_1849 : decode cL_law 1849 = .ok (.iadd, 1) := by decide +kernel
theorem dL_law_1850 : decode cL_law 1850 = .ok (.iaload, 1) := by decide +kernel
theorem dL_law_1851 : decode cL_law 1851 = .ok (.aload_n 0, 1) := by decide +kernel
theorem dL_law_1852 : decode cL_law 1852 = .ok (.iload 4, 2) := by decide +kernel
theorem dL_law_1854 : decode cL_law 1854 = .ok (.iconst 4, 1) := by decide +kernel
theorem dL_law_1855 : decode cL_law 1855 = .ok (.iadd, 1) := by decide +kernel
theorem dL_law_1856 : decode cL_law 1856 = .ok (.iaload, 1) := by decide +kernel
theorem dL_law_1857 : decode cL_law 1857 = .ok (.aload_n 3, 1) := by decide +kernel
theorem dL_law_1858 : decode cL_law 1858 = .ok (.invokestatic 213, 3) := by decide +kernel
theorem dL_law_1861 : decode cL_law 1861 = .ok (.istore 5, 2) := by decide +kernel
theorem dL_law_1863 : decode cL_law 1863 = .ok (.aload_n 2, 1) := by decide +kernel
theorem dL_law_1864 : decode cL_law 1864 = .ok (.aload_n 0, 1) := by decide +kernel
theorem dL_law_1865 : decode cL_law 1865 = .ok (.iload 4, 2) := by decide +kernel
theorem dL_law_1867 : decode cL_law 1867 = .ok (.iconst 1, 1) := by decide +kernel
theorem dL_law_1868 : decode cL_law 1868 = .ok (.iadd, 1) := by decide +kernel
theorem dL_law_1869 : decode cL_law 1869 = .ok (.iaload, 1) := by decide +kernel
theorem dL_law_1870 : decode cL_law 1870 = .ok (.aload_n 0, 1) := by decide +kernel
theorem dL_law_1871 : decode cL_law 1871 = .ok (.iload 4, 2) := by decide +kernel
theorem dL_law_1873 : decode cL_law 1873 = .ok (.iconst 2, 1) := by decide +kernel
theorem dL_law_1874 : decode cL_law 1874 = .ok (.iadd, 1) := by decide +kernel
theorem dL_law_1875 : decode cL_law 1875 = .ok (.iaload, 1) := by decide +kernel
theorem dL_law_1876 : decode cL_law 1876 = .ok (.aload_n 0, 1) := by decide +kernel
theorem dL_law_1877 : decode cL_law 1877 = .ok (.iload 4, 2) := by decide +kernel
theorem dL_law_1879 : decode cL_law 1879 = .ok (.iconst 3, 1) := by decide +kernel
theorem dL_law_1880 : decode cL_law 1880 = .ok (.iadd, 1) := by decide +kernel
theorem dL_law_1881 : decode cL_law 1881 = .ok (.iaload, 1) := by decide +kernel
theorem dL_law_1882 : decode cL_law 1882 = .ok (.aload_n 0, 1) := by decide +kernel
theorem dL_law_1883 : decode cL_law 1883 = .ok (.iload 4, 2) := by decide +kernel
theorem dL_law_1885 : decode cL_law 1885 = .ok (.iconst 4, 1) := by decide +kernel
theorem dL_law_1886 : decode cL_law 1886 = .ok (.iadd, 1) := by decide +kernel
theorem dL_law_1887 : decode cL_law 1887 = .ok (.iaload, 1) := by decide +kernel
theorem dL_law_1888 : decode cL_law 1888 = .ok (.invokevirtual 215, 3) := by decide +kernel
theorem dL_law_1891 : decode cL_law 1891 = .ok (.istore 6, 2) := by decide +kernel
theorem dL_law_1893 : decode cL_law 1893 = .ok (.aload_n 2, 1) := by decide +kernel
theorem dL_law_1894 : decode cL_law 1894 = .ok (.invokevirtual 127, 3) := by decide +kernel
theorem dL_law_1897 : decode cL_law 1897 = .ok (.iload 5, 2) := by decide +kernel
theorem dL_law_1899 : decode cL_law 1899 = .ok (.if_icmp .eq 5, 3) := by decide +kernel
theorem dL_law_1902 : decode cL_law 1902 = .ok (.iconst 0, 1) := by decide +kernel
theorem dL_law_1903 : decode cL_law 1903 = .ok (.ireturn, 1) := by decide +kernel
theorem dL_law_1904 : decode cL_law 1904 = .ok (.iload 5, 2) := by decide +kernel
theorem dL_law_1906 : decode cL_law 1906 = .ok (.ifCond .ne 15, 3) := by decide +kernel
theorem dL_law_1909 : decode cL_law 1909 = .ok (.aload_n 3, 1) := by decide +kernel
theorem dL_law_1910 : decode cL_law 1910 = .ok (.iconst 0, 1) := by decide +kernel
theorem dL_law_1911 : decode cL_law 1911 = .ok (.laload, 1) := by decide +kernel
theorem dL_law_1912 : decode cL_law 1912 = .ok (.iload 6, 2) := by decide +kernel
theorem dL_law_1914 : decode cL_law 1914 = .ok (.i2l, 1) := by decide +kernel
theorem dL_law_1915 : decode cL_law 1915 = .ok (.lcmp, 1) := by decide +kernel
theorem dL_law_1916 : decode cL_law 1916 = .ok (.ifCond .eq 5, 3) := by decide +kernel
theorem dL_law_1919 : decode cL_law 1919 = .ok (.iconst 0, 1) := by decide +kernel
theorem dL_law_1920 : decode cL_law 1920 = .ok (.ireturn, 1) := by decide +kernel
theorem dL_law_1921 : decode cL_law 1921 = .ok (.goto 512, 3) := by decide +kernel
theorem dL_law_1924 : decode cL_law 1924 = .ok (.aload_n 1, 1) := by decide +kernel
theorem dL_law_1925 : decode cL_law 1925 = .ok (.aload_n 0, 1) := by decide +kernel
theorem dL_law_1926 : decode cL_law 1926 = .ok (.iload 4, 2) := by decide +kernel
theorem dL_law_1928 : decode cL_law 1928 = .ok (.iconst 1, 1) := by decide +kernel
theorem dL_law_1929 : decode cL_law 1929 = .ok (.iadd, 1) := by decide +kernel
theorem dL_law_1930 : decode cL_law 1930 = .ok (.iaload, 1) := by decide +kernel
theorem dL_law_1931 : decode cL_law 1931 = .ok (.aload_n 3, 1) := by decide +kernel
theorem dL_law_1932 : decode cL_law 1932 = .ok (.invokestatic 216, 3) := by decide +kernel
theorem dL_law_1935 : decode cL_law 1935 = .ok (.istore 5, 2) := by decide +kernel
theorem dL_law_1937 : decode cL_law 1937 = .ok (.aload_n 2, 1) := by decide +kernel
theorem dL_law_1938 : decode cL_law 1938 = .ok (.aload_n 0, 1) := by decide +kernel
theorem dL_law_1939 : decode cL_law 1939 = .ok (.iload 4, 2) := by decide +kernel
theorem dL_law_1941 : decode cL_law 1941 = .ok (.iconst 1, 1) := by decide +kernel
theorem dL_law_1942 : decode cL_law 1942 = .ok (.iadd, 1) := by decide +kernel
theorem dL_law_1943 : decode cL_law 1943 = .ok (.iaload, 1) := by decide +kernel
theorem dL_law_1944 : decode cL_law 1944 = .ok (.invokevirtual 218, 3) := by decide +kernel
theorem dL_law_1947 : decode cL_law 1947 = .ok (.istore 6, 2) := by decide +kernel
theorem dL_law_1949 : decode cL_law 1949 = .ok (.aload_n 2, 1) := by decide +kernel
theorem dL_law_1950 : decode cL_law 1950 = .ok (.invokevirtual 127, 3) := by decide +kernel
theorem dL_law_1953 : decode cL_law 1953 = .ok (.iload 5, 2) := by decide +kernel
theorem dL_law_1955 : decode cL_law 1955 = .ok (.if_icmp .eq 5, 3) := by decide +kernel
theorem dL_law_1958 : decode cL_law 1958 = .ok (.iconst 0, 1) := by decide +kernel
theorem dL_law_1959 : decode cL_law 1959 = .ok (.ireturn, 1) := by decide +kernel
theorem dL_law_1960 : decode cL_law 1960 = .ok (.iload 5, 2) := by decide +kernel
theorem dL_law_1962 : decode cL_law 1962 = .ok (.ifCond .ne 15, 3) := by decide +kernel
theorem dL_law_1965 : decode cL_law 1965 = .ok (.aload_n 3, 1) := by decide +kernel
theorem dL_law_1966 : decode cL_law 1966 = .ok (.iconst 0, 1) := by decide +kernel
theorem dL_law_1967 : decode cL_law 1967 = .ok (.laload, 1) := by decide +kernel
theorem dL_law_1968 : decode cL_law 1968 = .ok (.iload 6, 2) := by decide +kernel
theorem dL_law_1970 : decode cL_law 1970 = .ok (.i2l, 1) := by decide +kernel
theorem dL_law_1971 : decode cL_law 1971 = .ok (.lcmp, 1) := by decide +kernel
theorem dL_law_1972 : decode cL_law 1972 = .ok (.ifCond .eq 5, 3) := by decide +kernel
theorem dL_law_1975 : decode cL_law 1975 = .ok (.iconst 0, 1) := by decide +kernel
theorem dL_law_1976 : decode cL_law 1976 = .ok (.ireturn, 1) := by decide +kernel
theorem dL_law_1977 : decode cL_law 1977 = .ok (.goto 456, 3) := by decide +kernel
theorem dL_law_1980 : decode cL_law 1980 = .ok (.aload_n 1, 1) := by decide +kernel
theorem dL_law_1981 : decode cL_law 1981 = .ok (.aload_n 0, 1) := by decide +kernel
theorem dL_law_1982 : decode cL_law 1982 = .ok (.iload 4, 2) := by decide +kernel
theorem dL_law_1984 : decode cL_law 1984 = .ok (.iconst 1, 1) := by decide +kernel
theorem dL_law_1985 : decode cL_law 1985 = .ok (.iadd, 1) := by decide +kernel
theorem dL_law_1986 : decode cL_law 1986 = .ok (.iaload, 1) := by decide +kernel
theorem dL_law_1987 : decode cL_law 1987 = .ok (.aload_n 0, 1) := by decide +kernel
theorem dL_law_1988 : decode cL_law 1988 = .ok (.iload 4, 2) := by decide +kernel
theorem dL_law_1990 : decode cL_law 1990 = .ok (.iconst 2, 1) := by decide +kernel
theorem dL_law_1991 : decode cL_law 1991 = .ok (.iadd, 1) := by decide +kernel
theorem dL_law_1992 : decode cL_law 1992 = .ok (.iaload, 1) := by decide +kernel
theorem dL_law_1993 : decode cL_law 1993 = .ok (.aload_n 3, 1) := by decide +kernel
theorem dL_law_1994 : decode cL_law 1994 = .ok (.invokestatic 219, 3) := by decide +kernel
theorem dL_law_1997 : decode cL_law 1997 = .ok (.istore 5, 2) := by decide +kernel
theorem dL_law_1999 : decode cL_law 1999 = .ok (.aload_n 2, 1) := by decide +kernel
theorem dL_law_2000 : decode cL_law 2000 = .ok (.aload_n 0, 1) := by decide +kernel
theorem dL_law_2001 : decode cL_law 2001 = .ok (.iload 4, 2) := by decide +kernel
theorem dL_law_2003 : decode cL_law 2003 = .ok (.iconst 1, 1) := by decide +kernel
theorem dL_law_2004 : decode cL_law 2004 = .ok (.iadd, 1) := by decide +kernel
theorem dL_law_2005 : decode cL_law 2005 = .ok (.iaload, 1) := by decide +kernel
theorem dL_law_2006 : decode cL_law 2006 = .ok (.aload_n 0, 1) := by decide +kernel
theorem dL_law_2007 : decode cL_law 2007 = .ok (.iload 4, 2) := by decide +kernel
theorem dL_law_2009 : decode cL_law 2009 = .ok (.iconst 2, 1) := by decide +kernel
theorem dL_law_2010 : decode cL_law 2010 = .ok (.iadd, 1) := by decide +kernel
theorem dL_law_2011 : decode cL_law 2011 = .ok (.iaload, 1) := by decide +kernel
theorem dL_law_2012 : decode cL_law 2012 = .ok (.invokevirtual 221, 3) := by decide +kernel
theorem dL_law_2015 : decode cL_law 2015 = .ok (.istore 6, 2) := by decide +kernel
theorem dL_law_2017 : decode cL_law 2017 = .ok (.aload_n 2, 1) := by decide +kernel
theorem dL_law_2018 : decode cL_law 2018 = .ok (.invokevirtual 127, 3) := by decide +kernel
theorem dL_law_2021 : decode cL_law 2021 = .ok (.iload 5, 2) := by decide +kernel
theorem dL_law_2023 : decode cL_law 2023 = .ok (.if_icmp .eq 5, 3) := by decide +kernel
theorem dL_law_2026 : decode cL_law 2026 = .ok (.iconst 0, 1) := by decide +kernel
theorem dL_law_2027 : decode cL_law 2027 = .ok (.ireturn, 1) := by decide +kernel
theorem dL_law_2028 : decode cL_law 2028 = .ok (.iload 5, 2) := by decide +kernel
theorem dL_law_2030 : decode cL_law 2030 = .ok (.ifCond .ne 15, 3) := by decide +kernel
theorem dL_law_2033 : decode cL_law 2033 = .ok (.aload_n 3, 1) := by decide +kernel
theorem dL_law_2034 : decode cL_law 2034 = .ok (.iconst 0, 1) := by decide +kernel
theorem dL_law_2035 : decode cL_law 2035 = .ok (.laload, 1) := by decide +kernel
theorem dL_law_2036 : decode cL_law 2036 = .ok (.iload 6, 2) := by decide +kernel
theorem dL_law_2038 : decode cL_law 2038 = .ok (.i2l, 1) := by decide +kernel
theorem dL_law_2039 : decode cL_law 2039 = .ok (.lcmp, 1) := by decide +kernel
theorem dL_law_2040 : decode cL_law 2040 = .ok (.ifCond .eq 5, 3) := by decide +kernel
theorem dL_law_2043 : decode cL_law 2043 = .ok (.iconst 0, 1) := by decide +kernel
theorem dL_law_2044 : decode cL_law 2044 = .ok (.ireturn, 1) := by decide +kernel
theorem dL_law_2045 : decode cL_law 2045 = .ok (.goto 388, 3) := by decide +kernel
theorem dL_law_2048 : decode cL_law 2048 = .ok (.aload_n 1, 1) := by decide +kernel
theorem dL_law_2049 : decode cL_law 2049 = .ok (.aload_n 0, 1) := by decide +kernel
theorem dL_law_2050 : decode cL_law 2050 = .ok (.iload 4, 2) := by decide +kernel
theorem dL_law_2052 : decode cL_law 2052 = .ok (.iconst 1, 1) := by decide +kernel
theorem dL_law_2053 : decode cL_law 2053 = .ok (.iadd, 1) := by decide +kernel
theorem dL_law_2054 : decode cL_law 2054 = .ok (.iaload, 1) := by decide +kernel
theorem dL_law_2055 : decode cL_law 2055 = .ok (.aload_n 0, 1) := by decide +kernel
theorem dL_law_2056 : decode cL_law 2056 = .ok (.iload 4, 2) := by decide +kernel
theorem dL_law_2058 : decode cL_law 2058 = .ok (.iconst 2, 1) := by decide +kernel
theorem dL_law_2059 : decode cL_law 2059 = .ok (.iadd, 1) := by decide +kernel
theorem dL_law_2060 : decode cL_law 2060 = .ok (.iaload, 1) := by decide +kernel
theorem dL_law_2061 : decode cL_law 2061 = .ok (.aload_n 3, 1) := by decide +kernel
theorem dL_law_2062 : decode cL_law 2062 = .ok (.invokestatic 222, 3) := by decide +kernel
theorem dL_law_2065 : decode cL_law 2065 = .ok (.istore 5, 2) := by decide +kernel
theorem dL_law_2067 : decode cL_law 2067 = .ok (.aload_n 2, 1) := by decide +kernel
theorem dL_law_2068 : decode cL_law 2068 = .ok (.aload_n 0, 1) := by decide +kernel
theorem dL_law_2069 : decode cL_law 2069 = .ok (.iload 4, 2) := by decide +kernel
theorem dL_law_2071 : decode cL_law 2071 = .ok (.iconst 1, 1) := by decide +kernel
theorem dL_law_2072 : decode cL_law 2072 = .ok (.iadd, 1) := by decide +kernel
theorem dL_law_2073 : decode cL_law 2073 = .ok (.iaload, 1) := by decide +kernel
theorem dL_law_2074 : decode cL_law 2074 = .ok (.aload_n 0, 1) := by decide +kernel
theorem dL_law_2075 : decode cL_law 2075 = .ok (.iload 4, 2) := by decide +kernel
theorem dL_law_2077 : decode cL_law 2077 = .ok (.iconst 2, 1) := by decide +kernel
theorem dL_law_2078 : decode cL_law 2078 = .ok (.iadd, 1) := by decide +kernel
theorem dL_law_2079 : decode cL_law 2079 = .ok (.iaload, 1) := by decide +kernel
theorem dL_law_2080 : decode cL_law 2080 = .ok (.invokevirtual 224, 3) := by decide +kernel
theorem dL_law_2083 : decode cL_law 2083 = .ok (.istore 6, 2) := by decide +kernel
theorem dL_law_2085 : decode cL_law 2085 = .ok (.aload_n 2, 1) := by decide +kernel
theorem dL_law_2086 : decode cL_law 2086 = .ok (.invokevirtual 127, 3) := by decide +kernel
theorem dL_law_2089 : decode cL_law 2089 = .ok (.iload 5, 2) := by decide +kernel
theorem dL_law_2091 : decode cL_law 2091 = .ok (.if_icmp .eq 5, 3) := by decide +kernel
theorem dL_law_2094 : decode cL_law 2094 = .ok (.iconst 0, 1) := by decide +kernel
theorem dL_law_2095 : decode cL_law 2095 = .ok (.ireturn, 1) := by decide +kernel
theorem dL_law_2096 : decode cL_law 2096 = .ok (.iload 5, 2) := by decide +kernel
theorem dL_law_2098 : decode cL_law 2098 = .ok (.ifCond .ne 15, 3) := by decide +kernel
theorem dL_law_2101 : decode cL_law 2101 = .ok (.aload_n 3, 1) := by decide +kernel
theorem dL_law_2102 : decode cL_law 2102 = .ok (.iconst 0, 1) := by decide +kernel
theorem dL_law_2103 : decode cL_law 2103 = .ok (.laload, 1) := by decide +kernel
theorem dL_law_2104 : decode cL_law 2104 = .ok (.iload 6, 2) := by decide +kernel
theorem dL_law_2106 : decode cL_law 2106 = .ok (.i2l, 1) := by decide +kernel
theorem dL_law_2107 : decode cL_law 2107 = .ok (.lcmp, 1) := by decide +kernel
theorem dL_law_2108 : decode cL_law 2108 = .ok (.ifCond .eq 5, 3) := by decide +kernel
theorem dL_law_2111 : decode cL_law 2111 = .ok (.iconst 0, 1) := by decide +kernel
theorem dL_law_2112 : decode cL_law 2112 = .ok (.ireturn, 1) := by decide +kernel
theorem dL_law_2113 : decode cL_law 2113 = .ok (.goto 320, 3) := by decide +kernel
theorem dL_law_2116 : decode cL_law 2116 = .ok (.aload_n 1, 1) := by decide +kernel
theorem dL_law_2117 : decode cL_law 2117 = .ok (.aload_n 0, 1) := by decide +kernel
theorem dL_law_2118 : decode cL_law 2118 = .ok (.iload 4, 2) := by decide +kernel
theorem dL_law_2120 : decode cL_law 2120 = .ok (.iconst 1, 1) := by decide +kernel
theorem dL_law_2121 : decode cL_law 2121 = .ok (.iadd, 1) := by decide +kernel
theorem dL_law_2122 : decode cL_law 2122 = .ok (.iaload, 1) := by decide +kernel
theorem dL_law_2123 : decode cL_law 2123 = .ok (.aload_n 0, 1) := by decide +kernel
theorem dL_law_2124 : decode cL_law 2124 = .ok (.iload 4, 2) := by decide +kernel
theorem dL_law_2126 : decode cL_law 2126 = .ok (.iconst 2, 1) := by decide +kernel
theorem dL_law_2127 : decode cL_law 2127 = .ok (.iadd, 1) := by decide +kernel
theorem dL_law_2128 : decode cL_law 2128 = .ok (.iaload, 1) := by decide +kernel
theorem dL_law_2129 : decode cL_law 2129 = .ok (.aload_n 3, 1) := by decide +kernel
theorem dL_law_2130 : decode cL_law 2130 = .ok (.invokestatic 225, 3) := by decide +kernel
theorem dL_law_2133 : decode cL_law 2133 = .ok (.istore 5, 2) := by decide +kernel
theorem dL_law_2135 : decode cL_law 2135 = .ok (.aload_n 2, 1) := by decide +kernel
theorem dL_law_2136 : decode cL_law 2136 = .ok (.aload_n 0, 1) := by decide +kernel
theorem dL_law_2137 : decode cL_law 2137 = .ok (.iload 4, 2) := by decide +kernel
theorem dL_law_2139 : decode cL_law 2139 = .ok (.iconst 1, 1) := by decide +kernel
theorem dL_law_2140 : decode cL_law 2140 = .ok (.iadd, 1) := by decide +kernel
theorem dL_law_2141 : decode cL_law 2141 = .ok (.iaload, 1) := by decide +kernel
theorem dL_law_2142 : decode cL_law 2142 = .ok (.aload_n 0, 1) := by decide +kernel
theorem dL_law_2143 : decode cL_law 2143 = .ok (.iload 4, 2) := by decide +kernel
theorem dL_law_2145 : decode cL_law 2145 = .ok (.iconst 2, 1) := by decide +kernel
theorem dL_law_2146 : decode cL_law 2146 = .ok (.iadd, 1) := by decide +kernel
theorem dL_law_2147 : decode cL_law 2147 = .ok (.iaload, 1) := by decide +kernel
theorem dL_law_2148 : decode cL_law 2148 = .ok (.invokevirtual 227, 3) := by decide +kernel
theorem dL_law_2151 : decode cL_law 2151 = .ok (.istore 6, 2) := by decide +kernel
theorem dL_law_2153 : decode cL_law 2153 = .ok (.aload_n 2, 1) := by decide +kernel
theorem dL_law_2154 : decode cL_law 2154 = .ok (.invokevirtual 127, 3) := by decide +kernel
theorem dL_law_2157 : decode cL_law 2157 = .ok (.iload 5, 2) := by decide +kernel
theorem dL_law_2159 : decode cL_law 2159 = .ok (.if_icmp .eq 5, 3) := by decide +kernel
theorem dL_law_2162 : decode cL_law 2162 = .ok (.iconst 0, 1) := by decide +kernel
theorem dL_law_2163 : decode cL_law 2163 = .ok (.ireturn, 1) := by decide +kernel
theorem dL_law_2164 : decode cL_law 2164 = .ok (.iload 5, 2) := by decide +kernel
theorem dL_law_2166 : decode cL_law 2166 = .ok (.ifCond .ne 15, 3) := by decide +kernel
theorem dL_law_2169 : decode cL_law 2169 = .ok (.aload_n 3, 1) := by decide +kernel
theorem dL_law_2170 : decode cL_law 2170 = .ok (.iconst 0, 1) := by decide +kernel
theorem dL_law_2171 : decode cL_law 2171 = .ok (.laload, 1) := by decide +kernel
theorem dL_law_2172 : decode cL_law 2172 = .ok (.iload 6, 2) := by decide +kernel
theorem dL_law_2174 : decode cL_law 2174 = .ok (.i2l, 1) := by decide +kernel
theorem dL_law_2175 : decode cL_law 2175 = .ok (.lcmp, 1) := by decide +kernel
theorem dL_law_2176 : decode cL_law 2176 = .ok (.ifCond .eq 5, 3) := by decide +kernel
theorem dL_law_2179 : decode cL_law 2179 = .ok (.iconst 0, 1) := by decide +kernel
theorem dL_law_2180 : decode cL_law 2180 = .ok (.ireturn, 1) := by decide +kernel
theorem dL_law_2181 : decode cL_law 2181 = .ok (.goto 252, 3) := by decide +kernel
theorem dL_law_2184 : decode cL_law 2184 = .ok (.aload_n 1, 1) := by decide +kernel
theorem dL_law_2185 : decode cL_law 2185 = .ok (.aload_n 0, 1) := by decide +kernel
theorem dL_law_2186 : decode cL_law 2186 = .ok (.iload 4, 2) := by decide +kernel
theorem dL_law_2188 : decode cL_law 2188 = .ok (.iconst 1, 1) := by decide +kernel
theorem dL_law_2189 : decode cL_law 2189 = .ok (.iadd, 1) := by decide +kernel
theorem dL_law_2190 : decode cL_law 2190 = .ok (.iaload, 1) := by decide +kernel
theorem dL_law_2191 : decode cL_law 2191 = .ok (.aload_n 0, 1) := by decide +kernel
theorem dL_law_2192 : decode cL_law 2192 = .ok (.iload 4, 2) := by decide +kernel
theorem dL_law_2194 : decode cL_law 2194 = .ok (.iconst 2, 1) := by decide +kernel
theorem dL_law_2195 : decode cL_law 2195 = .ok (.iadd, 1) := by decide +kernel
theorem dL_law_2196 : decode cL_law 2196 = .ok (.iaload, 1) := by decide +kernel
theorem dL_law_2197 : decode cL_law 2197 = .ok (.aload_n 3, 1) := by decide +kernel
theorem dL_law_2198 : decode cL_law 2198 = .ok (.invokestatic 228, 3) := by decide +kernel
theorem dL_law_2201 : decode cL_law 2201 = .ok (.istore 5, 2) := by decide +kernel
theorem dL_law_2203 : decode cL_law 2203 = .ok (.aload_n 2, 1) := by decide +kernel
theorem dL_law_2204 : decode cL_law 2204 = .ok (.aload_n 0, 1) := by decide +kernel
theorem dL_law_2205 : decode cL_law 2205 = .ok (.iload 4, 2) := by decide +kernel
theorem dL_law_2207 : decode cL_law 2207 = .ok (.iconst 1, 1) := by decide +kernel
theorem dL_law_2208 : decode cL_law 2208 = .ok (.iadd, 1) := by decide +kernel
theorem dL_law_2209 : decode cL_law 2209 = .ok (.iaload, 1) := by decide +kernel
theorem dL_law_2210 : decode cL_law 2210 = .ok (.aload_n 0, 1) := by decide +kernel
theorem dL_law_2211 : decode cL_law 2211 = .ok (.iload 4, 2) := by decide +kernel
theorem dL_law_2213 : decode cL_law 2213 = .ok (.iconst 2, 1) := by decide +kernel
theorem dL_law_2214 : decode cL_law 2214 = .ok (.iadd, 1) := by decide +kernel
theorem dL_law_2215 : decode cL_law 2215 = .ok (.iaload, 1) := by decide +kernel
theorem dL_law_2216 : decode cL_law 2216 = .ok (.invokevirtual 230, 3) := by decide +kernel
theorem dL_law_2219 : decode cL_law 2219 = .ok (.istore 6, 2) := by decide +kernel
theorem dL_law_2221 : decode cL_law 2221 = .ok (.aload_n 2, 1) := by decide +kernel
theorem dL_law_2222 : decode cL_law 2222 = .ok (.invokevirtual 127, 3) := by decide +kernel
theorem dL_law_2225 : decode cL_law 2225 = .ok (.iload 5, 2) := by decide +kernel
theorem dL_law_2227 : decode cL_law 2227 = .ok (.if_icmp .eq 5, 3) := by decide +kernel
theorem dL_law_2230 : decode cL_law 2230 = .ok (.iconst 0, 1) := by decide +kernel
theorem dL_law_2231 : decode cL_law 2231 = .ok (.ireturn, 1) := by decide +kernel
theorem dL_law_2232 : decode cL_law 2232 = .ok (.iload 5, 2) := by decide +kernel
theorem dL_law_2234 : decode cL_law 2234 = .ok (.ifCond .ne 15, 3) := by decide +kernel
theorem dL_law_2237 : decode cL_law 2237 = .ok (.aload_n 3, 1) := by decide +kernel
theorem dL_law_2238 : decode cL_law 2238 = .ok (.iconst 0, 1) := by decide +kernel
theorem dL_law_2239 : decode cL_law 2239 = .ok (.laload, 1) := by decide +kernel
theorem dL_law_2240 : decode cL_law 2240 = .ok (.iload 6, 2) := by decide +kernel
theorem dL_law_2242 : decode cL_law 2242 = .ok (.i2l, 1) := by decide +kernel
theorem dL_law_2243 : decode cL_law 2243 = .ok (.lcmp, 1) := by decide +kernel
theorem dL_law_2244 : decode cL_law 2244 = .ok (.ifCond .eq 5, 3) := by decide +kernel
theorem dL_law_2247 : decode cL_law 2247 = .ok (.iconst 0, 1) := by decide +kernel
theorem dL_law_2248 : decode cL_law 2248 = .ok (.ireturn, 1) := by decide +kernel
theorem dL_law_2249 : decode cL_law 2249 = .ok (.goto 184, 3) := by decide +kernel
theorem dL_law_2252 : decode cL_law 2252 = .ok (.aload_n 1, 1) := by decide +kernel
theorem dL_law_2253 : decode cL_law 2253 = .ok (.aload_n 0, 1) := by decide +kernel
theorem dL_law_2254 : decode cL_law 2254 = .ok (.iload 4, 2) := by decide +kernel
theorem dL_law_2256 : decode cL_law 2256 = .ok (.iconst 1, 1) := by decide +kernel
theorem dL_law_2257 : decode cL_law 2257 = .ok (.iadd, 1) := by decide +kernel
theorem dL_law_2258 : decode cL_law 2258 = .ok (.iaload, 1) := by decide +kernel
theorem dL_law_2259 : decode cL_law 2259 = .ok (.aload_n 3, 1) := by decide +kernel
theorem dL_law_2260 : decode cL_law 2260 = .ok (.invokestatic 231, 3) := by decide +kernel
theorem dL_law_2263 : decode cL_law 2263 = .ok (.istore 5, 2) := by decide +kernel
theorem dL_law_2265 : decode cL_law 2265 = .ok (.aload_n 2, 1) := by decide +kernel
theorem dL_law_2266 : decode cL_law 2266 = .ok (.aload_n 0, 1) := by decide +kernel
theorem dL_law_2267 : decode cL_law 2267 = .ok (.iload 4, 2) := by decide +kernel
theorem dL_law_2269 : decode cL_law 2269 = .ok (.iconst 1, 1) := by decide +kernel
theorem dL_law_2270 : decode cL_law 2270 = .ok (.iadd, 1) := by decide +kernel
theorem dL_law_2271 : decode cL_law 2271 = .ok (.iaload, 1) := by decide +kernel
theorem dL_law_2272 : decode cL_law 2272 = .ok (.invokevirtual 233, 3) := by decide +kernel
theorem dL_law_2275 : decode cL_law 2275 = .ok (.istore 6, 2) := by decide +kernel
theorem dL_law_2277 : decode cL_law 2277 = .ok (.aload_n 2, 1) := by decide +kernel
theorem dL_law_2278 : decode cL_law 2278 = .ok (.invokevirtual 127, 3) := by decide +kernel
theorem dL_law_2281 : decode cL_law 2281 = .ok (.iload 5, 2) := by decide +kernel
theorem dL_law_2283 : decode cL_law 2283 = .ok (.if_icmp .eq 5, 3) := by decide +kernel
theorem dL_law_2286 : decode cL_law 2286 = .ok (.iconst 0, 1) := by decide +kernel
theorem dL_law_2287 : decode cL_law 2287 = .ok (.ireturn, 1) := by decide +kernel
theorem dL_law_2288 : decode cL_law 2288 = .ok (.iload 5, 2) := by decide +kernel
theorem dL_law_2290 : decode cL_law 2290 = .ok (.ifCond .ne 15, 3) := by decide +kernel
theorem dL_law_2293 : decode cL_law 2293 = .ok (.aload_n 3, 1) := by decide +kernel
theorem dL_law_2294 : decode cL_law 2294 = .ok (.iconst 0, 1) := by decide +kernel
theorem dL_law_2295 : decode cL_law 2295 = .ok (.laload, 1) := by decide +kernel
theorem dL_law_2296 : decode cL_law 2296 = .ok (.iload 6, 2) := by decide +kernel
theorem dL_law_2298 : decode cL_law 2298 = .ok (.i2l, 1) := by decide +kernel
theorem dL_law_2299 : decode cL_law 2299 = .ok (.lcmp, 1) := by decide +kernel
theorem dL_law_2300 : decode cL_law 2300 = .ok (.ifCond .eq 5, 3) := by decide +kernel
theorem dL_law_2303 : decode cL_law 2303 = .ok (.iconst 0, 1) := by decide +kernel
theorem dL_law_2304 : decode cL_law 2304 = .ok (.ireturn, 1) := by decide +kernel
theorem dL_law_2305 : decode cL_law 2305 = .ok (.goto 128, 3) := by decide +kernel
theorem dL_law_2308 : decode cL_law 2308 = .ok (.aload_n 1, 1) := by decide +kernel
theorem dL_law_2309 : decode cL_law 2309 = .ok (.aload_n 0, 1) := by decide +kernel
theorem dL_law_2310 : decode cL_law 2310 = .ok (.iload 4, 2) := by decide +kernel
theorem dL_law_2312 : decode cL_law 2312 = .ok (.iconst 1, 1) := by decide +kernel
theorem dL_law_2313 : decode cL_law 2313 = .ok (.iadd, 1) := by decide +kernel
theorem dL_law_2314 : decode cL_law 2314 = .ok (.iaload, 1) := by decide +kernel
theorem dL_law_2315 : decode cL_law 2315 = .ok (.aload_n 3, 1) := by decide +kernel
theorem dL_law_2316 : decode cL_law 2316 = .ok (.invokestatic 234, 3) := by decide +kernel
theorem dL_law_2319 : decode cL_law 2319 = .ok (.istore 5, 2) := by decide +kernel
theorem dL_law_2321 : decode cL_law 2321 = .ok (.aload_n 2, 1) := by decide +kernel
theorem dL_law_2322 : decode cL_law 2322 = .ok (.aload_n 0, 1) := by decide +kernel
theorem dL_law_2323 : decode cL_law 2323 = .ok (.iload 4, 2) := by decide +kernel
theorem dL_law_2325 : decode cL_law 2325 = .ok (.iconst 1, 1) := by decide +kernel
theorem dL_law_2326 : decode cL_law 2326 = .ok (.iadd, 1) := by decide +kernel
theorem dL_law_2327 : decode cL_law 2327 = .ok (.iaload, 1) := by decide +kernel
theorem dL_law_2328 : decode cL_law 2328 = .ok (.invokevirtual 236, 3) := by decide +kernel
theorem dL_law_2331 : decode cL_law 2331 = .ok (.istore 6, 2) := by decide +kernel
theorem dL_law_2333 : decode cL_law 2333 = .ok (.aload_n 2, 1) := by decide +kernel
theorem dL_law_2334 : decode cL_law 2334 = .ok (.invokevirtual 127, 3) := by decide +kernel
theorem dL_law_2337 : decode cL_law 2337 = .ok (.iload 5, 2) := by decide +kernel
theorem dL_law_2339 : decode cL_law 2339 = .ok (.if_icmp .eq 5, 3) := by decide +kernel
theorem dL_law_2342 : decode cL_law 2342 = .ok (.iconst 0, 1) := by decide +kernel
theorem dL_law_2343 : decode cL_law 2343 = .ok (.ireturn, 1) := by decide +kernel
theorem dL_law_2344 : decode cL_law 2344 = .ok (.iload 5, 2) := by decide +kernel
theorem dL_law_2346 : decode cL_law 2346 = .ok (.ifCond .ne 15, 3) := by decide +kernel
theorem dL_law_2349 : decode cL_law 2349 = .ok (.aload_n 3, 1) := by decide +kernel
theorem dL_law_2350 : decode cL_law 2350 = .ok (.iconst 0, 1) := by decide +kernel
theorem dL_law_2351 : decode cL_law 2351 = .ok (.laload, 1) := by decide +kernel
theorem dL_law_2352 : decode cL_law 2352 = .ok (.iload 6, 2) := by decide +kernel
theorem dL_law_2354 : decode cL_law 2354 = .ok (.i2l, 1) := by decide +kernel
theorem dL_law_2355 : decode cL_law 2355 = .ok (.lcmp, 1) := by decide +kernel
theorem dL_law_2356 : decode cL_law 2356 = .ok (.ifCond .eq 5, 3) := by decide +kernel
theorem dL_law_2359 : decode cL_law 2359 = .ok (.iconst 0, 1) := by decide +kernel
theorem dL_law_2360 : decode cL_law 2360 = .ok (.ireturn, 1) := by decide +kernel
theorem dL_law_2361 : decode cL_law 2361 = .ok (.goto 72, 3) := by decide +kernel
theorem dL_law_2364 : decode cL_law 2364 = .ok (.aload_n 1, 1) := by decide +kernel
theorem dL_law_2365 : decode cL_law 2365 = .ok (.aload_n 0, 1) := by decide +kernel
theorem dL_law_2366 : decode cL_law 2366 = .ok (.iload 4, 2) := by decide +kernel
theorem dL_law_2368 : decode cL_law 2368 = .ok (.iconst 1, 1) := by decide +kernel
theorem dL_law_2369 : decode cL_law 2369 = .ok (.iadd, 1) := by decide +kernel
theorem dL_law_2370 : decode cL_law 2370 = .ok (.iaload, 1) := by decide +kernel
theorem dL_law_2371 : decode cL_law 2371 = .ok (.aload_n 3, 1) := by decide +kernel
theorem dL_law_2372 : decode cL_law 2372 = .ok (.invokestatic 237, 3) := by decide +kernel
theorem dL_law_2375 : decode cL_law 2375 = .ok (.istore 5, 2) := by decide +kernel
theorem dL_law_2377 : decode cL_law 2377 = .ok (.aload_n 2, 1) := by decide +kernel
theorem dL_law_2378 : decode cL_law 2378 = .ok (.aload_n 0, 1) := by decide +kernel
theorem dL_law_2379 : decode cL_law 2379 = .ok (.iload 4, 2) := by decide +kernel
theorem dL_law_2381 : decode cL_law 2381 = .ok (.iconst 1, 1) := by decide +kernel
theorem dL_law_2382 : decode cL_law 2382 = .ok (.iadd, 1) := by decide +kernel
theorem dL_law_2383 : decode cL_law 2383 = .ok (.iaload, 1) := by decide +kernel
theorem dL_law_2384 : decode cL_law 2384 = .ok (.invokevirtual 239, 3) := by decide +kernel
theorem dL_law_2387 : decode cL_law 2387 = .ok (.istore 6, 2) := by decide +kernel
theorem dL_law_2389 : decode cL_law 2389 = .ok (.aload_n 2, 1) := by decide +kernel
theorem dL_law_2390 : decode cL_law 2390 = .ok (.invokevirtual 127, 3) := by decide +kernel
theorem dL_law_2393 : decode cL_law 2393 = .ok (.iload 5, 2) := by decide +kernel
theorem dL_law_2395 : decode cL_law 2395 = .ok (.if_icmp .eq 5, 3) := by decide +kernel
theorem dL_law_2398 : decode cL_law 2398 = .ok (.iconst 0, 1) := by decide +kernel
theorem dL_law_2399 : decode cL_law 2399 = .ok (.ireturn, 1) := by decide +kernel
theorem dL_law_2400 : decode cL_law 2400 = .ok (.iload 5, 2) := by decide +kernel
theorem dL_law_2402 : decode cL_law 2402 = .ok (.ifCond .ne 15, 3) := by decide +kernel
theorem dL_law_2405 : decode cL_law 2405 = .ok (.aload_n 3, 1) := by decide +kernel
theorem dL_law_2406 : decode cL_law 2406 = .ok (.iconst 0, 1) := by decide +kernel
theorem dL_law_2407 : decode cL_law 2407 = .ok (.laload, 1) := by decide +kernel
theorem dL_law_2408 : decode cL_law 2408 = .ok (.iload 6, 2) := by decide +kernel
theorem dL_law_2410 : decode cL_law 2410 = .ok (.i2l, 1) := by decide +kernel
theorem dL_law_2411 : decode cL_law 2411 = .ok (.lcmp, 1) := by decide +kernel
theorem dL_law_2412 : decode cL_law 2412 = .ok (.ifCond .eq 5, 3) := by decide +kernel
theorem dL_law_2415 : decode cL_law 2415 = .ok (.iconst 0, 1) := by decide +kernel
theorem dL_law_2416 : decode cL_law 2416 = .ok (.ireturn, 1) := by decide +kernel
theorem dL_law_2417 : decode cL_law 2417 = .ok (.goto 16, 3) := by decide +kernel
theorem dL_law_2420 : decode cL_law 2420 = .ok (.aload_n 1, 1) := by decide +kernel
theorem dL_law_2421 : decode cL_law 2421 = .ok (.invokevirtual 240, 3) := by decide +kernel
theorem dL_law_2424 : decode cL_law 2424 = .ok (.aload_n 2, 1) := by decide +kernel
theorem dL_law_2425 : decode cL_law 2425 = .ok (.invokevirtual 243, 3) := by decide +kernel
theorem dL_law_2428 : decode cL_law 2428 = .ok (.if_icmp .eq 5, 3) := by decide +kernel
theorem dL_law_2431 : decode cL_law 2431 = .ok (.iconst 0, 1) := by decide +kernel
theorem dL_law_2432 : decode cL_law 2432 = .ok (.ireturn, 1) := by decide +kernel
theorem dL_law_2433 : decode cL_law 2433 = .ok (.iinc 4 8, 3) := by decide +kernel
theorem dL_law_2436 : decode cL_law 2436 = .ok (.goto (-2413), 3) := by decide +kernel
theorem dL_law_2439 : decode cL_law 2439 = .ok (.iconst 1, 1) := by decide +kernel
theorem dL_law_2440 : decode cL_law 2440 = .ok (.ireturn, 1) := by decide +kernel
end
section
abbrev FO : Type := (Nat → Int32) × (Nat → Int64) × (Nat → Nat) × (Nat → Nat → Int32) × (Nat → Nat → Int64)
abbrev GH : Type := Nat → Option (Nat × FO)
abbrev gK : Type := Nat × Nat × Nat
def hu (h : GH) (a : Nat) (x : Nat × FO) : GH := fun b => if b = a then some x else h b
theorem hu_s {h : GH} {a : Nat} {x : Nat × FO} : hu h a x a = some x := by simp [hu]
theorem hu_n {h : GH} {a b : Nat} {x : Nat × FO} (n : b ≠ a) : hu h a x b = h b := by simp [hu, n]
theorem hu_hu {h : GH} {a : Nat} {x y : Nat × FO} : hu (hu h a x) a y = hu h a y := by
  funext b; unfold hu; split <;> rfl
theorem hu_id {h : GH} {a : Nat} {x : Nat × FO} (e : h a = some x) : hu h a x = h := by
  funext b; unfold hu; split
  · rename_i q; subst q; exact e.symm
  · rfl
def fI (o : FO) (k : Nat) : Int32 := o.1 k
def fL (o : FO) (k : Nat) : Int64 := o.2.1 k
def fR (o : FO) (k : Nat) : Nat := o.2.2.1 k
def fA (o : FO) (k i : Nat) : Int32 := o.2.2.2.1 k i
def fB (o : FO) (k i : Nat) : Int64 := o.2.2.2.2 k i
def sI (o : FO) (k : Nat) (v : Int32) : FO := (va_up o.1 k v, o.2)
def sL (o : FO) (k : Nat) (v : Int64) : FO := (o.1, va_up o.2.1 k v, o.2.2)
def sR (o : FO) (k : Nat) (v : Nat) : FO := (o.1, o.2.1, va_up o.2.2.1 k v, o.2.2.2)
def sA (o : FO) (k i : Nat) (x : Int32) : FO := (o.1, o.2.1, o.2.2.1, va_up o.2.2.2.1 k (va_up (o.2.2.2.1 k) i x), o.2.2.2.2)
def sB (o : FO) (k i : Nat) (x : Int64) : FO := (o.1, o.2.1, o.2.2.1, o.2.2.2.1, va_up o.2.2.2.2 k (va_up (o.2.2.2.2 k) i x))
def fo0 : FO := (fun _ => 0, fun _ => 0, fun _ => 0, fun _ _ => 0, fun _ _ => 0)
/-- what the slots of a class are: 0 int, 1 long, 2 reference, 3 own int row, 4 own boolean row, 5 own long row; its length; its place behind the object -/
def g_tab : Nat → List gK
  | 0 => [(0, 0, 0), (0, 0, 0), (0, 0, 0)]
  | 1 => [(0, 0, 0), (0, 0, 0), (0, 0, 0), (0, 0, 0), (0, 0, 0), (0, 0, 0), (0, 0, 0)]
  | 2 => [(3, 40, 1), (3, 40, 2), (3, 40, 3), (3, 40, 4), (3, 40, 5), (3, 40, 6), (5, 40, 7), (1, 0, 0), (0, 0, 0), (0, 0, 0)]
  | 3 => [(0, 0, 0), (0, 0, 0), (0, 0, 0), (0, 0, 0)]
  | 4 => [(0, 0, 0), (2, 0, 0), (0, 0, 0), (2, 0, 0), (3, 6, 9), (0, 0, 0), (4, 200, 10), (0, 0, 0), (2, 0, 0), (0, 0, 0)]
  | 5 => [(0, 0, 0), (0, 0, 0), (0, 0, 0)]
  | 6 => [(0, 0, 0), (0, 0, 0), (0, 0, 0), (0, 0, 0), (0, 0, 0), (0, 0, 0)]
  | 7 => [(0, 0, 0), (0, 0, 0), (0, 0, 0), (0, 0, 0)]
  | 8 => [(2, 0, 0), (2, 0, 0), (2, 0, 0), (2, 0, 0), (2, 0, 0), (2, 0, 0), (1, 0, 0), (3, 6, 21), (3, 6, 22), (3, 8, 23), (0, 0, 0)]
  | 9 => [(0, 0, 0), (0, 0, 0), (3, 200, 1), (3, 200, 2), (3, 200, 3), (3, 200, 4), (3, 200, 5), (4, 200, 6), (3, 1200, 7), (3, 6, 8), (0, 0, 0), (3, 40, 9), (3, 40, 10), (3, 40, 11), (3, 40, 12), (3, 40, 13), (3, 40, 14), (4, 40, 15), (0, 0, 0), (3, 40, 16), (4, 40, 17), (3, 40, 18), (3, 40, 19), (3, 40, 20), (3, 40, 21), (0, 0, 0), (3, 8, 22), (3, 8, 23), (3, 8, 24), (3, 8, 25), (3, 8, 26), (3, 8, 27), (3, 8, 28), (4, 8, 29), (4, 8, 30), (3, 48, 31), (4, 1600, 32), (3, 8, 33), (3, 320, 34), (3, 320, 35), (3, 320, 36), (3, 320, 37), (3, 160, 38), (3, 160, 39), (3, 160, 40), (3, 160, 41), (3, 6, 42), (3, 8, 43), (0, 0, 0)]
  | _ => []
def g_v (a : Nat) (o : FO) (k : Nat) (q : gK) : Value := match q.1 with
  | 0 => .int (fI o k)
  | 1 => .long (fL o k)
  | 2 => .ref (fR o k)
  | _ => .ref (a + q.2.2)
def g_fs (ci a : Nat) (o : FO) : List Value := (g_tab ci).mapIdx fun k q => g_v a o k q
def g_arr (dA : Nat → ClassId) (o : FO) (k : Nat) (q : gK) : Cell := match q.1 with
  | 3 => arrV (dA 0) q.2.1 (fun j => .int (fA o k j))
  | 4 => arrV (dA 1) q.2.1 (fun j => .int (fA o k j))
  | _ => arrV (dA 2) q.2.1 (fun j => .long (fB o k j))
/-- an ArrayList: its size is int 2, its elements the references -/
def g_list (D : va_G) (dA : Nat → ClassId) (E0 : Nat) (tag : Nat → Nat × Nat) (a : Nat) (o : FO) (H : Heap) : Prop :=
  ∃ (mod : Int32) (ed n : Nat), n < 2000 ∧ fI o 2 = nI n ∧ t_OB a (D.1 0) 3 (D.2 0) H (vp_V [.int mod, .ref ed, .int (nI n)]) ∧
    ((ed = E0 ∧ n = 0) ∨ (∃ (cap : Nat) (f : Nat → Option Nat), tag ed = (a, 1) ∧ n ≤ cap ∧ 2 ≤ cap ∧ cap ≤ 10 + n + n / 2 ∧ H[ed]? = some (arrV (dA 3) cap (fun j => va_rf (f j))) ∧ ∀ j, j < n → f j = some (fR o j)))
def g_pic (D : va_G) (dA : Nat → ClassId) (E0 : Nat) (tag : Nat → Nat × Nat) (ci a : Nat) (o : FO) (H : Heap) : Prop := match ci with
  | 0 => g_list D dA E0 tag a o H
  | 10 => H[a]? = some (arrV (dA 2) 1 (fun j => .long (fB o 0 j)))
  | ci => t_OB a (D.1 ci) (g_tab ci).length (D.2 ci) H (vp_V (g_fs ci a o)) ∧ ∀ (k : Nat) (q : gK), (g_tab ci)[k]? = some q → 3 ≤ q.1 → tag (a + q.2.2) = (a, k + 1) ∧ H[a + q.2.2]? = some (g_arr dA o k q)
def GWt (D : va_G) (dA : Nat → ClassId) (E0 B0 : Nat) (tag : Nat → Nat × Nat) (h : GH) (H : Heap) : Prop :=
  ∀ (a ci : Nat) (o : FO), h a = some (ci, o) → B0 ≤ a ∧ tag a = (a, 0) ∧ g_pic D dA E0 tag ci a o H
def GW (D : va_G) (dA : Nat → ClassId) (E0 B0 : Nat) (h : GH) (H : Heap) : Prop := ∃ tag, GWt D dA E0 B0 tag h H
/-- the classes with a table of slots -/
def g_nice (ci : Nat) : Bool := ci != 0 && ci != 10
theorem g_pic_nice {D : va_G} {dA : Nat → ClassId} {E0 : Nat} {tag : Nat → Nat × Nat} {ci a : Nat} {o : FO} {H : Heap} (hn : g_nice ci = true) :
    g_pic D dA E0 tag ci a o H = (t_OB a (D.1 ci) (g_tab ci).length (D.2 ci) H (vp_V (g_fs ci a o)) ∧ ∀ (k : Nat) (q : gK), (g_tab ci)[k]? = some q → 3 ≤ q.1 → tag (a + q.2.2) = (a, k + 1) ∧ H[a + q.2.2]? = some (g_arr dA o k q)) := by
  unfold g_nice at hn
  unfold g_pic
  split
  · simp at hn
  · simp at hn
  · rfl
theorem t_OB_lt {a : Nat} {cC : ClassId} {N : Nat} {iS : Nat → Nat} {H : Heap} {V : Nat → Value} (h : t_OB a cC N iS H V) : a < H.size := by
  obtain ⟨cell, h1, -⟩ := h
  exact (Array.getElem?_eq_some_iff.mp h1).1
theorem some_lt {H : Heap} {a : Nat} {c : Cell} (h : H[a]? = some c) : a < H.size := (Array.getElem?_eq_some_iff.mp h).1
theorem g_pic_lt {D : va_G} {dA : Nat → ClassId} {E0 : Nat} {tag : Nat → Nat × Nat} {ci a : Nat} {o : FO} {H : Heap} (h : g_pic D dA E0 tag ci a o H) : a < H.size := by
  unfold g_pic at h
  split at h
  · obtain ⟨_, _, _, _, _, h, -⟩ := h
    exact t_OB_lt h
  · exact some_lt h
  · exact t_OB_lt h.1
/-- another heap, and other tags, that agree on the cells of the object -/
theorem g_pic_kept {D : va_G} {dA : Nat → ClassId} {E0 : Nat} {tag tag' : Nat → Nat × Nat} {ci a : Nat} {o : FO} {H H' : Heap} (h : g_pic D dA E0 tag ci a o H) (ha : tag a = (a, 0))
    (hq : ∀ q, q < H.size → (tag q).1 = a → H'[q]? = H[q]? ∧ tag' q = tag q) : g_pic D dA E0 tag' ci a o H' := by
  have hlt := g_pic_lt h
  have h0 := (hq a hlt (by rw [ha])).1
  unfold g_pic at h ⊢
  split at h
  · obtain ⟨mod, ed, n, h1, h2, h3, h4⟩ := h
    refine ⟨mod, ed, n, h1, h2, h3.kept h0, ?_⟩
    rcases h4 with h4 | ⟨cap, f, t1, t2, t3, t4, t5, t6⟩
    · exact Or.inl h4
    · have hk := hq ed (some_lt t5) (by rw [t1])
      exact Or.inr ⟨cap, f, hk.2.trans t1, t2, t3, t4, hk.1.trans t5, t6⟩
  · exact h0.trans h
  · refine ⟨h.1.kept h0, fun k q h1 h2 => ?_⟩
    obtain ⟨t1, t2⟩ := h.2 k q h1 h2
    have hk := hq _ (some_lt t2) (by rw [t1])
    exact ⟨hk.2.trans t1, hk.1.trans t2⟩
theorem GWt.upd {D : va_G} {dA : Nat → ClassId} {E0 B0 : Nat} {tag tag' : Nat → Nat × Nat} {h : GH} {H H' : Heap} {a ci : Nat} {o : FO} (hG : GWt D dA E0 B0 tag h H) (hB : B0 ≤ a) (ha : tag' a = (a, 0))
    (hq : ∀ q, q < H.size → (tag q).1 ≠ a → H'[q]? = H[q]? ∧ tag' q = tag q) (hp : g_pic D dA E0 tag' ci a o H') : GWt D dA E0 B0 tag' (hu h a (ci, o)) H' := by
  intro b cb ob hb
  by_cases e : b = a
  · subst e
    rw [hu_s] at hb
    cases hb
    exact ⟨hB, ha, hp⟩
  · rw [hu_n e] at hb
    obtain ⟨g1, g2, g3⟩ := hG b cb ob hb
    have hlt := g_pic_lt g3
    refine ⟨g1, (hq b hlt (by rw [g2]; exact e)).2.trans g2, g_pic_kept g3 g2 fun q h1 h2 => hq q h1 (by rw [h2]; exact e)⟩
/-- the same objects in another heap -/
theorem GWt.kept {D : va_G} {dA : Nat → ClassId} {E0 B0 : Nat} {tag tag' : Nat → Nat × Nat} {h : GH} {H H' : Heap} (hG : GWt D dA E0 B0 tag h H) (hq : ∀ q, q < H.size → H'[q]? = H[q]? ∧ tag' q = tag q) : GWt D dA E0 B0 tag' h H' := by
  intro b cb ob hb
  obtain ⟨g1, g2, g3⟩ := hG b cb ob hb
  exact ⟨g1, (hq b (g_pic_lt g3)).2.trans g2, g_pic_kept g3 g2 fun q h1 _ => hq q h1⟩
theorem GWt.lt {D : va_G} {dA : Nat → ClassId} {E0 B0 : Nat} {tag : Nat → Nat × Nat} {h : GH} {H : Heap} (hG : GWt D dA E0 B0 tag h H) {a ci : Nat} {o : FO} (e : h a = some (ci, o)) : a < H.size := g_pic_lt (hG a ci o e).2.2
theorem g_fs_len {ci a : Nat} {o : FO} : (g_fs ci a o).length = (g_tab ci).length := by simp [g_fs]
theorem g_fs_at {ci a k : Nat} {o : FO} {q : gK} (h : (g_tab ci)[k]? = some q) : (g_fs ci a o)[k]? = some (g_v a o k q) := by
  simp [g_fs, h]
theorem g_fs_V {ci a k : Nat} {o : FO} {q : gK} (h : (g_tab ci)[k]? = some q) : vp_V (g_fs ci a o) k = g_v a o k q := by
  simp [vp_V, g_fs_at h]
/-- words that stay true when the machine warms -/
def g_ok : Cond → Bool
  | .methodLinkNest .. | .fieldLinkNest .. => true
  | w => w.onTables && w.keepsFace
def TW : List Cond := lw_tbl.filter fun w => goodWord w || g_ok w
theorem tw_in {w : Cond} (i : Nat) (h : lw_tbl[i]? = some w) (hg : (goodWord w || g_ok w) = true) : w ∈ TW := List.mem_filter.mpr ⟨List.mem_of_getElem? h, hg⟩
theorem tw_tbl {w : Cond} (h : w ∈ TW) : w ∈ lw_tbl := (List.mem_filter.mp h).1
theorem g_ok_go {w : Cond} {A A' : Array Value} {s U : State} (hW : s.WarmedH U.vm) (hg : (goodWord w || g_ok w) = true) (h : w.before A s = true) : w.before A' U = true := by
  simp only [Bool.or_eq_true] at hg
  rcases hg with hg | hg
  · exact word_at hW (good_of_word hg) h
  · unfold g_ok at hg
    split at hg
    · exact va_Nw.use rfl (va_Nw.warmM hW (va_Nw.of rfl h))
    · exact va_Nw.use rfl (va_Nw.warmF hW (va_Nw.of rfl h))
    · simp only [Bool.and_eq_true] at hg
      have h1 := Cond.before_shiftedFace (args := A) (State.Shifted.of_warmed hW) _ hg.2 h
      rw [Cond.onTables_vm (A' := A') (U' := U) U.vm _ hg.1] at h1
      exact h1
abbrev gA (B0 : Nat) : Nat → Prop := fun q => B0 ≤ q
abbrev g_tys (dA : Nat → ClassId) : List (ClassId × FieldType) := [(dA 0, .int), (dA 1, .boolean), (dA 2, .long), (dA 3, .object "java/lang/Object")]
def g_strs : List (String × Nat × String) := [("CanvasRoom", 323, "no such hand"), ("CanvasRoom", 330, "out of range"), ("CanvasRoom", 63, "no room for another shape or act"), ("CanvasRoom", 335, "no such shape"), ("CanvasRoom", 337, "not there, taken down, or no room for another act"), ("CanvasRoom", 111, "a shape cannot be joined to itself"), ("CanvasRoom", 120, "no live act, or an edition holds it"), ("CanvasRoom", 133, "nothing to redo"), ("CanvasRoom", 339, "no such act"), ("CanvasRoom", 147, "the shape is not there"), ("CanvasRoom", 328, "no such cell"), ("CanvasRoom", 181, "no shape is seen, or no room for another edition"), ("CanvasRoom", 344, "no such edition"), ("CanvasRoom", 212, "withdrawn already, or a copy was sold"), ("CanvasRoom", 326, "no such buyer"), ("CanvasRoom", 242, "withdrawn, or no copy is left"), ("CanvasRoom", 346, "no such copy"), ("CanvasRoom", 278, "the copy is not SOLD, or the buyer owns it"), ("CanvasRoom", 286, "taken down already"), ("CanvasRoom", 348, "the copy is not CHANGED")]
/-- the surroundings of a call: what the tables and the statics say -/
def gE (D : va_G) (dA : Nat → ClassId) (E0 B0 : Nat) (U : State) : Prop :=
  va_K D vwCl (g_tys dA) U ∧ (∀ w ∈ TW, w.before #[] U = true) ∧ (∀ q ∈ g_strs, ∃ sa, vk_R q.1 q.2.1 q.2.2 sa U) ∧
  vx_Zq Bundle.tN "UNASSIGNED_STACK" Bundle.steD (gA B0) U U.heap ∧ vx_Zq Bundle.tN "SUPPRESSED_SENTINEL" Bundle.listD (gA B0) U U.heap ∧
  va_Z "java/util/ArrayList" "DEFAULTCAPACITY_EMPTY_ELEMENTDATA" "[Ljava/lang/Object;" (.ref E0) (gA B0) U U.heap ∧
  (E0 < B0 ∧ ∃ cell : Cell, U.heap[E0]? = some cell ∧ U.isArrayOf cell (.object "java/lang/Object") ∧ cell.vm ≠ .unknown ∧ cell.slots.size = 0) ∧
  (∃ mi, va_Mi "[Ljava/lang/Object;" mi U) ∧ B0 ≤ U.heap.size
theorem gE_go {D : va_G} {dA : Nat → ClassId} {E0 B0 : Nat} {s U : State} {H : Heap} {locs : List Loc} (h : gE D dA E0 B0 s) (hS : va_S (gA B0) s.heap H locs) (hU : U.heap = H) (hW : s.WarmedH U.vm) : gE D dA E0 B0 U := by
  obtain ⟨h1, h2, h3, h4, h5, h6, ⟨h7, cell, h8, h9, h10, h11⟩, ⟨mi, h12⟩, h13⟩ := h
  have hq : ∀ a : Nat, a < s.heap.size → ¬ gA B0 a → U.heap[a]? = s.heap[a]? := fun a x y => by rw [hU]; exact hS.2.1 a x y
  refine ⟨h1.moved hW.alike, fun w hw => g_ok_go hW (List.mem_filter.mp hw).2 (h2 w hw), fun q hq => ?_, (h4.moved hW.alike).kept hq, (h5.moved hW.alike).kept hq, (h6.moved hW.alike).kept hq, ⟨h7, cell, ?_, State.isArrayOf_alike hW.alike h9, h10, h11⟩, ⟨mi, h12.moved hW.alike⟩, by rw [hU]; exact Nat.le_trans h13 hS.1⟩
  · obtain ⟨sa, h⟩ := h3 q hq
    exact ⟨sa, h.warm hW⟩
  · rw [hq E0 (some_lt h8) (Nat.not_le.mpr h7)]; exact h8
abbrev gWx : Type := Launch × va_G × (Nat → ClassId) × Nat × Nat
abbrev yl (Y : gWx) := Y.1
abbrev yD (Y : gWx) := Y.2.1
abbrev ydA (Y : gWx) := Y.2.2.1
abbrev yE0 (Y : gWx) := Y.2.2.2.1
abbrev yB0 (Y : gWx) := Y.2.2.2.2
def yW (Y : gWx) (h : GH) (H : Heap) : Prop := GW (yD Y) (ydA Y) (yE0 Y) (yB0 Y) h H
def yE (Y : gWx) (U : State) : Prop := gE (yD Y) (ydA Y) (yE0 Y) (yB0 Y) U
abbrev gCx : Type := gWx × Program × Env × Room × State × MethodId × Array Value × List Frame × Method × Code × (State → Prop) × Nat
abbrev xY (X : gCx) := X.1
abbrev xp (X : gCx) := X.2.1
abbrev xe (X : gCx) := X.2.2.1
abbrev xR (X : gCx) := X.2.2.2.1
abbrev xs (X : gCx) := X.2.2.2.2.1
abbrev xm (X : gCx) := X.2.2.2.2.2.1
abbrev xa (X : gCx) := X.2.2.2.2.2.2.1
abbrev xb (X : gCx) := X.2.2.2.2.2.2.2.1
abbrev xh (X : gCx) := X.2.2.2.2.2.2.2.2.1
abbrev xc (X : gCx) := X.2.2.2.2.2.2.2.2.2.1
abbrev xQ (X : gCx) := X.2.2.2.2.2.2.2.2.2.2.1
abbrev xn (X : gCx) := X.2.2.2.2.2.2.2.2.2.2.2
abbrev gV (X : gCx) (H : Heap) (locs : List Loc) (mc ms : Nat) (g : JFrame) : Prop := W (xp X) (yl (xY X)) (xe X) (xR X) (xs X) (xm X) (xa X) (xb X) (xh X) (xc X) H locs mc ms (xQ X) g
/-- the machine at pc, with these locals, this stack and this heap of objects, comes to its end -/
def gX (X : gCx) (mc ms pc : Nat) (loc : List (Nat × Value)) (stk : List Value) (h : GH) : Prop :=
  ∀ (H : Heap) (locs : List Loc) (ls : Array Slot), va_S (gA (yB0 (xY X))) (xs X).heap H locs → yW (xY X) h H → lv_has ls (xn X) loc → gV X H locs mc ms (F0 (xm X) pc ls stk)
/-- what a method's walk stands on -/
def gC (X : gCx) (cc : ByteArray) (own : String) (ret : Option FieldType) (rm : Room) : Prop :=
  (xp X).tables.exec = Jvm.exec ∧ (xc X).code = cc ∧ (xc X).maxLocals = xn X ∧ (xs X).vm.findClass own = some (xm X).cls ∧ (xh X).sig.returnType = ret ∧ (xh X).locks = false ∧ yE (xY X) (xs X) ∧ xR X = rm
theorem gC.hts {X : gCx} {cc : ByteArray} {own : String} {ret : Option FieldType} {rm : Room} (C : gC X cc own ret rm) : ∀ w ∈ TW, w.before (xa X) (xs X) = true := fun w hw =>
  g_ok_go (s := xs X) (U := xs X) (State.WarmedH.refl _) (List.mem_filter.mp hw).2 (C.2.2.2.2.2.2.1.2.1 w hw)
theorem gC.ht {X : gCx} {cc : ByteArray} {own : String} {ret : Option FieldType} {rm : Room} (C : gC X cc own ret rm) {w : Cond} (h : w ∈ TW) : w.before (xa X) (xs X) = true := C.hts w h
theorem gC.K {X : gCx} {cc : ByteArray} {own : String} {ret : Option FieldType} {rm : Room} (C : gC X cc own ret rm) : va_K (yD (xY X)) vwCl (g_tys (ydA (xY X))) (xs X) := C.2.2.2.2.2.2.1.1
/-- a class: its place in the lists, its slots and their types -/
def gCl (ci : Nat) (Cn : String) (T : u_T) (N : Nat) (ty : Nat → FieldType) : Prop :=
  vwCl[ci]? = some (Cn, T, N) ∧ N = (g_tab ci).length ∧ (∀ w ∈ u_ws Cn T N, w ∈ TW) ∧ (∀ k, k < N → parseFieldDescriptor (T k).2.2.1 = some (ty k)) ∧ (∀ a, a < N → ∀ b, b < N → a ≠ b → (T a).2.1 ≠ (T b).2.1) ∧ g_nice ci = true
section GROWS
variable {X : gCx} {cc : ByteArray} {own : String} {ret : Option FieldType} {rm : Room} {mc ms pc : Nat} {loc : List (Nat × Value)} {stk : List Value} {h : GH}
theorem r_iconst (C : gC X cc own ret rm) {n : Int} {v : Int32} (hd : decode cc pc = .ok (.iconst n, 1)) (hv : Int32.ofInt n = v) (kk : gX X mc ms (pc + 1) loc (.int v :: stk) h) : gX X mc ms pc loc (stk) h := fun H locs ls hS hG hl => lv_iconst C.1 C.2.1 hd hv (kk H locs ls hS hG hl)
theorem r_bipush (C : gC X cc own ret rm) {n : Int} {v : Int32} (hd : decode cc pc = .ok (.bipush n, 2)) (hv : (Int8.ofInt n).toInt32 = v) (kk : gX X mc ms (pc + 2) loc (.int v :: stk) h) : gX X mc ms pc loc (stk) h := fun H locs ls hS hG hl => lv_bipush C.1 C.2.1 hd hv (kk H locs ls hS hG hl)
theorem r_sipush (C : gC X cc own ret rm) {n : Int} {v : Int32} (hd : decode cc pc = .ok (.sipush n, 3)) (hv : (Int16.ofInt n).toInt32 = v) (kk : gX X mc ms (pc + 3) loc (.int v :: stk) h) : gX X mc ms pc loc (stk) h := fun H locs ls hS hG hl => lv_sipush C.1 C.2.1 hd hv (kk H locs ls hS hG hl)
theorem r_lconst (C : gC X cc own ret rm) {n : Fin 2} {v : Int64} (hd : decode cc pc = .ok (.lconst n, 1)) (hv : Int64.ofNat (n : Nat) = v) (kk : gX X mc ms (pc + 1) loc (.long v :: stk) h) : gX X mc ms pc loc (stk) h := fun H locs ls hS hG hl => lv_lconst C.1 C.2.1 hd hv (kk H locs ls hS hG hl)
theorem r_iadd (C : gC X cc own ret rm) {x y : Int32} (hd : decode cc pc = .ok (.iadd, 1))  (kk : gX X mc ms (pc + 1) loc (.int (x + y) :: stk) h) : gX X mc ms pc loc (.int y :: .int x :: stk) h := fun H locs ls hS hG hl => lv_iadd C.1 C.2.1 hd  (kk H locs ls hS hG hl)
theorem r_isub (C : gC X cc own ret rm) {x y : Int32} (hd : decode cc pc = .ok (.isub, 1))  (kk : gX X mc ms (pc + 1) loc (.int (x - y) :: stk) h) : gX X mc ms pc loc (.int y :: .int x :: stk) h := fun H locs ls hS hG hl => lv_isub C.1 C.2.1 hd  (kk H locs ls hS hG hl)
theorem r_imul (C : gC X cc own ret rm) {x y : Int32} (hd : decode cc pc = .ok (.imul, 1))  (kk : gX X mc ms (pc + 1) loc (.int (x * y) :: stk) h) : gX X mc ms pc loc (.int y :: .int x :: stk) h := fun H locs ls hS hG hl => lv_imul C.1 C.2.1 hd  (kk H locs ls hS hG hl)
theorem r_iand (C : gC X cc own ret rm) {x y : Int32} (hd : decode cc pc = .ok (.iand, 1))  (kk : gX X mc ms (pc + 1) loc (.int (x &&& y) :: stk) h) : gX X mc ms pc loc (.int y :: .int x :: stk) h := fun H locs ls hS hG hl => lv_iand C.1 C.2.1 hd  (kk H locs ls hS hG hl)
theorem r_ior (C : gC X cc own ret rm) {x y : Int32} (hd : decode cc pc = .ok (.ior, 1))  (kk : gX X mc ms (pc + 1) loc (.int (x ||| y) :: stk) h) : gX X mc ms pc loc (.int y :: .int x :: stk) h := fun H locs ls hS hG hl => lv_ior C.1 C.2.1 hd  (kk H locs ls hS hG hl)
theorem r_ixor (C : gC X cc own ret rm) {x y : Int32} (hd : decode cc pc = .ok (.ixor, 1))  (kk : gX X mc ms (pc + 1) loc (.int (x ^^^ y) :: stk) h) : gX X mc ms pc loc (.int y :: .int x :: stk) h := fun H locs ls hS hG hl => lv_ixor C.1 C.2.1 hd  (kk H locs ls hS hG hl)
theorem r_ishl (C : gC X cc own ret rm) {x y : Int32} (hd : decode cc pc = .ok (.ishl, 1))  (kk : gX X mc ms (pc + 1) loc (.int (x <<< (y &&& 31)) :: stk) h) : gX X mc ms pc loc (.int y :: .int x :: stk) h := fun H locs ls hS hG hl => lv_ishl C.1 C.2.1 hd  (kk H locs ls hS hG hl)
theorem r_iushr (C : gC X cc own ret rm) {x y : Int32} (hd : decode cc pc = .ok (.iushr, 1))  (kk : gX X mc ms (pc + 1) loc (.int ((x.toUInt32 >>> (y.toUInt32 &&& Int32.toUInt32 31)).toInt32) :: stk) h) : gX X mc ms pc loc (.int y :: .int x :: stk) h := fun H locs ls hS hG hl => lv_iushr C.1 C.2.1 hd rfl (kk H locs ls hS hG hl)
theorem r_ishr (C : gC X cc own ret rm) {x y : Int32} (hd : decode cc pc = .ok (.ishr, 1))  (kk : gX X mc ms (pc + 1) loc (.int (x >>> (y &&& 31)) :: stk) h) : gX X mc ms pc loc (.int y :: .int x :: stk) h := fun H locs ls hS hG hl => lv_ishr C.1 C.2.1 hd  (kk H locs ls hS hG hl)
theorem r_ineg (C : gC X cc own ret rm) {x : Int32} (hd : decode cc pc = .ok (.ineg, 1))  (kk : gX X mc ms (pc + 1) loc (.int (-x) :: stk) h) : gX X mc ms pc loc (.int x :: stk) h := fun H locs ls hS hG hl => lv_ineg C.1 C.2.1 hd  (kk H locs ls hS hG hl)
theorem r_idiv (C : gC X cc own ret rm) {x y : Int32} (hd : decode cc pc = .ok (.idiv, 1)) (hne : ¬ y = 0) (kk : gX X mc ms (pc + 1) loc (.int (x / y) :: stk) h) : gX X mc ms pc loc (.int y :: .int x :: stk) h := fun H locs ls hS hG hl => lv_idiv C.1 C.2.1 hd hne (kk H locs ls hS hG hl)
theorem r_irem (C : gC X cc own ret rm) {x y : Int32} (hd : decode cc pc = .ok (.irem, 1)) (hne : ¬ y = 0) (kk : gX X mc ms (pc + 1) loc (.int (x - x / y * y) :: stk) h) : gX X mc ms pc loc (.int y :: .int x :: stk) h := fun H locs ls hS hG hl => lv_irem C.1 C.2.1 hd hne (kk H locs ls hS hG hl)
theorem r_ladd (C : gC X cc own ret rm) {x y : Int64} (hd : decode cc pc = .ok (.ladd, 1))  (kk : gX X mc ms (pc + 1) loc (.long (x + y) :: stk) h) : gX X mc ms pc loc (.long y :: .long x :: stk) h := fun H locs ls hS hG hl => lv_ladd C.1 C.2.1 hd  (kk H locs ls hS hG hl)
theorem r_lsub (C : gC X cc own ret rm) {x y : Int64} (hd : decode cc pc = .ok (.lsub, 1))  (kk : gX X mc ms (pc + 1) loc (.long (x - y) :: stk) h) : gX X mc ms pc loc (.long y :: .long x :: stk) h := fun H locs ls hS hG hl => lv_lsub C.1 C.2.1 hd  (kk H locs ls hS hG hl)
theorem r_land (C : gC X cc own ret rm) {x y : Int64} (hd : decode cc pc = .ok (.land, 1))  (kk : gX X mc ms (pc + 1) loc (.long (x &&& y) :: stk) h) : gX X mc ms pc loc (.long y :: .long x :: stk) h := fun H locs ls hS hG hl => lv_land C.1 C.2.1 hd  (kk H locs ls hS hG hl)
theorem r_lor (C : gC X cc own ret rm) {x y : Int64} (hd : decode cc pc = .ok (.lor, 1))  (kk : gX X mc ms (pc + 1) loc (.long (x ||| y) :: stk) h) : gX X mc ms pc loc (.long y :: .long x :: stk) h := fun H locs ls hS hG hl => lv_lor C.1 C.2.1 hd  (kk H locs ls hS hG hl)
theorem r_lxor (C : gC X cc own ret rm) {x y : Int64} (hd : decode cc pc = .ok (.lxor, 1))  (kk : gX X mc ms (pc + 1) loc (.long (x ^^^ y) :: stk) h) : gX X mc ms pc loc (.long y :: .long x :: stk) h := fun H locs ls hS hG hl => lv_lxor C.1 C.2.1 hd  (kk H locs ls hS hG hl)
theorem r_lshl (C : gC X cc own ret rm) {x : Int64} {y : Int32} (hd : decode cc pc = .ok (.lshl, 1))  (kk : gX X mc ms (pc + 1) loc (.long (x <<< (y.toInt64 &&& 63)) :: stk) h) : gX X mc ms pc loc (.int y :: .long x :: stk) h := fun H locs ls hS hG hl => lv_lshl C.1 C.2.1 hd rfl (kk H locs ls hS hG hl)
theorem r_lushr (C : gC X cc own ret rm) {x : Int64} {y : Int32} (hd : decode cc pc = .ok (.lushr, 1))  (kk : gX X mc ms (pc + 1) loc (.long ((x.toUInt64 >>> (y.toInt64.toUInt64 &&& Int64.toUInt64 63)).toInt64) :: stk) h) : gX X mc ms pc loc (.int y :: .long x :: stk) h := fun H locs ls hS hG hl => lv_lushr C.1 C.2.1 hd rfl (kk H locs ls hS hG hl)
theorem r_i2l (C : gC X cc own ret rm) {x : Int32} (hd : decode cc pc = .ok (.i2l, 1))  (kk : gX X mc ms (pc + 1) loc (.long x.toInt64 :: stk) h) : gX X mc ms pc loc (.int x :: stk) h := fun H locs ls hS hG hl => lv_i2l C.1 C.2.1 hd rfl (kk H locs ls hS hG hl)
theorem r_l2i (C : gC X cc own ret rm) {x : Int64} (hd : decode cc pc = .ok (.l2i, 1))  (kk : gX X mc ms (pc + 1) loc (.int x.toInt32 :: stk) h) : gX X mc ms pc loc (.long x :: stk) h := fun H locs ls hS hG hl => lv_l2i C.1 C.2.1 hd rfl (kk H locs ls hS hG hl)
theorem r_dup (C : gC X cc own ret rm) {v : Value} (hd : decode cc pc = .ok (.dup, 1)) (hc : v.category = 1) (kk : gX X mc ms (pc + 1) loc (v :: v :: stk) h) : gX X mc ms pc loc (v :: stk) h := fun H locs ls hS hG hl => lv_dup C.1 C.2.1 hd hc (kk H locs ls hS hG hl)
theorem r_pop (C : gC X cc own ret rm) {v : Value} (hd : decode cc pc = .ok (.pop, 1)) (hc : v.category = 1) (kk : gX X mc ms (pc + 1) loc (stk) h) : gX X mc ms pc loc (v :: stk) h := fun H locs ls hS hG hl => lv_pop C.1 C.2.1 hd hc (kk H locs ls hS hG hl)
theorem r_iload_n (C : gC X cc own ret rm) {k : Fin 4} {x : Int32} (j : Nat) (hd : decode cc pc = .ok (.iload_n k, 1)) (hk : loc[j]? = some ((k : Nat), .int x)) (kk : gX X mc ms (pc + 1) loc (.int x :: stk) h) : gX X mc ms pc loc stk h := fun H locs ls hS hG hl => lv_iload_n C.1 C.2.1 hd rfl (lv_at hl j hk) (kk H locs ls hS hG hl)
theorem r_iload (C : gC X cc own ret rm) {k : Nat} {x : Int32} (j : Nat) (hd : decode cc pc = .ok (.iload k, 2)) (hk : loc[j]? = some (k, .int x)) (kk : gX X mc ms (pc + 2) loc (.int x :: stk) h) : gX X mc ms pc loc stk h := fun H locs ls hS hG hl => lv_iload C.1 C.2.1 hd (lv_at hl j hk) (kk H locs ls hS hG hl)
theorem r_lload_n (C : gC X cc own ret rm) {k : Fin 4} {x : Int64} (j : Nat) (hd : decode cc pc = .ok (.lload_n k, 1)) (hk : loc[j]? = some ((k : Nat), .long x)) (kk : gX X mc ms (pc + 1) loc (.long x :: stk) h) : gX X mc ms pc loc stk h := fun H locs ls hS hG hl => lv_lload_n C.1 C.2.1 hd rfl (lv_at hl j hk) (kk H locs ls hS hG hl)
theorem r_lload (C : gC X cc own ret rm) {k : Nat} {x : Int64} (j : Nat) (hd : decode cc pc = .ok (.lload k, 2)) (hk : loc[j]? = some (k, .long x)) (kk : gX X mc ms (pc + 2) loc (.long x :: stk) h) : gX X mc ms pc loc stk h := fun H locs ls hS hG hl => lv_lload C.1 C.2.1 hd (lv_at hl j hk) (kk H locs ls hS hG hl)
theorem r_aload_n (C : gC X cc own ret rm) {k : Fin 4} {x : Nat} (j : Nat) (hd : decode cc pc = .ok (.aload_n k, 1)) (hk : loc[j]? = some ((k : Nat), .ref x)) (kk : gX X mc ms (pc + 1) loc (.ref x :: stk) h) : gX X mc ms pc loc stk h := fun H locs ls hS hG hl => lv_aload_n C.1 C.2.1 hd rfl (lv_at hl j hk) (kk H locs ls hS hG hl)
theorem r_aload (C : gC X cc own ret rm) {k : Nat} {x : Nat} (j : Nat) (hd : decode cc pc = .ok (.aload k, 2)) (hk : loc[j]? = some (k, .ref x)) (kk : gX X mc ms (pc + 2) loc (.ref x :: stk) h) : gX X mc ms pc loc stk h := fun H locs ls hS hG hl => lv_aload C.1 C.2.1 hd (lv_at hl j hk) (kk H locs ls hS hG hl)
theorem r_istore_n (C : gC X cc own ret rm) {k : Fin 4} {x : Int32} {loc1 : List (Nat × Value)} (hd : decode cc pc = .ok (.istore_n k, 1)) (hn : (k : Nat) < xn X) (hl1 : ((k : Nat), Value.int x) :: loc.filter (fun q => !(q.1 == (k : Nat)) && !(q.1 + 1 == (k : Nat) && q.2.category == 2)) = loc1) (kk : gX X mc ms (pc + 1) loc1 stk h) : gX X mc ms pc loc (.int x :: stk) h := fun H locs ls hS hG hl => lv_istore_n C.1 C.2.1 hd rfl hl hn hl1 (fun ls hl => (kk H locs ls hS hG hl))
theorem r_istore (C : gC X cc own ret rm) {k : Nat} {x : Int32} {loc1 : List (Nat × Value)} (hd : decode cc pc = .ok (.istore k, 2)) (hn : k < xn X) (hl1 : (k, Value.int x) :: loc.filter (fun q => !(q.1 == k) && !(q.1 + 1 == k && q.2.category == 2)) = loc1) (kk : gX X mc ms (pc + 2) loc1 stk h) : gX X mc ms pc loc (.int x :: stk) h := fun H locs ls hS hG hl => lv_istore C.1 C.2.1 hd hl hn hl1 (fun ls hl => (kk H locs ls hS hG hl))
theorem r_lstore_n (C : gC X cc own ret rm) {k : Fin 4} {x : Int64} {loc1 : List (Nat × Value)} (hd : decode cc pc = .ok (.lstore_n k, 1)) (hn : (k : Nat) + 1 < xn X) (hl1 : ((k : Nat), Value.long x) :: loc.filter (fun q => !(q.1 == (k : Nat)) && (!(q.1 == (k : Nat) + 1) && !(q.1 + 1 == (k : Nat) && q.2.category == 2))) = loc1) (kk : gX X mc ms (pc + 1) loc1 stk h) : gX X mc ms pc loc (.long x :: stk) h := fun H locs ls hS hG hl => lv_lstore_n C.1 C.2.1 hd rfl hl hn hl1 (fun ls hl => (kk H locs ls hS hG hl))
theorem r_lstore (C : gC X cc own ret rm) {k : Nat} {x : Int64} {loc1 : List (Nat × Value)} (hd : decode cc pc = .ok (.lstore k, 2)) (hn : k + 1 < xn X) (hl1 : (k, Value.long x) :: loc.filter (fun q => !(q.1 == k) && (!(q.1 == k + 1) && !(q.1 + 1 == k && q.2.category == 2))) = loc1) (kk : gX X mc ms (pc + 2) loc1 stk h) : gX X mc ms pc loc (.long x :: stk) h := fun H locs ls hS hG hl => lv_lstore C.1 C.2.1 hd hl hn hl1 (fun ls hl => (kk H locs ls hS hG hl))
theorem r_astore_n (C : gC X cc own ret rm) {k : Fin 4} {x : Nat} {loc1 : List (Nat × Value)} (hd : decode cc pc = .ok (.astore_n k, 1)) (hn : (k : Nat) < xn X) (hl1 : ((k : Nat), Value.ref x) :: loc.filter (fun q => !(q.1 == (k : Nat)) && !(q.1 + 1 == (k : Nat) && q.2.category == 2)) = loc1) (kk : gX X mc ms (pc + 1) loc1 stk h) : gX X mc ms pc loc (.ref x :: stk) h := fun H locs ls hS hG hl => lv_astore_n C.1 C.2.1 hd rfl hl hn hl1 (fun ls hl => (kk H locs ls hS hG hl))
theorem r_astore (C : gC X cc own ret rm) {k : Nat} {x : Nat} {loc1 : List (Nat × Value)} (hd : decode cc pc = .ok (.astore k, 2)) (hn : k < xn X) (hl1 : (k, Value.ref x) :: loc.filter (fun q => !(q.1 == k) && !(q.1 + 1 == k && q.2.category == 2)) = loc1) (kk : gX X mc ms (pc + 2) loc1 stk h) : gX X mc ms pc loc (.ref x :: stk) h := fun H locs ls hS hG hl => lv_astore C.1 C.2.1 hd hl hn hl1 (fun ls hl => (kk H locs ls hS hG hl))
theorem r_iinc (C : gC X cc own ret rm) {k : Nat} {n : Int} {x v : Int32} {loc1 : List (Nat × Value)} (j : Nat) (hd : decode cc pc = .ok (.iinc k n, 3)) (hk : loc[j]? = some (k, .int x)) (hv : x + Int32.ofInt n = v) (hn : k < xn X) (hl1 : (k, Value.int v) :: loc.filter (fun q => !(q.1 == k) && !(q.1 + 1 == k && q.2.category == 2)) = loc1) (kk : gX X mc ms (pc + 3) loc1 stk h) : gX X mc ms pc loc stk h := fun H locs ls hS hG hl => lv_iinc C.1 C.2.1 hd hl hk hv hn hl1 (fun ls hl => (kk H locs ls hS hG hl))
/-- branches: the kit's rows say which way is which -/
theorem r_goto (C : gC X cc own ret rm) {off : Int} (tgt : Nat) (hd : decode cc pc = .ok (.goto off, 3)) (ht : (pc : Int) + off = (tgt : Int)) (kk : gX X mc ms tgt loc stk h) : gX X mc ms pc loc stk h := fun H locs ls hS hG hl => lv_goto C.1 C.2.1 hd ht (kk H locs ls hS hG hl)
theorem r_widen {mc' ms' : Nat} (h1 : mc ≤ mc') (h2 : ms ≤ ms') (kk : gX X mc' ms' pc loc stk h) : gX X mc ms pc loc stk h := fun H locs ls hS hG hl => W.widen h1 h2 (kk H locs ls hS hG hl)
theorem r_sub {loc1 : List (Nat × Value)} (ks : List Nat) (hl1 : lv_pick loc ks = loc1) (kk : gX X mc ms pc loc1 stk h) : gX X mc ms pc loc stk h := fun H locs ls hS hG hl => kk H locs ls hS hG (lv_sub hl ks hl1)
theorem r_icmp_eq (C : gC X cc own ret rm) {x y : Int32} {off : Int} (tgt : Nat) (hd : decode cc pc = .ok (.if_icmp .eq off, 3)) (ht : (pc : Int) + off = (tgt : Int)) (kt : x = y → gX X mc ms tgt loc stk h) (kf : ¬ x = y → gX X mc ms (pc + 3) loc stk h) : gX X mc ms pc loc (.int y :: .int x :: stk) h := fun H locs ls hS hG hl => lv_icmp_eq C.1 C.2.1 hd ht (fun q => kt q H locs ls hS hG hl) (fun q => kf q H locs ls hS hG hl)
theorem r_if_eq (C : gC X cc own ret rm) {x : Int32} {off : Int} (tgt : Nat) (hd : decode cc pc = .ok (.ifCond .eq off, 3)) (ht : (pc : Int) + off = (tgt : Int)) (kt : x = 0 → gX X mc ms tgt loc stk h) (kf : ¬ x = 0 → gX X mc ms (pc + 3) loc stk h) : gX X mc ms pc loc (.int x :: stk) h := fun H locs ls hS hG hl => lv_if_eq C.1 C.2.1 hd ht (fun q => kt q H locs ls hS hG hl) (fun q => kf q H locs ls hS hG hl)
theorem r_icmp_ne (C : gC X cc own ret rm) {x y : Int32} {off : Int} (tgt : Nat) (hd : decode cc pc = .ok (.if_icmp .ne off, 3)) (ht : (pc : Int) + off = (tgt : Int)) (kt : ¬ x = y → gX X mc ms tgt loc stk h) (kf : x = y → gX X mc ms (pc + 3) loc stk h) : gX X mc ms pc loc (.int y :: .int x :: stk) h := fun H locs ls hS hG hl => lv_icmp_ne C.1 C.2.1 hd ht (fun q => kt q H locs ls hS hG hl) (fun q => kf q H locs ls hS hG hl)
theorem r_if_ne (C : gC X cc own ret rm) {x : Int32} {off : Int} (tgt : Nat) (hd : decode cc pc = .ok (.ifCond .ne off, 3)) (ht : (pc : Int) + off = (tgt : Int)) (kt : ¬ x = 0 → gX X mc ms tgt loc stk h) (kf : x = 0 → gX X mc ms (pc + 3) loc stk h) : gX X mc ms pc loc (.int x :: stk) h := fun H locs ls hS hG hl => lv_if_ne C.1 C.2.1 hd ht (fun q => kt q H locs ls hS hG hl) (fun q => kf q H locs ls hS hG hl)
theorem r_icmp_lt (C : gC X cc own ret rm) {x y : Int32} {off : Int} (tgt : Nat) (hd : decode cc pc = .ok (.if_icmp .lt off, 3)) (ht : (pc : Int) + off = (tgt : Int)) (kt : x < y → gX X mc ms tgt loc stk h) (kf : ¬ x < y → gX X mc ms (pc + 3) loc stk h) : gX X mc ms pc loc (.int y :: .int x :: stk) h := fun H locs ls hS hG hl => lv_icmp_lt C.1 C.2.1 hd ht (fun q => kt q H locs ls hS hG hl) (fun q => kf q H locs ls hS hG hl)
theorem r_if_lt (C : gC X cc own ret rm) {x : Int32} {off : Int} (tgt : Nat) (hd : decode cc pc = .ok (.ifCond .lt off, 3)) (ht : (pc : Int) + off = (tgt : Int)) (kt : x < 0 → gX X mc ms tgt loc stk h) (kf : ¬ x < 0 → gX X mc ms (pc + 3) loc stk h) : gX X mc ms pc loc (.int x :: stk) h := fun H locs ls hS hG hl => lv_if_lt C.1 C.2.1 hd ht (fun q => kt q H locs ls hS hG hl) (fun q => kf q H locs ls hS hG hl)
theorem r_icmp_ge (C : gC X cc own ret rm) {x y : Int32} {off : Int} (tgt : Nat) (hd : decode cc pc = .ok (.if_icmp .ge off, 3)) (ht : (pc : Int) + off = (tgt : Int)) (kt : y ≤ x → gX X mc ms tgt loc stk h) (kf : ¬ y ≤ x → gX X mc ms (pc + 3) loc stk h) : gX X mc ms pc loc (.int y :: .int x :: stk) h := fun H locs ls hS hG hl => lv_icmp_ge C.1 C.2.1 hd ht (fun q => kt q H locs ls hS hG hl) (fun q => kf q H locs ls hS hG hl)
theorem r_if_ge (C : gC X cc own ret rm) {x : Int32} {off : Int} (tgt : Nat) (hd : decode cc pc = .ok (.ifCond .ge off, 3)) (ht : (pc : Int) + off = (tgt : Int)) (kt : 0 ≤ x → gX X mc ms tgt loc stk h) (kf : ¬ 0 ≤ x → gX X mc ms (pc + 3) loc stk h) : gX X mc ms pc loc (.int x :: stk) h := fun H locs ls hS hG hl => lv_if_ge C.1 C.2.1 hd ht (fun q => kt q H locs ls hS hG hl) (fun q => kf q H locs ls hS hG hl)
theorem r_icmp_gt (C : gC X cc own ret rm) {x y : Int32} {off : Int} (tgt : Nat) (hd : decode cc pc = .ok (.if_icmp .gt off, 3)) (ht : (pc : Int) + off = (tgt : Int)) (kt : y < x → gX X mc ms tgt loc stk h) (kf : ¬ y < x → gX X mc ms (pc + 3) loc stk h) : gX X mc ms pc loc (.int y :: .int x :: stk) h := fun H locs ls hS hG hl => lv_icmp_gt C.1 C.2.1 hd ht (fun q => kt q H locs ls hS hG hl) (fun q => kf q H locs ls hS hG hl)
theorem r_if_gt (C : gC X cc own ret rm) {x : Int32} {off : Int} (tgt : Nat) (hd : decode cc pc = .ok (.ifCond .gt off, 3)) (ht : (pc : Int) + off = (tgt : Int)) (kt : 0 < x → gX X mc ms tgt loc stk h) (kf : ¬ 0 < x → gX X mc ms (pc + 3) loc stk h) : gX X mc ms pc loc (.int x :: stk) h := fun H locs ls hS hG hl => lv_if_gt C.1 C.2.1 hd ht (fun q => kt q H locs ls hS hG hl) (fun q => kf q H locs ls hS hG hl)
theorem r_icmp_le (C : gC X cc own ret rm) {x y : Int32} {off : Int} (tgt : Nat) (hd : decode cc pc = .ok (.if_icmp .le off, 3)) (ht : (pc : Int) + off = (tgt : Int)) (kt : x ≤ y → gX X mc ms tgt loc stk h) (kf : ¬ x ≤ y → gX X mc ms (pc + 3) loc stk h) : gX X mc ms pc loc (.int y :: .int x :: stk) h := fun H locs ls hS hG hl => lv_icmp_le C.1 C.2.1 hd ht (fun q => kt q H locs ls hS hG hl) (fun q => kf q H locs ls hS hG hl)
theorem r_if_le (C : gC X cc own ret rm) {x : Int32} {off : Int} (tgt : Nat) (hd : decode cc pc = .ok (.ifCond .le off, 3)) (ht : (pc : Int) + off = (tgt : Int)) (kt : x ≤ 0 → gX X mc ms tgt loc stk h) (kf : ¬ x ≤ 0 → gX X mc ms (pc + 3) loc stk h) : gX X mc ms pc loc (.int x :: stk) h := fun H locs ls hS hG hl => lv_if_le C.1 C.2.1 hd ht (fun q => kt q H locs ls hS hG hl) (fun q => kf q H locs ls hS hG hl)
end GROWS
section GROWS2
variable {X : gCx} {cc : ByteArray} {own : String} {ret : Option FieldType} {rm : Room} {mc ms pc : Nat} {loc : List (Nat × Value)} {stk : List Value} {h : GH}
theorem g_ob {X : gCx} {h : GH} {H : Heap} {a ci : Nat} {o : FO} (hG : yW (xY X) h H) (hn : g_nice ci = true) (hg : h a = some (ci, o)) : t_OB a ((yD (xY X)).1 ci) (g_tab ci).length ((yD (xY X)).2 ci) H (vp_V (g_fs ci a o)) ∧ ∀ (k : Nat) (q : gK), (g_tab ci)[k]? = some q → 3 ≤ q.1 → H[a + q.2.2]? = some (g_arr (ydA (xY X)) o k q) := by
  obtain ⟨tag, hG⟩ := hG
  have h3 := (hG a ci o hg).2.2
  rw [g_pic_nice hn] at h3
  exact ⟨h3.1, fun k q h1 h2 => (h3.2 k q h1 h2).2⟩
theorem r_get (C : gC X cc own ret rm) {ci a k index N : Nat} {Cn ref : String} {T : u_T} {ty : Nat → FieldType} {o : FO} {q : gK} {v : Value} (hB : gCl ci Cn T N ty) (hd : decode cc pc = .ok (.getfield index, 3)) (hq : (g_tab ci)[k]? = some q) (hl1 : Cond.fieldLink own index ref (T k).2.1 (T k).2.2.1 ∈ TW) (hr : (T k).1 = ref) (hg : h a = some (ci, o)) (hv : g_v a o k q = v) (kk : gX X mc ms (pc + 3) loc (v :: stk) h) : gX X mc ms pc loc (.ref a :: stk) h := fun H locs ls hS hG hl => by
  obtain ⟨c1, c2, c3, -, -, c6⟩ := hB
  subst hr hv
  have h1 := (g_ob hG c6 hg).1
  have hk : k < N := by rw [c2]; exact (List.getElem?_eq_some_iff.mp hq).1
  exact va_get (ws := [(a, .inr (ci, g_fs ci a o))]) (ci := ci) (C := Cn) (T := T) (N := N) C.1 C.2.1 C.hts c3 C.2.2.2.1 C.K (fun k q hk => by
    cases k with
    | zero => cases hk; exact ⟨_, c1, by rw [c2]; exact h1⟩
    | succ k => simp at hk) 0 rfl c1 k hk (C.ht hl1) (fun _ h9 => h9) (g_fs_at hq) hd (kk H locs ls hS hG hl)
theorem g_arrW {X : gCx} {h : GH} {H : Heap} {a ci k : Nat} {o : FO} {q : gK} (hG : yW (xY X) h H) (hn : g_nice ci = true) (hg : h a = some (ci, o)) (hq : (g_tab ci)[k]? = some q) (h3 : 3 ≤ q.1) : H[a + q.2.2]? = some (g_arr (ydA (xY X)) o k q) := (g_ob hG hn hg).2 k q hq h3
theorem r_iald (C : gC X cc own ret rm) {ci a k n off : Nat} {o : FO} {i : Int32} (hd : decode cc pc = .ok (.iaload, 1)) (hn : g_nice ci = true) (hq : (g_tab ci)[k]? = some (3, n, off)) (hg : h a = some (ci, o)) (hin : vp_in i n) (kk : gX X mc ms (pc + 1) loc (.int (fA o k i.toNatClampNeg) :: stk) h) : gX X mc ms pc loc (.int i :: .ref (a + off) :: stk) h := fun H locs ls hS hG hl => by
  have h1 := g_arrW hG hn hg hq (Nat.le_refl 3)
  exact va_iald (ws := [(a + off, .inl ((ydA (xY X)) 0, n, .inl (fA o k)))]) C.1 C.2.1 C.K (fun k q hk => by
    cases k with
    | zero => cases hk; exact h1
    | succ k => simp at hk) 0 0 rfl rfl hin hd (kk H locs ls hS hG hl)
theorem r_zald (C : gC X cc own ret rm) {ci a k n off : Nat} {o : FO} {i : Int32} (hd : decode cc pc = .ok (.baload, 1)) (hn : g_nice ci = true) (hq : (g_tab ci)[k]? = some (4, n, off)) (hg : h a = some (ci, o)) (hin : vp_in i n) (kk : gX X mc ms (pc + 1) loc (.int (fA o k i.toNatClampNeg) :: stk) h) : gX X mc ms pc loc (.int i :: .ref (a + off) :: stk) h := fun H locs ls hS hG hl => by
  have h1 := g_arrW hG hn hg hq (by decide : 3 ≤ 4)
  exact va_zald (ws := [(a + off, .inl ((ydA (xY X)) 1, n, .inl (fA o k)))]) C.1 C.2.1 C.K (fun k q hk => by
    cases k with
    | zero => cases hk; exact h1
    | succ k => simp at hk) 0 1 rfl rfl hin hd (kk H locs ls hS hG hl)
theorem r_lald (C : gC X cc own ret rm) {ci a k n off : Nat} {o : FO} {i : Int32} (hd : decode cc pc = .ok (.laload, 1)) (hn : g_nice ci = true) (hq : (g_tab ci)[k]? = some (5, n, off)) (hg : h a = some (ci, o)) (hin : vp_in i n) (kk : gX X mc ms (pc + 1) loc (.long (fB o k i.toNatClampNeg) :: stk) h) : gX X mc ms pc loc (.int i :: .ref (a + off) :: stk) h := fun H locs ls hS hG hl => by
  have h1 := g_arrW hG hn hg hq (by decide : 3 ≤ 5)
  exact va_lald (ws := [(a + off, .inl ((ydA (xY X)) 2, n, .inr (.inl (fB o k))))]) C.1 C.2.1 C.K (fun k q hk => by
    cases k with
    | zero => cases hk; exact h1
    | succ k => simp at hk) 0 2 rfl rfl hin hd (kk H locs ls hS hG hl)
/-- a store into the object itself -/
theorem g_put {D : va_G} {dA : Nat → ClassId} {E0 B0 : Nat} {h : GH} {H H' : Heap} {a ci k : Nat} {o o' : FO} {q : gK} {v : Value} {cell : Cell} {sl : Nat} (hG : GW D dA E0 B0 h H) (hn : g_nice ci = true) (hg : h a = some (ci, o)) (hq : (g_tab ci)[k]? = some q)
    (hap : ∀ x y, x < (g_tab ci).length → y < (g_tab ci).length → x ≠ y → D.2 ci x ≠ D.2 ci y) (hcell : H[a]? = some cell) (hsl : sl = D.2 ci k) (e1 : H'[a]? = some (cell.setSlot sl v)) (e3 : ∀ q, q ≠ a → H'[q]? = H[q]?)
    (hv : g_v a o' k q = v) (ho : ∀ j qj, j ≠ k → (g_tab ci)[j]? = some qj → g_v a o' j qj = g_v a o j qj) (hr : ∀ j qj, (g_tab ci)[j]? = some qj → 3 ≤ qj.1 → g_arr dA o' j qj = g_arr dA o j qj) : GW D dA E0 B0 (hu h a (ci, o')) H' := by
  obtain ⟨tag, hG⟩ := hG
  obtain ⟨b1, b2, b3⟩ := hG a ci o hg
  refine ⟨tag, hG.upd b1 b2 (fun q _ h2 => ⟨e3 q (fun e => h2 (by rw [e, b2])), rfl⟩) ?_⟩
  rw [g_pic_nice hn] at b3 ⊢
  obtain ⟨⟨cell', q1, q2, q3, q4⟩, b4⟩ := b3
  cases hcell.symm.trans q1
  subst hsl
  have hkl : k < (g_tab ci).length := (List.getElem?_eq_some_iff.mp hq).1
  refine ⟨t_OB.to (V := updV (vp_V (g_fs ci a o)) k v) ⟨_, e1, q2, q3, t_set q4 hap hkl v⟩ (fun j hj => ?_), fun j qj h1 h2 => ?_⟩
  · have hj2 : (g_tab ci)[j]? = some ((g_tab ci)[j]) := List.getElem?_eq_getElem hj
    rw [g_fs_V hj2]
    by_cases e : j = k
    · subst e
      cases hj2.symm.trans hq
      simp [updV, hv]
    · simp only [updV, if_neg e]
      rw [g_fs_V hj2, ho j _ e hj2]
  · obtain ⟨t1, t2⟩ := b4 j qj h1 h2
    refine ⟨t1, ?_⟩
    rw [e3 _ (fun e => ?_), t2, hr j qj h1 h2]
    rw [e, b2] at t1
    cases t1
/-- a store into one of the object's rows -/
theorem g_ast {D : va_G} {dA : Nat → ClassId} {E0 B0 : Nat} {h : GH} {H H' : Heap} {a ci k : Nat} {o o' : FO} {q : gK} (hG : GW D dA E0 B0 h H) (hn : g_nice ci = true) (hg : h a = some (ci, o)) (hq : (g_tab ci)[k]? = some q) (h3 : 3 ≤ q.1)
    (e1 : H'[a + q.2.2]? = some (g_arr dA o' k q)) (e3 : ∀ x, x ≠ a + q.2.2 → H'[x]? = H[x]?)
    (ho : ∀ j qj, (g_tab ci)[j]? = some qj → g_v a o' j qj = g_v a o j qj) (hr : ∀ j qj, j ≠ k → (g_tab ci)[j]? = some qj → 3 ≤ qj.1 → g_arr dA o' j qj = g_arr dA o j qj) : GW D dA E0 B0 (hu h a (ci, o')) H' := by
  obtain ⟨tag, hG⟩ := hG
  obtain ⟨b1, b2, b3⟩ := hG a ci o hg
  rw [g_pic_nice hn] at b3
  obtain ⟨b3, b4⟩ := b3
  obtain ⟨t1, t2⟩ := b4 k q hq h3
  refine ⟨tag, hG.upd b1 b2 (fun x _ h2 => ⟨e3 x (fun e => h2 (by rw [e, t1])), rfl⟩) ?_⟩
  rw [g_pic_nice hn]
  refine ⟨(b3.kept (e3 a (fun e => ?_))).to (fun j hj => ?_), fun j qj h1 h2 => ?_⟩
  · rw [← e, b2] at t1
    cases t1
  · have hj2 : (g_tab ci)[j]? = some ((g_tab ci)[j]) := List.getElem?_eq_getElem hj
    rw [g_fs_V hj2, g_fs_V hj2, ho j _ hj2]
  · by_cases e : j = k
    · subst e
      cases hq.symm.trans h1
      exact ⟨t1, e1⟩
    · obtain ⟨u1, u2⟩ := b4 j qj h1 h2
      refine ⟨u1, ?_⟩
      rw [e3 _ (fun e2 => ?_), u2, hr j qj e h1 h2]
      rw [e2, t1] at u1
      cases u1
      exact e rfl
end GROWS2
end
section
theorem g_v_sI {a : Nat} {o : FO} {k j : Nat} {x : Int32} {q : gK} (h : j ≠ k) : g_v a (sI o k x) j q = g_v a o j q := by
  unfold g_v; split <;> simp [fI, fL, fR, sI, va_up, h]
theorem g_v_sL {a : Nat} {o : FO} {k j : Nat} {x : Int64} {q : gK} (h : j ≠ k) : g_v a (sL o k x) j q = g_v a o j q := by
  unfold g_v; split <;> simp [fI, fL, fR, sL, va_up, h]
theorem g_v_sA {a : Nat} {o : FO} {k i j : Nat} {x : Int32} {q : gK} : g_v a (sA o k i x) j q = g_v a o j q := rfl
theorem g_v_sB {a : Nat} {o : FO} {k i j : Nat} {x : Int64} {q : gK} : g_v a (sB o k i x) j q = g_v a o j q := rfl
theorem g_arr_sA {dA : Nat → ClassId} {o : FO} {k i j : Nat} {x : Int32} {q : gK} (h : j ≠ k) : g_arr dA (sA o k i x) j q = g_arr dA o j q := by
  unfold g_arr; split <;> simp [fA, fB, sA, va_up, h]
theorem g_arr_sB {dA : Nat → ClassId} {o : FO} {k i j : Nat} {x : Int64} {q : gK} (h : j ≠ k) : g_arr dA (sB o k i x) j q = g_arr dA o j q := by
  unfold g_arr; split <;> simp [fA, fB, sB, va_up, h]
section GROWS3
variable {X : gCx} {cc : ByteArray} {own : String} {ret : Option FieldType} {rm : Room} {mc ms pc : Nat} {loc : List (Nat × Value)} {stk : List Value} {h : GH}
theorem r_put (C : gC X cc own ret rm) {ci a k index N : Nat} {Cn ref : String} {T : u_T} {ty : Nat → FieldType} {o o' : FO} {q : gK} {v : Value} {h' : GH} (hB : gCl ci Cn T N ty) (hd : decode cc pc = .ok (.putfield index, 3)) (hq : (g_tab ci)[k]? = some q) (hl1 : Cond.fieldLink own index ref (T k).2.1 (T k).2.2.1 ∈ TW) (hr : (T k).1 = ref) (hfin : (T k).2.2.2 = false ∨ ((T k).2.2.2 = true ∧ (xh X).name = "<init>" ∧ (T k).1 = own)) (hg : h a = some (ci, o)) (hn : narrow (ty k) v = v) (hf : fits (ty k) v = true)
    (hv : g_v a o' k q = v) (ho : ∀ j qj, j ≠ k → g_v a o' j qj = g_v a o j qj) (hrr : ∀ j qj, g_arr (ydA (xY X)) o' j qj = g_arr (ydA (xY X)) o j qj) (hh : h' = hu h a (ci, o')) (kk : gX X mc ms (pc + 3) loc stk h') : gX X mc ms pc loc (v :: .ref a :: stk) h := fun H locs ls hS hG hl => by
  obtain ⟨c1, c2, c3, c4, c5, c6⟩ := hB
  subst hr hh
  have hb0 := C.2.2.2.2.2.2.1
  have hob := (g_ob hG c6 hg).1
  have hB0 : yB0 (xY X) ≤ a := by obtain ⟨tag, hG⟩ := hG; exact (hG a ci o hg).1
  have hk : k < N := by rw [c2]; exact (List.getElem?_eq_some_iff.mp hq).1
  have hap := va_apart (own := own) C.hts c3 ty c4 c5 C.K c1
  obtain ⟨cell, q1, q2, q3, q4⟩ := hob
  obtain ⟨hSl, hfc, kC, hkC, hkind⟩ := C.K.1 ci _ c1
  obtain ⟨cf, kf, fi, f, hi, hsl⟩ := hSl k hk
  have hlay := C.hts _ (c3 _ (u_in_lay hk))
  unfold u_lay at hlay
  have hst := (u_facts hfc hkC (u_lays C.hts c3 hk) hi).1
  have hslot : f.slot < cell.slots.size := by rw [hsl]; exact k2_hasslot (q4 k (by rw [← c2]; exact hk))
  have fin : ∀ H' : Heap, H'[a]? = some (cell.setSlot f.slot v) → H'.size = H.size → (∀ q, q ≠ a → H'[q]? = H[q]?) → gV X H' (locs ++ [⟨a, f.slot⟩]) mc ms (F0 (xm X) (pc + 3) ls stk) := fun H' e1 e2 e3 =>
    kk H' _ ls (hS.put e2 e3 hB0) (g_put hG c6 hg hq (fun x y hx hy => hap x y (by rw [c2]; exact hx) (by rw [c2]; exact hy)) q1 hsl e1 e3 hv (fun j qj e _ => ho j qj e) (fun j qj _ _ => hrr j qj)) hl
  rcases hfin with hfin | ⟨hfin, hin2, hdecl⟩
  · rw [if_neg (by rw [hfin]; decide)] at hlay
    have h6 := u_store hfc hkC hkind hlay hi (c4 k hk) hn hf
    exact W.putK C.1 C.2.1 (f := f) ⟨C.2.2.2.1, C.ht hl1, ⟨_, _, _, hi⟩, hst⟩ (by rw [q2]; exact h6) q1 q3 hslot rfl rfl hd fin
  · rw [if_pos hfin] at hlay
    have hcf : (xm X).cls = cf := by
      obtain ⟨_, _, c', _, _, _, -, -, hf', -, -, -, hown2, -⟩ := Cond.laysFinal_spec hlay
      have e1 : c' = cf := by have := hi.symm.trans hf'; simp at this; exact this.1.symm
      rw [hdecl] at hown2
      rw [← e1]; exact Option.some.inj (C.2.2.2.1.symm.trans hown2)
    have h6 := u_fits hfc hkC hkind (Or.inr hlay) hi (c4 k hk) hn hf
    exact W.putFinK C.1 C.2.1 C.2.2.2.1 (C.ht hl1) hi hst hcf hin2 (by rw [q2]; exact h6) q1 q3 hslot rfl rfl hd fin
theorem r_putI (C : gC X cc own ret rm) {ci a k index N : Nat} {Cn ref : String} {T : u_T} {ty : Nat → FieldType} {o o' : FO} {x : Int32} {h' : GH} (hB : gCl ci Cn T N ty) (hd : decode cc pc = .ok (.putfield index, 3)) (hq : (g_tab ci)[k]? = some (0, 0, 0)) (hl1 : Cond.fieldLink own index ref (T k).2.1 (T k).2.2.1 ∈ TW) (hr : (T k).1 = ref) (hfin : (T k).2.2.2 = false ∨ ((T k).2.2.2 = true ∧ (xh X).name = "<init>" ∧ (T k).1 = own)) (hn : narrow (ty k) (.int x) = .int x) (hf : fits (ty k) (.int x) = true) (hg : h a = some (ci, o)) (ho : o' = sI o k x) (hh : h' = hu h a (ci, o')) (kk : gX X mc ms (pc + 3) loc stk h') : gX X mc ms pc loc (.int x :: .ref a :: stk) h := by
  subst ho
  exact r_put C hB hd hq hl1 hr hfin hg hn hf (by simp [g_v, fI, sI, va_up]) (fun j qj e => g_v_sI e) (fun j qj => rfl) hh kk
theorem r_putL (C : gC X cc own ret rm) {ci a k index N : Nat} {Cn ref : String} {T : u_T} {ty : Nat → FieldType} {o o' : FO} {x : Int64} {h' : GH} (hB : gCl ci Cn T N ty) (hd : decode cc pc = .ok (.putfield index, 3)) (hq : (g_tab ci)[k]? = some (1, 0, 0)) (hl1 : Cond.fieldLink own index ref (T k).2.1 (T k).2.2.1 ∈ TW) (hr : (T k).1 = ref) (hfin : (T k).2.2.2 = false ∨ ((T k).2.2.2 = true ∧ (xh X).name = "<init>" ∧ (T k).1 = own)) (hn : narrow (ty k) (.long x) = .long x) (hf : fits (ty k) (.long x) = true) (hg : h a = some (ci, o)) (ho : o' = sL o k x) (hh : h' = hu h a (ci, o')) (kk : gX X mc ms (pc + 3) loc stk h') : gX X mc ms pc loc (.long x :: .ref a :: stk) h := by
  subst ho
  exact r_put C hB hd hq hl1 hr hfin hg hn hf (by simp [g_v, fL, sL, va_up]) (fun j qj e => g_v_sL e) (fun j qj => rfl) hh kk
theorem g_B0 {X : gCx} {h : GH} {H : Heap} {a ci : Nat} {o : FO} (hG : yW (xY X) h H) (hg : h a = some (ci, o)) : yB0 (xY X) ≤ a := by obtain ⟨tag, hG⟩ := hG; exact (hG a ci o hg).1
theorem r_iast (C : gC X cc own ret rm) {ci a k n off : Nat} {o o' : FO} {i x : Int32} {h' : GH} (hd : decode cc pc = .ok (.iastore, 1)) (hn : g_nice ci = true) (hq : (g_tab ci)[k]? = some (3, n, off)) (hg : h a = some (ci, o)) (hin : vp_in i n) (ho : o' = sA o k i.toNatClampNeg x) (hh : h' = hu h a (ci, o')) (kk : gX X mc ms (pc + 1) loc stk h') : gX X mc ms pc loc (.int x :: .int i :: .ref (a + off) :: stk) h := fun H locs ls hS hG hl => by
  subst ho hh
  have h1 := g_arrW hG hn hg hq (Nat.le_refl 3)
  refine W.iast C.1 C.2.1 h1 ((C.K.2 0 _ rfl).1 n (fun j => .int (fA o k j))) (fun q => by cases q) (by show ¬ (i < 0 ∨ (arrV _ _ _).slots.size ≤ _); rw [arrV_size]; exact hin) rfl rfl hd fun H1 e z oq => ?_
  refine kk H1 _ ls (hS.put z oq (Nat.le_trans (g_B0 hG hg) (Nat.le_add_right a off))) (g_ast hG hn hg hq (Nat.le_refl 3) ?_ oq (fun j qj _ => g_v_sA) (fun j qj e _ _ => g_arr_sA e)) hl
  rw [e]
  rw [show g_arr (ydA (xY X)) o k (3, n, off) = arrV ((ydA (xY X)) 0) n (fun j => .int (fA o k j)) from rfl, show g_arr (ydA (xY X)) (sA o k i.toNatClampNeg x) k (3, n, off) = arrV ((ydA (xY X)) 0) n (fun j => .int (fA (sA o k i.toNatClampNeg x) k j)) from rfl, arrV_store]
  congr 2
  funext j
  by_cases hj : j = i.toNatClampNeg
  · subst hj; simp [updV, fA, sA, va_up]
  · simp [updV, fA, sA, va_up, hj]
theorem r_zast (C : gC X cc own ret rm) {ci a k n off : Nat} {o o' : FO} {i x : Int32} {h' : GH} (hd : decode cc pc = .ok (.bastore, 1)) (hn : g_nice ci = true) (hq : (g_tab ci)[k]? = some (4, n, off)) (hg : h a = some (ci, o)) (hin : vp_in i n) (ho : o' = sA o k i.toNatClampNeg (vp_nar .boolean x)) (hh : h' = hu h a (ci, o')) (kk : gX X mc ms (pc + 1) loc stk h') : gX X mc ms pc loc (.int x :: .int i :: .ref (a + off) :: stk) h := fun H locs ls hS hG hl => by
  subst ho hh
  have h1 := g_arrW hG hn hg hq (by decide : 3 ≤ 4)
  refine W.zast C.1 C.2.1 h1 ((C.K.2 1 _ rfl).1 n (fun j => .int (fA o k j))) (fun q => by cases q) (by show ¬ (i < 0 ∨ (arrV _ _ _).slots.size ≤ _); rw [arrV_size]; exact hin) rfl rfl hd fun H1 e z oq => ?_
  refine kk H1 _ ls (hS.put z oq (Nat.le_trans (g_B0 hG hg) (Nat.le_add_right a off))) (g_ast hG hn hg hq (by decide : 3 ≤ 4) ?_ oq (fun j qj _ => g_v_sA) (fun j qj e _ _ => g_arr_sA e)) hl
  rw [e]
  rw [show g_arr (ydA (xY X)) o k (4, n, off) = arrV ((ydA (xY X)) 1) n (fun j => .int (fA o k j)) from rfl, show g_arr (ydA (xY X)) (sA o k i.toNatClampNeg (vp_nar .boolean x)) k (4, n, off) = arrV ((ydA (xY X)) 1) n (fun j => .int (fA (sA o k i.toNatClampNeg (vp_nar .boolean x)) k j)) from rfl, arrV_store]
  congr 2
  funext j
  by_cases hj : j = i.toNatClampNeg
  · subst hj; simp [updV, fA, sA, va_up, vp_nar]; try rfl
  · simp [updV, fA, sA, va_up, hj]
theorem r_last (C : gC X cc own ret rm) {ci a k n off : Nat} {o o' : FO} {i : Int32} {x : Int64} {h' : GH} (hd : decode cc pc = .ok (.lastore, 1)) (hn : g_nice ci = true) (hq : (g_tab ci)[k]? = some (5, n, off)) (hg : h a = some (ci, o)) (hin : vp_in i n) (ho : o' = sB o k i.toNatClampNeg x) (hh : h' = hu h a (ci, o')) (kk : gX X mc ms (pc + 1) loc stk h') : gX X mc ms pc loc (.long x :: .int i :: .ref (a + off) :: stk) h := fun H locs ls hS hG hl => by
  subst ho hh
  have h1 := g_arrW hG hn hg hq (by decide : 3 ≤ 5)
  refine W.last C.1 C.2.1 h1 ((C.K.2 2 _ rfl).1 n (fun j => .long (fB o k j))) (fun q => by cases q) (by show ¬ (i < 0 ∨ (arrV _ _ _).slots.size ≤ _); rw [arrV_size]; exact hin) rfl rfl hd fun H1 e z oq => ?_
  refine kk H1 _ ls (hS.put z oq (Nat.le_trans (g_B0 hG hg) (Nat.le_add_right a off))) (g_ast hG hn hg hq (by decide : 3 ≤ 5) ?_ oq (fun j qj _ => g_v_sB) (fun j qj e _ _ => g_arr_sB e)) hl
  rw [e]
  rw [show g_arr (ydA (xY X)) o k (5, n, off) = arrV ((ydA (xY X)) 2) n (fun j => .long (fB o k j)) from rfl, show g_arr (ydA (xY X)) (sB o k i.toNatClampNeg x) k (5, n, off) = arrV ((ydA (xY X)) 2) n (fun j => .long (fB (sB o k i.toNatClampNeg x) k j)) from rfl, arrV_store]
  congr 2
  funext j
  by_cases hj : j = i.toNatClampNeg
  · subst hj; simp [updV, fB, sB, va_up]
  · simp [updV, fB, sB, va_up, hj]
theorem r_new (C : gC X cc own ret rm) {ci index N : Nat} {Cn : String} {T : u_T} {ty : Nat → FieldType} (hB : gCl ci Cn T N ty) (hd : decode cc pc = .ok (.new index, 3)) (hw : Cond.classLink own index Cn ∈ TW ∧ Cond.instantiable Cn N ∈ TW ∧ Cond.initialized Cn ∈ TW) (hsm : ∀ (k : Nat) (q : gK), (g_tab ci)[k]? = some q → q.1 < 3 ∧ ∀ a : Nat, defaultValue (ty k) = g_v a fo0 k q) (hcs : mc + 1 ≤ rm.cells ∧ ms + N ≤ rm.slots)
    (kk : ∀ a : Nat, h a = none → yB0 (xY X) ≤ a → gX X (mc + 1) (ms + N) (pc + 3) loc (.ref a :: stk) (hu h a (ci, fo0))) : gX X mc ms pc loc stk h := fun H locs ls hS hG hl => by
  obtain ⟨c1, c2, c3, c4, c5, c6⟩ := hB
  have hKn := C.K.1 ci _ c1
  have hR := C.2.2.2.2.2.2.2
  have hsz : yB0 (xY X) ≤ H.size := by
    obtain ⟨-, -, -, -, -, -, -, -, h13⟩ := C.2.2.2.2.2.2.1
    exact Nat.le_trans h13 hS.1
  refine W.newcK C.1 C.2.1 C.2.2.2.1 (C.ht hw.1) (C.ht hw.2.1) (C.ht hw.2.2) rfl hd (by rw [hR]; exact hcs.1) (by rw [hR]; exact hcs.2) hKn.2.1 rfl fun H1 kC hkC e1 z1 o1 => ?_
  obtain ⟨tag, hG⟩ := hG
  have hnone : h H.size = none := by
    cases e : h H.size with
    | none => rfl
    | some x => exact absurd (hG.lt (ci := x.1) (o := x.2) e) (Nat.lt_irrefl _)
  refine kk H.size hnone hsz H1 locs ls ⟨by rw [z1]; exact Nat.le_trans hS.1 (Nat.le_succ _), fun x h1 h2 => (o1 x (Nat.lt_of_lt_of_le h1 hS.1)).trans (hS.2.1 x h1 h2), hS.2.2⟩ ?_ hl
  refine ⟨fun q => if q = H.size then (H.size, 0) else tag q, hG.upd hsz (if_pos rfl) (fun q h1 _ => ⟨o1 q h1, if_neg (Nat.ne_of_lt h1)⟩) ?_⟩
  rw [g_pic_nice c6]
  refine ⟨?_, fun k q hq h3 => absurd (hsm k q hq).1 (Nat.not_lt.mpr h3)⟩
  have hb := (u_born ty C.hts c3 hKn hkC e1 c4).to (V' := vp_V (g_fs ci H.size fo0)) (fun j hj => by
    have hj2 : (g_tab ci)[j]? = some ((g_tab ci)[j]'(by rw [← c2]; exact hj)) := List.getElem?_eq_getElem _
    rw [g_fs_V hj2]
    exact (hsm j _ hj2).2 H.size)
  rw [c2] at hb
  exact hb
end GROWS3
/-! calls, entries, ends -/
def gPre (Y : gWx) (av : List Value) (h : GH) : Array Value → State → Prop := va_Pc av (fun U => yW Y h U.heap ∧ yE Y U)
abbrev gQv (Y : gWx) (post : GH → Prop) := va_Qv (S := GH) post (fun g t => yW Y g t.heap) (gA (yB0 Y))
abbrev gQi (Y : gWx) (post : Int32 → GH → Prop) := va_Qi (S := GH) post (fun g t => yW Y g t.heap) (gA (yB0 Y))
abbrev gQl (Y : gWx) (post : Int64 → GH → Prop) := va_Ql (S := GH) post (fun g t => yW Y g t.heap) (gA (yB0 Y))
abbrev gQr (Y : gWx) (post : Nat → GH → Prop) := va_Qr (S := Nat × GH) (fun u => post u.1 u.2) (fun u a t => a = u.1 ∧ yW Y u.2 t.heap) (gA (yB0 Y))
def gXC (Y : gWx) (px : String → GH → Prop) : String → State → State → Prop := vx_X (S := String × GH) (fun u => px u.1 u.2) (fun E u t => E = u.1 ∧ yW Y u.2 t.heap) (gA (yB0 Y))
/-- a method's contract: it returns -/
def gMet (Y : gWx) (y : MethodName) (bytes : ByteArray) (maxL : Nat) (ret : Option FieldType) (rm : Room) (av : List Value) (h : GH) (Qc : Array Value → State → Outcome → State → Prop) (mc ms : Nat) : Prop := Met (yl Y) y [Cond.code y bytes maxL ret] rm (gPre Y av h) Qc mc ms (gA (yB0 Y))
/-- a method's contract: it returns or throws -/
def gMex (Y : gWx) (y : MethodName) (bytes : ByteArray) (maxL : Nat) (ret : Option FieldType) (rm : Room) (av : List Value) (h : GH) (Qc : Array Value → State → Outcome → State → Prop) (px : String → GH → Prop) (mc ms : Nat) : Prop := vx_Met (yl Y) y [Cond.code y bytes maxL ret] rm (gPre Y av h) Qc (gXC Y px) mc ms (gA (yB0 Y))
/-- what the tables say of a method that is called -/
def gMt (y : MethodName) (bytes : ByteArray) (maxL : Nat) (ret : Option FieldType) (n : Nat) : Prop := Cond.code y bytes maxL ret ∈ TW ∧ Cond.initialized y.cls ∈ TW ∧ (y.cls ≠ "java/lang/invoke/MethodHandle" ∧ y.cls ≠ "java/lang/invoke/VarHandle" ∧ (parseMethodDescriptor y.desc).map (fun d => d.parameters.length) = some n)
theorem g_blind {Y : gWx} {av : List Value} {h : GH} : FrameBlind (gPre Y av h) := fun a U g mk q => ⟨q.1, q.2.1, gE_go q.2.2 va_S.rf rfl (State.WarmedH.refl U)⟩
theorem g_good {y : MethodName} {bytes : ByteArray} {maxL : Nat} {ret : Option FieldType} (h : Cond.code y bytes maxL ret ∈ TW) : GoodIn TW [Cond.code y bytes maxL ret] := fun w hw => by
  rw [List.mem_singleton.mp hw]; exact ⟨h, Or.inl rfl⟩
theorem g_recv {X : gCx} {h : GH} {H : Heap} {b ci N : Nat} {o : FO} {Cn : String} {T : u_T} (hK : va_K (yD (xY X)) vwCl (g_tys (ydA (xY X))) (xs X)) (hG : yW (xY X) h H) (hc : vwCl[ci]? = some (Cn, T, N)) (hg : h b = some (ci, o)) : ∃ cell : Cell, H[b]? = some cell ∧ cell.vm.isStatics = false ∧ (xs X).vm.findClass Cn = some cell.cls := by
  obtain ⟨tag, hG⟩ := hG
  have h3 := (hG b ci o hg).2.2
  have hfc := (hK.1 ci _ hc).2.1
  have fin : ∀ {N : Nat} {V : Nat → Value}, t_OB b ((yD (xY X)).1 ci) N ((yD (xY X)).2 ci) H V → ∃ cell : Cell, H[b]? = some cell ∧ cell.vm.isStatics = false ∧ (xs X).vm.findClass Cn = some cell.cls := fun z => by
    obtain ⟨cell, q1, q2, q3, -⟩ := z
    exact ⟨cell, q1, by rw [q3]; rfl, by rw [q2]; exact hfc⟩
  unfold g_pic at h3
  split at h3
  · obtain ⟨_, _, _, _, _, z, -⟩ := h3
    exact fin z
  · simp [vwCl] at hc
  · exact fin h3.1
section GCALLS
variable {X : gCx} {cc : ByteArray} {own : String} {ret : Option FieldType} {rm : Room} {mc ms pc : Nat} {loc : List (Nat × Value)} {stk st0 : List Value} {h : GH}
variable {y : MethodName} {bytes : ByteArray} {maxL n index mc' ms' : Nat} {rt : Option FieldType} {rm' : Room} {As : List Value} {b : Nat} {Qc : Array Value → State → Outcome → State → Prop} {px : String → GH → Prop}
/-- a call that is made here -/
def gRun (X : gCx) (mc ms pc : Nat) (loc : List (Nat × Value)) (st0 stk : List Value) (h : GH) (mc' ms' : Nat) (Qa : State → Outcome → State → Prop) : Prop := ∀ (H : Heap) (locs : List Loc) (ls : Array Slot), va_S (gA (yB0 (xY X))) (xs X).heap H locs → yW (xY X) h H → lv_has ls (xn X) loc → va_Run (xp X) (yl (xY X)) (xe X) (xR X) (xs X) (xm X) (xa X) (xb X) (xh X) (xc X) H locs mc ms mc' ms' (F0 (xm X) pc ls st0) stk Qa (gA (yB0 (xY X)))
def gRux (X : gCx) (mc ms pc : Nat) (loc : List (Nat × Value)) (st0 stk : List Value) (h : GH) (mc' ms' : Nat) (Qa : State → Outcome → State → Prop) (px : String → GH → Prop) : Prop := ∀ (H : Heap) (locs : List Loc) (ls : Array Slot), va_S (gA (yB0 (xY X))) (xs X).heap H locs → yW (xY X) h H → lv_has ls (xn X) loc → vx_Run (xp X) (yl (xY X)) (xe X) (xR X) (xs X) (xm X) (xa X) (xb X) (xh X) (xc X) H locs mc ms mc' ms' (F0 (xm X) pc ls st0) stk Qa (gXC (xY X) px) (gA (yB0 (xY X)))
abbrev gFit (rm rm' : Room) (maxL mc ms mc' ms' : Nat) : Prop := rm'.cells = mc' ∧ rm'.slots = ms' ∧ (rm'.frames + 1 ≤ rm.frames ∧ 8 + (maxL + 11) + rm'.locals ≤ rm.locals) ∧ (mc + mc' ≤ rm.cells ∧ ms + ms' ≤ rm.slots)
theorem g_callB (C : gC X cc own ret rm) (hm : gMt y bytes maxL rt n) (hl : Cond.methodLink own index y ∈ TW) (hf : gFit rm rm' maxL mc ms mc' ms') : CallB (xR X) (xs X) (xa X) own index y bytes maxL rt [Cond.code y bytes maxL rt] rm' mc' ms' n :=
  callB_of n C.hts (g_good hm.1) rfl hf.1 hf.2.1 (C.ht hm.2.1) (C.ht hl) hm.2.2 (by rw [C.2.2.2.2.2.2.2]; exact hf.2.2.1)
theorem g_callN {host : String} (C : gC X cc own ret rm) (hm : gMt y bytes maxL rt n) (hl : Cond.methodLinkNest own index y host ∈ TW) (hf : gFit rm rm' maxL mc ms mc' ms') : va_CN (xR X) (xs X) (xa X) own index y host bytes maxL rt [Cond.code y bytes maxL rt] rm' mc' ms' n :=
  va_cnB n C.hts (g_good hm.1) rfl hf.1 hf.2.1 (va_Nw.of rfl (C.ht hl)) (C.ht hm.2.1) hm.2.2 (by rw [C.2.2.2.2.2.2.2]; exact hf.2.2.1)
theorem g_preS (C : gC X cc own ret rm) {av : List Value} {H : Heap} {locs : List Loc} (hS : va_S (gA (yB0 (xY X))) (xs X).heap H locs) (hG : yW (xY X) h H) : PreS (xs X) H (gPre (xY X) av h) av := ⟨g_blind, fun U hU hW => ⟨rfl, by rw [hU]; exact hG, gE_go C.2.2.2.2.2.2.1 hS hU hW⟩⟩
theorem r_runV (C : gC X cc own ret rm) {ci N : Nat} {o : FO} {T : u_T} (hd : decode cc pc = .ok (.invokevirtual index, 3)) (hM : gMet (xY X) y bytes maxL rt rm' (.ref b :: As) h Qc mc' ms') (hm : gMt y bytes maxL rt n) (hl : Cond.methodLink own index y ∈ TW) (hi : Cond.instanceMethod y ∈ TW) (hs : Cond.selects y.cls y y ∈ TW) (hc : vwCl[ci]? = some (y.cls, T, N)) (hg : h b = some (ci, o)) (hn : As.length = n) (hst : st0 = As.reverse ++ .ref b :: stk) (hW : (stk.map fun v => v.category).sum ≤ 8) (hf : gFit rm rm' maxL mc ms mc' ms') : gRun X mc ms pc loc st0 stk h mc' ms' (Qc (Value.ref b :: As).toArray) := fun H locs ls hS hG hl0 =>
  va_runV (C := y.cls) (As := As) (rest := stk) ⟨C.1, C.2.1, C.2.2.1, C.2.2.2.1, C.hts⟩ hM ⟨g_callB C hm hl hf, C.ht hi, C.ht hs⟩ ⟨(g_preS C hS hG).1, g_recv C.K hG hc hg, (g_preS C hS hG).2⟩ rfl hn hl0.1 hst (lv_room hW) hd (by rw [C.2.2.2.2.2.2.2]; exact hf.2.2.2)
theorem r_runS (C : gC X cc own ret rm) (hd : decode cc pc = .ok (.invokestatic index, 3)) (hM : gMet (xY X) y bytes maxL rt rm' As h Qc mc' ms') (hm : gMt y bytes maxL rt n) (hl : Cond.methodLink own index y ∈ TW) (hi : Cond.static y ∈ TW) (hn : As.length = n) (hst : st0 = As.reverse ++ stk) (hW : (stk.map fun v => v.category).sum ≤ 8) (hf : gFit rm rm' maxL mc ms mc' ms') : gRun X mc ms pc loc st0 stk h mc' ms' (Qc As.toArray) := fun H locs ls hS hG hl0 =>
  va_runS (As := As) (rest := stk) ⟨C.1, C.2.1, C.2.2.1, C.2.2.2.1, C.hts⟩ hM ⟨g_callB C hm hl hf, C.ht hi⟩ (g_preS C hS hG) rfl hn hl0.1 hst (lv_room hW) hd (by rw [C.2.2.2.2.2.2.2]; exact hf.2.2.2)
theorem r_runSN {host : String} (C : gC X cc own ret rm) (hd : decode cc pc = .ok (.invokestatic index, 3)) (hM : gMet (xY X) y bytes maxL rt rm' As h Qc mc' ms') (hm : gMt y bytes maxL rt n) (hl : Cond.methodLinkNest own index y host ∈ TW) (hi : Cond.static y ∈ TW) (hn : As.length = n) (hst : st0 = As.reverse ++ stk) (hW : (stk.map fun v => v.category).sum ≤ 8) (hf : gFit rm rm' maxL mc ms mc' ms') : gRun X mc ms pc loc st0 stk h mc' ms' (Qc As.toArray) := fun H locs ls hS hG hl0 =>
  va_runSN (As := As) (rest := stk) ⟨C.1, C.2.1, C.2.2.1, C.2.2.2.1, C.hts⟩ hM ⟨g_callN C hm hl hf, C.ht hi, True.intro⟩ (g_preS C hS hG) rfl hn hl0.1 hst (lv_room hW) hd (by rw [C.2.2.2.2.2.2.2]; exact hf.2.2.2)
theorem r_runI (C : gC X cc own ret rm) (hd : decode cc pc = .ok (.invokespecial index, 3)) (hM : gMet (xY X) y bytes maxL none rm' (.ref b :: As) h Qc mc' ms') (hm : gMt y bytes maxL none n) (hl : Cond.methodLink own index y ∈ TW) (hi : Cond.instanceMethod y ∈ TW) (hy : y.name = "<init>") (hn : As.length = n) (hst : st0 = As.reverse ++ .ref b :: stk) (hW : (stk.map fun v => v.category).sum ≤ 8) (hf : gFit rm rm' maxL mc ms mc' ms') : gRun X mc ms pc loc st0 stk h mc' ms' (Qc (Value.ref b :: As).toArray) := fun H locs ls hS hG hl0 =>
  va_runI (As := As) (rest := stk) ⟨C.1, C.2.1, C.2.2.1, C.2.2.2.1, C.hts⟩ hM ⟨g_callB C hm hl hf, hy, C.ht hi⟩ (g_preS C hS hG) rfl hn hl0.1 hst (lv_room hW) hd (by rw [C.2.2.2.2.2.2.2]; exact hf.2.2.2)
theorem r_runIN {host : String} (C : gC X cc own ret rm) (hd : decode cc pc = .ok (.invokespecial index, 3)) (hM : gMet (xY X) y bytes maxL none rm' (.ref b :: As) h Qc mc' ms') (hm : gMt y bytes maxL none n) (hl : Cond.methodLinkNest own index y host ∈ TW) (hi : Cond.instanceMethod y ∈ TW) (hy : y.name = "<init>") (hn : As.length = n) (hst : st0 = As.reverse ++ .ref b :: stk) (hW : (stk.map fun v => v.category).sum ≤ 8) (hf : gFit rm rm' maxL mc ms mc' ms') : gRun X mc ms pc loc st0 stk h mc' ms' (Qc (Value.ref b :: As).toArray) := fun H locs ls hS hG hl0 =>
  va_runIN (As := As) (rest := stk) ⟨C.1, C.2.1, C.2.2.1, C.2.2.2.1, C.hts⟩ hM ⟨g_callN C hm hl hf, hy, C.ht hi⟩ (g_preS C hS hG) rfl hn hl0.1 hst (lv_room hW) hd (by rw [C.2.2.2.2.2.2.2]; exact hf.2.2.2)
theorem r_ruxV (C : gC X cc own ret rm) {ci N : Nat} {o : FO} {T : u_T} (hd : decode cc pc = .ok (.invokevirtual index, 3)) (hM : gMex (xY X) y bytes maxL rt rm' (.ref b :: As) h Qc px mc' ms') (hm : gMt y bytes maxL rt n) (hl : Cond.methodLink own index y ∈ TW) (hi : Cond.instanceMethod y ∈ TW) (hs : Cond.selects y.cls y y ∈ TW) (hc : vwCl[ci]? = some (y.cls, T, N)) (hg : h b = some (ci, o)) (hn : As.length = n) (hst : st0 = As.reverse ++ .ref b :: stk) (hW : (stk.map fun v => v.category).sum ≤ 8) (hf : gFit rm rm' maxL mc ms mc' ms') : gRux X mc ms pc loc st0 stk h mc' ms' (Qc (Value.ref b :: As).toArray) px := fun H locs ls hS hG hl0 =>
  vx_runV (C := y.cls) (As := As) (rest := stk) ⟨C.1, C.2.1, C.2.2.1, C.2.2.2.1, C.hts⟩ hM ⟨g_callB C hm hl hf, C.ht hi, C.ht hs⟩ ⟨(g_preS C hS hG).1, g_recv C.K hG hc hg, (g_preS C hS hG).2⟩ rfl hn hl0.1 hst (lv_room hW) hd (by rw [C.2.2.2.2.2.2.2]; exact hf.2.2.2)
theorem r_ruxS (C : gC X cc own ret rm) (hd : decode cc pc = .ok (.invokestatic index, 3)) (hM : gMex (xY X) y bytes maxL rt rm' As h Qc px mc' ms') (hm : gMt y bytes maxL rt n) (hl : Cond.methodLink own index y ∈ TW) (hi : Cond.static y ∈ TW) (hn : As.length = n) (hst : st0 = As.reverse ++ stk) (hW : (stk.map fun v => v.category).sum ≤ 8) (hf : gFit rm rm' maxL mc ms mc' ms') : gRux X mc ms pc loc st0 stk h mc' ms' (Qc As.toArray) px := fun H locs ls hS hG hl0 =>
  vx_runS (As := As) (rest := stk) ⟨C.1, C.2.1, C.2.2.1, C.2.2.2.1, C.hts⟩ hM ⟨g_callB C hm hl hf, C.ht hi⟩ (g_preS C hS hG) rfl hn hl0.1 hst (lv_room hW) hd (by rw [C.2.2.2.2.2.2.2]; exact hf.2.2.2)
variable {a9 : Array Value}
theorem r_gov {post : GH → Prop} (hr : gRun X mc ms pc loc st0 stk h mc' ms' (gQv (xY X) post a9)) (kk : ∀ g, post g → gX X (mc + mc') (ms + ms') (pc + 3) loc stk g) : gX X mc ms pc loc st0 h := fun H locs ls hS hG hl =>
  va_callv (hr H locs ls hS hG hl) hS (fun _ _ z => z) (fun _ z => z) (fun u t H1 locs1 ht hvm hp hB hz hk hS1 => kk u hp H1 locs1 ls hS1 (by rw [← ht]; exact hB) hl)
theorem r_goi {post : Int32 → GH → Prop} (hr : gRun X mc ms pc loc st0 stk h mc' ms' (gQi (xY X) post a9)) (kk : ∀ r g, post r g → gX X (mc + mc') (ms + ms') (pc + 3) loc (.int r :: stk) g) : gX X mc ms pc loc st0 h := fun H locs ls hS hG hl =>
  va_calli (hr H locs ls hS hG hl) hS (fun _ _ z => z) (fun _ z => z) (fun r u t H1 locs1 ht hvm hp hB hz hk hS1 => kk r u hp H1 locs1 ls hS1 (by rw [← ht]; exact hB) hl)
theorem r_gol {post : Int64 → GH → Prop} (hr : gRun X mc ms pc loc st0 stk h mc' ms' (gQl (xY X) post a9)) (kk : ∀ r g, post r g → gX X (mc + mc') (ms + ms') (pc + 3) loc (.long r :: stk) g) : gX X mc ms pc loc st0 h := fun H locs ls hS hG hl =>
  va_calll (hr H locs ls hS hG hl) hS (fun _ _ z => z) (fun _ z => z) (fun r u t H1 locs1 ht hvm hp hB hz hk hS1 => kk r u hp H1 locs1 ls hS1 (by rw [← ht]; exact hB) hl)
theorem r_gor {post : Nat → GH → Prop} (hr : gRun X mc ms pc loc st0 stk h mc' ms' (gQr (xY X) post a9)) (kk : ∀ r g, post r g → gX X (mc + mc') (ms + ms') (pc + 3) loc (.ref r :: stk) g) : gX X mc ms pc loc st0 h := fun H locs ls hS hG hl =>
  va_callr (hr H locs ls hS hG hl) hS (fun _ _ z => z) (fun _ z => z) (fun u ra t H1 locs1 ht hvm hp hB hz hk hS1 => by
    obtain ⟨rfl, hB⟩ := hB
    exact kk u.1 u.2 hp H1 locs1 ls hS1 (by rw [← ht]; exact hB) hl)
/-- the machine with an exception over this frame -/
def gY (X : gCx) (mc ms pc : Nat) (loc : List (Nat × Value)) (stk : List Value) (h : GH) (E : String) : Prop :=
  ∀ (H : Heap) (locs : List Loc) (ls : Array Slot) (q : Nat) (ce : Cell), va_S (gA (yB0 (xY X))) (xs X).heap H locs → yW (xY X) h H → lv_has ls (xn X) loc → H[q]? = some ce → ce.vm = .none → (xs X).vm.findClass E = some ce.cls → vx_W (xp X) (yl (xY X)) (xe X) (xR X) (xs X) (xm X) (xa X) (xb X) (xh X) (xc X) H locs mc ms (xQ X) (F0 (xm X) pc ls stk) q
theorem r_gxv {post : GH → Prop} (hr : gRux X mc ms pc loc st0 stk h mc' ms' (gQv (xY X) post a9) px) (kx : ∀ E g, px E g → gY X (mc + mc') (ms + ms') pc loc stk g E) (kk : ∀ g, post g → gX X (mc + mc') (ms + ms') (pc + 3) loc stk g) : gX X mc ms pc loc st0 h := fun H locs ls hS hG hl =>
  vx_callv (hr H locs ls hS hG hl) hS (fun _ _ z => z) (fun _ z => z) (fun _ _ z => z) (fun E ce q9 u t H1 locs1 ht hvm hp hB hz hk hS1 g1 g2 g3 => by
    obtain ⟨rfl, hB⟩ := hB
    exact kx u.1 u.2 hp H1 locs1 ls q9 ce hS1 (by rw [← ht]; exact hB) hl g1 g2 g3) (fun u t H1 locs1 ht hvm hp hB hz hk hS1 => kk u hp H1 locs1 ls hS1 (by rw [← ht]; exact hB) hl)
theorem r_gxi {post : Int32 → GH → Prop} (hr : gRux X mc ms pc loc st0 stk h mc' ms' (gQi (xY X) post a9) px) (kx : ∀ E g, px E g → gY X (mc + mc') (ms + ms') pc loc stk g E) (kk : ∀ r g, post r g → gX X (mc + mc') (ms + ms') (pc + 3) loc (.int r :: stk) g) : gX X mc ms pc loc st0 h := fun H locs ls hS hG hl =>
  vx_calli (hr H locs ls hS hG hl) hS (fun _ _ z => z) (fun _ z => z) (fun _ _ z => z) (fun E ce q9 u t H1 locs1 ht hvm hp hB hz hk hS1 g1 g2 g3 => by
    obtain ⟨rfl, hB⟩ := hB
    exact kx u.1 u.2 hp H1 locs1 ls q9 ce hS1 (by rw [← ht]; exact hB) hl g1 g2 g3) (fun r u t H1 locs1 ht hvm hp hB hz hk hS1 => kk r u hp H1 locs1 ls hS1 (by rw [← ht]; exact hB) hl)
theorem r_gxl {post : Int64 → GH → Prop} (hr : gRux X mc ms pc loc st0 stk h mc' ms' (gQl (xY X) post a9) px) (kx : ∀ E g, px E g → gY X (mc + mc') (ms + ms') pc loc stk g E) (kk : ∀ r g, post r g → gX X (mc + mc') (ms + ms') (pc + 3) loc (.long r :: stk) g) : gX X mc ms pc loc st0 h := fun H locs ls hS hG hl =>
  vx_calll (hr H locs ls hS hG hl) hS (fun _ _ z => z) (fun _ z => z) (fun _ _ z => z) (fun E ce q9 u t H1 locs1 ht hvm hp hB hz hk hS1 g1 g2 g3 => by
    obtain ⟨rfl, hB⟩ := hB
    exact kx u.1 u.2 hp H1 locs1 ls q9 ce hS1 (by rw [← ht]; exact hB) hl g1 g2 g3) (fun r u t H1 locs1 ht hvm hp hB hz hk hS1 => kk r u hp H1 locs1 ls hS1 (by rw [← ht]; exact hB) hl)
/-- where the method ends -/
def gRet (X : gCx) (Qc : Array Value → State → Outcome → State → Prop) (mcT msT : Nat) : Prop := xQ X = MQ (xb X) Qc (xa X) (xs X) mcT msT (gA (yB0 (xY X)))
def gRex (X : gCx) (Qc : Array Value → State → Outcome → State → Prop) (px : String → GH → Prop) (mcT msT : Nat) : Prop := xQ X = vx_MQ (xb X) Qc (gXC (xY X) px) (xa X) (xs X) mcT msT (gA (yB0 (xY X)))
end GCALLS
section GENDS
variable {X : gCx} {cc : ByteArray} {own : String} {ret : Option FieldType} {rm : Room} {mc ms pc mcT msT : Nat} {loc : List (Nat × Value)} {stk : List Value} {h : GH} {px : String → GH → Prop}
theorem g_any {Qc : Array Value → State → Outcome → State → Prop} (hQ : gRet X Qc mcT msT ∨ gRex X Qc px mcT msT) {H : Heap} {locs : List Loc} {g : JFrame} (k : W (xp X) (yl (xY X)) (xe X) (xR X) (xs X) (xm X) (xa X) (xb X) (xh X) (xc X) H locs mc ms (MQ (xb X) Qc (xa X) (xs X) mcT msT (gA (yB0 (xY X)))) g) : gV X H locs mc ms g := by
  rcases hQ with hQ | hQ
  · unfold gRet at hQ; rw [gV, hQ]; exact k
  · unfold gRex at hQ; rw [gV, hQ]; exact vx_ret k
theorem r_iret {post : Int32 → GH → Prop} (C : gC X cc own ret rm) (hQ : gRet X (gQi (xY X) post) mcT msT ∨ gRex X (gQi (xY X) post) px mcT msT) (hd : decode cc pc = .ok (.ireturn, 1)) {ty : FieldType} (hr : ret = some ty) {v : Int32} (hn : narrow ty (.int v) = .int v) (hc : mc ≤ mcT ∧ ms ≤ msT) (hp : post v h) : gX X mc ms pc loc [.int v] h := fun H locs ls hS hG hl =>
  g_any hQ (W.widen hc.1 hc.2 (W.zret C.1 C.2.1 (by rw [C.2.2.2.2.1, hr]) hn (fun t ht hW => ⟨⟨v, h, rfl, hp, by show yW _ _ t.heap; rw [ht]; exact hG⟩, hS.F ht⟩) hS.2.2 hd C.2.2.2.2.2.1))
theorem r_vret {post : GH → Prop} (C : gC X cc own ret rm) (hQ : gRet X (gQv (xY X) post) mcT msT ∨ gRex X (gQv (xY X) post) px mcT msT) (hd : decode cc pc = .ok (.return_, 1)) (hr : ret = none) (hc : mc ≤ mcT ∧ ms ≤ msT) (hp : post h) : gX X mc ms pc loc [] h := fun H locs ls hS hG hl =>
  g_any hQ (W.widen hc.1 hc.2 (W.vret C.1 C.2.1 (by rw [C.2.2.2.2.1, hr]) (fun t ht hW => ⟨⟨h, rfl, hp, by show yW _ _ t.heap; rw [ht]; exact hG⟩, hS.F ht⟩) hS.2.2 hd C.2.2.2.2.2.1))
theorem r_lret {post : Int64 → GH → Prop} (C : gC X cc own ret rm) (hQ : gRet X (gQl (xY X) post) mcT msT ∨ gRex X (gQl (xY X) post) px mcT msT) (hd : decode cc pc = .ok (.lreturn, 1)) (hr : ret = some .long) {v : Int64} (hc : mc ≤ mcT ∧ ms ≤ msT) (hp : post v h) : gX X mc ms pc loc [.long v] h := fun H locs ls hS hG hl =>
  g_any hQ (W.widen hc.1 hc.2 (W.lret C.1 C.2.1 (by rw [C.2.2.2.2.1, hr]) (fun t ht hW => ⟨⟨v, h, rfl, hp, by show yW _ _ t.heap; rw [ht]; exact hG⟩, hS.F ht⟩) hS.2.2 hd C.2.2.2.2.2.1))
theorem r_aret {post : Nat → GH → Prop} (C : gC X cc own ret rm) (hQ : gRet X (gQr (xY X) post) mcT msT ∨ gRex X (gQr (xY X) post) px mcT msT) (hd : decode cc pc = .ok (.areturn, 1)) {ty : FieldType} (hr : ret = some ty) (hrt : (∃ n, ty = .object n) ∨ ∃ t, ty = .array t) {v : Nat} (hc : mc ≤ mcT ∧ ms ≤ msT) (hp : post v h) : gX X mc ms pc loc [.ref v] h := fun H locs ls hS hG hl =>
  g_any hQ (W.widen hc.1 hc.2 (W.aret C.1 C.2.1 (by rw [C.2.2.2.2.1, hr]) hrt (Or.inr ⟨v, rfl⟩) (fun t ht hW => ⟨⟨(v, h), v, rfl, hp, rfl, by show yW _ _ t.heap; rw [ht]; exact hG⟩, hS.F ht⟩) hS.2.2 hd C.2.2.2.2.2.1))
/-- an exception that leaves the method -/
theorem r_out {Qc : Array Value → State → Outcome → State → Prop} {E : String} (C : gC X cc own ret rm) (hQ : gRex X Qc px mcT msT) (hno : ∀ x ∈ (xc X).exceptionTable.toList, covers x pc = false) (hc : mc ≤ mcT ∧ ms ≤ msT) (hp : px E h) : gY X mc ms pc loc stk h E := fun H locs ls q ce hS hG hl g1 g2 g3 => by
  unfold gRex at hQ
  rw [hQ]
  exact vx_out hno C.2.2.2.2.2.1 g1 g2 g3 (fun t ht hW => ⟨(E, h), hp, ⟨rfl, by show yW _ _ t.heap; rw [ht]; exact hG⟩, hS.F ht⟩) hS.2.2 hc.1 hc.2
/-- throw new E("text") -/
theorem r_throw {Qc : Array Value → State → Outcome → State → Prop} {E text : String} {names : List String} {ik is ic : Nat} (C : gC X cc own ret rm) (hQ : gRex X Qc px mcT msT) (hl : (yl (xY X)).stackTraces = false) (hno : ∀ x ∈ (xc X).exceptionTable.toList, covers x (pc + 9) = false)
    (hcls : Bundle.fit E = true) (hnames : ∀ n ∈ names, Bundle.fit n = true) (hk : Cond.classLink own ik E ∈ TW) (hini : Cond.initialized E ∈ TW) (hstr : (own, is, text) ∈ g_strs) (hat : ∀ w ∈ vx_atS own ic E names, w ∈ TW)
    (hgood : ∀ w ∈ Cond.classLink own ik E :: Cond.initialized E :: vx_atS own ic E names, vx_ot w = true)
    (d0 : decode cc pc = .ok (.new ik, 3)) (d3 : decode cc (pc + 3) = .ok (.dup, 1)) (d4 : decode cc (pc + 4) = .ok (.ldc is, 2)) (d6 : decode cc (pc + 6) = .ok (.invokespecial ic, 3)) (d9 : decode cc (pc + 9) = .ok (.athrow, 1))
    (hR : names.length + 3 < rm.frames ∧ (stk.map fun v => v.category).sum + (13 * (names.length + 1) + 43) ≤ rm.locals ∧ mc + 1 ≤ rm.cells ∧ ms + 6 ≤ rm.slots) (hc : mc + 1 ≤ mcT ∧ ms + 6 ≤ msT) (hp : px E h) : gX X mc ms pc loc stk h := fun H locs ls hS hG hl0 => by
  have hE := C.2.2.2.2.2.2.1
  have hRm := C.2.2.2.2.2.2.2
  obtain ⟨e1, e2, e3, e4, e5, -⟩ := hE
  obtain ⟨sa, hsa⟩ := e3 _ hstr
  unfold gRex at hQ
  rw [gV, hQ]
  refine vx_throwS C.1 C.2.1 hl C.2.2.2.1 hcls hnames (C.ht hk) (C.ht hini) hsa (fun w hw => C.ht (hat w hw)) hgood e4 e5 hS (hl0.1.trans C.2.2.1.symm) d0 d3 d4 d6 d9 hno (by rw [hRm]; exact hR.1) (by rw [hRm]; exact hR.2.1) (by rw [hRm]; exact hR.2.2.1) (by rw [hRm]; exact hR.2.2.2) C.2.2.2.2.2.1 (fun t hvm hz hk => ?_) hS.2.2 hc.1 hc.2
  obtain ⟨tag, hG⟩ := hG
  exact ⟨(E, h), hp, ⟨rfl, tag, hG.kept fun q hq => ⟨hk q hq, rfl⟩⟩, ⟨Nat.le_trans hS.1 hz, fun q h1 h2 => (hk q (Nat.lt_of_lt_of_le h1 hS.1)).trans (hS.2.1 q h1 h2)⟩⟩
end GENDS
/-- a method's body, from its entry -/
theorem gm_of {Y : gWx} {y : MethodName} {bytes : ByteArray} {maxL : Nat} {rt : Option FieldType} {rm : Room} {av : List Value} {h : GH} {Qc : Array Value → State → Outcome → State → Prop} {mc ms : Nat} (hy : plainName y.cls = true) (hlen : (lg_sl av).length ≤ maxL)
    (body : ∀ X : gCx, xY X = Y → xn X = maxL → gC X bytes y.cls rt rm → (xh X).name = y.name → gRet X Qc mc ms → gX X 0 0 0 (lv_args 0 av) [] h) : gMet Y y bytes maxL rt rm av h Qc mc ms := by
  refine Met.ofW (cc := bytes) (maxL := maxL) (ret := rt) hy rfl ?_
  intro p e s m args below meth c s₁ B hml hv
  obtain ⟨rfl, hG, hE⟩ := hv
  have k := body (Y, p, e, rm, s, m, av.toArray, below, meth, c, MQ below Qc av.toArray s mc ms (gA (yB0 Y)), maxL) rfl rfl ⟨B.exec, B.bytes, hml, findClass_of_methodNamed B.named, B.returns, B.notSynchronized, hE, rfl⟩ (name_of_methodNamed B.named B.method).1 rfl
  rw [lg_entry_eq]
  exact k s.heap [] _ va_S.rf hG (lv_entry av hlen)
theorem gm_ofx {Y : gWx} {y : MethodName} {bytes : ByteArray} {maxL : Nat} {rt : Option FieldType} {rm : Room} {av : List Value} {h : GH} {Qc : Array Value → State → Outcome → State → Prop} {px : String → GH → Prop} {mc ms : Nat} (hy : plainName y.cls = true) (hlen : (lg_sl av).length ≤ maxL)
    (body : ∀ X : gCx, xY X = Y → xn X = maxL → gC X bytes y.cls rt rm → (∀ x ∈ (xc X).exceptionTable.toList, False) → gRex X Qc px mc ms → gX X 0 0 0 (lv_args 0 av) [] h) : gMex Y y bytes maxL rt rm av h Qc px mc ms := by
  refine vx_ofW (cc := bytes) (maxL := maxL) (ret := rt) hy rfl ?_
  intro p e s m args below meth c s₁ B hml hno hv
  obtain ⟨rfl, hG, hE⟩ := hv
  have k := body (Y, p, e, rm, s, m, av.toArray, below, meth, c, vx_MQ below Qc (gXC Y px) av.toArray s mc ms (gA (yB0 Y)), maxL) rfl rfl ⟨B.exec, B.bytes, hml, findClass_of_methodNamed B.named, B.returns, B.notSynchronized, hE, rfl⟩ hno rfl
  rw [lg_entry_eq]
  exact k s.heap [] _ va_S.rf hG (lv_entry av hlen)
end
section
theorem nlt {a b c : Nat} (h : a = b) (k : c < b) : c < a := by rw [h]; exact k
theorem gX_eq {X : gCx} {mc ms pc : Nat} {loc : List (Nat × Value)} {stk : List Value} {h h' : GH} (e : h = h') (k : gX X mc ms pc loc stk h') : gX X mc ms pc loc stk h := by rw [e]; exact k
theorem z_01 {x : Int32} (h : x &&& 1 = x) : x = 0 ∨ x = 1 := by
  have h3 := pk_and x (m := 1) 1 (by decide)
  rw [h] at h3
  rcases Nat.mod_two_eq_zero_or_one x.toBitVec.toNat with q | q
  · left; rw [h3]; simp only [Nat.pow_one, q]; rfl
  · right; rw [h3]; simp only [Nat.pow_one, q]; rfl
theorem fits_z {x : Int32} (h : narrow .boolean (.int x) = .int x) : fits .boolean (.int x) = true := by
  have h2 : x &&& 1 = x := by simpa [narrow] using h
  rcases z_01 h2 with rfl | rfl <;> rfl
section GROWS5
variable {X : gCx} {cc : ByteArray} {own : String} {ret : Option FieldType} {rm : Room} {mc ms pc : Nat} {loc : List (Nat × Value)} {stk : List Value} {h : GH}
theorem r_ldc (C : gC X cc own ret rm) {ix : Nat} {v : Int32} (hd : decode cc pc = .ok (.ldc ix, 2)) (hw : Cond.constant own ix v ∈ TW) (kk : gX X mc ms (pc + 2) loc (.int v :: stk) h) : gX X mc ms pc loc stk h := fun H locs ls hS hG hl => lv_ldc C.1 C.2.1 C.2.2.2.1 (C.ht hw) hd (kk H locs ls hS hG hl)
theorem r_ldcw (C : gC X cc own ret rm) {ix : Nat} {v : Int32} (hd : decode cc pc = .ok (.ldc_w ix, 3)) (hw : Cond.constant own ix v ∈ TW) (kk : gX X mc ms (pc + 3) loc (.int v :: stk) h) : gX X mc ms pc loc stk h := fun H locs ls hS hG hl => lv_ldcw C.1 C.2.1 C.2.2.2.1 (C.ht hw) hd (kk H locs ls hS hG hl)
theorem r_ldc2 (C : gC X cc own ret rm) {ix : Nat} {v : Int64} (hd : decode cc pc = .ok (.ldc2_w ix, 3)) (hw : Cond.constantLong own ix v ∈ TW) (kk : gX X mc ms (pc + 3) loc (.long v :: stk) h) : gX X mc ms pc loc stk h := fun H locs ls hS hG hl => lv_ldc2 C.1 C.2.1 C.2.2.2.1 (C.ht hw) hd (kk H locs ls hS hG hl)
theorem r_lcmp (C : gC X cc own ret rm) {x y : Int64} (hd : decode cc pc = .ok (.lcmp, 1)) (kk : gX X mc ms (pc + 1) loc (.int (lg_cmp x y) :: stk) h) : gX X mc ms pc loc (.long y :: .long x :: stk) h := fun H locs ls hS hG hl => W.lcmp C.1 C.2.1 hd (kk H locs ls hS hG hl)
theorem r_dup2 (C : gC X cc own ret rm) {v u : Value} (hd : decode cc pc = .ok (.dup2, 1)) (h1 : v.category = 1) (h2 : u.category = 1) (kk : gX X mc ms (pc + 1) loc (v :: u :: v :: u :: stk) h) : gX X mc ms pc loc (v :: u :: stk) h := fun H locs ls hS hG hl => lv_dup2_11 C.1 C.2.1 hd h1 h2 (kk H locs ls hS hG hl)
theorem r_dup_x1 (C : gC X cc own ret rm) {v u : Value} (hd : decode cc pc = .ok (.dup_x1, 1)) (h1 : v.category = 1) (h2 : u.category = 1) (kk : gX X mc ms (pc + 1) loc (v :: u :: v :: stk) h) : gX X mc ms pc loc (v :: u :: stk) h := fun H locs ls hS hG hl => lv_dup_x1 C.1 C.2.1 hd h1 h2 (kk H locs ls hS hG hl)
end GROWS5

set_option maxRecDepth 100000 in
theorem gcl_1 : gCl 1 RX0 TX0 7 tyX0 := ⟨rfl, rfl, by decide +kernel, tyX0_ok, nmX0, rfl⟩
set_option maxRecDepth 100000 in
theorem gcl_2 : gCl 2 RX1 TX1 10 tyX1 := ⟨rfl, rfl, by decide +kernel, tyX1_ok, nmX1, rfl⟩
set_option maxRecDepth 100000 in
theorem gcl_3 : gCl 3 RX2 TX2 4 tyX2 := ⟨rfl, rfl, by decide +kernel, tyX2_ok, nmX2, rfl⟩
set_option maxRecDepth 100000 in
theorem gcl_4 : gCl 4 RX3 TX3 10 tyX3 := ⟨rfl, rfl, by decide +kernel, tyX3_ok, nmX3, rfl⟩
set_option maxRecDepth 100000 in
theorem gcl_5 : gCl 5 RX4 TX4 3 tyX4 := ⟨rfl, rfl, by decide +kernel, tyX4_ok, nmX4, rfl⟩
set_option maxRecDepth 100000 in
theorem gcl_6 : gCl 6 RX5 TX5 6 tyX5 := ⟨rfl, rfl, by decide +kernel, tyX5_ok, nmX5, rfl⟩
set_option maxRecDepth 100000 in
theorem gcl_7 : gCl 7 RX6 TX6 4 tyX6 := ⟨rfl, rfl, by decide +kernel, tyX6_ok, nmX6, rfl⟩
set_option maxRecDepth 100000 in
theorem gcl_8 : gCl 8 RX7 TX7 11 tyX7 := ⟨rfl, rfl, by decide +kernel, tyX7_ok, nmX7, rfl⟩
set_option maxRecDepth 100000 in
theorem gcl_9 : gCl 9 RX8 TX8 49 tyX8 := ⟨rfl, rfl, by decide +kernel, tyX8_ok, nmX8, rfl⟩
end
section
theorem tw32 : Cond.selects "CanvasRoomModel" ⟨"CanvasRoomModel","tells","(IIIII)V"⟩ ⟨"CanvasRoomModel","tells","(IIIII)V"⟩ ∈ TW := tw_in 32 (by decide +kernel) (by decide +kernel)
theorem tw33 : Cond.selects "CanvasRoomModel" ⟨"CanvasRoomModel","anew","()V"⟩ ⟨"CanvasRoomModel","anew","()V"⟩ ∈ TW := tw_in 33 (by decide +kernel) (by decide +kernel)
theorem tw34 : Cond.selects "CanvasRoomModel" ⟨"CanvasRoomModel","does","(I)V"⟩ ⟨"CanvasRoomModel","does","(I)V"⟩ ∈ TW := tw_in 34 (by decide +kernel) (by decide +kernel)
theorem tw35 : Cond.selects "CanvasRoomModel" ⟨"CanvasRoomModel","comes","(I)V"⟩ ⟨"CanvasRoomModel","comes","(I)V"⟩ ∈ TW := tw_in 35 (by decide +kernel) (by decide +kernel)
theorem tw36 : Cond.selects "CanvasRoomModel" ⟨"CanvasRoomModel","freeGroup","()I"⟩ ⟨"CanvasRoomModel","freeGroup","()I"⟩ ∈ TW := tw_in 36 (by decide +kernel) (by decide +kernel)
theorem tw37 : Cond.selects "CanvasRoomModel" ⟨"CanvasRoomModel","putIn","(IZ)V"⟩ ⟨"CanvasRoomModel","putIn","(IZ)V"⟩ ∈ TW := tw_in 37 (by decide +kernel) (by decide +kernel)
theorem tw38 : Cond.selects "CanvasRoomModel" ⟨"CanvasRoomModel","moves","(III)V"⟩ ⟨"CanvasRoomModel","moves","(III)V"⟩ ∈ TW := tw_in 38 (by decide +kernel) (by decide +kernel)
theorem tw39 : Cond.selects "CanvasRoomModel" ⟨"CanvasRoomModel","joins","(II)V"⟩ ⟨"CanvasRoomModel","joins","(II)V"⟩ ∈ TW := tw_in 39 (by decide +kernel) (by decide +kernel)
theorem tw40 : Cond.selects "CanvasRoomModel" ⟨"CanvasRoomModel","takeOut","(I)V"⟩ ⟨"CanvasRoomModel","takeOut","(I)V"⟩ ∈ TW := tw_in 40 (by decide +kernel) (by decide +kernel)
theorem tw41 : Cond.selects "CanvasRoomModel" ⟨"CanvasRoomModel","isShape","(I)Z"⟩ ⟨"CanvasRoomModel","isShape","(I)Z"⟩ ∈ TW := tw_in 41 (by decide +kernel) (by decide +kernel)
theorem tw42 : Cond.selects "CanvasRoomModel" ⟨"CanvasRoomModel","canName","(I)Z"⟩ ⟨"CanvasRoomModel","canName","(I)Z"⟩ ∈ TW := tw_in 42 (by decide +kernel) (by decide +kernel)
theorem tw43 : Cond.selects "CanvasRoomModel" ⟨"CanvasRoomModel","inGroup","(I)I"⟩ ⟨"CanvasRoomModel","inGroup","(I)I"⟩ ∈ TW := tw_in 43 (by decide +kernel) (by decide +kernel)
theorem tw44 : Cond.selects "CanvasRoomModel" ⟨"CanvasRoomModel","names","(II)I"⟩ ⟨"CanvasRoomModel","names","(II)I"⟩ ∈ TW := tw_in 44 (by decide +kernel) (by decide +kernel)
theorem tw45 : Cond.selects "CanvasRoomModel" ⟨"CanvasRoomModel","holderOf","(I)I"⟩ ⟨"CanvasRoomModel","holderOf","(I)I"⟩ ∈ TW := tw_in 45 (by decide +kernel) (by decide +kernel)
theorem tw46 : Cond.selects "CanvasRoomModel" ⟨"CanvasRoomModel","isAct","(I)Z"⟩ ⟨"CanvasRoomModel","isAct","(I)Z"⟩ ∈ TW := tw_in 46 (by decide +kernel) (by decide +kernel)
theorem tw47 : Cond.selects "CanvasRoomModel" ⟨"CanvasRoomModel","seenAt","(II)I"⟩ ⟨"CanvasRoomModel","seenAt","(II)I"⟩ ∈ TW := tw_in 47 (by decide +kernel) (by decide +kernel)
theorem tw48 : Cond.selects "CanvasRoomModel" ⟨"CanvasRoomModel","covers","(III)Z"⟩ ⟨"CanvasRoomModel","covers","(III)Z"⟩ ∈ TW := tw_in 48 (by decide +kernel) (by decide +kernel)
theorem tw49 : Cond.selects "CanvasRoomModel" ⟨"CanvasRoomModel","isEmpty","(IIII)Z"⟩ ⟨"CanvasRoomModel","isEmpty","(IIII)Z"⟩ ∈ TW := tw_in 49 (by decide +kernel) (by decide +kernel)
theorem tw50 : Cond.selects "CanvasRoomModel" ⟨"CanvasRoomModel","keeps","(I)V"⟩ ⟨"CanvasRoomModel","keeps","(I)V"⟩ ∈ TW := tw_in 50 (by decide +kernel) (by decide +kernel)
theorem tw51 : Cond.selects "CanvasRoomModel" ⟨"CanvasRoomModel","isViewed","(II)Z"⟩ ⟨"CanvasRoomModel","isViewed","(II)Z"⟩ ∈ TW := tw_in 51 (by decide +kernel) (by decide +kernel)
theorem tw52 : Cond.selects "CanvasRoomModel" ⟨"CanvasRoomModel","viewedAt","(III)I"⟩ ⟨"CanvasRoomModel","viewedAt","(III)I"⟩ ∈ TW := tw_in 52 (by decide +kernel) (by decide +kernel)
theorem tw53 : Cond.selects "CanvasRoomModel" ⟨"CanvasRoomModel","isEdition","(I)Z"⟩ ⟨"CanvasRoomModel","isEdition","(I)Z"⟩ ∈ TW := tw_in 53 (by decide +kernel) (by decide +kernel)
theorem tw54 : Cond.selects "CanvasRoomModel" ⟨"CanvasRoomModel","sells","(III)V"⟩ ⟨"CanvasRoomModel","sells","(III)V"⟩ ∈ TW := tw_in 54 (by decide +kernel) (by decide +kernel)
theorem tw55 : Cond.selects "CanvasRoomModel" ⟨"CanvasRoomModel","shares","(II)V"⟩ ⟨"CanvasRoomModel","shares","(II)V"⟩ ∈ TW := tw_in 55 (by decide +kernel) (by decide +kernel)
theorem tw56 : Cond.selects "CanvasRoomModel" ⟨"CanvasRoomModel","isCopy","(II)Z"⟩ ⟨"CanvasRoomModel","isCopy","(II)Z"⟩ ∈ TW := tw_in 56 (by decide +kernel) (by decide +kernel)
theorem tw57 : Cond.selects "CanvasRoomModel" ⟨"CanvasRoomModel","changed","(II)I"⟩ ⟨"CanvasRoomModel","changed","(II)I"⟩ ∈ TW := tw_in 57 (by decide +kernel) (by decide +kernel)
theorem tw64 : Cond.initialized "CanvasRoomModel" ∈ TW := tw_in 64 (by decide +kernel) (by decide +kernel)
theorem tw1059 : Cond.fieldLink "CanvasRoomModel" 140 "CanvasRoomModel" "thrown" "I" ∈ TW := tw_in 1059 (by decide +kernel) (by decide +kernel)
theorem tw1060 : Cond.fieldLink "CanvasRoomModel" 151 "CanvasRoomModel" "acts" "I" ∈ TW := tw_in 1060 (by decide +kernel) (by decide +kernel)
theorem tw1061 : Cond.fieldLink "CanvasRoomModel" 7 "CanvasRoomModel" "kind" "[I" ∈ TW := tw_in 1061 (by decide +kernel) (by decide +kernel)
theorem tw1062 : Cond.fieldLink "CanvasRoomModel" 13 "CanvasRoomModel" "hand" "[I" ∈ TW := tw_in 1062 (by decide +kernel) (by decide +kernel)
theorem tw1063 : Cond.fieldLink "CanvasRoomModel" 16 "CanvasRoomModel" "shape" "[I" ∈ TW := tw_in 1063 (by decide +kernel) (by decide +kernel)
theorem tw1064 : Cond.fieldLink "CanvasRoomModel" 19 "CanvasRoomModel" "first" "[I" ∈ TW := tw_in 1064 (by decide +kernel) (by decide +kernel)
theorem tw1065 : Cond.fieldLink "CanvasRoomModel" 22 "CanvasRoomModel" "second" "[I" ∈ TW := tw_in 1065 (by decide +kernel) (by decide +kernel)
theorem tw1066 : Cond.fieldLink "CanvasRoomModel" 25 "CanvasRoomModel" "isLive" "[Z" ∈ TW := tw_in 1066 (by decide +kernel) (by decide +kernel)
theorem tw1067 : Cond.fieldLink "CanvasRoomModel" 29 "CanvasRoomModel" "undone" "[I" ∈ TW := tw_in 1067 (by decide +kernel) (by decide +kernel)
theorem tw1068 : Cond.fieldLink "CanvasRoomModel" 32 "CanvasRoomModel" "undoings" "[I" ∈ TW := tw_in 1068 (by decide +kernel) (by decide +kernel)
theorem tw1069 : Cond.fieldLink "CanvasRoomModel" 148 "CanvasRoomModel" "shapes" "I" ∈ TW := tw_in 1069 (by decide +kernel) (by decide +kernel)
theorem tw1070 : Cond.fieldLink "CanvasRoomModel" 35 "CanvasRoomModel" "maker" "[I" ∈ TW := tw_in 1070 (by decide +kernel) (by decide +kernel)
theorem tw1071 : Cond.fieldLink "CanvasRoomModel" 38 "CanvasRoomModel" "width" "[I" ∈ TW := tw_in 1071 (by decide +kernel) (by decide +kernel)
theorem tw1072 : Cond.fieldLink "CanvasRoomModel" 41 "CanvasRoomModel" "height" "[I" ∈ TW := tw_in 1072 (by decide +kernel) (by decide +kernel)
theorem tw1073 : Cond.fieldLink "CanvasRoomModel" 44 "CanvasRoomModel" "firstColumn" "[I" ∈ TW := tw_in 1073 (by decide +kernel) (by decide +kernel)
theorem tw1074 : Cond.fieldLink "CanvasRoomModel" 47 "CanvasRoomModel" "firstRow" "[I" ∈ TW := tw_in 1074 (by decide +kernel) (by decide +kernel)
theorem tw1075 : Cond.fieldLink "CanvasRoomModel" 50 "CanvasRoomModel" "firstColour" "[I" ∈ TW := tw_in 1075 (by decide +kernel) (by decide +kernel)
theorem tw1076 : Cond.fieldLink "CanvasRoomModel" 53 "CanvasRoomModel" "isDown" "[Z" ∈ TW := tw_in 1076 (by decide +kernel) (by decide +kernel)
theorem tw1077 : Cond.fieldLink "CanvasRoomModel" 161 "CanvasRoomModel" "many" "I" ∈ TW := tw_in 1077 (by decide +kernel) (by decide +kernel)
theorem tw1078 : Cond.fieldLink "CanvasRoomModel" 56 "CanvasRoomModel" "order" "[I" ∈ TW := tw_in 1078 (by decide +kernel) (by decide +kernel)
theorem tw1079 : Cond.fieldLink "CanvasRoomModel" 59 "CanvasRoomModel" "isThere" "[Z" ∈ TW := tw_in 1079 (by decide +kernel) (by decide +kernel)
theorem tw1080 : Cond.fieldLink "CanvasRoomModel" 62 "CanvasRoomModel" "column" "[I" ∈ TW := tw_in 1080 (by decide +kernel) (by decide +kernel)
theorem tw1081 : Cond.fieldLink "CanvasRoomModel" 65 "CanvasRoomModel" "row" "[I" ∈ TW := tw_in 1081 (by decide +kernel) (by decide +kernel)
theorem tw1082 : Cond.fieldLink "CanvasRoomModel" 68 "CanvasRoomModel" "colour" "[I" ∈ TW := tw_in 1082 (by decide +kernel) (by decide +kernel)
theorem tw1083 : Cond.fieldLink "CanvasRoomModel" 71 "CanvasRoomModel" "group" "[I" ∈ TW := tw_in 1083 (by decide +kernel) (by decide +kernel)
theorem tw1084 : Cond.fieldLink "CanvasRoomModel" 154 "CanvasRoomModel" "editions" "I" ∈ TW := tw_in 1084 (by decide +kernel) (by decide +kernel)
theorem tw1085 : Cond.fieldLink "CanvasRoomModel" 74 "CanvasRoomModel" "freezer" "[I" ∈ TW := tw_in 1085 (by decide +kernel) (by decide +kernel)
theorem tw1086 : Cond.fieldLink "CanvasRoomModel" 77 "CanvasRoomModel" "viewColumn" "[I" ∈ TW := tw_in 1086 (by decide +kernel) (by decide +kernel)
theorem tw1087 : Cond.fieldLink "CanvasRoomModel" 80 "CanvasRoomModel" "viewRow" "[I" ∈ TW := tw_in 1087 (by decide +kernel) (by decide +kernel)
theorem tw1088 : Cond.fieldLink "CanvasRoomModel" 83 "CanvasRoomModel" "viewWidth" "[I" ∈ TW := tw_in 1088 (by decide +kernel) (by decide +kernel)
theorem tw1089 : Cond.fieldLink "CanvasRoomModel" 86 "CanvasRoomModel" "viewHeight" "[I" ∈ TW := tw_in 1089 (by decide +kernel) (by decide +kernel)
theorem tw1090 : Cond.fieldLink "CanvasRoomModel" 89 "CanvasRoomModel" "copies" "[I" ∈ TW := tw_in 1090 (by decide +kernel) (by decide +kernel)
theorem tw1091 : Cond.fieldLink "CanvasRoomModel" 92 "CanvasRoomModel" "price" "[I" ∈ TW := tw_in 1091 (by decide +kernel) (by decide +kernel)
theorem tw1092 : Cond.fieldLink "CanvasRoomModel" 95 "CanvasRoomModel" "isWithdrawn" "[Z" ∈ TW := tw_in 1092 (by decide +kernel) (by decide +kernel)
theorem tw1093 : Cond.fieldLink "CanvasRoomModel" 98 "CanvasRoomModel" "wasSold" "[Z" ∈ TW := tw_in 1093 (by decide +kernel) (by decide +kernel)
theorem tw1094 : Cond.fieldLink "CanvasRoomModel" 101 "CanvasRoomModel" "area" "[I" ∈ TW := tw_in 1094 (by decide +kernel) (by decide +kernel)
theorem tw1095 : Cond.fieldLink "CanvasRoomModel" 104 "CanvasRoomModel" "holds" "[Z" ∈ TW := tw_in 1095 (by decide +kernel) (by decide +kernel)
theorem tw1096 : Cond.fieldLink "CanvasRoomModel" 107 "CanvasRoomModel" "kept" "[I" ∈ TW := tw_in 1096 (by decide +kernel) (by decide +kernel)
theorem tw1097 : Cond.fieldLink "CanvasRoomModel" 110 "CanvasRoomModel" "keptShape" "[I" ∈ TW := tw_in 1097 (by decide +kernel) (by decide +kernel)
theorem tw1098 : Cond.fieldLink "CanvasRoomModel" 113 "CanvasRoomModel" "keptColumn" "[I" ∈ TW := tw_in 1098 (by decide +kernel) (by decide +kernel)
theorem tw1099 : Cond.fieldLink "CanvasRoomModel" 116 "CanvasRoomModel" "keptRow" "[I" ∈ TW := tw_in 1099 (by decide +kernel) (by decide +kernel)
theorem tw1100 : Cond.fieldLink "CanvasRoomModel" 119 "CanvasRoomModel" "keptColour" "[I" ∈ TW := tw_in 1100 (by decide +kernel) (by decide +kernel)
theorem tw1101 : Cond.fieldLink "CanvasRoomModel" 122 "CanvasRoomModel" "state" "[I" ∈ TW := tw_in 1101 (by decide +kernel) (by decide +kernel)
theorem tw1102 : Cond.fieldLink "CanvasRoomModel" 125 "CanvasRoomModel" "owner" "[I" ∈ TW := tw_in 1102 (by decide +kernel) (by decide +kernel)
theorem tw1103 : Cond.fieldLink "CanvasRoomModel" 128 "CanvasRoomModel" "cost" "[I" ∈ TW := tw_in 1103 (by decide +kernel) (by decide +kernel)
theorem tw1104 : Cond.fieldLink "CanvasRoomModel" 131 "CanvasRoomModel" "answerer" "[I" ∈ TW := tw_in 1104 (by decide +kernel) (by decide +kernel)
theorem tw1105 : Cond.fieldLink "CanvasRoomModel" 134 "CanvasRoomModel" "money" "[I" ∈ TW := tw_in 1105 (by decide +kernel) (by decide +kernel)
theorem tw1106 : Cond.fieldLink "CanvasRoomModel" 137 "CanvasRoomModel" "purse" "[I" ∈ TW := tw_in 1106 (by decide +kernel) (by decide +kernel)
theorem tw1107 : Cond.fieldLink "CanvasRoomModel" 248 "CanvasRoomModel" "house" "I" ∈ TW := tw_in 1107 (by decide +kernel) (by decide +kernel)
theorem tw1210 : Cond.code ⟨"CanvasRoomModel","thrown","()I"⟩ prog_10_method_2_code 1 (some .int) ∈ TW := tw_in 1210 (by decide +kernel) (by decide +kernel)
theorem tw1214 : Cond.code ⟨"CanvasRoomModel","add","(IIIIII)I"⟩ prog_10_method_23_code 8 (some .int) ∈ TW := tw_in 1214 (by decide +kernel) (by decide +kernel)
theorem tw1215 : Cond.methodLink "CanvasRoomModel" 144 ⟨"CanvasRoomModel","isIn","(III)Z"⟩ ∈ TW := tw_in 1215 (by decide +kernel) (by decide +kernel)
theorem tw1216 : Cond.static ⟨"CanvasRoomModel","isIn","(III)Z"⟩ ∈ TW := tw_in 1216 (by decide +kernel) (by decide +kernel)
theorem tw1217 : Cond.code ⟨"CanvasRoomModel","isIn","(III)Z"⟩ prog_10_method_3_code 3 (some .boolean) ∈ TW := tw_in 1217 (by decide +kernel) (by decide +kernel)
theorem tw1218 : Cond.methodLink "CanvasRoomModel" 196 ⟨"CanvasRoomModel","isHand","(I)Z"⟩ ∈ TW := tw_in 1218 (by decide +kernel) (by decide +kernel)
theorem tw1219 : Cond.static ⟨"CanvasRoomModel","isHand","(I)Z"⟩ ∈ TW := tw_in 1219 (by decide +kernel) (by decide +kernel)
theorem tw1220 : Cond.code ⟨"CanvasRoomModel","isHand","(I)Z"⟩ prog_10_method_4_code 1 (some .boolean) ∈ TW := tw_in 1220 (by decide +kernel) (by decide +kernel)
theorem tw1221 : Cond.methodLink "CanvasRoomModel" 199 ⟨"CanvasRoomModel","tells","(IIIII)V"⟩ ∈ TW := tw_in 1221 (by decide +kernel) (by decide +kernel)
theorem tw1223 : Cond.instanceMethod ⟨"CanvasRoomModel","tells","(IIIII)V"⟩ ∈ TW := tw_in 1223 (by decide +kernel) (by decide +kernel)
theorem tw1224 : Cond.code ⟨"CanvasRoomModel","tells","(IIIII)V"⟩ prog_10_method_21_code 6 none ∈ TW := tw_in 1224 (by decide +kernel) (by decide +kernel)
theorem tw1225 : Cond.methodLink "CanvasRoomModel" 193 ⟨"CanvasRoomModel","anew","()V"⟩ ∈ TW := tw_in 1225 (by decide +kernel) (by decide +kernel)
theorem tw1227 : Cond.instanceMethod ⟨"CanvasRoomModel","anew","()V"⟩ ∈ TW := tw_in 1227 (by decide +kernel) (by decide +kernel)
theorem tw1228 : Cond.code ⟨"CanvasRoomModel","anew","()V"⟩ prog_10_method_17_code 2 none ∈ TW := tw_in 1228 (by decide +kernel) (by decide +kernel)
theorem tw1229 : Cond.methodLink "CanvasRoomModel" 187 ⟨"CanvasRoomModel","does","(I)V"⟩ ∈ TW := tw_in 1229 (by decide +kernel) (by decide +kernel)
theorem tw1231 : Cond.instanceMethod ⟨"CanvasRoomModel","does","(I)V"⟩ ∈ TW := tw_in 1231 (by decide +kernel) (by decide +kernel)
theorem tw1232 : Cond.code ⟨"CanvasRoomModel","does","(I)V"⟩ prog_10_method_16_code 3 none ∈ TW := tw_in 1232 (by decide +kernel) (by decide +kernel)
theorem tw1233 : Cond.methodLink "CanvasRoomModel" 172 ⟨"CanvasRoomModel","comes","(I)V"⟩ ∈ TW := tw_in 1233 (by decide +kernel) (by decide +kernel)
theorem tw1235 : Cond.instanceMethod ⟨"CanvasRoomModel","comes","(I)V"⟩ ∈ TW := tw_in 1235 (by decide +kernel) (by decide +kernel)
theorem tw1236 : Cond.code ⟨"CanvasRoomModel","comes","(I)V"⟩ prog_10_method_13_code 2 none ∈ TW := tw_in 1236 (by decide +kernel) (by decide +kernel)
theorem tw1237 : Cond.methodLink "CanvasRoomModel" 164 ⟨"CanvasRoomModel","freeGroup","()I"⟩ ∈ TW := tw_in 1237 (by decide +kernel) (by decide +kernel)
theorem tw1239 : Cond.instanceMethod ⟨"CanvasRoomModel","freeGroup","()I"⟩ ∈ TW := tw_in 1239 (by decide +kernel) (by decide +kernel)
theorem tw1240 : Cond.code ⟨"CanvasRoomModel","freeGroup","()I"⟩ prog_10_method_12_code 4 (some .int) ∈ TW := tw_in 1240 (by decide +kernel) (by decide +kernel)
theorem tw1241 : Cond.methodLink "CanvasRoomModel" 168 ⟨"CanvasRoomModel","putIn","(IZ)V"⟩ ∈ TW := tw_in 1241 (by decide +kernel) (by decide +kernel)
theorem tw1243 : Cond.instanceMethod ⟨"CanvasRoomModel","putIn","(IZ)V"⟩ ∈ TW := tw_in 1243 (by decide +kernel) (by decide +kernel)
theorem tw1244 : Cond.code ⟨"CanvasRoomModel","putIn","(IZ)V"⟩ prog_10_method_11_code 4 none ∈ TW := tw_in 1244 (by decide +kernel) (by decide +kernel)
theorem tw1245 : Cond.methodLink "CanvasRoomModel" 176 ⟨"CanvasRoomModel","moves","(III)V"⟩ ∈ TW := tw_in 1245 (by decide +kernel) (by decide +kernel)
theorem tw1247 : Cond.instanceMethod ⟨"CanvasRoomModel","moves","(III)V"⟩ ∈ TW := tw_in 1247 (by decide +kernel) (by decide +kernel)
theorem tw1248 : Cond.code ⟨"CanvasRoomModel","moves","(III)V"⟩ prog_10_method_14_code 5 none ∈ TW := tw_in 1248 (by decide +kernel) (by decide +kernel)
theorem tw1249 : Cond.methodLink "CanvasRoomModel" 180 ⟨"CanvasRoomModel","joins","(II)V"⟩ ∈ TW := tw_in 1249 (by decide +kernel) (by decide +kernel)
theorem tw1251 : Cond.instanceMethod ⟨"CanvasRoomModel","joins","(II)V"⟩ ∈ TW := tw_in 1251 (by decide +kernel) (by decide +kernel)
theorem tw1252 : Cond.code ⟨"CanvasRoomModel","joins","(II)V"⟩ prog_10_method_15_code 5 none ∈ TW := tw_in 1252 (by decide +kernel) (by decide +kernel)
theorem tw1253 : Cond.methodLink "CanvasRoomModel" 184 ⟨"CanvasRoomModel","takeOut","(I)V"⟩ ∈ TW := tw_in 1253 (by decide +kernel) (by decide +kernel)
theorem tw1255 : Cond.instanceMethod ⟨"CanvasRoomModel","takeOut","(I)V"⟩ ∈ TW := tw_in 1255 (by decide +kernel) (by decide +kernel)
theorem tw1256 : Cond.code ⟨"CanvasRoomModel","takeOut","(I)V"⟩ prog_10_method_10_code 4 none ∈ TW := tw_in 1256 (by decide +kernel) (by decide +kernel)
theorem tw1260 : Cond.code ⟨"CanvasRoomModel","move","(IIII)I"⟩ prog_10_method_24_code 5 (some .int) ∈ TW := tw_in 1260 (by decide +kernel) (by decide +kernel)
theorem tw1261 : Cond.methodLink "CanvasRoomModel" 203 ⟨"CanvasRoomModel","isShape","(I)Z"⟩ ∈ TW := tw_in 1261 (by decide +kernel) (by decide +kernel)
theorem tw1263 : Cond.instanceMethod ⟨"CanvasRoomModel","isShape","(I)Z"⟩ ∈ TW := tw_in 1263 (by decide +kernel) (by decide +kernel)
theorem tw1264 : Cond.code ⟨"CanvasRoomModel","isShape","(I)Z"⟩ prog_10_method_6_code 2 (some .boolean) ∈ TW := tw_in 1264 (by decide +kernel) (by decide +kernel)
theorem tw1265 : Cond.methodLink "CanvasRoomModel" 206 ⟨"CanvasRoomModel","canName","(I)Z"⟩ ∈ TW := tw_in 1265 (by decide +kernel) (by decide +kernel)
theorem tw1267 : Cond.instanceMethod ⟨"CanvasRoomModel","canName","(I)Z"⟩ ∈ TW := tw_in 1267 (by decide +kernel) (by decide +kernel)
theorem tw1268 : Cond.code ⟨"CanvasRoomModel","canName","(I)Z"⟩ prog_10_method_22_code 2 (some .boolean) ∈ TW := tw_in 1268 (by decide +kernel) (by decide +kernel)
theorem tw1269 : Cond.methodLink "CanvasRoomModel" 209 ⟨"CanvasRoomModel","inGroup","(I)I"⟩ ∈ TW := tw_in 1269 (by decide +kernel) (by decide +kernel)
theorem tw1271 : Cond.instanceMethod ⟨"CanvasRoomModel","inGroup","(I)I"⟩ ∈ TW := tw_in 1271 (by decide +kernel) (by decide +kernel)
theorem tw1272 : Cond.code ⟨"CanvasRoomModel","inGroup","(I)I"⟩ prog_10_method_20_code 4 (some .int) ∈ TW := tw_in 1272 (by decide +kernel) (by decide +kernel)
theorem tw1276 : Cond.code ⟨"CanvasRoomModel","paint","(III)I"⟩ prog_10_method_25_code 5 (some .int) ∈ TW := tw_in 1276 (by decide +kernel) (by decide +kernel)
theorem tw1280 : Cond.code ⟨"CanvasRoomModel","layer","(IIZ)I"⟩ prog_10_method_27_code 4 (some .int) ∈ TW := tw_in 1280 (by decide +kernel) (by decide +kernel)
theorem tw1281 : Cond.methodLink "CanvasRoomModel" 213 ⟨"CanvasRoomModel","names","(II)I"⟩ ∈ TW := tw_in 1281 (by decide +kernel) (by decide +kernel)
theorem tw1283 : Cond.instanceMethod ⟨"CanvasRoomModel","names","(II)I"⟩ ∈ TW := tw_in 1283 (by decide +kernel) (by decide +kernel)
theorem tw1284 : Cond.code ⟨"CanvasRoomModel","names","(II)I"⟩ prog_10_method_26_code 3 (some .int) ∈ TW := tw_in 1284 (by decide +kernel) (by decide +kernel)
theorem tw1288 : Cond.code ⟨"CanvasRoomModel","join","(III)I"⟩ prog_10_method_28_code 4 (some .int) ∈ TW := tw_in 1288 (by decide +kernel) (by decide +kernel)
theorem tw1292 : Cond.code ⟨"CanvasRoomModel","part","(II)I"⟩ prog_10_method_29_code 4 (some .int) ∈ TW := tw_in 1292 (by decide +kernel) (by decide +kernel)
theorem tw1296 : Cond.code ⟨"CanvasRoomModel","drop","(II)I"⟩ prog_10_method_30_code 3 (some .int) ∈ TW := tw_in 1296 (by decide +kernel) (by decide +kernel)
theorem tw1300 : Cond.code ⟨"CanvasRoomModel","undo","(I)I"⟩ prog_10_method_32_code 4 (some .int) ∈ TW := tw_in 1300 (by decide +kernel) (by decide +kernel)
theorem tw1301 : Cond.methodLink "CanvasRoomModel" 217 ⟨"CanvasRoomModel","holderOf","(I)I"⟩ ∈ TW := tw_in 1301 (by decide +kernel) (by decide +kernel)
theorem tw1303 : Cond.instanceMethod ⟨"CanvasRoomModel","holderOf","(I)I"⟩ ∈ TW := tw_in 1303 (by decide +kernel) (by decide +kernel)
theorem tw1304 : Cond.code ⟨"CanvasRoomModel","holderOf","(I)I"⟩ prog_10_method_31_code 4 (some .int) ∈ TW := tw_in 1304 (by decide +kernel) (by decide +kernel)
theorem tw1308 : Cond.code ⟨"CanvasRoomModel","redo","(I)I"⟩ prog_10_method_33_code 3 (some .int) ∈ TW := tw_in 1308 (by decide +kernel) (by decide +kernel)
theorem tw1312 : Cond.code ⟨"CanvasRoomModel","acts","()I"⟩ prog_10_method_34_code 1 (some .int) ∈ TW := tw_in 1312 (by decide +kernel) (by decide +kernel)
theorem tw1316 : Cond.code ⟨"CanvasRoomModel","isLive","(I)Z"⟩ prog_10_method_35_code 2 (some .boolean) ∈ TW := tw_in 1316 (by decide +kernel) (by decide +kernel)
theorem tw1317 : Cond.methodLink "CanvasRoomModel" 220 ⟨"CanvasRoomModel","isAct","(I)Z"⟩ ∈ TW := tw_in 1317 (by decide +kernel) (by decide +kernel)
theorem tw1319 : Cond.instanceMethod ⟨"CanvasRoomModel","isAct","(I)Z"⟩ ∈ TW := tw_in 1319 (by decide +kernel) (by decide +kernel)
theorem tw1320 : Cond.code ⟨"CanvasRoomModel","isAct","(I)Z"⟩ prog_10_method_7_code 2 (some .boolean) ∈ TW := tw_in 1320 (by decide +kernel) (by decide +kernel)
theorem tw1324 : Cond.code ⟨"CanvasRoomModel","holder","(I)I"⟩ prog_10_method_36_code 2 (some .int) ∈ TW := tw_in 1324 (by decide +kernel) (by decide +kernel)
theorem tw1328 : Cond.code ⟨"CanvasRoomModel","shapes","()I"⟩ prog_10_method_37_code 1 (some .int) ∈ TW := tw_in 1328 (by decide +kernel) (by decide +kernel)
theorem tw1332 : Cond.code ⟨"CanvasRoomModel","there","()J"⟩ prog_10_method_38_code 4 (some .long) ∈ TW := tw_in 1332 (by decide +kernel) (by decide +kernel)
theorem tw1336 : Cond.code ⟨"CanvasRoomModel","place","(I)I"⟩ prog_10_method_39_code 2 (some .int) ∈ TW := tw_in 1336 (by decide +kernel) (by decide +kernel)
theorem tw1340 : Cond.code ⟨"CanvasRoomModel","colour","(I)I"⟩ prog_10_method_40_code 2 (some .int) ∈ TW := tw_in 1340 (by decide +kernel) (by decide +kernel)
theorem tw1344 : Cond.code ⟨"CanvasRoomModel","above","(I)I"⟩ prog_10_method_41_code 4 (some .int) ∈ TW := tw_in 1344 (by decide +kernel) (by decide +kernel)
theorem tw1348 : Cond.code ⟨"CanvasRoomModel","group","(I)J"⟩ prog_10_method_42_code 5 (some .long) ∈ TW := tw_in 1348 (by decide +kernel) (by decide +kernel)
theorem tw1352 : Cond.code ⟨"CanvasRoomModel","seen","(II)I"⟩ prog_10_method_43_code 3 (some .int) ∈ TW := tw_in 1352 (by decide +kernel) (by decide +kernel)
theorem tw1353 : Cond.methodLink "CanvasRoomModel" 223 ⟨"CanvasRoomModel","seenAt","(II)I"⟩ ∈ TW := tw_in 1353 (by decide +kernel) (by decide +kernel)
theorem tw1355 : Cond.instanceMethod ⟨"CanvasRoomModel","seenAt","(II)I"⟩ ∈ TW := tw_in 1355 (by decide +kernel) (by decide +kernel)
theorem tw1356 : Cond.code ⟨"CanvasRoomModel","seenAt","(II)I"⟩ prog_10_method_19_code 5 (some .int) ∈ TW := tw_in 1356 (by decide +kernel) (by decide +kernel)
theorem tw1357 : Cond.methodLink "CanvasRoomModel" 190 ⟨"CanvasRoomModel","covers","(III)Z"⟩ ∈ TW := tw_in 1357 (by decide +kernel) (by decide +kernel)
theorem tw1359 : Cond.instanceMethod ⟨"CanvasRoomModel","covers","(III)Z"⟩ ∈ TW := tw_in 1359 (by decide +kernel) (by decide +kernel)
theorem tw1360 : Cond.code ⟨"CanvasRoomModel","covers","(III)Z"⟩ prog_10_method_18_code 4 (some .boolean) ∈ TW := tw_in 1360 (by decide +kernel) (by decide +kernel)
theorem tw1364 : Cond.code ⟨"CanvasRoomModel","seenAnew","(II)I"⟩ prog_10_method_44_code 3 (some .int) ∈ TW := tw_in 1364 (by decide +kernel) (by decide +kernel)
theorem tw1368 : Cond.code ⟨"CanvasRoomModel","freeze","(IIIIIII)I"⟩ prog_10_method_49_code 9 (some .int) ∈ TW := tw_in 1368 (by decide +kernel) (by decide +kernel)
theorem tw1369 : Cond.constant "CanvasRoomModel" 234 (100000 : Int32) ∈ TW := tw_in 1369 (by decide +kernel) (by decide +kernel)
theorem tw1370 : Cond.methodLink "CanvasRoomModel" 235 ⟨"CanvasRoomModel","isEmpty","(IIII)Z"⟩ ∈ TW := tw_in 1370 (by decide +kernel) (by decide +kernel)
theorem tw1372 : Cond.instanceMethod ⟨"CanvasRoomModel","isEmpty","(IIII)Z"⟩ ∈ TW := tw_in 1372 (by decide +kernel) (by decide +kernel)
theorem tw1373 : Cond.code ⟨"CanvasRoomModel","isEmpty","(IIII)Z"⟩ prog_10_method_47_code 7 (some .boolean) ∈ TW := tw_in 1373 (by decide +kernel) (by decide +kernel)
theorem tw1374 : Cond.methodLink "CanvasRoomModel" 239 ⟨"CanvasRoomModel","keeps","(I)V"⟩ ∈ TW := tw_in 1374 (by decide +kernel) (by decide +kernel)
theorem tw1376 : Cond.instanceMethod ⟨"CanvasRoomModel","keeps","(I)V"⟩ ∈ TW := tw_in 1376 (by decide +kernel) (by decide +kernel)
theorem tw1377 : Cond.code ⟨"CanvasRoomModel","keeps","(I)V"⟩ prog_10_method_48_code 4 none ∈ TW := tw_in 1377 (by decide +kernel) (by decide +kernel)
theorem tw1378 : Cond.methodLink "CanvasRoomModel" 230 ⟨"CanvasRoomModel","isViewed","(II)Z"⟩ ∈ TW := tw_in 1378 (by decide +kernel) (by decide +kernel)
theorem tw1380 : Cond.instanceMethod ⟨"CanvasRoomModel","isViewed","(II)Z"⟩ ∈ TW := tw_in 1380 (by decide +kernel) (by decide +kernel)
theorem tw1381 : Cond.code ⟨"CanvasRoomModel","isViewed","(II)Z"⟩ prog_10_method_46_code 6 (some .boolean) ∈ TW := tw_in 1381 (by decide +kernel) (by decide +kernel)
theorem tw1382 : Cond.methodLink "CanvasRoomModel" 226 ⟨"CanvasRoomModel","viewedAt","(III)I"⟩ ∈ TW := tw_in 1382 (by decide +kernel) (by decide +kernel)
theorem tw1384 : Cond.instanceMethod ⟨"CanvasRoomModel","viewedAt","(III)I"⟩ ∈ TW := tw_in 1384 (by decide +kernel) (by decide +kernel)
theorem tw1385 : Cond.code ⟨"CanvasRoomModel","viewedAt","(III)I"⟩ prog_10_method_45_code 9 (some .int) ∈ TW := tw_in 1385 (by decide +kernel) (by decide +kernel)
theorem tw1389 : Cond.code ⟨"CanvasRoomModel","withdraw","(I)I"⟩ prog_10_method_50_code 4 (some .int) ∈ TW := tw_in 1389 (by decide +kernel) (by decide +kernel)
theorem tw1390 : Cond.methodLink "CanvasRoomModel" 157 ⟨"CanvasRoomModel","isEdition","(I)Z"⟩ ∈ TW := tw_in 1390 (by decide +kernel) (by decide +kernel)
theorem tw1392 : Cond.instanceMethod ⟨"CanvasRoomModel","isEdition","(I)Z"⟩ ∈ TW := tw_in 1392 (by decide +kernel) (by decide +kernel)
theorem tw1393 : Cond.code ⟨"CanvasRoomModel","isEdition","(I)Z"⟩ prog_10_method_8_code 2 (some .boolean) ∈ TW := tw_in 1393 (by decide +kernel) (by decide +kernel)
theorem tw1397 : Cond.code ⟨"CanvasRoomModel","viewed","(III)I"⟩ prog_10_method_51_code 7 (some .int) ∈ TW := tw_in 1397 (by decide +kernel) (by decide +kernel)
theorem tw1401 : Cond.code ⟨"CanvasRoomModel","area","(II)I"⟩ prog_10_method_52_code 3 (some .int) ∈ TW := tw_in 1401 (by decide +kernel) (by decide +kernel)
theorem tw1405 : Cond.code ⟨"CanvasRoomModel","sell","(II)I"⟩ prog_10_method_55_code 4 (some .int) ∈ TW := tw_in 1405 (by decide +kernel) (by decide +kernel)
theorem tw1406 : Cond.methodLink "CanvasRoomModel" 242 ⟨"CanvasRoomModel","isBuyer","(I)Z"⟩ ∈ TW := tw_in 1406 (by decide +kernel) (by decide +kernel)
theorem tw1407 : Cond.static ⟨"CanvasRoomModel","isBuyer","(I)Z"⟩ ∈ TW := tw_in 1407 (by decide +kernel) (by decide +kernel)
theorem tw1408 : Cond.code ⟨"CanvasRoomModel","isBuyer","(I)Z"⟩ prog_10_method_5_code 1 (some .boolean) ∈ TW := tw_in 1408 (by decide +kernel) (by decide +kernel)
theorem tw1409 : Cond.methodLink "CanvasRoomModel" 245 ⟨"CanvasRoomModel","sells","(III)V"⟩ ∈ TW := tw_in 1409 (by decide +kernel) (by decide +kernel)
theorem tw1411 : Cond.instanceMethod ⟨"CanvasRoomModel","sells","(III)V"⟩ ∈ TW := tw_in 1411 (by decide +kernel) (by decide +kernel)
theorem tw1412 : Cond.code ⟨"CanvasRoomModel","sells","(III)V"⟩ prog_10_method_54_code 4 none ∈ TW := tw_in 1412 (by decide +kernel) (by decide +kernel)
theorem tw1413 : Cond.methodLink "CanvasRoomModel" 251 ⟨"CanvasRoomModel","shares","(II)V"⟩ ∈ TW := tw_in 1413 (by decide +kernel) (by decide +kernel)
theorem tw1415 : Cond.instanceMethod ⟨"CanvasRoomModel","shares","(II)V"⟩ ∈ TW := tw_in 1415 (by decide +kernel) (by decide +kernel)
theorem tw1416 : Cond.code ⟨"CanvasRoomModel","shares","(II)V"⟩ prog_10_method_53_code 7 none ∈ TW := tw_in 1416 (by decide +kernel) (by decide +kernel)
theorem tw1420 : Cond.code ⟨"CanvasRoomModel","resell","(IIII)I"⟩ prog_10_method_56_code 6 (some .int) ∈ TW := tw_in 1420 (by decide +kernel) (by decide +kernel)
theorem tw1421 : Cond.methodLink "CanvasRoomModel" 254 ⟨"CanvasRoomModel","isCopy","(II)Z"⟩ ∈ TW := tw_in 1421 (by decide +kernel) (by decide +kernel)
theorem tw1423 : Cond.instanceMethod ⟨"CanvasRoomModel","isCopy","(II)Z"⟩ ∈ TW := tw_in 1423 (by decide +kernel) (by decide +kernel)
theorem tw1424 : Cond.code ⟨"CanvasRoomModel","isCopy","(II)Z"⟩ prog_10_method_9_code 3 (some .boolean) ∈ TW := tw_in 1424 (by decide +kernel) (by decide +kernel)
theorem tw1428 : Cond.code ⟨"CanvasRoomModel","takeDown","(I)I"⟩ prog_10_method_57_code 4 (some .int) ∈ TW := tw_in 1428 (by decide +kernel) (by decide +kernel)
theorem tw1432 : Cond.code ⟨"CanvasRoomModel","accept","(II)I"⟩ prog_10_method_59_code 3 (some .int) ∈ TW := tw_in 1432 (by decide +kernel) (by decide +kernel)
theorem tw1433 : Cond.methodLink "CanvasRoomModel" 257 ⟨"CanvasRoomModel","changed","(II)I"⟩ ∈ TW := tw_in 1433 (by decide +kernel) (by decide +kernel)
theorem tw1435 : Cond.instanceMethod ⟨"CanvasRoomModel","changed","(II)I"⟩ ∈ TW := tw_in 1435 (by decide +kernel) (by decide +kernel)
theorem tw1436 : Cond.code ⟨"CanvasRoomModel","changed","(II)I"⟩ prog_10_method_58_code 3 (some .int) ∈ TW := tw_in 1436 (by decide +kernel) (by decide +kernel)
theorem tw1440 : Cond.code ⟨"CanvasRoomModel","giveBack","(II)I"⟩ prog_10_method_60_code 4 (some .int) ∈ TW := tw_in 1440 (by decide +kernel) (by decide +kernel)
theorem tw1444 : Cond.code ⟨"CanvasRoomModel","copyState","(II)I"⟩ prog_10_method_61_code 3 (some .int) ∈ TW := tw_in 1444 (by decide +kernel) (by decide +kernel)
theorem tw1448 : Cond.code ⟨"CanvasRoomModel","owner","(II)I"⟩ prog_10_method_62_code 4 (some .int) ∈ TW := tw_in 1448 (by decide +kernel) (by decide +kernel)
theorem tw1452 : Cond.code ⟨"CanvasRoomModel","money","(I)I"⟩ prog_10_method_63_code 2 (some .int) ∈ TW := tw_in 1452 (by decide +kernel) (by decide +kernel)
theorem tw1456 : Cond.code ⟨"CanvasRoomModel","moneyAnew","(I)I"⟩ prog_10_method_64_code 2 (some .int) ∈ TW := tw_in 1456 (by decide +kernel) (by decide +kernel)
theorem tw1460 : Cond.code ⟨"CanvasRoomModel","purse","(I)I"⟩ prog_10_method_65_code 2 (some .int) ∈ TW := tw_in 1460 (by decide +kernel) (by decide +kernel)
theorem tw1464 : Cond.code ⟨"CanvasRoomModel","house","()I"⟩ prog_10_method_66_code 1 (some .int) ∈ TW := tw_in 1464 (by decide +kernel) (by decide +kernel)
theorem rg_X8_X8_thrown {X : gCx} {cc : ByteArray} {ret : Option FieldType} {rm : Room} {mc ms pc a : Nat} {loc : List (Nat × Value)} {stk : List Value} {h : GH} {o : FO} (C : gC X cc RX8 ret rm) (hd : decode cc pc = .ok (.getfield 140, 3)) (hg : h a = some (9, o)) (kk : gX X mc ms (pc + 3) loc (.int (fI o 0) :: stk) h) : gX X mc ms pc loc (.ref a :: stk) h := r_get (k := 0) (ref := "CanvasRoomModel") C gcl_9 hd rfl tw1059 rfl hg rfl kk
theorem rg_X8_X8_shapes {X : gCx} {cc : ByteArray} {ret : Option FieldType} {rm : Room} {mc ms pc a : Nat} {loc : List (Nat × Value)} {stk : List Value} {h : GH} {o : FO} (C : gC X cc RX8 ret rm) (hd : decode cc pc = .ok (.getfield 148, 3)) (hg : h a = some (9, o)) (kk : gX X mc ms (pc + 3) loc (.int (fI o 10) :: stk) h) : gX X mc ms pc loc (.ref a :: stk) h := r_get (k := 10) (ref := "CanvasRoomModel") C gcl_9 hd rfl tw1069 rfl hg rfl kk
theorem rg_X8_X8_acts {X : gCx} {cc : ByteArray} {ret : Option FieldType} {rm : Room} {mc ms pc a : Nat} {loc : List (Nat × Value)} {stk : List Value} {h : GH} {o : FO} (C : gC X cc RX8 ret rm) (hd : decode cc pc = .ok (.getfield 151, 3)) (hg : h a = some (9, o)) (kk : gX X mc ms (pc + 3) loc (.int (fI o 1) :: stk) h) : gX X mc ms pc loc (.ref a :: stk) h := r_get (k := 1) (ref := "CanvasRoomModel") C gcl_9 hd rfl tw1060 rfl hg rfl kk
theorem rg_X8_X8_editions {X : gCx} {cc : ByteArray} {ret : Option FieldType} {rm : Room} {mc ms pc a : Nat} {loc : List (Nat × Value)} {stk : List Value} {h : GH} {o : FO} (C : gC X cc RX8 ret rm) (hd : decode cc pc = .ok (.getfield 154, 3)) (hg : h a = some (9, o)) (kk : gX X mc ms (pc + 3) loc (.int (fI o 25) :: stk) h) : gX X mc ms pc loc (.ref a :: stk) h := r_get (k := 25) (ref := "CanvasRoomModel") C gcl_9 hd rfl tw1084 rfl hg rfl kk
theorem rg_X8_X8_copies {X : gCx} {cc : ByteArray} {ret : Option FieldType} {rm : Room} {mc ms pc a : Nat} {loc : List (Nat × Value)} {stk : List Value} {h : GH} {o : FO} (C : gC X cc RX8 ret rm) (hd : decode cc pc = .ok (.getfield 89, 3)) (hg : h a = some (9, o)) (kk : gX X mc ms (pc + 3) loc (.ref (a + 27) :: stk) h) : gX X mc ms pc loc (.ref a :: stk) h := r_get (k := 31) (ref := "CanvasRoomModel") C gcl_9 hd rfl tw1090 rfl hg rfl kk
theorem rg_X8_X8_many {X : gCx} {cc : ByteArray} {ret : Option FieldType} {rm : Room} {mc ms pc a : Nat} {loc : List (Nat × Value)} {stk : List Value} {h : GH} {o : FO} (C : gC X cc RX8 ret rm) (hd : decode cc pc = .ok (.getfield 161, 3)) (hg : h a = some (9, o)) (kk : gX X mc ms (pc + 3) loc (.int (fI o 18) :: stk) h) : gX X mc ms pc loc (.ref a :: stk) h := r_get (k := 18) (ref := "CanvasRoomModel") C gcl_9 hd rfl tw1077 rfl hg rfl kk
theorem rp_X8_X8_many {X : gCx} {cc : ByteArray} {ret : Option FieldType} {rm : Room} {mc ms pc a : Nat} {loc : List (Nat × Value)} {stk : List Value} {h : GH} {o : FO} (C : gC X cc RX8 ret rm) {x : Int32} {o1 : FO} {h1 : GH} (hd : decode cc pc = .ok (.putfield 161, 3)) (hg : h a = some (9, o)) (ho : o1 = sI o 18 x) (hh : h1 = hu h a (9, o1)) (kk : gX X mc ms (pc + 3) loc stk h1) : gX X mc ms pc loc (.int x :: .ref a :: stk) h := r_putI (k := 18) (ref := "CanvasRoomModel") C gcl_9 hd rfl tw1077 rfl (Or.inl rfl) (vp_nar_int _) rfl hg ho hh kk
theorem rg_X8_X8_order {X : gCx} {cc : ByteArray} {ret : Option FieldType} {rm : Room} {mc ms pc a : Nat} {loc : List (Nat × Value)} {stk : List Value} {h : GH} {o : FO} (C : gC X cc RX8 ret rm) (hd : decode cc pc = .ok (.getfield 56, 3)) (hg : h a = some (9, o)) (kk : gX X mc ms (pc + 3) loc (.ref (a + 16) :: stk) h) : gX X mc ms pc loc (.ref a :: stk) h := r_get (k := 19) (ref := "CanvasRoomModel") C gcl_9 hd rfl tw1078 rfl hg rfl kk
theorem rg_X8_X8_isThere {X : gCx} {cc : ByteArray} {ret : Option FieldType} {rm : Room} {mc ms pc a : Nat} {loc : List (Nat × Value)} {stk : List Value} {h : GH} {o : FO} (C : gC X cc RX8 ret rm) (hd : decode cc pc = .ok (.getfield 59, 3)) (hg : h a = some (9, o)) (kk : gX X mc ms (pc + 3) loc (.ref (a + 17) :: stk) h) : gX X mc ms pc loc (.ref a :: stk) h := r_get (k := 20) (ref := "CanvasRoomModel") C gcl_9 hd rfl tw1079 rfl hg rfl kk
theorem rg_X8_X8_group {X : gCx} {cc : ByteArray} {ret : Option FieldType} {rm : Room} {mc ms pc a : Nat} {loc : List (Nat × Value)} {stk : List Value} {h : GH} {o : FO} (C : gC X cc RX8 ret rm) (hd : decode cc pc = .ok (.getfield 71, 3)) (hg : h a = some (9, o)) (kk : gX X mc ms (pc + 3) loc (.ref (a + 21) :: stk) h) : gX X mc ms pc loc (.ref a :: stk) h := r_get (k := 24) (ref := "CanvasRoomModel") C gcl_9 hd rfl tw1083 rfl hg rfl kk
theorem rg_X8_X8_column {X : gCx} {cc : ByteArray} {ret : Option FieldType} {rm : Room} {mc ms pc a : Nat} {loc : List (Nat × Value)} {stk : List Value} {h : GH} {o : FO} (C : gC X cc RX8 ret rm) (hd : decode cc pc = .ok (.getfield 62, 3)) (hg : h a = some (9, o)) (kk : gX X mc ms (pc + 3) loc (.ref (a + 18) :: stk) h) : gX X mc ms pc loc (.ref a :: stk) h := r_get (k := 21) (ref := "CanvasRoomModel") C gcl_9 hd rfl tw1080 rfl hg rfl kk
theorem rg_X8_X8_firstColumn {X : gCx} {cc : ByteArray} {ret : Option FieldType} {rm : Room} {mc ms pc a : Nat} {loc : List (Nat × Value)} {stk : List Value} {h : GH} {o : FO} (C : gC X cc RX8 ret rm) (hd : decode cc pc = .ok (.getfield 44, 3)) (hg : h a = some (9, o)) (kk : gX X mc ms (pc + 3) loc (.ref (a + 12) :: stk) h) : gX X mc ms pc loc (.ref a :: stk) h := r_get (k := 14) (ref := "CanvasRoomModel") C gcl_9 hd rfl tw1073 rfl hg rfl kk
theorem rg_X8_X8_row {X : gCx} {cc : ByteArray} {ret : Option FieldType} {rm : Room} {mc ms pc a : Nat} {loc : List (Nat × Value)} {stk : List Value} {h : GH} {o : FO} (C : gC X cc RX8 ret rm) (hd : decode cc pc = .ok (.getfield 65, 3)) (hg : h a = some (9, o)) (kk : gX X mc ms (pc + 3) loc (.ref (a + 19) :: stk) h) : gX X mc ms pc loc (.ref a :: stk) h := r_get (k := 22) (ref := "CanvasRoomModel") C gcl_9 hd rfl tw1081 rfl hg rfl kk
theorem rg_X8_X8_firstRow {X : gCx} {cc : ByteArray} {ret : Option FieldType} {rm : Room} {mc ms pc a : Nat} {loc : List (Nat × Value)} {stk : List Value} {h : GH} {o : FO} (C : gC X cc RX8 ret rm) (hd : decode cc pc = .ok (.getfield 47, 3)) (hg : h a = some (9, o)) (kk : gX X mc ms (pc + 3) loc (.ref (a + 13) :: stk) h) : gX X mc ms pc loc (.ref a :: stk) h := r_get (k := 15) (ref := "CanvasRoomModel") C gcl_9 hd rfl tw1074 rfl hg rfl kk
theorem rg_X8_X8_colour {X : gCx} {cc : ByteArray} {ret : Option FieldType} {rm : Room} {mc ms pc a : Nat} {loc : List (Nat × Value)} {stk : List Value} {h : GH} {o : FO} (C : gC X cc RX8 ret rm) (hd : decode cc pc = .ok (.getfield 68, 3)) (hg : h a = some (9, o)) (kk : gX X mc ms (pc + 3) loc (.ref (a + 20) :: stk) h) : gX X mc ms pc loc (.ref a :: stk) h := r_get (k := 23) (ref := "CanvasRoomModel") C gcl_9 hd rfl tw1082 rfl hg rfl kk
theorem rg_X8_X8_firstColour {X : gCx} {cc : ByteArray} {ret : Option FieldType} {rm : Room} {mc ms pc a : Nat} {loc : List (Nat × Value)} {stk : List Value} {h : GH} {o : FO} (C : gC X cc RX8 ret rm) (hd : decode cc pc = .ok (.getfield 50, 3)) (hg : h a = some (9, o)) (kk : gX X mc ms (pc + 3) loc (.ref (a + 14) :: stk) h) : gX X mc ms pc loc (.ref a :: stk) h := r_get (k := 16) (ref := "CanvasRoomModel") C gcl_9 hd rfl tw1075 rfl hg rfl kk
theorem rg_X8_X8_shape {X : gCx} {cc : ByteArray} {ret : Option FieldType} {rm : Room} {mc ms pc a : Nat} {loc : List (Nat × Value)} {stk : List Value} {h : GH} {o : FO} (C : gC X cc RX8 ret rm) (hd : decode cc pc = .ok (.getfield 16, 3)) (hg : h a = some (9, o)) (kk : gX X mc ms (pc + 3) loc (.ref (a + 3) :: stk) h) : gX X mc ms pc loc (.ref a :: stk) h := r_get (k := 4) (ref := "CanvasRoomModel") C gcl_9 hd rfl tw1063 rfl hg rfl kk
theorem rg_X8_X8_kind {X : gCx} {cc : ByteArray} {ret : Option FieldType} {rm : Room} {mc ms pc a : Nat} {loc : List (Nat × Value)} {stk : List Value} {h : GH} {o : FO} (C : gC X cc RX8 ret rm) (hd : decode cc pc = .ok (.getfield 7, 3)) (hg : h a = some (9, o)) (kk : gX X mc ms (pc + 3) loc (.ref (a + 1) :: stk) h) : gX X mc ms pc loc (.ref a :: stk) h := r_get (k := 2) (ref := "CanvasRoomModel") C gcl_9 hd rfl tw1061 rfl hg rfl kk
theorem rg_X8_X8_first {X : gCx} {cc : ByteArray} {ret : Option FieldType} {rm : Room} {mc ms pc a : Nat} {loc : List (Nat × Value)} {stk : List Value} {h : GH} {o : FO} (C : gC X cc RX8 ret rm) (hd : decode cc pc = .ok (.getfield 19, 3)) (hg : h a = some (9, o)) (kk : gX X mc ms (pc + 3) loc (.ref (a + 4) :: stk) h) : gX X mc ms pc loc (.ref a :: stk) h := r_get (k := 5) (ref := "CanvasRoomModel") C gcl_9 hd rfl tw1064 rfl hg rfl kk
theorem rg_X8_X8_second {X : gCx} {cc : ByteArray} {ret : Option FieldType} {rm : Room} {mc ms pc a : Nat} {loc : List (Nat × Value)} {stk : List Value} {h : GH} {o : FO} (C : gC X cc RX8 ret rm) (hd : decode cc pc = .ok (.getfield 22, 3)) (hg : h a = some (9, o)) (kk : gX X mc ms (pc + 3) loc (.ref (a + 5) :: stk) h) : gX X mc ms pc loc (.ref a :: stk) h := r_get (k := 6) (ref := "CanvasRoomModel") C gcl_9 hd rfl tw1065 rfl hg rfl kk
theorem rg_X8_X8_isLive {X : gCx} {cc : ByteArray} {ret : Option FieldType} {rm : Room} {mc ms pc a : Nat} {loc : List (Nat × Value)} {stk : List Value} {h : GH} {o : FO} (C : gC X cc RX8 ret rm) (hd : decode cc pc = .ok (.getfield 25, 3)) (hg : h a = some (9, o)) (kk : gX X mc ms (pc + 3) loc (.ref (a + 6) :: stk) h) : gX X mc ms pc loc (.ref a :: stk) h := r_get (k := 7) (ref := "CanvasRoomModel") C gcl_9 hd rfl tw1066 rfl hg rfl kk
theorem rg_X8_X8_width {X : gCx} {cc : ByteArray} {ret : Option FieldType} {rm : Room} {mc ms pc a : Nat} {loc : List (Nat × Value)} {stk : List Value} {h : GH} {o : FO} (C : gC X cc RX8 ret rm) (hd : decode cc pc = .ok (.getfield 38, 3)) (hg : h a = some (9, o)) (kk : gX X mc ms (pc + 3) loc (.ref (a + 10) :: stk) h) : gX X mc ms pc loc (.ref a :: stk) h := r_get (k := 12) (ref := "CanvasRoomModel") C gcl_9 hd rfl tw1071 rfl hg rfl kk
theorem rg_X8_X8_height {X : gCx} {cc : ByteArray} {ret : Option FieldType} {rm : Room} {mc ms pc a : Nat} {loc : List (Nat × Value)} {stk : List Value} {h : GH} {o : FO} (C : gC X cc RX8 ret rm) (hd : decode cc pc = .ok (.getfield 41, 3)) (hg : h a = some (9, o)) (kk : gX X mc ms (pc + 3) loc (.ref (a + 11) :: stk) h) : gX X mc ms pc loc (.ref a :: stk) h := r_get (k := 13) (ref := "CanvasRoomModel") C gcl_9 hd rfl tw1072 rfl hg rfl kk
theorem rg_X8_X8_isDown {X : gCx} {cc : ByteArray} {ret : Option FieldType} {rm : Room} {mc ms pc a : Nat} {loc : List (Nat × Value)} {stk : List Value} {h : GH} {o : FO} (C : gC X cc RX8 ret rm) (hd : decode cc pc = .ok (.getfield 53, 3)) (hg : h a = some (9, o)) (kk : gX X mc ms (pc + 3) loc (.ref (a + 15) :: stk) h) : gX X mc ms pc loc (.ref a :: stk) h := r_get (k := 17) (ref := "CanvasRoomModel") C gcl_9 hd rfl tw1076 rfl hg rfl kk
theorem rg_X8_X8_hand {X : gCx} {cc : ByteArray} {ret : Option FieldType} {rm : Room} {mc ms pc a : Nat} {loc : List (Nat × Value)} {stk : List Value} {h : GH} {o : FO} (C : gC X cc RX8 ret rm) (hd : decode cc pc = .ok (.getfield 13, 3)) (hg : h a = some (9, o)) (kk : gX X mc ms (pc + 3) loc (.ref (a + 2) :: stk) h) : gX X mc ms pc loc (.ref a :: stk) h := r_get (k := 3) (ref := "CanvasRoomModel") C gcl_9 hd rfl tw1062 rfl hg rfl kk
theorem rg_X8_X8_undoings {X : gCx} {cc : ByteArray} {ret : Option FieldType} {rm : Room} {mc ms pc a : Nat} {loc : List (Nat × Value)} {stk : List Value} {h : GH} {o : FO} (C : gC X cc RX8 ret rm) (hd : decode cc pc = .ok (.getfield 32, 3)) (hg : h a = some (9, o)) (kk : gX X mc ms (pc + 3) loc (.ref (a + 8) :: stk) h) : gX X mc ms pc loc (.ref a :: stk) h := r_get (k := 9) (ref := "CanvasRoomModel") C gcl_9 hd rfl tw1068 rfl hg rfl kk
theorem rp_X8_X8_acts {X : gCx} {cc : ByteArray} {ret : Option FieldType} {rm : Room} {mc ms pc a : Nat} {loc : List (Nat × Value)} {stk : List Value} {h : GH} {o : FO} (C : gC X cc RX8 ret rm) {x : Int32} {o1 : FO} {h1 : GH} (hd : decode cc pc = .ok (.putfield 151, 3)) (hg : h a = some (9, o)) (ho : o1 = sI o 1 x) (hh : h1 = hu h a (9, o1)) (kk : gX X mc ms (pc + 3) loc stk h1) : gX X mc ms pc loc (.int x :: .ref a :: stk) h := r_putI (k := 1) (ref := "CanvasRoomModel") C gcl_9 hd rfl tw1060 rfl (Or.inl rfl) (vp_nar_int _) rfl hg ho hh kk
theorem rp_X8_X8_thrown {X : gCx} {cc : ByteArray} {ret : Option FieldType} {rm : Room} {mc ms pc a : Nat} {loc : List (Nat × Value)} {stk : List Value} {h : GH} {o : FO} (C : gC X cc RX8 ret rm) {x : Int32} {o1 : FO} {h1 : GH} (hd : decode cc pc = .ok (.putfield 140, 3)) (hg : h a = some (9, o)) (ho : o1 = sI o 0 x) (hh : h1 = hu h a (9, o1)) (kk : gX X mc ms (pc + 3) loc stk h1) : gX X mc ms pc loc (.int x :: .ref a :: stk) h := r_putI (k := 0) (ref := "CanvasRoomModel") C gcl_9 hd rfl tw1059 rfl (Or.inl rfl) (vp_nar_int _) rfl hg ho hh kk
theorem rg_X8_X8_maker {X : gCx} {cc : ByteArray} {ret : Option FieldType} {rm : Room} {mc ms pc a : Nat} {loc : List (Nat × Value)} {stk : List Value} {h : GH} {o : FO} (C : gC X cc RX8 ret rm) (hd : decode cc pc = .ok (.getfield 35, 3)) (hg : h a = some (9, o)) (kk : gX X mc ms (pc + 3) loc (.ref (a + 9) :: stk) h) : gX X mc ms pc loc (.ref a :: stk) h := r_get (k := 11) (ref := "CanvasRoomModel") C gcl_9 hd rfl tw1070 rfl hg rfl kk
theorem rp_X8_X8_shapes {X : gCx} {cc : ByteArray} {ret : Option FieldType} {rm : Room} {mc ms pc a : Nat} {loc : List (Nat × Value)} {stk : List Value} {h : GH} {o : FO} (C : gC X cc RX8 ret rm) {x : Int32} {o1 : FO} {h1 : GH} (hd : decode cc pc = .ok (.putfield 148, 3)) (hg : h a = some (9, o)) (ho : o1 = sI o 10 x) (hh : h1 = hu h a (9, o1)) (kk : gX X mc ms (pc + 3) loc stk h1) : gX X mc ms pc loc (.int x :: .ref a :: stk) h := r_putI (k := 10) (ref := "CanvasRoomModel") C gcl_9 hd rfl tw1069 rfl (Or.inl rfl) (vp_nar_int _) rfl hg ho hh kk
theorem rg_X8_X8_holds {X : gCx} {cc : ByteArray} {ret : Option FieldType} {rm : Room} {mc ms pc a : Nat} {loc : List (Nat × Value)} {stk : List Value} {h : GH} {o : FO} (C : gC X cc RX8 ret rm) (hd : decode cc pc = .ok (.getfield 104, 3)) (hg : h a = some (9, o)) (kk : gX X mc ms (pc + 3) loc (.ref (a + 32) :: stk) h) : gX X mc ms pc loc (.ref a :: stk) h := r_get (k := 36) (ref := "CanvasRoomModel") C gcl_9 hd rfl tw1095 rfl hg rfl kk
theorem rg_X8_X8_undone {X : gCx} {cc : ByteArray} {ret : Option FieldType} {rm : Room} {mc ms pc a : Nat} {loc : List (Nat × Value)} {stk : List Value} {h : GH} {o : FO} (C : gC X cc RX8 ret rm) (hd : decode cc pc = .ok (.getfield 29, 3)) (hg : h a = some (9, o)) (kk : gX X mc ms (pc + 3) loc (.ref (a + 7) :: stk) h) : gX X mc ms pc loc (.ref a :: stk) h := r_get (k := 8) (ref := "CanvasRoomModel") C gcl_9 hd rfl tw1067 rfl hg rfl kk
theorem rg_X8_X8_kept {X : gCx} {cc : ByteArray} {ret : Option FieldType} {rm : Room} {mc ms pc a : Nat} {loc : List (Nat × Value)} {stk : List Value} {h : GH} {o : FO} (C : gC X cc RX8 ret rm) (hd : decode cc pc = .ok (.getfield 107, 3)) (hg : h a = some (9, o)) (kk : gX X mc ms (pc + 3) loc (.ref (a + 33) :: stk) h) : gX X mc ms pc loc (.ref a :: stk) h := r_get (k := 37) (ref := "CanvasRoomModel") C gcl_9 hd rfl tw1096 rfl hg rfl kk
theorem rg_X8_X8_keptShape {X : gCx} {cc : ByteArray} {ret : Option FieldType} {rm : Room} {mc ms pc a : Nat} {loc : List (Nat × Value)} {stk : List Value} {h : GH} {o : FO} (C : gC X cc RX8 ret rm) (hd : decode cc pc = .ok (.getfield 110, 3)) (hg : h a = some (9, o)) (kk : gX X mc ms (pc + 3) loc (.ref (a + 34) :: stk) h) : gX X mc ms pc loc (.ref a :: stk) h := r_get (k := 38) (ref := "CanvasRoomModel") C gcl_9 hd rfl tw1097 rfl hg rfl kk
theorem rg_X8_X8_keptColumn {X : gCx} {cc : ByteArray} {ret : Option FieldType} {rm : Room} {mc ms pc a : Nat} {loc : List (Nat × Value)} {stk : List Value} {h : GH} {o : FO} (C : gC X cc RX8 ret rm) (hd : decode cc pc = .ok (.getfield 113, 3)) (hg : h a = some (9, o)) (kk : gX X mc ms (pc + 3) loc (.ref (a + 35) :: stk) h) : gX X mc ms pc loc (.ref a :: stk) h := r_get (k := 39) (ref := "CanvasRoomModel") C gcl_9 hd rfl tw1098 rfl hg rfl kk
theorem rg_X8_X8_keptRow {X : gCx} {cc : ByteArray} {ret : Option FieldType} {rm : Room} {mc ms pc a : Nat} {loc : List (Nat × Value)} {stk : List Value} {h : GH} {o : FO} (C : gC X cc RX8 ret rm) (hd : decode cc pc = .ok (.getfield 116, 3)) (hg : h a = some (9, o)) (kk : gX X mc ms (pc + 3) loc (.ref (a + 36) :: stk) h) : gX X mc ms pc loc (.ref a :: stk) h := r_get (k := 40) (ref := "CanvasRoomModel") C gcl_9 hd rfl tw1099 rfl hg rfl kk
theorem rg_X8_X8_viewWidth {X : gCx} {cc : ByteArray} {ret : Option FieldType} {rm : Room} {mc ms pc a : Nat} {loc : List (Nat × Value)} {stk : List Value} {h : GH} {o : FO} (C : gC X cc RX8 ret rm) (hd : decode cc pc = .ok (.getfield 83, 3)) (hg : h a = some (9, o)) (kk : gX X mc ms (pc + 3) loc (.ref (a + 25) :: stk) h) : gX X mc ms pc loc (.ref a :: stk) h := r_get (k := 29) (ref := "CanvasRoomModel") C gcl_9 hd rfl tw1088 rfl hg rfl kk
theorem rg_X8_X8_viewHeight {X : gCx} {cc : ByteArray} {ret : Option FieldType} {rm : Room} {mc ms pc a : Nat} {loc : List (Nat × Value)} {stk : List Value} {h : GH} {o : FO} (C : gC X cc RX8 ret rm) (hd : decode cc pc = .ok (.getfield 86, 3)) (hg : h a = some (9, o)) (kk : gX X mc ms (pc + 3) loc (.ref (a + 26) :: stk) h) : gX X mc ms pc loc (.ref a :: stk) h := r_get (k := 30) (ref := "CanvasRoomModel") C gcl_9 hd rfl tw1089 rfl hg rfl kk
theorem rg_X8_X8_viewColumn {X : gCx} {cc : ByteArray} {ret : Option FieldType} {rm : Room} {mc ms pc a : Nat} {loc : List (Nat × Value)} {stk : List Value} {h : GH} {o : FO} (C : gC X cc RX8 ret rm) (hd : decode cc pc = .ok (.getfield 77, 3)) (hg : h a = some (9, o)) (kk : gX X mc ms (pc + 3) loc (.ref (a + 23) :: stk) h) : gX X mc ms pc loc (.ref a :: stk) h := r_get (k := 27) (ref := "CanvasRoomModel") C gcl_9 hd rfl tw1086 rfl hg rfl kk
theorem rg_X8_X8_viewRow {X : gCx} {cc : ByteArray} {ret : Option FieldType} {rm : Room} {mc ms pc a : Nat} {loc : List (Nat × Value)} {stk : List Value} {h : GH} {o : FO} (C : gC X cc RX8 ret rm) (hd : decode cc pc = .ok (.getfield 80, 3)) (hg : h a = some (9, o)) (kk : gX X mc ms (pc + 3) loc (.ref (a + 24) :: stk) h) : gX X mc ms pc loc (.ref a :: stk) h := r_get (k := 28) (ref := "CanvasRoomModel") C gcl_9 hd rfl tw1087 rfl hg rfl kk
theorem rg_X8_X8_keptColour {X : gCx} {cc : ByteArray} {ret : Option FieldType} {rm : Room} {mc ms pc a : Nat} {loc : List (Nat × Value)} {stk : List Value} {h : GH} {o : FO} (C : gC X cc RX8 ret rm) (hd : decode cc pc = .ok (.getfield 119, 3)) (hg : h a = some (9, o)) (kk : gX X mc ms (pc + 3) loc (.ref (a + 37) :: stk) h) : gX X mc ms pc loc (.ref a :: stk) h := r_get (k := 41) (ref := "CanvasRoomModel") C gcl_9 hd rfl tw1100 rfl hg rfl kk
theorem rg_X8_X8_area {X : gCx} {cc : ByteArray} {ret : Option FieldType} {rm : Room} {mc ms pc a : Nat} {loc : List (Nat × Value)} {stk : List Value} {h : GH} {o : FO} (C : gC X cc RX8 ret rm) (hd : decode cc pc = .ok (.getfield 101, 3)) (hg : h a = some (9, o)) (kk : gX X mc ms (pc + 3) loc (.ref (a + 31) :: stk) h) : gX X mc ms pc loc (.ref a :: stk) h := r_get (k := 35) (ref := "CanvasRoomModel") C gcl_9 hd rfl tw1094 rfl hg rfl kk
theorem rg_X8_X8_freezer {X : gCx} {cc : ByteArray} {ret : Option FieldType} {rm : Room} {mc ms pc a : Nat} {loc : List (Nat × Value)} {stk : List Value} {h : GH} {o : FO} (C : gC X cc RX8 ret rm) (hd : decode cc pc = .ok (.getfield 74, 3)) (hg : h a = some (9, o)) (kk : gX X mc ms (pc + 3) loc (.ref (a + 22) :: stk) h) : gX X mc ms pc loc (.ref a :: stk) h := r_get (k := 26) (ref := "CanvasRoomModel") C gcl_9 hd rfl tw1085 rfl hg rfl kk
theorem rg_X8_X8_price {X : gCx} {cc : ByteArray} {ret : Option FieldType} {rm : Room} {mc ms pc a : Nat} {loc : List (Nat × Value)} {stk : List Value} {h : GH} {o : FO} (C : gC X cc RX8 ret rm) (hd : decode cc pc = .ok (.getfield 92, 3)) (hg : h a = some (9, o)) (kk : gX X mc ms (pc + 3) loc (.ref (a + 28) :: stk) h) : gX X mc ms pc loc (.ref a :: stk) h := r_get (k := 32) (ref := "CanvasRoomModel") C gcl_9 hd rfl tw1091 rfl hg rfl kk
theorem rp_X8_X8_editions {X : gCx} {cc : ByteArray} {ret : Option FieldType} {rm : Room} {mc ms pc a : Nat} {loc : List (Nat × Value)} {stk : List Value} {h : GH} {o : FO} (C : gC X cc RX8 ret rm) {x : Int32} {o1 : FO} {h1 : GH} (hd : decode cc pc = .ok (.putfield 154, 3)) (hg : h a = some (9, o)) (ho : o1 = sI o 25 x) (hh : h1 = hu h a (9, o1)) (kk : gX X mc ms (pc + 3) loc stk h1) : gX X mc ms pc loc (.int x :: .ref a :: stk) h := r_putI (k := 25) (ref := "CanvasRoomModel") C gcl_9 hd rfl tw1084 rfl (Or.inl rfl) (vp_nar_int _) rfl hg ho hh kk
theorem rg_X8_X8_isWithdrawn {X : gCx} {cc : ByteArray} {ret : Option FieldType} {rm : Room} {mc ms pc a : Nat} {loc : List (Nat × Value)} {stk : List Value} {h : GH} {o : FO} (C : gC X cc RX8 ret rm) (hd : decode cc pc = .ok (.getfield 95, 3)) (hg : h a = some (9, o)) (kk : gX X mc ms (pc + 3) loc (.ref (a + 29) :: stk) h) : gX X mc ms pc loc (.ref a :: stk) h := r_get (k := 33) (ref := "CanvasRoomModel") C gcl_9 hd rfl tw1092 rfl hg rfl kk
theorem rg_X8_X8_wasSold {X : gCx} {cc : ByteArray} {ret : Option FieldType} {rm : Room} {mc ms pc a : Nat} {loc : List (Nat × Value)} {stk : List Value} {h : GH} {o : FO} (C : gC X cc RX8 ret rm) (hd : decode cc pc = .ok (.getfield 98, 3)) (hg : h a = some (9, o)) (kk : gX X mc ms (pc + 3) loc (.ref (a + 30) :: stk) h) : gX X mc ms pc loc (.ref a :: stk) h := r_get (k := 34) (ref := "CanvasRoomModel") C gcl_9 hd rfl tw1093 rfl hg rfl kk
theorem rg_X8_X8_money {X : gCx} {cc : ByteArray} {ret : Option FieldType} {rm : Room} {mc ms pc a : Nat} {loc : List (Nat × Value)} {stk : List Value} {h : GH} {o : FO} (C : gC X cc RX8 ret rm) (hd : decode cc pc = .ok (.getfield 134, 3)) (hg : h a = some (9, o)) (kk : gX X mc ms (pc + 3) loc (.ref (a + 42) :: stk) h) : gX X mc ms pc loc (.ref a :: stk) h := r_get (k := 46) (ref := "CanvasRoomModel") C gcl_9 hd rfl tw1105 rfl hg rfl kk
theorem rg_X8_X8_state {X : gCx} {cc : ByteArray} {ret : Option FieldType} {rm : Room} {mc ms pc a : Nat} {loc : List (Nat × Value)} {stk : List Value} {h : GH} {o : FO} (C : gC X cc RX8 ret rm) (hd : decode cc pc = .ok (.getfield 122, 3)) (hg : h a = some (9, o)) (kk : gX X mc ms (pc + 3) loc (.ref (a + 38) :: stk) h) : gX X mc ms pc loc (.ref a :: stk) h := r_get (k := 42) (ref := "CanvasRoomModel") C gcl_9 hd rfl tw1101 rfl hg rfl kk
theorem rg_X8_X8_owner {X : gCx} {cc : ByteArray} {ret : Option FieldType} {rm : Room} {mc ms pc a : Nat} {loc : List (Nat × Value)} {stk : List Value} {h : GH} {o : FO} (C : gC X cc RX8 ret rm) (hd : decode cc pc = .ok (.getfield 125, 3)) (hg : h a = some (9, o)) (kk : gX X mc ms (pc + 3) loc (.ref (a + 39) :: stk) h) : gX X mc ms pc loc (.ref a :: stk) h := r_get (k := 43) (ref := "CanvasRoomModel") C gcl_9 hd rfl tw1102 rfl hg rfl kk
theorem rg_X8_X8_cost {X : gCx} {cc : ByteArray} {ret : Option FieldType} {rm : Room} {mc ms pc a : Nat} {loc : List (Nat × Value)} {stk : List Value} {h : GH} {o : FO} (C : gC X cc RX8 ret rm) (hd : decode cc pc = .ok (.getfield 128, 3)) (hg : h a = some (9, o)) (kk : gX X mc ms (pc + 3) loc (.ref (a + 40) :: stk) h) : gX X mc ms pc loc (.ref a :: stk) h := r_get (k := 44) (ref := "CanvasRoomModel") C gcl_9 hd rfl tw1103 rfl hg rfl kk
theorem rg_X8_X8_purse {X : gCx} {cc : ByteArray} {ret : Option FieldType} {rm : Room} {mc ms pc a : Nat} {loc : List (Nat × Value)} {stk : List Value} {h : GH} {o : FO} (C : gC X cc RX8 ret rm) (hd : decode cc pc = .ok (.getfield 137, 3)) (hg : h a = some (9, o)) (kk : gX X mc ms (pc + 3) loc (.ref (a + 43) :: stk) h) : gX X mc ms pc loc (.ref a :: stk) h := r_get (k := 47) (ref := "CanvasRoomModel") C gcl_9 hd rfl tw1106 rfl hg rfl kk
theorem rg_X8_X8_house {X : gCx} {cc : ByteArray} {ret : Option FieldType} {rm : Room} {mc ms pc a : Nat} {loc : List (Nat × Value)} {stk : List Value} {h : GH} {o : FO} (C : gC X cc RX8 ret rm) (hd : decode cc pc = .ok (.getfield 248, 3)) (hg : h a = some (9, o)) (kk : gX X mc ms (pc + 3) loc (.int (fI o 48) :: stk) h) : gX X mc ms pc loc (.ref a :: stk) h := r_get (k := 48) (ref := "CanvasRoomModel") C gcl_9 hd rfl tw1107 rfl hg rfl kk
theorem rp_X8_X8_house {X : gCx} {cc : ByteArray} {ret : Option FieldType} {rm : Room} {mc ms pc a : Nat} {loc : List (Nat × Value)} {stk : List Value} {h : GH} {o : FO} (C : gC X cc RX8 ret rm) {x : Int32} {o1 : FO} {h1 : GH} (hd : decode cc pc = .ok (.putfield 248, 3)) (hg : h a = some (9, o)) (ho : o1 = sI o 48 x) (hh : h1 = hu h a (9, o1)) (kk : gX X mc ms (pc + 3) loc stk h1) : gX X mc ms pc loc (.int x :: .ref a :: stk) h := r_putI (k := 48) (ref := "CanvasRoomModel") C gcl_9 hd rfl tw1107 rfl (Or.inl rfl) (vp_nar_int _) rfl hg ho hh kk
theorem rg_X8_X8_answerer {X : gCx} {cc : ByteArray} {ret : Option FieldType} {rm : Room} {mc ms pc a : Nat} {loc : List (Nat × Value)} {stk : List Value} {h : GH} {o : FO} (C : gC X cc RX8 ret rm) (hd : decode cc pc = .ok (.getfield 131, 3)) (hg : h a = some (9, o)) (kk : gX X mc ms (pc + 3) loc (.ref (a + 41) :: stk) h) : gX X mc ms pc loc (.ref a :: stk) h := r_get (k := 45) (ref := "CanvasRoomModel") C gcl_9 hd rfl tw1104 rfl hg rfl kk
end
section
theorem tw62 : Cond.initialized "java/util/ArrayList" ∈ TW := tw_in 62 (by decide +kernel) (by decide +kernel)
theorem tw77 : Cond.initialized "java/util/Objects" ∈ TW := tw_in 77 (by decide +kernel) (by decide +kernel)
theorem tw78 : Cond.initialized "jdk/internal/util/Preconditions" ∈ TW := tw_in 78 (by decide +kernel) (by decide +kernel)
theorem tw107 : Cond.fieldLink "java/util/ArrayList" 9 "java/util/ArrayList" "elementData" "[Ljava/lang/Object;" ∈ TW := tw_in 107 (by decide +kernel) (by decide +kernel)
theorem tw108 : Cond.fieldLink "java/util/ArrayList" 48 "java/util/ArrayList" "size" "I" ∈ TW := tw_in 108 (by decide +kernel) (by decide +kernel)
theorem tw204 : Cond.code ⟨"java/util/ArrayList","size","()I"⟩ prog_27_method_8_code 1 (some .int) ∈ TW := tw_in 204 (by decide +kernel) (by decide +kernel)
theorem tw470 : Cond.code ⟨"java/util/ArrayList","get","(I)Ljava/lang/Object;"⟩ prog_27_method_20_code 2 (some (.object "java/lang/Object")) ∈ TW := tw_in 470 (by decide +kernel) (by decide +kernel)
theorem tw471 : Cond.methodLink "java/util/ArrayList" 118 ⟨"java/util/Objects","checkIndex","(II)I"⟩ ∈ TW := tw_in 471 (by decide +kernel) (by decide +kernel)
theorem tw472 : Cond.static ⟨"java/util/Objects","checkIndex","(II)I"⟩ ∈ TW := tw_in 472 (by decide +kernel) (by decide +kernel)
theorem tw473 : Cond.code ⟨"java/util/Objects","checkIndex","(II)I"⟩ prog_31_method_17_code 2 (some .int) ∈ TW := tw_in 473 (by decide +kernel) (by decide +kernel)
theorem tw474 : Cond.methodLink "java/util/Objects" 105 ⟨"jdk/internal/util/Preconditions","checkIndex","(IILjava/util/function/BiFunction;)I"⟩ ∈ TW := tw_in 474 (by decide +kernel) (by decide +kernel)
theorem tw475 : Cond.static ⟨"jdk/internal/util/Preconditions","checkIndex","(IILjava/util/function/BiFunction;)I"⟩ ∈ TW := tw_in 475 (by decide +kernel) (by decide +kernel)
theorem tw476 : Cond.code ⟨"jdk/internal/util/Preconditions","checkIndex","(IILjava/util/function/BiFunction;)I"⟩ prog_35_method_11_code 3 (some .int) ∈ TW := tw_in 476 (by decide +kernel) (by decide +kernel)
theorem tw477 : Cond.methodLink "java/util/ArrayList" 123 ⟨"java/util/ArrayList","elementData","(I)Ljava/lang/Object;"⟩ ∈ TW := tw_in 477 (by decide +kernel) (by decide +kernel)
theorem tw478 : Cond.instanceMethod ⟨"java/util/ArrayList","elementData","(I)Ljava/lang/Object;"⟩ ∈ TW := tw_in 478 (by decide +kernel) (by decide +kernel)
theorem tw479 : Cond.selects "java/util/ArrayList" ⟨"java/util/ArrayList","elementData","(I)Ljava/lang/Object;"⟩ ⟨"java/util/ArrayList","elementData","(I)Ljava/lang/Object;"⟩ ∈ TW := tw_in 479 (by decide +kernel) (by decide +kernel)
theorem tw480 : Cond.code ⟨"java/util/ArrayList","elementData","(I)Ljava/lang/Object;"⟩ prog_27_method_18_code 2 (some (.object "java/lang/Object")) ∈ TW := tw_in 480 (by decide +kernel) (by decide +kernel)
section GROWS6
variable {X : gCx} {cc : ByteArray} {own : String} {ret : Option FieldType} {rm : Room} {mc ms pc : Nat} {loc : List (Nat × Value)} {stk : List Value} {h : GH}
theorem r_objInit (C : gC X cc own ret rm) {ix a : Nat} (hd : decode cc pc = .ok (.invokespecial ix, 3)) (hl1 : Cond.methodLink own ix Lib.objectInit ∈ TW) (hi : Cond.instanceMethod Lib.objectInit ∈ TW) (hc : Cond.code Lib.objectInit ⟨#[0xb1]⟩ 1 none ∈ TW) (hf : 1 ≤ rm.frames ∧ (stk.map fun v => v.category).sum + 12 ≤ rm.locals) (kk : gX X mc ms (pc + 3) loc stk h) : gX X mc ms pc loc (.ref a :: stk) h := fun H locs ls hS hG hl =>
  W.objInit C.1 C.2.1 C.2.2.2.1 (C.ht hl1) (C.ht hi) (C.ht hc) rfl (by rw [C.2.2.1]; exact hl.1) rfl hd (by rw [C.2.2.2.2.2.2.2]; exact hf.1) (by rw [C.2.2.2.2.2.2.2]; show 2 * 0 + _ + 12 ≤ _; omega) (kk H locs ls hS hG hl)
theorem r_cast (C : gC X cc own ret rm) {ix a ci N : Nat} {Cn : String} {T : u_T} {ty : Nat → FieldType} {o : FO} (hB : gCl ci Cn T N ty) (hd : decode cc pc = .ok (.checkcast ix, 3)) (hw : Cond.classLink own ix Cn ∈ TW) (hg : h a = some (ci, o)) (kk : gX X mc ms (pc + 3) loc (.ref a :: stk) h) : gX X mc ms pc loc (.ref a :: stk) h := fun H locs ls hS hG hl =>
  va_castS C.1 C.2.1 C.2.2.2.1 (C.ht hw) (C.K.1 ci _ hB.1).2 (g_recv C.K hG hB.1 hg) hd (kk H locs ls hS hG hl)
theorem r_alen (C : gC X cc own ret rm) {ci a k n off : Nat} {o : FO} {v : Int32} (hd : decode cc pc = .ok (.arraylength, 1)) (hn : g_nice ci = true) (hq : (g_tab ci)[k]? = some (3, n, off)) (hg : h a = some (ci, o)) (hv : Int32.ofNat n = v) (kk : gX X mc ms (pc + 1) loc (.int v :: stk) h) : gX X mc ms pc loc (.ref (a + off) :: stk) h := fun H locs ls hS hG hl => by
  have h1 := g_arrW hG hn hg hq (Nat.le_refl 3)
  exact va_alen (ws := [(a + off, .inl ((ydA (xY X)) 0, n, .inl (fA o k)))]) C.1 C.2.1 C.K (fun k q hk => by
    cases k with
    | zero => cases hk; exact h1
    | succ k => simp at hk) 0 0 rfl rfl hv hd (kk H locs ls hS hG hl)
/-- a tableswitch, at a number that the table has, and at others -/
theorem r_tsIn (C : gC X cc own ret rm) {dflt lo hi : Int} {offs : Array Int} {len : Nat} {x v : Int32} {off : Int} (tgt : Nat) (hx : x = v) (hd : decode cc pc = .ok (.tableswitch dflt lo hi offs, len)) (h1 : ¬ v.toInt < lo) (h2 : ¬ hi < v.toInt) (ho : offs[(v.toInt - lo).toNat]? = some off) (ht : (pc : Int) + off = (tgt : Int)) (kk : gX X mc ms tgt loc stk h) : gX X mc ms pc loc (.int x :: stk) h := fun H locs ls hS hG hl => by
  subst hx
  exact lv_tableIn C.1 C.2.1 hd h1 h2 ho ht (kk H locs ls hS hG hl)
theorem r_tsOut (C : gC X cc own ret rm) {dflt lo hi : Int} {offs : Array Int} {len : Nat} {x : Int32} (tgt : Nat) (hd : decode cc pc = .ok (.tableswitch dflt lo hi offs, len)) (h1 : x.toInt < lo ∨ hi < x.toInt) (ht : (pc : Int) + dflt = (tgt : Int)) (kk : gX X mc ms tgt loc stk h) : gX X mc ms pc loc (.int x :: stk) h := fun H locs ls hS hG hl =>
  lv_tableOut C.1 C.2.1 hd h1 ht (kk H locs ls hS hG hl)
theorem ts_out {x : Int32} {lo hi : Int} (h : ∀ v : Int, lo ≤ v → v ≤ hi → ¬ x = Int32.ofInt v) : x.toInt < lo ∨ hi < x.toInt := by
  by_cases q : x.toInt < lo
  · exact Or.inl q
  · by_cases q2 : hi < x.toInt
    · exact Or.inr q2
    · exact absurd (by simp) (h x.toInt (by omega) (by omega))
end GROWS6
section GLISTS
def lAdd (o : FO) (x : Nat) : FO := sR (sI o 2 (fI o 2 + 1)) (fI o 2).toNatClampNeg x
theorem g_ls {Y : gWx} {h : GH} {H : Heap} {a : Nat} {o : FO} (hG : yW Y h H) (hg : h a = some (0, o)) : ∃ tag, GWt (yD Y) (ydA Y) (yE0 Y) (yB0 Y) tag h H ∧ yB0 Y ≤ a ∧ tag a = (a, 0) ∧ g_list (yD Y) (ydA Y) (yE0 Y) tag a o H := by
  obtain ⟨tag, hG⟩ := hG
  obtain ⟨h1, h2, h3⟩ := hG a 0 o hg
  exact ⟨tag, hG, h1, h2, h3⟩
variable {X : gCx} {cc : ByteArray} {ret : Option FieldType} {rm : Room} {mc ms pc : Nat} {loc : List (Nat × Value)} {stk : List Value} {h : GH}
theorem gcl0_in : ∀ w ∈ u_ws RJx4a65c TJx4a65c 3, w ∈ TW := by decide +kernel
/-- a list's own cells, with the row's address in sight -/
def LX (Y : gWx) (h : GH) (b : Nat) (o : FO) (mod : Int32) (ed n : Nat) (H : Heap) : Prop := ∃ tag, GWt (yD Y) (ydA Y) (yE0 Y) (yB0 Y) tag h H ∧ yB0 Y ≤ b ∧ tag b = (b, 0) ∧ n < 2000 ∧ fI o 2 = nI n ∧ t_OB b ((yD Y).1 0) 3 ((yD Y).2 0) H (vp_V [.int mod, .ref ed, .int (nI n)]) ∧
    ((ed = yE0 Y ∧ n = 0) ∨ (∃ (cap : Nat) (f : Nat → Option Nat), tag ed = (b, 1) ∧ n ≤ cap ∧ 2 ≤ cap ∧ cap ≤ 10 + n + n / 2 ∧ H[ed]? = some (arrV ((ydA Y) 3) cap (fun j => va_rf (f j))) ∧ ∀ j, j < n → f j = some (fR o j)))
theorem g_lx {Y : gWx} {h : GH} {H : Heap} {b : Nat} {o : FO} (hG : yW Y h H) (hg : h b = some (0, o)) : ∃ mod ed n, LX Y h b o mod ed n H := by
  obtain ⟨tag, hGt, b1, b2, mod, ed, n, hn, e1, e2, e3⟩ := g_ls hG hg
  exact ⟨mod, ed, n, tag, hGt, b1, b2, hn, e1, e2, e3⟩
/-- reading a list's own fields -/
theorem r_lget (C : gC X cc RJx4a65c ret rm) {a k index : Nat} {ref : String} {o : FO} {mod : Int32} {ed n : Nat} {H : Heap} {locs : List Loc} {ls : Array Slot} {v : Value} (hd : decode cc pc = .ok (.getfield index, 3)) (hk : k < 3) (hl1 : Cond.fieldLink RJx4a65c index ref (TJx4a65c k).2.1 (TJx4a65c k).2.2.1 ∈ TW) (hr : (TJx4a65c k).1 = ref) (hL : LX (xY X) h a o mod ed n H) (hv : ([.int mod, .ref ed, .int (nI n)] : List Value)[k]? = some v)
    (kk : gV X H locs mc ms (F0 (xm X) (pc + 3) ls (v :: stk))) : gV X H locs mc ms (F0 (xm X) pc ls (.ref a :: stk)) := by
  subst hr
  obtain ⟨tag, -, -, -, -, -, e2, -⟩ := hL
  exact va_get (ws := [(a, .inr (0, [.int mod, .ref ed, .int (nI n)]))]) (ci := 0) (C := RJx4a65c) (T := TJx4a65c) (N := 3) C.1 C.2.1 C.hts gcl0_in C.2.2.2.1 C.K (fun k q hk => by
    cases k with
    | zero => cases hk; exact ⟨_, rfl, e2⟩
    | succ k => simp at hk) 0 rfl rfl k hk (C.ht hl1) (fun _ h9 => h9) hv hd kk
end GLISTS
def rm_0 : Room := { frames := 0, cells := 0, slots := 0, locals := 0 }
theorem m_lsize {Y : gWx} {b : Nat} {g : GH} {o : FO} (hg : g b = some (0, o)) : gMet Y yJx4a65c_size_8abf5 cJx4a65c_size_8abf5 1 (some .int) rm_0 [.ref b] g (gQi Y (fun r g9 => g9 = g ∧ r = fI o 2)) 0 0 := by
  refine gm_of rfl (Nat.le_of_ble_eq_true rfl) ?_
  intro X hY hn C hnm hQ
  subst hY
  have C : gC X cJx4a65c_size_8abf5 RJx4a65c (some .int) rm_0 := C
  refine r_aload_n C 0 dJx4a65c_size_8abf5_0 rfl ?_
  intro H locs ls hS hG hl
  obtain ⟨mod, ed, n, hL⟩ := g_lx hG hg
  have e1 : fI o 2 = nI n := hL.choose_spec.2.2.2.2.1
  refine r_lget C (k := 2) (v := .int (nI n)) (ref := "java/util/ArrayList") dJx4a65c_size_8abf5_1 (by decide) tw108 rfl hL rfl ?_
  exact r_iret C (Or.inl hQ : _ ∨ gRex X _ (fun _ _ => False) 0 0) dJx4a65c_size_8abf5_4 rfl (vp_nar_int _) ⟨Nat.le_refl _, Nat.le_refl _⟩ ⟨rfl, e1.symm⟩ H locs ls hS hG hl
/-- checkIndex within the range -/
theorem m_pci {Y : gWx} {i n : Int32} {g : GH} (h0 : ¬ i < 0) (h1 : i < n) : gMet Y yJ3_checkIndex_8e157 cJ3_checkIndex_8e157 3 (some .int) rm_0 [.int i, .int n, .null] g (gQi Y (fun _ g9 => g9 = g)) 0 0 := by
  refine gm_of rfl (Nat.le_of_ble_eq_true rfl) ?_
  intro X hY hn C hnm hQ
  subst hY
  have C : gC X cJ3_checkIndex_8e157 RJ3 (some .int) rm_0 := C
  show gX X 0 0 0 [(0, .int i), (1, .int n), (2, .null)] [] g
  refine r_iload_n C 0 dJ3_checkIndex_8e157_0 rfl (r_if_lt C 9 dJ3_checkIndex_8e157_1 (by decide) (fun q => absurd q h0) (fun _ => ?_))
  refine r_iload_n C 0 dJ3_checkIndex_8e157_4 rfl (r_iload_n C 1 dJ3_checkIndex_8e157_5 rfl (r_icmp_lt C 16 dJ3_checkIndex_8e157_6 (by decide) (fun _ => ?_) (fun q => absurd h1 q)))
  exact r_iload_n C 0 dJ3_checkIndex_8e157_16 rfl (r_iret C (Or.inl hQ : _ ∨ gRex X _ (fun _ _ => False) 0 0) dJ3_checkIndex_8e157_17 rfl (vp_nar_int _) ⟨Nat.le_refl _, Nat.le_refl _⟩ rfl)
theorem mt_J3_checkIndex_8e157 : gMt yJ3_checkIndex_8e157 cJ3_checkIndex_8e157 3 (some .int) 3 := ⟨tw476, tw78, by decide +kernel, by decide +kernel, by decide +kernel⟩
theorem mt_J15_checkIndex_7cf53 : gMt yJ15_checkIndex_7cf53 cJ15_checkIndex_7cf53 2 (some .int) 2 := ⟨tw473, tw77, by decide +kernel, by decide +kernel, by decide +kernel⟩
theorem mt_Jx4a65c_elementData_915e3 : gMt yJx4a65c_elementData_915e3 cJx4a65c_elementData_915e3 2 (some (.object "java/lang/Object")) 1 := ⟨tw480, tw62, by decide +kernel, by decide +kernel, by decide +kernel⟩
theorem mt_Jx4a65c_get_915e3 : gMt yJx4a65c_get_915e3 cJx4a65c_get_915e3 2 (some (.object "java/lang/Object")) 1 := ⟨tw470, tw62, by decide +kernel, by decide +kernel, by decide +kernel⟩
theorem mt_Jx4a65c_size_8abf5 : gMt yJx4a65c_size_8abf5 cJx4a65c_size_8abf5 1 (some .int) 0 := ⟨tw204, tw62, by decide +kernel, by decide +kernel, by decide +kernel⟩
abbrev gFit0 (rm rm' : Room) (maxL : Nat) : Prop := gFit rm rm' maxL 0 0 0 0
def rm_1 : Room := { frames := 1, cells := 0, slots := 0, locals := 40 }
def rm_2 : Room := { frames := 2, cells := 0, slots := 0, locals := 80 }
theorem r_null {X : gCx} {cc : ByteArray} {own : String} {ret : Option FieldType} {rm : Room} {mc ms pc : Nat} {loc : List (Nat × Value)} {stk : List Value} {h : GH} (C : gC X cc own ret rm) (hd : decode cc pc = .ok (.aconst_null, 1)) (kk : gX X mc ms (pc + 1) loc (.null :: stk) h) : gX X mc ms pc loc stk h := fun H locs ls hS hG hl => lv_null C.1 C.2.1 hd (kk H locs ls hS hG hl)
theorem m_oci {Y : gWx} {i n : Int32} {g : GH} (h0 : ¬ i < 0) (h1 : i < n) : gMet Y yJ15_checkIndex_7cf53 cJ15_checkIndex_7cf53 2 (some .int) rm_1 [.int i, .int n] g (gQi Y (fun _ g9 => g9 = g)) 0 0 := by
  refine gm_of rfl (Nat.le_of_ble_eq_true rfl) ?_
  intro X hY hn C hnm hQ
  subst hY
  have C : gC X cJ15_checkIndex_7cf53 RJ15 (some .int) rm_1 := C
  show gX X 0 0 0 [(0, .int i), (1, .int n)] [] g
  refine r_iload_n C 0 dJ15_checkIndex_7cf53_0 rfl (r_iload_n C 1 dJ15_checkIndex_7cf53_1 rfl (r_null C dJ15_checkIndex_7cf53_2 ?_))
  refine r_goi (r_runS C dJ15_checkIndex_7cf53_3 (m_pci h0 h1) mt_J3_checkIndex_8e157 tw474 tw475 rfl (stk := []) rfl (Nat.le_of_ble_eq_true rfl) ⟨rfl, rfl, ⟨Nat.le_of_ble_eq_true rfl, Nat.le_of_ble_eq_true rfl⟩, ⟨Nat.le_of_ble_eq_true rfl, Nat.le_of_ble_eq_true rfl⟩⟩) ?_
  intro r g9 hp
  subst hp
  exact r_iret C (Or.inl hQ : _ ∨ gRex X _ (fun _ _ => False) 0 0) dJ15_checkIndex_7cf53_6 rfl (vp_nar_int _) ⟨Nat.le_refl _, Nat.le_refl _⟩ rfl
theorem m_led {Y : gWx} {b : Nat} {i : Int32} {g : GH} {o : FO} (hg : g b = some (0, o)) (hi : vp_in i (fI o 2).toNatClampNeg) : gMet Y yJx4a65c_elementData_915e3 cJx4a65c_elementData_915e3 2 (some (.object "java/lang/Object")) rm_0 [.ref b, .int i] g (gQr Y (fun r g9 => g9 = g ∧ r = fR o i.toNatClampNeg)) 0 0 := by
  refine gm_of rfl (Nat.le_of_ble_eq_true rfl) ?_
  intro X hY hn C hnm hQ
  subst hY
  have C : gC X cJx4a65c_elementData_915e3 RJx4a65c (some (.object "java/lang/Object")) rm_0 := C
  show gX X 0 0 0 [(0, .ref b), (1, .int i)] [] g
  refine r_aload_n C 0 dJx4a65c_elementData_915e3_0 rfl ?_
  intro H locs ls hS hG hl
  obtain ⟨mod, ed, n, hL⟩ := g_lx hG hg
  refine r_lget C (k := 1) (v := .ref ed) (ref := "java/util/ArrayList") dJx4a65c_elementData_915e3_1 (by decide) tw107 rfl hL rfl ?_
  obtain ⟨tag, hGt, b1, b2, hn2, e1, e2, e3⟩ := hL
  have hcl : (fI o 2).toNatClampNeg = n := by rw [e1]; exact nI_clamp (by omega)
  rw [hcl] at hi
  have hlt : i.toNatClampNeg < n := Nat.not_le.mp fun q => hi (Or.inr q)
  rcases e3 with ⟨-, e4⟩ | ⟨cap, f, t1, t2, t3, t4, t5, t6⟩
  · omega
  · refine lv_iload_n C.1 C.2.1 dJx4a65c_elementData_915e3_4 rfl (lv_at hl 1 rfl) ?_
    refine va_aldq (ws := [(ed, .inl ((ydA (xY X)) 3, cap, .inr (.inr (.inr (.inr f)))))]) C.1 C.2.1 C.K (fun k q hk => by
      cases k with
      | zero => cases hk; exact t5
      | succ k => simp at hk) 0 3 rfl rfl (fun q => hi (q.imp id (fun z => Nat.le_trans t2 z))) dJx4a65c_elementData_915e3_5 ?_
    rw [t6 _ hlt]
    exact r_aret C (Or.inl hQ : _ ∨ gRex X _ (fun _ _ => False) 0 0) dJx4a65c_elementData_915e3_6 rfl (Or.inl ⟨_, rfl⟩) ⟨Nat.le_refl _, Nat.le_refl _⟩ ⟨rfl, rfl⟩ H locs ls hS hG hl
theorem m_lget {Y : gWx} {b : Nat} {i : Int32} {g : GH} {o : FO} (hg : g b = some (0, o)) (hi : vp_in i (fI o 2).toNatClampNeg) : gMet Y yJx4a65c_get_915e3 cJx4a65c_get_915e3 2 (some (.object "java/lang/Object")) rm_2 [.ref b, .int i] g (gQr Y (fun r g9 => g9 = g ∧ r = fR o i.toNatClampNeg)) 0 0 := by
  refine gm_of rfl (Nat.le_of_ble_eq_true rfl) ?_
  intro X hY hn C hnm hQ
  subst hY
  have C : gC X cJx4a65c_get_915e3 RJx4a65c (some (.object "java/lang/Object")) rm_2 := C
  show gX X 0 0 0 [(0, .ref b), (1, .int i)] [] g
  refine r_iload_n C 1 dJx4a65c_get_915e3_0 rfl (r_aload_n C 0 dJx4a65c_get_915e3_1 rfl ?_)
  intro H locs ls hS hG hl
  obtain ⟨mod, ed, n, hL⟩ := g_lx hG hg
  have e1 : fI o 2 = nI n := hL.choose_spec.2.2.2.2.1
  have hn2 : n < 2000 := hL.choose_spec.2.2.2.1
  refine r_lget C (k := 2) (v := .int (nI n)) (ref := "java/util/ArrayList") dJx4a65c_get_915e3_2 (by decide) tw108 rfl hL rfl ?_
  have hcl : (fI o 2).toNatClampNeg = n := by rw [e1]; exact nI_clamp (by omega)
  have hi0 : ¬ i < 0 := fun q => hi (Or.inl q)
  have hi1 : i < nI n := by
    rw [hcl] at hi
    obtain ⟨j, hj, rfl⟩ := vp_in_of hi (by omega)
    exact nI_lt hj (by omega)
  have K : gX X 0 0 5 [(0, .ref b), (1, .int i)] [.int (nI n), .int i] g := by
    refine r_goi (r_runS C dJx4a65c_get_915e3_5 (m_oci hi0 hi1) mt_J15_checkIndex_7cf53 tw471 tw472 rfl (stk := []) rfl (Nat.le_of_ble_eq_true rfl) ⟨rfl, rfl, ⟨Nat.le_of_ble_eq_true rfl, Nat.le_of_ble_eq_true rfl⟩, ⟨Nat.le_of_ble_eq_true rfl, Nat.le_of_ble_eq_true rfl⟩⟩) ?_
    intro r g9 hp
    subst hp
    refine r_pop C dJx4a65c_get_915e3_8 rfl (r_aload_n C 0 dJx4a65c_get_915e3_9 rfl (r_iload_n C 1 dJx4a65c_get_915e3_10 rfl ?_))
    refine r_gor (r_runV C dJx4a65c_get_915e3_11 (m_led hg hi) mt_Jx4a65c_elementData_915e3 tw477 tw478 tw479 (ci := 0) rfl hg rfl (stk := []) rfl (Nat.le_of_ble_eq_true rfl) ⟨rfl, rfl, ⟨Nat.le_of_ble_eq_true rfl, Nat.le_of_ble_eq_true rfl⟩, ⟨Nat.le_of_ble_eq_true rfl, Nat.le_of_ble_eq_true rfl⟩⟩) ?_
    intro r g9 hp
    obtain ⟨rfl, rfl⟩ := hp
    exact r_aret C (Or.inl hQ : _ ∨ gRex X _ (fun _ _ => False) 0 0) dJx4a65c_get_915e3_14 rfl (Or.inl ⟨_, rfl⟩) ⟨Nat.le_of_ble_eq_true rfl, Nat.le_of_ble_eq_true rfl⟩ ⟨rfl, rfl⟩
  exact K H locs ls hS hG hl
end
