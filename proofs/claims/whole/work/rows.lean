section
-- ===== PART A: goes FIRST, ahead of the names: the tables' words, and 'selects' of the private methods out of them =====
/-- a private method of a class that the tables say can be made, by its rows of tables_1 -/
def lw_okq (q : MethodName × Nat) : Prop := (q.1.cls ≠ "java/lang/invoke/MethodHandle" ∧ q.1.cls ≠ "java/lang/invoke/VarHandle") ∧ Cond.instantiable q.1.cls q.2 ∈ tables_1 ∧ Cond.privateMethod q.1 ∈ tables_1 ∧ Cond.instanceMethod q.1 ∈ tables_1
theorem lw_p0 : lw_okq (⟨"ParcelRing", "wrongPlaces", "(LParcelRing$Sheet;I)I"⟩, 9) := ⟨⟨by decide +kernel, by decide +kernel⟩, List.mem_of_getElem? (i := 19) (by decide +kernel), List.mem_of_getElem? (i := 539) (by decide +kernel), List.mem_of_getElem? (i := 540) (by decide +kernel)⟩
theorem lw_p1 : lw_okq (⟨"ParcelRing$Reader", "advance", "()V"⟩, 10) := ⟨⟨by decide +kernel, by decide +kernel⟩, List.mem_of_getElem? (i := 154) (by decide +kernel), List.mem_of_getElem? (i := 581) (by decide +kernel), List.mem_of_getElem? (i := 582) (by decide +kernel)⟩
theorem lw_p2 : lw_okq (⟨"ParcelRing$Reader", "isByte", "(III)Z"⟩, 10) := ⟨⟨by decide +kernel, by decide +kernel⟩, List.mem_of_getElem? (i := 154) (by decide +kernel), List.mem_of_getElem? (i := 585) (by decide +kernel), List.mem_of_getElem? (i := 586) (by decide +kernel)⟩
theorem lw_p3 : lw_okq (⟨"ParcelRing$Reader", "endOfRow", "(II)I"⟩, 10) := ⟨⟨by decide +kernel, by decide +kernel⟩, List.mem_of_getElem? (i := 154) (by decide +kernel), List.mem_of_getElem? (i := 590) (by decide +kernel), List.mem_of_getElem? (i := 591) (by decide +kernel)⟩
theorem lw_p4 : lw_okq (⟨"ParcelRing$Reader", "parseKey", "()V"⟩, 10) := ⟨⟨by decide +kernel, by decide +kernel⟩, List.mem_of_getElem? (i := 154) (by decide +kernel), List.mem_of_getElem? (i := 594) (by decide +kernel), List.mem_of_getElem? (i := 595) (by decide +kernel)⟩
theorem lw_p5 : lw_okq (⟨"ParcelRing$Reader", "isWord", "(Ljava/lang/String;)Z"⟩, 10) := ⟨⟨by decide +kernel, by decide +kernel⟩, List.mem_of_getElem? (i := 154) (by decide +kernel), List.mem_of_getElem? (i := 599) (by decide +kernel), List.mem_of_getElem? (i := 600) (by decide +kernel)⟩
theorem lw_p6 : lw_okq (⟨"ParcelRing$Reader", "refuse", "()V"⟩, 10) := ⟨⟨by decide +kernel, by decide +kernel⟩, List.mem_of_getElem? (i := 154) (by decide +kernel), List.mem_of_getElem? (i := 653) (by decide +kernel), List.mem_of_getElem? (i := 654) (by decide +kernel)⟩
theorem lw_p7 : lw_okq (⟨"ParcelRing$Reader", "parseJoined", "(III)V"⟩, 10) := ⟨⟨by decide +kernel, by decide +kernel⟩, List.mem_of_getElem? (i := 154) (by decide +kernel), List.mem_of_getElem? (i := 657) (by decide +kernel), List.mem_of_getElem? (i := 658) (by decide +kernel)⟩
theorem lw_p8 : lw_okq (⟨"ParcelRing$Reader", "parsePiece", "(II)V"⟩, 10) := ⟨⟨by decide +kernel, by decide +kernel⟩, List.mem_of_getElem? (i := 154) (by decide +kernel), List.mem_of_getElem? (i := 661) (by decide +kernel), List.mem_of_getElem? (i := 662) (by decide +kernel)⟩
theorem lw_p9 : lw_okq (⟨"ParcelRing$Reader", "numberHere", "()I"⟩, 10) := ⟨⟨by decide +kernel, by decide +kernel⟩, List.mem_of_getElem? (i := 154) (by decide +kernel), List.mem_of_getElem? (i := 665) (by decide +kernel), List.mem_of_getElem? (i := 666) (by decide +kernel)⟩
theorem lw_p10 : lw_okq (⟨"ParcelRing$Reader", "addLeaf", "(I)V"⟩, 10) := ⟨⟨by decide +kernel, by decide +kernel⟩, List.mem_of_getElem? (i := 154) (by decide +kernel), List.mem_of_getElem? (i := 669) (by decide +kernel), List.mem_of_getElem? (i := 670) (by decide +kernel)⟩
theorem lw_p11 : lw_okq (⟨"ParcelRing$Reader", "addStep", "(I)V"⟩, 10) := ⟨⟨by decide +kernel, by decide +kernel⟩, List.mem_of_getElem? (i := 154) (by decide +kernel), List.mem_of_getElem? (i := 673) (by decide +kernel), List.mem_of_getElem? (i := 674) (by decide +kernel)⟩
theorem lw_p12 : lw_okq (⟨"ParcelRing$Reader", "nameHere", "()I"⟩, 10) := ⟨⟨by decide +kernel, by decide +kernel⟩, List.mem_of_getElem? (i := 154) (by decide +kernel), List.mem_of_getElem? (i := 677) (by decide +kernel), List.mem_of_getElem? (i := 678) (by decide +kernel)⟩
theorem lw_p13 : lw_okq (⟨"ParcelRing$Reader", "parseClosing", "()V"⟩, 10) := ⟨⟨by decide +kernel, by decide +kernel⟩, List.mem_of_getElem? (i := 154) (by decide +kernel), List.mem_of_getElem? (i := 739) (by decide +kernel), List.mem_of_getElem? (i := 740) (by decide +kernel)⟩
theorem lw_p14 : lw_okq (⟨"ParcelRing", "waitsAt", "(III)Z"⟩, 9) := ⟨⟨by decide +kernel, by decide +kernel⟩, List.mem_of_getElem? (i := 19) (by decide +kernel), List.mem_of_getElem? (i := 873) (by decide +kernel), List.mem_of_getElem? (i := 874) (by decide +kernel)⟩
theorem lw_p15 : lw_okq (⟨"ParcelRingModel", "isChild", "(I)Z"⟩, 31) := ⟨⟨by decide +kernel, by decide +kernel⟩, List.mem_of_getElem? (i := 889) (by decide +kernel), List.mem_of_getElem? (i := 1003) (by decide +kernel), List.mem_of_getElem? (i := 1004) (by decide +kernel)⟩
def lw_privs_1 : List (MethodName × Nat) := [(⟨"ParcelRing", "wrongPlaces", "(LParcelRing$Sheet;I)I"⟩, 9), (⟨"ParcelRing$Reader", "advance", "()V"⟩, 10), (⟨"ParcelRing$Reader", "isByte", "(III)Z"⟩, 10), (⟨"ParcelRing$Reader", "endOfRow", "(II)I"⟩, 10), (⟨"ParcelRing$Reader", "parseKey", "()V"⟩, 10), (⟨"ParcelRing$Reader", "isWord", "(Ljava/lang/String;)Z"⟩, 10), (⟨"ParcelRing$Reader", "refuse", "()V"⟩, 10), (⟨"ParcelRing$Reader", "parseJoined", "(III)V"⟩, 10), (⟨"ParcelRing$Reader", "parsePiece", "(II)V"⟩, 10), (⟨"ParcelRing$Reader", "numberHere", "()I"⟩, 10), (⟨"ParcelRing$Reader", "addLeaf", "(I)V"⟩, 10), (⟨"ParcelRing$Reader", "addStep", "(I)V"⟩, 10), (⟨"ParcelRing$Reader", "nameHere", "()I"⟩, 10), (⟨"ParcelRing$Reader", "parseClosing", "()V"⟩, 10), (⟨"ParcelRing", "waitsAt", "(III)Z"⟩, 9), (⟨"ParcelRingModel", "isChild", "(I)Z"⟩, 31)]
theorem lw_r1 : ∀ q ∈ lw_privs_1, lw_okq q := List.forall_mem_cons.mpr ⟨lw_p0, List.forall_mem_cons.mpr ⟨lw_p1, List.forall_mem_cons.mpr ⟨lw_p2, List.forall_mem_cons.mpr ⟨lw_p3, List.forall_mem_cons.mpr ⟨lw_p4, List.forall_mem_cons.mpr ⟨lw_p5, List.forall_mem_cons.mpr ⟨lw_p6, List.forall_mem_cons.mpr ⟨lw_p7, List.forall_mem_cons.mpr ⟨lw_p8, List.forall_mem_cons.mpr ⟨lw_p9, List.forall_mem_cons.mpr ⟨lw_p10, List.forall_mem_cons.mpr ⟨lw_p11, List.forall_mem_cons.mpr ⟨lw_p12, List.forall_mem_cons.mpr ⟨lw_p13, List.forall_mem_cons.mpr ⟨lw_p14, List.forall_mem_cons.mpr ⟨lw_p15, fun _ h => absurd h List.not_mem_nil⟩⟩⟩⟩⟩⟩⟩⟩⟩⟩⟩⟩⟩⟩⟩⟩
theorem lw_p16 : lw_okq (⟨"ParcelRingModel", "own", "(II)I"⟩, 31) := ⟨⟨by decide +kernel, by decide +kernel⟩, List.mem_of_getElem? (i := 889) (by decide +kernel), List.mem_of_getElem? (i := 1007) (by decide +kernel), List.mem_of_getElem? (i := 1008) (by decide +kernel)⟩
theorem lw_p17 : lw_okq (⟨"ParcelRingModel", "holds", "(I)I"⟩, 31) := ⟨⟨by decide +kernel, by decide +kernel⟩, List.mem_of_getElem? (i := 889) (by decide +kernel), List.mem_of_getElem? (i := 1011) (by decide +kernel), List.mem_of_getElem? (i := 1012) (by decide +kernel)⟩
theorem lw_p18 : lw_okq (⟨"ParcelRingModel", "counts", "(I)I"⟩, 31) := ⟨⟨by decide +kernel, by decide +kernel⟩, List.mem_of_getElem? (i := 889) (by decide +kernel), List.mem_of_getElem? (i := 1015) (by decide +kernel), List.mem_of_getElem? (i := 1016) (by decide +kernel)⟩
theorem lw_p19 : lw_okq (⟨"ParcelRingModel", "textAt", "(I)I"⟩, 31) := ⟨⟨by decide +kernel, by decide +kernel⟩, List.mem_of_getElem? (i := 889) (by decide +kernel), List.mem_of_getElem? (i := 1019) (by decide +kernel), List.mem_of_getElem? (i := 1020) (by decide +kernel)⟩
theorem lw_p20 : lw_okq (⟨"ParcelRingModel", "sortNow", "()I"⟩, 31) := ⟨⟨by decide +kernel, by decide +kernel⟩, List.mem_of_getElem? (i := 889) (by decide +kernel), List.mem_of_getElem? (i := 1023) (by decide +kernel), List.mem_of_getElem? (i := 1024) (by decide +kernel)⟩
theorem lw_p21 : lw_okq (⟨"ParcelRingModel", "worked", "(I)I"⟩, 31) := ⟨⟨by decide +kernel, by decide +kernel⟩, List.mem_of_getElem? (i := 889) (by decide +kernel), List.mem_of_getElem? (i := 1027) (by decide +kernel), List.mem_of_getElem? (i := 1028) (by decide +kernel)⟩
theorem lw_p22 : lw_okq (⟨"ParcelRingModel", "nextOf", "(I)I"⟩, 31) := ⟨⟨by decide +kernel, by decide +kernel⟩, List.mem_of_getElem? (i := 889) (by decide +kernel), List.mem_of_getElem? (i := 1037) (by decide +kernel), List.mem_of_getElem? (i := 1038) (by decide +kernel)⟩
theorem lw_p23 : lw_okq (⟨"ParcelRingModel", "on", "(II)I"⟩, 31) := ⟨⟨by decide +kernel, by decide +kernel⟩, List.mem_of_getElem? (i := 889) (by decide +kernel), List.mem_of_getElem? (i := 1041) (by decide +kernel), List.mem_of_getElem? (i := 1042) (by decide +kernel)⟩
theorem lw_p24 : lw_okq (⟨"ParcelRingModel", "becomes", "(II)I"⟩, 31) := ⟨⟨by decide +kernel, by decide +kernel⟩, List.mem_of_getElem? (i := 889) (by decide +kernel), List.mem_of_getElem? (i := 1055) (by decide +kernel), List.mem_of_getElem? (i := 1056) (by decide +kernel)⟩
theorem lw_p25 : lw_okq (⟨"ParcelRingModel", "comes", "(III)V"⟩, 31) := ⟨⟨by decide +kernel, by decide +kernel⟩, List.mem_of_getElem? (i := 889) (by decide +kernel), List.mem_of_getElem? (i := 1076) (by decide +kernel), List.mem_of_getElem? (i := 1077) (by decide +kernel)⟩
theorem lw_p26 : lw_okq (⟨"ParcelRingModel", "isStop", "(I)Z"⟩, 31) := ⟨⟨by decide +kernel, by decide +kernel⟩, List.mem_of_getElem? (i := 889) (by decide +kernel), List.mem_of_getElem? (i := 1084) (by decide +kernel), List.mem_of_getElem? (i := 1085) (by decide +kernel)⟩
theorem lw_p27 : lw_okq (⟨"ParcelRingModel", "of", "(II)I"⟩, 31) := ⟨⟨by decide +kernel, by decide +kernel⟩, List.mem_of_getElem? (i := 889) (by decide +kernel), List.mem_of_getElem? (i := 1088) (by decide +kernel), List.mem_of_getElem? (i := 1089) (by decide +kernel)⟩
theorem lw_p28 : lw_okq (⟨"ParcelRingModel", "lasts", "(II)I"⟩, 31) := ⟨⟨by decide +kernel, by decide +kernel⟩, List.mem_of_getElem? (i := 889) (by decide +kernel), List.mem_of_getElem? (i := 1092) (by decide +kernel), List.mem_of_getElem? (i := 1093) (by decide +kernel)⟩
theorem lw_p29 : lw_okq (⟨"ParcelRingModel", "isLot", "(I)Z"⟩, 31) := ⟨⟨by decide +kernel, by decide +kernel⟩, List.mem_of_getElem? (i := 889) (by decide +kernel), List.mem_of_getElem? (i := 1096) (by decide +kernel), List.mem_of_getElem? (i := 1097) (by decide +kernel)⟩
theorem lw_p30 : lw_okq (⟨"ParcelRingModel", "worth", "(I)I"⟩, 31) := ⟨⟨by decide +kernel, by decide +kernel⟩, List.mem_of_getElem? (i := 889) (by decide +kernel), List.mem_of_getElem? (i := 1100) (by decide +kernel), List.mem_of_getElem? (i := 1101) (by decide +kernel)⟩
theorem lw_p31 : lw_okq (⟨"ParcelRingModel", "drawn", "()I"⟩, 31) := ⟨⟨by decide +kernel, by decide +kernel⟩, List.mem_of_getElem? (i := 889) (by decide +kernel), List.mem_of_getElem? (i := 1125) (by decide +kernel), List.mem_of_getElem? (i := 1126) (by decide +kernel)⟩
def lw_privs_2 : List (MethodName × Nat) := [(⟨"ParcelRingModel", "own", "(II)I"⟩, 31), (⟨"ParcelRingModel", "holds", "(I)I"⟩, 31), (⟨"ParcelRingModel", "counts", "(I)I"⟩, 31), (⟨"ParcelRingModel", "textAt", "(I)I"⟩, 31), (⟨"ParcelRingModel", "sortNow", "()I"⟩, 31), (⟨"ParcelRingModel", "worked", "(I)I"⟩, 31), (⟨"ParcelRingModel", "nextOf", "(I)I"⟩, 31), (⟨"ParcelRingModel", "on", "(II)I"⟩, 31), (⟨"ParcelRingModel", "becomes", "(II)I"⟩, 31), (⟨"ParcelRingModel", "comes", "(III)V"⟩, 31), (⟨"ParcelRingModel", "isStop", "(I)Z"⟩, 31), (⟨"ParcelRingModel", "of", "(II)I"⟩, 31), (⟨"ParcelRingModel", "lasts", "(II)I"⟩, 31), (⟨"ParcelRingModel", "isLot", "(I)Z"⟩, 31), (⟨"ParcelRingModel", "worth", "(I)I"⟩, 31), (⟨"ParcelRingModel", "drawn", "()I"⟩, 31)]
theorem lw_r2 : ∀ q ∈ lw_privs_2, lw_okq q := List.forall_mem_cons.mpr ⟨lw_p16, List.forall_mem_cons.mpr ⟨lw_p17, List.forall_mem_cons.mpr ⟨lw_p18, List.forall_mem_cons.mpr ⟨lw_p19, List.forall_mem_cons.mpr ⟨lw_p20, List.forall_mem_cons.mpr ⟨lw_p21, List.forall_mem_cons.mpr ⟨lw_p22, List.forall_mem_cons.mpr ⟨lw_p23, List.forall_mem_cons.mpr ⟨lw_p24, List.forall_mem_cons.mpr ⟨lw_p25, List.forall_mem_cons.mpr ⟨lw_p26, List.forall_mem_cons.mpr ⟨lw_p27, List.forall_mem_cons.mpr ⟨lw_p28, List.forall_mem_cons.mpr ⟨lw_p29, List.forall_mem_cons.mpr ⟨lw_p30, List.forall_mem_cons.mpr ⟨lw_p31, fun _ h => absurd h List.not_mem_nil⟩⟩⟩⟩⟩⟩⟩⟩⟩⟩⟩⟩⟩⟩⟩⟩
theorem lw_p32 : lw_okq (⟨"ParcelRingModel", "many", "()I"⟩, 31) := ⟨⟨by decide +kernel, by decide +kernel⟩, List.mem_of_getElem? (i := 889) (by decide +kernel), List.mem_of_getElem? (i := 1139) (by decide +kernel), List.mem_of_getElem? (i := 1140) (by decide +kernel)⟩
theorem lw_p33 : lw_okq (⟨"ParcelRingModel", "landsAt", "(I)I"⟩, 31) := ⟨⟨by decide +kernel, by decide +kernel⟩, List.mem_of_getElem? (i := 889) (by decide +kernel), List.mem_of_getElem? (i := 1143) (by decide +kernel), List.mem_of_getElem? (i := 1144) (by decide +kernel)⟩
theorem lw_p34 : lw_okq (⟨"ParcelRingModel", "roundOf", "()I"⟩, 31) := ⟨⟨by decide +kernel, by decide +kernel⟩, List.mem_of_getElem? (i := 889) (by decide +kernel), List.mem_of_getElem? (i := 1147) (by decide +kernel), List.mem_of_getElem? (i := 1148) (by decide +kernel)⟩
theorem lw_p35 : lw_okq (⟨"ParcelRingModel", "turn", "()I"⟩, 31) := ⟨⟨by decide +kernel, by decide +kernel⟩, List.mem_of_getElem? (i := 889) (by decide +kernel), List.mem_of_getElem? (i := 1160) (by decide +kernel), List.mem_of_getElem? (i := 1161) (by decide +kernel)⟩
theorem lw_p36 : lw_okq (⟨"ParcelRingModel", "goes", "()Z"⟩, 31) := ⟨⟨by decide +kernel, by decide +kernel⟩, List.mem_of_getElem? (i := 889) (by decide +kernel), List.mem_of_getElem? (i := 1164) (by decide +kernel), List.mem_of_getElem? (i := 1165) (by decide +kernel)⟩
theorem lw_p37 : lw_okq (⟨"ParcelRingModel", "stopNow", "()I"⟩, 31) := ⟨⟨by decide +kernel, by decide +kernel⟩, List.mem_of_getElem? (i := 889) (by decide +kernel), List.mem_of_getElem? (i := 1168) (by decide +kernel), List.mem_of_getElem? (i := 1169) (by decide +kernel)⟩
theorem lw_p38 : lw_okq (⟨"ParcelRingModel", "goesTo", "(II)I"⟩, 31) := ⟨⟨by decide +kernel, by decide +kernel⟩, List.mem_of_getElem? (i := 889) (by decide +kernel), List.mem_of_getElem? (i := 1172) (by decide +kernel), List.mem_of_getElem? (i := 1173) (by decide +kernel)⟩
theorem lw_p39 : lw_okq (⟨"ParcelRingModel", "evening", "(I)I"⟩, 31) := ⟨⟨by decide +kernel, by decide +kernel⟩, List.mem_of_getElem? (i := 889) (by decide +kernel), List.mem_of_getElem? (i := 1176) (by decide +kernel), List.mem_of_getElem? (i := 1177) (by decide +kernel)⟩
theorem lw_p40 : lw_okq (⟨"ParcelRingModel", "laysBy", "()V"⟩, 31) := ⟨⟨by decide +kernel, by decide +kernel⟩, List.mem_of_getElem? (i := 889) (by decide +kernel), List.mem_of_getElem? (i := 1189) (by decide +kernel), List.mem_of_getElem? (i := 1190) (by decide +kernel)⟩
theorem lw_p41 : lw_okq (⟨"ParcelRingModel", "goesMany", "(I)I"⟩, 31) := ⟨⟨by decide +kernel, by decide +kernel⟩, List.mem_of_getElem? (i := 889) (by decide +kernel), List.mem_of_getElem? (i := 1193) (by decide +kernel), List.mem_of_getElem? (i := 1194) (by decide +kernel)⟩
theorem lw_p42 : lw_okq (⟨"ParcelRingModel", "spread", "()I"⟩, 31) := ⟨⟨by decide +kernel, by decide +kernel⟩, List.mem_of_getElem? (i := 889) (by decide +kernel), List.mem_of_getElem? (i := 1197) (by decide +kernel), List.mem_of_getElem? (i := 1198) (by decide +kernel)⟩
theorem lw_p43 : lw_okq (⟨"ParcelRingModel", "without", "()I"⟩, 31) := ⟨⟨by decide +kernel, by decide +kernel⟩, List.mem_of_getElem? (i := 889) (by decide +kernel), List.mem_of_getElem? (i := 1201) (by decide +kernel), List.mem_of_getElem? (i := 1202) (by decide +kernel)⟩
theorem lw_p44 : lw_okq (⟨"ParcelRingModel", "laysBack", "()V"⟩, 31) := ⟨⟨by decide +kernel, by decide +kernel⟩, List.mem_of_getElem? (i := 889) (by decide +kernel), List.mem_of_getElem? (i := 1205) (by decide +kernel), List.mem_of_getElem? (i := 1206) (by decide +kernel)⟩
theorem lw_p45 : lw_okq (⟨"ParcelRingModel", "parse", "()I"⟩, 31) := ⟨⟨by decide +kernel, by decide +kernel⟩, List.mem_of_getElem? (i := 889) (by decide +kernel), List.mem_of_getElem? (i := 1251) (by decide +kernel), List.mem_of_getElem? (i := 1252) (by decide +kernel)⟩
theorem lw_p46 : lw_okq (⟨"ParcelRingModel", "nextToken", "()V"⟩, 31) := ⟨⟨by decide +kernel, by decide +kernel⟩, List.mem_of_getElem? (i := 889) (by decide +kernel), List.mem_of_getElem? (i := 1255) (by decide +kernel), List.mem_of_getElem? (i := 1256) (by decide +kernel)⟩
theorem lw_p47 : lw_okq (⟨"ParcelRingModel", "isLetter", "(I)Z"⟩, 31) := ⟨⟨by decide +kernel, by decide +kernel⟩, List.mem_of_getElem? (i := 889) (by decide +kernel), List.mem_of_getElem? (i := 1259) (by decide +kernel), List.mem_of_getElem? (i := 1260) (by decide +kernel)⟩
def lw_privs_3 : List (MethodName × Nat) := [(⟨"ParcelRingModel", "many", "()I"⟩, 31), (⟨"ParcelRingModel", "landsAt", "(I)I"⟩, 31), (⟨"ParcelRingModel", "roundOf", "()I"⟩, 31), (⟨"ParcelRingModel", "turn", "()I"⟩, 31), (⟨"ParcelRingModel", "goes", "()Z"⟩, 31), (⟨"ParcelRingModel", "stopNow", "()I"⟩, 31), (⟨"ParcelRingModel", "goesTo", "(II)I"⟩, 31), (⟨"ParcelRingModel", "evening", "(I)I"⟩, 31), (⟨"ParcelRingModel", "laysBy", "()V"⟩, 31), (⟨"ParcelRingModel", "goesMany", "(I)I"⟩, 31), (⟨"ParcelRingModel", "spread", "()I"⟩, 31), (⟨"ParcelRingModel", "without", "()I"⟩, 31), (⟨"ParcelRingModel", "laysBack", "()V"⟩, 31), (⟨"ParcelRingModel", "parse", "()I"⟩, 31), (⟨"ParcelRingModel", "nextToken", "()V"⟩, 31), (⟨"ParcelRingModel", "isLetter", "(I)Z"⟩, 31)]
theorem lw_r3 : ∀ q ∈ lw_privs_3, lw_okq q := List.forall_mem_cons.mpr ⟨lw_p32, List.forall_mem_cons.mpr ⟨lw_p33, List.forall_mem_cons.mpr ⟨lw_p34, List.forall_mem_cons.mpr ⟨lw_p35, List.forall_mem_cons.mpr ⟨lw_p36, List.forall_mem_cons.mpr ⟨lw_p37, List.forall_mem_cons.mpr ⟨lw_p38, List.forall_mem_cons.mpr ⟨lw_p39, List.forall_mem_cons.mpr ⟨lw_p40, List.forall_mem_cons.mpr ⟨lw_p41, List.forall_mem_cons.mpr ⟨lw_p42, List.forall_mem_cons.mpr ⟨lw_p43, List.forall_mem_cons.mpr ⟨lw_p44, List.forall_mem_cons.mpr ⟨lw_p45, List.forall_mem_cons.mpr ⟨lw_p46, List.forall_mem_cons.mpr ⟨lw_p47, fun _ h => absurd h List.not_mem_nil⟩⟩⟩⟩⟩⟩⟩⟩⟩⟩⟩⟩⟩⟩⟩⟩
theorem lw_p48 : lw_okq (⟨"ParcelRingModel", "isDigit", "(I)Z"⟩, 31) := ⟨⟨by decide +kernel, by decide +kernel⟩, List.mem_of_getElem? (i := 889) (by decide +kernel), List.mem_of_getElem? (i := 1265) (by decide +kernel), List.mem_of_getElem? (i := 1266) (by decide +kernel)⟩
theorem lw_p49 : lw_okq (⟨"ParcelRingModel", "key", "()I"⟩, 31) := ⟨⟨by decide +kernel, by decide +kernel⟩, List.mem_of_getElem? (i := 889) (by decide +kernel), List.mem_of_getElem? (i := 1271) (by decide +kernel), List.mem_of_getElem? (i := 1272) (by decide +kernel)⟩
theorem lw_p50 : lw_okq (⟨"ParcelRingModel", "isWordAt", "(IIII)Z"⟩, 31) := ⟨⟨by decide +kernel, by decide +kernel⟩, List.mem_of_getElem? (i := 889) (by decide +kernel), List.mem_of_getElem? (i := 1275) (by decide +kernel), List.mem_of_getElem? (i := 1276) (by decide +kernel)⟩
theorem lw_p51 : lw_okq (⟨"ParcelRingModel", "either", "(I)Z"⟩, 31) := ⟨⟨by decide +kernel, by decide +kernel⟩, List.mem_of_getElem? (i := 889) (by decide +kernel), List.mem_of_getElem? (i := 1279) (by decide +kernel), List.mem_of_getElem? (i := 1280) (by decide +kernel)⟩
theorem lw_p52 : lw_okq (⟨"ParcelRingModel", "both", "(I)Z"⟩, 31) := ⟨⟨by decide +kernel, by decide +kernel⟩, List.mem_of_getElem? (i := 889) (by decide +kernel), List.mem_of_getElem? (i := 1283) (by decide +kernel), List.mem_of_getElem? (i := 1284) (by decide +kernel)⟩
theorem lw_p53 : lw_okq (⟨"ParcelRingModel", "test", "(I)Z"⟩, 31) := ⟨⟨by decide +kernel, by decide +kernel⟩, List.mem_of_getElem? (i := 889) (by decide +kernel), List.mem_of_getElem? (i := 1287) (by decide +kernel), List.mem_of_getElem? (i := 1288) (by decide +kernel)⟩
theorem lw_p54 : lw_okq (⟨"ParcelRingModel", "sum", "(I)Z"⟩, 31) := ⟨⟨by decide +kernel, by decide +kernel⟩, List.mem_of_getElem? (i := 889) (by decide +kernel), List.mem_of_getElem? (i := 1291) (by decide +kernel), List.mem_of_getElem? (i := 1292) (by decide +kernel)⟩
theorem lw_p55 : lw_okq (⟨"ParcelRingModel", "term", "(I)Z"⟩, 31) := ⟨⟨by decide +kernel, by decide +kernel⟩, List.mem_of_getElem? (i := 889) (by decide +kernel), List.mem_of_getElem? (i := 1295) (by decide +kernel), List.mem_of_getElem? (i := 1296) (by decide +kernel)⟩
theorem lw_p56 : lw_okq (⟨"ParcelRingModel", "part0", "(I)Z"⟩, 31) := ⟨⟨by decide +kernel, by decide +kernel⟩, List.mem_of_getElem? (i := 889) (by decide +kernel), List.mem_of_getElem? (i := 1299) (by decide +kernel), List.mem_of_getElem? (i := 1300) (by decide +kernel)⟩
theorem lw_p57 : lw_okq (⟨"ParcelRingModel", "step", "(II)V"⟩, 31) := ⟨⟨by decide +kernel, by decide +kernel⟩, List.mem_of_getElem? (i := 889) (by decide +kernel), List.mem_of_getElem? (i := 1303) (by decide +kernel), List.mem_of_getElem? (i := 1304) (by decide +kernel)⟩
theorem lw_p58 : lw_okq (⟨"ParcelRingModel", "isSign", "(I)Z"⟩, 31) := ⟨⟨by decide +kernel, by decide +kernel⟩, List.mem_of_getElem? (i := 889) (by decide +kernel), List.mem_of_getElem? (i := 1310) (by decide +kernel), List.mem_of_getElem? (i := 1311) (by decide +kernel)⟩
theorem lw_p59 : lw_okq (⟨"ParcelRingModel", "isText", "(I)Z"⟩, 31) := ⟨⟨by decide +kernel, by decide +kernel⟩, List.mem_of_getElem? (i := 889) (by decide +kernel), List.mem_of_getElem? (i := 1318) (by decide +kernel), List.mem_of_getElem? (i := 1319) (by decide +kernel)⟩
theorem lw_p60 : lw_okq (⟨"ParcelRingModel", "setAside", "([I[I)V"⟩, 31) := ⟨⟨by decide +kernel, by decide +kernel⟩, List.mem_of_getElem? (i := 889) (by decide +kernel), List.mem_of_getElem? (i := 1388) (by decide +kernel), List.mem_of_getElem? (i := 1389) (by decide +kernel)⟩
def lw_privs_4 : List (MethodName × Nat) := [(⟨"ParcelRingModel", "isDigit", "(I)Z"⟩, 31), (⟨"ParcelRingModel", "key", "()I"⟩, 31), (⟨"ParcelRingModel", "isWordAt", "(IIII)Z"⟩, 31), (⟨"ParcelRingModel", "either", "(I)Z"⟩, 31), (⟨"ParcelRingModel", "both", "(I)Z"⟩, 31), (⟨"ParcelRingModel", "test", "(I)Z"⟩, 31), (⟨"ParcelRingModel", "sum", "(I)Z"⟩, 31), (⟨"ParcelRingModel", "term", "(I)Z"⟩, 31), (⟨"ParcelRingModel", "part0", "(I)Z"⟩, 31), (⟨"ParcelRingModel", "step", "(II)V"⟩, 31), (⟨"ParcelRingModel", "isSign", "(I)Z"⟩, 31), (⟨"ParcelRingModel", "isText", "(I)Z"⟩, 31), (⟨"ParcelRingModel", "setAside", "([I[I)V"⟩, 31)]
theorem lw_r4 : ∀ q ∈ lw_privs_4, lw_okq q := List.forall_mem_cons.mpr ⟨lw_p48, List.forall_mem_cons.mpr ⟨lw_p49, List.forall_mem_cons.mpr ⟨lw_p50, List.forall_mem_cons.mpr ⟨lw_p51, List.forall_mem_cons.mpr ⟨lw_p52, List.forall_mem_cons.mpr ⟨lw_p53, List.forall_mem_cons.mpr ⟨lw_p54, List.forall_mem_cons.mpr ⟨lw_p55, List.forall_mem_cons.mpr ⟨lw_p56, List.forall_mem_cons.mpr ⟨lw_p57, List.forall_mem_cons.mpr ⟨lw_p58, List.forall_mem_cons.mpr ⟨lw_p59, List.forall_mem_cons.mpr ⟨lw_p60, fun _ h => absurd h List.not_mem_nil⟩⟩⟩⟩⟩⟩⟩⟩⟩⟩⟩⟩⟩
def lw_privs : List (MethodName × Nat) := lw_privs_1 ++ (lw_privs_2 ++ (lw_privs_3 ++ (lw_privs_4)))
def lw_tbl : List Cond := k2_sels lw_privs ++ tables_1
theorem lw_privs_ok : ∀ q ∈ lw_privs, lw_okq q := by
  show ∀ q ∈ lw_privs_1 ++ (lw_privs_2 ++ (lw_privs_3 ++ (lw_privs_4))), lw_okq q
  exact List.forall_mem_append.mpr ⟨lw_r1, List.forall_mem_append.mpr ⟨lw_r2, List.forall_mem_append.mpr ⟨lw_r3, lw_r4⟩⟩⟩
end
section
def RX0 : String := "ParcelRing$Child"
def TX0 : u_T := fun k => match k with
  | 0 => ("ParcelRing$Child", "hold", "I", false)
  | 1 => ("ParcelRing$Child", "had", "I", false)
  | _ => ("ParcelRing$Child", "out", "I", false)
def tyX0 : Nat → FieldType := fun k => match k with
  | 0 => .int
  | 1 => .int
  | _ => .int
abbrev wsX00 : List Cond := u_ws RX0 TX0 3
theorem nmX0 : ∀ a, a < 3 → ∀ b, b < 3 → a ≠ b → (TX0 a).2.1 ≠ (TX0 b).2.1 := by decide +kernel
theorem tyX0_ok : ∀ k, k < 3 → parseFieldDescriptor (TX0 k).2.2.1 = some (tyX0 k) := by decide +kernel
def RX1 : String := "ParcelRing$Reader"
def TX1 : u_T := fun k => match k with
  | 0 => ("ParcelRing$Reader", "bytes", "[I", true)
  | 1 => ("ParcelRing$Reader", "length", "I", false)
  | 2 => ("ParcelRing$Reader", "token", "I", false)
  | 3 => ("ParcelRing$Reader", "from", "I", false)
  | 4 => ("ParcelRing$Reader", "until", "I", false)
  | 5 => ("ParcelRing$Reader", "fault", "I", false)
  | 6 => ("ParcelRing$Reader", "key", "I", false)
  | 7 => ("ParcelRing$Reader", "leaves", "I", false)
  | 8 => ("ParcelRing$Reader", "steps", "[I", true)
  | _ => ("ParcelRing$Reader", "stepCount", "I", false)
def tyX1 : Nat → FieldType := fun k => match k with
  | 0 => .array .int
  | 1 => .int
  | 2 => .int
  | 3 => .int
  | 4 => .int
  | 5 => .int
  | 6 => .int
  | 7 => .int
  | 8 => .array .int
  | _ => .int
abbrev wsX10 : List Cond := u_ws RX1 TX1 10
theorem nmX1 : ∀ a, a < 10 → ∀ b, b < 10 → a ≠ b → (TX1 a).2.1 ≠ (TX1 b).2.1 := by decide +kernel
theorem tyX1_ok : ∀ k, k < 10 → parseFieldDescriptor (TX1 k).2.2.1 = some (tyX1 k) := by decide +kernel
def RX2 : String := "ParcelRing$Ring"
def TX2 : u_T := fun k => match k with
  | 0 => ("ParcelRing$Ring", "children", "[LParcelRing$Child;", true)
  | 1 => ("ParcelRing$Ring", "childCount", "I", false)
  | 2 => ("ParcelRing$Ring", "papers", "[I", true)
  | 3 => ("ParcelRing$Ring", "paperCount", "I", false)
  | 4 => ("ParcelRing$Ring", "stops", "[LParcelRing$Stop;", true)
  | 5 => ("ParcelRing$Ring", "stopCount", "I", false)
  | 6 => ("ParcelRing$Ring", "texts", "[LParcelRing$Text;", true)
  | 7 => ("ParcelRing$Ring", "textCount", "I", false)
  | 8 => ("ParcelRing$Ring", "laws", "[I", true)
  | 9 => ("ParcelRing$Ring", "measured", "[I", true)
  | 10 => ("ParcelRing$Ring", "taken", "I", false)
  | 11 => ("ParcelRing$Ring", "way", "I", false)
  | 12 => ("ParcelRing$Ring", "at", "I", false)
  | 13 => ("ParcelRing$Ring", "outRule", "I", false)
  | 14 => ("ParcelRing$Ring", "time", "I", false)
  | 15 => ("ParcelRing$Ring", "sweets", "I", false)
  | 16 => ("ParcelRing$Ring", "forfeits", "I", false)
  | _ => ("ParcelRing$Ring", "z", "I", false)
def tyX2 : Nat → FieldType := fun k => match k with
  | 0 => .array (.object "ParcelRing$Child")
  | 1 => .int
  | 2 => .array .int
  | 3 => .int
  | 4 => .array (.object "ParcelRing$Stop")
  | 5 => .int
  | 6 => .array (.object "ParcelRing$Text")
  | 7 => .int
  | 8 => .array .int
  | 9 => .array .int
  | 10 => .int
  | 11 => .int
  | 12 => .int
  | 13 => .int
  | 14 => .int
  | 15 => .int
  | 16 => .int
  | _ => .int
abbrev wsX20 : List Cond := u_ws RX2 TX2 18
theorem nmX2 : ∀ a, a < 18 → ∀ b, b < 18 → a ≠ b → (TX2 a).2.1 ≠ (TX2 b).2.1 := by decide +kernel
theorem tyX2_ok : ∀ k, k < 18 → parseFieldDescriptor (TX2 k).2.2.1 = some (tyX2 k) := by decide +kernel
def RX3 : String := "ParcelRing$Sheet"
def TX3 : u_T := fun k => match k with
  | 0 => ("ParcelRing$Sheet", "sort", "I", false)
  | 1 => ("ParcelRing$Sheet", "length", "I", false)
  | _ => ("ParcelRing$Sheet", "places", "[I", true)
def tyX3 : Nat → FieldType := fun k => match k with
  | 0 => .int
  | 1 => .int
  | _ => .array .int
abbrev wsX30 : List Cond := u_ws RX3 TX3 3
theorem nmX3 : ∀ a, a < 3 → ∀ b, b < 3 → a ≠ b → (TX3 a).2.1 ≠ (TX3 b).2.1 := by decide +kernel
theorem tyX3_ok : ∀ k, k < 3 → parseFieldDescriptor (TX3 k).2.2.1 = some (tyX3 k) := by decide +kernel
def RX4 : String := "ParcelRing$Slot"
def TX4 : u_T := fun k => match k with
  | 0 => ("ParcelRing$Slot", "thing", "I", false)
  | 1 => ("ParcelRing$Slot", "stop", "LParcelRing$Stop;", true)
  | 2 => ("ParcelRing$Slot", "row", "LParcelRing$Sheet;", true)
  | _ => ("ParcelRing$Slot", "number", "I", false)
def tyX4 : Nat → FieldType := fun k => match k with
  | 0 => .int
  | 1 => .object "ParcelRing$Stop"
  | 2 => .object "ParcelRing$Sheet"
  | _ => .int
abbrev wsX40 : List Cond := u_ws RX4 TX4 4
theorem nmX4 : ∀ a, a < 4 → ∀ b, b < 4 → a ≠ b → (TX4 a).2.1 ≠ (TX4 b).2.1 := by decide +kernel
theorem tyX4_ok : ∀ k, k < 4 → parseFieldDescriptor (TX4 k).2.2.1 = some (tyX4 k) := by decide +kernel
def RX5 : String := "ParcelRing$Stop"
def TX5 : u_T := fun k => match k with
  | 0 => ("ParcelRing$Stop", "kind", "I", false)
  | 1 => ("ParcelRing$Stop", "seconds", "I", false)
  | _ => ("ParcelRing$Stop", "wish", "I", false)
def tyX5 : Nat → FieldType := fun k => match k with
  | 0 => .int
  | 1 => .int
  | _ => .int
abbrev wsX50 : List Cond := u_ws RX5 TX5 3
theorem nmX5 : ∀ a, a < 3 → ∀ b, b < 3 → a ≠ b → (TX5 a).2.1 ≠ (TX5 b).2.1 := by decide +kernel
theorem tyX5_ok : ∀ k, k < 3 → parseFieldDescriptor (TX5 k).2.2.1 = some (tyX5 k) := by decide +kernel
def RX6 : String := "ParcelRing$Text"
def TX6 : u_T := fun k => match k with
  | 0 => ("ParcelRing$Text", "key", "I", true)
  | 1 => ("ParcelRing$Text", "leaves", "I", true)
  | 2 => ("ParcelRing$Text", "steps", "[I", true)
  | _ => ("ParcelRing$Text", "stack", "[I", true)
def tyX6 : Nat → FieldType := fun k => match k with
  | 0 => .int
  | 1 => .int
  | 2 => .array .int
  | _ => .array .int
abbrev wsX60 : List Cond := u_ws RX6 TX6 4
theorem nmX6 : ∀ a, a < 4 → ∀ b, b < 4 → a ≠ b → (TX6 a).2.1 ≠ (TX6 b).2.1 := by decide +kernel
theorem tyX6_ok : ∀ k, k < 4 → parseFieldDescriptor (TX6 k).2.2.1 = some (tyX6 k) := by decide +kernel
def RX7 : String := "ParcelRing"
def TX7 : u_T := fun k => match k with
  | 0 => ("ParcelRing", "now", "LParcelRing$Ring;", true)
  | 1 => ("ParcelRing", "thought", "LParcelRing$Ring;", true)
  | 2 => ("ParcelRing", "image", "LParcelRing$Ring;", true)
  | 3 => ("ParcelRing", "kept", "Z", false)
  | 4 => ("ParcelRing", "tape", "LParcelRing$Reader;", true)
  | 5 => ("ParcelRing", "sheets", "[LParcelRing$Sheet;", true)
  | 6 => ("ParcelRing", "slots", "[LParcelRing$Slot;", true)
  | 7 => ("ParcelRing", "waiting", "[I", true)
  | _ => ("ParcelRing", "waits", "I", false)
def tyX7 : Nat → FieldType := fun k => match k with
  | 0 => .object "ParcelRing$Ring"
  | 1 => .object "ParcelRing$Ring"
  | 2 => .object "ParcelRing$Ring"
  | 3 => .boolean
  | 4 => .object "ParcelRing$Reader"
  | 5 => .array (.object "ParcelRing$Sheet")
  | 6 => .array (.object "ParcelRing$Slot")
  | 7 => .array .int
  | _ => .int
abbrev wsX70 : List Cond := u_ws RX7 TX7 9
theorem nmX7 : ∀ a, a < 9 → ∀ b, b < 9 → a ≠ b → (TX7 a).2.1 ≠ (TX7 b).2.1 := by decide +kernel
theorem tyX7_ok : ∀ k, k < 9 → parseFieldDescriptor (TX7 k).2.2.1 = some (tyX7 k) := by decide +kernel
def RX8 : String := "ParcelRingModel"
def TX8 : u_T := fun k => match k with
  | 0 => ("ParcelRingModel", "s", "[I", true)
  | 1 => ("ParcelRingModel", "image", "[I", true)
  | 2 => ("ParcelRingModel", "aside", "[I", true)
  | 3 => ("ParcelRingModel", "hasImage", "Z", false)
  | 4 => ("ParcelRingModel", "tSort", "[I", true)
  | 5 => ("ParcelRingModel", "tSize", "[I", true)
  | 6 => ("ParcelRingModel", "tNumber", "[I", true)
  | 7 => ("ParcelRingModel", "held", "[I", true)
  | 8 => ("ParcelRingModel", "heldNumber", "[I", true)
  | 9 => ("ParcelRingModel", "heldWorth", "[I", true)
  | 10 => ("ParcelRingModel", "heldSize", "[I", true)
  | 11 => ("ParcelRingModel", "heldRow", "[I", true)
  | 12 => ("ParcelRingModel", "close", "[I", true)
  | 13 => ("ParcelRingModel", "tape", "[I", true)
  | 14 => ("ParcelRingModel", "taped", "I", false)
  | 15 => ("ParcelRingModel", "begin", "I", false)
  | 16 => ("ParcelRingModel", "behind", "I", false)
  | 17 => ("ParcelRingModel", "token", "I", false)
  | 18 => ("ParcelRingModel", "number", "I", false)
  | 19 => ("ParcelRingModel", "letter", "I", false)
  | 20 => ("ParcelRingModel", "deep", "I", false)
  | 21 => ("ParcelRingModel", "turned", "I", false)
  | 22 => ("ParcelRingModel", "laid", "I", false)
  | 23 => ("ParcelRingModel", "laidAt", "I", false)
  | 24 => ("ParcelRingModel", "said", "I", false)
  | 25 => ("ParcelRingModel", "named", "[I", true)
  | 26 => ("ParcelRingModel", "pile", "[I", true)
  | 27 => ("ParcelRingModel", "carried", "[I", true)
  | 28 => ("ParcelRingModel", "waits", "[I", true)
  | 29 => ("ParcelRingModel", "waiting", "I", false)
  | _ => ("ParcelRingModel", "rowDue", "[I", true)
def tyX8 : Nat → FieldType := fun k => match k with
  | 0 => .array .int
  | 1 => .array .int
  | 2 => .array .int
  | 3 => .boolean
  | 4 => .array .int
  | 5 => .array .int
  | 6 => .array .int
  | 7 => .array .int
  | 8 => .array .int
  | 9 => .array .int
  | 10 => .array .int
  | 11 => .array .int
  | 12 => .array .int
  | 13 => .array .int
  | 14 => .int
  | 15 => .int
  | 16 => .int
  | 17 => .int
  | 18 => .int
  | 19 => .int
  | 20 => .int
  | 21 => .int
  | 22 => .int
  | 23 => .int
  | 24 => .int
  | 25 => .array .int
  | 26 => .array .int
  | 27 => .array .int
  | 28 => .array .int
  | 29 => .int
  | _ => .array .int
abbrev wsX80 : List Cond := u_ws RX8 TX8 31
theorem nmX8 : ∀ a, a < 31 → ∀ b, b < 31 → a ≠ b → (TX8 a).2.1 ≠ (TX8 b).2.1 := by decide +kernel
theorem tyX8_ok : ∀ k, k < 31 → parseFieldDescriptor (TX8 k).2.2.1 = some (tyX8 k) := by decide +kernel
def GW : List Cond := lw_tbl.filter goodWord
theorem gw_of {w : Cond} (i : Nat) (h : tables_1[i]? = some w) (hg : goodWord w = true) : w ∈ GW := List.mem_filter.mpr ⟨List.mem_append_right _ (List.mem_of_getElem? h), hg⟩
theorem gw_sel {w : Cond} (i : Nat) (h : (k2_sels lw_privs)[i]? = some w) (hg : goodWord w = true) : w ∈ GW := List.mem_filter.mpr ⟨List.mem_append_left _ (List.mem_of_getElem? h), hg⟩
theorem gw_good {w : Cond} (h : w ∈ GW) : goodWord w = true := (List.mem_filter.mp h).2
theorem gw_in : GoodIn GW GW := fun w h => ⟨h, good_of_word (gw_good h)⟩
theorem gw_cons {w : Cond} (h : w ∈ GW) : GoodIn GW (w :: GW) := fun x hx => (List.mem_cons.mp hx).elim (fun e => by rw [e]; exact gw_in w h) (gw_in x)
/-- the classes whose objects the memory holds, by their numbers -/
def cls : List vw_C := [(RX0, TX0, 3), (RX1, TX1, 10), (RX2, TX2, 18), (RX3, TX3, 3), (RX4, TX4, 4), (RX5, TX5, 3), (RX6, TX6, 4), (RX7, TX7, 9), (RX8, TX8, 31)]
theorem inX0 : ∀ w ∈ u_ws RX0 TX0 3, w ∈ GW := by
  intro w hw
  obtain ⟨j, hj, rfl⟩ := List.mem_map.mp hw
  have hj := List.mem_range.mp hj
  match j, hj with
  | 0, _ => exact gw_of 52 (by decide +kernel) (by decide +kernel)
  | 1, _ => exact gw_of 54 (by decide +kernel) (by decide +kernel)
  | 2, _ => exact gw_of 56 (by decide +kernel) (by decide +kernel)
  | n + 3, hj => omega
theorem inX1 : ∀ w ∈ u_ws RX1 TX1 10, w ∈ GW := by
  intro w hw
  obtain ⟨j, hj, rfl⟩ := List.mem_map.mp hw
  have hj := List.mem_range.mp hj
  match j, hj with
  | 0, _ => exact gw_of 170 (by decide +kernel) (by decide +kernel)
  | 1, _ => exact gw_of 172 (by decide +kernel) (by decide +kernel)
  | 2, _ => exact gw_of 174 (by decide +kernel) (by decide +kernel)
  | 3, _ => exact gw_of 176 (by decide +kernel) (by decide +kernel)
  | 4, _ => exact gw_of 178 (by decide +kernel) (by decide +kernel)
  | 5, _ => exact gw_of 180 (by decide +kernel) (by decide +kernel)
  | 6, _ => exact gw_of 182 (by decide +kernel) (by decide +kernel)
  | 7, _ => exact gw_of 184 (by decide +kernel) (by decide +kernel)
  | 8, _ => exact gw_of 186 (by decide +kernel) (by decide +kernel)
  | 9, _ => exact gw_of 188 (by decide +kernel) (by decide +kernel)
  | n + 10, hj => omega
theorem inX2 : ∀ w ∈ u_ws RX2 TX2 18, w ∈ GW := by
  intro w hw
  obtain ⟨j, hj, rfl⟩ := List.mem_map.mp hw
  have hj := List.mem_range.mp hj
  match j, hj with
  | 0, _ => exact gw_of 116 (by decide +kernel) (by decide +kernel)
  | 1, _ => exact gw_of 118 (by decide +kernel) (by decide +kernel)
  | 2, _ => exact gw_of 120 (by decide +kernel) (by decide +kernel)
  | 3, _ => exact gw_of 122 (by decide +kernel) (by decide +kernel)
  | 4, _ => exact gw_of 124 (by decide +kernel) (by decide +kernel)
  | 5, _ => exact gw_of 126 (by decide +kernel) (by decide +kernel)
  | 6, _ => exact gw_of 128 (by decide +kernel) (by decide +kernel)
  | 7, _ => exact gw_of 130 (by decide +kernel) (by decide +kernel)
  | 8, _ => exact gw_of 132 (by decide +kernel) (by decide +kernel)
  | 9, _ => exact gw_of 134 (by decide +kernel) (by decide +kernel)
  | 10, _ => exact gw_of 136 (by decide +kernel) (by decide +kernel)
  | 11, _ => exact gw_of 138 (by decide +kernel) (by decide +kernel)
  | 12, _ => exact gw_of 140 (by decide +kernel) (by decide +kernel)
  | 13, _ => exact gw_of 142 (by decide +kernel) (by decide +kernel)
  | 14, _ => exact gw_of 144 (by decide +kernel) (by decide +kernel)
  | 15, _ => exact gw_of 146 (by decide +kernel) (by decide +kernel)
  | 16, _ => exact gw_of 148 (by decide +kernel) (by decide +kernel)
  | 17, _ => exact gw_of 150 (by decide +kernel) (by decide +kernel)
  | n + 18, hj => omega
theorem inX3 : ∀ w ∈ u_ws RX3 TX3 3, w ∈ GW := by
  intro w hw
  obtain ⟨j, hj, rfl⟩ := List.mem_map.mp hw
  have hj := List.mem_range.mp hj
  match j, hj with
  | 0, _ => exact gw_of 206 (by decide +kernel) (by decide +kernel)
  | 1, _ => exact gw_of 208 (by decide +kernel) (by decide +kernel)
  | 2, _ => exact gw_of 210 (by decide +kernel) (by decide +kernel)
  | n + 3, hj => omega
theorem inX4 : ∀ w ∈ u_ws RX4 TX4 4, w ∈ GW := by
  intro w hw
  obtain ⟨j, hj, rfl⟩ := List.mem_map.mp hw
  have hj := List.mem_range.mp hj
  match j, hj with
  | 0, _ => exact gw_of 229 (by decide +kernel) (by decide +kernel)
  | 1, _ => exact gw_of 231 (by decide +kernel) (by decide +kernel)
  | 2, _ => exact gw_of 233 (by decide +kernel) (by decide +kernel)
  | 3, _ => exact gw_of 235 (by decide +kernel) (by decide +kernel)
  | n + 4, hj => omega
theorem inX5 : ∀ w ∈ u_ws RX5 TX5 3, w ∈ GW := by
  intro w hw
  obtain ⟨j, hj, rfl⟩ := List.mem_map.mp hw
  have hj := List.mem_range.mp hj
  match j, hj with
  | 0, _ => exact gw_of 74 (by decide +kernel) (by decide +kernel)
  | 1, _ => exact gw_of 76 (by decide +kernel) (by decide +kernel)
  | 2, _ => exact gw_of 78 (by decide +kernel) (by decide +kernel)
  | n + 3, hj => omega
theorem inX6 : ∀ w ∈ u_ws RX6 TX6 4, w ∈ GW := by
  intro w hw
  obtain ⟨j, hj, rfl⟩ := List.mem_map.mp hw
  have hj := List.mem_range.mp hj
  match j, hj with
  | 0, _ => exact gw_of 774 (by decide +kernel) (by decide +kernel)
  | 1, _ => exact gw_of 776 (by decide +kernel) (by decide +kernel)
  | 2, _ => exact gw_of 778 (by decide +kernel) (by decide +kernel)
  | 3, _ => exact gw_of 780 (by decide +kernel) (by decide +kernel)
  | n + 4, hj => omega
theorem inX7 : ∀ w ∈ u_ws RX7 TX7 9, w ∈ GW := by
  intro w hw
  obtain ⟨j, hj, rfl⟩ := List.mem_map.mp hw
  have hj := List.mem_range.mp hj
  match j, hj with
  | 0, _ => exact gw_of 247 (by decide +kernel) (by decide +kernel)
  | 1, _ => exact gw_of 249 (by decide +kernel) (by decide +kernel)
  | 2, _ => exact gw_of 251 (by decide +kernel) (by decide +kernel)
  | 3, _ => exact gw_of 253 (by decide +kernel) (by decide +kernel)
  | 4, _ => exact gw_of 255 (by decide +kernel) (by decide +kernel)
  | 5, _ => exact gw_of 257 (by decide +kernel) (by decide +kernel)
  | 6, _ => exact gw_of 259 (by decide +kernel) (by decide +kernel)
  | 7, _ => exact gw_of 261 (by decide +kernel) (by decide +kernel)
  | 8, _ => exact gw_of 263 (by decide +kernel) (by decide +kernel)
  | n + 9, hj => omega
theorem inX8 : ∀ w ∈ u_ws RX8 TX8 31, w ∈ GW := by
  intro w hw
  obtain ⟨j, hj, rfl⟩ := List.mem_map.mp hw
  have hj := List.mem_range.mp hj
  match j, hj with
  | 0, _ => exact gw_of 925 (by decide +kernel) (by decide +kernel)
  | 1, _ => exact gw_of 927 (by decide +kernel) (by decide +kernel)
  | 2, _ => exact gw_of 929 (by decide +kernel) (by decide +kernel)
  | 3, _ => exact gw_of 931 (by decide +kernel) (by decide +kernel)
  | 4, _ => exact gw_of 933 (by decide +kernel) (by decide +kernel)
  | 5, _ => exact gw_of 935 (by decide +kernel) (by decide +kernel)
  | 6, _ => exact gw_of 937 (by decide +kernel) (by decide +kernel)
  | 7, _ => exact gw_of 939 (by decide +kernel) (by decide +kernel)
  | 8, _ => exact gw_of 941 (by decide +kernel) (by decide +kernel)
  | 9, _ => exact gw_of 943 (by decide +kernel) (by decide +kernel)
  | 10, _ => exact gw_of 945 (by decide +kernel) (by decide +kernel)
  | 11, _ => exact gw_of 947 (by decide +kernel) (by decide +kernel)
  | 12, _ => exact gw_of 949 (by decide +kernel) (by decide +kernel)
  | 13, _ => exact gw_of 951 (by decide +kernel) (by decide +kernel)
  | 14, _ => exact gw_of 953 (by decide +kernel) (by decide +kernel)
  | 15, _ => exact gw_of 955 (by decide +kernel) (by decide +kernel)
  | 16, _ => exact gw_of 957 (by decide +kernel) (by decide +kernel)
  | 17, _ => exact gw_of 959 (by decide +kernel) (by decide +kernel)
  | 18, _ => exact gw_of 961 (by decide +kernel) (by decide +kernel)
  | 19, _ => exact gw_of 963 (by decide +kernel) (by decide +kernel)
  | 20, _ => exact gw_of 965 (by decide +kernel) (by decide +kernel)
  | 21, _ => exact gw_of 967 (by decide +kernel) (by decide +kernel)
  | 22, _ => exact gw_of 969 (by decide +kernel) (by decide +kernel)
  | 23, _ => exact gw_of 971 (by decide +kernel) (by decide +kernel)
  | 24, _ => exact gw_of 973 (by decide +kernel) (by decide +kernel)
  | 25, _ => exact gw_of 975 (by decide +kernel) (by decide +kernel)
  | 26, _ => exact gw_of 977 (by decide +kernel) (by decide +kernel)
  | 27, _ => exact gw_of 979 (by decide +kernel) (by decide +kernel)
  | 28, _ => exact gw_of 981 (by decide +kernel) (by decide +kernel)
  | 29, _ => exact gw_of 983 (by decide +kernel) (by decide +kernel)
  | 30, _ => exact gw_of 985 (by decide +kernel) (by decide +kernel)
  | n + 31, hj => omega
theorem inG {ci : Nat} {q : vw_C} (h : cls[ci]? = some q) : ∀ w ∈ u_ws q.1 q.2.1 q.2.2, w ∈ GW := by
  match ci, h with
  | 0, h => cases h; exact inX0
  | 1, h => cases h; exact inX1
  | 2, h => cases h; exact inX2
  | 3, h => cases h; exact inX3
  | 4, h => cases h; exact inX4
  | 5, h => cases h; exact inX5
  | 6, h => cases h; exact inX6
  | 7, h => cases h; exact inX7
  | 8, h => cases h; exact inX8
  | n + 9, h => simp [cls] at h
def tyF : Nat → Nat → FieldType := fun ci => match ci with
  | 0 => tyX0
  | 1 => tyX1
  | 2 => tyX2
  | 3 => tyX3
  | 4 => tyX4
  | 5 => tyX5
  | 6 => tyX6
  | 7 => tyX7
  | _ => tyX8
theorem tyF_ok {ci : Nat} {q : vw_C} (h : cls[ci]? = some q) : ∀ k, k < q.2.2 → parseFieldDescriptor (q.2.1 k).2.2.1 = some (tyF ci k) := by
  match ci, h with
  | 0, h => cases h; exact tyX0_ok
  | 1, h => cases h; exact tyX1_ok
  | 2, h => cases h; exact tyX2_ok
  | 3, h => cases h; exact tyX3_ok
  | 4, h => cases h; exact tyX4_ok
  | 5, h => cases h; exact tyX5_ok
  | 6, h => cases h; exact tyX6_ok
  | 7, h => cases h; exact tyX7_ok
  | 8, h => cases h; exact tyX8_ok
  | n + 9, h => simp [cls] at h
theorem nmF {ci : Nat} {q : vw_C} (h : cls[ci]? = some q) : ∀ a, a < q.2.2 → ∀ b, b < q.2.2 → a ≠ b → (q.2.1 a).2.1 ≠ (q.2.1 b).2.1 := by
  match ci, h with
  | 0, h => cases h; exact nmX0
  | 1, h => cases h; exact nmX1
  | 2, h => cases h; exact nmX2
  | 3, h => cases h; exact nmX3
  | 4, h => cases h; exact nmX4
  | 5, h => cases h; exact nmX5
  | 6, h => cases h; exact nmX6
  | 7, h => cases h; exact nmX7
  | 8, h => cases h; exact nmX8
  | n + 9, h => simp [cls] at h
end
section
/-! THE V LOGIC: memory as a map from addresses to cells; a method's contract T; a walk's judgement V -/
abbrev pE : Type := (Nat × vp_A) ⊕ (Nat × List Value)
abbrev Mem : Type := Nat → Option pE
/-- class numbers, slot numbers; the array classes; where ABOVE lies; where the String constants and their bytes lie; the script: where, how long, what -/
abbrev Dat : Type := va_G × (Nat → ClassId) × Nat × (Nat → Nat) × (Nat → Nat) × Nat × Nat × (Nat → Int32)
/-- a method: its name, its bytes, its locals, what it returns -/
abbrev Inf : Type := MethodName × ByteArray × Nat × Option FieldType
abbrev wI (I : Inf) : Cond := Cond.code I.1 I.2.1 I.2.2.1 I.2.2.2
def enc (D : Dat) : pE → va_E := fun e => match e with
  | .inl x => .inl (D.2.1 x.1, x.2)
  | .inr o => .inr o
def tyL : List FieldType := [.int, .object "ParcelRing$Child", .object "ParcelRing$Stop", .object "ParcelRing$Text", .object "ParcelRing$Sheet", .object "ParcelRing$Slot"]
def tysOf (D : Dat) : List (ClassId × FieldType) := [(D.2.1 0, .int), (D.2.1 1, .object "ParcelRing$Child"), (D.2.1 2, .object "ParcelRing$Stop"), (D.2.1 3, .object "ParcelRing$Text"), (D.2.1 4, .object "ParcelRing$Sheet"), (D.2.1 5, .object "ParcelRing$Slot")]
theorem tysOf_at (D : Dat) {t : Nat} {ty : FieldType} (h : tyL[t]? = some ty) : (tysOf D)[t]? = some (D.2.1 t, ty) := by
  match t, h with
  | 0, h => cases h; rfl
  | 1, h => cases h; rfl
  | 2, h => cases h; rfl
  | 3, h => cases h; rfl
  | 4, h => cases h; rfl
  | 5, h => cases h; rfl
  | n + 6, h => simp [tyL] at h
def Rl (D : Dat) (m : Mem) (ws : va_W) : Prop := ∀ (a : Nat) (x : va_E), (a, x) ∈ ws ↔ ∃ e, m a = some e ∧ x = enc D e
def mup (m : Mem) (a : Nat) (e : pE) : Mem := fun q => if q = a then some e else m q
theorem mup_s {m : Mem} {a : Nat} {e : pE} : mup m a e a = some e := by simp [mup]
theorem mup_n {m : Mem} {a b : Nat} {e : pE} (h : ¬ b = a) : mup m a e b = m b := by simp [mup, h]
theorem Rl.at {D : Dat} {m : Mem} {ws : va_W} (h : Rl D m ws) {a : Nat} {e : pE} (ha : m a = some e) : ∃ q0 : Nat, ws[q0]? = some (a, enc D e) := List.getElem?_of_mem ((h a _).mpr ⟨e, ha, rfl⟩)
theorem Rl.dom {D : Dat} {m : Mem} {ws : va_W} (h : Rl D m ws) {k : Nat} {q : Nat × va_E} (hk : ws[k]? = some q) : ∃ e, m q.1 = some e := by
  obtain ⟨e, h1, -⟩ := (h q.1 q.2).mp (List.mem_of_getElem? hk)
  exact ⟨e, h1⟩
theorem Rl.set {D : Dat} {m : Mem} {ws : va_W} {A : Nat → Prop} (h : Rl D m ws) (hD : va_D A ws) {q0 a : Nat} {x : va_E} (h0 : ws[q0]? = some (a, x)) (e : pE) : Rl D (mup m a e) (ws.set q0 (a, enc D e)) := by
  have hl := (List.getElem?_eq_some_iff.mp h0).1
  intro b y
  constructor
  · intro hb
    obtain ⟨k, hk⟩ := List.getElem?_of_mem hb
    by_cases hkq : k = q0
    · subst hkq
      rw [List.getElem?_set_self hl] at hk
      cases hk
      exact ⟨e, mup_s, rfl⟩
    · rw [List.getElem?_set_ne (Ne.symm hkq)] at hk
      have hne : ¬ b = a := fun z => hkq (hD.1 k q0 _ _ hk h0 z)
      obtain ⟨e', h1, h2⟩ := (h b y).mp (List.mem_of_getElem? hk)
      exact ⟨e', by rw [mup_n hne]; exact h1, h2⟩
  · rintro ⟨e', h1, rfl⟩
    by_cases hba : b = a
    · subst hba
      rw [mup_s] at h1
      cases h1
      exact List.mem_of_getElem? (i := q0) (List.getElem?_set_self hl)
    · rw [mup_n hba] at h1
      obtain ⟨k, hk⟩ := h.at h1
      have hkq : ¬ k = q0 := fun z => hba (by subst z; rw [h0] at hk; cases hk; rfl)
      exact List.mem_of_getElem? (i := k) (by rw [List.getElem?_set_ne (Ne.symm hkq)]; exact hk)
theorem Rl.push {D : Dat} {m : Mem} {ws : va_W} (h : Rl D m ws) {q : Nat} (hq : m q = none) (e : pE) : Rl D (mup m q e) (ws ++ [(q, enc D e)]) := by
  intro b y
  constructor
  · intro hb
    rcases List.mem_append.mp hb with hb | hb
    · obtain ⟨e', h1, h2⟩ := (h b y).mp hb
      have hne : ¬ b = q := fun z => by rw [z, hq] at h1; cases h1
      exact ⟨e', by rw [mup_n hne]; exact h1, h2⟩
    · cases List.mem_singleton.mp hb
      exact ⟨e, mup_s, rfl⟩
  · rintro ⟨e', h1, rfl⟩
    by_cases hba : b = q
    · subst hba
      rw [mup_s] at h1
      cases h1
      exact List.mem_append_right _ (List.mem_singleton.mpr rfl)
    · rw [mup_n hba] at h1
      exact List.mem_append_left _ ((h b _).mpr ⟨e', h1, rfl⟩)
theorem Rl.fresh {D : Dat} {m : Mem} {ws : va_W} {A : Nat → Prop} (h : Rl D m ws) {q : Nat} {x : va_E} (hD : va_D A (ws ++ [(q, x)])) : m q = none := by
  cases hm : m q with
  | none => rfl
  | some e =>
    obtain ⟨k, hk⟩ := h.at hm
    have hl := (List.getElem?_eq_some_iff.mp hk).1
    have := hD.1 k ws.length (q, enc D e) (q, x) (by rw [List.getElem?_append_left hl]; exact hk) (by simp) rfl
    omega
/-- the world of a walk: the memory lies in the heap, what was there before and isn't the walk's own is unchanged -/
def Wd (D : Dat) (A : Nat → Prop) (m : Mem) (H0 H : Heap) (locs : List Loc) : Prop := ∃ ws : va_W, Rl D m ws ∧ va_P D.1 cls ws H ∧ va_D A ws ∧ va_S A H0 H locs
/-- what a method may change -/
def Am (m : Mem) (sz : Nat) : Nat → Prop := fun q => m q ≠ none ∨ sz ≤ q
-- what stands apart from the memory: words of nest mates, the table ABOVE, the String constants
def NestW : List Cond := [.methodLinkNest "ParcelRing$Ring" 46 ⟨"ParcelRing$Child", "<init>", "()V"⟩ "ParcelRing", .methodLinkNest "ParcelRing$Ring" 47 ⟨"ParcelRing$Stop", "<init>", "()V"⟩ "ParcelRing", .methodLinkNest "ParcelRing" 24 ⟨"ParcelRing$Reader", "<init>", "()V"⟩ "ParcelRing", .methodLinkNest "ParcelRing" 45 ⟨"ParcelRing$Sheet", "<init>", "()V"⟩ "ParcelRing", .methodLinkNest "ParcelRing" 46 ⟨"ParcelRing$Slot", "<init>", "()V"⟩ "ParcelRing", .methodLinkNest "ParcelRing$Slot" 17 ⟨"ParcelRing$Stop", "<init>", "()V"⟩ "ParcelRing", .methodLinkNest "ParcelRing$Slot" 24 ⟨"ParcelRing$Sheet", "<init>", "()V"⟩ "ParcelRing", .methodLinkNest "ParcelRing$Ring" 98 ⟨"ParcelRing", "within", "(III)Z"⟩ "ParcelRing", .methodLinkNest "ParcelRing$Ring" 145 ⟨"ParcelRing", "heldWithin", "(III)I"⟩ "ParcelRing", .methodLinkNest "ParcelRing$Stop" 21 ⟨"ParcelRing", "isKind", "(I)Z"⟩ "ParcelRing", .methodLinkNest "ParcelRing$Sheet" 34 ⟨"ParcelRing", "within", "(III)Z"⟩ "ParcelRing", .methodLinkNest "ParcelRing$Reader" 67 ⟨"ParcelRing", "within", "(III)Z"⟩ "ParcelRing", .fieldLinkNest "ParcelRing$Stop" 25 "ParcelRing" "ABOVE" "[I" "ParcelRing"]
theorem nest_warm {s U : State} (hW : s.WarmedH U.vm) (h : ∀ w ∈ NestW, va_Nw w s) : ∀ w ∈ NestW, va_Nw w U := by
  intro w hw
  have h0 := h w hw
  simp only [NestW, List.mem_cons, List.mem_nil_iff, or_false] at hw
  rcases hw with rfl | rfl | rfl | rfl | rfl | rfl | rfl | rfl | rfl | rfl | rfl | rfl | rfl <;> first | exact va_Nw.warmM hW h0 | exact va_Nw.warmF hW h0
theorem nest_tab : ∀ w ∈ NestW, w.onTables = true := by
  intro w hw
  simp only [NestW, List.mem_cons, List.mem_nil_iff, or_false] at hw
  rcases hw with rfl | rfl | rfl | rfl | rfl | rfl | rfl | rfl | rfl | rfl | rfl | rfl | rfl <;> rfl
def abv (j : Nat) : Int32 := match j with
  | 3 => 1
  | 4 => 2
  | _ => 0
def strT : List (Nat × String) := [(87, "hold"), (93, "stop"), (95, "fine"), (121, "haf"), (123, "spt"), (125, "ap")]
def strL : List Nat := [4, 4, 4, 3, 3, 2]
def strB : List (List Int32) := [[104, 111, 108, 100], [115, 116, 111, 112], [102, 105, 110, 101], [104, 97, 102], [115, 112, 116], [97, 112]]
def Ext (D : Dat) (A : Nat → Prop) (U : State) (H : Heap) : Prop :=
  (∀ w ∈ NestW, va_Nw w U) ∧ va_Z "ParcelRing" "ABOVE" "[I" (.ref D.2.2.1) A U H ∧ va_T .int D.2.2.1 6 (fun j => .int (abv j)) A U H ∧
  vk_S 6 strL strB D.2.2.2.1 D.2.2.2.2.1 A U H ∧ (∀ (i : Nat) (q : Nat × String), strT[i]? = some q → vk_R "ParcelRing$Reader" q.1 q.2 (D.2.2.2.1 i) U) ∧
  va_Z "java/lang/String" "COMPACT_STRINGS" "Z" (.int 1) A U H ∧ va_Zq "jdk/internal/util/Preconditions" "SIOOBE_FORMATTER" "Ljava/util/function/BiFunction;" A U H ∧ va_T .int D.2.2.2.2.2.1 D.2.2.2.2.2.2.1 (fun j => .int (D.2.2.2.2.2.2.2 j)) A U H
theorem Ext.blind {D : Dat} {A : Nat → Prop} {U V : State} {H : Heap} (hv : V.vm = U.vm) (h : Ext D A U H) : Ext D A V H := by
  have ha : U.vm.Alike V.vm := by rw [hv]; exact Vm.Alike.refl U.vm
  obtain ⟨h1, h2, h3, h4, h5, h6, h7, h8⟩ := h
  exact ⟨fun w hw => va_Nw.same (nest_tab w hw) hv.symm (h1 w hw), h2.moved ha, h3.moved ha, h4.moved ha, fun i q hq => (h5 i q hq).same hv, h6.moved ha, h7.moved ha, h8.moved ha⟩
theorem Ext.move {D : Dat} {A B : Nat → Prop} {s U : State} {H : Heap} {locs : List Loc} (h : Ext D A s s.heap) (hS : va_S A s.heap H locs) (hW : s.WarmedH U.vm) (hB : ∀ q, B q → A q) : Ext D B U H := by
  obtain ⟨h1, h2, h3, h4, h5, h6, h7, h8⟩ := h
  have hq : ∀ a : Nat, a < s.heap.size → ¬ A a → H[a]? = s.heap[a]? := hS.2.1
  have ha := hW.alike
  exact ⟨nest_warm hW h1, ((h2.kept hq).moved ha).narrow hB, ((h3.kept hq).moved ha).narrow hB, ((h4.kept hq).moved ha).narrow hB, fun i q h => (h5 i q h).warm hW, ((h6.kept hq).moved ha).narrow hB, ((h7.kept hq).moved ha).narrow hB, ((h8.kept hq).moved ha).narrow hB⟩
def rmOf (d mc ms : Nat) : Room := { frames := d, cells := mc, slots := ms, locals := 40 * d }
/-- a contract's start -/
def Pw (D : Dat) (m : Mem) (sz : Nat) (U : State) : Prop := U.heap.size = sz ∧ (∃ ws : va_W, Rl D m ws ∧ va_P D.1 cls ws U.heap ∧ va_D (fun _ => True) ws) ∧ va_K D.1 cls (tysOf D) U ∧ Ext D (Am m sz) U U.heap
/-- a contract's end -/
def Qw (D : Dat) (m : Mem) (sz : Nat) (Q : Option Value → Mem → Prop) : Array Value → State → Outcome → State → Prop := fun _ st oc t =>
  (∃ (r : Option Value) (m1 : Mem) (ws : va_W), oc = .returned r ∧ Q r m1 ∧ Rl D m1 ws ∧ va_P D.1 cls ws t.heap ∧ va_D (Am m sz) ws) ∧ va_F (Am m sz) st t
/-- THE CONTRACT: from the memory m, with these arguments, at most d frames deep, the method returns and Q holds of its answer and the memory then; mc cells of ms slots may be new -/
def T (D : Dat) (d : Nat) (I : Inf) (av : List Value) (m : Mem) (mc ms : Nat) (Q : Option Value → Mem → Prop) : Prop :=
  ∀ (l : Launch) (sz : Nat), Met l I.1 (wI I :: GW) (rmOf d mc ms) (va_Pc av (Pw D m sz)) (Qw D m sz Q) mc ms (Am m sz)
def Cx (D : Dat) (I : Inf) (A : Nat → Prop) (p : Program) (s : State) (mm : MethodId) (args : Array Value) (meth : Method) (c : Code) : Prop :=
  p.tables.exec = Jvm.exec ∧ c.code = I.2.1 ∧ c.maxLocals = I.2.2.1 ∧ meth.sig.returnType = I.2.2.2 ∧ meth.locks = false ∧ meth.name = I.1.name ∧ s.vm.findClass I.1.cls = some mm.cls ∧ (∀ w ∈ GW, w.before args s = true) ∧ va_K D.1 cls (tysOf D) s ∧ Ext D A s s.heap ∧ (∀ q, s.heap.size ≤ q → A q)
/-- THE WALK: in method I at pc with these locals, this stack and this memory, with kc cells of ks slots left to make: it comes to its end, and Q holds there -/
def RetAt (I : Inf) (pc : Nat) (r : Option Value) (st : List Value) : Prop :=
  (∃ (v : Int32) (ty : FieldType), decode I.2.1 pc = .ok (.ireturn, 1) ∧ r = some (.int v) ∧ st = [.int v] ∧ I.2.2.2 = some ty ∧ narrow ty (.int v) = .int v) ∨
  (decode I.2.1 pc = .ok (.return_, 1) ∧ r = none ∧ st = [] ∧ I.2.2.2 = none) ∨
  (∃ (x : Option Nat) (rt : FieldType), decode I.2.1 pc = .ok (.areturn, 1) ∧ r = some (va_rf x) ∧ st = [va_rf x] ∧ I.2.2.2 = some rt ∧ ((∃ n, rt = .object n) ∨ ∃ t, rt = .array t))
def V (D : Dat) (d : Nat) (I : Inf) (pc : Nat) (L : List (Nat × Value)) (st : List Value) (m : Mem) (kc ks : Nat) (Q : Option Value → Mem → Prop) : Prop :=
  ∀ (p : Program) (l : Launch) (e : Env) (R : Room) (s : State) (mm : MethodId) (args : Array Value) (below : List Frame) (meth : Method) (c : Code) (H : Heap) (locs : List Loc) (cells slots : Nat) (ls : Array Slot) (A : Nat → Prop) (mc ms : Nat) (QQ : State → Prop),
    Cx D I A p s mm args meth c → Wd D A m s.heap H locs → lv_has ls I.2.2.1 L → cells + kc ≤ mc → slots + ks ≤ ms → (d ≤ R.frames ∧ 40 * d ≤ R.locals ∧ mc ≤ R.cells ∧ ms ≤ R.slots) →
    (∀ (r : Option Value) (m1 : Mem) (H1 : Heap) (locs1 : List Loc) (cells1 slots1 : Nat) (ls1 : Array Slot) (pc1 : Nat) (st1 : List Value), Q r m1 → Wd D A m1 s.heap H1 locs1 → RetAt I pc1 r st1 → cells1 ≤ mc → slots1 ≤ ms → W p l e R s mm args below meth c H1 locs1 cells1 slots1 QQ (F0 mm pc1 ls1 st1)) →
    W p l e R s mm args below meth c H locs cells slots QQ (F0 mm pc ls st)
theorem T_of_V {D : Dat} {d : Nat} {I : Inf} {av : List Value} {m : Mem} {mc ms : Nat} {Q : Option Value → Mem → Prop} (hy : plainName I.1.cls = true) (ha : (lg_sl av).length ≤ I.2.2.1) (k : V D d I 0 (lv_args 0 av) [] m mc ms Q) : T D d I av m mc ms Q := by
  intro l sz
  refine Met.ofW (cc := I.2.1) (maxL := I.2.2.1) (ret := I.2.2.2) hy rfl ?_
  intro p e s mm args below meth c s₁ B hml hv
  obtain ⟨rfl, hsz, ⟨ws, hR, hP, hD0⟩, hK, hE⟩ := hv
  have hts := atoms_spec (ws := wI I :: GW) B.pre
  have hD : va_D (Am m sz) ws := hD0.weaken (fun k q hk _ => Or.inl (by obtain ⟨e, he⟩ := hR.dom hk; rw [he]; exact fun z => by cases z))
  have hl := lv_entry av (n := I.2.2.1) ha
  rw [lg_entry_eq]
  have hlocks := B.notSynchronized
  refine k p l e _ s mm _ below meth c s.heap [] 0 0 _ (Am m sz) mc ms _ ⟨B.exec, B.bytes, hml, B.returns, B.notSynchronized, (name_of_methodNamed B.named B.method).1, findClass_of_methodNamed B.named, fun w hw => hts w (List.mem_cons_of_mem _ hw), hK, hE, fun q hq => Or.inr (by omega)⟩ ⟨ws, hR, hP, hD, va_S.rf⟩ hl (by omega) (by omega) ⟨Nat.le_refl d, Nat.le_refl (40 * d), Nat.le_refl mc, Nat.le_refl ms⟩ ?_
  intro r m1 H1 locs1 cells1 slots1 ls1 pc1 st1 hQ hW hr hc1 hs1
  obtain ⟨ws1, hR1, hP1, hD1, hS1⟩ := hW
  refine W.widen (k := mc) (n := ms) hc1 hs1 ?_
  rcases hr with ⟨v, ty, h1, rfl, rfl, h2, h3⟩ | ⟨h1, rfl, rfl, h2⟩ | ⟨x, rt, h1, rfl, rfl, h2, h3⟩
  · exact W.zret B.exec B.bytes (B.returns.trans h2) h3 (fun t ht hWm => ⟨⟨_, m1, ws1, rfl, hQ, hR1, by rw [ht]; exact hP1, hD1⟩, hS1.F ht⟩) hS1.2.2 h1
  · exact W.vret B.exec B.bytes (B.returns.trans h2) (fun t ht hWm => ⟨⟨_, m1, ws1, rfl, hQ, hR1, by rw [ht]; exact hP1, hD1⟩, hS1.F ht⟩) hS1.2.2 h1
  · exact W.aret B.exec B.bytes (B.returns.trans h2) h3 (by cases x; exact Or.inl rfl; exact Or.inr ⟨_, rfl⟩) (fun t ht hWm => ⟨⟨_, m1, ws1, rfl, hQ, hR1, by rw [ht]; exact hP1, hD1⟩, hS1.F ht⟩) hS1.2.2 h1
theorem T_to {D : Dat} {d : Nat} {I : Inf} {av : List Value} {m : Mem} {mc ms : Nat} {Q Q' : Option Value → Mem → Prop} (h : T D d I av m mc ms Q) (hq : ∀ r m1, Q r m1 → Q' r m1) : T D d I av m mc ms Q' := by
  intro l sz p e ha hc hk s mm args below hf happ hP hK
  obtain ⟨k, o, h1, h2, h3, ⟨⟨r, m1, ws, e1, e2, e3⟩, hF⟩, hE⟩ := h l sz p e ha hc hk s mm args below hf happ hP hK
  exact ⟨k, o, h1, h2, h3, ⟨⟨r, m1, ws, e1, hq r m1 e2, e3⟩, hF⟩, hE⟩
section VR
variable {D : Dat} {d : Nat} {I : Inf} {pc pc2 : Nat} {L : List (Nat × Value)} {st : List Value} {m : Mem} {kc ks : Nat} {Q : Option Value → Mem → Prop}
theorem V_kc {kc2 ks2 : Nat} (h1 : kc2 ≤ kc) (h2 : ks2 ≤ ks) (k : V D d I pc L st m kc2 ks2 Q) : V D d I pc L st m kc ks Q := by
  intro p l e R s mm args below meth c H locs cells slots ls A mc ms QQ hC hW hl g1 g2 hRm hq
  exact k p l e R s mm args below meth c H locs cells slots ls A mc ms QQ hC hW hl (by omega) (by omega) hRm hq
theorem V_lv {L2 : List (Nat × Value)} (k : V D d I pc L2 st m kc ks Q) (ps : List Nat) (h : lv_pick L ps = L2) : V D d I pc L st m kc ks Q := by
  intro p l e R s mm args below meth c H locs cells slots ls A mc ms QQ hC hW hl g1 g2 hRm hq
  exact k p l e R s mm args below meth c H locs cells slots ls A mc ms QQ hC hW (lv_sub hl ps h) g1 g2 hRm hq

theorem V_iconst {n : Int} {v : Int32} (hd : decode I.2.1 pc = .ok (.iconst n, 1)) (hv : Int32.ofInt n = v) (k : V D d I pc2 L (.int v :: st) m kc ks Q) (hp : pc2 = pc + 1 := by rfl) : V D d I pc L (st) m kc ks Q := by
  subst hp
  intro p l e R s mm args below meth c H locs cells slots ls A mc ms QQ hC hW hl g1 g2 hRm hq
  exact lv_iconst hC.1 hC.2.1 hd hv (k p l e R s mm args below meth c H locs cells slots ls A mc ms QQ hC hW hl g1 g2 hRm hq)
theorem V_bipush {n : Int} {v : Int32} (hd : decode I.2.1 pc = .ok (.bipush n, 2)) (hv : (Int8.ofInt n).toInt32 = v) (k : V D d I pc2 L (.int v :: st) m kc ks Q) (hp : pc2 = pc + 2 := by rfl) : V D d I pc L (st) m kc ks Q := by
  subst hp
  intro p l e R s mm args below meth c H locs cells slots ls A mc ms QQ hC hW hl g1 g2 hRm hq
  exact lv_bipush hC.1 hC.2.1 hd hv (k p l e R s mm args below meth c H locs cells slots ls A mc ms QQ hC hW hl g1 g2 hRm hq)
theorem V_sipush {n : Int} {v : Int32} (hd : decode I.2.1 pc = .ok (.sipush n, 3)) (hv : (Int16.ofInt n).toInt32 = v) (k : V D d I pc2 L (.int v :: st) m kc ks Q) (hp : pc2 = pc + 3 := by rfl) : V D d I pc L (st) m kc ks Q := by
  subst hp
  intro p l e R s mm args below meth c H locs cells slots ls A mc ms QQ hC hW hl g1 g2 hRm hq
  exact lv_sipush hC.1 hC.2.1 hd hv (k p l e R s mm args below meth c H locs cells slots ls A mc ms QQ hC hW hl g1 g2 hRm hq)
theorem V_lconst {n : Fin 2} {v : Int64} (hd : decode I.2.1 pc = .ok (.lconst n, 1)) (hv : Int64.ofNat (n : Nat) = v) (k : V D d I pc2 L (.long v :: st) m kc ks Q) (hp : pc2 = pc + 1 := by rfl) : V D d I pc L (st) m kc ks Q := by
  subst hp
  intro p l e R s mm args below meth c H locs cells slots ls A mc ms QQ hC hW hl g1 g2 hRm hq
  exact lv_lconst hC.1 hC.2.1 hd hv (k p l e R s mm args below meth c H locs cells slots ls A mc ms QQ hC hW hl g1 g2 hRm hq)
theorem V_null  (hd : decode I.2.1 pc = .ok (.aconst_null, 1))  (k : V D d I pc2 L (.null :: st) m kc ks Q) (hp : pc2 = pc + 1 := by rfl) : V D d I pc L (st) m kc ks Q := by
  subst hp
  intro p l e R s mm args below meth c H locs cells slots ls A mc ms QQ hC hW hl g1 g2 hRm hq
  exact lv_null hC.1 hC.2.1 hd (k p l e R s mm args below meth c H locs cells slots ls A mc ms QQ hC hW hl g1 g2 hRm hq)
theorem V_ldc {index : Nat} {v : Int32} (hd : decode I.2.1 pc = .ok (.ldc index, 2)) (hw : Cond.constant I.1.cls index v ∈ GW) (k : V D d I pc2 L (.int v :: st) m kc ks Q) (hp : pc2 = pc + 2 := by rfl) : V D d I pc L (st) m kc ks Q := by
  subst hp
  intro p l e R s mm args below meth c H locs cells slots ls A mc ms QQ hC hW hl g1 g2 hRm hq
  exact lv_ldc hC.1 hC.2.1 hC.2.2.2.2.2.2.1 (hC.2.2.2.2.2.2.2.1 _ hw) hd (k p l e R s mm args below meth c H locs cells slots ls A mc ms QQ hC hW hl g1 g2 hRm hq)
theorem V_ldcw {index : Nat} {v : Int32} (hd : decode I.2.1 pc = .ok (.ldc_w index, 3)) (hw : Cond.constant I.1.cls index v ∈ GW) (k : V D d I pc2 L (.int v :: st) m kc ks Q) (hp : pc2 = pc + 3 := by rfl) : V D d I pc L (st) m kc ks Q := by
  subst hp
  intro p l e R s mm args below meth c H locs cells slots ls A mc ms QQ hC hW hl g1 g2 hRm hq
  exact lv_ldcw hC.1 hC.2.1 hC.2.2.2.2.2.2.1 (hC.2.2.2.2.2.2.2.1 _ hw) hd (k p l e R s mm args below meth c H locs cells slots ls A mc ms QQ hC hW hl g1 g2 hRm hq)
theorem V_ldc2 {index : Nat} {v : Int64} (hd : decode I.2.1 pc = .ok (.ldc2_w index, 3)) (hw : Cond.constantLong I.1.cls index v ∈ GW) (k : V D d I pc2 L (.long v :: st) m kc ks Q) (hp : pc2 = pc + 3 := by rfl) : V D d I pc L (st) m kc ks Q := by
  subst hp
  intro p l e R s mm args below meth c H locs cells slots ls A mc ms QQ hC hW hl g1 g2 hRm hq
  exact lv_ldc2 hC.1 hC.2.1 hC.2.2.2.2.2.2.1 (hC.2.2.2.2.2.2.2.1 _ hw) hd (k p l e R s mm args below meth c H locs cells slots ls A mc ms QQ hC hW hl g1 g2 hRm hq)
theorem V_iload_n {k0 : Fin 4} {i : Nat} {x : Int32} (hd : decode I.2.1 pc = .ok (.iload_n k0, 1)) (j : Nat) (hj : L[j]? = some (i, .int x)) (hi : (k0 : Nat) = i) (k : V D d I pc2 L (.int x :: st) m kc ks Q) (hp : pc2 = pc + 1 := by rfl) : V D d I pc L (st) m kc ks Q := by
  subst hp
  intro p l e R s mm args below meth c H locs cells slots ls A mc ms QQ hC hW hl g1 g2 hRm hq
  exact lv_iload_n hC.1 hC.2.1 hd hi (lv_at hl j hj) (k p l e R s mm args below meth c H locs cells slots ls A mc ms QQ hC hW hl g1 g2 hRm hq)
theorem V_iload {i : Nat} {x : Int32} (hd : decode I.2.1 pc = .ok (.iload i, 2)) (j : Nat) (hj : L[j]? = some (i, .int x)) (k : V D d I pc2 L (.int x :: st) m kc ks Q) (hp : pc2 = pc + 2 := by rfl) : V D d I pc L (st) m kc ks Q := by
  subst hp
  intro p l e R s mm args below meth c H locs cells slots ls A mc ms QQ hC hW hl g1 g2 hRm hq
  exact lv_iload hC.1 hC.2.1 hd (lv_at hl j hj) (k p l e R s mm args below meth c H locs cells slots ls A mc ms QQ hC hW hl g1 g2 hRm hq)
theorem V_lload_n {k0 : Fin 4} {i : Nat} {x : Int64} (hd : decode I.2.1 pc = .ok (.lload_n k0, 1)) (j : Nat) (hj : L[j]? = some (i, .long x)) (hi : (k0 : Nat) = i) (k : V D d I pc2 L (.long x :: st) m kc ks Q) (hp : pc2 = pc + 1 := by rfl) : V D d I pc L (st) m kc ks Q := by
  subst hp
  intro p l e R s mm args below meth c H locs cells slots ls A mc ms QQ hC hW hl g1 g2 hRm hq
  exact lv_lload_n hC.1 hC.2.1 hd hi (lv_at hl j hj) (k p l e R s mm args below meth c H locs cells slots ls A mc ms QQ hC hW hl g1 g2 hRm hq)
theorem V_lload {i : Nat} {x : Int64} (hd : decode I.2.1 pc = .ok (.lload i, 2)) (j : Nat) (hj : L[j]? = some (i, .long x)) (k : V D d I pc2 L (.long x :: st) m kc ks Q) (hp : pc2 = pc + 2 := by rfl) : V D d I pc L (st) m kc ks Q := by
  subst hp
  intro p l e R s mm args below meth c H locs cells slots ls A mc ms QQ hC hW hl g1 g2 hRm hq
  exact lv_lload hC.1 hC.2.1 hd (lv_at hl j hj) (k p l e R s mm args below meth c H locs cells slots ls A mc ms QQ hC hW hl g1 g2 hRm hq)
theorem V_aload_n {k0 : Fin 4} {i : Nat} {x : Nat} (hd : decode I.2.1 pc = .ok (.aload_n k0, 1)) (j : Nat) (hj : L[j]? = some (i, .ref x)) (hi : (k0 : Nat) = i) (k : V D d I pc2 L (.ref x :: st) m kc ks Q) (hp : pc2 = pc + 1 := by rfl) : V D d I pc L (st) m kc ks Q := by
  subst hp
  intro p l e R s mm args below meth c H locs cells slots ls A mc ms QQ hC hW hl g1 g2 hRm hq
  exact lv_aload_n hC.1 hC.2.1 hd hi (lv_at hl j hj) (k p l e R s mm args below meth c H locs cells slots ls A mc ms QQ hC hW hl g1 g2 hRm hq)
theorem V_aload {i : Nat} {x : Nat} (hd : decode I.2.1 pc = .ok (.aload i, 2)) (j : Nat) (hj : L[j]? = some (i, .ref x)) (k : V D d I pc2 L (.ref x :: st) m kc ks Q) (hp : pc2 = pc + 2 := by rfl) : V D d I pc L (st) m kc ks Q := by
  subst hp
  intro p l e R s mm args below meth c H locs cells slots ls A mc ms QQ hC hW hl g1 g2 hRm hq
  exact lv_aload hC.1 hC.2.1 hd (lv_at hl j hj) (k p l e R s mm args below meth c H locs cells slots ls A mc ms QQ hC hW hl g1 g2 hRm hq)
theorem V_aloadq_n {k0 : Fin 4} {i : Nat} {x : Option Nat} (hd : decode I.2.1 pc = .ok (.aload_n k0, 1)) (j : Nat) (hj : L[j]? = some (i, va_rf x)) (hi : (k0 : Nat) = i) (k : V D d I pc2 L (va_rf x :: st) m kc ks Q) (hp : pc2 = pc + 1 := by rfl) : V D d I pc L st m kc ks Q := by
  subst hp
  intro p l e R s mm args below meth c H locs cells slots ls A mc ms QQ hC hW hl g1 g2 hRm hq
  cases x with
  | none => exact lv_aload_nN hC.1 hC.2.1 hd hi (lv_at hl j hj) (k p l e R s mm args below meth c H locs cells slots ls A mc ms QQ hC hW hl g1 g2 hRm hq)
  | some x => exact lv_aload_n hC.1 hC.2.1 hd hi (lv_at hl j hj) (k p l e R s mm args below meth c H locs cells slots ls A mc ms QQ hC hW hl g1 g2 hRm hq)
theorem V_aloadq {i : Nat} {x : Option Nat} (hd : decode I.2.1 pc = .ok (.aload i, 2)) (j : Nat) (hj : L[j]? = some (i, va_rf x)) (k : V D d I pc2 L (va_rf x :: st) m kc ks Q) (hp : pc2 = pc + 2 := by rfl) : V D d I pc L st m kc ks Q := by
  subst hp
  intro p l e R s mm args below meth c H locs cells slots ls A mc ms QQ hC hW hl g1 g2 hRm hq
  cases x with
  | none => exact lv_aloadN hC.1 hC.2.1 hd (lv_at hl j hj) (k p l e R s mm args below meth c H locs cells slots ls A mc ms QQ hC hW hl g1 g2 hRm hq)
  | some x => exact lv_aload hC.1 hC.2.1 hd (lv_at hl j hj) (k p l e R s mm args below meth c H locs cells slots ls A mc ms QQ hC hW hl g1 g2 hRm hq)
theorem V_istore_n {k0 : Fin 4} {x : Int32} {i : Nat} {L2 : List (Nat × Value)} (hd : decode I.2.1 pc = .ok (.istore_n k0, 1)) (k : V D d I pc2 L2 st m kc ks Q) (hi : (k0 : Nat) = i) (hn : decide (i < I.2.2.1) = true) (hL : (i, Value.int x) :: L.filter (fun q => !(q.1 == i) && !(q.1 + 1 == i && q.2.category == 2)) = L2) (hp : pc2 = pc + 1 := by rfl) : V D d I pc L (Value.int x :: st) m kc ks Q := by
  subst hp
  intro p l e R s mm args below meth c H locs cells slots ls A mc ms QQ hC hW hl g1 g2 hRm hq
  exact lv_istore_n hC.1 hC.2.1 hd hi hl (of_decide_eq_true hn) hL (fun ls hl => k p l e R s mm args below meth c H locs cells slots ls A mc ms QQ hC hW hl g1 g2 hRm hq)
theorem V_istore {x : Int32} {i : Nat} {L2 : List (Nat × Value)} (hd : decode I.2.1 pc = .ok (.istore i, 2)) (k : V D d I pc2 L2 st m kc ks Q)  (hn : decide (i < I.2.2.1) = true) (hL : (i, Value.int x) :: L.filter (fun q => !(q.1 == i) && !(q.1 + 1 == i && q.2.category == 2)) = L2) (hp : pc2 = pc + 2 := by rfl) : V D d I pc L (Value.int x :: st) m kc ks Q := by
  subst hp
  intro p l e R s mm args below meth c H locs cells slots ls A mc ms QQ hC hW hl g1 g2 hRm hq
  exact lv_istore hC.1 hC.2.1 hd hl (of_decide_eq_true hn) hL (fun ls hl => k p l e R s mm args below meth c H locs cells slots ls A mc ms QQ hC hW hl g1 g2 hRm hq)
theorem V_astore_n {k0 : Fin 4} {x : Nat} {i : Nat} {L2 : List (Nat × Value)} (hd : decode I.2.1 pc = .ok (.astore_n k0, 1)) (k : V D d I pc2 L2 st m kc ks Q) (hi : (k0 : Nat) = i) (hn : decide (i < I.2.2.1) = true) (hL : (i, Value.ref x) :: L.filter (fun q => !(q.1 == i) && !(q.1 + 1 == i && q.2.category == 2)) = L2) (hp : pc2 = pc + 1 := by rfl) : V D d I pc L (Value.ref x :: st) m kc ks Q := by
  subst hp
  intro p l e R s mm args below meth c H locs cells slots ls A mc ms QQ hC hW hl g1 g2 hRm hq
  exact lv_astore_n hC.1 hC.2.1 hd hi hl (of_decide_eq_true hn) hL (fun ls hl => k p l e R s mm args below meth c H locs cells slots ls A mc ms QQ hC hW hl g1 g2 hRm hq)
theorem V_astore {x : Nat} {i : Nat} {L2 : List (Nat × Value)} (hd : decode I.2.1 pc = .ok (.astore i, 2)) (k : V D d I pc2 L2 st m kc ks Q)  (hn : decide (i < I.2.2.1) = true) (hL : (i, Value.ref x) :: L.filter (fun q => !(q.1 == i) && !(q.1 + 1 == i && q.2.category == 2)) = L2) (hp : pc2 = pc + 2 := by rfl) : V D d I pc L (Value.ref x :: st) m kc ks Q := by
  subst hp
  intro p l e R s mm args below meth c H locs cells slots ls A mc ms QQ hC hW hl g1 g2 hRm hq
  exact lv_astore hC.1 hC.2.1 hd hl (of_decide_eq_true hn) hL (fun ls hl => k p l e R s mm args below meth c H locs cells slots ls A mc ms QQ hC hW hl g1 g2 hRm hq)
theorem V_astoreq_n {k0 : Fin 4} {x : Option Nat} {i : Nat} {L2 : List (Nat × Value)} (hd : decode I.2.1 pc = .ok (.astore_n k0, 1)) (k : V D d I pc2 L2 st m kc ks Q) (hi : (k0 : Nat) = i) (hn : decide (i < I.2.2.1) = true) (hL : (i, va_rf x) :: L.filter (fun q => !(q.1 == i) && !(q.1 + 1 == i && q.2.category == 2)) = L2) (hp : pc2 = pc + 1 := by rfl) : V D d I pc L (va_rf x :: st) m kc ks Q := by
  subst hp
  intro p l e R s mm args below meth c H locs cells slots ls A mc ms QQ hC hW hl g1 g2 hRm hq
  cases x with
  | none => exact lv_astore_nN hC.1 hC.2.1 hd hi hl (of_decide_eq_true hn) hL (fun ls hl => k p l e R s mm args below meth c H locs cells slots ls A mc ms QQ hC hW hl g1 g2 hRm hq)
  | some x => exact lv_astore_n hC.1 hC.2.1 hd hi hl (of_decide_eq_true hn) hL (fun ls hl => k p l e R s mm args below meth c H locs cells slots ls A mc ms QQ hC hW hl g1 g2 hRm hq)
theorem V_astoreq {x : Option Nat} {i : Nat} {L2 : List (Nat × Value)} (hd : decode I.2.1 pc = .ok (.astore i, 2)) (k : V D d I pc2 L2 st m kc ks Q) (hn : decide (i < I.2.2.1) = true) (hL : (i, va_rf x) :: L.filter (fun q => !(q.1 == i) && !(q.1 + 1 == i && q.2.category == 2)) = L2) (hp : pc2 = pc + 2 := by rfl) : V D d I pc L (va_rf x :: st) m kc ks Q := by
  subst hp
  intro p l e R s mm args below meth c H locs cells slots ls A mc ms QQ hC hW hl g1 g2 hRm hq
  cases x with
  | none => exact lv_astoreN hC.1 hC.2.1 hd hl (of_decide_eq_true hn) hL (fun ls hl => k p l e R s mm args below meth c H locs cells slots ls A mc ms QQ hC hW hl g1 g2 hRm hq)
  | some x => exact lv_astore hC.1 hC.2.1 hd hl (of_decide_eq_true hn) hL (fun ls hl => k p l e R s mm args below meth c H locs cells slots ls A mc ms QQ hC hW hl g1 g2 hRm hq)
theorem V_iinc {n : Int} {x v : Int32} {i : Nat} {L2 : List (Nat × Value)} (hd : decode I.2.1 pc = .ok (.iinc i n, 3)) (j : Nat) (hj : L[j]? = some (i, .int x)) (hv : x + Int32.ofInt n = v) (k : V D d I pc2 L2 st m kc ks Q) (hn : decide (i < I.2.2.1) = true) (hL : (i, Value.int v) :: L.filter (fun q => !(q.1 == i) && !(q.1 + 1 == i && q.2.category == 2)) = L2) (hp : pc2 = pc + 3 := by rfl) : V D d I pc L st m kc ks Q := by
  subst hp
  intro p l e R s mm args below meth c H locs cells slots ls A mc ms QQ hC hW hl g1 g2 hRm hq
  exact lv_iinc hC.1 hC.2.1 hd hl hj hv (of_decide_eq_true hn) hL (fun ls hl => k p l e R s mm args below meth c H locs cells slots ls A mc ms QQ hC hW hl g1 g2 hRm hq)
theorem V_iadd {x y : Int32} (hd : decode I.2.1 pc = .ok (.iadd, 1))  (k : V D d I pc2 L (.int (x + y) :: st) m kc ks Q) (hp : pc2 = pc + 1 := by rfl) : V D d I pc L (.int y :: .int x :: st) m kc ks Q := by
  subst hp
  intro p l e R s mm args below meth c H locs cells slots ls A mc ms QQ hC hW hl g1 g2 hRm hq
  exact lv_iadd hC.1 hC.2.1 hd (k p l e R s mm args below meth c H locs cells slots ls A mc ms QQ hC hW hl g1 g2 hRm hq)
theorem V_isub {x y : Int32} (hd : decode I.2.1 pc = .ok (.isub, 1))  (k : V D d I pc2 L (.int (x - y) :: st) m kc ks Q) (hp : pc2 = pc + 1 := by rfl) : V D d I pc L (.int y :: .int x :: st) m kc ks Q := by
  subst hp
  intro p l e R s mm args below meth c H locs cells slots ls A mc ms QQ hC hW hl g1 g2 hRm hq
  exact lv_isub hC.1 hC.2.1 hd (k p l e R s mm args below meth c H locs cells slots ls A mc ms QQ hC hW hl g1 g2 hRm hq)
theorem V_imul {x y : Int32} (hd : decode I.2.1 pc = .ok (.imul, 1))  (k : V D d I pc2 L (.int (x * y) :: st) m kc ks Q) (hp : pc2 = pc + 1 := by rfl) : V D d I pc L (.int y :: .int x :: st) m kc ks Q := by
  subst hp
  intro p l e R s mm args below meth c H locs cells slots ls A mc ms QQ hC hW hl g1 g2 hRm hq
  exact lv_imul hC.1 hC.2.1 hd (k p l e R s mm args below meth c H locs cells slots ls A mc ms QQ hC hW hl g1 g2 hRm hq)
theorem V_iand {x y : Int32} (hd : decode I.2.1 pc = .ok (.iand, 1))  (k : V D d I pc2 L (.int (x &&& y) :: st) m kc ks Q) (hp : pc2 = pc + 1 := by rfl) : V D d I pc L (.int y :: .int x :: st) m kc ks Q := by
  subst hp
  intro p l e R s mm args below meth c H locs cells slots ls A mc ms QQ hC hW hl g1 g2 hRm hq
  exact lv_iand hC.1 hC.2.1 hd (k p l e R s mm args below meth c H locs cells slots ls A mc ms QQ hC hW hl g1 g2 hRm hq)
theorem V_idiv {x y : Int32} (hd : decode I.2.1 pc = .ok (.idiv, 1)) (hne : ¬ y = 0) (k : V D d I pc2 L (.int (x / y) :: st) m kc ks Q) (hp : pc2 = pc + 1 := by rfl) : V D d I pc L (.int y :: .int x :: st) m kc ks Q := by
  subst hp
  intro p l e R s mm args below meth c H locs cells slots ls A mc ms QQ hC hW hl g1 g2 hRm hq
  exact lv_idiv hC.1 hC.2.1 hd hne (k p l e R s mm args below meth c H locs cells slots ls A mc ms QQ hC hW hl g1 g2 hRm hq)
theorem V_irem {x y : Int32} (hd : decode I.2.1 pc = .ok (.irem, 1)) (hne : ¬ y = 0) (k : V D d I pc2 L (.int (x - x / y * y) :: st) m kc ks Q) (hp : pc2 = pc + 1 := by rfl) : V D d I pc L (.int y :: .int x :: st) m kc ks Q := by
  subst hp
  intro p l e R s mm args below meth c H locs cells slots ls A mc ms QQ hC hW hl g1 g2 hRm hq
  exact lv_irem hC.1 hC.2.1 hd hne (k p l e R s mm args below meth c H locs cells slots ls A mc ms QQ hC hW hl g1 g2 hRm hq)
theorem V_ineg {x : Int32} (hd : decode I.2.1 pc = .ok (.ineg, 1))  (k : V D d I pc2 L (.int (-x) :: st) m kc ks Q) (hp : pc2 = pc + 1 := by rfl) : V D d I pc L (.int x :: st) m kc ks Q := by
  subst hp
  intro p l e R s mm args below meth c H locs cells slots ls A mc ms QQ hC hW hl g1 g2 hRm hq
  exact lv_ineg hC.1 hC.2.1 hd (k p l e R s mm args below meth c H locs cells slots ls A mc ms QQ hC hW hl g1 g2 hRm hq)
theorem V_ishl {x y : Int32} (hd : decode I.2.1 pc = .ok (.ishl, 1))  (k : V D d I pc2 L (.int (x <<< (y &&& 31)) :: st) m kc ks Q) (hp : pc2 = pc + 1 := by rfl) : V D d I pc L (.int y :: .int x :: st) m kc ks Q := by
  subst hp
  intro p l e R s mm args below meth c H locs cells slots ls A mc ms QQ hC hW hl g1 g2 hRm hq
  exact lv_ishl hC.1 hC.2.1 hd (k p l e R s mm args below meth c H locs cells slots ls A mc ms QQ hC hW hl g1 g2 hRm hq)
theorem V_ishr {x y : Int32} (hd : decode I.2.1 pc = .ok (.ishr, 1))  (k : V D d I pc2 L (.int (x >>> (y &&& 31)) :: st) m kc ks Q) (hp : pc2 = pc + 1 := by rfl) : V D d I pc L (.int y :: .int x :: st) m kc ks Q := by
  subst hp
  intro p l e R s mm args below meth c H locs cells slots ls A mc ms QQ hC hW hl g1 g2 hRm hq
  exact lv_ishr hC.1 hC.2.1 hd (k p l e R s mm args below meth c H locs cells slots ls A mc ms QQ hC hW hl g1 g2 hRm hq)
theorem V_iushr {x y v : Int32} (hd : decode I.2.1 pc = .ok (.iushr, 1)) (hv : (x.toUInt32 >>> (y.toUInt32 &&& Int32.toUInt32 31)).toInt32 = v) (k : V D d I pc2 L (.int v :: st) m kc ks Q) (hp : pc2 = pc + 1 := by rfl) : V D d I pc L (.int y :: .int x :: st) m kc ks Q := by
  subst hp
  intro p l e R s mm args below meth c H locs cells slots ls A mc ms QQ hC hW hl g1 g2 hRm hq
  exact lv_iushr hC.1 hC.2.1 hd hv (k p l e R s mm args below meth c H locs cells slots ls A mc ms QQ hC hW hl g1 g2 hRm hq)
theorem V_ladd {x y : Int64} (hd : decode I.2.1 pc = .ok (.ladd, 1))  (k : V D d I pc2 L (.long (x + y) :: st) m kc ks Q) (hp : pc2 = pc + 1 := by rfl) : V D d I pc L (.long y :: .long x :: st) m kc ks Q := by
  subst hp
  intro p l e R s mm args below meth c H locs cells slots ls A mc ms QQ hC hW hl g1 g2 hRm hq
  exact lv_ladd hC.1 hC.2.1 hd (k p l e R s mm args below meth c H locs cells slots ls A mc ms QQ hC hW hl g1 g2 hRm hq)
theorem V_i2l {x : Int32} {v : Int64} (hd : decode I.2.1 pc = .ok (.i2l, 1)) (hv : x.toInt64 = v) (k : V D d I pc2 L (.long v :: st) m kc ks Q) (hp : pc2 = pc + 1 := by rfl) : V D d I pc L (.int x :: st) m kc ks Q := by
  subst hp
  intro p l e R s mm args below meth c H locs cells slots ls A mc ms QQ hC hW hl g1 g2 hRm hq
  exact lv_i2l hC.1 hC.2.1 hd hv (k p l e R s mm args below meth c H locs cells slots ls A mc ms QQ hC hW hl g1 g2 hRm hq)
theorem V_i2s {x v : Int32} (hd : decode I.2.1 pc = .ok (.i2s, 1)) (hv : x.toInt16.toInt32 = v) (k : V D d I pc2 L (.int v :: st) m kc ks Q) (hp : pc2 = pc + 1 := by rfl) : V D d I pc L (.int x :: st) m kc ks Q := by
  subst hp
  intro p l e R s mm args below meth c H locs cells slots ls A mc ms QQ hC hW hl g1 g2 hRm hq
  exact lv_i2s hC.1 hC.2.1 hd hv (k p l e R s mm args below meth c H locs cells slots ls A mc ms QQ hC hW hl g1 g2 hRm hq)
theorem V_i2c {x v : Int32} (hd : decode I.2.1 pc = .ok (.i2c, 1)) (hv : (x.toUInt32 % 65536).toInt32 = v) (k : V D d I pc2 L (.int v :: st) m kc ks Q) (hp : pc2 = pc + 1 := by rfl) : V D d I pc L (.int x :: st) m kc ks Q := by
  subst hp
  intro p l e R s mm args below meth c H locs cells slots ls A mc ms QQ hC hW hl g1 g2 hRm hq
  exact lv_i2c hC.1 hC.2.1 hd hv (k p l e R s mm args below meth c H locs cells slots ls A mc ms QQ hC hW hl g1 g2 hRm hq)
theorem V_lcmp {x y : Int64} (hd : decode I.2.1 pc = .ok (.lcmp, 1))  (k : V D d I pc2 L (.int (lg_cmp x y) :: st) m kc ks Q) (hp : pc2 = pc + 1 := by rfl) : V D d I pc L (.long y :: .long x :: st) m kc ks Q := by
  subst hp
  intro p l e R s mm args below meth c H locs cells slots ls A mc ms QQ hC hW hl g1 g2 hRm hq
  exact W.lcmp hC.1 hC.2.1 hd (k p l e R s mm args below meth c H locs cells slots ls A mc ms QQ hC hW hl g1 g2 hRm hq)
theorem V_dup {va : Value} (hd : decode I.2.1 pc = .ok (.dup, 1)) (hc : va.category = 1) (k : V D d I pc2 L (va :: va :: st) m kc ks Q) (hp : pc2 = pc + 1 := by rfl) : V D d I pc L (va :: st) m kc ks Q := by
  subst hp
  intro p l e R s mm args below meth c H locs cells slots ls A mc ms QQ hC hW hl g1 g2 hRm hq
  exact lv_dup hC.1 hC.2.1 hd hc (k p l e R s mm args below meth c H locs cells slots ls A mc ms QQ hC hW hl g1 g2 hRm hq)
theorem V_pop {va : Value} (hd : decode I.2.1 pc = .ok (.pop, 1)) (hc : va.category = 1) (k : V D d I pc2 L (st) m kc ks Q) (hp : pc2 = pc + 1 := by rfl) : V D d I pc L (va :: st) m kc ks Q := by
  subst hp
  intro p l e R s mm args below meth c H locs cells slots ls A mc ms QQ hC hW hl g1 g2 hRm hq
  exact lv_pop hC.1 hC.2.1 hd hc (k p l e R s mm args below meth c H locs cells slots ls A mc ms QQ hC hW hl g1 g2 hRm hq)
theorem V_dup2 {va vb : Value} (hd : decode I.2.1 pc = .ok (.dup2, 1)) (hc : va.category = 1) (hc2 : vb.category = 1) (k : V D d I pc2 L (va :: vb :: va :: vb :: st) m kc ks Q) (hp : pc2 = pc + 1 := by rfl) : V D d I pc L (va :: vb :: st) m kc ks Q := by
  subst hp
  intro p l e R s mm args below meth c H locs cells slots ls A mc ms QQ hC hW hl g1 g2 hRm hq
  exact lv_dup2_11 hC.1 hC.2.1 hd hc hc2 (k p l e R s mm args below meth c H locs cells slots ls A mc ms QQ hC hW hl g1 g2 hRm hq)
theorem V_if_eq {x : Int32} {off : Int} {tgt : Nat} (hd : decode I.2.1 pc = .ok (.ifCond .eq off, 3)) (kt : x = 0 → V D d I tgt L st m kc ks Q) (kf : ¬ x = 0 → V D d I pc2 L st m kc ks Q) (ht : (pc : Int) + off = (tgt : Int) := by rfl) (hp : pc2 = pc + 3 := by rfl) : V D d I pc L (.int x :: st) m kc ks Q := by
  subst hp
  intro p l e R s mm args below meth c H locs cells slots ls A mc ms QQ hC hW hl g1 g2 hRm hq
  exact lv_if_eq hC.1 hC.2.1 hd ht (fun z => kt z p l e R s mm args below meth c H locs cells slots ls A mc ms QQ hC hW hl g1 g2 hRm hq) (fun z => kf z p l e R s mm args below meth c H locs cells slots ls A mc ms QQ hC hW hl g1 g2 hRm hq)
theorem V_icmp_eq {x y : Int32} {off : Int} {tgt : Nat} (hd : decode I.2.1 pc = .ok (.if_icmp .eq off, 3)) (kt : x = y → V D d I tgt L st m kc ks Q) (kf : ¬ x = y → V D d I pc2 L st m kc ks Q) (ht : (pc : Int) + off = (tgt : Int) := by rfl) (hp : pc2 = pc + 3 := by rfl) : V D d I pc L (.int y :: .int x :: st) m kc ks Q := by
  subst hp
  intro p l e R s mm args below meth c H locs cells slots ls A mc ms QQ hC hW hl g1 g2 hRm hq
  exact lv_icmp_eq hC.1 hC.2.1 hd ht (fun z => kt z p l e R s mm args below meth c H locs cells slots ls A mc ms QQ hC hW hl g1 g2 hRm hq) (fun z => kf z p l e R s mm args below meth c H locs cells slots ls A mc ms QQ hC hW hl g1 g2 hRm hq)
theorem V_if_ne {x : Int32} {off : Int} {tgt : Nat} (hd : decode I.2.1 pc = .ok (.ifCond .ne off, 3)) (kt : ¬ x = 0 → V D d I tgt L st m kc ks Q) (kf : x = 0 → V D d I pc2 L st m kc ks Q) (ht : (pc : Int) + off = (tgt : Int) := by rfl) (hp : pc2 = pc + 3 := by rfl) : V D d I pc L (.int x :: st) m kc ks Q := by
  subst hp
  intro p l e R s mm args below meth c H locs cells slots ls A mc ms QQ hC hW hl g1 g2 hRm hq
  exact lv_if_ne hC.1 hC.2.1 hd ht (fun z => kt z p l e R s mm args below meth c H locs cells slots ls A mc ms QQ hC hW hl g1 g2 hRm hq) (fun z => kf z p l e R s mm args below meth c H locs cells slots ls A mc ms QQ hC hW hl g1 g2 hRm hq)
theorem V_icmp_ne {x y : Int32} {off : Int} {tgt : Nat} (hd : decode I.2.1 pc = .ok (.if_icmp .ne off, 3)) (kt : ¬ x = y → V D d I tgt L st m kc ks Q) (kf : x = y → V D d I pc2 L st m kc ks Q) (ht : (pc : Int) + off = (tgt : Int) := by rfl) (hp : pc2 = pc + 3 := by rfl) : V D d I pc L (.int y :: .int x :: st) m kc ks Q := by
  subst hp
  intro p l e R s mm args below meth c H locs cells slots ls A mc ms QQ hC hW hl g1 g2 hRm hq
  exact lv_icmp_ne hC.1 hC.2.1 hd ht (fun z => kt z p l e R s mm args below meth c H locs cells slots ls A mc ms QQ hC hW hl g1 g2 hRm hq) (fun z => kf z p l e R s mm args below meth c H locs cells slots ls A mc ms QQ hC hW hl g1 g2 hRm hq)
theorem V_if_lt {x : Int32} {off : Int} {tgt : Nat} (hd : decode I.2.1 pc = .ok (.ifCond .lt off, 3)) (kt : x < 0 → V D d I tgt L st m kc ks Q) (kf : ¬ x < 0 → V D d I pc2 L st m kc ks Q) (ht : (pc : Int) + off = (tgt : Int) := by rfl) (hp : pc2 = pc + 3 := by rfl) : V D d I pc L (.int x :: st) m kc ks Q := by
  subst hp
  intro p l e R s mm args below meth c H locs cells slots ls A mc ms QQ hC hW hl g1 g2 hRm hq
  exact lv_if_lt hC.1 hC.2.1 hd ht (fun z => kt z p l e R s mm args below meth c H locs cells slots ls A mc ms QQ hC hW hl g1 g2 hRm hq) (fun z => kf z p l e R s mm args below meth c H locs cells slots ls A mc ms QQ hC hW hl g1 g2 hRm hq)
theorem V_icmp_lt {x y : Int32} {off : Int} {tgt : Nat} (hd : decode I.2.1 pc = .ok (.if_icmp .lt off, 3)) (kt : x < y → V D d I tgt L st m kc ks Q) (kf : ¬ x < y → V D d I pc2 L st m kc ks Q) (ht : (pc : Int) + off = (tgt : Int) := by rfl) (hp : pc2 = pc + 3 := by rfl) : V D d I pc L (.int y :: .int x :: st) m kc ks Q := by
  subst hp
  intro p l e R s mm args below meth c H locs cells slots ls A mc ms QQ hC hW hl g1 g2 hRm hq
  exact lv_icmp_lt hC.1 hC.2.1 hd ht (fun z => kt z p l e R s mm args below meth c H locs cells slots ls A mc ms QQ hC hW hl g1 g2 hRm hq) (fun z => kf z p l e R s mm args below meth c H locs cells slots ls A mc ms QQ hC hW hl g1 g2 hRm hq)
theorem V_if_ge {x : Int32} {off : Int} {tgt : Nat} (hd : decode I.2.1 pc = .ok (.ifCond .ge off, 3)) (kt : 0 ≤ x → V D d I tgt L st m kc ks Q) (kf : ¬ 0 ≤ x → V D d I pc2 L st m kc ks Q) (ht : (pc : Int) + off = (tgt : Int) := by rfl) (hp : pc2 = pc + 3 := by rfl) : V D d I pc L (.int x :: st) m kc ks Q := by
  subst hp
  intro p l e R s mm args below meth c H locs cells slots ls A mc ms QQ hC hW hl g1 g2 hRm hq
  exact lv_if_ge hC.1 hC.2.1 hd ht (fun z => kt z p l e R s mm args below meth c H locs cells slots ls A mc ms QQ hC hW hl g1 g2 hRm hq) (fun z => kf z p l e R s mm args below meth c H locs cells slots ls A mc ms QQ hC hW hl g1 g2 hRm hq)
theorem V_icmp_ge {x y : Int32} {off : Int} {tgt : Nat} (hd : decode I.2.1 pc = .ok (.if_icmp .ge off, 3)) (kt : y ≤ x → V D d I tgt L st m kc ks Q) (kf : ¬ y ≤ x → V D d I pc2 L st m kc ks Q) (ht : (pc : Int) + off = (tgt : Int) := by rfl) (hp : pc2 = pc + 3 := by rfl) : V D d I pc L (.int y :: .int x :: st) m kc ks Q := by
  subst hp
  intro p l e R s mm args below meth c H locs cells slots ls A mc ms QQ hC hW hl g1 g2 hRm hq
  exact lv_icmp_ge hC.1 hC.2.1 hd ht (fun z => kt z p l e R s mm args below meth c H locs cells slots ls A mc ms QQ hC hW hl g1 g2 hRm hq) (fun z => kf z p l e R s mm args below meth c H locs cells slots ls A mc ms QQ hC hW hl g1 g2 hRm hq)
theorem V_if_gt {x : Int32} {off : Int} {tgt : Nat} (hd : decode I.2.1 pc = .ok (.ifCond .gt off, 3)) (kt : 0 < x → V D d I tgt L st m kc ks Q) (kf : ¬ 0 < x → V D d I pc2 L st m kc ks Q) (ht : (pc : Int) + off = (tgt : Int) := by rfl) (hp : pc2 = pc + 3 := by rfl) : V D d I pc L (.int x :: st) m kc ks Q := by
  subst hp
  intro p l e R s mm args below meth c H locs cells slots ls A mc ms QQ hC hW hl g1 g2 hRm hq
  exact lv_if_gt hC.1 hC.2.1 hd ht (fun z => kt z p l e R s mm args below meth c H locs cells slots ls A mc ms QQ hC hW hl g1 g2 hRm hq) (fun z => kf z p l e R s mm args below meth c H locs cells slots ls A mc ms QQ hC hW hl g1 g2 hRm hq)
theorem V_icmp_gt {x y : Int32} {off : Int} {tgt : Nat} (hd : decode I.2.1 pc = .ok (.if_icmp .gt off, 3)) (kt : y < x → V D d I tgt L st m kc ks Q) (kf : ¬ y < x → V D d I pc2 L st m kc ks Q) (ht : (pc : Int) + off = (tgt : Int) := by rfl) (hp : pc2 = pc + 3 := by rfl) : V D d I pc L (.int y :: .int x :: st) m kc ks Q := by
  subst hp
  intro p l e R s mm args below meth c H locs cells slots ls A mc ms QQ hC hW hl g1 g2 hRm hq
  exact lv_icmp_gt hC.1 hC.2.1 hd ht (fun z => kt z p l e R s mm args below meth c H locs cells slots ls A mc ms QQ hC hW hl g1 g2 hRm hq) (fun z => kf z p l e R s mm args below meth c H locs cells slots ls A mc ms QQ hC hW hl g1 g2 hRm hq)
theorem V_if_le {x : Int32} {off : Int} {tgt : Nat} (hd : decode I.2.1 pc = .ok (.ifCond .le off, 3)) (kt : x ≤ 0 → V D d I tgt L st m kc ks Q) (kf : ¬ x ≤ 0 → V D d I pc2 L st m kc ks Q) (ht : (pc : Int) + off = (tgt : Int) := by rfl) (hp : pc2 = pc + 3 := by rfl) : V D d I pc L (.int x :: st) m kc ks Q := by
  subst hp
  intro p l e R s mm args below meth c H locs cells slots ls A mc ms QQ hC hW hl g1 g2 hRm hq
  exact lv_if_le hC.1 hC.2.1 hd ht (fun z => kt z p l e R s mm args below meth c H locs cells slots ls A mc ms QQ hC hW hl g1 g2 hRm hq) (fun z => kf z p l e R s mm args below meth c H locs cells slots ls A mc ms QQ hC hW hl g1 g2 hRm hq)
theorem V_icmp_le {x y : Int32} {off : Int} {tgt : Nat} (hd : decode I.2.1 pc = .ok (.if_icmp .le off, 3)) (kt : x ≤ y → V D d I tgt L st m kc ks Q) (kf : ¬ x ≤ y → V D d I pc2 L st m kc ks Q) (ht : (pc : Int) + off = (tgt : Int) := by rfl) (hp : pc2 = pc + 3 := by rfl) : V D d I pc L (.int y :: .int x :: st) m kc ks Q := by
  subst hp
  intro p l e R s mm args below meth c H locs cells slots ls A mc ms QQ hC hW hl g1 g2 hRm hq
  exact lv_icmp_le hC.1 hC.2.1 hd ht (fun z => kt z p l e R s mm args below meth c H locs cells slots ls A mc ms QQ hC hW hl g1 g2 hRm hq) (fun z => kf z p l e R s mm args below meth c H locs cells slots ls A mc ms QQ hC hW hl g1 g2 hRm hq)
theorem V_goto {off : Int} {tgt : Nat} (hd : decode I.2.1 pc = .ok (.goto off, 3)) (k : V D d I tgt L st m kc ks Q) (ht : (pc : Int) + off = (tgt : Int) := by rfl) : V D d I pc L st m kc ks Q := by
  intro p l e R s mm args below meth c H locs cells slots ls A mc ms QQ hC hW hl g1 g2 hRm hq
  exact lv_goto hC.1 hC.2.1 hd ht (k p l e R s mm args below meth c H locs cells slots ls A mc ms QQ hC hW hl g1 g2 hRm hq)
theorem V_ifnull {x : Option Nat} {off : Int} {tgt : Nat} (hd : decode I.2.1 pc = .ok (.ifnull off, 3)) (kt : x = none → V D d I tgt L st m kc ks Q) (kf : ∀ a, x = some a → V D d I pc2 L st m kc ks Q) (ht : (pc : Int) + off = (tgt : Int) := by rfl) (hp : pc2 = pc + 3 := by rfl) : V D d I pc L (va_rf x :: st) m kc ks Q := by
  subst hp
  intro p l e R s mm args below meth c H locs cells slots ls A mc ms QQ hC hW hl g1 g2 hRm hq
  cases x with
  | none => exact lv_ifnullN hC.1 hC.2.1 hd ht (kt rfl p l e R s mm args below meth c H locs cells slots ls A mc ms QQ hC hW hl g1 g2 hRm hq)
  | some a => exact lv_ifnull hC.1 hC.2.1 hd (kf a rfl p l e R s mm args below meth c H locs cells slots ls A mc ms QQ hC hW hl g1 g2 hRm hq)
theorem V_ifnonnull {x : Option Nat} {off : Int} {tgt : Nat} (hd : decode I.2.1 pc = .ok (.ifnonnull off, 3)) (kt : ∀ a, x = some a → V D d I tgt L st m kc ks Q) (kf : x = none → V D d I pc2 L st m kc ks Q) (ht : (pc : Int) + off = (tgt : Int) := by rfl) (hp : pc2 = pc + 3 := by rfl) : V D d I pc L (va_rf x :: st) m kc ks Q := by
  subst hp
  intro p l e R s mm args below meth c H locs cells slots ls A mc ms QQ hC hW hl g1 g2 hRm hq
  cases x with
  | none => exact lv_ifnonnullN hC.1 hC.2.1 hd (kf rfl p l e R s mm args below meth c H locs cells slots ls A mc ms QQ hC hW hl g1 g2 hRm hq)
  | some a => exact lv_ifnonnull hC.1 hC.2.1 hd ht (kt a rfl p l e R s mm args below meth c H locs cells slots ls A mc ms QQ hC hW hl g1 g2 hRm hq)
theorem V_table {dflt lo hi off : Int} {offs : Array Int} {len tgt : Nat} {x : Int32} (hd : decode I.2.1 pc = .ok (.tableswitch dflt lo hi offs, len)) (ho : decide (lo ≤ x.toInt ∧ x.toInt ≤ hi ∧ offs[(x.toInt - lo).toNat]? = some off) = true) (k : V D d I tgt L st m kc ks Q) (ht : (pc : Int) + off = (tgt : Int) := by rfl) : V D d I pc L (.int x :: st) m kc ks Q := by
  intro p l e R s mm args below meth c H locs cells slots ls A mc ms QQ hC hW hl g1 g2 hRm hq
  have ho := of_decide_eq_true ho
  exact lv_tableIn hC.1 hC.2.1 hd (Int.not_lt.mpr ho.1) (Int.not_lt.mpr ho.2.1) ho.2.2 ht (k p l e R s mm args below meth c H locs cells slots ls A mc ms QQ hC hW hl g1 g2 hRm hq)
theorem V_tableD {dflt lo hi : Int} {offs : Array Int} {len tgt : Nat} {x : Int32} (hd : decode I.2.1 pc = .ok (.tableswitch dflt lo hi offs, len)) (ho : x.toInt < lo ∨ hi < x.toInt) (k : V D d I tgt L st m kc ks Q) (ht : (pc : Int) + dflt = (tgt : Int) := by rfl) : V D d I pc L (.int x :: st) m kc ks Q := by
  intro p l e R s mm args below meth c H locs cells slots ls A mc ms QQ hC hW hl g1 g2 hRm hq
  exact lv_tableOut hC.1 hC.2.1 hd ho ht (k p l e R s mm args below meth c H locs cells slots ls A mc ms QQ hC hW hl g1 g2 hRm hq)
theorem V_lookup {dflt off : Int} {ps : Array (Int × Int)} {len tgt : Nat} {x : Int32} (hd : decode I.2.1 pc = .ok (.lookupswitch dflt ps, len)) (hs : (ps.toList.zip (ps.toList.drop 1)).all (fun (a, next) => a.1 < next.1) = true) (ho : Op.lookupswitch.offset ps.toList dflt x.toInt = off) (k : V D d I tgt L st m kc ks Q) (ht : (pc : Int) + off = (tgt : Int) := by rfl) : V D d I pc L (.int x :: st) m kc ks Q := by
  intro p l e R s mm args below meth c H locs cells slots ls A mc ms QQ hC hW hl g1 g2 hRm hq
  exact lv_lookup hC.1 hC.2.1 hd hs ho ht (k p l e R s mm args below meth c H locs cells slots ls A mc ms QQ hC hW hl g1 g2 hRm hq)
-- returns
theorem V_zret {v : Int32} {ty : FieldType} (hd : decode I.2.1 pc = .ok (.ireturn, 1)) (hr : I.2.2.2 = some ty) (hn : narrow ty (.int v) = .int v) (h : Q (some (.int v)) m) : V D d I pc L [.int v] m kc ks Q := by
  intro p l e R s mm args below meth c H locs cells slots ls A mc ms QQ hC hW hl g1 g2 hRm hq
  exact hq _ m H locs cells slots ls pc _ h hW (Or.inl ⟨v, ty, hd, rfl, rfl, hr, hn⟩) (by omega) (by omega)
theorem V_iret {v : Int32} (hd : decode I.2.1 pc = .ok (.ireturn, 1)) (hr : I.2.2.2 = some .int) (h : Q (some (.int v)) m) : V D d I pc L [.int v] m kc ks Q := V_zret hd hr rfl h
theorem V_vret (hd : decode I.2.1 pc = .ok (.return_, 1)) (hr : I.2.2.2 = none) (h : Q none m) : V D d I pc L [] m kc ks Q := by
  intro p l e R s mm args below meth c H locs cells slots ls A mc ms QQ hC hW hl g1 g2 hRm hq
  exact hq _ m H locs cells slots ls pc _ h hW (Or.inr (Or.inl ⟨hd, rfl, rfl, hr⟩)) (by omega) (by omega)
theorem V_aret {x : Option Nat} {rt : FieldType} (hd : decode I.2.1 pc = .ok (.areturn, 1)) (hr : I.2.2.2 = some rt) (hrt : (∃ n, rt = .object n) ∨ ∃ t, rt = .array t) (h : Q (some (va_rf x)) m) : V D d I pc L [va_rf x] m kc ks Q := by
  intro p l e R s mm args below meth c H locs cells slots ls A mc ms QQ hC hW hl g1 g2 hRm hq
  exact hq _ m H locs cells slots ls pc _ h hW (Or.inr (Or.inr ⟨x, rt, hd, rfl, rfl, hr, hrt⟩)) (by omega) (by omega)
-- memory
theorem V_get {a ci kf index : Nat} {fs : List Value} {v : Value} {C : vw_C} (hd : decode I.2.1 pc = .ok (.getfield index, 3)) (hm : m a = some (.inr (ci, fs))) (hc : cls[ci]? = some C) (hk : kf < C.2.2) (hw : Cond.fieldLink I.1.cls index (C.2.1 kf).1 (C.2.1 kf).2.1 (C.2.1 kf).2.2.1 ∈ GW) (hv : fs[kf]? = some v) (k : V D d I pc2 L (v :: st) m kc ks Q) (hp : pc2 = pc + 3 := by rfl) : V D d I pc L (.ref a :: st) m kc ks Q := by
  subst hp
  intro p l e R s mm args below meth c H locs cells slots ls A mc ms QQ hC hW hl g1 g2 hRm hq
  obtain ⟨ws, hR, hP, hD, hS⟩ := id hW
  obtain ⟨q0, h0⟩ := hR.at hm
  exact va_get hC.1 hC.2.1 hC.2.2.2.2.2.2.2.1 (inG hc) hC.2.2.2.2.2.2.1 hC.2.2.2.2.2.2.2.2.1 hP q0 h0 hc kf hk (hC.2.2.2.2.2.2.2.1 _ hw) (fun _ h9 => h9) hv hd (k p l e R s mm args below meth c H locs cells slots ls A mc ms QQ hC hW hl g1 g2 hRm hq)
theorem V_put {a ci kf index : Nat} {fs : List Value} {v : Value} {C : vw_C} (hd : decode I.2.1 pc = .ok (.putfield index, 3)) (hm : m a = some (.inr (ci, fs))) (hc : cls[ci]? = some C) (hk : kf < C.2.2) (hw : Cond.fieldLink I.1.cls index (C.2.1 kf).1 (C.2.1 kf).2.1 (C.2.1 kf).2.2.1 ∈ GW) (hfin : (C.2.1 kf).2.2.2 = false) (hn : narrow (tyF ci kf) v = v) (hfit : fits (tyF ci kf) v = true) (hlen : kf < fs.length) (k : V D d I pc2 L st (mup m a (.inr (ci, fs.set kf v))) kc ks Q) (hp : pc2 = pc + 3 := by rfl) : V D d I pc L (v :: .ref a :: st) m kc ks Q := by
  subst hp
  intro p l e R s mm args below meth c H locs cells slots ls A mc ms QQ hC hW hl g1 g2 hRm hq
  obtain ⟨ws, hR, hP, hD, hS⟩ := hW
  obtain ⟨q0, h0⟩ := hR.at hm
  exact va_put hC.1 hC.2.1 hC.2.2.2.2.2.2.2.1 (inG hc) (tyF ci) (tyF_ok hc) (nmF hc) hC.2.2.2.2.2.2.1 hC.2.2.2.2.2.2.2.2.1 hP hD hS q0 h0 hc kf hk (hC.2.2.2.2.2.2.2.1 _ hw) (fun _ h9 => h9) hfin (tyF_ok hc kf hk) hn hfit hlen hd (fun H locs hP1 hD1 hS1 => k p l e R s mm args below meth c H locs cells slots ls A mc ms QQ hC ⟨_, hR.set hD h0 (.inr (ci, fs.set kf v)), hP1, hD1, hS1⟩ hl g1 g2 hRm hq)
theorem V_putF {a ci kf index : Nat} {fs : List Value} {v : Value} {C : vw_C} (hd : decode I.2.1 pc = .ok (.putfield index, 3)) (hm : m a = some (.inr (ci, fs))) (hc : cls[ci]? = some C) (hk : kf < C.2.2) (hw : Cond.fieldLink I.1.cls index (C.2.1 kf).1 (C.2.1 kf).2.1 (C.2.1 kf).2.2.1 ∈ GW) (hfin : (C.2.1 kf).2.2.2 = true) (hini : I.1.name = "<init>") (hdec : (C.2.1 kf).1 = I.1.cls) (hn : narrow (tyF ci kf) v = v) (hfit : fits (tyF ci kf) v = true) (hlen : kf < fs.length) (k : V D d I pc2 L st (mup m a (.inr (ci, fs.set kf v))) kc ks Q) (hp : pc2 = pc + 3 := by rfl) : V D d I pc L (v :: .ref a :: st) m kc ks Q := by
  subst hp
  intro p l e R s mm args below meth c H locs cells slots ls A mc ms QQ hC hW hl g1 g2 hRm hq
  obtain ⟨ws, hR, hP, hD, hS⟩ := hW
  obtain ⟨q0, h0⟩ := hR.at hm
  exact va_putF hC.1 hC.2.1 hC.2.2.2.2.2.2.2.1 (inG hc) (tyF ci) (tyF_ok hc) (nmF hc) hC.2.2.2.2.2.2.1 hC.2.2.2.2.2.2.2.2.1 hP hD hS q0 h0 hc kf hk (hC.2.2.2.2.2.2.2.1 _ hw) (fun _ h9 => h9) hfin (hC.2.2.2.2.2.1.trans hini) hdec (tyF_ok hc kf hk) hn hfit hlen hd (fun H locs hP1 hD1 hS1 => k p l e R s mm args below meth c H locs cells slots ls A mc ms QQ hC ⟨_, hR.set hD h0 (.inr (ci, fs.set kf v)), hP1, hD1, hS1⟩ hl g1 g2 hRm hq)
theorem V_iald {a n : Nat} {f : Nat → Int32} {i : Int32} (hd : decode I.2.1 pc = .ok (.iaload, 1)) (hm : m a = some (.inl (0, n, .inl f))) (hin : vp_in i n) (k : V D d I pc2 L (.int (f i.toNatClampNeg) :: st) m kc ks Q) (hp : pc2 = pc + 1 := by rfl) : V D d I pc L (.int i :: .ref a :: st) m kc ks Q := by
  subst hp
  intro p l e R s mm args below meth c H locs cells slots ls A mc ms QQ hC hW hl g1 g2 hRm hq
  obtain ⟨ws, hR, hP, hD, hS⟩ := id hW
  obtain ⟨q0, h0⟩ := hR.at hm
  exact va_iald hC.1 hC.2.1 hC.2.2.2.2.2.2.2.2.1 hP q0 0 h0 (tysOf_at D rfl) hin hd (k p l e R s mm args below meth c H locs cells slots ls A mc ms QQ hC hW hl g1 g2 hRm hq)
theorem V_iast {a n : Nat} {f : Nat → Int32} {i x : Int32} (hd : decode I.2.1 pc = .ok (.iastore, 1)) (hm : m a = some (.inl (0, n, .inl f))) (hin : vp_in i n) (k : V D d I pc2 L st (mup m a (.inl (0, n, .inl (upd f i.toNatClampNeg x)))) kc ks Q) (hp : pc2 = pc + 1 := by rfl) : V D d I pc L (.int x :: .int i :: .ref a :: st) m kc ks Q := by
  subst hp
  intro p l e R s mm args below meth c H locs cells slots ls A mc ms QQ hC hW hl g1 g2 hRm hq
  obtain ⟨ws, hR, hP, hD, hS⟩ := hW
  obtain ⟨q0, h0⟩ := hR.at hm
  exact va_iast hC.1 hC.2.1 hC.2.2.2.2.2.2.2.2.1 hP hD hS q0 0 h0 (tysOf_at D rfl) hin hd (fun H locs hP1 hD1 hS1 => k p l e R s mm args below meth c H locs cells slots ls A mc ms QQ hC ⟨_, hR.set hD h0 (.inl (0, n, .inl (upd f i.toNatClampNeg x))), hP1, hD1, hS1⟩ hl g1 g2 hRm hq)
theorem V_aald {a n t : Nat} {C : String} {f : Nat → Option Nat} {i : Int32} (hd : decode I.2.1 pc = .ok (.aaload, 1)) (hm : m a = some (.inl (t, n, .inr (.inr (.inr (.inr f)))))) (ht : tyL[t]? = some (.object C)) (hin : vp_in i n) (k : V D d I pc2 L (va_rf (f i.toNatClampNeg) :: st) m kc ks Q) (hp : pc2 = pc + 1 := by rfl) : V D d I pc L (.int i :: .ref a :: st) m kc ks Q := by
  subst hp
  intro p l e R s mm args below meth c H locs cells slots ls A mc ms QQ hC hW hl g1 g2 hRm hq
  obtain ⟨ws, hR, hP, hD, hS⟩ := id hW
  obtain ⟨q0, h0⟩ := hR.at hm
  exact va_aldq hC.1 hC.2.1 hC.2.2.2.2.2.2.2.2.1 hP q0 t h0 (tysOf_at D ht) hin hd (k p l e R s mm args below meth c H locs cells slots ls A mc ms QQ hC hW hl g1 g2 hRm hq)
theorem V_aast {a n t ci v : Nat} {C : vw_C} {vs : List Value} {f : Nat → Option Nat} {i : Int32} (hd : decode I.2.1 pc = .ok (.aastore, 1)) (hm : m a = some (.inl (t, n, .inr (.inr (.inr (.inr f)))))) (hv : m v = some (.inr (ci, vs))) (hc : cls[ci]? = some C) (ht : tyL[t]? = some (.object C.1)) (hin : vp_in i n) (k : V D d I pc2 L st (mup m a (.inl (t, n, .inr (.inr (.inr (.inr (va_up f i.toNatClampNeg (some v)))))))) kc ks Q) (hp : pc2 = pc + 1 := by rfl) : V D d I pc L (.ref v :: .int i :: .ref a :: st) m kc ks Q := by
  subst hp
  intro p l e R s mm args below meth c H locs cells slots ls A mc ms QQ hC hW hl g1 g2 hRm hq
  obtain ⟨ws, hR, hP, hD, hS⟩ := hW
  obtain ⟨q0, h0⟩ := hR.at hm
  obtain ⟨q1, h1⟩ := hR.at hv
  exact va_astq hC.1 hC.2.1 hC.2.2.2.2.2.2.2.2.1 hP hD hS q0 t q1 ci h0 (tysOf_at D ht) h1 hc hin hd (fun H locs hP1 hD1 hS1 => k p l e R s mm args below meth c H locs cells slots ls A mc ms QQ hC ⟨_, hR.set hD h0 (.inl (t, n, .inr (.inr (.inr (.inr (va_up f i.toNatClampNeg (some v)))))))  , hP1, hD1, hS1⟩ hl g1 g2 hRm hq)
theorem V_alen {a t : Nat} {x : vp_A} {ty : FieldType} {v : Int32} (hd : decode I.2.1 pc = .ok (.arraylength, 1)) (hm : m a = some (.inl (t, x))) (ht : tyL[t]? = some ty) (hv : Int32.ofNat x.1 = v) (k : V D d I pc2 L (.int v :: st) m kc ks Q) (hp : pc2 = pc + 1 := by rfl) : V D d I pc L (.ref a :: st) m kc ks Q := by
  subst hp
  intro p l e R s mm args below meth c H locs cells slots ls A mc ms QQ hC hW hl g1 g2 hRm hq
  obtain ⟨ws, hR, hP, hD, hS⟩ := id hW
  obtain ⟨q0, h0⟩ := hR.at hm
  exact va_alen hC.1 hC.2.1 hC.2.2.2.2.2.2.2.2.1 hP q0 t h0 (tysOf_at D ht) hv hd (k p l e R s mm args below meth c H locs cells slots ls A mc ms QQ hC hW hl g1 g2 hRm hq)
theorem V_newa {n : Int32} {N : Nat} (hd : decode I.2.1 pc = .ok (.newarray .int, 2)) (hw : Cond.arrayClass .int ∈ GW) (hn : ¬ n < 0) (hN : n.toNatClampNeg = N) (hb : decide (N ≤ 100000) = true) (k : ∀ q : Nat, m q = none → V D d I pc2 L (.ref q :: st) (mup m q (.inl (0, N, .inl (fun _ => 0)))) kc ks Q) (hp : pc2 = pc + 2 := by rfl) : V D d I pc L (.int n :: st) m (kc + 1) (ks + N) Q := by
  subst hp
  intro p l e R s mm args below meth c H locs cells slots ls A mc ms QQ hC hW hl g1 g2 hRm hq
  obtain ⟨ws, hR, hP, hD, hS⟩ := hW
  have hb := of_decide_eq_true hb
  refine va_newa (atype := .int) (ty := .int) (a0 := (N, .inl (fun _ => 0))) hC.1 hC.2.1 (hC.2.2.2.2.2.2.2.1 _ hw) rfl hC.2.2.2.2.2.2.2.2.1 hP hD hS hC.2.2.2.2.2.2.2.2.2.2 (fun cA => rfl) hn hN ?_ (by omega) (by omega) hd (fun q cA H1 hK1 hP1 hD1 hS1 => ?_)
  · show N * 4 ≤ 536870912
    omega
  have e1 := (hK1.2 6 (cA, .int) (by rfl)).2
  have e2 := (hK1.2 0 (D.2.1 0, .int) (by rfl)).2
  have e3 : cA = D.2.1 0 := Option.some.inj (e1.symm.trans e2)
  subst e3
  exact k q (hR.fresh hD1) p l e R s mm args below meth c H1 locs (cells + 1) (slots + N) ls A mc ms QQ hC ⟨_, hR.push (hR.fresh hD1) (.inl (0, N, .inl (fun _ => 0))), hP1, hD1, hS1⟩ hl (by omega) (by omega) hRm hq
theorem V_newq {n : Int32} {N index t : Nat} {C : String} (hd : decode I.2.1 pc = .ok (.anewarray index, 3)) (hw : Cond.classLink I.1.cls index C ∈ GW) (hw2 : Cond.arrayOver (.object C) ∈ GW) (ht : tyL[t]? = some (.object C)) (hn : ¬ n < 0) (hN : n.toNatClampNeg = N) (hb : decide (N ≤ 100000) = true) (k : ∀ q : Nat, m q = none → V D d I pc2 L (.ref q :: st) (mup m q (.inl (t, N, .inr (.inr (.inr (.inr (fun _ => none))))))) kc ks Q) (hp : pc2 = pc + 3 := by rfl) : V D d I pc L (.int n :: st) m (kc + 1) (ks + N) Q := by
  subst hp
  intro p l e R s mm args below meth c H locs cells slots ls A mc ms QQ hC hW hl g1 g2 hRm hq
  obtain ⟨ws, hR, hP, hD, hS⟩ := hW
  have hb := of_decide_eq_true hb
  refine va_newq hC.1 hC.2.1 hC.2.2.2.2.2.2.1 (hC.2.2.2.2.2.2.2.1 _ hw) (va_AO.of (hC.2.2.2.2.2.2.2.1 _ hw2)) hC.2.2.2.2.2.2.2.2.1 hP hD hS hC.2.2.2.2.2.2.2.2.2.2 hn hN (by omega) (by omega) (by omega) hd (fun q cA H1 hK1 hP1 hD1 hS1 => ?_)
  have e1 := (hK1.2 6 (cA, .object C) (by rfl)).2
  have e2 := (hC.2.2.2.2.2.2.2.2.1.2 t _ (tysOf_at D ht)).2
  obtain ⟨-, -, -, -, -, e1⟩ := e1
  obtain ⟨-, -, -, -, -, e2⟩ := e2
  have e3 : cA = D.2.1 t := Option.some.inj (e1.symm.trans e2)
  subst e3
  exact k q (hR.fresh hD1) p l e R s mm args below meth c H1 locs (cells + 1) (slots + N) ls A mc ms QQ hC ⟨_, hR.push (hR.fresh hD1) (.inl (t, N, .inr (.inr (.inr (.inr (fun _ => none)))))), hP1, hD1, hS1⟩ hl (by omega) (by omega) hRm hq
theorem V_new {ci index : Nat} {C : vw_C} {fs : List Value} (hd : decode I.2.1 pc = .ok (.new index, 3)) (hc : cls[ci]? = some C) (hw : Cond.classLink I.1.cls index C.1 ∈ GW) (hw2 : Cond.instantiable C.1 C.2.2 ∈ GW) (hw3 : Cond.initialized C.1 ∈ GW) (hfs : ∀ j, j < C.2.2 → defaultValue (tyF ci j) = vp_V fs j) (k : ∀ q : Nat, m q = none → V D d I pc2 L (.ref q :: st) (mup m q (.inr (ci, fs))) kc ks Q) (hp : pc2 = pc + 3 := by rfl) : V D d I pc L st m (kc + 1) (ks + C.2.2) Q := by
  subst hp
  intro p l e R s mm args below meth c H locs cells slots ls A mc ms QQ hC hW hl g1 g2 hRm hq
  obtain ⟨ws, hR, hP, hD, hS⟩ := hW
  have hG := hC.2.2.2.2.2.2.2.1
  refine va_new hC.1 hC.2.1 hG (inG hc) (tyF ci) (tyF_ok hc) hC.2.2.2.2.2.2.1 (hG _ hw) (hG _ hw2) (hG _ hw3) hC.2.2.2.2.2.2.2.2.1 hP hD hS hC.2.2.2.2.2.2.2.2.2.2 hc hfs (by omega) (by omega) hd (fun q H1 hP1 hD1 hS1 => ?_)
  exact k q (hR.fresh hD1) p l e R s mm args below meth c H1 locs (cells + 1) (slots + C.2.2) ls A mc ms QQ hC ⟨_, hR.push (hR.fresh hD1) (.inr (ci, fs)), hP1, hD1, hS1⟩ hl (by omega) (by omega) hRm hq
theorem V_obj {a index : Nat} (hd : decode I.2.1 pc = .ok (.invokespecial index, 3)) (h1 : decide (1 ≤ d) = true) (hs : ((st.map fun v => v.category).sum) ≤ 8) (hw : Cond.methodLink I.1.cls index Lib.objectInit ∈ GW) (hw2 : Cond.instanceMethod Lib.objectInit ∈ GW) (hw3 : Cond.code Lib.objectInit ⟨#[0xb1]⟩ 1 none ∈ GW) (k : V D d I pc2 L st m kc ks Q) (hp : pc2 = pc + 3 := by rfl) : V D d I pc L (.ref a :: st) m kc ks Q := by
  subst hp
  intro p l e R s mm args below meth c H locs cells slots ls A mc ms QQ hC hW hl g1 g2 hRm hq
  have hG := hC.2.2.2.2.2.2.2.1
  have h1 := of_decide_eq_true h1
  refine W.objInit hC.1 hC.2.1 hC.2.2.2.2.2.2.1 (hG _ hw) (hG _ hw2) (hG _ hw3) rfl (by rw [hC.2.2.1]; exact hl.1) rfl hd (by omega) ?_ (k p l e R s mm args below meth c H locs cells slots ls A mc ms QQ hC hW hl g1 g2 hRm hq)
  have := lv_room (m := mm) (pc := pc) (ls := ls) (rest := (.ref a :: st)) hs
  omega
theorem V_above {index : Nat} (hd : decode I.2.1 pc = .ok (.getstatic index, 3)) (hw : Cond.fieldLink I.1.cls index "ParcelRing" "ABOVE" "[I" ∈ GW) (k : V D d I pc2 L (.ref D.2.2.1 :: st) m kc ks Q) (hp : pc2 = pc + 3 := by rfl) : V D d I pc L st m kc ks Q := by
  subst hp
  intro p l e R s mm args below meth c H locs cells slots ls A mc ms QQ hC hW hl g1 g2 hRm hq
  obtain ⟨ws, hR, hP, hD, hS⟩ := id hW
  exact va_gets hC.1 hC.2.1 hC.2.2.2.2.2.2.2.2.2.1.2.1 hS hC.2.2.2.2.2.2.1 (hC.2.2.2.2.2.2.2.1 _ hw) (fun _ h => h) hd (k p l e R s mm args below meth c H locs cells slots ls A mc ms QQ hC hW hl g1 g2 hRm hq)
theorem V_aboveN {index : Nat} (hd : decode I.2.1 pc = .ok (.getstatic index, 3)) (hw : Cond.fieldLinkNest I.1.cls index "ParcelRing" "ABOVE" "[I" "ParcelRing" ∈ NestW) (k : V D d I pc2 L (.ref D.2.2.1 :: st) m kc ks Q) (hp : pc2 = pc + 3 := by rfl) : V D d I pc L st m kc ks Q := by
  subst hp
  intro p l e R s mm args below meth c H locs cells slots ls A mc ms QQ hC hW hl g1 g2 hRm hq
  obtain ⟨ws, hR, hP, hD, hS⟩ := id hW
  exact va_getsN hC.1 hC.2.1 hC.2.2.2.2.2.2.2.2.2.1.2.1 hS hC.2.2.2.2.2.2.1 (va_Nw.use rfl (hC.2.2.2.2.2.2.2.2.2.1.1 _ hw)) (fun _ h => h) hd (k p l e R s mm args below meth c H locs cells slots ls A mc ms QQ hC hW hl g1 g2 hRm hq)
theorem V_abld {i : Int32} (hd : decode I.2.1 pc = .ok (.iaload, 1)) (hin : vp_in i 6) (k : V D d I pc2 L (.int (abv i.toNatClampNeg) :: st) m kc ks Q) (hp : pc2 = pc + 1 := by rfl) : V D d I pc L (.int i :: .ref D.2.2.1 :: st) m kc ks Q := by
  subst hp
  intro p l e R s mm args below meth c H locs cells slots ls A mc ms QQ hC hW hl g1 g2 hRm hq
  obtain ⟨ws, hR, hP, hD, hS⟩ := id hW
  exact va_ti hC.1 hC.2.1 hC.2.2.2.2.2.2.2.2.2.1.2.2.1 hS hin rfl hd (k p l e R s mm args below meth c H locs cells slots ls A mc ms QQ hC hW hl g1 g2 hRm hq)
theorem V_ablen (hd : decode I.2.1 pc = .ok (.arraylength, 1)) (k : V D d I pc2 L (.int 6 :: st) m kc ks Q) (hp : pc2 = pc + 1 := by rfl) : V D d I pc L (.ref D.2.2.1 :: st) m kc ks Q := by
  subst hp
  intro p l e R s mm args below meth c H locs cells slots ls A mc ms QQ hC hW hl g1 g2 hRm hq
  obtain ⟨ws, hR, hP, hD, hS⟩ := id hW
  exact va_tlen hC.1 hC.2.1 hC.2.2.2.2.2.2.2.2.2.1.2.2.1 hS rfl hd (k p l e R s mm args below meth c H locs cells slots ls A mc ms QQ hC hW hl g1 g2 hRm hq)
theorem V_copy {a b n0 n1 index : Nat} {f g : Nat → Int32} {sp dp n : Int32} (hd : decode I.2.1 pc = .ok (.invokestatic index, 3)) (h1 : decide (2 ≤ d) = true) (hs : ((st.map fun v => v.category).sum) ≤ 8) (hw : Cond.methodLink I.1.cls index arraycopyName ∈ GW) (hw2 : Cond.native arraycopyName ∈ GW) (hw3 : Cond.static arraycopyName ∈ GW) (hw4 : Cond.initialized "java/lang/System" ∈ GW) (hm0 : m a = some (.inl (0, n0, .inl f))) (hm1 : m b = some (.inl (0, n1, .inl g))) (h2 : ¬ sp < 0) (h3 : ¬ dp < 0) (h4 : ¬ n < 0) (h5 : sp.toNatClampNeg + n.toNatClampNeg ≤ n0) (h6 : dp.toNatClampNeg + n.toNatClampNeg ≤ n1) (k : V D d I pc2 L st (mup m b (.inl (0, n1, .inl (va_cpy f g sp.toNatClampNeg dp.toNatClampNeg n.toNatClampNeg)))) kc ks Q) (hp : pc2 = pc + 3 := by rfl) : V D d I pc L (.int n :: .int dp :: .ref b :: .int sp :: .ref a :: st) m kc ks Q := by
  subst hp
  intro p l e R s mm args below meth c H locs cells slots ls A mc ms QQ hC hW hl g1 g2 hRm hq
  obtain ⟨ws, hR, hP, hD, hS⟩ := hW
  obtain ⟨q0, e0⟩ := hR.at hm0
  obtain ⟨q1, e1⟩ := hR.at hm1
  have hG := hC.2.2.2.2.2.2.2.1
  have h1 := of_decide_eq_true h1
  refine va_copyi (ty := .int) hC.1 hC.2.1 (by rw [hC.2.2.1]; exact hl.1.symm) hC.2.2.2.2.2.2.1 (hG _ hw) (hG _ hw2) (hG _ hw3) (hG _ hw4) hC.2.2.2.2.2.2.2.2.1 hP hD hS q0 q1 0 0 e0 e1 (tysOf_at D rfl) (tysOf_at D rfl) rfl h2 h3 h4 h5 h6 (fun _ _ => rfl) (by omega) ?_ hd (fun H locs hP1 hD1 hS1 => k p l e R s mm args below meth c H locs cells slots ls A mc ms QQ hC ⟨_, hR.set hD e1 (.inl (0, n1, .inl (va_cpy f g sp.toNatClampNeg dp.toNatClampNeg n.toNatClampNeg))), hP1, hD1, hS1⟩ hl g1 g2 hRm hq)
  have : nativeFrameWords "java/lang/System" "arraycopy" 5 + 11 ≤ 40 := by decide +kernel
  omega

theorem Pw_blind {D : Dat} {m : Mem} {sz : Nat} {av : List Value} : FrameBlind (va_Pc av (Pw D m sz)) := by
  intro a U g mk h
  obtain ⟨h0, h1, h2, h3, h4⟩ := h
  exact ⟨h0, h1, h2, va_K.moved (u := U) (U := U.calling g mk a) (Vm.Alike.refl U.vm) h3, Ext.blind (U := U) (V := U.calling g mk a) rfl h4⟩
theorem Pw_call {I : Inf} {A : Nat → Prop} {p : Program} {s U : State} {mm : MethodId} {args : Array Value} {meth : Method} {c : Code} {H : Heap} {locs : List Loc} (hC : Cx D I A p s mm args meth c) (hW : Wd D A m s.heap H locs) (hU : U.heap = H) (hWm : s.WarmedH U.vm) : Pw D m H.size U := by
  obtain ⟨ws, hR, hP, hD, hS⟩ := hW
  refine ⟨by rw [hU], ⟨ws, hR, by rw [hU]; exact hP, hD.weaken (fun _ _ _ _ => trivial)⟩, va_K.moved hWm.alike hC.2.2.2.2.2.2.2.2.1, ?_⟩
  rw [hU]
  refine Ext.move hC.2.2.2.2.2.2.2.2.2.1 hS hWm ?_
  rintro q (h | h)
  · cases hm : m q with
    | none => exact absurd hm h
    | some e =>
      obtain ⟨k, hk⟩ := hR.at hm
      exact hD.2 k _ hk
  · exact hC.2.2.2.2.2.2.2.2.2.2 q (Nat.le_trans hS.1 h)
/-- behind any call -/
theorem V_ret {p : Program} {l : Launch} {e : Env} {R : Room} {s : State} {mm : MethodId} {args a : Array Value} {below : List Frame} {meth : Method} {c : Code} {H : Heap} {locs : List Loc} {cells slots mc ms : Nat} {QQ : State → Prop} {ls : Array Slot} {st0 rest : List Value} {A : Nat → Prop} {Q' : Option Value → Mem → Prop} (hA : ∀ q, s.heap.size ≤ q → A q) (hW : Wd D A m s.heap H locs) (hr : va_Run p l e R s mm args below meth c H locs cells slots mc ms (F0 mm pc ls st0) rest (Qw D m H.size Q' a) (Am m H.size))
    (kk : ∀ (r : Option Value) (m1 : Mem) (H1 : Heap) (locs1 : List Loc), Q' r m1 → Wd D A m1 s.heap H1 locs1 → W p l e R s mm args below meth c H1 locs1 (cells + mc) (slots + ms) QQ (F0 mm (pc + 3) ls (r.toList ++ rest))) : W p l e R s mm args below meth c H locs cells slots QQ (F0 mm pc ls st0) := by
  intro T hT X
  obtain ⟨ws, hR, hP, hD, hS⟩ := hW
  have hsub : ∀ q, Am m H.size q → A q := by
    rintro q (h | h)
    · cases hm : m q with
      | none => exact absurd hm h
      | some e =>
        obtain ⟨k, hk⟩ := hR.at hm
        exact hD.2 k _ hk
    · exact hA q (Nat.le_trans hS.1 h)
  obtain ⟨v, st₀, t, T', LL, h0, X', hL, e1, e2, ⟨⟨r, m1, ws1, hv, hQ, hR1, hP1, hD1⟩, hz, hk⟩, st⟩ := hr T hT X
  cases hv
  rw [h0] at hz hk
  obtain ⟨t2, a1, b1⟩ := kk v m1 T'.heap (locs ++ LL) hQ ⟨ws1, hR1, by rw [e1]; exact hP1, hD1.weaken (fun _ q _ h => hsub q.1 h), by
    refine ⟨Nat.le_trans hS.1 (by rw [e1]; exact hz), fun q g1 g2 => ?_, fun q hq => ?_⟩
    · rw [e1, hk q (Nat.lt_of_lt_of_le g1 hS.1) (fun z => g2 (hsub q z))]
      exact hS.2.1 q g1 g2
    · rcases List.mem_append.mp hq with h | h
      · exact hS.2.2 q h
      · exact hsub _ (hL q h)⟩ T' rfl X'
  exact ⟨t2, st t2 a1, b1⟩

theorem V_callV {J : Inf} {index d2 mc2 ms2 n : Nat} {As : List Value} {b ci : Nat} {fs : List Value} {C : vw_C} {Q' : Option Value → Mem → Prop} (hT : T D d2 J (.ref b :: As) m mc2 ms2 Q') (hd : decode I.2.1 pc = .ok (.invokevirtual index, 3)) (hb : m b = some (.inr (ci, fs))) (hc : cls[ci]? = some C) (hw : Cond.methodLink I.1.cls index J.1 ∈ GW) (hw2 : Cond.instanceMethod J.1 ∈ GW) (hw3 : Cond.selects C.1 J.1 J.1 ∈ GW) (hwi : Cond.initialized J.1.cls ∈ GW) (hwc : wI J ∈ GW) (hy : (J.1.cls ≠ "java/lang/invoke/MethodHandle" ∧ J.1.cls ≠ "java/lang/invoke/VarHandle" ∧ (parseMethodDescriptor J.1.desc).map (fun d => d.parameters.length) = some n)) (hn : As.length = n) (hml : decide (J.2.2.1 ≤ 21 ∧ d2 < d) = true) (hs : ((st.map fun v => v.category).sum) ≤ 8) (k : ∀ (r : Option Value) (m1 : Mem), Q' r m1 → V D d I pc2 L (r.toList ++ st) m1 kc ks Q) (hp : pc2 = pc + 3 := by rfl) : V D d I pc L (As.reverse ++ .ref b :: st) m (kc + mc2) (ks + ms2) Q := by
  subst hp
  intro p l e R s mm args below meth c H locs cells slots ls A mc ms QQ hC hW hl g1 g2 hRm hq
  have hG := hC.2.2.2.2.2.2.2.1
  have hml := of_decide_eq_true hml
  have hrm : (rmOf d2 mc2 ms2).frames + 1 ≤ R.frames ∧ 8 + (J.2.2.1 + 11) + (rmOf d2 mc2 ms2).locals ≤ R.locals := ⟨by show d2 + 1 ≤ _; omega, by show 8 + (J.2.2.1 + 11) + 40 * d2 ≤ _; omega⟩
  have hrecv : ∃ cellB : Cell, H[b]? = some cellB ∧ cellB.vm.isStatics = false ∧ s.vm.findClass C.1 = some cellB.cls := by
    obtain ⟨ws, hR, hP, hD, hS⟩ := hW
    obtain ⟨q0, h0⟩ := hR.at hb
    exact va_recv hC.2.2.2.2.2.2.2.2.1 hP hc h0
  refine V_ret hC.2.2.2.2.2.2.2.2.2.2 hW (va_runV ⟨hC.1, hC.2.1, hC.2.2.1, hC.2.2.2.2.2.2.1, hG⟩ (hT l H.size) ⟨callB_of n hG (gw_cons hwc) rfl rfl rfl (hG _ hwi) (hG _ hw) hy hrm, hG _ hw2, hG _ hw3⟩ ⟨Pw_blind, hrecv, fun U hU hWm => ⟨rfl, Pw_call hC hW hU hWm⟩⟩ rfl hn hl.1 rfl (lv_room hs) hd ⟨by omega, by omega⟩) (fun r m1 H1 locs1 hQ1 hW1 => k r m1 hQ1 p l e R s mm args below meth c H1 locs1 (cells + mc2) (slots + ms2) ls A mc ms QQ hC hW1 hl (by omega) (by omega) hRm hq)
theorem V_callS {J : Inf} {index d2 mc2 ms2 n : Nat} {As : List Value}  {Q' : Option Value → Mem → Prop} (hT : T D d2 J (As) m mc2 ms2 Q') (hd : decode I.2.1 pc = .ok (.invokestatic index, 3))  (hw : Cond.methodLink I.1.cls index J.1 ∈ GW) (hw2 : Cond.static J.1 ∈ GW) (hwi : Cond.initialized J.1.cls ∈ GW) (hwc : wI J ∈ GW) (hy : (J.1.cls ≠ "java/lang/invoke/MethodHandle" ∧ J.1.cls ≠ "java/lang/invoke/VarHandle" ∧ (parseMethodDescriptor J.1.desc).map (fun d => d.parameters.length) = some n)) (hn : As.length = n) (hml : decide (J.2.2.1 ≤ 21 ∧ d2 < d) = true) (hs : ((st.map fun v => v.category).sum) ≤ 8) (k : ∀ (r : Option Value) (m1 : Mem), Q' r m1 → V D d I pc2 L (r.toList ++ st) m1 kc ks Q) (hp : pc2 = pc + 3 := by rfl) : V D d I pc L (As.reverse ++ st) m (kc + mc2) (ks + ms2) Q := by
  subst hp
  intro p l e R s mm args below meth c H locs cells slots ls A mc ms QQ hC hW hl g1 g2 hRm hq
  have hG := hC.2.2.2.2.2.2.2.1
  have hml := of_decide_eq_true hml
  have hrm : (rmOf d2 mc2 ms2).frames + 1 ≤ R.frames ∧ 8 + (J.2.2.1 + 11) + (rmOf d2 mc2 ms2).locals ≤ R.locals := ⟨by show d2 + 1 ≤ _; omega, by show 8 + (J.2.2.1 + 11) + 40 * d2 ≤ _; omega⟩

  refine V_ret hC.2.2.2.2.2.2.2.2.2.2 hW (va_runS ⟨hC.1, hC.2.1, hC.2.2.1, hC.2.2.2.2.2.2.1, hG⟩ (hT l H.size) ⟨callB_of n hG (gw_cons hwc) rfl rfl rfl (hG _ hwi) (hG _ hw) hy hrm, hG _ hw2⟩ ⟨Pw_blind, fun U hU hWm => ⟨rfl, Pw_call hC hW hU hWm⟩⟩ rfl hn hl.1 rfl (lv_room hs) hd ⟨by omega, by omega⟩) (fun r m1 H1 locs1 hQ1 hW1 => k r m1 hQ1 p l e R s mm args below meth c H1 locs1 (cells + mc2) (slots + ms2) ls A mc ms QQ hC hW1 hl (by omega) (by omega) hRm hq)
theorem V_callSN {J : Inf} {index d2 mc2 ms2 n : Nat} {As : List Value} {host : String} {Q' : Option Value → Mem → Prop} (hT : T D d2 J (As) m mc2 ms2 Q') (hd : decode I.2.1 pc = .ok (.invokestatic index, 3))  (hw : Cond.methodLinkNest I.1.cls index J.1 host ∈ NestW) (hw2 : Cond.static J.1 ∈ GW) (hwi : Cond.initialized J.1.cls ∈ GW) (hwc : wI J ∈ GW) (hy : (J.1.cls ≠ "java/lang/invoke/MethodHandle" ∧ J.1.cls ≠ "java/lang/invoke/VarHandle" ∧ (parseMethodDescriptor J.1.desc).map (fun d => d.parameters.length) = some n)) (hn : As.length = n) (hml : decide (J.2.2.1 ≤ 21 ∧ d2 < d) = true) (hs : ((st.map fun v => v.category).sum) ≤ 8) (k : ∀ (r : Option Value) (m1 : Mem), Q' r m1 → V D d I pc2 L (r.toList ++ st) m1 kc ks Q) (hp : pc2 = pc + 3 := by rfl) : V D d I pc L (As.reverse ++ st) m (kc + mc2) (ks + ms2) Q := by
  subst hp
  intro p l e R s mm args below meth c H locs cells slots ls A mc ms QQ hC hW hl g1 g2 hRm hq
  have hG := hC.2.2.2.2.2.2.2.1
  have hml := of_decide_eq_true hml
  have hrm : (rmOf d2 mc2 ms2).frames + 1 ≤ R.frames ∧ 8 + (J.2.2.1 + 11) + (rmOf d2 mc2 ms2).locals ≤ R.locals := ⟨by show d2 + 1 ≤ _; omega, by show 8 + (J.2.2.1 + 11) + 40 * d2 ≤ _; omega⟩

  refine V_ret hC.2.2.2.2.2.2.2.2.2.2 hW (va_runSN ⟨hC.1, hC.2.1, hC.2.2.1, hC.2.2.2.2.2.2.1, hG⟩ (hT l H.size) ⟨va_cnB n hG (gw_cons hwc) rfl rfl rfl (hC.2.2.2.2.2.2.2.2.2.1.1 _ hw) (hG _ hwi) hy hrm, hG _ hw2, trivial⟩ ⟨Pw_blind, fun U hU hWm => ⟨rfl, Pw_call hC hW hU hWm⟩⟩ rfl hn hl.1 rfl (lv_room hs) hd ⟨by omega, by omega⟩) (fun r m1 H1 locs1 hQ1 hW1 => k r m1 hQ1 p l e R s mm args below meth c H1 locs1 (cells + mc2) (slots + ms2) ls A mc ms QQ hC hW1 hl (by omega) (by omega) hRm hq)
theorem V_callI {J : Inf} {index d2 mc2 ms2 n : Nat} {As : List Value} {b : Nat} {Q' : Option Value → Mem → Prop} (hT : T D d2 J (.ref b :: As) m mc2 ms2 Q') (hd : decode I.2.1 pc = .ok (.invokespecial index, 3))  (hv : J.2.2.2 = none) (hnm : J.1.name = "<init>") (hw : Cond.methodLink I.1.cls index J.1 ∈ GW) (hw2 : Cond.instanceMethod J.1 ∈ GW) (hwi : Cond.initialized J.1.cls ∈ GW) (hwc : wI J ∈ GW) (hy : (J.1.cls ≠ "java/lang/invoke/MethodHandle" ∧ J.1.cls ≠ "java/lang/invoke/VarHandle" ∧ (parseMethodDescriptor J.1.desc).map (fun d => d.parameters.length) = some n)) (hn : As.length = n) (hml : decide (J.2.2.1 ≤ 21 ∧ d2 < d) = true) (hs : ((st.map fun v => v.category).sum) ≤ 8) (k : ∀ (r : Option Value) (m1 : Mem), Q' r m1 → V D d I pc2 L (r.toList ++ st) m1 kc ks Q) (hp : pc2 = pc + 3 := by rfl) : V D d I pc L (As.reverse ++ .ref b :: st) m (kc + mc2) (ks + ms2) Q := by
  subst hp
  intro p l e R s mm args below meth c H locs cells slots ls A mc ms QQ hC hW hl g1 g2 hRm hq
  have hG := hC.2.2.2.2.2.2.2.1
  have hml := of_decide_eq_true hml
  have hrm : (rmOf d2 mc2 ms2).frames + 1 ≤ R.frames ∧ 8 + (J.2.2.1 + 11) + (rmOf d2 mc2 ms2).locals ≤ R.locals := ⟨by show d2 + 1 ≤ _; omega, by show 8 + (J.2.2.1 + 11) + 40 * d2 ≤ _; omega⟩
  have hcb := callB_of (R := R) (own := I.1.cls) (index := index) (mc := mc2) (ms := ms2) (rm := rmOf d2 mc2 ms2) n hG (gw_cons hwc) rfl rfl rfl (hG _ hwi) (hG _ hw) hy hrm
  refine V_ret hC.2.2.2.2.2.2.2.2.2.2 hW (va_runI ⟨hC.1, hC.2.1, hC.2.2.1, hC.2.2.2.2.2.2.1, hG⟩ (hT l H.size) ⟨by rw [hv] at hcb; exact hcb, hnm, hG _ hw2⟩ ⟨Pw_blind, fun U hU hWm => ⟨rfl, Pw_call hC hW hU hWm⟩⟩ rfl hn hl.1 rfl (lv_room hs) hd ⟨by omega, by omega⟩) (fun r m1 H1 locs1 hQ1 hW1 => k r m1 hQ1 p l e R s mm args below meth c H1 locs1 (cells + mc2) (slots + ms2) ls A mc ms QQ hC hW1 hl (by omega) (by omega) hRm hq)
theorem V_callIN {J : Inf} {index d2 mc2 ms2 n : Nat} {As : List Value} {b : Nat} {host : String} {Q' : Option Value → Mem → Prop} (hT : T D d2 J (.ref b :: As) m mc2 ms2 Q') (hd : decode I.2.1 pc = .ok (.invokespecial index, 3))  (hv : J.2.2.2 = none) (hnm : J.1.name = "<init>") (hw : Cond.methodLinkNest I.1.cls index J.1 host ∈ NestW) (hw2 : Cond.instanceMethod J.1 ∈ GW) (hwi : Cond.initialized J.1.cls ∈ GW) (hwc : wI J ∈ GW) (hy : (J.1.cls ≠ "java/lang/invoke/MethodHandle" ∧ J.1.cls ≠ "java/lang/invoke/VarHandle" ∧ (parseMethodDescriptor J.1.desc).map (fun d => d.parameters.length) = some n)) (hn : As.length = n) (hml : decide (J.2.2.1 ≤ 21 ∧ d2 < d) = true) (hs : ((st.map fun v => v.category).sum) ≤ 8) (k : ∀ (r : Option Value) (m1 : Mem), Q' r m1 → V D d I pc2 L (r.toList ++ st) m1 kc ks Q) (hp : pc2 = pc + 3 := by rfl) : V D d I pc L (As.reverse ++ .ref b :: st) m (kc + mc2) (ks + ms2) Q := by
  subst hp
  intro p l e R s mm args below meth c H locs cells slots ls A mc ms QQ hC hW hl g1 g2 hRm hq
  have hG := hC.2.2.2.2.2.2.2.1
  have hml := of_decide_eq_true hml
  have hrm : (rmOf d2 mc2 ms2).frames + 1 ≤ R.frames ∧ 8 + (J.2.2.1 + 11) + (rmOf d2 mc2 ms2).locals ≤ R.locals := ⟨by show d2 + 1 ≤ _; omega, by show 8 + (J.2.2.1 + 11) + 40 * d2 ≤ _; omega⟩
  have hcb := va_cnB (R := R) (own := I.1.cls) (index := index) (host := host) (mc := mc2) (ms := ms2) (rm := rmOf d2 mc2 ms2) n hG (gw_cons hwc) rfl rfl rfl (hC.2.2.2.2.2.2.2.2.2.1.1 _ hw) (hG _ hwi) hy hrm
  refine V_ret hC.2.2.2.2.2.2.2.2.2.2 hW (va_runIN ⟨hC.1, hC.2.1, hC.2.2.1, hC.2.2.2.2.2.2.1, hG⟩ (hT l H.size) ⟨by rw [hv] at hcb; exact hcb, hnm, hG _ hw2⟩ ⟨Pw_blind, fun U hU hWm => ⟨rfl, Pw_call hC hW hU hWm⟩⟩ rfl hn hl.1 rfl (lv_room hs) hd ⟨by omega, by omega⟩) (fun r m1 H1 locs1 hQ1 hW1 => k r m1 hQ1 p l e R s mm args below meth c H1 locs1 (cells + mc2) (slots + ms2) ls A mc ms QQ hC hW1 hl (by omega) (by omega) hRm hq)
end VR
end
section
/-! the primitives that the methods' functions are made of, and their rows -/
def zb (b : Bool) : Int32 := if b then 1 else 0
def Qi (v : Int32) (m1 : Mem) : Option Value → Mem → Prop := fun r m => r = some (.int v) ∧ m = m1
def Qv (m1 : Mem) : Option Value → Mem → Prop := fun r m => r = none ∧ m = m1
def Qq (x : Option Nat) (m1 : Mem) : Option Value → Mem → Prop := fun r m => r = some (va_rf x) ∧ m = m1
def gI (m : Mem) (a ci k : Nat) : Option Int32 := match m a with
  | some (.inr (c, fs)) => if c = ci then (match fs[k]? with | some (.int v) => some v | _ => none) else none
  | _ => none
def gR (m : Mem) (a ci k : Nat) : Option Nat := match m a with
  | some (.inr (c, fs)) => if c = ci then (match fs[k]? with | some (.ref v) => some v | _ => none) else none
  | _ => none
def pI (m : Mem) (a ci k : Nat) (v : Int32) : Option Mem := match m a with
  | some (.inr (c, fs)) => if c = ci ∧ k < fs.length then some (mup m a (.inr (ci, fs.set k (.int v)))) else none
  | _ => none
def ldI (m : Mem) (a : Nat) (i : Int32) : Option Int32 := match m a with
  | some (.inl (t, n, .inl f)) => if t = 0 ∧ ¬ i < 0 ∧ i.toNatClampNeg < n then some (f i.toNatClampNeg) else none
  | _ => none
def stI (m : Mem) (a : Nat) (i v : Int32) : Option Mem := match m a with
  | some (.inl (t, n, .inl f)) => if t = 0 ∧ ¬ i < 0 ∧ i.toNatClampNeg < n then some (mup m a (.inl (0, n, .inl (upd f i.toNatClampNeg v)))) else none
  | _ => none
def ldR (m : Mem) (a t : Nat) (i : Int32) : Option Nat := match m a with
  | some (.inl (t1, n, .inr (.inr (.inr (.inr f))))) => if t1 = t ∧ ¬ i < 0 ∧ i.toNatClampNeg < n then f i.toNatClampNeg else none
  | _ => none
def alI (m : Mem) (a : Nat) : Option Int32 := match m a with
  | some (.inl (t, n, .inl _)) => if t = 0 then some (Int32.ofNat n) else none
  | _ => none
def ldA (i : Int32) : Option Int32 := if ¬ i < 0 ∧ i.toNatClampNeg < 6 then some (abv i.toNatClampNeg) else none
def cpI (m : Mem) (a : Nat) (sp : Int32) (b : Nat) (dp n : Int32) : Option Mem := match m a, m b with
  | some (.inl (t, n0, .inl f)), some (.inl (t1, n1, .inl g)) => if t = 0 ∧ t1 = 0 ∧ ¬ sp < 0 ∧ ¬ dp < 0 ∧ ¬ n < 0 ∧ sp.toNatClampNeg + n.toNatClampNeg ≤ n0 ∧ dp.toNatClampNeg + n.toNatClampNeg ≤ n1 then some (mup m b (.inl (0, n1, .inl (va_cpy f g sp.toNatClampNeg dp.toNatClampNeg n.toNatClampNeg)))) else none
  | _, _ => none
def dvI (x y : Int32) : Option Int32 := if y = 0 then none else some (x / y)
def rmI (x y : Int32) : Option Int32 := if y = 0 then none else some (x - x / y * y)
/-- a call on an object of that class -/
def cV {α : Type} (m : Mem) (b ci : Nat) (x : Option α) : Option α := match m b with
  | some (.inr (c, _)) => if c = ci then x else none
  | _ => none
def loopF {S R : Type} (b : S → Option (S ⊕ R)) : Nat → S → Option R
  | 0, _ => none
  | n + 1, s => match b s with
    | none => none
    | some (.inl s1) => loopF b n s1
    | some (.inr r) => some r
def bigN : Nat := 5000
theorem loopF_inv {S R : Type} {b : S → Option (S ⊕ R)} {n : Nat} {s : S} {r : R} (h : loopF b (n + 1) s = some r) : ∃ o, b s = some o ∧ ((∃ s1, o = .inl s1 ∧ loopF b n s1 = some r) ∨ o = .inr r) := by
  unfold loopF at h
  split at h
  · cases h
  · next s1 hs => exact ⟨_, hs, Or.inl ⟨s1, rfl, h⟩⟩
  · next r1 hr => cases h; exact ⟨_, hr, Or.inr rfl⟩
theorem loopF_c {S R : Type} {b : S → Option (S ⊕ R)} {n : Nat} {s : S} {r : R} (h : (∃ s1, (.inl s : S ⊕ R) = .inl s1 ∧ loopF b n s1 = some r) ∨ (.inl s : S ⊕ R) = .inr r) : loopF b n s = some r := by
  rcases h with ⟨s1, h1, h2⟩ | h
  · cases h1; exact h2
  · cases h
theorem loopF_e {S R : Type} {b : S → Option (S ⊕ R)} {n : Nat} {r1 r : R} (h : (∃ s1, (.inr r1 : S ⊕ R) = .inl s1 ∧ loopF b n s1 = some r) ∨ (.inr r1 : S ⊕ R) = .inr r) : r1 = r := by
  rcases h with ⟨s1, h1, h2⟩ | h
  · cases h1
  · cases h; rfl
theorem bS {α β : Type} {o : Option α} {f : α → Option β} {r : β} (h : o.bind f = some r) : ∃ a, o = some a ∧ f a = some r := Option.bind_eq_some_iff.mp h
theorem iT {α : Type} {c : Prop} {dc : Decidable c} {a b : Option α} {r : α} (hc : c) (h : (@ite _ c dc a b) = some r) : a = some r := by rw [if_pos hc] at h; exact h
theorem iF {α : Type} {c : Prop} {dc : Decidable c} {a b : Option α} {r : α} (hc : ¬ c) (h : (@ite _ c dc a b) = some r) : b = some r := by rw [if_neg hc] at h; exact h
theorem zb_t : zb true = 1 := rfl
theorem zb_f : zb false = 0 := rfl
theorem zb_ne {b : Bool} : ¬ zb b = 0 ↔ b = true := by cases b <;> decide
theorem zb_nar (b : Bool) : narrow .boolean (.int (zb b)) = .int (zb b) := by cases b <;> decide
/-- a field by its link: owner of the code, index, class number, field number -/
def FLk (own : String) (index ci kf : Nat) : Prop := ∃ C : vw_C, cls[ci]? = some C ∧ kf < C.2.2 ∧ Cond.fieldLink own index (C.2.1 kf).1 (C.2.1 kf).2.1 (C.2.1 kf).2.2.1 ∈ GW
def FPk (own : String) (index ci kf : Nat) : Prop := ∃ C : vw_C, cls[ci]? = some C ∧ kf < C.2.2 ∧ Cond.fieldLink own index (C.2.1 kf).1 (C.2.1 kf).2.1 (C.2.1 kf).2.2.1 ∈ GW ∧ (C.2.1 kf).2.2.2 = false
/-- a method by its link -/
def MLv (own : String) (index ci : Nat) (J : Inf) (n : Nat) : Prop := ∃ C : vw_C, cls[ci]? = some C ∧ Cond.methodLink own index J.1 ∈ GW ∧ Cond.instanceMethod J.1 ∈ GW ∧ Cond.selects C.1 J.1 J.1 ∈ GW ∧ Cond.initialized J.1.cls ∈ GW ∧ wI J ∈ GW ∧ (J.1.cls ≠ "java/lang/invoke/MethodHandle" ∧ J.1.cls ≠ "java/lang/invoke/VarHandle" ∧ (parseMethodDescriptor J.1.desc).map (fun d => d.parameters.length) = some n) ∧ J.2.2.1 ≤ 21
def MLs (own : String) (index : Nat) (J : Inf) (n : Nat) : Prop := Cond.methodLink own index J.1 ∈ GW ∧ Cond.static J.1 ∈ GW ∧ Cond.initialized J.1.cls ∈ GW ∧ wI J ∈ GW ∧ (J.1.cls ≠ "java/lang/invoke/MethodHandle" ∧ J.1.cls ≠ "java/lang/invoke/VarHandle" ∧ (parseMethodDescriptor J.1.desc).map (fun d => d.parameters.length) = some n) ∧ J.2.2.1 ≤ 21
def MLn (own : String) (index : Nat) (J : Inf) (n : Nat) : Prop := Cond.methodLinkNest own index J.1 "ParcelRing" ∈ NestW ∧ Cond.static J.1 ∈ GW ∧ Cond.initialized J.1.cls ∈ GW ∧ wI J ∈ GW ∧ (J.1.cls ≠ "java/lang/invoke/MethodHandle" ∧ J.1.cls ≠ "java/lang/invoke/VarHandle" ∧ (parseMethodDescriptor J.1.desc).map (fun d => d.parameters.length) = some n) ∧ J.2.2.1 ≤ 21
def CLk : Prop := Cond.native arraycopyName ∈ GW ∧ Cond.static arraycopyName ∈ GW ∧ Cond.initialized "java/lang/System" ∈ GW
section VQ
variable {D : Dat} {d : Nat} {I : Inf} {pc pc2 : Nat} {L : List (Nat × Value)} {st st0 : List Value} {m m1 : Mem} {kc ks : Nat} {Q : Option Value → Mem → Prop}
theorem gI_of {a ci k : Nat} {v : Int32} (h : gI m a ci k = some v) : ∃ fs, m a = some (.inr (ci, fs)) ∧ fs[k]? = some (.int v) := by
  unfold gI at h
  split at h
  · next c fs hm =>
    split at h
    · next hc =>
      subst hc
      split at h
      · next v1 hv => cases h; exact ⟨fs, hm, hv⟩
      · cases h
    · cases h
  · cases h
theorem gR_of {a ci k : Nat} {v : Nat} (h : gR m a ci k = some v) : ∃ fs, m a = some (.inr (ci, fs)) ∧ fs[k]? = some (.ref v) := by
  unfold gR at h
  split at h
  · next c fs hm =>
    split at h
    · next hc =>
      subst hc
      split at h
      · next v1 hv => cases h; exact ⟨fs, hm, hv⟩
      · cases h
    · cases h
  · cases h
theorem pI_of {a ci k : Nat} {v : Int32} (h : pI m a ci k v = some m1) : ∃ fs, m a = some (.inr (ci, fs)) ∧ k < fs.length ∧ m1 = mup m a (.inr (ci, fs.set k (.int v))) := by
  unfold pI at h
  split at h
  · next c fs hm =>
    split at h
    · next hc =>
      obtain ⟨hc, hk⟩ := hc
      subst hc
      cases h
      exact ⟨fs, hm, hk, rfl⟩
    · cases h
  · cases h
theorem ldI_of {a : Nat} {i v : Int32} (h : ldI m a i = some v) : ∃ n f, m a = some (.inl (0, n, .inl f)) ∧ vp_in i n ∧ v = f i.toNatClampNeg := by
  unfold ldI at h
  split at h
  · next t n f hm =>
    split at h
    · next hc =>
      obtain ⟨rfl, h1, h2⟩ := hc
      cases h
      exact ⟨n, f, hm, fun z => z.elim h1 (fun z => by omega), rfl⟩
    · cases h
  · cases h
theorem stI_of {a : Nat} {i v : Int32} (h : stI m a i v = some m1) : ∃ n f, m a = some (.inl (0, n, .inl f)) ∧ vp_in i n ∧ m1 = mup m a (.inl (0, n, .inl (upd f i.toNatClampNeg v))) := by
  unfold stI at h
  split at h
  · next t n f hm =>
    split at h
    · next hc =>
      obtain ⟨rfl, h1, h2⟩ := hc
      cases h
      exact ⟨n, f, hm, fun z => z.elim h1 (fun z => by omega), rfl⟩
    · cases h
  · cases h
theorem ldR_of {a t v : Nat} {i : Int32} (h : ldR m a t i = some v) : ∃ n f, m a = some (.inl (t, n, .inr (.inr (.inr (.inr f))))) ∧ vp_in i n ∧ f i.toNatClampNeg = some v := by
  unfold ldR at h
  split at h
  · next t1 n f hm =>
    split at h
    · next hc =>
      obtain ⟨rfl, h1, h2⟩ := hc
      exact ⟨n, f, hm, fun z => z.elim h1 (fun z => by omega), h⟩
    · cases h
  · cases h
theorem alI_of {a : Nat} {v : Int32} (h : alI m a = some v) : ∃ x : vp_A, m a = some (.inl (0, x)) ∧ Int32.ofNat x.1 = v := by
  unfold alI at h
  split at h
  · next t n f hm =>
    split at h
    · next hc => subst hc; cases h; exact ⟨_, hm, rfl⟩
    · cases h
  · cases h
theorem ldA_of {i v : Int32} (h : ldA i = some v) : vp_in i 6 ∧ v = abv i.toNatClampNeg := by
  unfold ldA at h
  split at h
  · next hc =>
    obtain ⟨h1, h2⟩ := hc
    cases h
    exact ⟨fun z => z.elim h1 (fun z => by omega), rfl⟩
  · cases h
theorem cV_of {α : Type} {b ci : Nat} {x : Option α} {r : α} (h : cV m b ci x = some r) : (∃ fs, m b = some (.inr (ci, fs))) ∧ x = some r := by
  unfold cV at h
  split at h
  · next c fs hm =>
    split at h
    · next hc => subst hc; exact ⟨⟨fs, hm⟩, h⟩
    · cases h
  · cases h
theorem dvI_of {x y v : Int32} (h : dvI x y = some v) : ¬ y = 0 ∧ v = x / y := by
  unfold dvI at h
  split at h
  · cases h
  · next hc => cases h; exact ⟨hc, rfl⟩
theorem rmI_of {x y v : Int32} (h : rmI x y = some v) : ¬ y = 0 ∧ v = x - x / y * y := by
  unfold rmI at h
  split at h
  · cases h
  · next hc => cases h; exact ⟨hc, rfl⟩
theorem cpI_of {a b : Nat} {sp dp n : Int32} (h : cpI m a sp b dp n = some m1) : ∃ n0 f n1 g, m a = some (.inl (0, n0, .inl f)) ∧ m b = some (.inl (0, n1, .inl g)) ∧ ¬ sp < 0 ∧ ¬ dp < 0 ∧ ¬ n < 0 ∧ sp.toNatClampNeg + n.toNatClampNeg ≤ n0 ∧ dp.toNatClampNeg + n.toNatClampNeg ≤ n1 ∧ m1 = mup m b (.inl (0, n1, .inl (va_cpy f g sp.toNatClampNeg dp.toNatClampNeg n.toNatClampNeg))) := by
  unfold cpI at h
  split at h
  · next t n0 f t1 n1 g h1 h2 =>
    split at h
    · next hc =>
      obtain ⟨rfl, rfl, c1, c2, c3, c4, c5⟩ := hc
      cases h
      exact ⟨n0, f, n1, g, h1, h2, c1, c2, c3, c4, c5, rfl⟩
    · cases h
  · cases h
theorem V_nullq (hd : decode I.2.1 pc = .ok (.aconst_null, 1)) (k : V D d I pc2 L (va_rf none :: st) m kc ks Q) (hp : pc2 = pc + 1 := by rfl) : V D d I pc L st m kc ks Q := V_null hd k hp
theorem V_gI {a ci kf index : Nat} {v : Int32} (h : gI m a ci kf = some v) (hd : decode I.2.1 pc = .ok (.getfield index, 3)) (hF : FLk I.1.cls index ci kf) (k : V D d I pc2 L (.int v :: st) m kc ks Q) (hp : pc2 = pc + 3 := by rfl) : V D d I pc L (.ref a :: st) m kc ks Q := by
  obtain ⟨fs, h1, h2⟩ := gI_of h
  obtain ⟨C, c1, c2, c3⟩ := hF
  exact V_get hd h1 c1 c2 c3 h2 k hp
theorem V_gR {a ci kf index v : Nat} (h : gR m a ci kf = some v) (hd : decode I.2.1 pc = .ok (.getfield index, 3)) (hF : FLk I.1.cls index ci kf) (k : V D d I pc2 L (.ref v :: st) m kc ks Q) (hp : pc2 = pc + 3 := by rfl) : V D d I pc L (.ref a :: st) m kc ks Q := by
  obtain ⟨fs, h1, h2⟩ := gR_of h
  obtain ⟨C, c1, c2, c3⟩ := hF
  exact V_get hd h1 c1 c2 c3 h2 k hp
theorem V_pI {a ci kf index : Nat} {v : Int32} (h : pI m a ci kf v = some m1) (hd : decode I.2.1 pc = .ok (.putfield index, 3)) (hF : FPk I.1.cls index ci kf) (ht : narrow (tyF ci kf) (.int v) = .int v) (hf : fits (tyF ci kf) (.int v) = true) (k : V D d I pc2 L st m1 kc ks Q) (hp : pc2 = pc + 3 := by rfl) : V D d I pc L (.int v :: .ref a :: st) m kc ks Q := by
  obtain ⟨fs, h1, h2, rfl⟩ := pI_of h
  obtain ⟨C, c1, c2, c3, c4⟩ := hF
  exact V_put hd h1 c1 c2 c3 c4 ht hf h2 k hp
theorem V_ldI {a : Nat} {i v : Int32} (h : ldI m a i = some v) (hd : decode I.2.1 pc = .ok (.iaload, 1)) (k : V D d I pc2 L (.int v :: st) m kc ks Q) (hp : pc2 = pc + 1 := by rfl) : V D d I pc L (.int i :: .ref a :: st) m kc ks Q := by
  obtain ⟨n, f, h1, h2, rfl⟩ := ldI_of h
  exact V_iald hd h1 h2 k hp
theorem V_stI {a : Nat} {i v : Int32} (h : stI m a i v = some m1) (hd : decode I.2.1 pc = .ok (.iastore, 1)) (k : V D d I pc2 L st m1 kc ks Q) (hp : pc2 = pc + 1 := by rfl) : V D d I pc L (.int v :: .int i :: .ref a :: st) m kc ks Q := by
  obtain ⟨n, f, h1, h2, rfl⟩ := stI_of h
  exact V_iast hd h1 h2 k hp
theorem V_ldR {a t v : Nat} {i : Int32} {C : String} (h : ldR m a t i = some v) (hd : decode I.2.1 pc = .ok (.aaload, 1)) (ht : tyL[t]? = some (.object C)) (k : V D d I pc2 L (.ref v :: st) m kc ks Q) (hp : pc2 = pc + 1 := by rfl) : V D d I pc L (.int i :: .ref a :: st) m kc ks Q := by
  obtain ⟨n, f, h1, h2, h3⟩ := ldR_of h
  exact V_aald hd h1 ht h2 (by rw [h3]; exact k) hp
theorem V_alI {a : Nat} {v : Int32} (h : alI m a = some v) (hd : decode I.2.1 pc = .ok (.arraylength, 1)) (k : V D d I pc2 L (.int v :: st) m kc ks Q) (hp : pc2 = pc + 1 := by rfl) : V D d I pc L (.ref a :: st) m kc ks Q := by
  obtain ⟨x, h1, h2⟩ := alI_of h
  exact V_alen hd h1 rfl h2 k hp
theorem V_ldA {i v : Int32} (h : ldA i = some v) (hd : decode I.2.1 pc = .ok (.iaload, 1)) (k : V D d I pc2 L (.int v :: st) m kc ks Q) (hp : pc2 = pc + 1 := by rfl) : V D d I pc L (.int i :: .ref D.2.2.1 :: st) m kc ks Q := by
  obtain ⟨h1, rfl⟩ := ldA_of h
  exact V_abld hd h1 k hp
theorem V_dvI {x y v : Int32} (h : dvI x y = some v) (hd : decode I.2.1 pc = .ok (.idiv, 1)) (k : V D d I pc2 L (.int v :: st) m kc ks Q) (hp : pc2 = pc + 1 := by rfl) : V D d I pc L (.int y :: .int x :: st) m kc ks Q := by
  obtain ⟨h1, rfl⟩ := dvI_of h
  exact V_idiv hd h1 k hp
theorem V_rmI {x y v : Int32} (h : rmI x y = some v) (hd : decode I.2.1 pc = .ok (.irem, 1)) (k : V D d I pc2 L (.int v :: st) m kc ks Q) (hp : pc2 = pc + 1 := by rfl) : V D d I pc L (.int y :: .int x :: st) m kc ks Q := by
  obtain ⟨h1, rfl⟩ := rmI_of h
  exact V_irem hd h1 k hp
theorem V_cpI {a b index : Nat} {sp dp n : Int32} (h : cpI m a sp b dp n = some m1) (hd : decode I.2.1 pc = .ok (.invokestatic index, 3)) (h1 : decide (2 ≤ d) = true) (hs : ((st.map fun v => v.category).sum) ≤ 8) (hw : Cond.methodLink I.1.cls index arraycopyName ∈ GW) (hw2 : CLk) (k : V D d I pc2 L st m1 kc ks Q) (hp : pc2 = pc + 3 := by rfl) : V D d I pc L (.int n :: .int dp :: .ref b :: .int sp :: .ref a :: st) m kc ks Q := by
  obtain ⟨n0, f, n1, g, c1, c2, c3, c4, c5, c6, c7, rfl⟩ := cpI_of h
  exact V_copy hd h1 hs hw hw2.1 hw2.2.1 hw2.2.2 c1 c2 c3 c4 c5 c6 c7 k hp
theorem V_ifb_ne {b : Bool} {off : Int} {tgt : Nat} (hd : decode I.2.1 pc = .ok (.ifCond .ne off, 3)) (kt : b = true → V D d I tgt L st m kc ks Q) (kf : ¬ b = true → V D d I pc2 L st m kc ks Q) (ht : (pc : Int) + off = (tgt : Int) := by rfl) (hp : pc2 = pc + 3 := by rfl) : V D d I pc L (.int (zb b) :: st) m kc ks Q :=
  V_if_ne hd (fun h => kt (zb_ne.mp h)) (fun h => kf (fun z => (zb_ne.mpr z) h)) ht hp
theorem V_ifb_eq {b : Bool} {off : Int} {tgt : Nat} (hd : decode I.2.1 pc = .ok (.ifCond .eq off, 3)) (kt : ¬ b = true → V D d I tgt L st m kc ks Q) (kf : b = true → V D d I pc2 L st m kc ks Q) (ht : (pc : Int) + off = (tgt : Int) := by rfl) (hp : pc2 = pc + 3 := by rfl) : V D d I pc L (.int (zb b) :: st) m kc ks Q :=
  V_if_eq hd (fun h => kt (fun z => (zb_ne.mpr z) h)) (fun h => kf (zb_ne.mp h)) ht hp
theorem V_bret {b : Bool} (hd : decode I.2.1 pc = .ok (.ireturn, 1)) (hr : I.2.2.2 = some .boolean) (h : Q (some (.int (zb b))) m) : V D d I pc L [.int (zb b)] m kc ks Q := V_zret hd hr (zb_nar b) h

theorem V_cVi {J : Inf} {index d2 n b ci : Nat} {v : Int32} {fs : List Value} (As : List Value) (hb : m b = some (.inr (ci, fs))) (hT : T D d2 J (.ref b :: As) m 0 0 (Qi v m1)) (hd : decode I.2.1 pc = .ok (.invokevirtual index, 3)) (hL : MLv I.1.cls index ci J n) (hdd : d2 < d) (hn : As.length = n) (hs : ((st.map fun v => v.category).sum) ≤ 8) (k : V D d I pc2 L (.int v :: st) m1 kc ks Q) (hst : As.reverse ++ .ref b :: st = st0 := by rfl) (hp : pc2 = pc + 3 := by rfl) : V D d I pc L st0 m kc ks Q := by
  subst hst
  obtain ⟨C, c1, c2, c3, c4, c5, c6, c7, c8⟩ := hL
  exact V_callV (kc := kc) (ks := ks) hT hd hb c1 c2 c3 c4 c5 c6 c7 hn (by simp; omega) hs (fun r m2 hq => by obtain ⟨rfl, rfl⟩ := hq; exact k) hp
theorem V_cSi {J : Inf} {index d2 n : Nat} {v : Int32} (As : List Value) (hT : T D d2 J As m 0 0 (Qi v m1)) (hd : decode I.2.1 pc = .ok (.invokestatic index, 3)) (hL : MLs I.1.cls index J n) (hdd : d2 < d) (hn : As.length = n) (hs : ((st.map fun v => v.category).sum) ≤ 8) (k : V D d I pc2 L (.int v :: st) m1 kc ks Q) (hst : As.reverse ++ st = st0 := by rfl) (hp : pc2 = pc + 3 := by rfl) : V D d I pc L st0 m kc ks Q := by
  subst hst
  obtain ⟨c2, c3, c5, c6, c7, c8⟩ := hL
  exact V_callS (kc := kc) (ks := ks) hT hd c2 c3 c5 c6 c7 hn (by simp; omega) hs (fun r m2 hq => by obtain ⟨rfl, rfl⟩ := hq; exact k) hp
theorem V_cNi {J : Inf} {index d2 n : Nat} {v : Int32} (As : List Value) (hT : T D d2 J As m 0 0 (Qi v m1)) (hd : decode I.2.1 pc = .ok (.invokestatic index, 3)) (hL : MLn I.1.cls index J n) (hdd : d2 < d) (hn : As.length = n) (hs : ((st.map fun v => v.category).sum) ≤ 8) (k : V D d I pc2 L (.int v :: st) m1 kc ks Q) (hst : As.reverse ++ st = st0 := by rfl) (hp : pc2 = pc + 3 := by rfl) : V D d I pc L st0 m kc ks Q := by
  subst hst
  obtain ⟨c2, c3, c5, c6, c7, c8⟩ := hL
  exact V_callSN (kc := kc) (ks := ks) hT hd c2 c3 c5 c6 c7 hn (by simp; omega) hs (fun r m2 hq => by obtain ⟨rfl, rfl⟩ := hq; exact k) hp
theorem V_cVv {J : Inf} {index d2 n b ci : Nat}  {fs : List Value} (As : List Value) (hb : m b = some (.inr (ci, fs))) (hT : T D d2 J (.ref b :: As) m 0 0 (Qv m1)) (hd : decode I.2.1 pc = .ok (.invokevirtual index, 3)) (hL : MLv I.1.cls index ci J n) (hdd : d2 < d) (hn : As.length = n) (hs : ((st.map fun v => v.category).sum) ≤ 8) (k : V D d I pc2 L (st) m1 kc ks Q) (hst : As.reverse ++ .ref b :: st = st0 := by rfl) (hp : pc2 = pc + 3 := by rfl) : V D d I pc L st0 m kc ks Q := by
  subst hst
  obtain ⟨C, c1, c2, c3, c4, c5, c6, c7, c8⟩ := hL
  exact V_callV (kc := kc) (ks := ks) hT hd hb c1 c2 c3 c4 c5 c6 c7 hn (by simp; omega) hs (fun r m2 hq => by obtain ⟨rfl, rfl⟩ := hq; exact k) hp
theorem V_cSv {J : Inf} {index d2 n : Nat}  (As : List Value) (hT : T D d2 J As m 0 0 (Qv m1)) (hd : decode I.2.1 pc = .ok (.invokestatic index, 3)) (hL : MLs I.1.cls index J n) (hdd : d2 < d) (hn : As.length = n) (hs : ((st.map fun v => v.category).sum) ≤ 8) (k : V D d I pc2 L (st) m1 kc ks Q) (hst : As.reverse ++ st = st0 := by rfl) (hp : pc2 = pc + 3 := by rfl) : V D d I pc L st0 m kc ks Q := by
  subst hst
  obtain ⟨c2, c3, c5, c6, c7, c8⟩ := hL
  exact V_callS (kc := kc) (ks := ks) hT hd c2 c3 c5 c6 c7 hn (by simp; omega) hs (fun r m2 hq => by obtain ⟨rfl, rfl⟩ := hq; exact k) hp
theorem V_cNv {J : Inf} {index d2 n : Nat}  (As : List Value) (hT : T D d2 J As m 0 0 (Qv m1)) (hd : decode I.2.1 pc = .ok (.invokestatic index, 3)) (hL : MLn I.1.cls index J n) (hdd : d2 < d) (hn : As.length = n) (hs : ((st.map fun v => v.category).sum) ≤ 8) (k : V D d I pc2 L (st) m1 kc ks Q) (hst : As.reverse ++ st = st0 := by rfl) (hp : pc2 = pc + 3 := by rfl) : V D d I pc L st0 m kc ks Q := by
  subst hst
  obtain ⟨c2, c3, c5, c6, c7, c8⟩ := hL
  exact V_callSN (kc := kc) (ks := ks) hT hd c2 c3 c5 c6 c7 hn (by simp; omega) hs (fun r m2 hq => by obtain ⟨rfl, rfl⟩ := hq; exact k) hp
theorem V_cVq {J : Inf} {index d2 n b ci : Nat} {x : Option Nat} {fs : List Value} (As : List Value) (hb : m b = some (.inr (ci, fs))) (hT : T D d2 J (.ref b :: As) m 0 0 (Qq x m1)) (hd : decode I.2.1 pc = .ok (.invokevirtual index, 3)) (hL : MLv I.1.cls index ci J n) (hdd : d2 < d) (hn : As.length = n) (hs : ((st.map fun v => v.category).sum) ≤ 8) (k : V D d I pc2 L (va_rf x :: st) m1 kc ks Q) (hst : As.reverse ++ .ref b :: st = st0 := by rfl) (hp : pc2 = pc + 3 := by rfl) : V D d I pc L st0 m kc ks Q := by
  subst hst
  obtain ⟨C, c1, c2, c3, c4, c5, c6, c7, c8⟩ := hL
  exact V_callV (kc := kc) (ks := ks) hT hd hb c1 c2 c3 c4 c5 c6 c7 hn (by simp; omega) hs (fun r m2 hq => by obtain ⟨rfl, rfl⟩ := hq; exact k) hp
theorem V_cSq {J : Inf} {index d2 n : Nat} {x : Option Nat} (As : List Value) (hT : T D d2 J As m 0 0 (Qq x m1)) (hd : decode I.2.1 pc = .ok (.invokestatic index, 3)) (hL : MLs I.1.cls index J n) (hdd : d2 < d) (hn : As.length = n) (hs : ((st.map fun v => v.category).sum) ≤ 8) (k : V D d I pc2 L (va_rf x :: st) m1 kc ks Q) (hst : As.reverse ++ st = st0 := by rfl) (hp : pc2 = pc + 3 := by rfl) : V D d I pc L st0 m kc ks Q := by
  subst hst
  obtain ⟨c2, c3, c5, c6, c7, c8⟩ := hL
  exact V_callS (kc := kc) (ks := ks) hT hd c2 c3 c5 c6 c7 hn (by simp; omega) hs (fun r m2 hq => by obtain ⟨rfl, rfl⟩ := hq; exact k) hp
theorem V_cNq {J : Inf} {index d2 n : Nat} {x : Option Nat} (As : List Value) (hT : T D d2 J As m 0 0 (Qq x m1)) (hd : decode I.2.1 pc = .ok (.invokestatic index, 3)) (hL : MLn I.1.cls index J n) (hdd : d2 < d) (hn : As.length = n) (hs : ((st.map fun v => v.category).sum) ≤ 8) (k : V D d I pc2 L (va_rf x :: st) m1 kc ks Q) (hst : As.reverse ++ st = st0 := by rfl) (hp : pc2 = pc + 3 := by rfl) : V D d I pc L st0 m kc ks Q := by
  subst hst
  obtain ⟨c2, c3, c5, c6, c7, c8⟩ := hL
  exact V_callSN (kc := kc) (ks := ks) hT hd c2 c3 c5 c6 c7 hn (by simp; omega) hs (fun r m2 hq => by obtain ⟨rfl, rfl⟩ := hq; exact k) hp
end VQ
end
section
section VX
variable {D : Dat} {d : Nat} {I : Inf} {pc pc2 : Nat} {L : List (Nat × Value)} {st st0 : List Value} {m m1 : Mem} {kc ks : Nat} {Q : Option Value → Mem → Prop}
theorem V_ixor {x y : Int32} (hd : decode I.2.1 pc = .ok (.ixor, 1)) (k : V D d I pc2 L (.int (x ^^^ y) :: st) m kc ks Q) (hp : pc2 = pc + 1 := by rfl) : V D d I pc L (.int y :: .int x :: st) m kc ks Q := by
  subst hp
  intro p l e R s mm args below meth c H locs cells slots ls A mc ms QQ hC hW hl g1 g2 hRm hq
  exact lv_ixor hC.1 hC.2.1 hd (k p l e R s mm args below meth c H locs cells slots ls A mc ms QQ hC hW hl g1 g2 hRm hq)
theorem V_tableG {dflt lo hi : Int} {offs : Array Int} {len tgt : Nat} {x : Int32} (S : List Nat) (hd : decode I.2.1 pc = .ok (.tableswitch dflt lo hi offs, len)) (hS : ∀ j, j < (hi - lo + 1).toNat → j ∉ S → offs[j]? = some dflt) (hx : ¬ x.toInt < lo → ¬ hi < x.toInt → (x.toInt - lo).toNat ∉ S) (k : V D d I tgt L st m kc ks Q) (ht : (pc : Int) + dflt = (tgt : Int) := by rfl) : V D d I pc L (.int x :: st) m kc ks Q := by
  by_cases h1 : x.toInt < lo
  · exact V_tableD hd (Or.inl h1) k ht
  by_cases h2 : hi < x.toInt
  · exact V_tableD hd (Or.inr h2) k ht
  intro p l e R s mm args below meth c H locs cells slots ls A mc ms QQ hC hW hl g1 g2 hRm hq
  exact lv_tableIn hC.1 hC.2.1 hd h1 h2 (hS _ (by omega) (hx h1 h2)) ht (k p l e R s mm args below meth c H locs cells slots ls A mc ms QQ hC hW hl g1 g2 hRm hq)
def stR (m : Mem) (a t ci : Nat) (i : Int32) (v : Nat) : Option Mem := match m a, m v with
  | some (.inl (t1, n, .inr (.inr (.inr (.inr f))))), some (.inr (c, _)) => if t1 = t ∧ c = ci ∧ ¬ i < 0 ∧ i.toNatClampNeg < n then some (mup m a (.inl (t, n, .inr (.inr (.inr (.inr (va_up f i.toNatClampNeg (some v)))))))) else none
  | _, _ => none
theorem stR_of {a t ci v : Nat} {i : Int32} (h : stR m a t ci i v = some m1) : ∃ n f vs, m a = some (.inl (t, n, .inr (.inr (.inr (.inr f))))) ∧ m v = some (.inr (ci, vs)) ∧ vp_in i n ∧ m1 = mup m a (.inl (t, n, .inr (.inr (.inr (.inr (va_up f i.toNatClampNeg (some v))))))) := by
  unfold stR at h
  split at h
  · next t1 n f c vs h1 h2 =>
    split at h
    · next hc =>
      obtain ⟨rfl, rfl, c1, c2⟩ := hc
      cases h
      exact ⟨n, f, vs, h1, h2, fun z => z.elim c1 (fun z => by omega), rfl⟩
    · cases h
  · cases h
theorem V_stR {a t ci v : Nat} {i : Int32} {C : vw_C} (h : stR m a t ci i v = some m1) (hd : decode I.2.1 pc = .ok (.aastore, 1)) (hc : cls[ci]? = some C) (ht : tyL[t]? = some (.object C.1)) (k : V D d I pc2 L st m1 kc ks Q) (hp : pc2 = pc + 1 := by rfl) : V D d I pc L (.ref v :: .int i :: .ref a :: st) m kc ks Q := by
  obtain ⟨n, f, vs, h1, h2, h3, rfl⟩ := stR_of h
  exact V_aast hd h1 h2 hc ht h3 k hp
end VX
theorem inj1 {A1 : Type} {a1 b1 : A1} (h : some a1 = some b1) : a1 = b1 := by cases h; exact rfl
theorem inj2 {A1 A2 : Type} {a1 b1 : A1} {a2 b2 : A2} (h : some (a1, a2) = some (b1, b2)) : a1 = b1 ∧ a2 = b2 := by cases h; exact ⟨rfl, rfl⟩
theorem inj3 {A1 A2 A3 : Type} {a1 b1 : A1} {a2 b2 : A2} {a3 b3 : A3} (h : some (a1, a2, a3) = some (b1, b2, b3)) : a1 = b1 ∧ a2 = b2 ∧ a3 = b3 := by cases h; exact ⟨rfl, rfl, rfl⟩
theorem inj4 {A1 A2 A3 A4 : Type} {a1 b1 : A1} {a2 b2 : A2} {a3 b3 : A3} {a4 b4 : A4} (h : some (a1, a2, a3, a4) = some (b1, b2, b3, b4)) : a1 = b1 ∧ a2 = b2 ∧ a3 = b3 ∧ a4 = b4 := by cases h; exact ⟨rfl, rfl, rfl, rfl⟩
theorem inj5 {A1 A2 A3 A4 A5 : Type} {a1 b1 : A1} {a2 b2 : A2} {a3 b3 : A3} {a4 b4 : A4} {a5 b5 : A5} (h : some (a1, a2, a3, a4, a5) = some (b1, b2, b3, b4, b5)) : a1 = b1 ∧ a2 = b2 ∧ a3 = b3 ∧ a4 = b4 ∧ a5 = b5 := by cases h; exact ⟨rfl, rfl, rfl, rfl, rfl⟩
theorem inj6 {A1 A2 A3 A4 A5 A6 : Type} {a1 b1 : A1} {a2 b2 : A2} {a3 b3 : A3} {a4 b4 : A4} {a5 b5 : A5} {a6 b6 : A6} (h : some (a1, a2, a3, a4, a5, a6) = some (b1, b2, b3, b4, b5, b6)) : a1 = b1 ∧ a2 = b2 ∧ a3 = b3 ∧ a4 = b4 ∧ a5 = b5 ∧ a6 = b6 := by cases h; exact ⟨rfl, rfl, rfl, rfl, rfl, rfl⟩
theorem inj7 {A1 A2 A3 A4 A5 A6 A7 : Type} {a1 b1 : A1} {a2 b2 : A2} {a3 b3 : A3} {a4 b4 : A4} {a5 b5 : A5} {a6 b6 : A6} {a7 b7 : A7} (h : some (a1, a2, a3, a4, a5, a6, a7) = some (b1, b2, b3, b4, b5, b6, b7)) : a1 = b1 ∧ a2 = b2 ∧ a3 = b3 ∧ a4 = b4 ∧ a5 = b5 ∧ a6 = b6 ∧ a7 = b7 := by cases h; exact ⟨rfl, rfl, rfl, rfl, rfl, rfl, rfl⟩
theorem pinj1 {A1 : Type} {a1 b1 : A1} (h : a1 = b1) : a1 = b1 := by cases h; exact rfl
theorem pinj2 {A1 A2 : Type} {a1 b1 : A1} {a2 b2 : A2} (h : (a1, a2) = (b1, b2)) : a1 = b1 ∧ a2 = b2 := by cases h; exact ⟨rfl, rfl⟩
theorem pinj3 {A1 A2 A3 : Type} {a1 b1 : A1} {a2 b2 : A2} {a3 b3 : A3} (h : (a1, a2, a3) = (b1, b2, b3)) : a1 = b1 ∧ a2 = b2 ∧ a3 = b3 := by cases h; exact ⟨rfl, rfl, rfl⟩
theorem pinj4 {A1 A2 A3 A4 : Type} {a1 b1 : A1} {a2 b2 : A2} {a3 b3 : A3} {a4 b4 : A4} (h : (a1, a2, a3, a4) = (b1, b2, b3, b4)) : a1 = b1 ∧ a2 = b2 ∧ a3 = b3 ∧ a4 = b4 := by cases h; exact ⟨rfl, rfl, rfl, rfl⟩
theorem pinj5 {A1 A2 A3 A4 A5 : Type} {a1 b1 : A1} {a2 b2 : A2} {a3 b3 : A3} {a4 b4 : A4} {a5 b5 : A5} (h : (a1, a2, a3, a4, a5) = (b1, b2, b3, b4, b5)) : a1 = b1 ∧ a2 = b2 ∧ a3 = b3 ∧ a4 = b4 ∧ a5 = b5 := by cases h; exact ⟨rfl, rfl, rfl, rfl, rfl⟩
theorem pinj6 {A1 A2 A3 A4 A5 A6 : Type} {a1 b1 : A1} {a2 b2 : A2} {a3 b3 : A3} {a4 b4 : A4} {a5 b5 : A5} {a6 b6 : A6} (h : (a1, a2, a3, a4, a5, a6) = (b1, b2, b3, b4, b5, b6)) : a1 = b1 ∧ a2 = b2 ∧ a3 = b3 ∧ a4 = b4 ∧ a5 = b5 ∧ a6 = b6 := by cases h; exact ⟨rfl, rfl, rfl, rfl, rfl, rfl⟩
theorem pinj7 {A1 A2 A3 A4 A5 A6 A7 : Type} {a1 b1 : A1} {a2 b2 : A2} {a3 b3 : A3} {a4 b4 : A4} {a5 b5 : A5} {a6 b6 : A6} {a7 b7 : A7} (h : (a1, a2, a3, a4, a5, a6, a7) = (b1, b2, b3, b4, b5, b6, b7)) : a1 = b1 ∧ a2 = b2 ∧ a3 = b3 ∧ a4 = b4 ∧ a5 = b5 ∧ a6 = b6 ∧ a7 = b7 := by cases h; exact ⟨rfl, rfl, rfl, rfl, rfl, rfl, rfl⟩
theorem T_of_VF {D : Dat} {d : Nat} {I : Inf} {av : List Value} {m : Mem} {mc ms : Nat} {Q : Option Value → Mem → Prop} (hy : plainFor I.1 = true) (ha : (lg_sl av).length ≤ I.2.2.1) (k : V D d I 0 (lv_args 0 av) [] m mc ms Q) : T D d I av m mc ms Q := by
  intro l sz
  refine va_MetF (cc := I.2.1) (maxL := I.2.2.1) (ret := I.2.2.2) hy rfl ?_
  intro p e s mm args below meth c s₁ B hml hv
  obtain ⟨rfl, hsz, ⟨ws, hR, hP, hD0⟩, hK, hE⟩ := hv
  have hts := atoms_spec (ws := wI I :: GW) B.pre
  have hD : va_D (Am m sz) ws := hD0.weaken (fun k q hk _ => Or.inl (by obtain ⟨e, he⟩ := hR.dom hk; rw [he]; exact fun z => by cases z))
  have hl := lv_entry av (n := I.2.2.1) ha
  rw [lg_entry_eq]
  have hlocks := B.notSynchronized
  refine k p l e _ s mm _ below meth c s.heap [] 0 0 _ (Am m sz) mc ms _ ⟨B.exec, B.bytes, hml, B.returns, B.notSynchronized, (name_of_methodNamed B.named B.method).1, findClass_of_methodNamed B.named, fun w hw => hts w (List.mem_cons_of_mem _ hw), hK, hE, fun q hq => Or.inr (by omega)⟩ ⟨ws, hR, hP, hD, va_S.rf⟩ hl (by omega) (by omega) ⟨Nat.le_refl d, Nat.le_refl (40 * d), Nat.le_refl mc, Nat.le_refl ms⟩ ?_
  intro r m1 H1 locs1 cells1 slots1 ls1 pc1 st1 hQ hW hr hc1 hs1
  obtain ⟨ws1, hR1, hP1, hD1, hS1⟩ := hW
  refine W.widen (k := mc) (n := ms) hc1 hs1 ?_
  rcases hr with ⟨v, ty, h1, rfl, rfl, h2, h3⟩ | ⟨h1, rfl, rfl, h2⟩ | ⟨x, rt, h1, rfl, rfl, h2, h3⟩
  · exact W.zret B.exec B.bytes (B.returns.trans h2) h3 (fun t ht hWm => ⟨⟨_, m1, ws1, rfl, hQ, hR1, by rw [ht]; exact hP1, hD1⟩, hS1.F ht⟩) hS1.2.2 h1
  · exact W.vret B.exec B.bytes (B.returns.trans h2) (fun t ht hWm => ⟨⟨_, m1, ws1, rfl, hQ, hR1, by rw [ht]; exact hP1, hD1⟩, hS1.F ht⟩) hS1.2.2 h1
  · exact W.aret B.exec B.bytes (B.returns.trans h2) h3 (by cases x; exact Or.inl rfl; exact Or.inr ⟨_, rfl⟩) (fun t ht hWm => ⟨⟨_, m1, ws1, rfl, hQ, hR1, by rw [ht]; exact hP1, hD1⟩, hS1.F ht⟩) hS1.2.2 h1

/-! the frame rule: what lies apart stays -/
def mun (m m2 : Mem) : Mem := fun q => match m q with
  | some e => some e
  | none => m2 q
def apart (m m2 : Mem) : Prop := ∀ q, m q = none ∨ m2 q = none
theorem mun_l {m m2 : Mem} {q : Nat} {e : pE} (h : m q = some e) : mun m m2 q = some e := by simp [mun, h]
theorem mun_r {m m2 : Mem} {q : Nat} (h : m q = none) : mun m m2 q = m2 q := by simp [mun, h]
theorem T_frame {D : Dat} {d : Nat} {I : Inf} {av : List Value} {m m2 : Mem} {mc ms : Nat} {Q : Option Value → Mem → Prop} (ha : apart m m2) (h : T D d I av m mc ms Q) : T D d I av (mun m m2) mc ms (fun r m9 => ∃ m1, Q r m1 ∧ m9 = mun m1 m2 ∧ apart m1 m2) := by
  intro l sz p e ha0 hc hk s mm args below hf happ hP hK0
  obtain ⟨rfl, hsz, ⟨ws, hR, hPw, hD⟩, hK, hE⟩ := hP
  have hsub : ∀ q, Am m sz q → Am (mun m m2) sz q := by
    rintro q (h1 | h1)
    · cases hm : m q with
      | none => exact absurd hm h1
      | some x => exact Or.inl (by rw [mun_l hm]; exact fun z => by cases z)
    · exact Or.inr h1
  have hR1 : Rl D m (ws.filter (fun q => (m q.1).isSome)) := by
    intro a x
    rw [List.mem_filter, hR a x]
    constructor
    · rintro ⟨⟨e0, h1, h2⟩, h3⟩
      cases hm : m a with
      | none => rw [hm] at h3; cases h3
      | some y =>
        rw [mun_l hm] at h1
        exact ⟨y, rfl, by rw [Option.some.inj h1]; exact h2⟩
    · rintro ⟨e0, h1, h2⟩
      exact ⟨⟨e0, mun_l h1, h2⟩, by rw [h1]; rfl⟩
  have hR2 : Rl D m2 (ws.filter (fun q => (m q.1).isNone)) := by
    intro a x
    rw [List.mem_filter, hR a x]
    constructor
    · rintro ⟨⟨e0, h1, h2⟩, h3⟩
      cases hm : m a with
      | none => rw [mun_r hm] at h1; exact ⟨e0, h1, h2⟩
      | some y => rw [hm] at h3; cases h3
    · rintro ⟨e0, h1, h2⟩
      have hm : m a = none := (ha a).elim (fun z => z) (fun z => by rw [z] at h1; cases h1)
      exact ⟨⟨e0, by rw [mun_r hm]; exact h1, h2⟩, by rw [hm]; rfl⟩
  have hin : ∀ {f : Nat × va_E → Bool} {k : Nat} {q : Nat × va_E}, (ws.filter f)[k]? = some q → ∃ k2 : Nat, ws[k2]? = some q := fun hk => List.getElem?_of_mem (List.mem_filter.mp (List.mem_of_getElem? hk)).1
  have hnd : ws.Pairwise (fun a b => a.1 ≠ b.1) := by
    rw [List.pairwise_iff_getElem]
    intro i j hi hj hij heq
    have := hD.1 i j _ _ (List.getElem?_eq_getElem hi) (List.getElem?_eq_getElem hj) heq
    omega
  have hDf : ∀ (f : Nat × va_E → Bool) (B : Nat → Prop), (∀ q ∈ ws.filter f, B q.1) → va_D B (ws.filter f) := by
    intro f B hB
    have hp := hnd.filter f
    rw [List.pairwise_iff_getElem] at hp
    refine ⟨fun i j x y hi hj hxy => ?_, fun k q hk => hB q (List.mem_of_getElem? hk)⟩
    obtain ⟨li, rfl⟩ := List.getElem?_eq_some_iff.mp hi
    obtain ⟨lj, rfl⟩ := List.getElem?_eq_some_iff.mp hj
    rcases Nat.lt_trichotomy i j with h1 | h1 | h1
    · exact absurd hxy (hp i j li lj h1)
    · exact h1
    · exact absurd hxy.symm (hp j i lj li h1)
  obtain ⟨k, o, h1, h2, h3, ⟨⟨r, m1, ws1, e1, e2, e3, e4, e5⟩, hF⟩, LL, hL1, hL2⟩ := h l sz p e ha0 hc hk s mm _ below hf happ ⟨rfl, hsz, ⟨_, hR1, fun k q hk => by obtain ⟨k2, h9⟩ := hin hk; exact hPw k2 q h9, hDf _ _ (fun _ _ => trivial)⟩, hK, by
    obtain ⟨a1, a2, a3, a4, a5, a6, a7, a8⟩ := hE
    exact ⟨a1, a2.narrow hsub, a3.narrow hsub, a4.narrow hsub, a5, a6.narrow hsub, a7.narrow hsub, a8.narrow hsub⟩⟩ hK0
  have hout : ∀ q, q ∈ ws.filter (fun q => (m q.1).isNone) → q.1 < sz ∧ ¬ Am m sz q.1 := by
    intro q hq
    obtain ⟨k2, h9⟩ := List.getElem?_of_mem (List.mem_filter.mp hq).1
    have hlt : q.1 < sz := by have := (hPw k2 q h9).lt; omega
    refine ⟨hlt, fun z => ?_⟩
    have hn := (List.mem_filter.mp hq).2
    rcases z with z | z
    · cases hm : m q.1 with
      | none => exact z hm
      | some y => rw [hm] at hn; cases hn
    · omega
  have hap : apart m1 m2 := by
    intro q
    cases hm2 : m2 q with
    | none => exact Or.inr rfl
    | some y =>
      refine Or.inl ?_
      cases hm1 : m1 q with
      | none => rfl
      | some x =>
        obtain ⟨k1, hk1⟩ := e3.at hm1
        have := e5.2 k1 _ hk1
        obtain ⟨k2, hk2⟩ := hR2.at hm2
        exact absurd this (hout _ (List.mem_of_getElem? hk2)).2
  refine ⟨k, o, h1, h2, h3, ⟨⟨r, mun m1 m2, ws1 ++ ws.filter (fun q => (m q.1).isNone), e1, ⟨m1, e2, rfl, hap⟩, ?_, e4.app ?_, ?_⟩, hF.1, fun q q1 q2 => hF.2 q q1 (fun z => q2 (hsub q z))⟩, LL, hL1, fun q hq => hsub _ (hL2 q hq)⟩
  · intro a x
    rw [List.mem_append, e3 a x, hR2 a x]
    constructor
    · rintro (⟨y, y1, y2⟩ | ⟨y, y1, y2⟩)
      · exact ⟨y, mun_l y1, y2⟩
      · have hm : m1 a = none := (hap a).elim (fun z => z) (fun z => by rw [z] at y1; cases y1)
        exact ⟨y, by rw [mun_r hm]; exact y1, y2⟩
    · rintro ⟨y, y1, y2⟩
      cases hm : m1 a with
      | none => rw [mun_r hm] at y1; exact Or.inr ⟨y, y1, y2⟩
      | some z => rw [mun_l hm] at y1; cases y1; exact Or.inl ⟨_, rfl, y2⟩
  · intro k2 q hk2
    obtain ⟨k3, h9⟩ := hin hk2
    obtain ⟨g1, g2⟩ := hout q (List.mem_of_getElem? hk2)
    exact (hPw k3 q h9).kept (hF.2 q.1 (by omega) g2)
  · refine va_D.app (e5.weaken (fun _ q _ z => hsub q.1 z)) (hDf _ _ (fun q hq => Or.inl ?_)) (fun i j x y hx hy hxy => ?_)
    · obtain ⟨y, y1, -⟩ := (hR q.1 q.2).mp (List.mem_filter.mp hq).1
      rw [y1]
      exact fun z => by cases z
    · exact (hout y (List.mem_of_getElem? hy)).2 (by rw [← hxy]; exact e5.2 i x hx)
end
