section
-- ===== PART A: goes FIRST, ahead of the names: the tables' words, and 'selects' of the private methods out of them =====
/-- a private method of a class that the tables say can be made, by its rows of tables_1 -/
def lw_okq (q : MethodName × Nat) : Prop := (q.1.cls ≠ "java/lang/invoke/MethodHandle" ∧ q.1.cls ≠ "java/lang/invoke/VarHandle") ∧ Cond.instantiable q.1.cls q.2 ∈ tables_1 ∧ Cond.privateMethod q.1 ∈ tables_1 ∧ Cond.instanceMethod q.1 ∈ tables_1
theorem lw_p0 : lw_okq (⟨"WovenRoads$LandText", "nextToken", "()V"⟩, 9) := ⟨⟨by decide +kernel, by decide +kernel⟩, List.mem_of_getElem? (i := 71) (by decide +kernel), List.mem_of_getElem? (i := 315) (by decide +kernel), List.mem_of_getElem? (i := 316) (by decide +kernel)⟩
theorem lw_p1 : lw_okq (⟨"WovenRoads$LandText", "readItem", "()Z"⟩, 9) := ⟨⟨by decide +kernel, by decide +kernel⟩, List.mem_of_getElem? (i := 71) (by decide +kernel), List.mem_of_getElem? (i := 329) (by decide +kernel), List.mem_of_getElem? (i := 330) (by decide +kernel)⟩
theorem lw_p2 : lw_okq (⟨"WovenRoads$LandText", "readSize", "()Z"⟩, 9) := ⟨⟨by decide +kernel, by decide +kernel⟩, List.mem_of_getElem? (i := 71) (by decide +kernel), List.mem_of_getElem? (i := 333) (by decide +kernel), List.mem_of_getElem? (i := 334) (by decide +kernel)⟩
theorem lw_p3 : lw_okq (⟨"WovenRoads$LandText", "readNumber", "(II)Z"⟩, 9) := ⟨⟨by decide +kernel, by decide +kernel⟩, List.mem_of_getElem? (i := 71) (by decide +kernel), List.mem_of_getElem? (i := 337) (by decide +kernel), List.mem_of_getElem? (i := 338) (by decide +kernel)⟩
theorem lw_p4 : lw_okq (⟨"WovenRoads$LandText", "readItemEnd", "()Z"⟩, 9) := ⟨⟨by decide +kernel, by decide +kernel⟩, List.mem_of_getElem? (i := 71) (by decide +kernel), List.mem_of_getElem? (i := 345) (by decide +kernel), List.mem_of_getElem? (i := 346) (by decide +kernel)⟩
theorem lw_p5 : lw_okq (⟨"WovenRoads$LandText", "readHeight", "()Z"⟩, 9) := ⟨⟨by decide +kernel, by decide +kernel⟩, List.mem_of_getElem? (i := 71) (by decide +kernel), List.mem_of_getElem? (i := 349) (by decide +kernel), List.mem_of_getElem? (i := 350) (by decide +kernel)⟩
theorem lw_p6 : lw_okq (⟨"WovenRoads$LandText", "readTown", "()Z"⟩, 9) := ⟨⟨by decide +kernel, by decide +kernel⟩, List.mem_of_getElem? (i := 71) (by decide +kernel), List.mem_of_getElem? (i := 366) (by decide +kernel), List.mem_of_getElem? (i := 367) (by decide +kernel)⟩
theorem lw_p7 : lw_okq (⟨"WovenRoads$LandText", "readSlope", "()Z"⟩, 9) := ⟨⟨by decide +kernel, by decide +kernel⟩, List.mem_of_getElem? (i := 71) (by decide +kernel), List.mem_of_getElem? (i := 384) (by decide +kernel), List.mem_of_getElem? (i := 385) (by decide +kernel)⟩
theorem lw_p8 : lw_okq (⟨"WovenRoads$Roads", "layBetween", "(II)V"⟩, 3) := ⟨⟨by decide +kernel, by decide +kernel⟩, List.mem_of_getElem? (i := 147) (by decide +kernel), List.mem_of_getElem? (i := 505) (by decide +kernel), List.mem_of_getElem? (i := 506) (by decide +kernel)⟩
theorem lw_p9 : lw_okq (⟨"WovenRoads$Bolts", "touchesTown", "(I)Z"⟩, 2) := ⟨⟨by decide +kernel, by decide +kernel⟩, List.mem_of_getElem? (i := 109) (by decide +kernel), List.mem_of_getElem? (i := 545) (by decide +kernel), List.mem_of_getElem? (i := 546) (by decide +kernel)⟩
theorem lw_p10 : lw_okq (⟨"WovenRoads$Weaving", "cellsJoined", "(II)I"⟩, 4) := ⟨⟨by decide +kernel, by decide +kernel⟩, List.mem_of_getElem? (i := 184) (by decide +kernel), List.mem_of_getElem? (i := 661) (by decide +kernel), List.mem_of_getElem? (i := 662) (by decide +kernel)⟩
theorem lw_p11 : lw_okq (⟨"WovenRoads$Weaving", "cellsWherePartsMeet", "(II)I"⟩, 4) := ⟨⟨by decide +kernel, by decide +kernel⟩, List.mem_of_getElem? (i := 184) (by decide +kernel), List.mem_of_getElem? (i := 672) (by decide +kernel), List.mem_of_getElem? (i := 673) (by decide +kernel)⟩
theorem lw_p12 : lw_okq (⟨"WovenRoads$Walk", "goOn", "(II)Z"⟩, 4) := ⟨⟨by decide +kernel, by decide +kernel⟩, List.mem_of_getElem? (i := 163) (by decide +kernel), List.mem_of_getElem? (i := 696) (by decide +kernel), List.mem_of_getElem? (i := 697) (by decide +kernel)⟩
theorem lw_p13 : lw_okq (⟨"WovenRoads$Odds", "foretell", "(II)V"⟩, 3) := ⟨⟨by decide +kernel, by decide +kernel⟩, List.mem_of_getElem? (i := 210) (by decide +kernel), List.mem_of_getElem? (i := 723) (by decide +kernel), List.mem_of_getElem? (i := 724) (by decide +kernel)⟩
theorem lw_p14 : lw_okq (⟨"WovenRoadsModel", "advances", "()V"⟩, 23) := ⟨⟨by decide +kernel, by decide +kernel⟩, List.mem_of_getElem? (i := 833) (by decide +kernel), List.mem_of_getElem? (i := 925) (by decide +kernel), List.mem_of_getElem? (i := 926) (by decide +kernel)⟩
theorem lw_p15 : lw_okq (⟨"WovenRoadsModel", "letterAt", "(I)I"⟩, 23) := ⟨⟨by decide +kernel, by decide +kernel⟩, List.mem_of_getElem? (i := 833) (by decide +kernel), List.mem_of_getElem? (i := 929) (by decide +kernel), List.mem_of_getElem? (i := 930) (by decide +kernel)⟩
def lw_privs_1 : List (MethodName × Nat) := [(⟨"WovenRoads$LandText", "nextToken", "()V"⟩, 9), (⟨"WovenRoads$LandText", "readItem", "()Z"⟩, 9), (⟨"WovenRoads$LandText", "readSize", "()Z"⟩, 9), (⟨"WovenRoads$LandText", "readNumber", "(II)Z"⟩, 9), (⟨"WovenRoads$LandText", "readItemEnd", "()Z"⟩, 9), (⟨"WovenRoads$LandText", "readHeight", "()Z"⟩, 9), (⟨"WovenRoads$LandText", "readTown", "()Z"⟩, 9), (⟨"WovenRoads$LandText", "readSlope", "()Z"⟩, 9), (⟨"WovenRoads$Roads", "layBetween", "(II)V"⟩, 3), (⟨"WovenRoads$Bolts", "touchesTown", "(I)Z"⟩, 2), (⟨"WovenRoads$Weaving", "cellsJoined", "(II)I"⟩, 4), (⟨"WovenRoads$Weaving", "cellsWherePartsMeet", "(II)I"⟩, 4), (⟨"WovenRoads$Walk", "goOn", "(II)Z"⟩, 4), (⟨"WovenRoads$Odds", "foretell", "(II)V"⟩, 3), (⟨"WovenRoadsModel", "advances", "()V"⟩, 23), (⟨"WovenRoadsModel", "letterAt", "(I)I"⟩, 23)]
theorem lw_r1 : ∀ q ∈ lw_privs_1, lw_okq q := List.forall_mem_cons.mpr ⟨lw_p0, List.forall_mem_cons.mpr ⟨lw_p1, List.forall_mem_cons.mpr ⟨lw_p2, List.forall_mem_cons.mpr ⟨lw_p3, List.forall_mem_cons.mpr ⟨lw_p4, List.forall_mem_cons.mpr ⟨lw_p5, List.forall_mem_cons.mpr ⟨lw_p6, List.forall_mem_cons.mpr ⟨lw_p7, List.forall_mem_cons.mpr ⟨lw_p8, List.forall_mem_cons.mpr ⟨lw_p9, List.forall_mem_cons.mpr ⟨lw_p10, List.forall_mem_cons.mpr ⟨lw_p11, List.forall_mem_cons.mpr ⟨lw_p12, List.forall_mem_cons.mpr ⟨lw_p13, List.forall_mem_cons.mpr ⟨lw_p14, List.forall_mem_cons.mpr ⟨lw_p15, fun _ h => absurd h List.not_mem_nil⟩⟩⟩⟩⟩⟩⟩⟩⟩⟩⟩⟩⟩⟩⟩⟩
theorem lw_p16 : lw_okq (⟨"WovenRoadsModel", "isWell", "()Z"⟩, 23) := ⟨⟨by decide +kernel, by decide +kernel⟩, List.mem_of_getElem? (i := 833) (by decide +kernel), List.mem_of_getElem? (i := 933) (by decide +kernel), List.mem_of_getElem? (i := 934) (by decide +kernel)⟩
theorem lw_p17 : lw_okq (⟨"WovenRoadsModel", "mayBegin", "(I)Z"⟩, 23) := ⟨⟨by decide +kernel, by decide +kernel⟩, List.mem_of_getElem? (i := 833) (by decide +kernel), List.mem_of_getElem? (i := 937) (by decide +kernel), List.mem_of_getElem? (i := 938) (by decide +kernel)⟩
theorem lw_p18 : lw_okq (⟨"WovenRoadsModel", "takes", "(Z)I"⟩, 23) := ⟨⟨by decide +kernel, by decide +kernel⟩, List.mem_of_getElem? (i := 833) (by decide +kernel), List.mem_of_getElem? (i := 941) (by decide +kernel), List.mem_of_getElem? (i := 942) (by decide +kernel)⟩
theorem lw_p19 : lw_okq (⟨"WovenRoadsModel", "readsItem", "(I)V"⟩, 23) := ⟨⟨by decide +kernel, by decide +kernel⟩, List.mem_of_getElem? (i := 833) (by decide +kernel), List.mem_of_getElem? (i := 945) (by decide +kernel), List.mem_of_getElem? (i := 946) (by decide +kernel)⟩
theorem lw_p20 : lw_okq (⟨"WovenRoadsModel", "number", "(II)I"⟩, 23) := ⟨⟨by decide +kernel, by decide +kernel⟩, List.mem_of_getElem? (i := 833) (by decide +kernel), List.mem_of_getElem? (i := 949) (by decide +kernel), List.mem_of_getElem? (i := 950) (by decide +kernel)⟩
theorem lw_p21 : lw_okq (⟨"WovenRoadsModel", "isTaken", "(I)Z"⟩, 23) := ⟨⟨by decide +kernel, by decide +kernel⟩, List.mem_of_getElem? (i := 833) (by decide +kernel), List.mem_of_getElem? (i := 953) (by decide +kernel), List.mem_of_getElem? (i := 954) (by decide +kernel)⟩
theorem lw_p22 : lw_okq (⟨"WovenRoadsModel", "settles", "()V"⟩, 23) := ⟨⟨by decide +kernel, by decide +kernel⟩, List.mem_of_getElem? (i := 833) (by decide +kernel), List.mem_of_getElem? (i := 957) (by decide +kernel), List.mem_of_getElem? (i := 958) (by decide +kernel)⟩
theorem lw_p23 : lw_okq (⟨"WovenRoadsModel", "isCell", "(I)Z"⟩, 23) := ⟨⟨by decide +kernel, by decide +kernel⟩, List.mem_of_getElem? (i := 833) (by decide +kernel), List.mem_of_getElem? (i := 965) (by decide +kernel), List.mem_of_getElem? (i := 966) (by decide +kernel)⟩
theorem lw_p24 : lw_okq (⟨"WovenRoadsModel", "cells", "()I"⟩, 23) := ⟨⟨by decide +kernel, by decide +kernel⟩, List.mem_of_getElem? (i := 833) (by decide +kernel), List.mem_of_getElem? (i := 969) (by decide +kernel), List.mem_of_getElem? (i := 970) (by decide +kernel)⟩
theorem lw_p25 : lw_okq (⟨"WovenRoadsModel", "isBolt", "(I)Z"⟩, 23) := ⟨⟨by decide +kernel, by decide +kernel⟩, List.mem_of_getElem? (i := 833) (by decide +kernel), List.mem_of_getElem? (i := 981) (by decide +kernel), List.mem_of_getElem? (i := 982) (by decide +kernel)⟩
theorem lw_p26 : lw_okq (⟨"WovenRoadsModel", "endOf", "([II)I"⟩, 23) := ⟨⟨by decide +kernel, by decide +kernel⟩, List.mem_of_getElem? (i := 833) (by decide +kernel), List.mem_of_getElem? (i := 988) (by decide +kernel), List.mem_of_getElem? (i := 989) (by decide +kernel)⟩
theorem lw_p27 : lw_okq (⟨"WovenRoadsModel", "behind", "([III)I"⟩, 23) := ⟨⟨by decide +kernel, by decide +kernel⟩, List.mem_of_getElem? (i := 833) (by decide +kernel), List.mem_of_getElem? (i := 995) (by decide +kernel), List.mem_of_getElem? (i := 996) (by decide +kernel)⟩
theorem lw_p28 : lw_okq (⟨"WovenRoadsModel", "leads", "(II)I"⟩, 23) := ⟨⟨by decide +kernel, by decide +kernel⟩, List.mem_of_getElem? (i := 833) (by decide +kernel), List.mem_of_getElem? (i := 1002) (by decide +kernel), List.mem_of_getElem? (i := 1003) (by decide +kernel)⟩
theorem lw_p29 : lw_okq (⟨"WovenRoadsModel", "upOf", "(I)I"⟩, 23) := ⟨⟨by decide +kernel, by decide +kernel⟩, List.mem_of_getElem? (i := 833) (by decide +kernel), List.mem_of_getElem? (i := 1006) (by decide +kernel), List.mem_of_getElem? (i := 1007) (by decide +kernel)⟩
theorem lw_p30 : lw_okq (⟨"WovenRoadsModel", "builds", "([I)V"⟩, 23) := ⟨⟨by decide +kernel, by decide +kernel⟩, List.mem_of_getElem? (i := 833) (by decide +kernel), List.mem_of_getElem? (i := 1018) (by decide +kernel), List.mem_of_getElem? (i := 1019) (by decide +kernel)⟩
theorem lw_p31 : lw_okq (⟨"WovenRoadsModel", "ells", "()I"⟩, 23) := ⟨⟨by decide +kernel, by decide +kernel⟩, List.mem_of_getElem? (i := 833) (by decide +kernel), List.mem_of_getElem? (i := 1026) (by decide +kernel), List.mem_of_getElem? (i := 1027) (by decide +kernel)⟩
def lw_privs_2 : List (MethodName × Nat) := [(⟨"WovenRoadsModel", "isWell", "()Z"⟩, 23), (⟨"WovenRoadsModel", "mayBegin", "(I)Z"⟩, 23), (⟨"WovenRoadsModel", "takes", "(Z)I"⟩, 23), (⟨"WovenRoadsModel", "readsItem", "(I)V"⟩, 23), (⟨"WovenRoadsModel", "number", "(II)I"⟩, 23), (⟨"WovenRoadsModel", "isTaken", "(I)Z"⟩, 23), (⟨"WovenRoadsModel", "settles", "()V"⟩, 23), (⟨"WovenRoadsModel", "isCell", "(I)Z"⟩, 23), (⟨"WovenRoadsModel", "cells", "()I"⟩, 23), (⟨"WovenRoadsModel", "isBolt", "(I)Z"⟩, 23), (⟨"WovenRoadsModel", "endOf", "([II)I"⟩, 23), (⟨"WovenRoadsModel", "behind", "([III)I"⟩, 23), (⟨"WovenRoadsModel", "leads", "(II)I"⟩, 23), (⟨"WovenRoadsModel", "upOf", "(I)I"⟩, 23), (⟨"WovenRoadsModel", "builds", "([I)V"⟩, 23), (⟨"WovenRoadsModel", "ells", "()I"⟩, 23)]
theorem lw_r2 : ∀ q ∈ lw_privs_2, lw_okq q := List.forall_mem_cons.mpr ⟨lw_p16, List.forall_mem_cons.mpr ⟨lw_p17, List.forall_mem_cons.mpr ⟨lw_p18, List.forall_mem_cons.mpr ⟨lw_p19, List.forall_mem_cons.mpr ⟨lw_p20, List.forall_mem_cons.mpr ⟨lw_p21, List.forall_mem_cons.mpr ⟨lw_p22, List.forall_mem_cons.mpr ⟨lw_p23, List.forall_mem_cons.mpr ⟨lw_p24, List.forall_mem_cons.mpr ⟨lw_p25, List.forall_mem_cons.mpr ⟨lw_p26, List.forall_mem_cons.mpr ⟨lw_p27, List.forall_mem_cons.mpr ⟨lw_p28, List.forall_mem_cons.mpr ⟨lw_p29, List.forall_mem_cons.mpr ⟨lw_p30, List.forall_mem_cons.mpr ⟨lw_p31, fun _ h => absurd h List.not_mem_nil⟩⟩⟩⟩⟩⟩⟩⟩⟩⟩⟩⟩⟩⟩⟩⟩
theorem lw_p32 : lw_okq (⟨"WovenRoadsModel", "piecesOf", "([I)I"⟩, 23) := ⟨⟨by decide +kernel, by decide +kernel⟩, List.mem_of_getElem? (i := 833) (by decide +kernel), List.mem_of_getElem? (i := 1030) (by decide +kernel), List.mem_of_getElem? (i := 1031) (by decide +kernel)⟩
theorem lw_p33 : lw_okq (⟨"WovenRoadsModel", "spreads", "(I)V"⟩, 23) := ⟨⟨by decide +kernel, by decide +kernel⟩, List.mem_of_getElem? (i := 833) (by decide +kernel), List.mem_of_getElem? (i := 1034) (by decide +kernel), List.mem_of_getElem? (i := 1035) (by decide +kernel)⟩
theorem lw_p34 : lw_okq (⟨"WovenRoadsModel", "nowhere", "()I"⟩, 23) := ⟨⟨by decide +kernel, by decide +kernel⟩, List.mem_of_getElem? (i := 833) (by decide +kernel), List.mem_of_getElem? (i := 1039) (by decide +kernel), List.mem_of_getElem? (i := 1040) (by decide +kernel)⟩
theorem lw_p35 : lw_okq (⟨"WovenRoadsModel", "isTown", "(I)Z"⟩, 23) := ⟨⟨by decide +kernel, by decide +kernel⟩, List.mem_of_getElem? (i := 833) (by decide +kernel), List.mem_of_getElem? (i := 1043) (by decide +kernel), List.mem_of_getElem? (i := 1044) (by decide +kernel)⟩
theorem lw_p36 : lw_okq (⟨"WovenRoadsModel", "steep", "()I"⟩, 23) := ⟨⟨by decide +kernel, by decide +kernel⟩, List.mem_of_getElem? (i := 833) (by decide +kernel), List.mem_of_getElem? (i := 1047) (by decide +kernel), List.mem_of_getElem? (i := 1048) (by decide +kernel)⟩
theorem lw_p37 : lw_okq (⟨"WovenRoadsModel", "step", "(II)I"⟩, 23) := ⟨⟨by decide +kernel, by decide +kernel⟩, List.mem_of_getElem? (i := 833) (by decide +kernel), List.mem_of_getElem? (i := 1051) (by decide +kernel), List.mem_of_getElem? (i := 1052) (by decide +kernel)⟩
theorem lw_p38 : lw_okq (⟨"WovenRoadsModel", "leastSlope", "()I"⟩, 23) := ⟨⟨by decide +kernel, by decide +kernel⟩, List.mem_of_getElem? (i := 833) (by decide +kernel), List.mem_of_getElem? (i := 1055) (by decide +kernel), List.mem_of_getElem? (i := 1056) (by decide +kernel)⟩
theorem lw_p39 : lw_okq (⟨"WovenRoadsModel", "couldBe", "(I)Z"⟩, 23) := ⟨⟨by decide +kernel, by decide +kernel⟩, List.mem_of_getElem? (i := 833) (by decide +kernel), List.mem_of_getElem? (i := 1059) (by decide +kernel), List.mem_of_getElem? (i := 1060) (by decide +kernel)⟩
theorem lw_p40 : lw_okq (⟨"WovenRoadsModel", "notes", "()V"⟩, 23) := ⟨⟨by decide +kernel, by decide +kernel⟩, List.mem_of_getElem? (i := 833) (by decide +kernel), List.mem_of_getElem? (i := 1067) (by decide +kernel), List.mem_of_getElem? (i := 1068) (by decide +kernel)⟩
theorem lw_p41 : lw_okq (⟨"WovenRoadsModel", "goes", "(II)I"⟩, 23) := ⟨⟨by decide +kernel, by decide +kernel⟩, List.mem_of_getElem? (i := 833) (by decide +kernel), List.mem_of_getElem? (i := 1075) (by decide +kernel), List.mem_of_getElem? (i := 1076) (by decide +kernel)⟩
theorem lw_p42 : lw_okq (⟨"WovenRoadsModel", "frays", "([I)I"⟩, 23) := ⟨⟨by decide +kernel, by decide +kernel⟩, List.mem_of_getElem? (i := 833) (by decide +kernel), List.mem_of_getElem? (i := 1087) (by decide +kernel), List.mem_of_getElem? (i := 1088) (by decide +kernel)⟩
theorem lw_p43 : lw_okq (⟨"WovenRoadsModel", "grows", "(I)V"⟩, 23) := ⟨⟨by decide +kernel, by decide +kernel⟩, List.mem_of_getElem? (i := 833) (by decide +kernel), List.mem_of_getElem? (i := 1103) (by decide +kernel), List.mem_of_getElem? (i := 1104) (by decide +kernel)⟩
theorem lw_p44 : lw_okq (⟨"WovenRoadsModel", "areNear", "(II)Z"⟩, 23) := ⟨⟨by decide +kernel, by decide +kernel⟩, List.mem_of_getElem? (i := 833) (by decide +kernel), List.mem_of_getElem? (i := 1118) (by decide +kernel), List.mem_of_getElem? (i := 1119) (by decide +kernel)⟩
theorem lw_p45 : lw_okq (⟨"WovenRoadsModel", "otherwise", "(IIII)I"⟩, 23) := ⟨⟨by decide +kernel, by decide +kernel⟩, List.mem_of_getElem? (i := 833) (by decide +kernel), List.mem_of_getElem? (i := 1139) (by decide +kernel), List.mem_of_getElem? (i := 1140) (by decide +kernel)⟩
def lw_privs_3 : List (MethodName × Nat) := [(⟨"WovenRoadsModel", "piecesOf", "([I)I"⟩, 23), (⟨"WovenRoadsModel", "spreads", "(I)V"⟩, 23), (⟨"WovenRoadsModel", "nowhere", "()I"⟩, 23), (⟨"WovenRoadsModel", "isTown", "(I)Z"⟩, 23), (⟨"WovenRoadsModel", "steep", "()I"⟩, 23), (⟨"WovenRoadsModel", "step", "(II)I"⟩, 23), (⟨"WovenRoadsModel", "leastSlope", "()I"⟩, 23), (⟨"WovenRoadsModel", "couldBe", "(I)Z"⟩, 23), (⟨"WovenRoadsModel", "notes", "()V"⟩, 23), (⟨"WovenRoadsModel", "goes", "(II)I"⟩, 23), (⟨"WovenRoadsModel", "frays", "([I)I"⟩, 23), (⟨"WovenRoadsModel", "grows", "(I)V"⟩, 23), (⟨"WovenRoadsModel", "areNear", "(II)Z"⟩, 23), (⟨"WovenRoadsModel", "otherwise", "(IIII)I"⟩, 23)]
theorem lw_r3 : ∀ q ∈ lw_privs_3, lw_okq q := List.forall_mem_cons.mpr ⟨lw_p32, List.forall_mem_cons.mpr ⟨lw_p33, List.forall_mem_cons.mpr ⟨lw_p34, List.forall_mem_cons.mpr ⟨lw_p35, List.forall_mem_cons.mpr ⟨lw_p36, List.forall_mem_cons.mpr ⟨lw_p37, List.forall_mem_cons.mpr ⟨lw_p38, List.forall_mem_cons.mpr ⟨lw_p39, List.forall_mem_cons.mpr ⟨lw_p40, List.forall_mem_cons.mpr ⟨lw_p41, List.forall_mem_cons.mpr ⟨lw_p42, List.forall_mem_cons.mpr ⟨lw_p43, List.forall_mem_cons.mpr ⟨lw_p44, List.forall_mem_cons.mpr ⟨lw_p45, fun _ h => absurd h List.not_mem_nil⟩⟩⟩⟩⟩⟩⟩⟩⟩⟩⟩⟩⟩⟩
def lw_privs : List (MethodName × Nat) := lw_privs_1 ++ (lw_privs_2 ++ (lw_privs_3))
def lw_tbl : List Cond := k2_sels lw_privs ++ tables_1
theorem lw_privs_ok : ∀ q ∈ lw_privs, lw_okq q := by
  show ∀ q ∈ lw_privs_1 ++ (lw_privs_2 ++ (lw_privs_3)), lw_okq q
  exact List.forall_mem_append.mpr ⟨lw_r1, List.forall_mem_append.mpr ⟨lw_r2, lw_r3⟩⟩
-- ===== end of PART A; then your names; then what follows =====
end
section
def RX0 : String := "WovenRoads$Bolts"
def TX0 : u_T := fun k => match k with
  | 0 => ("WovenRoads$Bolts", "ground", "LWovenRoads$Land;", true)
  | _ => ("WovenRoads$Bolts", "numbers", "LWovenRoads$Row;", true)
def tyX0 : Nat → FieldType := fun k => match k with
  | 0 => .object "WovenRoads$Land"
  | _ => .object "WovenRoads$Row"
abbrev wsX00 : List Cond := u_ws RX0 TX0 2
theorem nmX0 : ∀ a, a < 2 → ∀ b, b < 2 → a ≠ b → (TX0 a).2.1 ≠ (TX0 b).2.1 := by decide +kernel
theorem tyX0_ok : ∀ k, k < 2 → parseFieldDescriptor (TX0 k).2.2.1 = some (tyX0 k) := by decide +kernel
abbrev cX0_init : ByteArray := prog_2_method_1_code
def yX0_init : MethodName := ⟨RX0, "<init>", "(LWovenRoads$Land;)V"⟩
abbrev cX0_removeAll : ByteArray := prog_2_method_2_code
def yX0_removeAll : MethodName := ⟨RX0, "removeAll", "()V"⟩
abbrev cX0_become : ByteArray := prog_2_method_3_code
def yX0_become : MethodName := ⟨RX0, "become", "(LWovenRoads$Bolts;)V"⟩
abbrev cX0_copyTo : ByteArray := prog_2_method_4_code
def yX0_copyTo : MethodName := ⟨RX0, "copyTo", "(LWovenRoads$Row;I)V"⟩
abbrev cX0_copyFrom : ByteArray := prog_2_method_5_code
def yX0_copyFrom : MethodName := ⟨RX0, "copyFrom", "(LWovenRoads$Row;I)V"⟩
abbrev cX0_size : ByteArray := prog_2_method_6_code
def yX0_size : MethodName := ⟨RX0, "size", "()I"⟩
abbrev cX0_has : ByteArray := prog_2_method_7_code
def yX0_has : MethodName := ⟨RX0, "has", "(I)Z"⟩
abbrev cX0_firstCell : ByteArray := prog_2_method_8_code
def yX0_firstCell : MethodName := ⟨RX0, "firstCell", "(I)I"⟩
abbrev cX0_length : ByteArray := prog_2_method_9_code
def yX0_length : MethodName := ⟨RX0, "length", "(I)I"⟩
abbrev cX0_cardAt : ByteArray := prog_2_method_10_code
def yX0_cardAt : MethodName := ⟨RX0, "cardAt", "(II)I"⟩
abbrev cX0_lastCell : ByteArray := prog_2_method_11_code
def yX0_lastCell : MethodName := ⟨RX0, "lastCell", "(I)I"⟩
abbrev cX0_cellBehind : ByteArray := prog_2_method_12_code
def yX0_cellBehind : MethodName := ⟨RX0, "cellBehind", "(II)I"⟩
abbrev cX0_cellIf : ByteArray := prog_2_method_13_code
def yX0_cellIf : MethodName := ⟨RX0, "cellIf", "(III)I"⟩
abbrev cX0_begin : ByteArray := prog_2_method_14_code
def yX0_begin : MethodName := ⟨RX0, "begin", "(I)I"⟩
abbrev cX0_weave : ByteArray := prog_2_method_15_code
def yX0_weave : MethodName := ⟨RX0, "weave", "(II)V"⟩
abbrev cX0_turn : ByteArray := prog_2_method_16_code
def yX0_turn : MethodName := ⟨RX0, "turn", "(I)V"⟩
abbrev cX0_fray : ByteArray := prog_2_method_17_code
def yX0_fray : MethodName := ⟨RX0, "fray", "()I"⟩
abbrev cX0_ells : ByteArray := prog_2_method_18_code
def yX0_ells : MethodName := ⟨RX0, "ells", "()I"⟩
abbrev cX0_climb : ByteArray := prog_2_method_19_code
def yX0_climb : MethodName := ⟨RX0, "climb", "(I)I"⟩
abbrev cX0_toNowhere : ByteArray := prog_2_method_20_code
def yX0_toNowhere : MethodName := ⟨RX0, "toNowhere", "()I"⟩
abbrev cX0_touchesTown : ByteArray := prog_2_method_21_code
def yX0_touchesTown : MethodName := ⟨RX0, "touchesTown", "(I)Z"⟩
abbrev cX0_seams : ByteArray := prog_2_method_22_code
def yX0_seams : MethodName := ⟨RX0, "seams", "()I"⟩
abbrev cX0_placeOf : ByteArray := prog_2_method_23_code
def yX0_placeOf : MethodName := ⟨RX0, "placeOf", "(I)I"⟩
abbrev cX0_opposite : ByteArray := prog_2_method_24_code
def yX0_opposite : MethodName := ⟨RX0, "opposite", "(I)I"⟩
def RX1 : String := "WovenRoads$Land"
def TX1 : u_T := fun k => match k with
  | 0 => ("WovenRoads$Land", "wide", "I", false)
  | 1 => ("WovenRoads$Land", "deep", "I", false)
  | 2 => ("WovenRoads$Land", "slope", "I", false)
  | 3 => ("WovenRoads$Land", "towns", "I", false)
  | 4 => ("WovenRoads$Land", "heights", "LWovenRoads$Row;", true)
  | _ => ("WovenRoads$Land", "townCells", "LWovenRoads$Row;", true)
def tyX1 : Nat → FieldType := fun k => match k with
  | 0 => .int
  | 1 => .int
  | 2 => .int
  | 3 => .int
  | 4 => .object "WovenRoads$Row"
  | _ => .object "WovenRoads$Row"
abbrev wsX10 : List Cond := u_ws RX1 TX1 6
theorem nmX1 : ∀ a, a < 6 → ∀ b, b < 6 → a ≠ b → (TX1 a).2.1 ≠ (TX1 b).2.1 := by decide +kernel
theorem tyX1_ok : ∀ k, k < 6 → parseFieldDescriptor (TX1 k).2.2.1 = some (tyX1 k) := by decide +kernel
abbrev cX1_init : ByteArray := prog_3_method_1_code
def yX1_init : MethodName := ⟨RX1, "<init>", "()V"⟩
abbrev cX1_becomeFirst : ByteArray := prog_3_method_2_code
def yX1_becomeFirst : MethodName := ⟨RX1, "becomeFirst", "()V"⟩
abbrev cX1_become : ByteArray := prog_3_method_3_code
def yX1_become : MethodName := ⟨RX1, "become", "(LWovenRoads$Land;)V"⟩
abbrev cX1_setSize : ByteArray := prog_3_method_4_code
def yX1_setSize : MethodName := ⟨RX1, "setSize", "(II)V"⟩
abbrev cX1_setHeight : ByteArray := prog_3_method_5_code
def yX1_setHeight : MethodName := ⟨RX1, "setHeight", "(II)V"⟩
abbrev cX1_setSlope : ByteArray := prog_3_method_6_code
def yX1_setSlope : MethodName := ⟨RX1, "setSlope", "(I)V"⟩
abbrev cX1_addTown : ByteArray := prog_3_method_7_code
def yX1_addTown : MethodName := ⟨RX1, "addTown", "(I)V"⟩
abbrev cX1_wide : ByteArray := prog_3_method_8_code
def yX1_wide : MethodName := ⟨RX1, "wide", "()I"⟩
abbrev cX1_deep : ByteArray := prog_3_method_9_code
def yX1_deep : MethodName := ⟨RX1, "deep", "()I"⟩
abbrev cX1_slope : ByteArray := prog_3_method_10_code
def yX1_slope : MethodName := ⟨RX1, "slope", "()I"⟩
abbrev cX1_towns : ByteArray := prog_3_method_11_code
def yX1_towns : MethodName := ⟨RX1, "towns", "()I"⟩
abbrev cX1_cells : ByteArray := prog_3_method_12_code
def yX1_cells : MethodName := ⟨RX1, "cells", "()I"⟩
abbrev cX1_hasCell : ByteArray := prog_3_method_13_code
def yX1_hasCell : MethodName := ⟨RX1, "hasCell", "(I)Z"⟩
abbrev cX1_heightAt : ByteArray := prog_3_method_14_code
def yX1_heightAt : MethodName := ⟨RX1, "heightAt", "(I)I"⟩
abbrev cX1_townCell : ByteArray := prog_3_method_15_code
def yX1_townCell : MethodName := ⟨RX1, "townCell", "(I)I"⟩
abbrev cX1_isTown : ByteArray := prog_3_method_16_code
def yX1_isTown : MethodName := ⟨RX1, "isTown", "(I)Z"⟩
abbrev cX1_cellsOfTowns : ByteArray := prog_3_method_17_code
def yX1_cellsOfTowns : MethodName := ⟨RX1, "cellsOfTowns", "(I)I"⟩
abbrev cX1_neighbour : ByteArray := prog_3_method_18_code
def yX1_neighbour : MethodName := ⟨RX1, "neighbour", "(II)I"⟩
abbrev cX1_step : ByteArray := prog_3_method_19_code
def yX1_step : MethodName := ⟨RX1, "step", "(II)I"⟩
abbrev cX1_cellBy : ByteArray := prog_3_method_20_code
def yX1_cellBy : MethodName := ⟨RX1, "cellBy", "(II)I"⟩
def RX2 : String := "WovenRoads$LandText"
def TX2 : u_T := fun k => match k with
  | 0 => ("WovenRoads$LandText", "letters", "LWovenRoads$Row;", true)
  | 1 => ("WovenRoads$LandText", "size", "I", false)
  | 2 => ("WovenRoads$LandText", "told", "LWovenRoads$Land;", true)
  | 3 => ("WovenRoads$LandText", "items", "I", false)
  | 4 => ("WovenRoads$LandText", "slopeTold", "Z", false)
  | 5 => ("WovenRoads$LandText", "place", "I", false)
  | 6 => ("WovenRoads$LandText", "token", "I", false)
  | 7 => ("WovenRoads$LandText", "tokenPlace", "I", false)
  | _ => ("WovenRoads$LandText", "number", "I", false)
def tyX2 : Nat → FieldType := fun k => match k with
  | 0 => .object "WovenRoads$Row"
  | 1 => .int
  | 2 => .object "WovenRoads$Land"
  | 3 => .int
  | 4 => .boolean
  | 5 => .int
  | 6 => .int
  | 7 => .int
  | _ => .int
abbrev wsX20 : List Cond := u_ws RX2 TX2 9
theorem nmX2 : ∀ a, a < 9 → ∀ b, b < 9 → a ≠ b → (TX2 a).2.1 ≠ (TX2 b).2.1 := by decide +kernel
theorem tyX2_ok : ∀ k, k < 9 → parseFieldDescriptor (TX2 k).2.2.1 = some (tyX2 k) := by decide +kernel
abbrev cX2_init : ByteArray := prog_4_method_1_code
def yX2_init : MethodName := ⟨RX2, "<init>", "()V"⟩
abbrev cX2_size : ByteArray := prog_4_method_2_code
def yX2_size : MethodName := ⟨RX2, "size", "()I"⟩
abbrev cX2_told : ByteArray := prog_4_method_3_code
def yX2_told : MethodName := ⟨RX2, "told", "()LWovenRoads$Land;"⟩
abbrev cX2_add : ByteArray := prog_4_method_4_code
def yX2_add : MethodName := ⟨RX2, "add", "(I)Z"⟩
abbrev cX2_empty : ByteArray := prog_4_method_5_code
def yX2_empty : MethodName := ⟨RX2, "empty", "()V"⟩
abbrev cX2_read : ByteArray := prog_4_method_6_code
def yX2_read : MethodName := ⟨RX2, "read", "()I"⟩
abbrev cX2_readItem : ByteArray := prog_4_method_7_code
def yX2_readItem : MethodName := ⟨RX2, "readItem", "()Z"⟩
abbrev cX2_readSize : ByteArray := prog_4_method_8_code
def yX2_readSize : MethodName := ⟨RX2, "readSize", "()Z"⟩
abbrev cX2_readHeight : ByteArray := prog_4_method_9_code
def yX2_readHeight : MethodName := ⟨RX2, "readHeight", "()Z"⟩
abbrev cX2_readTown : ByteArray := prog_4_method_10_code
def yX2_readTown : MethodName := ⟨RX2, "readTown", "()Z"⟩
abbrev cX2_readSlope : ByteArray := prog_4_method_11_code
def yX2_readSlope : MethodName := ⟨RX2, "readSlope", "()Z"⟩
abbrev cX2_readNumber : ByteArray := prog_4_method_12_code
def yX2_readNumber : MethodName := ⟨RX2, "readNumber", "(II)Z"⟩
abbrev cX2_readItemEnd : ByteArray := prog_4_method_13_code
def yX2_readItemEnd : MethodName := ⟨RX2, "readItemEnd", "()Z"⟩
abbrev cX2_nextToken : ByteArray := prog_4_method_14_code
def yX2_nextToken : MethodName := ⟨RX2, "nextToken", "()V"⟩
abbrev cX2_isDigit : ByteArray := prog_4_method_15_code
def yX2_isDigit : MethodName := ⟨RX2, "isDigit", "(I)Z"⟩
def RX3 : String := "WovenRoads$Odds"
def TX3 : u_T := fun k => match k with
  | 0 => ("WovenRoads$Odds", "frayed", "LWovenRoads$Bolts;", true)
  | 1 => ("WovenRoads$Odds", "left", "LWovenRoads$Roads;", true)
  | _ => ("WovenRoads$Odds", "chances", "LWovenRoads$Row;", true)
def tyX3 : Nat → FieldType := fun k => match k with
  | 0 => .object "WovenRoads$Bolts"
  | 1 => .object "WovenRoads$Roads"
  | _ => .object "WovenRoads$Row"
abbrev wsX30 : List Cond := u_ws RX3 TX3 3
theorem nmX3 : ∀ a, a < 3 → ∀ b, b < 3 → a ≠ b → (TX3 a).2.1 ≠ (TX3 b).2.1 := by decide +kernel
theorem tyX3_ok : ∀ k, k < 3 → parseFieldDescriptor (TX3 k).2.2.1 = some (tyX3 k) := by decide +kernel
abbrev cX3_init : ByteArray := prog_5_method_1_code
def yX3_init : MethodName := ⟨RX3, "<init>", "(LWovenRoads$Land;)V"⟩
abbrev cX3_lowerNumber : ByteArray := prog_5_method_2_code
def yX3_lowerNumber : MethodName := ⟨RX3, "lowerNumber", "(I)I"⟩
abbrev cX3_upperNumber : ByteArray := prog_5_method_3_code
def yX3_upperNumber : MethodName := ⟨RX3, "upperNumber", "(LWovenRoads$Bolts;II)I"⟩
abbrev cX3_foretell : ByteArray := prog_5_method_4_code
def yX3_foretell : MethodName := ⟨RX3, "foretell", "(II)V"⟩
def RX4 : String := "WovenRoads$Past"
def TX4 : u_T := fun k => match k with
  | 0 => ("WovenRoads$Past", "bolts", "LWovenRoads$Bolts;", true)
  | 1 => ("WovenRoads$Past", "shelf", "LWovenRoads$Row;", true)
  | 2 => ("WovenRoads$Past", "next", "I", false)
  | _ => ("WovenRoads$Past", "known", "I", false)
def tyX4 : Nat → FieldType := fun k => match k with
  | 0 => .object "WovenRoads$Bolts"
  | 1 => .object "WovenRoads$Row"
  | 2 => .int
  | _ => .int
abbrev wsX40 : List Cond := u_ws RX4 TX4 4
theorem nmX4 : ∀ a, a < 4 → ∀ b, b < 4 → a ≠ b → (TX4 a).2.1 ≠ (TX4 b).2.1 := by decide +kernel
theorem tyX4_ok : ∀ k, k < 4 → parseFieldDescriptor (TX4 k).2.2.1 = some (tyX4 k) := by decide +kernel
abbrev cX4_init : ByteArray := prog_6_method_1_code
def yX4_init : MethodName := ⟨RX4, "<init>", "(LWovenRoads$Bolts;)V"⟩
abbrev cX4_known : ByteArray := prog_6_method_2_code
def yX4_known : MethodName := ⟨RX4, "known", "()I"⟩
abbrev cX4_forget : ByteArray := prog_6_method_3_code
def yX4_forget : MethodName := ⟨RX4, "forget", "()V"⟩
abbrev cX4_remember : ByteArray := prog_6_method_4_code
def yX4_remember : MethodName := ⟨RX4, "remember", "()V"⟩
abbrev cX4_takeBack : ByteArray := prog_6_method_5_code
def yX4_takeBack : MethodName := ⟨RX4, "takeBack", "()Z"⟩
def RX5 : String := "WovenRoads$Rates"
def TX5 : u_T := fun k => match k with
  | 0 => ("WovenRoads$Rates", "bolts", "LWovenRoads$Bolts;", true)
  | 1 => ("WovenRoads$Rates", "roads", "LWovenRoads$Roads;", true)
  | _ => ("WovenRoads$Rates", "traced", "J", false)
def tyX5 : Nat → FieldType := fun k => match k with
  | 0 => .object "WovenRoads$Bolts"
  | 1 => .object "WovenRoads$Roads"
  | _ => .long
abbrev wsX50 : List Cond := u_ws RX5 TX5 3
theorem nmX5 : ∀ a, a < 3 → ∀ b, b < 3 → a ≠ b → (TX5 a).2.1 ≠ (TX5 b).2.1 := by decide +kernel
theorem tyX5_ok : ∀ k, k < 3 → parseFieldDescriptor (TX5 k).2.2.1 = some (tyX5 k) := by decide +kernel
abbrev cX5_init : ByteArray := prog_7_method_1_code
def yX5_init : MethodName := ⟨RX5, "<init>", "(LWovenRoads$Bolts;LWovenRoads$Roads;)V"⟩
abbrev cX5_traced : ByteArray := prog_7_method_2_code
def yX5_traced : MethodName := ⟨RX5, "traced", "()J"⟩
abbrev cX5_asBolt : ByteArray := prog_7_method_3_code
def yX5_asBolt : MethodName := ⟨RX5, "asBolt", "(I)I"⟩
abbrev cX5_asLane : ByteArray := prog_7_method_4_code
def yX5_asLane : MethodName := ⟨RX5, "asLane", "(I)I"⟩
abbrev cX5_asToll : ByteArray := prog_7_method_5_code
def yX5_asToll : MethodName := ⟨RX5, "asToll", "(I)I"⟩
abbrev cX5_asTrack : ByteArray := prog_7_method_6_code
def yX5_asTrack : MethodName := ⟨RX5, "asTrack", "(I)I"⟩
abbrev cX5_asMoth : ByteArray := prog_7_method_7_code
def yX5_asMoth : MethodName := ⟨RX5, "asMoth", "(I)I"⟩
abbrev cX5_asDream : ByteArray := prog_7_method_8_code
def yX5_asDream : MethodName := ⟨RX5, "asDream", "(I)I"⟩
def RX6 : String := "WovenRoads$Roads"
def TX6 : u_T := fun k => match k with
  | 0 => ("WovenRoads$Roads", "ground", "LWovenRoads$Land;", true)
  | 1 => ("WovenRoads$Roads", "right", "I", false)
  | _ => ("WovenRoads$Roads", "down", "I", false)
def tyX6 : Nat → FieldType := fun k => match k with
  | 0 => .object "WovenRoads$Land"
  | 1 => .int
  | _ => .int
abbrev wsX60 : List Cond := u_ws RX6 TX6 3
theorem nmX6 : ∀ a, a < 3 → ∀ b, b < 3 → a ≠ b → (TX6 a).2.1 ≠ (TX6 b).2.1 := by decide +kernel
theorem tyX6_ok : ∀ k, k < 3 → parseFieldDescriptor (TX6 k).2.2.1 = some (tyX6 k) := by decide +kernel
abbrev cX6_init : ByteArray := prog_8_method_1_code
def yX6_init : MethodName := ⟨RX6, "<init>", "(LWovenRoads$Land;)V"⟩
abbrev cX6_lay : ByteArray := prog_8_method_2_code
def yX6_lay : MethodName := ⟨RX6, "lay", "(LWovenRoads$Bolts;)V"⟩
abbrev cX6_layWhereSlope : ByteArray := prog_8_method_3_code
def yX6_layWhereSlope : MethodName := ⟨RX6, "layWhereSlope", "(I)V"⟩
abbrev cX6_layBetween : ByteArray := prog_8_method_4_code
def yX6_layBetween : MethodName := ⟨RX6, "layBetween", "(II)V"⟩
abbrev cX6_goes : ByteArray := prog_8_method_5_code
def yX6_goes : MethodName := ⟨RX6, "goes", "(II)Z"⟩
abbrev cX6_spread : ByteArray := prog_8_method_6_code
def yX6_spread : MethodName := ⟨RX6, "spread", "(I)I"⟩
abbrev cX6_reach : ByteArray := prog_8_method_7_code
def yX6_reach : MethodName := ⟨RX6, "reach", "(II)I"⟩
abbrev cX6_pieces : ByteArray := prog_8_method_8_code
def yX6_pieces : MethodName := ⟨RX6, "pieces", "()I"⟩
abbrev cX6_steepest : ByteArray := prog_8_method_9_code
def yX6_steepest : MethodName := ⟨RX6, "steepest", "()I"⟩
abbrev cX6_fewestDarners : ByteArray := prog_8_method_10_code
def yX6_fewestDarners : MethodName := ⟨RX6, "fewestDarners", "(I)I"⟩
def RX7 : String := "WovenRoads$Row"
def TX7 : u_T := fun k => match k with
  | _ => ("WovenRoads$Row", "numbers", "[I", true)
def tyX7 : Nat → FieldType := fun k => match k with
  | _ => .array .int
abbrev wsX70 : List Cond := u_ws RX7 TX7 1
theorem nmX7 : ∀ a, a < 1 → ∀ b, b < 1 → a ≠ b → (TX7 a).2.1 ≠ (TX7 b).2.1 := by decide +kernel
theorem tyX7_ok : ∀ k, k < 1 → parseFieldDescriptor (TX7 k).2.2.1 = some (tyX7 k) := by decide +kernel
abbrev cX7_init : ByteArray := prog_9_method_1_code
def yX7_init : MethodName := ⟨RX7, "<init>", "(I)V"⟩
abbrev cX7_get : ByteArray := prog_9_method_2_code
def yX7_get : MethodName := ⟨RX7, "get", "(I)I"⟩
abbrev cX7_put : ByteArray := prog_9_method_3_code
def yX7_put : MethodName := ⟨RX7, "put", "(II)V"⟩
abbrev cX7_fill : ByteArray := prog_9_method_4_code
def yX7_fill : MethodName := ⟨RX7, "fill", "(I)V"⟩
def RX8 : String := "WovenRoads$Walk"
def TX8 : u_T := fun k => match k with
  | 0 => ("WovenRoads$Walk", "ground", "LWovenRoads$Land;", true)
  | 1 => ("WovenRoads$Walk", "bolts", "LWovenRoads$Bolts;", true)
  | 2 => ("WovenRoads$Walk", "roads", "LWovenRoads$Roads;", true)
  | _ => ("WovenRoads$Walk", "times", "LWovenRoads$Row;", true)
def tyX8 : Nat → FieldType := fun k => match k with
  | 0 => .object "WovenRoads$Land"
  | 1 => .object "WovenRoads$Bolts"
  | 2 => .object "WovenRoads$Roads"
  | _ => .object "WovenRoads$Row"
abbrev wsX80 : List Cond := u_ws RX8 TX8 4
theorem nmX8 : ∀ a, a < 4 → ∀ b, b < 4 → a ≠ b → (TX8 a).2.1 ≠ (TX8 b).2.1 := by decide +kernel
theorem tyX8_ok : ∀ k, k < 4 → parseFieldDescriptor (TX8 k).2.2.1 = some (tyX8 k) := by decide +kernel
abbrev cX8_init : ByteArray := prog_10_method_1_code
def yX8_init : MethodName := ⟨RX8, "<init>", "(LWovenRoads$Land;LWovenRoads$Bolts;LWovenRoads$Roads;)V"⟩
abbrev cX8_soonest : ByteArray := prog_10_method_2_code
def yX8_soonest : MethodName := ⟨RX8, "soonest", "(II)I"⟩
abbrev cX8_goOn : ByteArray := prog_10_method_3_code
def yX8_goOn : MethodName := ⟨RX8, "goOn", "(II)Z"⟩
def RX9 : String := "WovenRoads$Weaving"
def TX9 : u_T := fun k => match k with
  | 0 => ("WovenRoads$Weaving", "ground", "LWovenRoads$Land;", true)
  | 1 => ("WovenRoads$Weaving", "roads", "LWovenRoads$Roads;", true)
  | 2 => ("WovenRoads$Weaving", "possible", "LWovenRoads$Roads;", true)
  | _ => ("WovenRoads$Weaving", "joinable", "LWovenRoads$Row;", true)
def tyX9 : Nat → FieldType := fun k => match k with
  | 0 => .object "WovenRoads$Land"
  | 1 => .object "WovenRoads$Roads"
  | 2 => .object "WovenRoads$Roads"
  | _ => .object "WovenRoads$Row"
abbrev wsX90 : List Cond := u_ws RX9 TX9 4
theorem nmX9 : ∀ a, a < 4 → ∀ b, b < 4 → a ≠ b → (TX9 a).2.1 ≠ (TX9 b).2.1 := by decide +kernel
theorem tyX9_ok : ∀ k, k < 4 → parseFieldDescriptor (TX9 k).2.2.1 = some (tyX9 k) := by decide +kernel
abbrev cX9_init : ByteArray := prog_11_method_1_code
def yX9_init : MethodName := ⟨RX9, "<init>", "(LWovenRoads$Land;LWovenRoads$Roads;)V"⟩
abbrev cX9_leastSlope : ByteArray := prog_11_method_2_code
def yX9_leastSlope : MethodName := ⟨RX9, "leastSlope", "()I"⟩
abbrev cX9_fewestElls : ByteArray := prog_11_method_3_code
def yX9_fewestElls : MethodName := ⟨RX9, "fewestElls", "()I"⟩
abbrev cX9_cellsJoined : ByteArray := prog_11_method_4_code
def yX9_cellsJoined : MethodName := ⟨RX9, "cellsJoined", "(II)I"⟩
abbrev cX9_cellsWherePartsMeet : ByteArray := prog_11_method_5_code
def yX9_cellsWherePartsMeet : MethodName := ⟨RX9, "cellsWherePartsMeet", "(II)I"⟩
abbrev cX9_placeOf : ByteArray := prog_11_method_6_code
def yX9_placeOf : MethodName := ⟨RX9, "placeOf", "(II)I"⟩
def RX10 : String := "WovenRoads"
def TX10 : u_T := fun k => match k with
  | 0 => ("WovenRoads", "ground", "LWovenRoads$Land;", true)
  | 1 => ("WovenRoads", "text", "LWovenRoads$LandText;", true)
  | 2 => ("WovenRoads", "bolts", "LWovenRoads$Bolts;", true)
  | 3 => ("WovenRoads", "past", "LWovenRoads$Past;", true)
  | 4 => ("WovenRoads", "images", "LWovenRoads$Row;", true)
  | 5 => ("WovenRoads", "keptImages", "I", false)
  | 6 => ("WovenRoads", "roads", "LWovenRoads$Roads;", true)
  | 7 => ("WovenRoads", "walk", "LWovenRoads$Walk;", true)
  | 8 => ("WovenRoads", "weaving", "LWovenRoads$Weaving;", true)
  | 9 => ("WovenRoads", "fortune", "LWovenRoads$Odds;", true)
  | _ => ("WovenRoads", "rates", "LWovenRoads$Rates;", true)
def tyX10 : Nat → FieldType := fun k => match k with
  | 0 => .object "WovenRoads$Land"
  | 1 => .object "WovenRoads$LandText"
  | 2 => .object "WovenRoads$Bolts"
  | 3 => .object "WovenRoads$Past"
  | 4 => .object "WovenRoads$Row"
  | 5 => .int
  | 6 => .object "WovenRoads$Roads"
  | 7 => .object "WovenRoads$Walk"
  | 8 => .object "WovenRoads$Weaving"
  | 9 => .object "WovenRoads$Odds"
  | _ => .object "WovenRoads$Rates"
abbrev wsX100 : List Cond := u_ws RX10 TX10 11
theorem nmX10 : ∀ a, a < 11 → ∀ b, b < 11 → a ≠ b → (TX10 a).2.1 ≠ (TX10 b).2.1 := by decide +kernel
theorem tyX10_ok : ∀ k, k < 11 → parseFieldDescriptor (TX10 k).2.2.1 = some (tyX10 k) := by decide +kernel
abbrev cX10_init : ByteArray := prog_1_method_1_code
def yX10_init : MethodName := ⟨RX10, "<init>", "()V"⟩
abbrev cX10_type : ByteArray := prog_1_method_2_code
def yX10_type : MethodName := ⟨RX10, "type", "(I)I"⟩
abbrev cX10_clear : ByteArray := prog_1_method_3_code
def yX10_clear : MethodName := ⟨RX10, "clear", "()I"⟩
abbrev cX10_land : ByteArray := prog_1_method_4_code
def yX10_land : MethodName := ⟨RX10, "land", "()I"⟩
abbrev cX10_height : ByteArray := prog_1_method_5_code
def yX10_height : MethodName := ⟨RX10, "height", "(I)I"⟩
abbrev cX10_town : ByteArray := prog_1_method_6_code
def yX10_town : MethodName := ⟨RX10, "town", "(I)I"⟩
abbrev cX10_bolt : ByteArray := prog_1_method_7_code
def yX10_bolt : MethodName := ⟨RX10, "bolt", "(II)I"⟩
abbrev cX10_card : ByteArray := prog_1_method_8_code
def yX10_card : MethodName := ⟨RX10, "card", "(II)I"⟩
abbrev cX10_road : ByteArray := prog_1_method_9_code
def yX10_road : MethodName := ⟨RX10, "road", "(II)I"⟩
abbrev cX10_now : ByteArray := prog_1_method_10_code
def yX10_now : MethodName := ⟨RX10, "now", "(I)I"⟩
abbrev cX10_begins : ByteArray := prog_1_method_11_code
def yX10_begins : MethodName := ⟨RX10, "begins", "(I)I"⟩
abbrev cX10_weaves : ByteArray := prog_1_method_12_code
def yX10_weaves : MethodName := ⟨RX10, "weaves", "(II)I"⟩
abbrev cX10_turnAbout : ByteArray := prog_1_method_13_code
def yX10_turnAbout : MethodName := ⟨RX10, "turnAbout", "(I)I"⟩
abbrev cX10_rain : ByteArray := prog_1_method_14_code
def yX10_rain : MethodName := ⟨RX10, "rain", "()I"⟩
abbrev cX10_undo : ByteArray := prog_1_method_15_code
def yX10_undo : MethodName := ⟨RX10, "undo", "()I"⟩
abbrev cX10_joined : ByteArray := prog_1_method_16_code
def yX10_joined : MethodName := ⟨RX10, "joined", "(II)I"⟩
abbrev cX10_toWeave : ByteArray := prog_1_method_17_code
def yX10_toWeave : MethodName := ⟨RX10, "toWeave", "()I"⟩
abbrev cX10_way : ByteArray := prog_1_method_18_code
def yX10_way : MethodName := ⟨RX10, "way", "(II)I"⟩
abbrev cX10_darners : ByteArray := prog_1_method_19_code
def yX10_darners : MethodName := ⟨RX10, "darners", "(I)I"⟩
abbrev cX10_odds : ByteArray := prog_1_method_20_code
def yX10_odds : MethodName := ⟨RX10, "odds", "(III)I"⟩
abbrev cX10_wrong : ByteArray := prog_1_method_21_code
def yX10_wrong : MethodName := ⟨RX10, "wrong", "(III)I"⟩
abbrev cX10_look : ByteArray := prog_1_method_22_code
def yX10_look : MethodName := ⟨RX10, "look", "(II)I"⟩
abbrev cX10_rate : ByteArray := prog_1_method_23_code
def yX10_rate : MethodName := ⟨RX10, "rate", "(II)I"⟩
abbrev cX10_keep : ByteArray := prog_1_method_24_code
def yX10_keep : MethodName := ⟨RX10, "keep", "(I)I"⟩
abbrev cX10_back : ByteArray := prog_1_method_25_code
def yX10_back : MethodName := ⟨RX10, "back", "(I)I"⟩
abbrev cX10_count : ByteArray := prog_1_method_26_code
def yX10_count : MethodName := ⟨RX10, "count", "(I)I"⟩
abbrev cX10_trace : ByteArray := prog_1_method_27_code
def yX10_trace : MethodName := ⟨RX10, "trace", "()J"⟩
abbrev cX10_isCard : ByteArray := prog_1_method_28_code
def yX10_isCard : MethodName := ⟨RX10, "isCard", "(I)Z"⟩
abbrev cX10_isImage : ByteArray := prog_1_method_29_code
def yX10_isImage : MethodName := ⟨RX10, "isImage", "(I)Z"⟩
abbrev cX10_bit : ByteArray := prog_1_method_30_code
def yX10_bit : MethodName := ⟨RX10, "bit", "(I)I"⟩
abbrev cX10_commonDivisor : ByteArray := prog_1_method_31_code
def yX10_commonDivisor : MethodName := ⟨RX10, "commonDivisor", "(II)I"⟩
def RX11 : String := "WovenRoadsModel"
def TX11 : u_T := fun k => match k with
  | 0 => ("WovenRoadsModel", "thrown", "I", false)
  | 1 => ("WovenRoadsModel", "trace", "J", false)
  | 2 => ("WovenRoadsModel", "text", "[I", true)
  | 3 => ("WovenRoadsModel", "typed", "I", false)
  | 4 => ("WovenRoadsModel", "next", "I", false)
  | 5 => ("WovenRoadsModel", "token", "I", false)
  | 6 => ("WovenRoadsModel", "place", "I", false)
  | 7 => ("WovenRoadsModel", "value", "I", false)
  | 8 => ("WovenRoadsModel", "fault", "I", false)
  | 9 => ("WovenRoadsModel", "many", "[I", true)
  | 10 => ("WovenRoadsModel", "heights", "[I", true)
  | 11 => ("WovenRoadsModel", "towns", "[I", true)
  | 12 => ("WovenRoadsModel", "isSlopeTold", "Z", false)
  | 13 => ("WovenRoadsModel", "s", "[I", true)
  | 14 => ("WovenRoadsModel", "w", "[I", true)
  | 15 => ("WovenRoadsModel", "kept", "[I", true)
  | 16 => ("WovenRoadsModel", "isKept", "[Z", true)
  | 17 => ("WovenRoadsModel", "undos", "[I", true)
  | 18 => ("WovenRoadsModel", "undoMany", "I", false)
  | 19 => ("WovenRoadsModel", "roads", "[I", true)
  | 20 => ("WovenRoadsModel", "touched", "[I", true)
  | 21 => ("WovenRoadsModel", "far", "[I", true)
  | _ => ("WovenRoadsModel", "tree", "[I", true)
def tyX11 : Nat → FieldType := fun k => match k with
  | 0 => .int
  | 1 => .long
  | 2 => .array .int
  | 3 => .int
  | 4 => .int
  | 5 => .int
  | 6 => .int
  | 7 => .int
  | 8 => .int
  | 9 => .array .int
  | 10 => .array .int
  | 11 => .array .int
  | 12 => .boolean
  | 13 => .array .int
  | 14 => .array .int
  | 15 => .array .int
  | 16 => .array .boolean
  | 17 => .array .int
  | 18 => .int
  | 19 => .array .int
  | 20 => .array .int
  | 21 => .array .int
  | _ => .array .int
abbrev wsX110 : List Cond := u_ws RX11 TX11 23
theorem nmX11 : ∀ a, a < 23 → ∀ b, b < 23 → a ≠ b → (TX11 a).2.1 ≠ (TX11 b).2.1 := by decide +kernel
theorem tyX11_ok : ∀ k, k < 23 → parseFieldDescriptor (TX11 k).2.2.1 = some (tyX11 k) := by decide +kernel
abbrev cX11_init : ByteArray := prog_13_method_1_code
def yX11_init : MethodName := ⟨RX11, "<init>", "()V"⟩
abbrev cX11_in : ByteArray := prog_13_method_3_code
def yX11_in : MethodName := ⟨RX11, "in", "(III)Z"⟩
abbrev cX11_ones : ByteArray := prog_13_method_4_code
def yX11_ones : MethodName := ⟨RX11, "ones", "(I)I"⟩
abbrev cX11_type : ByteArray := prog_13_method_5_code
def yX11_type : MethodName := ⟨RX11, "type", "(I)I"⟩
abbrev cX11_clear : ByteArray := prog_13_method_6_code
def yX11_clear : MethodName := ⟨RX11, "clear", "()I"⟩
abbrev cX11_letterAt : ByteArray := prog_13_method_7_code
def yX11_letterAt : MethodName := ⟨RX11, "letterAt", "(I)I"⟩
abbrev cX11_advances : ByteArray := prog_13_method_8_code
def yX11_advances : MethodName := ⟨RX11, "advances", "()V"⟩
abbrev cX11_isWell : ByteArray := prog_13_method_9_code
def yX11_isWell : MethodName := ⟨RX11, "isWell", "()Z"⟩
abbrev cX11_takes : ByteArray := prog_13_method_10_code
def yX11_takes : MethodName := ⟨RX11, "takes", "(Z)I"⟩
abbrev cX11_number : ByteArray := prog_13_method_11_code
def yX11_number : MethodName := ⟨RX11, "number", "(II)I"⟩
abbrev cX11_isTaken : ByteArray := prog_13_method_12_code
def yX11_isTaken : MethodName := ⟨RX11, "isTaken", "(I)Z"⟩
abbrev cX11_mayBegin : ByteArray := prog_13_method_13_code
def yX11_mayBegin : MethodName := ⟨RX11, "mayBegin", "(I)Z"⟩
abbrev cX11_readsItem : ByteArray := prog_13_method_14_code
def yX11_readsItem : MethodName := ⟨RX11, "readsItem", "(I)V"⟩
abbrev cX11_land : ByteArray := prog_13_method_15_code
def yX11_land : MethodName := ⟨RX11, "land", "()I"⟩
abbrev cX11_settles : ByteArray := prog_13_method_16_code
def yX11_settles : MethodName := ⟨RX11, "settles", "()V"⟩
abbrev cX11_cells : ByteArray := prog_13_method_17_code
def yX11_cells : MethodName := ⟨RX11, "cells", "()I"⟩
abbrev cX11_isCell : ByteArray := prog_13_method_18_code
def yX11_isCell : MethodName := ⟨RX11, "isCell", "(I)Z"⟩
abbrev cX11_isBolt : ByteArray := prog_13_method_19_code
def yX11_isBolt : MethodName := ⟨RX11, "isBolt", "(I)Z"⟩
abbrev cX11_height : ByteArray := prog_13_method_20_code
def yX11_height : MethodName := ⟨RX11, "height", "(I)I"⟩
abbrev cX11_town : ByteArray := prog_13_method_21_code
def yX11_town : MethodName := ⟨RX11, "town", "(I)I"⟩
abbrev cX11_leads : ByteArray := prog_13_method_22_code
def yX11_leads : MethodName := ⟨RX11, "leads", "(II)I"⟩
abbrev cX11_step : ByteArray := prog_13_method_23_code
def yX11_step : MethodName := ⟨RX11, "step", "(II)I"⟩
abbrev cX11_goes : ByteArray := prog_13_method_24_code
def yX11_goes : MethodName := ⟨RX11, "goes", "(II)I"⟩
abbrev cX11_firstOf : ByteArray := prog_13_method_25_code
def yX11_firstOf : MethodName := ⟨RX11, "firstOf", "([II)I"⟩
abbrev cX11_cardsOf : ByteArray := prog_13_method_26_code
def yX11_cardsOf : MethodName := ⟨RX11, "cardsOf", "([II)I"⟩
abbrev cX11_cardAt : ByteArray := prog_13_method_27_code
def yX11_cardAt : MethodName := ⟨RX11, "cardAt", "([III)I"⟩
abbrev cX11_behind : ByteArray := prog_13_method_28_code
def yX11_behind : MethodName := ⟨RX11, "behind", "([III)I"⟩
abbrev cX11_endOf : ByteArray := prog_13_method_29_code
def yX11_endOf : MethodName := ⟨RX11, "endOf", "([II)I"⟩
abbrev cX11_upOf : ByteArray := prog_13_method_30_code
def yX11_upOf : MethodName := ⟨RX11, "upOf", "(I)I"⟩
abbrev cX11_bolt : ByteArray := prog_13_method_31_code
def yX11_bolt : MethodName := ⟨RX11, "bolt", "(II)I"⟩
abbrev cX11_card : ByteArray := prog_13_method_32_code
def yX11_card : MethodName := ⟨RX11, "card", "(II)I"⟩
abbrev cX11_builds : ByteArray := prog_13_method_33_code
def yX11_builds : MethodName := ⟨RX11, "builds", "([I)V"⟩
abbrev cX11_road : ByteArray := prog_13_method_34_code
def yX11_road : MethodName := ⟨RX11, "road", "(II)I"⟩
abbrev cX11_spreads : ByteArray := prog_13_method_35_code
def yX11_spreads : MethodName := ⟨RX11, "spreads", "(I)V"⟩
abbrev cX11_piecesOf : ByteArray := prog_13_method_36_code
def yX11_piecesOf : MethodName := ⟨RX11, "piecesOf", "([I)I"⟩
abbrev cX11_isTown : ByteArray := prog_13_method_37_code
def yX11_isTown : MethodName := ⟨RX11, "isTown", "(I)Z"⟩
abbrev cX11_nowhere : ByteArray := prog_13_method_38_code
def yX11_nowhere : MethodName := ⟨RX11, "nowhere", "()I"⟩
abbrev cX11_steep : ByteArray := prog_13_method_39_code
def yX11_steep : MethodName := ⟨RX11, "steep", "()I"⟩
abbrev cX11_ells : ByteArray := prog_13_method_40_code
def yX11_ells : MethodName := ⟨RX11, "ells", "()I"⟩
abbrev cX11_couldBe : ByteArray := prog_13_method_41_code
def yX11_couldBe : MethodName := ⟨RX11, "couldBe", "(I)Z"⟩
abbrev cX11_leastSlope : ByteArray := prog_13_method_42_code
def yX11_leastSlope : MethodName := ⟨RX11, "leastSlope", "()I"⟩
abbrev cX11_now : ByteArray := prog_13_method_43_code
def yX11_now : MethodName := ⟨RX11, "now", "(I)I"⟩
abbrev cX11_notes : ByteArray := prog_13_method_44_code
def yX11_notes : MethodName := ⟨RX11, "notes", "()V"⟩
abbrev cX11_begins : ByteArray := prog_13_method_45_code
def yX11_begins : MethodName := ⟨RX11, "begins", "(I)I"⟩
abbrev cX11_weaves : ByteArray := prog_13_method_46_code
def yX11_weaves : MethodName := ⟨RX11, "weaves", "(II)I"⟩
abbrev cX11_turnAbout : ByteArray := prog_13_method_47_code
def yX11_turnAbout : MethodName := ⟨RX11, "turnAbout", "(I)I"⟩
abbrev cX11_frays : ByteArray := prog_13_method_48_code
def yX11_frays : MethodName := ⟨RX11, "frays", "([I)I"⟩
abbrev cX11_rain : ByteArray := prog_13_method_49_code
def yX11_rain : MethodName := ⟨RX11, "rain", "()I"⟩
abbrev cX11_undo : ByteArray := prog_13_method_50_code
def yX11_undo : MethodName := ⟨RX11, "undo", "()I"⟩
abbrev cX11_joined : ByteArray := prog_13_method_51_code
def yX11_joined : MethodName := ⟨RX11, "joined", "(II)I"⟩
abbrev cX11_grows : ByteArray := prog_13_method_52_code
def yX11_grows : MethodName := ⟨RX11, "grows", "(I)V"⟩
abbrev cX11_toWeave : ByteArray := prog_13_method_53_code
def yX11_toWeave : MethodName := ⟨RX11, "toWeave", "()I"⟩
abbrev cX11_way : ByteArray := prog_13_method_54_code
def yX11_way : MethodName := ⟨RX11, "way", "(II)I"⟩
abbrev cX11_areNear : ByteArray := prog_13_method_55_code
def yX11_areNear : MethodName := ⟨RX11, "areNear", "(II)Z"⟩
abbrev cX11_darners : ByteArray := prog_13_method_56_code
def yX11_darners : MethodName := ⟨RX11, "darners", "(I)I"⟩
abbrev cX11_power : ByteArray := prog_13_method_57_code
def yX11_power : MethodName := ⟨RX11, "power", "(II)I"⟩
abbrev cX11_choose : ByteArray := prog_13_method_58_code
def yX11_choose : MethodName := ⟨RX11, "choose", "(II)I"⟩
abbrev cX11_gcd : ByteArray := prog_13_method_59_code
def yX11_gcd : MethodName := ⟨RX11, "gcd", "(II)I"⟩
abbrev cX11_odds : ByteArray := prog_13_method_60_code
def yX11_odds : MethodName := ⟨RX11, "odds", "(III)I"⟩
abbrev cX11_otherwise : ByteArray := prog_13_method_61_code
def yX11_otherwise : MethodName := ⟨RX11, "otherwise", "(IIII)I"⟩
abbrev cX11_wrong : ByteArray := prog_13_method_62_code
def yX11_wrong : MethodName := ⟨RX11, "wrong", "(III)I"⟩
abbrev cX11_look : ByteArray := prog_13_method_63_code
def yX11_look : MethodName := ⟨RX11, "look", "(II)I"⟩
abbrev cX11_rate : ByteArray := prog_13_method_64_code
def yX11_rate : MethodName := ⟨RX11, "rate", "(II)I"⟩
abbrev cX11_keep : ByteArray := prog_13_method_65_code
def yX11_keep : MethodName := ⟨RX11, "keep", "(I)I"⟩
abbrev cX11_back : ByteArray := prog_13_method_66_code
def yX11_back : MethodName := ⟨RX11, "back", "(I)I"⟩
abbrev cX11_count : ByteArray := prog_13_method_67_code
def yX11_count : MethodName := ⟨RX11, "count", "(I)I"⟩
abbrev cX11_trace : ByteArray := prog_13_method_68_code
def yX11_trace : MethodName := ⟨RX11, "trace", "()J"⟩
def RJ6 : String := "java/lang/Integer"
abbrev cJ6_bitCount_0f7a4 : ByteArray := prog_14_method_49_code
def yJ6_bitCount_0f7a4 : MethodName := ⟨RJ6, "bitCount", "(I)I"⟩
def RJ9 : String := "java/lang/Math"
abbrev cJ9_abs_0f7a4 : ByteArray := prog_15_method_59_code
def yJ9_abs_0f7a4 : MethodName := ⟨RJ9, "abs", "(I)I"⟩
abbrev cJ9_max_7cf53 : ByteArray := prog_15_method_65_code
def yJ9_max_7cf53 : MethodName := ⟨RJ9, "max", "(II)I"⟩
abbrev cJ9_min_7cf53 : ByteArray := prog_15_method_69_code
def yJ9_min_7cf53 : MethodName := ⟨RJ9, "min", "(II)I"⟩
def RL : String := "WovenRoadsLaw"
abbrev cL_law : ByteArray := code
def yL_law : MethodName := ⟨RL, "law", "([I)Z"⟩
abbrev vwCl : List vw_C := [(RX0, TX0, 2), (RX1, TX1, 6), (RX2, TX2, 9), (RX3, TX3, 3), (RX4, TX4, 4), (RX5, TX5, 3), (RX6, TX6, 3), (RX7, TX7, 1), (RX8, TX8, 4), (RX9, TX9, 4), (RX10, TX10, 11), (RX11, TX11, 23)]
end
section
/-! ===== worlds with numbered cells: cells are numbered, a map gives each number its address ===== -/
abbrev eC : Type := (Bool × Nat × (Nat → Int32)) ⊕ (Nat × List Value)
abbrev eW : Type := List eC
def e_cv (r : Nat → Nat) : Value → Value
  | .ref i => .ref (r i)
  | v => v
def e_cc (cI cZ : ClassId) (r : Nat → Nat) : eC → va_E
  | .inl a => .inl (bif a.1 then cZ else cI, a.2.1, .inl a.2.2)
  | .inr o => .inr (o.1, o.2.map (e_cv r))
def e_cw (cI cZ : ClassId) (r : Nat → Nat) (w : eW) : va_W := w.mapIdx (fun i c => (r i, e_cc cI cZ r c))
abbrev e_ty (cI cZ : ClassId) : List (ClassId × FieldType) := [(cI, .int), (cZ, .boolean)]
def e_L (r : Nat → Nat) (L : List (Nat × Value)) : List (Nat × Value) := L.map (fun q => (q.1, e_cv r q.2))
theorem e_cv_cat (r : Nat → Nat) (v : Value) : (e_cv r v).category = v.category := by cases v <;> rfl
theorem e_cw_get (cI cZ : ClassId) (r : Nat → Nat) (w : eW) (i : Nat) : (e_cw cI cZ r w)[i]? = (w[i]?).map (fun c => (r i, e_cc cI cZ r c)) := by
  simp [e_cw, List.getElem?_mapIdx]
theorem e_cw_at {cI cZ : ClassId} {r : Nat → Nat} {w : eW} {i : Nat} {c : eC} (h : w[i]? = some c) : (e_cw cI cZ r w)[i]? = some (r i, e_cc cI cZ r c) := by
  rw [e_cw_get, h]; rfl
theorem e_cw_set (cI cZ : ClassId) (r : Nat → Nat) (w : eW) (i : Nat) (c : eC) : e_cw cI cZ r (w.set i c) = (e_cw cI cZ r w).set i (r i, e_cc cI cZ r c) := by
  apply List.ext_getElem?
  intro j
  rw [e_cw_get, List.getElem?_set, List.getElem?_set, e_cw_get]
  have hl : (e_cw cI cZ r w).length = w.length := by simp [e_cw]
  rw [hl]
  by_cases h : i = j
  · subst h
    by_cases h2 : i < w.length <;> simp [h2]
  · simp [h]
theorem e_L_filter (r : Nat → Nat) (L : List (Nat × Value)) (i : Nat) : (e_L r L).filter (fun q => !(q.1 == i) && !(q.1 + 1 == i && q.2.category == 2)) = e_L r (L.filter (fun q => !(q.1 == i) && !(q.1 + 1 == i && q.2.category == 2))) := by
  unfold e_L
  rw [List.filter_map]
  congr 1
  apply List.filter_congr
  intro x _
  simp [Function.comp, e_cv_cat]
theorem e_L_get (r : Nat → Nat) (L : List (Nat × Value)) (k : Nat) : (e_L r L)[k]? = (L[k]?).map (fun q => (q.1, e_cv r q.2)) := by simp [e_L]
theorem e_L_pick (r : Nat → Nat) (L : List (Nat × Value)) (ks : List Nat) : lv_pick (e_L r L) ks = e_L r (lv_pick L ks) := by
  unfold lv_pick
  induction ks with
  | nil => rfl
  | cons k ks ih =>
    rw [List.filterMap_cons, List.filterMap_cons, e_L_get]
    cases h : L[k]? with
    | none => simpa using ih
    | some q => simp [e_L] at ih ⊢; exact ih
/-! ===== the judgement: the machine from a frame on, over a world of numbered cells ===== -/
def EV (p : Program) (l : Launch) (e : Env) (R : Room) (s : State) (m : MethodId) (args : Array Value) (below : List Frame) (meth : Method) (c : Code) (D : va_G) (cI cZ : ClassId) (A : Nat → Prop) (H0 : Heap) (nL : Nat) (Q : State → Prop) (cells slots : Nat) (r : Nat → Nat) (pc : Nat) (L : List (Nat × Value)) (S : List Value) (w : eW) : Prop :=
  ∀ (H : Heap) (locs : List Loc) (ls : Array Slot), va_P D vwCl (e_cw cI cZ r w) H → va_D A (e_cw cI cZ r w) → va_S A H0 H locs → lv_has ls nL (e_L r L) →
    W p l e R s m args below meth c H locs cells slots Q (F0 m pc ls (S.map (e_cv r)))
/-- the words that move with every call -/
def eT : List Cond := lw_tbl.filter goodWord
/-- the words on nest mates' members -/
def eNw : List Cond := tables_1.filter (fun w => match w with | .methodLinkNest _ _ _ _ => true | _ => false)
def eNest (U : State) : Prop := ∀ w ∈ eNw, va_Nw w U
theorem eNest_warm {s U : State} (hW : s.WarmedH U.vm) (h : eNest s) : eNest U := by
  intro w hw
  have h1 := h w hw
  have h2 := (List.mem_filter.mp hw).2
  cases w <;> first | exact va_Nw.warmM hW h1 | cases h2
theorem eNest_same {s U : State} (hv : s.vm = U.vm) (h : eNest s) : eNest U := by
  intro w hw
  have h1 := h w hw
  have h2 := (List.mem_filter.mp hw).2
  cases w <;> first | exact va_Nw.same rfl hv h1 | cases h2
/-- what stands fast in a method's body -/
def eX (p : Program) (s : State) (m : MethodId) (args : Array Value) (meth : Method) (c : Code) (D : va_G) (cI cZ : ClassId) (A : Nat → Prop) (H0 : Heap) (y : MethodName) (cc : ByteArray) (nL : Nat) (ret : Option FieldType) : Prop :=
  p.tables.exec = Jvm.exec ∧ c.code = cc ∧ c.maxLocals = nL ∧ s.vm.findClass y.cls = some m.cls ∧ (∀ w ∈ eT, w.before args s = true) ∧ meth.sig.returnType = ret ∧ meth.locks = false ∧ va_K D vwCl (e_ty cI cZ) s ∧ eNest s ∧ (∀ q : Nat, H0.size ≤ q → A q) ∧ meth.name = y.name
section EVR
variable {p : Program} {l : Launch} {e : Env} {R : Room} {s : State} {m : MethodId} {args : Array Value} {below : List Frame} {meth : Method} {c : Code} {D : va_G} {cI cZ : ClassId} {A : Nat → Prop} {H0 : Heap} {nL : Nat} {Q : State → Prop} {cells slots : Nat} {r : Nat → Nat} {pc : Nat} {L L' : List (Nat × Value)} {S : List Value} {w : eW}
variable {y : MethodName} {cc : ByteArray} {ret : Option FieldType}
theorem ev_weak (ks : List Nat) (hL : lv_pick L ks = L') (k : EV p l e R s m args below meth c D cI cZ A H0 nL Q cells slots r pc L' S w) : EV p l e R s m args below meth c D cI cZ A H0 nL Q cells slots r pc L S w := by
  intro H locs ls hP hD hS hl
  exact k H locs ls hP hD hS (lv_sub hl ks (by rw [e_L_pick, hL]))
theorem ev_iconst (X : eX p s m args meth c D cI cZ A H0 y cc nL ret) {n : Int} {v : Int32} (hd : decode cc pc = .ok (.iconst n, 1)) (hv : Int32.ofInt n = v) (k : EV p l e R s m args below meth c D cI cZ A H0 nL Q cells slots r (pc + 1) L (.int v :: S) w) : EV p l e R s m args below meth c D cI cZ A H0 nL Q cells slots r pc L S w :=
  fun H locs ls hP hD hS hl => lv_iconst X.1 X.2.1 hd hv (k H locs ls hP hD hS hl)
theorem ev_bipush (X : eX p s m args meth c D cI cZ A H0 y cc nL ret) {n : Int} {v : Int32} (hd : decode cc pc = .ok (.bipush n, 2)) (hv : (Int8.ofInt n).toInt32 = v) (k : EV p l e R s m args below meth c D cI cZ A H0 nL Q cells slots r (pc + 2) L (.int v :: S) w) : EV p l e R s m args below meth c D cI cZ A H0 nL Q cells slots r pc L S w :=
  fun H locs ls hP hD hS hl => lv_bipush X.1 X.2.1 hd hv (k H locs ls hP hD hS hl)
theorem ev_sipush (X : eX p s m args meth c D cI cZ A H0 y cc nL ret) {n : Int} {v : Int32} (hd : decode cc pc = .ok (.sipush n, 3)) (hv : (Int16.ofInt n).toInt32 = v) (k : EV p l e R s m args below meth c D cI cZ A H0 nL Q cells slots r (pc + 3) L (.int v :: S) w) : EV p l e R s m args below meth c D cI cZ A H0 nL Q cells slots r pc L S w :=
  fun H locs ls hP hD hS hl => lv_sipush X.1 X.2.1 hd hv (k H locs ls hP hD hS hl)
theorem ev_lconst (X : eX p s m args meth c D cI cZ A H0 y cc nL ret) {n : Fin 2} {v : Int64} (hd : decode cc pc = .ok (.lconst n, 1)) (hv : Int64.ofNat (n : Nat) = v) (k : EV p l e R s m args below meth c D cI cZ A H0 nL Q cells slots r (pc + 1) L (.long v :: S) w) : EV p l e R s m args below meth c D cI cZ A H0 nL Q cells slots r pc L S w :=
  fun H locs ls hP hD hS hl => lv_lconst X.1 X.2.1 hd hv (k H locs ls hP hD hS hl)
theorem ev_ldc (X : eX p s m args meth c D cI cZ A H0 y cc nL ret) {n : Nat} {v : Int32} (hm : Cond.constant y.cls n v ∈ eT) (hd : decode cc pc = .ok (.ldc n, 2)) (k : EV p l e R s m args below meth c D cI cZ A H0 nL Q cells slots r (pc + 2) L (.int v :: S) w) : EV p l e R s m args below meth c D cI cZ A H0 nL Q cells slots r pc L S w :=
  fun H locs ls hP hD hS hl => lv_ldc X.1 X.2.1 X.2.2.2.1 (X.2.2.2.2.1 _ hm) hd (k H locs ls hP hD hS hl)
theorem ev_ldcw (X : eX p s m args meth c D cI cZ A H0 y cc nL ret) {n : Nat} {v : Int32} (hm : Cond.constant y.cls n v ∈ eT) (hd : decode cc pc = .ok (.ldc_w n, 3)) (k : EV p l e R s m args below meth c D cI cZ A H0 nL Q cells slots r (pc + 3) L (.int v :: S) w) : EV p l e R s m args below meth c D cI cZ A H0 nL Q cells slots r pc L S w :=
  fun H locs ls hP hD hS hl => lv_ldcw X.1 X.2.1 X.2.2.2.1 (X.2.2.2.2.1 _ hm) hd (k H locs ls hP hD hS hl)
theorem ev_ldc2 (X : eX p s m args meth c D cI cZ A H0 y cc nL ret) {n : Nat} {v : Int64} (hm : Cond.constantLong y.cls n v ∈ eT) (hd : decode cc pc = .ok (.ldc2_w n, 3)) (k : EV p l e R s m args below meth c D cI cZ A H0 nL Q cells slots r (pc + 3) L (.long v :: S) w) : EV p l e R s m args below meth c D cI cZ A H0 nL Q cells slots r pc L S w :=
  fun H locs ls hP hD hS hl => lv_ldc2 X.1 X.2.1 X.2.2.2.1 (X.2.2.2.2.1 _ hm) hd (k H locs ls hP hD hS hl)
theorem e_at {ls : Array Slot} {j i : Nat} {v : Value} (hl : lv_has ls nL (e_L r L)) (hk : L[j]? = some (i, v)) : ls[i]? = some (.val (e_cv r v)) := lv_at hl j (by rw [e_L_get, hk]; rfl)
theorem ev_iload_n (X : eX p s m args meth c D cI cZ A H0 y cc nL ret) {n : Fin 4} {i : Nat} (j : Nat) {x : Int32} (hd : decode cc pc = .ok (.iload_n n, 1)) (hi : (n : Nat) = i) (hk : L[j]? = some (i, .int x)) (k : EV p l e R s m args below meth c D cI cZ A H0 nL Q cells slots r (pc + 1) L (.int x :: S) w) : EV p l e R s m args below meth c D cI cZ A H0 nL Q cells slots r pc L S w :=
  fun H locs ls hP hD hS hl => lv_iload_n X.1 X.2.1 hd hi (e_at hl hk) (k H locs ls hP hD hS hl)
theorem ev_iload (X : eX p s m args meth c D cI cZ A H0 y cc nL ret) {i : Nat} (j : Nat) {x : Int32} (hd : decode cc pc = .ok (.iload i, 2)) (hk : L[j]? = some (i, .int x)) (k : EV p l e R s m args below meth c D cI cZ A H0 nL Q cells slots r (pc + 2) L (.int x :: S) w) : EV p l e R s m args below meth c D cI cZ A H0 nL Q cells slots r pc L S w :=
  fun H locs ls hP hD hS hl => lv_iload X.1 X.2.1 hd (e_at hl hk) (k H locs ls hP hD hS hl)
theorem ev_aload_n (X : eX p s m args meth c D cI cZ A H0 y cc nL ret) {n : Fin 4} {i : Nat} (j : Nat) {x : Nat} (hd : decode cc pc = .ok (.aload_n n, 1)) (hi : (n : Nat) = i) (hk : L[j]? = some (i, .ref x)) (k : EV p l e R s m args below meth c D cI cZ A H0 nL Q cells slots r (pc + 1) L (.ref x :: S) w) : EV p l e R s m args below meth c D cI cZ A H0 nL Q cells slots r pc L S w :=
  fun H locs ls hP hD hS hl => lv_aload_n X.1 X.2.1 hd hi (e_at hl hk) (k H locs ls hP hD hS hl)
theorem ev_istore_n (X : eX p s m args meth c D cI cZ A H0 y cc nL ret) {n : Fin 4} {i : Nat} {x : Int32} (hd : decode cc pc = .ok (.istore_n n, 1)) (hi : (n : Nat) = i) (hn : i < nL) (hl' : (i, Value.int x) :: L.filter (fun q => !(q.1 == i) && !(q.1 + 1 == i && q.2.category == 2)) = L') (k : EV p l e R s m args below meth c D cI cZ A H0 nL Q cells slots r (pc + 1) L' S w) : EV p l e R s m args below meth c D cI cZ A H0 nL Q cells slots r pc L (.int x :: S) w :=
  fun H locs ls hP hD hS hl => lv_istore_n X.1 X.2.1 hd hi hl hn (by rw [e_L_filter]; exact congrArg (e_L r) hl') (fun ls' hl2 => k H locs ls' hP hD hS hl2)
theorem ev_istore (X : eX p s m args meth c D cI cZ A H0 y cc nL ret) {i : Nat} {x : Int32} (hd : decode cc pc = .ok (.istore i, 2)) (hn : i < nL) (hl' : (i, Value.int x) :: L.filter (fun q => !(q.1 == i) && !(q.1 + 1 == i && q.2.category == 2)) = L') (k : EV p l e R s m args below meth c D cI cZ A H0 nL Q cells slots r (pc + 2) L' S w) : EV p l e R s m args below meth c D cI cZ A H0 nL Q cells slots r pc L (.int x :: S) w :=
  fun H locs ls hP hD hS hl => lv_istore X.1 X.2.1 hd hl hn (by rw [e_L_filter]; exact congrArg (e_L r) hl') (fun ls' hl2 => k H locs ls' hP hD hS hl2)
theorem ev_astore_n (X : eX p s m args meth c D cI cZ A H0 y cc nL ret) {n : Fin 4} {i : Nat} {x : Nat} (hd : decode cc pc = .ok (.astore_n n, 1)) (hi : (n : Nat) = i) (hn : i < nL) (hl' : (i, Value.ref x) :: L.filter (fun q => !(q.1 == i) && !(q.1 + 1 == i && q.2.category == 2)) = L') (k : EV p l e R s m args below meth c D cI cZ A H0 nL Q cells slots r (pc + 1) L' S w) : EV p l e R s m args below meth c D cI cZ A H0 nL Q cells slots r pc L (.ref x :: S) w :=
  fun H locs ls hP hD hS hl => lv_astore_n X.1 X.2.1 hd hi hl hn (by rw [e_L_filter]; exact congrArg (e_L r) hl') (fun ls' hl2 => k H locs ls' hP hD hS hl2)
theorem ev_iinc (X : eX p s m args meth c D cI cZ A H0 y cc nL ret) {i : Nat} (j : Nat) {n : Int} {x v : Int32} (hd : decode cc pc = .ok (.iinc i n, 3)) (hk : L[j]? = some (i, .int x)) (hv : x + Int32.ofInt n = v) (hn : i < nL) (hl' : (i, Value.int v) :: L.filter (fun q => !(q.1 == i) && !(q.1 + 1 == i && q.2.category == 2)) = L') (k : EV p l e R s m args below meth c D cI cZ A H0 nL Q cells slots r (pc + 3) L' S w) : EV p l e R s m args below meth c D cI cZ A H0 nL Q cells slots r pc L S w :=
  fun H locs ls hP hD hS hl => lv_iinc X.1 X.2.1 hd hl (k := j) (by rw [e_L_get, hk]; rfl) hv hn (by rw [e_L_filter]; exact congrArg (e_L r) hl') (fun ls' hl2 => k H locs ls' hP hD hS hl2)
end EVR
section EVA
variable {p : Program} {l : Launch} {e : Env} {R : Room} {s : State} {m : MethodId} {args : Array Value} {below : List Frame} {meth : Method} {c : Code} {D : va_G} {cI cZ : ClassId} {A : Nat → Prop} {H0 : Heap} {nL : Nat} {Q : State → Prop} {cells slots : Nat} {r : Nat → Nat} {pc : Nat} {L L' : List (Nat × Value)} {S : List Value} {w : eW}
variable {y : MethodName} {cc : ByteArray} {ret : Option FieldType}
theorem ev_iadd (X : eX p s m args meth c D cI cZ A H0 y cc nL ret) {x v : Int32} (hd : decode cc pc = .ok (.iadd, 1)) (k : EV p l e R s m args below meth c D cI cZ A H0 nL Q cells slots r (pc + 1) L (.int (x + v) :: S) w) : EV p l e R s m args below meth c D cI cZ A H0 nL Q cells slots r pc L (.int v :: .int x :: S) w :=
  fun H locs ls hP hD hS hl => lv_iadd X.1 X.2.1 hd (k H locs ls hP hD hS hl)
theorem ev_isub (X : eX p s m args meth c D cI cZ A H0 y cc nL ret) {x v : Int32} (hd : decode cc pc = .ok (.isub, 1)) (k : EV p l e R s m args below meth c D cI cZ A H0 nL Q cells slots r (pc + 1) L (.int (x - v) :: S) w) : EV p l e R s m args below meth c D cI cZ A H0 nL Q cells slots r pc L (.int v :: .int x :: S) w :=
  fun H locs ls hP hD hS hl => lv_isub X.1 X.2.1 hd (k H locs ls hP hD hS hl)
theorem ev_imul (X : eX p s m args meth c D cI cZ A H0 y cc nL ret) {x v : Int32} (hd : decode cc pc = .ok (.imul, 1)) (k : EV p l e R s m args below meth c D cI cZ A H0 nL Q cells slots r (pc + 1) L (.int (x * v) :: S) w) : EV p l e R s m args below meth c D cI cZ A H0 nL Q cells slots r pc L (.int v :: .int x :: S) w :=
  fun H locs ls hP hD hS hl => lv_imul X.1 X.2.1 hd (k H locs ls hP hD hS hl)
theorem ev_iand (X : eX p s m args meth c D cI cZ A H0 y cc nL ret) {x v : Int32} (hd : decode cc pc = .ok (.iand, 1)) (k : EV p l e R s m args below meth c D cI cZ A H0 nL Q cells slots r (pc + 1) L (.int (x &&& v) :: S) w) : EV p l e R s m args below meth c D cI cZ A H0 nL Q cells slots r pc L (.int v :: .int x :: S) w :=
  fun H locs ls hP hD hS hl => lv_iand X.1 X.2.1 hd (k H locs ls hP hD hS hl)
theorem ev_ior (X : eX p s m args meth c D cI cZ A H0 y cc nL ret) {x v : Int32} (hd : decode cc pc = .ok (.ior, 1)) (k : EV p l e R s m args below meth c D cI cZ A H0 nL Q cells slots r (pc + 1) L (.int (x ||| v) :: S) w) : EV p l e R s m args below meth c D cI cZ A H0 nL Q cells slots r pc L (.int v :: .int x :: S) w :=
  fun H locs ls hP hD hS hl => lv_ior X.1 X.2.1 hd (k H locs ls hP hD hS hl)
theorem ev_ixor (X : eX p s m args meth c D cI cZ A H0 y cc nL ret) {x v : Int32} (hd : decode cc pc = .ok (.ixor, 1)) (k : EV p l e R s m args below meth c D cI cZ A H0 nL Q cells slots r (pc + 1) L (.int (x ^^^ v) :: S) w) : EV p l e R s m args below meth c D cI cZ A H0 nL Q cells slots r pc L (.int v :: .int x :: S) w :=
  fun H locs ls hP hD hS hl => lv_ixor X.1 X.2.1 hd (k H locs ls hP hD hS hl)
theorem ev_ishl (X : eX p s m args meth c D cI cZ A H0 y cc nL ret) {x v : Int32} (hd : decode cc pc = .ok (.ishl, 1)) (k : EV p l e R s m args below meth c D cI cZ A H0 nL Q cells slots r (pc + 1) L (.int (x <<< (v &&& 31)) :: S) w) : EV p l e R s m args below meth c D cI cZ A H0 nL Q cells slots r pc L (.int v :: .int x :: S) w :=
  fun H locs ls hP hD hS hl => lv_ishl X.1 X.2.1 hd (k H locs ls hP hD hS hl)
theorem ev_ishr (X : eX p s m args meth c D cI cZ A H0 y cc nL ret) {x v : Int32} (hd : decode cc pc = .ok (.ishr, 1)) (k : EV p l e R s m args below meth c D cI cZ A H0 nL Q cells slots r (pc + 1) L (.int (x >>> (v &&& 31)) :: S) w) : EV p l e R s m args below meth c D cI cZ A H0 nL Q cells slots r pc L (.int v :: .int x :: S) w :=
  fun H locs ls hP hD hS hl => lv_ishr X.1 X.2.1 hd (k H locs ls hP hD hS hl)
theorem ev_iushr (X : eX p s m args meth c D cI cZ A H0 y cc nL ret) {x v : Int32} (hd : decode cc pc = .ok (.iushr, 1)) (k : EV p l e R s m args below meth c D cI cZ A H0 nL Q cells slots r (pc + 1) L (.int ((x.toUInt32 >>> (v.toUInt32 &&& Int32.toUInt32 31)).toInt32) :: S) w) : EV p l e R s m args below meth c D cI cZ A H0 nL Q cells slots r pc L (.int v :: .int x :: S) w :=
  fun H locs ls hP hD hS hl => lv_iushr X.1 X.2.1 hd rfl (k H locs ls hP hD hS hl)
theorem ev_ineg (X : eX p s m args meth c D cI cZ A H0 y cc nL ret) {x : Int32} (hd : decode cc pc = .ok (.ineg, 1)) (k : EV p l e R s m args below meth c D cI cZ A H0 nL Q cells slots r (pc + 1) L (.int (-x) :: S) w) : EV p l e R s m args below meth c D cI cZ A H0 nL Q cells slots r pc L (.int x :: S) w :=
  fun H locs ls hP hD hS hl => lv_ineg X.1 X.2.1 hd (k H locs ls hP hD hS hl)
theorem ev_idiv (X : eX p s m args meth c D cI cZ A H0 y cc nL ret) {x v : Int32} (hd : decode cc pc = .ok (.idiv, 1)) (hne : ¬ v = 0) (k : EV p l e R s m args below meth c D cI cZ A H0 nL Q cells slots r (pc + 1) L (.int (x / v) :: S) w) : EV p l e R s m args below meth c D cI cZ A H0 nL Q cells slots r pc L (.int v :: .int x :: S) w :=
  fun H locs ls hP hD hS hl => lv_idiv X.1 X.2.1 hd hne (k H locs ls hP hD hS hl)
theorem ev_irem (X : eX p s m args meth c D cI cZ A H0 y cc nL ret) {x v : Int32} (hd : decode cc pc = .ok (.irem, 1)) (hne : ¬ v = 0) (k : EV p l e R s m args below meth c D cI cZ A H0 nL Q cells slots r (pc + 1) L (.int (x - x / v * v) :: S) w) : EV p l e R s m args below meth c D cI cZ A H0 nL Q cells slots r pc L (.int v :: .int x :: S) w :=
  fun H locs ls hP hD hS hl => lv_irem X.1 X.2.1 hd hne (k H locs ls hP hD hS hl)
theorem ev_ladd (X : eX p s m args meth c D cI cZ A H0 y cc nL ret) {x v : Int64} (hd : decode cc pc = .ok (.ladd, 1)) (k : EV p l e R s m args below meth c D cI cZ A H0 nL Q cells slots r (pc + 1) L (.long (x + v) :: S) w) : EV p l e R s m args below meth c D cI cZ A H0 nL Q cells slots r pc L (.long v :: .long x :: S) w :=
  fun H locs ls hP hD hS hl => lv_ladd X.1 X.2.1 hd (k H locs ls hP hD hS hl)
theorem ev_dup (X : eX p s m args meth c D cI cZ A H0 y cc nL ret) {v : Value} (hd : decode cc pc = .ok (.dup, 1)) (hc : v.category = 1) (k : EV p l e R s m args below meth c D cI cZ A H0 nL Q cells slots r (pc + 1) L (v :: v :: S) w) : EV p l e R s m args below meth c D cI cZ A H0 nL Q cells slots r pc L (v :: S) w :=
  fun H locs ls hP hD hS hl => lv_dup X.1 X.2.1 hd (by rw [e_cv_cat]; exact hc) (k H locs ls hP hD hS hl)
theorem ev_pop (X : eX p s m args meth c D cI cZ A H0 y cc nL ret) {v : Value} (hd : decode cc pc = .ok (.pop, 1)) (hc : v.category = 1) (k : EV p l e R s m args below meth c D cI cZ A H0 nL Q cells slots r (pc + 1) L S w) : EV p l e R s m args below meth c D cI cZ A H0 nL Q cells slots r pc L (v :: S) w :=
  fun H locs ls hP hD hS hl => lv_pop X.1 X.2.1 hd (by rw [e_cv_cat]; exact hc) (k H locs ls hP hD hS hl)
theorem ev_dup2 (X : eX p s m args meth c D cI cZ A H0 y cc nL ret) {v v2 : Value} (hd : decode cc pc = .ok (.dup2, 1)) (hc : v.category = 1) (hc2 : v2.category = 1) (k : EV p l e R s m args below meth c D cI cZ A H0 nL Q cells slots r (pc + 1) L (v :: v2 :: v :: v2 :: S) w) : EV p l e R s m args below meth c D cI cZ A H0 nL Q cells slots r pc L (v :: v2 :: S) w :=
  fun H locs ls hP hD hS hl => lv_dup2_11 X.1 X.2.1 hd (by rw [e_cv_cat]; exact hc) (by rw [e_cv_cat]; exact hc2) (k H locs ls hP hD hS hl)
theorem ev_goto (X : eX p s m args meth c D cI cZ A H0 y cc nL ret) {off : Int} (tgt : Nat) (hd : decode cc pc = .ok (.goto off, 3)) (ht : (pc : Int) + off = (tgt : Int)) (k : EV p l e R s m args below meth c D cI cZ A H0 nL Q cells slots r tgt L S w) : EV p l e R s m args below meth c D cI cZ A H0 nL Q cells slots r pc L S w :=
  fun H locs ls hP hD hS hl => lv_goto X.1 X.2.1 hd ht (k H locs ls hP hD hS hl)
theorem ev_if_eq (X : eX p s m args meth c D cI cZ A H0 y cc nL ret) {x : Int32} {off : Int} (tgt : Nat) (hd : decode cc pc = .ok (.ifCond .eq off, 3)) (ht : (pc : Int) + off = (tgt : Int)) (kt : x = 0 → EV p l e R s m args below meth c D cI cZ A H0 nL Q cells slots r tgt L S w) (kf : ¬ x = 0 → EV p l e R s m args below meth c D cI cZ A H0 nL Q cells slots r (pc + 3) L S w) : EV p l e R s m args below meth c D cI cZ A H0 nL Q cells slots r pc L (.int x :: S) w :=
  fun H locs ls hP hD hS hl => lv_if_eq X.1 X.2.1 hd ht (fun h => kt h H locs ls hP hD hS hl) (fun h => kf h H locs ls hP hD hS hl)
theorem ev_icmp_eq (X : eX p s m args meth c D cI cZ A H0 y cc nL ret) {x v : Int32} {off : Int} (tgt : Nat) (hd : decode cc pc = .ok (.if_icmp .eq off, 3)) (ht : (pc : Int) + off = (tgt : Int)) (kt : x = v → EV p l e R s m args below meth c D cI cZ A H0 nL Q cells slots r tgt L S w) (kf : ¬ x = v → EV p l e R s m args below meth c D cI cZ A H0 nL Q cells slots r (pc + 3) L S w) : EV p l e R s m args below meth c D cI cZ A H0 nL Q cells slots r pc L (.int v :: .int x :: S) w :=
  fun H locs ls hP hD hS hl => lv_icmp_eq X.1 X.2.1 hd ht (fun h => kt h H locs ls hP hD hS hl) (fun h => kf h H locs ls hP hD hS hl)
theorem ev_if_ne (X : eX p s m args meth c D cI cZ A H0 y cc nL ret) {x : Int32} {off : Int} (tgt : Nat) (hd : decode cc pc = .ok (.ifCond .ne off, 3)) (ht : (pc : Int) + off = (tgt : Int)) (kt : ¬ x = 0 → EV p l e R s m args below meth c D cI cZ A H0 nL Q cells slots r tgt L S w) (kf : x = 0 → EV p l e R s m args below meth c D cI cZ A H0 nL Q cells slots r (pc + 3) L S w) : EV p l e R s m args below meth c D cI cZ A H0 nL Q cells slots r pc L (.int x :: S) w :=
  fun H locs ls hP hD hS hl => lv_if_ne X.1 X.2.1 hd ht (fun h => kt h H locs ls hP hD hS hl) (fun h => kf h H locs ls hP hD hS hl)
theorem ev_icmp_ne (X : eX p s m args meth c D cI cZ A H0 y cc nL ret) {x v : Int32} {off : Int} (tgt : Nat) (hd : decode cc pc = .ok (.if_icmp .ne off, 3)) (ht : (pc : Int) + off = (tgt : Int)) (kt : ¬ x = v → EV p l e R s m args below meth c D cI cZ A H0 nL Q cells slots r tgt L S w) (kf : x = v → EV p l e R s m args below meth c D cI cZ A H0 nL Q cells slots r (pc + 3) L S w) : EV p l e R s m args below meth c D cI cZ A H0 nL Q cells slots r pc L (.int v :: .int x :: S) w :=
  fun H locs ls hP hD hS hl => lv_icmp_ne X.1 X.2.1 hd ht (fun h => kt h H locs ls hP hD hS hl) (fun h => kf h H locs ls hP hD hS hl)
theorem ev_if_lt (X : eX p s m args meth c D cI cZ A H0 y cc nL ret) {x : Int32} {off : Int} (tgt : Nat) (hd : decode cc pc = .ok (.ifCond .lt off, 3)) (ht : (pc : Int) + off = (tgt : Int)) (kt : x < 0 → EV p l e R s m args below meth c D cI cZ A H0 nL Q cells slots r tgt L S w) (kf : ¬ x < 0 → EV p l e R s m args below meth c D cI cZ A H0 nL Q cells slots r (pc + 3) L S w) : EV p l e R s m args below meth c D cI cZ A H0 nL Q cells slots r pc L (.int x :: S) w :=
  fun H locs ls hP hD hS hl => lv_if_lt X.1 X.2.1 hd ht (fun h => kt h H locs ls hP hD hS hl) (fun h => kf h H locs ls hP hD hS hl)
theorem ev_icmp_lt (X : eX p s m args meth c D cI cZ A H0 y cc nL ret) {x v : Int32} {off : Int} (tgt : Nat) (hd : decode cc pc = .ok (.if_icmp .lt off, 3)) (ht : (pc : Int) + off = (tgt : Int)) (kt : x < v → EV p l e R s m args below meth c D cI cZ A H0 nL Q cells slots r tgt L S w) (kf : ¬ x < v → EV p l e R s m args below meth c D cI cZ A H0 nL Q cells slots r (pc + 3) L S w) : EV p l e R s m args below meth c D cI cZ A H0 nL Q cells slots r pc L (.int v :: .int x :: S) w :=
  fun H locs ls hP hD hS hl => lv_icmp_lt X.1 X.2.1 hd ht (fun h => kt h H locs ls hP hD hS hl) (fun h => kf h H locs ls hP hD hS hl)
theorem ev_if_ge (X : eX p s m args meth c D cI cZ A H0 y cc nL ret) {x : Int32} {off : Int} (tgt : Nat) (hd : decode cc pc = .ok (.ifCond .ge off, 3)) (ht : (pc : Int) + off = (tgt : Int)) (kt : 0 ≤ x → EV p l e R s m args below meth c D cI cZ A H0 nL Q cells slots r tgt L S w) (kf : ¬ 0 ≤ x → EV p l e R s m args below meth c D cI cZ A H0 nL Q cells slots r (pc + 3) L S w) : EV p l e R s m args below meth c D cI cZ A H0 nL Q cells slots r pc L (.int x :: S) w :=
  fun H locs ls hP hD hS hl => lv_if_ge X.1 X.2.1 hd ht (fun h => kt h H locs ls hP hD hS hl) (fun h => kf h H locs ls hP hD hS hl)
theorem ev_icmp_ge (X : eX p s m args meth c D cI cZ A H0 y cc nL ret) {x v : Int32} {off : Int} (tgt : Nat) (hd : decode cc pc = .ok (.if_icmp .ge off, 3)) (ht : (pc : Int) + off = (tgt : Int)) (kt : v ≤ x → EV p l e R s m args below meth c D cI cZ A H0 nL Q cells slots r tgt L S w) (kf : ¬ v ≤ x → EV p l e R s m args below meth c D cI cZ A H0 nL Q cells slots r (pc + 3) L S w) : EV p l e R s m args below meth c D cI cZ A H0 nL Q cells slots r pc L (.int v :: .int x :: S) w :=
  fun H locs ls hP hD hS hl => lv_icmp_ge X.1 X.2.1 hd ht (fun h => kt h H locs ls hP hD hS hl) (fun h => kf h H locs ls hP hD hS hl)
theorem ev_if_gt (X : eX p s m args meth c D cI cZ A H0 y cc nL ret) {x : Int32} {off : Int} (tgt : Nat) (hd : decode cc pc = .ok (.ifCond .gt off, 3)) (ht : (pc : Int) + off = (tgt : Int)) (kt : 0 < x → EV p l e R s m args below meth c D cI cZ A H0 nL Q cells slots r tgt L S w) (kf : ¬ 0 < x → EV p l e R s m args below meth c D cI cZ A H0 nL Q cells slots r (pc + 3) L S w) : EV p l e R s m args below meth c D cI cZ A H0 nL Q cells slots r pc L (.int x :: S) w :=
  fun H locs ls hP hD hS hl => lv_if_gt X.1 X.2.1 hd ht (fun h => kt h H locs ls hP hD hS hl) (fun h => kf h H locs ls hP hD hS hl)
theorem ev_icmp_gt (X : eX p s m args meth c D cI cZ A H0 y cc nL ret) {x v : Int32} {off : Int} (tgt : Nat) (hd : decode cc pc = .ok (.if_icmp .gt off, 3)) (ht : (pc : Int) + off = (tgt : Int)) (kt : v < x → EV p l e R s m args below meth c D cI cZ A H0 nL Q cells slots r tgt L S w) (kf : ¬ v < x → EV p l e R s m args below meth c D cI cZ A H0 nL Q cells slots r (pc + 3) L S w) : EV p l e R s m args below meth c D cI cZ A H0 nL Q cells slots r pc L (.int v :: .int x :: S) w :=
  fun H locs ls hP hD hS hl => lv_icmp_gt X.1 X.2.1 hd ht (fun h => kt h H locs ls hP hD hS hl) (fun h => kf h H locs ls hP hD hS hl)
theorem ev_if_le (X : eX p s m args meth c D cI cZ A H0 y cc nL ret) {x : Int32} {off : Int} (tgt : Nat) (hd : decode cc pc = .ok (.ifCond .le off, 3)) (ht : (pc : Int) + off = (tgt : Int)) (kt : x ≤ 0 → EV p l e R s m args below meth c D cI cZ A H0 nL Q cells slots r tgt L S w) (kf : ¬ x ≤ 0 → EV p l e R s m args below meth c D cI cZ A H0 nL Q cells slots r (pc + 3) L S w) : EV p l e R s m args below meth c D cI cZ A H0 nL Q cells slots r pc L (.int x :: S) w :=
  fun H locs ls hP hD hS hl => lv_if_le X.1 X.2.1 hd ht (fun h => kt h H locs ls hP hD hS hl) (fun h => kf h H locs ls hP hD hS hl)
theorem ev_icmp_le (X : eX p s m args meth c D cI cZ A H0 y cc nL ret) {x v : Int32} {off : Int} (tgt : Nat) (hd : decode cc pc = .ok (.if_icmp .le off, 3)) (ht : (pc : Int) + off = (tgt : Int)) (kt : x ≤ v → EV p l e R s m args below meth c D cI cZ A H0 nL Q cells slots r tgt L S w) (kf : ¬ x ≤ v → EV p l e R s m args below meth c D cI cZ A H0 nL Q cells slots r (pc + 3) L S w) : EV p l e R s m args below meth c D cI cZ A H0 nL Q cells slots r pc L (.int v :: .int x :: S) w :=
  fun H locs ls hP hD hS hl => lv_icmp_le X.1 X.2.1 hd ht (fun h => kt h H locs ls hP hD hS hl) (fun h => kf h H locs ls hP hD hS hl)
theorem ev_lookup (X : eX p s m args meth c D cI cZ A H0 y cc nL ret) {dflt : Int} {ps : Array (Int × Int)} {len : Nat} {x : Int32} {off : Int} (tgt : Nat) (hd : decode cc pc = .ok (.lookupswitch dflt ps, len)) (hp : (ps.toList.zip (ps.toList.drop 1)).all (fun (a, next) => a.1 < next.1) = true) (ho : Op.lookupswitch.offset ps.toList dflt x.toInt = off) (ht : (pc : Int) + off = (tgt : Int)) (k : EV p l e R s m args below meth c D cI cZ A H0 nL Q cells slots r tgt L S w) : EV p l e R s m args below meth c D cI cZ A H0 nL Q cells slots r pc L (.int x :: S) w :=
  fun H locs ls hP hD hS hl => lv_lookup X.1 X.2.1 hd hp ho ht (k H locs ls hP hD hS hl)
theorem ev_tableOut (X : eX p s m args meth c D cI cZ A H0 y cc nL ret) {dflt lo hi : Int} {offs : Array Int} {len : Nat} {x : Int32} (tgt : Nat) (hd : decode cc pc = .ok (.tableswitch dflt lo hi offs, len)) (h : x.toInt < lo ∨ hi < x.toInt) (ht : (pc : Int) + dflt = (tgt : Int)) (k : EV p l e R s m args below meth c D cI cZ A H0 nL Q cells slots r tgt L S w) : EV p l e R s m args below meth c D cI cZ A H0 nL Q cells slots r pc L (.int x :: S) w :=
  fun H locs ls hP hD hS hl => lv_tableOut X.1 X.2.1 hd h ht (k H locs ls hP hD hS hl)
theorem ev_tableIn (X : eX p s m args meth c D cI cZ A H0 y cc nL ret) {dflt lo hi : Int} {offs : Array Int} {len : Nat} {x : Int32} {off : Int} (tgt : Nat) (hd : decode cc pc = .ok (.tableswitch dflt lo hi offs, len)) (h1 : ¬ x.toInt < lo) (h2 : ¬ hi < x.toInt) (ho : offs[(x.toInt - lo).toNat]? = some off) (ht : (pc : Int) + off = (tgt : Int)) (k : EV p l e R s m args below meth c D cI cZ A H0 nL Q cells slots r tgt L S w) : EV p l e R s m args below meth c D cI cZ A H0 nL Q cells slots r pc L (.int x :: S) w :=
  fun H locs ls hP hD hS hl => lv_tableIn X.1 X.2.1 hd h1 h2 ho ht (k H locs ls hP hD hS hl)
end EVA
end
section
/-! ===== what a world holds, as partial functions ===== -/
def eO (w : eW) (o ci : Nat) : Bool := match w[o]? with
  | some (.inr q) => q.1 == ci
  | _ => false
def eF (w : eW) (o ci k : Nat) : Option Value := match w[o]? with
  | some (.inr q) => if q.1 = ci then q.2[k]? else none
  | _ => none
def eGI (w : eW) (o ci k : Nat) : Option Int32 := match eF w o ci k with
  | some (.int x) => some x
  | _ => none
def eGR (w : eW) (o ci k : Nat) : Option Nat := match eF w o ci k with
  | some (.ref x) => some x
  | _ => none
def eGL (w : eW) (o ci k : Nat) : Option Int64 := match eF w o ci k with
  | some (.long x) => some x
  | _ => none
def eP (w : eW) (o ci k : Nat) (v : Value) : Option eW := match w[o]? with
  | some (.inr q) => if q.1 = ci ∧ k < q.2.length then some (w.set o (.inr (ci, q.2.set k v))) else none
  | _ => none
def eZ (x : Int32) : Option Int32 := if x = 0 ∨ x = 1 then some x else none
def eLen (w : eW) (a : Nat) : Option Int32 := match w[a]? with
  | some (.inl q) => some (Int32.ofNat q.2.1)
  | _ => none
def eLd (w : eW) (b : Bool) (a : Nat) (i : Int32) : Option Int32 := match w[a]? with
  | some (.inl q) => if q.1 = b ∧ ¬ (i < 0 ∨ q.2.1 ≤ i.toNatClampNeg) then some (q.2.2 i.toNatClampNeg) else none
  | _ => none
def eSt (w : eW) (b : Bool) (a : Nat) (i x : Int32) : Option eW := match w[a]? with
  | some (.inl q) => if q.1 = b ∧ ¬ (i < 0 ∨ q.2.1 ≤ i.toNatClampNeg) then some (w.set a (.inl (b, q.2.1, upd q.2.2 i.toNatClampNeg (bif b then vp_nar .boolean x else x)))) else none
  | _ => none
def eFr (n : Nat) : Value → Bool
  | .ref i => decide (i < n)
  | _ => true
def eFw (n : Nat) (w : eW) : Bool := w.all (fun c => match c with
  | .inl _ => true
  | .inr o => o.2.all (eFr n))
def eFl (n : Nat) (L : List (Nat × Value)) : Bool := L.all (fun q => eFr n q.2)
def e_sz : eC → Nat
  | .inl a => a.2.1
  | .inr o => o.2.length
def e_wsz (w : eW) : Nat := (w.map e_sz).sum
theorem eF_at {w : eW} {o ci k : Nat} {v : Value} (h : eF w o ci k = some v) : ∃ fs, w[o]? = some (.inr (ci, fs)) ∧ fs[k]? = some v := by
  unfold eF at h
  split at h
  next q hq =>
    split at h
    next hc => subst hc; exact ⟨q.2, hq, h⟩
    next => cases h
  next => cases h
theorem eGI_at {w : eW} {o ci k : Nat} {x : Int32} (h : eGI w o ci k = some x) : eF w o ci k = some (.int x) := by
  unfold eGI at h
  split at h
  next hq => cases h; exact hq
  next => cases h
theorem eGR_at {w : eW} {o ci k : Nat} {x : Nat} (h : eGR w o ci k = some x) : eF w o ci k = some (.ref x) := by
  unfold eGR at h
  split at h
  next hq => cases h; exact hq
  next => cases h
theorem eGL_at {w : eW} {o ci k : Nat} {x : Int64} (h : eGL w o ci k = some x) : eF w o ci k = some (.long x) := by
  unfold eGL at h
  split at h
  next hq => cases h; exact hq
  next => cases h
theorem eP_at {w w' : eW} {o ci k : Nat} {v : Value} (h : eP w o ci k v = some w') : ∃ fs, w[o]? = some (.inr (ci, fs)) ∧ k < fs.length ∧ w' = w.set o (.inr (ci, fs.set k v)) := by
  unfold eP at h
  split at h
  next q hq =>
    split at h
    next hc => obtain ⟨hc, hk⟩ := hc; subst hc; cases h; exact ⟨q.2, hq, hk, rfl⟩
    next => cases h
  next => cases h
theorem eO_at {w : eW} {o ci : Nat} (h : eO w o ci = true) : ∃ fs, w[o]? = some (.inr (ci, fs)) := by
  unfold eO at h
  split at h
  next q hq => have := eq_of_beq h; subst this; exact ⟨q.2, hq⟩
  next => cases h
theorem eLen_at {w : eW} {a : Nat} {x : Int32} (h : eLen w a = some x) : ∃ b n f, w[a]? = some (.inl (b, n, f)) ∧ Int32.ofNat n = x := by
  unfold eLen at h
  split at h
  next q hq => cases h; exact ⟨q.1, q.2.1, q.2.2, hq, rfl⟩
  next => cases h
theorem eLd_at {w : eW} {b : Bool} {a : Nat} {i x : Int32} (h : eLd w b a i = some x) : ∃ n f, w[a]? = some (.inl (b, n, f)) ∧ vp_in i n ∧ f i.toNatClampNeg = x := by
  unfold eLd at h
  split at h
  next q hq =>
    split at h
    next hc => obtain ⟨hc, hi⟩ := hc; subst hc; cases h; exact ⟨q.2.1, q.2.2, hq, hi, rfl⟩
    next => cases h
  next => cases h
theorem eSt_at {w w' : eW} {b : Bool} {a : Nat} {i x : Int32} (h : eSt w b a i x = some w') : ∃ n f, w[a]? = some (.inl (b, n, f)) ∧ vp_in i n ∧ w' = w.set a (.inl (b, n, upd f i.toNatClampNeg (bif b then vp_nar .boolean x else x))) := by
  unfold eSt at h
  split at h
  next q hq =>
    split at h
    next hc => obtain ⟨hc, hi⟩ := hc; subst hc; cases h; exact ⟨q.2.1, q.2.2, hq, hi, rfl⟩
    next => cases h
  next => cases h
theorem eZ_at {x v : Int32} (h : eZ x = some v) : (x = 0 ∨ x = 1) ∧ v = x := by
  unfold eZ at h
  split at h
  next hc => cases h; exact ⟨hc, rfl⟩
  next => cases h
theorem eZ_nar {x : Int32} (h : x = 0 ∨ x = 1) : narrow .boolean (.int x) = .int x ∧ fits .boolean (.int x) = true := by
  rcases h with rfl | rfl <;> exact ⟨by decide, by decide⟩
/-! ===== the class facts ===== -/
def eCl (ci : Nat) (C : String) (T : u_T) (N : Nat) (ty : Nat → FieldType) : Prop :=
  vwCl[ci]? = some (C, T, N) ∧ (∀ w ∈ u_ws C T N, w ∈ eT) ∧ (∀ k, k < N → parseFieldDescriptor (T k).2.2.1 = some (ty k)) ∧ (∀ a, a < N → ∀ b, b < N → a ≠ b → (T a).2.1 ≠ (T b).2.1)
theorem eT_in {i : Nat} {w : Cond} (h : lw_tbl[i]? = some w) (hg : goodWord w = true) : w ∈ eT := List.mem_filter.mpr ⟨List.mem_of_getElem? h, hg⟩
theorem eT_all {Ts : List Cond} {Ps : List Nat} (h : (Ts.zip Ps).all (fun q => decide (lw_tbl[q.2]? = some q.1) && goodWord q.1) = true) (hl : Ts.length ≤ Ps.length) : ∀ w ∈ Ts, w ∈ eT := by
  intro w hw
  obtain ⟨i, hi⟩ := List.getElem?_of_mem hw
  have hlt := (List.getElem?_eq_some_iff.mp hi).1
  have hz : (w, Ps[i]'(by omega)) ∈ Ts.zip Ps := by
    apply List.mem_of_getElem? (i := i)
    rw [List.getElem?_zip_eq_some]
    exact ⟨hi, List.getElem?_eq_getElem (by omega)⟩
  have := List.all_eq_true.mp h _ hz
  simp only [Bool.and_eq_true, decide_eq_true_eq] at this
  exact eT_in this.1 this.2
section EVH
variable {p : Program} {l : Launch} {e : Env} {R : Room} {s : State} {m : MethodId} {args : Array Value} {below : List Frame} {meth : Method} {c : Code} {D : va_G} {cI cZ : ClassId} {A : Nat → Prop} {H0 : Heap} {nL : Nat} {Q : State → Prop} {cells slots : Nat} {r : Nat → Nat} {pc : Nat} {L L' : List (Nat × Value)} {S : List Value} {w w' : eW}
variable {y : MethodName} {cc : ByteArray} {ret : Option FieldType} {ci : Nat} {C : String} {T : u_T} {N : Nat} {ty : Nat → FieldType}
theorem ev_get (X : eX p s m args meth c D cI cZ A H0 y cc nL ret) (hC : eCl ci C T N ty) {idx : Nat} {k : Nat} (hk : k < N) (hl : Cond.fieldLink y.cls idx (T k).1 (T k).2.1 (T k).2.2.1 ∈ eT) {o : Nat} {v : Value} (hv : eF w o ci k = some v) (hd : decode cc pc = .ok (.getfield idx, 3))
    (kk : EV p l e R s m args below meth c D cI cZ A H0 nL Q cells slots r (pc + 3) L (v :: S) w) : EV p l e R s m args below meth c D cI cZ A H0 nL Q cells slots r pc L (.ref o :: S) w := by
  intro H locs ls hP hD hS hls
  obtain ⟨fs, h1, h2⟩ := eF_at hv
  exact va_get X.1 X.2.1 X.2.2.2.2.1 hC.2.1 X.2.2.2.1 X.2.2.2.2.2.2.2.1 hP o (e_cw_at h1) hC.1 k hk (X.2.2.2.2.1 _ hl) (fun _ h => h) (by rw [List.getElem?_map, h2]; rfl) hd (kk H locs ls hP hD hS hls)
theorem ev_getI (X : eX p s m args meth c D cI cZ A H0 y cc nL ret) (hC : eCl ci C T N ty) {idx : Nat} {k : Nat} (hk : k < N) (hl : Cond.fieldLink y.cls idx (T k).1 (T k).2.1 (T k).2.2.1 ∈ eT) {o : Nat} {x : Int32} (hd : decode cc pc = .ok (.getfield idx, 3)) (hv : eGI w o ci k = some x)
    (kk : EV p l e R s m args below meth c D cI cZ A H0 nL Q cells slots r (pc + 3) L (.int x :: S) w) : EV p l e R s m args below meth c D cI cZ A H0 nL Q cells slots r pc L (.ref o :: S) w := ev_get X hC hk hl (eGI_at hv) hd kk
theorem ev_getR (X : eX p s m args meth c D cI cZ A H0 y cc nL ret) (hC : eCl ci C T N ty) {idx : Nat} {k : Nat} (hk : k < N) (hl : Cond.fieldLink y.cls idx (T k).1 (T k).2.1 (T k).2.2.1 ∈ eT) {o : Nat} {x : Nat} (hd : decode cc pc = .ok (.getfield idx, 3)) (hv : eGR w o ci k = some x)
    (kk : EV p l e R s m args below meth c D cI cZ A H0 nL Q cells slots r (pc + 3) L (.ref x :: S) w) : EV p l e R s m args below meth c D cI cZ A H0 nL Q cells slots r pc L (.ref o :: S) w := ev_get X hC hk hl (eGR_at hv) hd kk
theorem ev_getL (X : eX p s m args meth c D cI cZ A H0 y cc nL ret) (hC : eCl ci C T N ty) {idx : Nat} {k : Nat} (hk : k < N) (hl : Cond.fieldLink y.cls idx (T k).1 (T k).2.1 (T k).2.2.1 ∈ eT) {o : Nat} {x : Int64} (hd : decode cc pc = .ok (.getfield idx, 3)) (hv : eGL w o ci k = some x)
    (kk : EV p l e R s m args below meth c D cI cZ A H0 nL Q cells slots r (pc + 3) L (.long x :: S) w) : EV p l e R s m args below meth c D cI cZ A H0 nL Q cells slots r pc L (.ref o :: S) w := ev_get X hC hk hl (eGL_at hv) hd kk
theorem ev_put (X : eX p s m args meth c D cI cZ A H0 y cc nL ret) (hC : eCl ci C T N ty) {idx : Nat} {k : Nat} (hk : k < N) (hl : Cond.fieldLink y.cls idx (T k).1 (T k).2.1 (T k).2.2.1 ∈ eT) (hfin : (T k).2.2.2 = false) {o : Nat} {v : Value} (hn : narrow (ty k) (e_cv r v) = e_cv r v) (hfit : fits (ty k) (e_cv r v) = true) (hv : eP w o ci k v = some w') (hd : decode cc pc = .ok (.putfield idx, 3))
    (kk : EV p l e R s m args below meth c D cI cZ A H0 nL Q cells slots r (pc + 3) L S w') : EV p l e R s m args below meth c D cI cZ A H0 nL Q cells slots r pc L (v :: .ref o :: S) w := by
  intro H locs ls hP hD hS hls
  obtain ⟨fs, h1, h2, h3⟩ := eP_at hv
  subst h3
  have e1 : (e_cw cI cZ r w).set o (r o, .inr (ci, (fs.map (e_cv r)).set k (e_cv r v))) = e_cw cI cZ r (w.set o (.inr (ci, fs.set k v))) := by
    rw [e_cw_set]
    simp [e_cc, List.map_set]
  refine va_put X.1 X.2.1 X.2.2.2.2.1 hC.2.1 ty hC.2.2.1 hC.2.2.2 X.2.2.2.1 X.2.2.2.2.2.2.2.1 hP hD hS o (e_cw_at h1) hC.1 k hk (X.2.2.2.2.1 _ hl) (fun _ h => h) hfin (hC.2.2.1 k hk) hn hfit (by simpa using h2) hd (fun H1 locs1 hP1 hD1 hS1 => ?_)
  rw [e1] at hP1 hD1
  exact kk H1 locs1 ls hP1 hD1 hS1 hls
theorem ev_putI (X : eX p s m args meth c D cI cZ A H0 y cc nL ret) (hC : eCl ci C T N ty) {idx : Nat} {k : Nat} (hk : k < N) (hl : Cond.fieldLink y.cls idx (T k).1 (T k).2.1 (T k).2.2.1 ∈ eT) (hfin : (T k).2.2.2 = false) (ht : ty k = .int) {o : Nat} {x : Int32} (hd : decode cc pc = .ok (.putfield idx, 3)) (hv : eP w o ci k (.int x) = some w')
    (kk : EV p l e R s m args below meth c D cI cZ A H0 nL Q cells slots r (pc + 3) L S w') : EV p l e R s m args below meth c D cI cZ A H0 nL Q cells slots r pc L (.int x :: .ref o :: S) w := ev_put X hC hk hl hfin (by rw [ht]; rfl) (by rw [ht]; rfl) hv hd kk
theorem ev_putZ (X : eX p s m args meth c D cI cZ A H0 y cc nL ret) (hC : eCl ci C T N ty) {idx : Nat} {k : Nat} (hk : k < N) (hl : Cond.fieldLink y.cls idx (T k).1 (T k).2.1 (T k).2.2.1 ∈ eT) (hfin : (T k).2.2.2 = false) (ht : ty k = .boolean) {o : Nat} {x x' : Int32} (hd : decode cc pc = .ok (.putfield idx, 3)) (hz : eZ x = some x') (hv : eP w o ci k (.int x') = some w')
    (kk : EV p l e R s m args below meth c D cI cZ A H0 nL Q cells slots r (pc + 3) L S w') : EV p l e R s m args below meth c D cI cZ A H0 nL Q cells slots r pc L (.int x :: .ref o :: S) w := by
  obtain ⟨h1, rfl⟩ := eZ_at hz
  exact ev_put X hC hk hl hfin (by rw [ht]; exact (eZ_nar h1).1) (by rw [ht]; exact (eZ_nar h1).2) hv hd kk
theorem ev_putL (X : eX p s m args meth c D cI cZ A H0 y cc nL ret) (hC : eCl ci C T N ty) {idx : Nat} {k : Nat} (hk : k < N) (hl : Cond.fieldLink y.cls idx (T k).1 (T k).2.1 (T k).2.2.1 ∈ eT) (hfin : (T k).2.2.2 = false) (ht : ty k = .long) {o : Nat} {x : Int64} (hd : decode cc pc = .ok (.putfield idx, 3)) (hv : eP w o ci k (.long x) = some w')
    (kk : EV p l e R s m args below meth c D cI cZ A H0 nL Q cells slots r (pc + 3) L S w') : EV p l e R s m args below meth c D cI cZ A H0 nL Q cells slots r pc L (.long x :: .ref o :: S) w := ev_put X hC hk hl hfin (by rw [ht]; rfl) (by rw [ht]; rfl) hv hd kk
/-- a final field, in a constructor -/
theorem ev_putF (X : eX p s m args meth c D cI cZ A H0 y cc nL ret) (hC : eCl ci C T N ty) {idx : Nat} {k : Nat} (hk : k < N) (hl : Cond.fieldLink y.cls idx (T k).1 (T k).2.1 (T k).2.2.1 ∈ eT) (hfin : (T k).2.2.2 = true) (hy : y.name = "<init>") (hdecl : (T k).1 = y.cls) {o x : Nat} (hn : ∀ a : Nat, narrow (ty k) (.ref a) = .ref a ∧ fits (ty k) (.ref a) = true) (hd : decode cc pc = .ok (.putfield idx, 3)) (hv : eP w o ci k (.ref x) = some w')
    (kk : EV p l e R s m args below meth c D cI cZ A H0 nL Q cells slots r (pc + 3) L S w') : EV p l e R s m args below meth c D cI cZ A H0 nL Q cells slots r pc L (.ref x :: .ref o :: S) w := by
  intro H locs ls hP hD hS hls
  obtain ⟨fs, h1, h2, h3⟩ := eP_at hv
  subst h3
  have e1 : (e_cw cI cZ r w).set o (r o, .inr (ci, (fs.map (e_cv r)).set k (e_cv r (.ref x)))) = e_cw cI cZ r (w.set o (.inr (ci, fs.set k (.ref x)))) := by
    rw [e_cw_set]
    simp [e_cc, List.map_set]
  refine va_putF X.1 X.2.1 X.2.2.2.2.1 hC.2.1 ty hC.2.2.1 hC.2.2.2 X.2.2.2.1 X.2.2.2.2.2.2.2.1 hP hD hS o (e_cw_at h1) hC.1 k hk (X.2.2.2.2.1 _ hl) (fun _ h => h) hfin (X.2.2.2.2.2.2.2.2.2.2.trans hy) hdecl (hC.2.2.1 k hk) (hn _).1 (hn _).2 (by simpa using h2) hd (fun H1 locs1 hP1 hD1 hS1 => ?_)
  rw [e1] at hP1 hD1
  exact kk H1 locs1 ls hP1 hD1 hS1 hls
theorem ev_alen (X : eX p s m args meth c D cI cZ A H0 y cc nL ret) {a : Nat} {x : Int32} (hd : decode cc pc = .ok (.arraylength, 1)) (hv : eLen w a = some x)
    (kk : EV p l e R s m args below meth c D cI cZ A H0 nL Q cells slots r (pc + 1) L (.int x :: S) w) : EV p l e R s m args below meth c D cI cZ A H0 nL Q cells slots r pc L (.ref a :: S) w := by
  intro H locs ls hP hD hS hls
  obtain ⟨b, n, f, h1, h2⟩ := eLen_at hv
  cases b with
  | true => exact va_alen X.1 X.2.1 X.2.2.2.2.2.2.2.1 hP a 1 (e_cw_at h1) rfl h2 hd (kk H locs ls hP hD hS hls)
  | false => exact va_alen X.1 X.2.1 X.2.2.2.2.2.2.2.1 hP a 0 (e_cw_at h1) rfl h2 hd (kk H locs ls hP hD hS hls)
theorem ev_iald (X : eX p s m args meth c D cI cZ A H0 y cc nL ret) {a : Nat} {i x : Int32} (hd : decode cc pc = .ok (.iaload, 1)) (hv : eLd w false a i = some x)
    (kk : EV p l e R s m args below meth c D cI cZ A H0 nL Q cells slots r (pc + 1) L (.int x :: S) w) : EV p l e R s m args below meth c D cI cZ A H0 nL Q cells slots r pc L (.int i :: .ref a :: S) w := by
  intro H locs ls hP hD hS hls
  obtain ⟨n, f, h1, h2, h3⟩ := eLd_at hv
  subst h3
  exact va_iald X.1 X.2.1 X.2.2.2.2.2.2.2.1 hP a 0 (e_cw_at h1) rfl h2 hd (kk H locs ls hP hD hS hls)
theorem ev_zald (X : eX p s m args meth c D cI cZ A H0 y cc nL ret) {a : Nat} {i x : Int32} (hd : decode cc pc = .ok (.baload, 1)) (hv : eLd w true a i = some x)
    (kk : EV p l e R s m args below meth c D cI cZ A H0 nL Q cells slots r (pc + 1) L (.int x :: S) w) : EV p l e R s m args below meth c D cI cZ A H0 nL Q cells slots r pc L (.int i :: .ref a :: S) w := by
  intro H locs ls hP hD hS hls
  obtain ⟨n, f, h1, h2, h3⟩ := eLd_at hv
  subst h3
  exact va_zald X.1 X.2.1 X.2.2.2.2.2.2.2.1 hP a 1 (e_cw_at h1) rfl h2 hd (kk H locs ls hP hD hS hls)
theorem ev_iast (X : eX p s m args meth c D cI cZ A H0 y cc nL ret) {a : Nat} {i x : Int32} (hd : decode cc pc = .ok (.iastore, 1)) (hv : eSt w false a i x = some w')
    (kk : EV p l e R s m args below meth c D cI cZ A H0 nL Q cells slots r (pc + 1) L S w') : EV p l e R s m args below meth c D cI cZ A H0 nL Q cells slots r pc L (.int x :: .int i :: .ref a :: S) w := by
  intro H locs ls hP hD hS hls
  obtain ⟨n, f, h1, h2, h3⟩ := eSt_at hv
  subst h3
  refine va_iast X.1 X.2.1 X.2.2.2.2.2.2.2.1 hP hD hS a 0 (e_cw_at h1) rfl h2 hd (fun H1 locs1 hP1 hD1 hS1 => ?_)
  refine kk H1 locs1 ls ?_ ?_ hS1 hls
  · rw [e_cw_set]; exact hP1
  · rw [e_cw_set]; exact hD1
theorem ev_zast (X : eX p s m args meth c D cI cZ A H0 y cc nL ret) {a : Nat} {i x : Int32} (hd : decode cc pc = .ok (.bastore, 1)) (hv : eSt w true a i x = some w')
    (kk : EV p l e R s m args below meth c D cI cZ A H0 nL Q cells slots r (pc + 1) L S w') : EV p l e R s m args below meth c D cI cZ A H0 nL Q cells slots r pc L (.int x :: .int i :: .ref a :: S) w := by
  intro H locs ls hP hD hS hls
  obtain ⟨n, f, h1, h2, h3⟩ := eSt_at hv
  subst h3
  refine va_zast X.1 X.2.1 X.2.2.2.2.2.2.2.1 hP hD hS a 1 (e_cw_at h1) rfl h2 hd (fun H1 locs1 hP1 hD1 hS1 => ?_)
  refine kk H1 locs1 ls ?_ ?_ hS1 hls
  · rw [e_cw_set]; exact hP1
  · rw [e_cw_set]; exact hD1
end EVH
/-- a method's words, apart from what its call links -/
def eMw (y : MethodName) (cc : ByteArray) (nL : Nat) (ret : Option FieldType) (n : Nat) : Prop :=
  Cond.code y cc nL ret ∈ eT ∧ Cond.initialized y.cls ∈ eT ∧ y.cls ≠ "java/lang/invoke/MethodHandle" ∧ y.cls ≠ "java/lang/invoke/VarHandle" ∧ (parseMethodDescriptor y.desc).map (fun d => d.parameters.length) = some n
end
section
theorem hcX0 : eCl 0 RX0 TX0 2 tyX0 := ⟨rfl, eT_all (Ps := [164, 166]) (by decide +kernel) (by decide), tyX0_ok, nmX0⟩
theorem hnX0 : Cond.instantiable RX0 2 ∈ eT := eT_in (i := 155) (by decide +kernel) rfl
theorem hzX0 : Cond.initialized RX0 ∈ eT := eT_in (i := 52) (by decide +kernel) rfl
theorem hcX1 : eCl 1 RX1 TX1 6 tyX1 := ⟨rfl, eT_all (Ps := [103, 105, 107, 109, 111, 113]) (by decide +kernel) (by decide), tyX1_ok, nmX1⟩
theorem hnX1 : Cond.instantiable RX1 6 ∈ eT := eT_in (i := 70) (by decide +kernel) rfl
theorem hzX1 : Cond.initialized RX1 ∈ eT := eT_in (i := 48) (by decide +kernel) rfl
theorem hcX2 : eCl 2 RX2 TX2 9 tyX2 := ⟨rfl, eT_all (Ps := [135, 137, 139, 141, 143, 145, 147, 149, 151]) (by decide +kernel) (by decide), tyX2_ok, nmX2⟩
theorem hnX2 : Cond.instantiable RX2 9 ∈ eT := eT_in (i := 117) (by decide +kernel) rfl
theorem hzX2 : Cond.initialized RX2 ∈ eT := eT_in (i := 51) (by decide +kernel) rfl
theorem hcX3 : eCl 3 RX3 TX3 3 tyX3 := ⟨rfl, eT_all (Ps := [270, 272, 274]) (by decide +kernel) (by decide), tyX3_ok, nmX3⟩
theorem hnX3 : Cond.instantiable RX3 3 ∈ eT := eT_in (i := 256) (by decide +kernel) rfl
theorem hzX3 : Cond.initialized RX3 ∈ eT := eT_in (i := 57) (by decide +kernel) rfl
theorem hcX4 : eCl 4 RX4 TX4 4 tyX4 := ⟨rfl, eT_all (Ps := [181, 183, 185, 187]) (by decide +kernel) (by decide), tyX4_ok, nmX4⟩
theorem hnX4 : Cond.instantiable RX4 4 ∈ eT := eT_in (i := 170) (by decide +kernel) rfl
theorem hzX4 : Cond.initialized RX4 ∈ eT := eT_in (i := 53) (by decide +kernel) rfl
theorem hcX5 : eCl 5 RX5 TX5 3 tyX5 := ⟨rfl, eT_all (Ps := [286, 288, 290]) (by decide +kernel) (by decide), tyX5_ok, nmX5⟩
theorem hnX5 : Cond.instantiable RX5 3 ∈ eT := eT_in (i := 278) (by decide +kernel) rfl
theorem hzX5 : Cond.initialized RX5 ∈ eT := eT_in (i := 58) (by decide +kernel) rfl
theorem hcX6 : eCl 6 RX6 TX6 3 tyX6 := ⟨rfl, eT_all (Ps := [201, 203, 205]) (by decide +kernel) (by decide), tyX6_ok, nmX6⟩
theorem hnX6 : Cond.instantiable RX6 3 ∈ eT := eT_in (i := 193) (by decide +kernel) rfl
theorem hzX6 : Cond.initialized RX6 ∈ eT := eT_in (i := 54) (by decide +kernel) rfl
theorem hcX7 : eCl 7 RX7 TX7 1 tyX7 := ⟨rfl, eT_all (Ps := [85]) (by decide +kernel) (by decide), tyX7_ok, nmX7⟩
theorem hnX7 : Cond.instantiable RX7 1 ∈ eT := eT_in (i := 76) (by decide +kernel) rfl
theorem hzX7 : Cond.initialized RX7 ∈ eT := eT_in (i := 49) (by decide +kernel) rfl
theorem hcX8 : eCl 8 RX8 TX8 4 tyX8 := ⟨rfl, eT_all (Ps := [220, 222, 224, 226]) (by decide +kernel) (by decide), tyX8_ok, nmX8⟩
theorem hnX8 : Cond.instantiable RX8 4 ∈ eT := eT_in (i := 209) (by decide +kernel) rfl
theorem hzX8 : Cond.initialized RX8 ∈ eT := eT_in (i := 55) (by decide +kernel) rfl
theorem hcX9 : eCl 9 RX9 TX9 4 tyX9 := ⟨rfl, eT_all (Ps := [246, 248, 250, 252]) (by decide +kernel) (by decide), tyX9_ok, nmX9⟩
theorem hnX9 : Cond.instantiable RX9 4 ∈ eT := eT_in (i := 230) (by decide +kernel) rfl
theorem hzX9 : Cond.initialized RX9 ∈ eT := eT_in (i := 56) (by decide +kernel) rfl
theorem hcX10 : eCl 10 RX10 TX10 11 tyX10 := ⟨rfl, eT_all (Ps := [304, 306, 308, 310, 312, 314, 316, 318, 320, 322, 324]) (by decide +kernel) (by decide), tyX10_ok, nmX10⟩
theorem hnX10 : Cond.instantiable RX10 11 ∈ eT := eT_in (i := 62) (by decide +kernel) rfl
theorem hzX10 : Cond.initialized RX10 ∈ eT := eT_in (i := 47) (by decide +kernel) rfl
theorem hcX11 : eCl 11 RX11 TX11 23 tyX11 := ⟨rfl, eT_all (Ps := [907, 909, 911, 913, 915, 917, 919, 921, 923, 925, 927, 929, 931, 933, 935, 937, 939, 941, 943, 945, 947, 949, 951]) (by decide +kernel) (by decide), tyX11_ok, nmX11⟩
theorem hnX11 : Cond.instantiable RX11 23 ∈ eT := eT_in (i := 879) (by decide +kernel) rfl
theorem hzX11 : Cond.initialized RX11 ∈ eT := eT_in (i := 59) (by decide +kernel) rfl
theorem hoA : Cond.instanceMethod objectInit ∈ eT := eT_in (i := 67) (by decide +kernel) rfl
theorem hoB : Cond.code objectInit ⟨#[0xb1]⟩ 1 none ∈ eT := eT_in (i := 68) (by decide +kernel) rfl
theorem haI : Cond.arrayClass .int ∈ eT := eT_in (i := 88) (by decide +kernel) rfl
theorem haZ : Cond.arrayClass .boolean ∈ eT := eT_in (i := 954) (by decide +kernel) rfl
theorem hwX0_init : eMw yX0_init cX0_init 2 none 1 := ⟨eT_in (i := 158) (by decide +kernel) rfl, eT_in (i := 52) (by decide +kernel) rfl, by decide +kernel, by decide +kernel, by decide +kernel⟩
theorem hiX0_init : Cond.instanceMethod yX0_init ∈ eT := eT_in (i := 157) (by decide +kernel) rfl
theorem hwX0_removeAll : eMw yX0_removeAll cX0_removeAll 1 none 0 := ⟨eT_in (i := 448) (by decide +kernel) rfl, eT_in (i := 52) (by decide +kernel) rfl, by decide +kernel, by decide +kernel, by decide +kernel⟩
theorem hiX0_removeAll : Cond.instanceMethod yX0_removeAll ∈ eT := eT_in (i := 446) (by decide +kernel) rfl
theorem hsX0_removeAll : Cond.selects RX0 yX0_removeAll yX0_removeAll ∈ eT := eT_in (i := 447) (by decide +kernel) rfl
theorem hwX0_become : eMw yX0_become cX0_become 2 none 1 := ⟨eT_in (i := 778) (by decide +kernel) rfl, eT_in (i := 52) (by decide +kernel) rfl, by decide +kernel, by decide +kernel, by decide +kernel⟩
theorem hiX0_become : Cond.instanceMethod yX0_become ∈ eT := eT_in (i := 776) (by decide +kernel) rfl
theorem hsX0_become : Cond.selects RX0 yX0_become yX0_become ∈ eT := eT_in (i := 777) (by decide +kernel) rfl
theorem hwX0_copyTo : eMw yX0_copyTo cX0_copyTo 4 none 2 := ⟨eT_in (i := 630) (by decide +kernel) rfl, eT_in (i := 52) (by decide +kernel) rfl, by decide +kernel, by decide +kernel, by decide +kernel⟩
theorem hiX0_copyTo : Cond.instanceMethod yX0_copyTo ∈ eT := eT_in (i := 628) (by decide +kernel) rfl
theorem hsX0_copyTo : Cond.selects RX0 yX0_copyTo yX0_copyTo ∈ eT := eT_in (i := 629) (by decide +kernel) rfl
theorem hwX0_copyFrom : eMw yX0_copyFrom cX0_copyFrom 4 none 2 := ⟨eT_in (i := 682) (by decide +kernel) rfl, eT_in (i := 52) (by decide +kernel) rfl, by decide +kernel, by decide +kernel, by decide +kernel⟩
theorem hiX0_copyFrom : Cond.instanceMethod yX0_copyFrom ∈ eT := eT_in (i := 680) (by decide +kernel) rfl
theorem hsX0_copyFrom : Cond.selects RX0 yX0_copyFrom yX0_copyFrom ∈ eT := eT_in (i := 681) (by decide +kernel) rfl
theorem hwX0_size : eMw yX0_size cX0_size 1 (some .int) 0 := ⟨eT_in (i := 487) (by decide +kernel) rfl, eT_in (i := 52) (by decide +kernel) rfl, by decide +kernel, by decide +kernel, by decide +kernel⟩
theorem hiX0_size : Cond.instanceMethod yX0_size ∈ eT := eT_in (i := 485) (by decide +kernel) rfl
theorem hsX0_size : Cond.selects RX0 yX0_size yX0_size ∈ eT := eT_in (i := 486) (by decide +kernel) rfl
theorem hwX0_has : eMw yX0_has cX0_has 2 (some .boolean) 1 := ⟨eT_in (i := 483) (by decide +kernel) rfl, eT_in (i := 52) (by decide +kernel) rfl, by decide +kernel, by decide +kernel, by decide +kernel⟩
theorem hiX0_has : Cond.instanceMethod yX0_has ∈ eT := eT_in (i := 481) (by decide +kernel) rfl
theorem hsX0_has : Cond.selects RX0 yX0_has yX0_has ∈ eT := eT_in (i := 482) (by decide +kernel) rfl
theorem hwX0_firstCell : eMw yX0_firstCell cX0_firstCell 2 (some .int) 1 := ⟨eT_in (i := 492) (by decide +kernel) rfl, eT_in (i := 52) (by decide +kernel) rfl, by decide +kernel, by decide +kernel, by decide +kernel⟩
theorem hiX0_firstCell : Cond.instanceMethod yX0_firstCell ∈ eT := eT_in (i := 490) (by decide +kernel) rfl
theorem hsX0_firstCell : Cond.selects RX0 yX0_firstCell yX0_firstCell ∈ eT := eT_in (i := 491) (by decide +kernel) rfl
theorem hwX0_length : eMw yX0_length cX0_length 2 (some .int) 1 := ⟨eT_in (i := 503) (by decide +kernel) rfl, eT_in (i := 52) (by decide +kernel) rfl, by decide +kernel, by decide +kernel, by decide +kernel⟩
theorem hiX0_length : Cond.instanceMethod yX0_length ∈ eT := eT_in (i := 501) (by decide +kernel) rfl
theorem hsX0_length : Cond.selects RX0 yX0_length yX0_length ∈ eT := eT_in (i := 502) (by decide +kernel) rfl
theorem hwX0_cardAt : eMw yX0_cardAt cX0_cardAt 3 (some .int) 2 := ⟨eT_in (i := 512) (by decide +kernel) rfl, eT_in (i := 52) (by decide +kernel) rfl, by decide +kernel, by decide +kernel, by decide +kernel⟩
theorem hiX0_cardAt : Cond.instanceMethod yX0_cardAt ∈ eT := eT_in (i := 510) (by decide +kernel) rfl
theorem hsX0_cardAt : Cond.selects RX0 yX0_cardAt yX0_cardAt ∈ eT := eT_in (i := 511) (by decide +kernel) rfl
theorem hwX0_lastCell : eMw yX0_lastCell cX0_lastCell 2 (some .int) 1 := ⟨eT_in (i := 499) (by decide +kernel) rfl, eT_in (i := 52) (by decide +kernel) rfl, by decide +kernel, by decide +kernel, by decide +kernel⟩
theorem hiX0_lastCell : Cond.instanceMethod yX0_lastCell ∈ eT := eT_in (i := 497) (by decide +kernel) rfl
theorem hsX0_lastCell : Cond.selects RX0 yX0_lastCell yX0_lastCell ∈ eT := eT_in (i := 498) (by decide +kernel) rfl
theorem hwX0_cellBehind : eMw yX0_cellBehind cX0_cellBehind 5 (some .int) 2 := ⟨eT_in (i := 507) (by decide +kernel) rfl, eT_in (i := 52) (by decide +kernel) rfl, by decide +kernel, by decide +kernel, by decide +kernel⟩
theorem hiX0_cellBehind : Cond.instanceMethod yX0_cellBehind ∈ eT := eT_in (i := 505) (by decide +kernel) rfl
theorem hsX0_cellBehind : Cond.selects RX0 yX0_cellBehind yX0_cellBehind ∈ eT := eT_in (i := 506) (by decide +kernel) rfl
theorem hwX0_cellIf : eMw yX0_cellIf cX0_cellIf 9 (some .int) 3 := ⟨eT_in (i := 797) (by decide +kernel) rfl, eT_in (i := 52) (by decide +kernel) rfl, by decide +kernel, by decide +kernel, by decide +kernel⟩
theorem hiX0_cellIf : Cond.instanceMethod yX0_cellIf ∈ eT := eT_in (i := 795) (by decide +kernel) rfl
theorem hsX0_cellIf : Cond.selects RX0 yX0_cellIf yX0_cellIf ∈ eT := eT_in (i := 796) (by decide +kernel) rfl
theorem hwX0_begin : eMw yX0_begin cX0_begin 3 (some .int) 1 := ⟨eT_in (i := 635) (by decide +kernel) rfl, eT_in (i := 52) (by decide +kernel) rfl, by decide +kernel, by decide +kernel, by decide +kernel⟩
theorem hiX0_begin : Cond.instanceMethod yX0_begin ∈ eT := eT_in (i := 633) (by decide +kernel) rfl
theorem hsX0_begin : Cond.selects RX0 yX0_begin yX0_begin ∈ eT := eT_in (i := 634) (by decide +kernel) rfl
theorem hwX0_weave : eMw yX0_weave cX0_weave 4 none 2 := ⟨eT_in (i := 650) (by decide +kernel) rfl, eT_in (i := 52) (by decide +kernel) rfl, by decide +kernel, by decide +kernel, by decide +kernel⟩
theorem hiX0_weave : Cond.instanceMethod yX0_weave ∈ eT := eT_in (i := 648) (by decide +kernel) rfl
theorem hsX0_weave : Cond.selects RX0 yX0_weave yX0_weave ∈ eT := eT_in (i := 649) (by decide +kernel) rfl
theorem hwX0_turn : eMw yX0_turn cX0_turn 7 none 1 := ⟨eT_in (i := 658) (by decide +kernel) rfl, eT_in (i := 52) (by decide +kernel) rfl, by decide +kernel, by decide +kernel, by decide +kernel⟩
theorem hiX0_turn : Cond.instanceMethod yX0_turn ∈ eT := eT_in (i := 656) (by decide +kernel) rfl
theorem hsX0_turn : Cond.selects RX0 yX0_turn yX0_turn ∈ eT := eT_in (i := 657) (by decide +kernel) rfl
theorem hwX0_fray : eMw yX0_fray cX0_fray 4 (some .int) 0 := ⟨eT_in (i := 670) (by decide +kernel) rfl, eT_in (i := 52) (by decide +kernel) rfl, by decide +kernel, by decide +kernel, by decide +kernel⟩
theorem hiX0_fray : Cond.instanceMethod yX0_fray ∈ eT := eT_in (i := 668) (by decide +kernel) rfl
theorem hsX0_fray : Cond.selects RX0 yX0_fray yX0_fray ∈ eT := eT_in (i := 669) (by decide +kernel) rfl
theorem hwX0_ells : eMw yX0_ells cX0_ells 3 (some .int) 0 := ⟨eT_in (i := 571) (by decide +kernel) rfl, eT_in (i := 52) (by decide +kernel) rfl, by decide +kernel, by decide +kernel, by decide +kernel⟩
theorem hiX0_ells : Cond.instanceMethod yX0_ells ∈ eT := eT_in (i := 569) (by decide +kernel) rfl
theorem hsX0_ells : Cond.selects RX0 yX0_ells yX0_ells ∈ eT := eT_in (i := 570) (by decide +kernel) rfl
theorem hwX0_climb : eMw yX0_climb cX0_climb 6 (some .int) 1 := ⟨eT_in (i := 521) (by decide +kernel) rfl, eT_in (i := 52) (by decide +kernel) rfl, by decide +kernel, by decide +kernel, by decide +kernel⟩
theorem hiX0_climb : Cond.instanceMethod yX0_climb ∈ eT := eT_in (i := 519) (by decide +kernel) rfl
theorem hsX0_climb : Cond.selects RX0 yX0_climb yX0_climb ∈ eT := eT_in (i := 520) (by decide +kernel) rfl
theorem hwX0_toNowhere : eMw yX0_toNowhere cX0_toNowhere 3 (some .int) 0 := ⟨eT_in (i := 589) (by decide +kernel) rfl, eT_in (i := 52) (by decide +kernel) rfl, by decide +kernel, by decide +kernel, by decide +kernel⟩
theorem hiX0_toNowhere : Cond.instanceMethod yX0_toNowhere ∈ eT := eT_in (i := 587) (by decide +kernel) rfl
theorem hsX0_toNowhere : Cond.selects RX0 yX0_toNowhere yX0_toNowhere ∈ eT := eT_in (i := 588) (by decide +kernel) rfl
theorem hwX0_touchesTown : eMw yX0_touchesTown cX0_touchesTown 5 (some .boolean) 1 := ⟨eT_in (i := 593) (by decide +kernel) rfl, eT_in (i := 52) (by decide +kernel) rfl, by decide +kernel, by decide +kernel, by decide +kernel⟩
theorem hiX0_touchesTown : Cond.instanceMethod yX0_touchesTown ∈ eT := eT_in (i := 592) (by decide +kernel) rfl
theorem hsX0_touchesTown : Cond.selects RX0 yX0_touchesTown yX0_touchesTown ∈ eT := eT_in (i := 9) (by decide +kernel) rfl
theorem hwX0_seams : eMw yX0_seams cX0_seams 5 (some .int) 0 := ⟨eT_in (i := 736) (by decide +kernel) rfl, eT_in (i := 52) (by decide +kernel) rfl, by decide +kernel, by decide +kernel, by decide +kernel⟩
theorem hiX0_seams : Cond.instanceMethod yX0_seams ∈ eT := eT_in (i := 734) (by decide +kernel) rfl
theorem hsX0_seams : Cond.selects RX0 yX0_seams yX0_seams ∈ eT := eT_in (i := 735) (by decide +kernel) rfl
theorem hwX0_placeOf : eMw yX0_placeOf cX0_placeOf 1 (some .int) 1 := ⟨eT_in (i := 495) (by decide +kernel) rfl, eT_in (i := 52) (by decide +kernel) rfl, by decide +kernel, by decide +kernel, by decide +kernel⟩
theorem htX0_placeOf : Cond.static yX0_placeOf ∈ eT := eT_in (i := 494) (by decide +kernel) rfl
theorem hwX0_opposite : eMw yX0_opposite cX0_opposite 1 (some .int) 1 := ⟨eT_in (i := 662) (by decide +kernel) rfl, eT_in (i := 52) (by decide +kernel) rfl, by decide +kernel, by decide +kernel, by decide +kernel⟩
theorem htX0_opposite : Cond.static yX0_opposite ∈ eT := eT_in (i := 661) (by decide +kernel) rfl
theorem hwX1_init : eMw yX1_init cX1_init 1 none 0 := ⟨eT_in (i := 73) (by decide +kernel) rfl, eT_in (i := 48) (by decide +kernel) rfl, by decide +kernel, by decide +kernel, by decide +kernel⟩
theorem hiX1_init : Cond.instanceMethod yX1_init ∈ eT := eT_in (i := 72) (by decide +kernel) rfl
theorem hwX1_becomeFirst : eMw yX1_becomeFirst cX1_becomeFirst 1 none 0 := ⟨eT_in (i := 92) (by decide +kernel) rfl, eT_in (i := 48) (by decide +kernel) rfl, by decide +kernel, by decide +kernel, by decide +kernel⟩
theorem hiX1_becomeFirst : Cond.instanceMethod yX1_becomeFirst ∈ eT := eT_in (i := 90) (by decide +kernel) rfl
theorem hsX1_becomeFirst : Cond.selects RX1 yX1_becomeFirst yX1_becomeFirst ∈ eT := eT_in (i := 91) (by decide +kernel) rfl
theorem hwX1_become : eMw yX1_become cX1_become 3 none 1 := ⟨eT_in (i := 444) (by decide +kernel) rfl, eT_in (i := 48) (by decide +kernel) rfl, by decide +kernel, by decide +kernel, by decide +kernel⟩
theorem hiX1_become : Cond.instanceMethod yX1_become ∈ eT := eT_in (i := 442) (by decide +kernel) rfl
theorem hsX1_become : Cond.selects RX1 yX1_become yX1_become ∈ eT := eT_in (i := 443) (by decide +kernel) rfl
theorem hwX1_setSize : eMw yX1_setSize cX1_setSize 3 none 2 := ⟨eT_in (i := 389) (by decide +kernel) rfl, eT_in (i := 48) (by decide +kernel) rfl, by decide +kernel, by decide +kernel, by decide +kernel⟩
theorem hiX1_setSize : Cond.instanceMethod yX1_setSize ∈ eT := eT_in (i := 387) (by decide +kernel) rfl
theorem hsX1_setSize : Cond.selects RX1 yX1_setSize yX1_setSize ∈ eT := eT_in (i := 388) (by decide +kernel) rfl
theorem hwX1_setHeight : eMw yX1_setHeight cX1_setHeight 3 none 2 := ⟨eT_in (i := 405) (by decide +kernel) rfl, eT_in (i := 48) (by decide +kernel) rfl, by decide +kernel, by decide +kernel, by decide +kernel⟩
theorem hiX1_setHeight : Cond.instanceMethod yX1_setHeight ∈ eT := eT_in (i := 403) (by decide +kernel) rfl
theorem hsX1_setHeight : Cond.selects RX1 yX1_setHeight yX1_setHeight ∈ eT := eT_in (i := 404) (by decide +kernel) rfl
theorem hwX1_setSlope : eMw yX1_setSlope cX1_setSlope 2 none 1 := ⟨eT_in (i := 436) (by decide +kernel) rfl, eT_in (i := 48) (by decide +kernel) rfl, by decide +kernel, by decide +kernel, by decide +kernel⟩
theorem hiX1_setSlope : Cond.instanceMethod yX1_setSlope ∈ eT := eT_in (i := 434) (by decide +kernel) rfl
theorem hsX1_setSlope : Cond.selects RX1 yX1_setSlope yX1_setSlope ∈ eT := eT_in (i := 435) (by decide +kernel) rfl
theorem hwX1_addTown : eMw yX1_addTown cX1_addTown 2 none 1 := ⟨eT_in (i := 428) (by decide +kernel) rfl, eT_in (i := 48) (by decide +kernel) rfl, by decide +kernel, by decide +kernel, by decide +kernel⟩
theorem hiX1_addTown : Cond.instanceMethod yX1_addTown ∈ eT := eT_in (i := 426) (by decide +kernel) rfl
theorem hsX1_addTown : Cond.selects RX1 yX1_addTown yX1_addTown ∈ eT := eT_in (i := 427) (by decide +kernel) rfl
theorem hwX1_wide : eMw yX1_wide cX1_wide 1 (some .int) 0 := ⟨eT_in (i := 562) (by decide +kernel) rfl, eT_in (i := 48) (by decide +kernel) rfl, by decide +kernel, by decide +kernel, by decide +kernel⟩
theorem hiX1_wide : Cond.instanceMethod yX1_wide ∈ eT := eT_in (i := 560) (by decide +kernel) rfl
theorem hsX1_wide : Cond.selects RX1 yX1_wide yX1_wide ∈ eT := eT_in (i := 561) (by decide +kernel) rfl
theorem hwX1_deep : eMw yX1_deep cX1_deep 1 (some .int) 0 := ⟨eT_in (i := 868) (by decide +kernel) rfl, eT_in (i := 48) (by decide +kernel) rfl, by decide +kernel, by decide +kernel, by decide +kernel⟩
theorem hiX1_deep : Cond.instanceMethod yX1_deep ∈ eT := eT_in (i := 866) (by decide +kernel) rfl
theorem hsX1_deep : Cond.selects RX1 yX1_deep yX1_deep ∈ eT := eT_in (i := 867) (by decide +kernel) rfl
theorem hwX1_slope : eMw yX1_slope cX1_slope 1 (some .int) 0 := ⟨eT_in (i := 700) (by decide +kernel) rfl, eT_in (i := 48) (by decide +kernel) rfl, by decide +kernel, by decide +kernel, by decide +kernel⟩
theorem hiX1_slope : Cond.instanceMethod yX1_slope ∈ eT := eT_in (i := 698) (by decide +kernel) rfl
theorem hsX1_slope : Cond.selects RX1 yX1_slope yX1_slope ∈ eT := eT_in (i := 699) (by decide +kernel) rfl
theorem hwX1_towns : eMw yX1_towns cX1_towns 1 (some .int) 0 := ⟨eT_in (i := 410) (by decide +kernel) rfl, eT_in (i := 48) (by decide +kernel) rfl, by decide +kernel, by decide +kernel, by decide +kernel⟩
theorem hiX1_towns : Cond.instanceMethod yX1_towns ∈ eT := eT_in (i := 408) (by decide +kernel) rfl
theorem hsX1_towns : Cond.selects RX1 yX1_towns yX1_towns ∈ eT := eT_in (i := 409) (by decide +kernel) rfl
theorem hwX1_cells : eMw yX1_cells cX1_cells 1 (some .int) 0 := ⟨eT_in (i := 401) (by decide +kernel) rfl, eT_in (i := 48) (by decide +kernel) rfl, by decide +kernel, by decide +kernel, by decide +kernel⟩
theorem hiX1_cells : Cond.instanceMethod yX1_cells ∈ eT := eT_in (i := 399) (by decide +kernel) rfl
theorem hsX1_cells : Cond.selects RX1 yX1_cells yX1_cells ∈ eT := eT_in (i := 400) (by decide +kernel) rfl
theorem hwX1_hasCell : eMw yX1_hasCell cX1_hasCell 2 (some .boolean) 1 := ⟨eT_in (i := 461) (by decide +kernel) rfl, eT_in (i := 48) (by decide +kernel) rfl, by decide +kernel, by decide +kernel, by decide +kernel⟩
theorem hiX1_hasCell : Cond.instanceMethod yX1_hasCell ∈ eT := eT_in (i := 459) (by decide +kernel) rfl
theorem hsX1_hasCell : Cond.selects RX1 yX1_hasCell yX1_hasCell ∈ eT := eT_in (i := 460) (by decide +kernel) rfl
theorem hwX1_heightAt : eMw yX1_heightAt cX1_heightAt 2 (some .int) 1 := ⟨eT_in (i := 466) (by decide +kernel) rfl, eT_in (i := 48) (by decide +kernel) rfl, by decide +kernel, by decide +kernel, by decide +kernel⟩
theorem hiX1_heightAt : Cond.instanceMethod yX1_heightAt ∈ eT := eT_in (i := 464) (by decide +kernel) rfl
theorem hsX1_heightAt : Cond.selects RX1 yX1_heightAt yX1_heightAt ∈ eT := eT_in (i := 465) (by decide +kernel) rfl
theorem hwX1_townCell : eMw yX1_townCell cX1_townCell 2 (some .int) 1 := ⟨eT_in (i := 475) (by decide +kernel) rfl, eT_in (i := 48) (by decide +kernel) rfl, by decide +kernel, by decide +kernel, by decide +kernel⟩
theorem hiX1_townCell : Cond.instanceMethod yX1_townCell ∈ eT := eT_in (i := 473) (by decide +kernel) rfl
theorem hsX1_townCell : Cond.selects RX1 yX1_townCell yX1_townCell ∈ eT := eT_in (i := 474) (by decide +kernel) rfl
theorem hwX1_isTown : eMw yX1_isTown cX1_isTown 2 (some .boolean) 1 := ⟨eT_in (i := 418) (by decide +kernel) rfl, eT_in (i := 48) (by decide +kernel) rfl, by decide +kernel, by decide +kernel, by decide +kernel⟩
theorem hiX1_isTown : Cond.instanceMethod yX1_isTown ∈ eT := eT_in (i := 416) (by decide +kernel) rfl
theorem hsX1_isTown : Cond.selects RX1 yX1_isTown yX1_isTown ∈ eT := eT_in (i := 417) (by decide +kernel) rfl
theorem hwX1_cellsOfTowns : eMw yX1_cellsOfTowns cX1_cellsOfTowns 4 (some .int) 1 := ⟨eT_in (i := 423) (by decide +kernel) rfl, eT_in (i := 48) (by decide +kernel) rfl, by decide +kernel, by decide +kernel, by decide +kernel⟩
theorem hiX1_cellsOfTowns : Cond.instanceMethod yX1_cellsOfTowns ∈ eT := eT_in (i := 421) (by decide +kernel) rfl
theorem hsX1_cellsOfTowns : Cond.selects RX1 yX1_cellsOfTowns yX1_cellsOfTowns ∈ eT := eT_in (i := 422) (by decide +kernel) rfl
theorem hwX1_neighbour : eMw yX1_neighbour cX1_neighbour 4 (some .int) 2 := ⟨eT_in (i := 516) (by decide +kernel) rfl, eT_in (i := 48) (by decide +kernel) rfl, by decide +kernel, by decide +kernel, by decide +kernel⟩
theorem hiX1_neighbour : Cond.instanceMethod yX1_neighbour ∈ eT := eT_in (i := 514) (by decide +kernel) rfl
theorem hsX1_neighbour : Cond.selects RX1 yX1_neighbour yX1_neighbour ∈ eT := eT_in (i := 515) (by decide +kernel) rfl
theorem hwX1_step : eMw yX1_step cX1_step 3 (some .int) 2 := ⟨eT_in (i := 525) (by decide +kernel) rfl, eT_in (i := 48) (by decide +kernel) rfl, by decide +kernel, by decide +kernel, by decide +kernel⟩
theorem hiX1_step : Cond.instanceMethod yX1_step ∈ eT := eT_in (i := 523) (by decide +kernel) rfl
theorem hsX1_step : Cond.selects RX1 yX1_step yX1_step ∈ eT := eT_in (i := 524) (by decide +kernel) rfl
theorem hwX1_cellBy : eMw yX1_cellBy cX1_cellBy 4 (some .int) 2 := ⟨eT_in (i := 643) (by decide +kernel) rfl, eT_in (i := 48) (by decide +kernel) rfl, by decide +kernel, by decide +kernel, by decide +kernel⟩
theorem hiX1_cellBy : Cond.instanceMethod yX1_cellBy ∈ eT := eT_in (i := 641) (by decide +kernel) rfl
theorem hsX1_cellBy : Cond.selects RX1 yX1_cellBy yX1_cellBy ∈ eT := eT_in (i := 642) (by decide +kernel) rfl
theorem hwX2_init : eMw yX2_init cX2_init 1 none 0 := ⟨eT_in (i := 120) (by decide +kernel) rfl, eT_in (i := 51) (by decide +kernel) rfl, by decide +kernel, by decide +kernel, by decide +kernel⟩
theorem hiX2_init : Cond.instanceMethod yX2_init ∈ eT := eT_in (i := 119) (by decide +kernel) rfl
theorem hwX2_size : eMw yX2_size cX2_size 1 (some .int) 0 := ⟨eT_in (i := 342) (by decide +kernel) rfl, eT_in (i := 51) (by decide +kernel) rfl, by decide +kernel, by decide +kernel, by decide +kernel⟩
theorem hiX2_size : Cond.instanceMethod yX2_size ∈ eT := eT_in (i := 340) (by decide +kernel) rfl
theorem hsX2_size : Cond.selects RX2 yX2_size yX2_size ∈ eT := eT_in (i := 341) (by decide +kernel) rfl
theorem hwX2_told : eMw yX2_told cX2_told 1 (some (.object "WovenRoads$Land")) 0 := ⟨eT_in (i := 440) (by decide +kernel) rfl, eT_in (i := 51) (by decide +kernel) rfl, by decide +kernel, by decide +kernel, by decide +kernel⟩
theorem hiX2_told : Cond.instanceMethod yX2_told ∈ eT := eT_in (i := 438) (by decide +kernel) rfl
theorem hsX2_told : Cond.selects RX2 yX2_told yX2_told ∈ eT := eT_in (i := 439) (by decide +kernel) rfl
theorem hwX2_add : eMw yX2_add cX2_add 2 (some .boolean) 1 := ⟨eT_in (i := 334) (by decide +kernel) rfl, eT_in (i := 51) (by decide +kernel) rfl, by decide +kernel, by decide +kernel, by decide +kernel⟩
theorem hiX2_add : Cond.instanceMethod yX2_add ∈ eT := eT_in (i := 332) (by decide +kernel) rfl
theorem hsX2_add : Cond.selects RX2 yX2_add yX2_add ∈ eT := eT_in (i := 333) (by decide +kernel) rfl
theorem hwX2_empty : eMw yX2_empty cX2_empty 1 none 0 := ⟨eT_in (i := 350) (by decide +kernel) rfl, eT_in (i := 51) (by decide +kernel) rfl, by decide +kernel, by decide +kernel, by decide +kernel⟩
theorem hiX2_empty : Cond.instanceMethod yX2_empty ∈ eT := eT_in (i := 348) (by decide +kernel) rfl
theorem hsX2_empty : Cond.selects RX2 yX2_empty yX2_empty ∈ eT := eT_in (i := 349) (by decide +kernel) rfl
theorem hwX2_read : eMw yX2_read cX2_read 1 (some .int) 0 := ⟨eT_in (i := 358) (by decide +kernel) rfl, eT_in (i := 51) (by decide +kernel) rfl, by decide +kernel, by decide +kernel, by decide +kernel⟩
theorem hiX2_read : Cond.instanceMethod yX2_read ∈ eT := eT_in (i := 356) (by decide +kernel) rfl
theorem hsX2_read : Cond.selects RX2 yX2_read yX2_read ∈ eT := eT_in (i := 357) (by decide +kernel) rfl
theorem hwX2_readItem : eMw yX2_readItem cX2_readItem 1 (some .boolean) 0 := ⟨eT_in (i := 377) (by decide +kernel) rfl, eT_in (i := 51) (by decide +kernel) rfl, by decide +kernel, by decide +kernel, by decide +kernel⟩
theorem hiX2_readItem : Cond.instanceMethod yX2_readItem ∈ eT := eT_in (i := 376) (by decide +kernel) rfl
theorem hsX2_readItem : Cond.selects RX2 yX2_readItem yX2_readItem ∈ eT := eT_in (i := 1) (by decide +kernel) rfl
theorem hwX2_readSize : eMw yX2_readSize cX2_readSize 2 (some .boolean) 0 := ⟨eT_in (i := 381) (by decide +kernel) rfl, eT_in (i := 51) (by decide +kernel) rfl, by decide +kernel, by decide +kernel, by decide +kernel⟩
theorem hiX2_readSize : Cond.instanceMethod yX2_readSize ∈ eT := eT_in (i := 380) (by decide +kernel) rfl
theorem hsX2_readSize : Cond.selects RX2 yX2_readSize yX2_readSize ∈ eT := eT_in (i := 2) (by decide +kernel) rfl
theorem hwX2_readHeight : eMw yX2_readHeight cX2_readHeight 2 (some .boolean) 0 := ⟨eT_in (i := 397) (by decide +kernel) rfl, eT_in (i := 51) (by decide +kernel) rfl, by decide +kernel, by decide +kernel, by decide +kernel⟩
theorem hiX2_readHeight : Cond.instanceMethod yX2_readHeight ∈ eT := eT_in (i := 396) (by decide +kernel) rfl
theorem hsX2_readHeight : Cond.selects RX2 yX2_readHeight yX2_readHeight ∈ eT := eT_in (i := 5) (by decide +kernel) rfl
theorem hwX2_readTown : eMw yX2_readTown cX2_readTown 1 (some .boolean) 0 := ⟨eT_in (i := 414) (by decide +kernel) rfl, eT_in (i := 51) (by decide +kernel) rfl, by decide +kernel, by decide +kernel, by decide +kernel⟩
theorem hiX2_readTown : Cond.instanceMethod yX2_readTown ∈ eT := eT_in (i := 413) (by decide +kernel) rfl
theorem hsX2_readTown : Cond.selects RX2 yX2_readTown yX2_readTown ∈ eT := eT_in (i := 6) (by decide +kernel) rfl
theorem hwX2_readSlope : eMw yX2_readSlope cX2_readSlope 1 (some .boolean) 0 := ⟨eT_in (i := 432) (by decide +kernel) rfl, eT_in (i := 51) (by decide +kernel) rfl, by decide +kernel, by decide +kernel, by decide +kernel⟩
theorem hiX2_readSlope : Cond.instanceMethod yX2_readSlope ∈ eT := eT_in (i := 431) (by decide +kernel) rfl
theorem hsX2_readSlope : Cond.selects RX2 yX2_readSlope yX2_readSlope ∈ eT := eT_in (i := 7) (by decide +kernel) rfl
theorem hwX2_readNumber : eMw yX2_readNumber cX2_readNumber 3 (some .boolean) 2 := ⟨eT_in (i := 385) (by decide +kernel) rfl, eT_in (i := 51) (by decide +kernel) rfl, by decide +kernel, by decide +kernel, by decide +kernel⟩
theorem hiX2_readNumber : Cond.instanceMethod yX2_readNumber ∈ eT := eT_in (i := 384) (by decide +kernel) rfl
theorem hsX2_readNumber : Cond.selects RX2 yX2_readNumber yX2_readNumber ∈ eT := eT_in (i := 3) (by decide +kernel) rfl
theorem hwX2_readItemEnd : eMw yX2_readItemEnd cX2_readItemEnd 1 (some .boolean) 0 := ⟨eT_in (i := 393) (by decide +kernel) rfl, eT_in (i := 51) (by decide +kernel) rfl, by decide +kernel, by decide +kernel, by decide +kernel⟩
theorem hiX2_readItemEnd : Cond.instanceMethod yX2_readItemEnd ∈ eT := eT_in (i := 392) (by decide +kernel) rfl
theorem hsX2_readItemEnd : Cond.selects RX2 yX2_readItemEnd yX2_readItemEnd ∈ eT := eT_in (i := 4) (by decide +kernel) rfl
theorem hwX2_nextToken : eMw yX2_nextToken cX2_nextToken 3 none 0 := ⟨eT_in (i := 363) (by decide +kernel) rfl, eT_in (i := 51) (by decide +kernel) rfl, by decide +kernel, by decide +kernel, by decide +kernel⟩
theorem hiX2_nextToken : Cond.instanceMethod yX2_nextToken ∈ eT := eT_in (i := 362) (by decide +kernel) rfl
theorem hsX2_nextToken : Cond.selects RX2 yX2_nextToken yX2_nextToken ∈ eT := eT_in (i := 0) (by decide +kernel) rfl
theorem hwX2_isDigit : eMw yX2_isDigit cX2_isDigit 1 (some .boolean) 1 := ⟨eT_in (i := 370) (by decide +kernel) rfl, eT_in (i := 51) (by decide +kernel) rfl, by decide +kernel, by decide +kernel, by decide +kernel⟩
theorem htX2_isDigit : Cond.static yX2_isDigit ∈ eT := eT_in (i := 369) (by decide +kernel) rfl
theorem hwX3_init : eMw yX3_init cX3_init 2 none 1 := ⟨eT_in (i := 259) (by decide +kernel) rfl, eT_in (i := 57) (by decide +kernel) rfl, by decide +kernel, by decide +kernel, by decide +kernel⟩
theorem hiX3_init : Cond.instanceMethod yX3_init ∈ eT := eT_in (i := 258) (by decide +kernel) rfl
theorem hwX3_lowerNumber : eMw yX3_lowerNumber cX3_lowerNumber 4 (some .int) 1 := ⟨eT_in (i := 786) (by decide +kernel) rfl, eT_in (i := 57) (by decide +kernel) rfl, by decide +kernel, by decide +kernel, by decide +kernel⟩
theorem hiX3_lowerNumber : Cond.instanceMethod yX3_lowerNumber ∈ eT := eT_in (i := 784) (by decide +kernel) rfl
theorem hsX3_lowerNumber : Cond.selects RX3 yX3_lowerNumber yX3_lowerNumber ∈ eT := eT_in (i := 785) (by decide +kernel) rfl
theorem hwX3_upperNumber : eMw yX3_upperNumber cX3_upperNumber 6 (some .int) 3 := ⟨eT_in (i := 767) (by decide +kernel) rfl, eT_in (i := 57) (by decide +kernel) rfl, by decide +kernel, by decide +kernel, by decide +kernel⟩
theorem hiX3_upperNumber : Cond.instanceMethod yX3_upperNumber ∈ eT := eT_in (i := 765) (by decide +kernel) rfl
theorem hsX3_upperNumber : Cond.selects RX3 yX3_upperNumber yX3_upperNumber ∈ eT := eT_in (i := 766) (by decide +kernel) rfl
theorem hwX3_foretell : eMw yX3_foretell cX3_foretell 7 none 2 := ⟨eT_in (i := 771) (by decide +kernel) rfl, eT_in (i := 57) (by decide +kernel) rfl, by decide +kernel, by decide +kernel, by decide +kernel⟩
theorem hiX3_foretell : Cond.instanceMethod yX3_foretell ∈ eT := eT_in (i := 770) (by decide +kernel) rfl
theorem hsX3_foretell : Cond.selects RX3 yX3_foretell yX3_foretell ∈ eT := eT_in (i := 13) (by decide +kernel) rfl
theorem hwX4_init : eMw yX4_init cX4_init 2 none 1 := ⟨eT_in (i := 173) (by decide +kernel) rfl, eT_in (i := 53) (by decide +kernel) rfl, by decide +kernel, by decide +kernel, by decide +kernel⟩
theorem hiX4_init : Cond.instanceMethod yX4_init ∈ eT := eT_in (i := 172) (by decide +kernel) rfl
theorem hwX4_known : eMw yX4_known cX4_known 1 (some .int) 0 := ⟨eT_in (i := 618) (by decide +kernel) rfl, eT_in (i := 53) (by decide +kernel) rfl, by decide +kernel, by decide +kernel, by decide +kernel⟩
theorem hiX4_known : Cond.instanceMethod yX4_known ∈ eT := eT_in (i := 616) (by decide +kernel) rfl
theorem hsX4_known : Cond.selects RX4 yX4_known yX4_known ∈ eT := eT_in (i := 617) (by decide +kernel) rfl
theorem hwX4_forget : eMw yX4_forget cX4_forget 1 none 0 := ⟨eT_in (i := 453) (by decide +kernel) rfl, eT_in (i := 53) (by decide +kernel) rfl, by decide +kernel, by decide +kernel, by decide +kernel⟩
theorem hiX4_forget : Cond.instanceMethod yX4_forget ∈ eT := eT_in (i := 451) (by decide +kernel) rfl
theorem hsX4_forget : Cond.selects RX4 yX4_forget yX4_forget ∈ eT := eT_in (i := 452) (by decide +kernel) rfl
theorem hwX4_remember : eMw yX4_remember cX4_remember 1 none 0 := ⟨eT_in (i := 626) (by decide +kernel) rfl, eT_in (i := 53) (by decide +kernel) rfl, by decide +kernel, by decide +kernel, by decide +kernel⟩
theorem hiX4_remember : Cond.instanceMethod yX4_remember ∈ eT := eT_in (i := 624) (by decide +kernel) rfl
theorem hsX4_remember : Cond.selects RX4 yX4_remember yX4_remember ∈ eT := eT_in (i := 625) (by decide +kernel) rfl
theorem hwX4_takeBack : eMw yX4_takeBack cX4_takeBack 1 (some .boolean) 0 := ⟨eT_in (i := 678) (by decide +kernel) rfl, eT_in (i := 53) (by decide +kernel) rfl, by decide +kernel, by decide +kernel, by decide +kernel⟩
theorem hiX4_takeBack : Cond.instanceMethod yX4_takeBack ∈ eT := eT_in (i := 676) (by decide +kernel) rfl
theorem hsX4_takeBack : Cond.selects RX4 yX4_takeBack yX4_takeBack ∈ eT := eT_in (i := 677) (by decide +kernel) rfl
theorem hwX5_init : eMw yX5_init cX5_init 3 none 2 := ⟨eT_in (i := 281) (by decide +kernel) rfl, eT_in (i := 58) (by decide +kernel) rfl, by decide +kernel, by decide +kernel, by decide +kernel⟩
theorem hiX5_init : Cond.instanceMethod yX5_init ∈ eT := eT_in (i := 280) (by decide +kernel) rfl
theorem hwX5_traced : eMw yX5_traced cX5_traced 1 (some .long) 0 := ⟨eT_in (i := 877) (by decide +kernel) rfl, eT_in (i := 58) (by decide +kernel) rfl, by decide +kernel, by decide +kernel, by decide +kernel⟩
theorem hiX5_traced : Cond.instanceMethod yX5_traced ∈ eT := eT_in (i := 875) (by decide +kernel) rfl
theorem hsX5_traced : Cond.selects RX5 yX5_traced yX5_traced ∈ eT := eT_in (i := 876) (by decide +kernel) rfl
theorem hwX5_asBolt : eMw yX5_asBolt cX5_asBolt 2 (some .int) 1 := ⟨eT_in (i := 813) (by decide +kernel) rfl, eT_in (i := 58) (by decide +kernel) rfl, by decide +kernel, by decide +kernel, by decide +kernel⟩
theorem hiX5_asBolt : Cond.instanceMethod yX5_asBolt ∈ eT := eT_in (i := 811) (by decide +kernel) rfl
theorem hsX5_asBolt : Cond.selects RX5 yX5_asBolt yX5_asBolt ∈ eT := eT_in (i := 812) (by decide +kernel) rfl
theorem hwX5_asLane : eMw yX5_asLane cX5_asLane 2 (some .int) 1 := ⟨eT_in (i := 818) (by decide +kernel) rfl, eT_in (i := 58) (by decide +kernel) rfl, by decide +kernel, by decide +kernel, by decide +kernel⟩
theorem hiX5_asLane : Cond.instanceMethod yX5_asLane ∈ eT := eT_in (i := 816) (by decide +kernel) rfl
theorem hsX5_asLane : Cond.selects RX5 yX5_asLane yX5_asLane ∈ eT := eT_in (i := 817) (by decide +kernel) rfl
theorem hwX5_asToll : eMw yX5_asToll cX5_asToll 2 (some .int) 1 := ⟨eT_in (i := 825) (by decide +kernel) rfl, eT_in (i := 58) (by decide +kernel) rfl, by decide +kernel, by decide +kernel, by decide +kernel⟩
theorem hiX5_asToll : Cond.instanceMethod yX5_asToll ∈ eT := eT_in (i := 823) (by decide +kernel) rfl
theorem hsX5_asToll : Cond.selects RX5 yX5_asToll yX5_asToll ∈ eT := eT_in (i := 824) (by decide +kernel) rfl
theorem hwX5_asTrack : eMw yX5_asTrack cX5_asTrack 2 (some .int) 1 := ⟨eT_in (i := 831) (by decide +kernel) rfl, eT_in (i := 58) (by decide +kernel) rfl, by decide +kernel, by decide +kernel, by decide +kernel⟩
theorem hiX5_asTrack : Cond.instanceMethod yX5_asTrack ∈ eT := eT_in (i := 829) (by decide +kernel) rfl
theorem hsX5_asTrack : Cond.selects RX5 yX5_asTrack yX5_asTrack ∈ eT := eT_in (i := 830) (by decide +kernel) rfl
theorem hwX5_asMoth : eMw yX5_asMoth cX5_asMoth 2 (some .int) 1 := ⟨eT_in (i := 837) (by decide +kernel) rfl, eT_in (i := 58) (by decide +kernel) rfl, by decide +kernel, by decide +kernel, by decide +kernel⟩
theorem hiX5_asMoth : Cond.instanceMethod yX5_asMoth ∈ eT := eT_in (i := 835) (by decide +kernel) rfl
theorem hsX5_asMoth : Cond.selects RX5 yX5_asMoth yX5_asMoth ∈ eT := eT_in (i := 836) (by decide +kernel) rfl
theorem hwX5_asDream : eMw yX5_asDream cX5_asDream 2 (some .int) 1 := ⟨eT_in (i := 843) (by decide +kernel) rfl, eT_in (i := 58) (by decide +kernel) rfl, by decide +kernel, by decide +kernel, by decide +kernel⟩
theorem hiX5_asDream : Cond.instanceMethod yX5_asDream ∈ eT := eT_in (i := 841) (by decide +kernel) rfl
theorem hsX5_asDream : Cond.selects RX5 yX5_asDream yX5_asDream ∈ eT := eT_in (i := 842) (by decide +kernel) rfl
theorem hwX6_init : eMw yX6_init cX6_init 2 none 1 := ⟨eT_in (i := 196) (by decide +kernel) rfl, eT_in (i := 54) (by decide +kernel) rfl, by decide +kernel, by decide +kernel, by decide +kernel⟩
theorem hiX6_init : Cond.instanceMethod yX6_init ∈ eT := eT_in (i := 195) (by decide +kernel) rfl
theorem hwX6_lay : eMw yX6_lay cX6_lay 6 none 1 := ⟨eT_in (i := 542) (by decide +kernel) rfl, eT_in (i := 54) (by decide +kernel) rfl, by decide +kernel, by decide +kernel, by decide +kernel⟩
theorem hiX6_lay : Cond.instanceMethod yX6_lay ∈ eT := eT_in (i := 540) (by decide +kernel) rfl
theorem hsX6_lay : Cond.selects RX6 yX6_lay yX6_lay ∈ eT := eT_in (i := 541) (by decide +kernel) rfl
theorem hwX6_layWhereSlope : eMw yX6_layWhereSlope cX6_layWhereSlope 5 none 1 := ⟨eT_in (i := 613) (by decide +kernel) rfl, eT_in (i := 54) (by decide +kernel) rfl, by decide +kernel, by decide +kernel, by decide +kernel⟩
theorem hiX6_layWhereSlope : Cond.instanceMethod yX6_layWhereSlope ∈ eT := eT_in (i := 611) (by decide +kernel) rfl
theorem hsX6_layWhereSlope : Cond.selects RX6 yX6_layWhereSlope yX6_layWhereSlope ∈ eT := eT_in (i := 612) (by decide +kernel) rfl
theorem hwX6_layBetween : eMw yX6_layBetween cX6_layBetween 3 none 2 := ⟨eT_in (i := 553) (by decide +kernel) rfl, eT_in (i := 54) (by decide +kernel) rfl, by decide +kernel, by decide +kernel, by decide +kernel⟩
theorem hiX6_layBetween : Cond.instanceMethod yX6_layBetween ∈ eT := eT_in (i := 552) (by decide +kernel) rfl
theorem hsX6_layBetween : Cond.selects RX6 yX6_layBetween yX6_layBetween ∈ eT := eT_in (i := 8) (by decide +kernel) rfl
theorem hwX6_goes : eMw yX6_goes cX6_goes 3 (some .boolean) 2 := ⟨eT_in (i := 558) (by decide +kernel) rfl, eT_in (i := 54) (by decide +kernel) rfl, by decide +kernel, by decide +kernel, by decide +kernel⟩
theorem hiX6_goes : Cond.instanceMethod yX6_goes ∈ eT := eT_in (i := 556) (by decide +kernel) rfl
theorem hsX6_goes : Cond.selects RX6 yX6_goes yX6_goes ∈ eT := eT_in (i := 557) (by decide +kernel) rfl
theorem hwX6_spread : eMw yX6_spread cX6_spread 5 (some .int) 1 := ⟨eT_in (i := 585) (by decide +kernel) rfl, eT_in (i := 54) (by decide +kernel) rfl, by decide +kernel, by decide +kernel, by decide +kernel⟩
theorem hiX6_spread : Cond.instanceMethod yX6_spread ∈ eT := eT_in (i := 583) (by decide +kernel) rfl
theorem hsX6_spread : Cond.selects RX6 yX6_spread yX6_spread ∈ eT := eT_in (i := 584) (by decide +kernel) rfl
theorem hwX6_reach : eMw yX6_reach cX6_reach 6 (some .int) 2 := ⟨eT_in (i := 581) (by decide +kernel) rfl, eT_in (i := 54) (by decide +kernel) rfl, by decide +kernel, by decide +kernel, by decide +kernel⟩
theorem hiX6_reach : Cond.instanceMethod yX6_reach ∈ eT := eT_in (i := 579) (by decide +kernel) rfl
theorem hsX6_reach : Cond.selects RX6 yX6_reach yX6_reach ∈ eT := eT_in (i := 580) (by decide +kernel) rfl
theorem hwX6_pieces : eMw yX6_pieces cX6_pieces 5 (some .int) 0 := ⟨eT_in (i := 575) (by decide +kernel) rfl, eT_in (i := 54) (by decide +kernel) rfl, by decide +kernel, by decide +kernel, by decide +kernel⟩
theorem hiX6_pieces : Cond.instanceMethod yX6_pieces ∈ eT := eT_in (i := 573) (by decide +kernel) rfl
theorem hsX6_pieces : Cond.selects RX6 yX6_pieces yX6_pieces ∈ eT := eT_in (i := 574) (by decide +kernel) rfl
theorem hwX6_steepest : eMw yX6_steepest cX6_steepest 5 (some .int) 0 := ⟨eT_in (i := 599) (by decide +kernel) rfl, eT_in (i := 54) (by decide +kernel) rfl, by decide +kernel, by decide +kernel, by decide +kernel⟩
theorem hiX6_steepest : Cond.instanceMethod yX6_steepest ∈ eT := eT_in (i := 597) (by decide +kernel) rfl
theorem hsX6_steepest : Cond.selects RX6 yX6_steepest yX6_steepest ∈ eT := eT_in (i := 598) (by decide +kernel) rfl
theorem hwX6_fewestDarners : eMw yX6_fewestDarners cX6_fewestDarners 7 (some .int) 1 := ⟨eT_in (i := 757) (by decide +kernel) rfl, eT_in (i := 54) (by decide +kernel) rfl, by decide +kernel, by decide +kernel, by decide +kernel⟩
theorem hiX6_fewestDarners : Cond.instanceMethod yX6_fewestDarners ∈ eT := eT_in (i := 755) (by decide +kernel) rfl
theorem hsX6_fewestDarners : Cond.selects RX6 yX6_fewestDarners yX6_fewestDarners ∈ eT := eT_in (i := 756) (by decide +kernel) rfl
theorem hwX7_init : eMw yX7_init cX7_init 2 none 1 := ⟨eT_in (i := 79) (by decide +kernel) rfl, eT_in (i := 49) (by decide +kernel) rfl, by decide +kernel, by decide +kernel, by decide +kernel⟩
theorem hiX7_init : Cond.instanceMethod yX7_init ∈ eT := eT_in (i := 78) (by decide +kernel) rfl
theorem hwX7_get : eMw yX7_get cX7_get 2 (some .int) 1 := ⟨eT_in (i := 367) (by decide +kernel) rfl, eT_in (i := 49) (by decide +kernel) rfl, by decide +kernel, by decide +kernel, by decide +kernel⟩
theorem hiX7_get : Cond.instanceMethod yX7_get ∈ eT := eT_in (i := 365) (by decide +kernel) rfl
theorem hsX7_get : Cond.selects RX7 yX7_get yX7_get ∈ eT := eT_in (i := 366) (by decide +kernel) rfl
theorem hwX7_put : eMw yX7_put cX7_put 3 none 2 := ⟨eT_in (i := 338) (by decide +kernel) rfl, eT_in (i := 49) (by decide +kernel) rfl, by decide +kernel, by decide +kernel, by decide +kernel⟩
theorem hiX7_put : Cond.instanceMethod yX7_put ∈ eT := eT_in (i := 336) (by decide +kernel) rfl
theorem hsX7_put : Cond.selects RX7 yX7_put yX7_put ∈ eT := eT_in (i := 337) (by decide +kernel) rfl
theorem hwX7_fill : eMw yX7_fill cX7_fill 3 none 1 := ⟨eT_in (i := 96) (by decide +kernel) rfl, eT_in (i := 49) (by decide +kernel) rfl, by decide +kernel, by decide +kernel, by decide +kernel⟩
theorem hiX7_fill : Cond.instanceMethod yX7_fill ∈ eT := eT_in (i := 94) (by decide +kernel) rfl
theorem hsX7_fill : Cond.selects RX7 yX7_fill yX7_fill ∈ eT := eT_in (i := 95) (by decide +kernel) rfl
theorem hwX8_init : eMw yX8_init cX8_init 4 none 3 := ⟨eT_in (i := 212) (by decide +kernel) rfl, eT_in (i := 55) (by decide +kernel) rfl, by decide +kernel, by decide +kernel, by decide +kernel⟩
theorem hiX8_init : Cond.instanceMethod yX8_init ∈ eT := eT_in (i := 211) (by decide +kernel) rfl
theorem hwX8_soonest : eMw yX8_soonest cX8_soonest 7 (some .int) 2 := ⟨eT_in (i := 732) (by decide +kernel) rfl, eT_in (i := 55) (by decide +kernel) rfl, by decide +kernel, by decide +kernel, by decide +kernel⟩
theorem hiX8_soonest : Cond.instanceMethod yX8_soonest ∈ eT := eT_in (i := 730) (by decide +kernel) rfl
theorem hsX8_soonest : Cond.selects RX8 yX8_soonest yX8_soonest ∈ eT := eT_in (i := 731) (by decide +kernel) rfl
theorem hwX8_goOn : eMw yX8_goOn cX8_goOn 8 (some .boolean) 2 := ⟨eT_in (i := 744) (by decide +kernel) rfl, eT_in (i := 55) (by decide +kernel) rfl, by decide +kernel, by decide +kernel, by decide +kernel⟩
theorem hiX8_goOn : Cond.instanceMethod yX8_goOn ∈ eT := eT_in (i := 743) (by decide +kernel) rfl
theorem hsX8_goOn : Cond.selects RX8 yX8_goOn yX8_goOn ∈ eT := eT_in (i := 12) (by decide +kernel) rfl
theorem hwX9_init : eMw yX9_init cX9_init 3 none 2 := ⟨eT_in (i := 233) (by decide +kernel) rfl, eT_in (i := 56) (by decide +kernel) rfl, by decide +kernel, by decide +kernel, by decide +kernel⟩
theorem hiX9_init : Cond.instanceMethod yX9_init ∈ eT := eT_in (i := 232) (by decide +kernel) rfl
theorem hwX9_leastSlope : eMw yX9_leastSlope cX9_leastSlope 2 (some .int) 0 := ⟨eT_in (i := 609) (by decide +kernel) rfl, eT_in (i := 56) (by decide +kernel) rfl, by decide +kernel, by decide +kernel, by decide +kernel⟩
theorem hiX9_leastSlope : Cond.instanceMethod yX9_leastSlope ∈ eT := eT_in (i := 607) (by decide +kernel) rfl
theorem hsX9_leastSlope : Cond.selects RX9 yX9_leastSlope yX9_leastSlope ∈ eT := eT_in (i := 608) (by decide +kernel) rfl
theorem hwX9_fewestElls : eMw yX9_fewestElls cX9_fewestElls 4 (some .int) 0 := ⟨eT_in (i := 696) (by decide +kernel) rfl, eT_in (i := 56) (by decide +kernel) rfl, by decide +kernel, by decide +kernel, by decide +kernel⟩
theorem hiX9_fewestElls : Cond.instanceMethod yX9_fewestElls ∈ eT := eT_in (i := 694) (by decide +kernel) rfl
theorem hsX9_fewestElls : Cond.selects RX9 yX9_fewestElls yX9_fewestElls ∈ eT := eT_in (i := 695) (by decide +kernel) rfl
theorem hwX9_cellsJoined : eMw yX9_cellsJoined cX9_cellsJoined 5 (some .int) 2 := ⟨eT_in (i := 709) (by decide +kernel) rfl, eT_in (i := 56) (by decide +kernel) rfl, by decide +kernel, by decide +kernel, by decide +kernel⟩
theorem hiX9_cellsJoined : Cond.instanceMethod yX9_cellsJoined ∈ eT := eT_in (i := 708) (by decide +kernel) rfl
theorem hsX9_cellsJoined : Cond.selects RX9 yX9_cellsJoined yX9_cellsJoined ∈ eT := eT_in (i := 10) (by decide +kernel) rfl
theorem hwX9_cellsWherePartsMeet : eMw yX9_cellsWherePartsMeet cX9_cellsWherePartsMeet 6 (some .int) 2 := ⟨eT_in (i := 720) (by decide +kernel) rfl, eT_in (i := 56) (by decide +kernel) rfl, by decide +kernel, by decide +kernel, by decide +kernel⟩
theorem hiX9_cellsWherePartsMeet : Cond.instanceMethod yX9_cellsWherePartsMeet ∈ eT := eT_in (i := 719) (by decide +kernel) rfl
theorem hsX9_cellsWherePartsMeet : Cond.selects RX9 yX9_cellsWherePartsMeet yX9_cellsWherePartsMeet ∈ eT := eT_in (i := 11) (by decide +kernel) rfl
theorem hwX9_placeOf : eMw yX9_placeOf cX9_placeOf 2 (some .int) 2 := ⟨eT_in (i := 705) (by decide +kernel) rfl, eT_in (i := 56) (by decide +kernel) rfl, by decide +kernel, by decide +kernel, by decide +kernel⟩
theorem htX9_placeOf : Cond.static yX9_placeOf ∈ eT := eT_in (i := 704) (by decide +kernel) rfl
theorem hwX10_init : eMw yX10_init cX10_init 1 none 0 := ⟨eT_in (i := 65) (by decide +kernel) rfl, eT_in (i := 47) (by decide +kernel) rfl, by decide +kernel, by decide +kernel, by decide +kernel⟩
theorem hiX10_init : Cond.instanceMethod yX10_init ∈ eT := eT_in (i := 64) (by decide +kernel) rfl
theorem hwX10_type : eMw yX10_type cX10_type 2 (some .int) 1 := ⟨eT_in (i := 330) (by decide +kernel) rfl, eT_in (i := 47) (by decide +kernel) rfl, by decide +kernel, by decide +kernel, by decide +kernel⟩
theorem hiX10_type : Cond.instanceMethod yX10_type ∈ eT := eT_in (i := 328) (by decide +kernel) rfl
theorem hsX10_type : Cond.selects RX10 yX10_type yX10_type ∈ eT := eT_in (i := 329) (by decide +kernel) rfl
theorem hwX10_clear : eMw yX10_clear cX10_clear 2 (some .int) 0 := ⟨eT_in (i := 346) (by decide +kernel) rfl, eT_in (i := 47) (by decide +kernel) rfl, by decide +kernel, by decide +kernel, by decide +kernel⟩
theorem hiX10_clear : Cond.instanceMethod yX10_clear ∈ eT := eT_in (i := 344) (by decide +kernel) rfl
theorem hsX10_clear : Cond.selects RX10 yX10_clear yX10_clear ∈ eT := eT_in (i := 345) (by decide +kernel) rfl
theorem hwX10_land : eMw yX10_land cX10_land 2 (some .int) 0 := ⟨eT_in (i := 354) (by decide +kernel) rfl, eT_in (i := 47) (by decide +kernel) rfl, by decide +kernel, by decide +kernel, by decide +kernel⟩
theorem hiX10_land : Cond.instanceMethod yX10_land ∈ eT := eT_in (i := 352) (by decide +kernel) rfl
theorem hsX10_land : Cond.selects RX10 yX10_land yX10_land ∈ eT := eT_in (i := 353) (by decide +kernel) rfl
theorem hwX10_height : eMw yX10_height cX10_height 2 (some .int) 1 := ⟨eT_in (i := 457) (by decide +kernel) rfl, eT_in (i := 47) (by decide +kernel) rfl, by decide +kernel, by decide +kernel, by decide +kernel⟩
theorem hiX10_height : Cond.instanceMethod yX10_height ∈ eT := eT_in (i := 455) (by decide +kernel) rfl
theorem hsX10_height : Cond.selects RX10 yX10_height yX10_height ∈ eT := eT_in (i := 456) (by decide +kernel) rfl
theorem hwX10_town : eMw yX10_town cX10_town 2 (some .int) 1 := ⟨eT_in (i := 470) (by decide +kernel) rfl, eT_in (i := 47) (by decide +kernel) rfl, by decide +kernel, by decide +kernel, by decide +kernel⟩
theorem hiX10_town : Cond.instanceMethod yX10_town ∈ eT := eT_in (i := 468) (by decide +kernel) rfl
theorem hsX10_town : Cond.selects RX10 yX10_town yX10_town ∈ eT := eT_in (i := 469) (by decide +kernel) rfl
theorem hwX10_bolt : eMw yX10_bolt cX10_bolt 3 (some .int) 2 := ⟨eT_in (i := 479) (by decide +kernel) rfl, eT_in (i := 47) (by decide +kernel) rfl, by decide +kernel, by decide +kernel, by decide +kernel⟩
theorem hiX10_bolt : Cond.instanceMethod yX10_bolt ∈ eT := eT_in (i := 477) (by decide +kernel) rfl
theorem hsX10_bolt : Cond.selects RX10 yX10_bolt yX10_bolt ∈ eT := eT_in (i := 478) (by decide +kernel) rfl
theorem hwX10_card : eMw yX10_card cX10_card 3 (some .int) 2 := ⟨eT_in (i := 530) (by decide +kernel) rfl, eT_in (i := 47) (by decide +kernel) rfl, by decide +kernel, by decide +kernel, by decide +kernel⟩
theorem hiX10_card : Cond.instanceMethod yX10_card ∈ eT := eT_in (i := 528) (by decide +kernel) rfl
theorem hsX10_card : Cond.selects RX10 yX10_card yX10_card ∈ eT := eT_in (i := 529) (by decide +kernel) rfl
theorem hwX10_road : eMw yX10_road cX10_road 3 (some .int) 2 := ⟨eT_in (i := 535) (by decide +kernel) rfl, eT_in (i := 47) (by decide +kernel) rfl, by decide +kernel, by decide +kernel, by decide +kernel⟩
theorem hiX10_road : Cond.instanceMethod yX10_road ∈ eT := eT_in (i := 533) (by decide +kernel) rfl
theorem hsX10_road : Cond.selects RX10 yX10_road yX10_road ∈ eT := eT_in (i := 534) (by decide +kernel) rfl
theorem hwX10_now : eMw yX10_now cX10_now 2 (some .int) 1 := ⟨eT_in (i := 566) (by decide +kernel) rfl, eT_in (i := 47) (by decide +kernel) rfl, by decide +kernel, by decide +kernel, by decide +kernel⟩
theorem hiX10_now : Cond.instanceMethod yX10_now ∈ eT := eT_in (i := 564) (by decide +kernel) rfl
theorem hsX10_now : Cond.selects RX10 yX10_now yX10_now ∈ eT := eT_in (i := 565) (by decide +kernel) rfl
theorem hwX10_begins : eMw yX10_begins cX10_begins 2 (some .int) 1 := ⟨eT_in (i := 622) (by decide +kernel) rfl, eT_in (i := 47) (by decide +kernel) rfl, by decide +kernel, by decide +kernel, by decide +kernel⟩
theorem hiX10_begins : Cond.instanceMethod yX10_begins ∈ eT := eT_in (i := 620) (by decide +kernel) rfl
theorem hsX10_begins : Cond.selects RX10 yX10_begins yX10_begins ∈ eT := eT_in (i := 621) (by decide +kernel) rfl
theorem hwX10_weaves : eMw yX10_weaves cX10_weaves 4 (some .int) 2 := ⟨eT_in (i := 639) (by decide +kernel) rfl, eT_in (i := 47) (by decide +kernel) rfl, by decide +kernel, by decide +kernel, by decide +kernel⟩
theorem hiX10_weaves : Cond.instanceMethod yX10_weaves ∈ eT := eT_in (i := 637) (by decide +kernel) rfl
theorem hsX10_weaves : Cond.selects RX10 yX10_weaves yX10_weaves ∈ eT := eT_in (i := 638) (by decide +kernel) rfl
theorem hwX10_turnAbout : eMw yX10_turnAbout cX10_turnAbout 2 (some .int) 1 := ⟨eT_in (i := 654) (by decide +kernel) rfl, eT_in (i := 47) (by decide +kernel) rfl, by decide +kernel, by decide +kernel, by decide +kernel⟩
theorem hiX10_turnAbout : Cond.instanceMethod yX10_turnAbout ∈ eT := eT_in (i := 652) (by decide +kernel) rfl
theorem hsX10_turnAbout : Cond.selects RX10 yX10_turnAbout yX10_turnAbout ∈ eT := eT_in (i := 653) (by decide +kernel) rfl
theorem hwX10_rain : eMw yX10_rain cX10_rain 1 (some .int) 0 := ⟨eT_in (i := 666) (by decide +kernel) rfl, eT_in (i := 47) (by decide +kernel) rfl, by decide +kernel, by decide +kernel, by decide +kernel⟩
theorem hiX10_rain : Cond.instanceMethod yX10_rain ∈ eT := eT_in (i := 664) (by decide +kernel) rfl
theorem hsX10_rain : Cond.selects RX10 yX10_rain yX10_rain ∈ eT := eT_in (i := 665) (by decide +kernel) rfl
theorem hwX10_undo : eMw yX10_undo cX10_undo 1 (some .int) 0 := ⟨eT_in (i := 674) (by decide +kernel) rfl, eT_in (i := 47) (by decide +kernel) rfl, by decide +kernel, by decide +kernel, by decide +kernel⟩
theorem hiX10_undo : Cond.instanceMethod yX10_undo ∈ eT := eT_in (i := 672) (by decide +kernel) rfl
theorem hsX10_undo : Cond.selects RX10 yX10_undo yX10_undo ∈ eT := eT_in (i := 673) (by decide +kernel) rfl
theorem hwX10_joined : eMw yX10_joined cX10_joined 3 (some .int) 2 := ⟨eT_in (i := 686) (by decide +kernel) rfl, eT_in (i := 47) (by decide +kernel) rfl, by decide +kernel, by decide +kernel, by decide +kernel⟩
theorem hiX10_joined : Cond.instanceMethod yX10_joined ∈ eT := eT_in (i := 684) (by decide +kernel) rfl
theorem hsX10_joined : Cond.selects RX10 yX10_joined yX10_joined ∈ eT := eT_in (i := 685) (by decide +kernel) rfl
theorem hwX10_toWeave : eMw yX10_toWeave cX10_toWeave 1 (some .int) 0 := ⟨eT_in (i := 692) (by decide +kernel) rfl, eT_in (i := 47) (by decide +kernel) rfl, by decide +kernel, by decide +kernel, by decide +kernel⟩
theorem hiX10_toWeave : Cond.instanceMethod yX10_toWeave ∈ eT := eT_in (i := 690) (by decide +kernel) rfl
theorem hsX10_toWeave : Cond.selects RX10 yX10_toWeave yX10_toWeave ∈ eT := eT_in (i := 691) (by decide +kernel) rfl
theorem hwX10_way : eMw yX10_way cX10_way 3 (some .int) 2 := ⟨eT_in (i := 728) (by decide +kernel) rfl, eT_in (i := 47) (by decide +kernel) rfl, by decide +kernel, by decide +kernel, by decide +kernel⟩
theorem hiX10_way : Cond.instanceMethod yX10_way ∈ eT := eT_in (i := 726) (by decide +kernel) rfl
theorem hsX10_way : Cond.selects RX10 yX10_way yX10_way ∈ eT := eT_in (i := 727) (by decide +kernel) rfl
theorem hwX10_darners : eMw yX10_darners cX10_darners 2 (some .int) 1 := ⟨eT_in (i := 753) (by decide +kernel) rfl, eT_in (i := 47) (by decide +kernel) rfl, by decide +kernel, by decide +kernel, by decide +kernel⟩
theorem hiX10_darners : Cond.instanceMethod yX10_darners ∈ eT := eT_in (i := 751) (by decide +kernel) rfl
theorem hsX10_darners : Cond.selects RX10 yX10_darners yX10_darners ∈ eT := eT_in (i := 752) (by decide +kernel) rfl
theorem hwX10_odds : eMw yX10_odds cX10_odds 8 (some .int) 3 := ⟨eT_in (i := 763) (by decide +kernel) rfl, eT_in (i := 47) (by decide +kernel) rfl, by decide +kernel, by decide +kernel, by decide +kernel⟩
theorem hiX10_odds : Cond.instanceMethod yX10_odds ∈ eT := eT_in (i := 761) (by decide +kernel) rfl
theorem hsX10_odds : Cond.selects RX10 yX10_odds yX10_odds ∈ eT := eT_in (i := 762) (by decide +kernel) rfl
theorem hwX10_wrong : eMw yX10_wrong cX10_wrong 8 (some .int) 3 := ⟨eT_in (i := 793) (by decide +kernel) rfl, eT_in (i := 47) (by decide +kernel) rfl, by decide +kernel, by decide +kernel, by decide +kernel⟩
theorem hiX10_wrong : Cond.instanceMethod yX10_wrong ∈ eT := eT_in (i := 791) (by decide +kernel) rfl
theorem hsX10_wrong : Cond.selects RX10 yX10_wrong yX10_wrong ∈ eT := eT_in (i := 792) (by decide +kernel) rfl
theorem hwX10_look : eMw yX10_look cX10_look 6 (some .int) 2 := ⟨eT_in (i := 802) (by decide +kernel) rfl, eT_in (i := 47) (by decide +kernel) rfl, by decide +kernel, by decide +kernel, by decide +kernel⟩
theorem hiX10_look : Cond.instanceMethod yX10_look ∈ eT := eT_in (i := 800) (by decide +kernel) rfl
theorem hsX10_look : Cond.selects RX10 yX10_look yX10_look ∈ eT := eT_in (i := 801) (by decide +kernel) rfl
theorem hwX10_rate : eMw yX10_rate cX10_rate 3 (some .int) 2 := ⟨eT_in (i := 808) (by decide +kernel) rfl, eT_in (i := 47) (by decide +kernel) rfl, by decide +kernel, by decide +kernel, by decide +kernel⟩
theorem hiX10_rate : Cond.instanceMethod yX10_rate ∈ eT := eT_in (i := 806) (by decide +kernel) rfl
theorem hsX10_rate : Cond.selects RX10 yX10_rate yX10_rate ∈ eT := eT_in (i := 807) (by decide +kernel) rfl
theorem hwX10_keep : eMw yX10_keep cX10_keep 2 (some .int) 1 := ⟨eT_in (i := 850) (by decide +kernel) rfl, eT_in (i := 47) (by decide +kernel) rfl, by decide +kernel, by decide +kernel, by decide +kernel⟩
theorem hiX10_keep : Cond.instanceMethod yX10_keep ∈ eT := eT_in (i := 848) (by decide +kernel) rfl
theorem hsX10_keep : Cond.selects RX10 yX10_keep yX10_keep ∈ eT := eT_in (i := 849) (by decide +kernel) rfl
theorem hwX10_back : eMw yX10_back cX10_back 2 (some .int) 1 := ⟨eT_in (i := 858) (by decide +kernel) rfl, eT_in (i := 47) (by decide +kernel) rfl, by decide +kernel, by decide +kernel, by decide +kernel⟩
theorem hiX10_back : Cond.instanceMethod yX10_back ∈ eT := eT_in (i := 856) (by decide +kernel) rfl
theorem hsX10_back : Cond.selects RX10 yX10_back yX10_back ∈ eT := eT_in (i := 857) (by decide +kernel) rfl
theorem hwX10_count : eMw yX10_count cX10_count 2 (some .int) 1 := ⟨eT_in (i := 863) (by decide +kernel) rfl, eT_in (i := 47) (by decide +kernel) rfl, by decide +kernel, by decide +kernel, by decide +kernel⟩
theorem hiX10_count : Cond.instanceMethod yX10_count ∈ eT := eT_in (i := 861) (by decide +kernel) rfl
theorem hsX10_count : Cond.selects RX10 yX10_count yX10_count ∈ eT := eT_in (i := 862) (by decide +kernel) rfl
theorem hwX10_trace : eMw yX10_trace cX10_trace 1 (some .long) 0 := ⟨eT_in (i := 873) (by decide +kernel) rfl, eT_in (i := 47) (by decide +kernel) rfl, by decide +kernel, by decide +kernel, by decide +kernel⟩
theorem hiX10_trace : Cond.instanceMethod yX10_trace ∈ eT := eT_in (i := 871) (by decide +kernel) rfl
theorem hsX10_trace : Cond.selects RX10 yX10_trace yX10_trace ∈ eT := eT_in (i := 872) (by decide +kernel) rfl
theorem hwX10_isCard : eMw yX10_isCard cX10_isCard 1 (some .boolean) 1 := ⟨eT_in (i := 538) (by decide +kernel) rfl, eT_in (i := 47) (by decide +kernel) rfl, by decide +kernel, by decide +kernel, by decide +kernel⟩
theorem htX10_isCard : Cond.static yX10_isCard ∈ eT := eT_in (i := 537) (by decide +kernel) rfl
theorem hwX10_isImage : eMw yX10_isImage cX10_isImage 1 (some .boolean) 1 := ⟨eT_in (i := 853) (by decide +kernel) rfl, eT_in (i := 47) (by decide +kernel) rfl, by decide +kernel, by decide +kernel, by decide +kernel⟩
theorem htX10_isImage : Cond.static yX10_isImage ∈ eT := eT_in (i := 852) (by decide +kernel) rfl
theorem hwX10_bit : eMw yX10_bit cX10_bit 1 (some .int) 1 := ⟨eT_in (i := 238) (by decide +kernel) rfl, eT_in (i := 47) (by decide +kernel) rfl, by decide +kernel, by decide +kernel, by decide +kernel⟩
theorem htX10_bit : Cond.static yX10_bit ∈ eT := eT_in (i := 237) (by decide +kernel) rfl
theorem hwX10_commonDivisor : eMw yX10_commonDivisor cX10_commonDivisor 6 (some .int) 2 := ⟨eT_in (i := 789) (by decide +kernel) rfl, eT_in (i := 47) (by decide +kernel) rfl, by decide +kernel, by decide +kernel, by decide +kernel⟩
theorem htX10_commonDivisor : Cond.static yX10_commonDivisor ∈ eT := eT_in (i := 788) (by decide +kernel) rfl
theorem hwX11_init : eMw yX11_init cX11_init 1 none 0 := ⟨eT_in (i := 882) (by decide +kernel) rfl, eT_in (i := 59) (by decide +kernel) rfl, by decide +kernel, by decide +kernel, by decide +kernel⟩
theorem hiX11_init : Cond.instanceMethod yX11_init ∈ eT := eT_in (i := 881) (by decide +kernel) rfl
theorem hwX11_in : eMw yX11_in cX11_in 3 (some .boolean) 3 := ⟨eT_in (i := 961) (by decide +kernel) rfl, eT_in (i := 59) (by decide +kernel) rfl, by decide +kernel, by decide +kernel, by decide +kernel⟩
theorem htX11_in : Cond.static yX11_in ∈ eT := eT_in (i := 960) (by decide +kernel) rfl
theorem hwX11_ones : eMw yX11_ones cX11_ones 3 (some .int) 1 := ⟨eT_in (i := 1158) (by decide +kernel) rfl, eT_in (i := 59) (by decide +kernel) rfl, by decide +kernel, by decide +kernel, by decide +kernel⟩
theorem htX11_ones : Cond.static yX11_ones ∈ eT := eT_in (i := 1157) (by decide +kernel) rfl
theorem hwX11_type : eMw yX11_type cX11_type 2 (some .int) 1 := ⟨eT_in (i := 958) (by decide +kernel) rfl, eT_in (i := 59) (by decide +kernel) rfl, by decide +kernel, by decide +kernel, by decide +kernel⟩
theorem hiX11_type : Cond.instanceMethod yX11_type ∈ eT := eT_in (i := 956) (by decide +kernel) rfl
theorem hsX11_type : Cond.selects RX11 yX11_type yX11_type ∈ eT := eT_in (i := 957) (by decide +kernel) rfl
theorem hwX11_clear : eMw yX11_clear cX11_clear 2 (some .int) 0 := ⟨eT_in (i := 965) (by decide +kernel) rfl, eT_in (i := 59) (by decide +kernel) rfl, by decide +kernel, by decide +kernel, by decide +kernel⟩
theorem hiX11_clear : Cond.instanceMethod yX11_clear ∈ eT := eT_in (i := 963) (by decide +kernel) rfl
theorem hsX11_clear : Cond.selects RX11 yX11_clear yX11_clear ∈ eT := eT_in (i := 964) (by decide +kernel) rfl
theorem hwX11_letterAt : eMw yX11_letterAt cX11_letterAt 2 (some .int) 1 := ⟨eT_in (i := 977) (by decide +kernel) rfl, eT_in (i := 59) (by decide +kernel) rfl, by decide +kernel, by decide +kernel, by decide +kernel⟩
theorem hiX11_letterAt : Cond.instanceMethod yX11_letterAt ∈ eT := eT_in (i := 976) (by decide +kernel) rfl
theorem hsX11_letterAt : Cond.selects RX11 yX11_letterAt yX11_letterAt ∈ eT := eT_in (i := 15) (by decide +kernel) rfl
theorem hwX11_advances : eMw yX11_advances cX11_advances 2 none 0 := ⟨eT_in (i := 973) (by decide +kernel) rfl, eT_in (i := 59) (by decide +kernel) rfl, by decide +kernel, by decide +kernel, by decide +kernel⟩
theorem hiX11_advances : Cond.instanceMethod yX11_advances ∈ eT := eT_in (i := 972) (by decide +kernel) rfl
theorem hsX11_advances : Cond.selects RX11 yX11_advances yX11_advances ∈ eT := eT_in (i := 14) (by decide +kernel) rfl
theorem hwX11_isWell : eMw yX11_isWell cX11_isWell 1 (some .boolean) 0 := ⟨eT_in (i := 981) (by decide +kernel) rfl, eT_in (i := 59) (by decide +kernel) rfl, by decide +kernel, by decide +kernel, by decide +kernel⟩
theorem hiX11_isWell : Cond.instanceMethod yX11_isWell ∈ eT := eT_in (i := 980) (by decide +kernel) rfl
theorem hsX11_isWell : Cond.selects RX11 yX11_isWell yX11_isWell ∈ eT := eT_in (i := 16) (by decide +kernel) rfl
theorem hwX11_takes : eMw yX11_takes cX11_takes 3 (some .int) 1 := ⟨eT_in (i := 989) (by decide +kernel) rfl, eT_in (i := 59) (by decide +kernel) rfl, by decide +kernel, by decide +kernel, by decide +kernel⟩
theorem hiX11_takes : Cond.instanceMethod yX11_takes ∈ eT := eT_in (i := 988) (by decide +kernel) rfl
theorem hsX11_takes : Cond.selects RX11 yX11_takes yX11_takes ∈ eT := eT_in (i := 18) (by decide +kernel) rfl
theorem hwX11_number : eMw yX11_number cX11_number 3 (some .int) 2 := ⟨eT_in (i := 997) (by decide +kernel) rfl, eT_in (i := 59) (by decide +kernel) rfl, by decide +kernel, by decide +kernel, by decide +kernel⟩
theorem hiX11_number : Cond.instanceMethod yX11_number ∈ eT := eT_in (i := 996) (by decide +kernel) rfl
theorem hsX11_number : Cond.selects RX11 yX11_number yX11_number ∈ eT := eT_in (i := 20) (by decide +kernel) rfl
theorem hwX11_isTaken : eMw yX11_isTaken cX11_isTaken 4 (some .boolean) 1 := ⟨eT_in (i := 1001) (by decide +kernel) rfl, eT_in (i := 59) (by decide +kernel) rfl, by decide +kernel, by decide +kernel, by decide +kernel⟩
theorem hiX11_isTaken : Cond.instanceMethod yX11_isTaken ∈ eT := eT_in (i := 1000) (by decide +kernel) rfl
theorem hsX11_isTaken : Cond.selects RX11 yX11_isTaken yX11_isTaken ∈ eT := eT_in (i := 21) (by decide +kernel) rfl
theorem hwX11_mayBegin : eMw yX11_mayBegin cX11_mayBegin 2 (some .boolean) 1 := ⟨eT_in (i := 985) (by decide +kernel) rfl, eT_in (i := 59) (by decide +kernel) rfl, by decide +kernel, by decide +kernel, by decide +kernel⟩
theorem hiX11_mayBegin : Cond.instanceMethod yX11_mayBegin ∈ eT := eT_in (i := 984) (by decide +kernel) rfl
theorem hsX11_mayBegin : Cond.selects RX11 yX11_mayBegin yX11_mayBegin ∈ eT := eT_in (i := 17) (by decide +kernel) rfl
theorem hwX11_readsItem : eMw yX11_readsItem cX11_readsItem 4 none 1 := ⟨eT_in (i := 993) (by decide +kernel) rfl, eT_in (i := 59) (by decide +kernel) rfl, by decide +kernel, by decide +kernel, by decide +kernel⟩
theorem hiX11_readsItem : Cond.instanceMethod yX11_readsItem ∈ eT := eT_in (i := 992) (by decide +kernel) rfl
theorem hsX11_readsItem : Cond.selects RX11 yX11_readsItem yX11_readsItem ∈ eT := eT_in (i := 19) (by decide +kernel) rfl
theorem hwX11_land : eMw yX11_land cX11_land 3 (some .int) 0 := ⟨eT_in (i := 969) (by decide +kernel) rfl, eT_in (i := 59) (by decide +kernel) rfl, by decide +kernel, by decide +kernel, by decide +kernel⟩
theorem hiX11_land : Cond.instanceMethod yX11_land ∈ eT := eT_in (i := 967) (by decide +kernel) rfl
theorem hsX11_land : Cond.selects RX11 yX11_land yX11_land ∈ eT := eT_in (i := 968) (by decide +kernel) rfl
theorem hwX11_settles : eMw yX11_settles cX11_settles 2 none 0 := ⟨eT_in (i := 1005) (by decide +kernel) rfl, eT_in (i := 59) (by decide +kernel) rfl, by decide +kernel, by decide +kernel, by decide +kernel⟩
theorem hiX11_settles : Cond.instanceMethod yX11_settles ∈ eT := eT_in (i := 1004) (by decide +kernel) rfl
theorem hsX11_settles : Cond.selects RX11 yX11_settles yX11_settles ∈ eT := eT_in (i := 22) (by decide +kernel) rfl
theorem hwX11_cells : eMw yX11_cells cX11_cells 1 (some .int) 0 := ⟨eT_in (i := 1017) (by decide +kernel) rfl, eT_in (i := 59) (by decide +kernel) rfl, by decide +kernel, by decide +kernel, by decide +kernel⟩
theorem hiX11_cells : Cond.instanceMethod yX11_cells ∈ eT := eT_in (i := 1016) (by decide +kernel) rfl
theorem hsX11_cells : Cond.selects RX11 yX11_cells yX11_cells ∈ eT := eT_in (i := 24) (by decide +kernel) rfl
theorem hwX11_isCell : eMw yX11_isCell cX11_isCell 2 (some .boolean) 1 := ⟨eT_in (i := 1013) (by decide +kernel) rfl, eT_in (i := 59) (by decide +kernel) rfl, by decide +kernel, by decide +kernel, by decide +kernel⟩
theorem hiX11_isCell : Cond.instanceMethod yX11_isCell ∈ eT := eT_in (i := 1012) (by decide +kernel) rfl
theorem hsX11_isCell : Cond.selects RX11 yX11_isCell yX11_isCell ∈ eT := eT_in (i := 23) (by decide +kernel) rfl
theorem hwX11_isBolt : eMw yX11_isBolt cX11_isBolt 2 (some .boolean) 1 := ⟨eT_in (i := 1029) (by decide +kernel) rfl, eT_in (i := 59) (by decide +kernel) rfl, by decide +kernel, by decide +kernel, by decide +kernel⟩
theorem hiX11_isBolt : Cond.instanceMethod yX11_isBolt ∈ eT := eT_in (i := 1028) (by decide +kernel) rfl
theorem hsX11_isBolt : Cond.selects RX11 yX11_isBolt yX11_isBolt ∈ eT := eT_in (i := 25) (by decide +kernel) rfl
theorem hwX11_height : eMw yX11_height cX11_height 2 (some .int) 1 := ⟨eT_in (i := 1009) (by decide +kernel) rfl, eT_in (i := 59) (by decide +kernel) rfl, by decide +kernel, by decide +kernel, by decide +kernel⟩
theorem hiX11_height : Cond.instanceMethod yX11_height ∈ eT := eT_in (i := 1007) (by decide +kernel) rfl
theorem hsX11_height : Cond.selects RX11 yX11_height yX11_height ∈ eT := eT_in (i := 1008) (by decide +kernel) rfl
theorem hwX11_town : eMw yX11_town cX11_town 2 (some .int) 1 := ⟨eT_in (i := 1021) (by decide +kernel) rfl, eT_in (i := 59) (by decide +kernel) rfl, by decide +kernel, by decide +kernel, by decide +kernel⟩
theorem hiX11_town : Cond.instanceMethod yX11_town ∈ eT := eT_in (i := 1019) (by decide +kernel) rfl
theorem hsX11_town : Cond.selects RX11 yX11_town yX11_town ∈ eT := eT_in (i := 1020) (by decide +kernel) rfl
theorem hwX11_leads : eMw yX11_leads cX11_leads 5 (some .int) 2 := ⟨eT_in (i := 1050) (by decide +kernel) rfl, eT_in (i := 59) (by decide +kernel) rfl, by decide +kernel, by decide +kernel, by decide +kernel⟩
theorem hiX11_leads : Cond.instanceMethod yX11_leads ∈ eT := eT_in (i := 1049) (by decide +kernel) rfl
theorem hsX11_leads : Cond.selects RX11 yX11_leads yX11_leads ∈ eT := eT_in (i := 28) (by decide +kernel) rfl
theorem hwX11_step : eMw yX11_step cX11_step 3 (some .int) 2 := ⟨eT_in (i := 1099) (by decide +kernel) rfl, eT_in (i := 59) (by decide +kernel) rfl, by decide +kernel, by decide +kernel, by decide +kernel⟩
theorem hiX11_step : Cond.instanceMethod yX11_step ∈ eT := eT_in (i := 1098) (by decide +kernel) rfl
theorem hsX11_step : Cond.selects RX11 yX11_step yX11_step ∈ eT := eT_in (i := 37) (by decide +kernel) rfl
theorem hwX11_goes : eMw yX11_goes cX11_goes 4 (some .int) 2 := ⟨eT_in (i := 1123) (by decide +kernel) rfl, eT_in (i := 59) (by decide +kernel) rfl, by decide +kernel, by decide +kernel, by decide +kernel⟩
theorem hiX11_goes : Cond.instanceMethod yX11_goes ∈ eT := eT_in (i := 1122) (by decide +kernel) rfl
theorem hsX11_goes : Cond.selects RX11 yX11_goes yX11_goes ∈ eT := eT_in (i := 41) (by decide +kernel) rfl
theorem hwX11_firstOf : eMw yX11_firstOf cX11_firstOf 2 (some .int) 2 := ⟨eT_in (i := 1032) (by decide +kernel) rfl, eT_in (i := 59) (by decide +kernel) rfl, by decide +kernel, by decide +kernel, by decide +kernel⟩
theorem htX11_firstOf : Cond.static yX11_firstOf ∈ eT := eT_in (i := 1031) (by decide +kernel) rfl
theorem hwX11_cardsOf : eMw yX11_cardsOf cX11_cardsOf 2 (some .int) 2 := ⟨eT_in (i := 1039) (by decide +kernel) rfl, eT_in (i := 59) (by decide +kernel) rfl, by decide +kernel, by decide +kernel, by decide +kernel⟩
theorem htX11_cardsOf : Cond.static yX11_cardsOf ∈ eT := eT_in (i := 1038) (by decide +kernel) rfl
theorem hwX11_cardAt : eMw yX11_cardAt cX11_cardAt 3 (some .int) 3 := ⟨eT_in (i := 1046) (by decide +kernel) rfl, eT_in (i := 59) (by decide +kernel) rfl, by decide +kernel, by decide +kernel, by decide +kernel⟩
theorem htX11_cardAt : Cond.static yX11_cardAt ∈ eT := eT_in (i := 1045) (by decide +kernel) rfl
theorem hwX11_behind : eMw yX11_behind cX11_behind 6 (some .int) 3 := ⟨eT_in (i := 1043) (by decide +kernel) rfl, eT_in (i := 59) (by decide +kernel) rfl, by decide +kernel, by decide +kernel, by decide +kernel⟩
theorem hiX11_behind : Cond.instanceMethod yX11_behind ∈ eT := eT_in (i := 1042) (by decide +kernel) rfl
theorem hsX11_behind : Cond.selects RX11 yX11_behind yX11_behind ∈ eT := eT_in (i := 27) (by decide +kernel) rfl
theorem hwX11_endOf : eMw yX11_endOf cX11_endOf 3 (some .int) 2 := ⟨eT_in (i := 1036) (by decide +kernel) rfl, eT_in (i := 59) (by decide +kernel) rfl, by decide +kernel, by decide +kernel, by decide +kernel⟩
theorem hiX11_endOf : Cond.instanceMethod yX11_endOf ∈ eT := eT_in (i := 1035) (by decide +kernel) rfl
theorem hsX11_endOf : Cond.selects RX11 yX11_endOf yX11_endOf ∈ eT := eT_in (i := 26) (by decide +kernel) rfl
theorem hwX11_upOf : eMw yX11_upOf cX11_upOf 6 (some .int) 1 := ⟨eT_in (i := 1054) (by decide +kernel) rfl, eT_in (i := 59) (by decide +kernel) rfl, by decide +kernel, by decide +kernel, by decide +kernel⟩
theorem hiX11_upOf : Cond.instanceMethod yX11_upOf ∈ eT := eT_in (i := 1053) (by decide +kernel) rfl
theorem hsX11_upOf : Cond.selects RX11 yX11_upOf yX11_upOf ∈ eT := eT_in (i := 29) (by decide +kernel) rfl
theorem hwX11_bolt : eMw yX11_bolt cX11_bolt 3 (some .int) 2 := ⟨eT_in (i := 1025) (by decide +kernel) rfl, eT_in (i := 59) (by decide +kernel) rfl, by decide +kernel, by decide +kernel, by decide +kernel⟩
theorem hiX11_bolt : Cond.instanceMethod yX11_bolt ∈ eT := eT_in (i := 1023) (by decide +kernel) rfl
theorem hsX11_bolt : Cond.selects RX11 yX11_bolt yX11_bolt ∈ eT := eT_in (i := 1024) (by decide +kernel) rfl
theorem hwX11_card : eMw yX11_card cX11_card 3 (some .int) 2 := ⟨eT_in (i := 1058) (by decide +kernel) rfl, eT_in (i := 59) (by decide +kernel) rfl, by decide +kernel, by decide +kernel, by decide +kernel⟩
theorem hiX11_card : Cond.instanceMethod yX11_card ∈ eT := eT_in (i := 1056) (by decide +kernel) rfl
theorem hsX11_card : Cond.selects RX11 yX11_card yX11_card ∈ eT := eT_in (i := 1057) (by decide +kernel) rfl
theorem hwX11_builds : eMw yX11_builds cX11_builds 7 none 1 := ⟨eT_in (i := 1066) (by decide +kernel) rfl, eT_in (i := 59) (by decide +kernel) rfl, by decide +kernel, by decide +kernel, by decide +kernel⟩
theorem hiX11_builds : Cond.instanceMethod yX11_builds ∈ eT := eT_in (i := 1065) (by decide +kernel) rfl
theorem hsX11_builds : Cond.selects RX11 yX11_builds yX11_builds ∈ eT := eT_in (i := 30) (by decide +kernel) rfl
theorem hwX11_road : eMw yX11_road cX11_road 3 (some .int) 2 := ⟨eT_in (i := 1062) (by decide +kernel) rfl, eT_in (i := 59) (by decide +kernel) rfl, by decide +kernel, by decide +kernel, by decide +kernel⟩
theorem hiX11_road : Cond.instanceMethod yX11_road ∈ eT := eT_in (i := 1060) (by decide +kernel) rfl
theorem hsX11_road : Cond.selects RX11 yX11_road yX11_road ∈ eT := eT_in (i := 1061) (by decide +kernel) rfl
theorem hwX11_spreads : eMw yX11_spreads cX11_spreads 7 none 1 := ⟨eT_in (i := 1082) (by decide +kernel) rfl, eT_in (i := 59) (by decide +kernel) rfl, by decide +kernel, by decide +kernel, by decide +kernel⟩
theorem hiX11_spreads : Cond.instanceMethod yX11_spreads ∈ eT := eT_in (i := 1081) (by decide +kernel) rfl
theorem hsX11_spreads : Cond.selects RX11 yX11_spreads yX11_spreads ∈ eT := eT_in (i := 33) (by decide +kernel) rfl
theorem hwX11_piecesOf : eMw yX11_piecesOf cX11_piecesOf 6 (some .int) 1 := ⟨eT_in (i := 1078) (by decide +kernel) rfl, eT_in (i := 59) (by decide +kernel) rfl, by decide +kernel, by decide +kernel, by decide +kernel⟩
theorem hiX11_piecesOf : Cond.instanceMethod yX11_piecesOf ∈ eT := eT_in (i := 1077) (by decide +kernel) rfl
theorem hsX11_piecesOf : Cond.selects RX11 yX11_piecesOf yX11_piecesOf ∈ eT := eT_in (i := 32) (by decide +kernel) rfl
theorem hwX11_isTown : eMw yX11_isTown cX11_isTown 4 (some .boolean) 1 := ⟨eT_in (i := 1091) (by decide +kernel) rfl, eT_in (i := 59) (by decide +kernel) rfl, by decide +kernel, by decide +kernel, by decide +kernel⟩
theorem hiX11_isTown : Cond.instanceMethod yX11_isTown ∈ eT := eT_in (i := 1090) (by decide +kernel) rfl
theorem hsX11_isTown : Cond.selects RX11 yX11_isTown yX11_isTown ∈ eT := eT_in (i := 35) (by decide +kernel) rfl
theorem hwX11_nowhere : eMw yX11_nowhere cX11_nowhere 5 (some .int) 0 := ⟨eT_in (i := 1087) (by decide +kernel) rfl, eT_in (i := 59) (by decide +kernel) rfl, by decide +kernel, by decide +kernel, by decide +kernel⟩
theorem hiX11_nowhere : Cond.instanceMethod yX11_nowhere ∈ eT := eT_in (i := 1086) (by decide +kernel) rfl
theorem hsX11_nowhere : Cond.selects RX11 yX11_nowhere yX11_nowhere ∈ eT := eT_in (i := 34) (by decide +kernel) rfl
theorem hwX11_steep : eMw yX11_steep cX11_steep 5 (some .int) 0 := ⟨eT_in (i := 1095) (by decide +kernel) rfl, eT_in (i := 59) (by decide +kernel) rfl, by decide +kernel, by decide +kernel, by decide +kernel⟩
theorem hiX11_steep : Cond.instanceMethod yX11_steep ∈ eT := eT_in (i := 1094) (by decide +kernel) rfl
theorem hsX11_steep : Cond.selects RX11 yX11_steep yX11_steep ∈ eT := eT_in (i := 36) (by decide +kernel) rfl
theorem hwX11_ells : eMw yX11_ells cX11_ells 3 (some .int) 0 := ⟨eT_in (i := 1074) (by decide +kernel) rfl, eT_in (i := 59) (by decide +kernel) rfl, by decide +kernel, by decide +kernel, by decide +kernel⟩
theorem hiX11_ells : Cond.instanceMethod yX11_ells ∈ eT := eT_in (i := 1073) (by decide +kernel) rfl
theorem hsX11_ells : Cond.selects RX11 yX11_ells yX11_ells ∈ eT := eT_in (i := 31) (by decide +kernel) rfl
theorem hwX11_couldBe : eMw yX11_couldBe cX11_couldBe 5 (some .boolean) 1 := ⟨eT_in (i := 1107) (by decide +kernel) rfl, eT_in (i := 59) (by decide +kernel) rfl, by decide +kernel, by decide +kernel, by decide +kernel⟩
theorem hiX11_couldBe : Cond.instanceMethod yX11_couldBe ∈ eT := eT_in (i := 1106) (by decide +kernel) rfl
theorem hsX11_couldBe : Cond.selects RX11 yX11_couldBe yX11_couldBe ∈ eT := eT_in (i := 39) (by decide +kernel) rfl
theorem hwX11_leastSlope : eMw yX11_leastSlope cX11_leastSlope 2 (some .int) 0 := ⟨eT_in (i := 1103) (by decide +kernel) rfl, eT_in (i := 59) (by decide +kernel) rfl, by decide +kernel, by decide +kernel, by decide +kernel⟩
theorem hiX11_leastSlope : Cond.instanceMethod yX11_leastSlope ∈ eT := eT_in (i := 1102) (by decide +kernel) rfl
theorem hsX11_leastSlope : Cond.selects RX11 yX11_leastSlope yX11_leastSlope ∈ eT := eT_in (i := 38) (by decide +kernel) rfl
theorem hwX11_now : eMw yX11_now cX11_now 2 (some .int) 1 := ⟨eT_in (i := 1070) (by decide +kernel) rfl, eT_in (i := 59) (by decide +kernel) rfl, by decide +kernel, by decide +kernel, by decide +kernel⟩
theorem hiX11_now : Cond.instanceMethod yX11_now ∈ eT := eT_in (i := 1068) (by decide +kernel) rfl
theorem hsX11_now : Cond.selects RX11 yX11_now yX11_now ∈ eT := eT_in (i := 1069) (by decide +kernel) rfl
theorem hwX11_notes : eMw yX11_notes cX11_notes 2 none 0 := ⟨eT_in (i := 1115) (by decide +kernel) rfl, eT_in (i := 59) (by decide +kernel) rfl, by decide +kernel, by decide +kernel, by decide +kernel⟩
theorem hiX11_notes : Cond.instanceMethod yX11_notes ∈ eT := eT_in (i := 1114) (by decide +kernel) rfl
theorem hsX11_notes : Cond.selects RX11 yX11_notes yX11_notes ∈ eT := eT_in (i := 40) (by decide +kernel) rfl
theorem hwX11_begins : eMw yX11_begins cX11_begins 3 (some .int) 1 := ⟨eT_in (i := 1111) (by decide +kernel) rfl, eT_in (i := 59) (by decide +kernel) rfl, by decide +kernel, by decide +kernel, by decide +kernel⟩
theorem hiX11_begins : Cond.instanceMethod yX11_begins ∈ eT := eT_in (i := 1109) (by decide +kernel) rfl
theorem hsX11_begins : Cond.selects RX11 yX11_begins yX11_begins ∈ eT := eT_in (i := 1110) (by decide +kernel) rfl
theorem hwX11_weaves : eMw yX11_weaves cX11_weaves 4 (some .int) 2 := ⟨eT_in (i := 1119) (by decide +kernel) rfl, eT_in (i := 59) (by decide +kernel) rfl, by decide +kernel, by decide +kernel, by decide +kernel⟩
theorem hiX11_weaves : Cond.instanceMethod yX11_weaves ∈ eT := eT_in (i := 1117) (by decide +kernel) rfl
theorem hsX11_weaves : Cond.selects RX11 yX11_weaves yX11_weaves ∈ eT := eT_in (i := 1118) (by decide +kernel) rfl
theorem hwX11_turnAbout : eMw yX11_turnAbout cX11_turnAbout 5 (some .int) 1 := ⟨eT_in (i := 1127) (by decide +kernel) rfl, eT_in (i := 59) (by decide +kernel) rfl, by decide +kernel, by decide +kernel, by decide +kernel⟩
theorem hiX11_turnAbout : Cond.instanceMethod yX11_turnAbout ∈ eT := eT_in (i := 1125) (by decide +kernel) rfl
theorem hsX11_turnAbout : Cond.selects RX11 yX11_turnAbout yX11_turnAbout ∈ eT := eT_in (i := 1126) (by decide +kernel) rfl
theorem hwX11_frays : eMw yX11_frays cX11_frays 4 (some .int) 1 := ⟨eT_in (i := 1135) (by decide +kernel) rfl, eT_in (i := 59) (by decide +kernel) rfl, by decide +kernel, by decide +kernel, by decide +kernel⟩
theorem hiX11_frays : Cond.instanceMethod yX11_frays ∈ eT := eT_in (i := 1134) (by decide +kernel) rfl
theorem hsX11_frays : Cond.selects RX11 yX11_frays yX11_frays ∈ eT := eT_in (i := 42) (by decide +kernel) rfl
theorem hwX11_rain : eMw yX11_rain cX11_rain 1 (some .int) 0 := ⟨eT_in (i := 1131) (by decide +kernel) rfl, eT_in (i := 59) (by decide +kernel) rfl, by decide +kernel, by decide +kernel, by decide +kernel⟩
theorem hiX11_rain : Cond.instanceMethod yX11_rain ∈ eT := eT_in (i := 1129) (by decide +kernel) rfl
theorem hsX11_rain : Cond.selects RX11 yX11_rain yX11_rain ∈ eT := eT_in (i := 1130) (by decide +kernel) rfl
theorem hwX11_undo : eMw yX11_undo cX11_undo 2 (some .int) 0 := ⟨eT_in (i := 1139) (by decide +kernel) rfl, eT_in (i := 59) (by decide +kernel) rfl, by decide +kernel, by decide +kernel, by decide +kernel⟩
theorem hiX11_undo : Cond.instanceMethod yX11_undo ∈ eT := eT_in (i := 1137) (by decide +kernel) rfl
theorem hsX11_undo : Cond.selects RX11 yX11_undo yX11_undo ∈ eT := eT_in (i := 1138) (by decide +kernel) rfl
theorem hwX11_joined : eMw yX11_joined cX11_joined 3 (some .int) 2 := ⟨eT_in (i := 1143) (by decide +kernel) rfl, eT_in (i := 59) (by decide +kernel) rfl, by decide +kernel, by decide +kernel, by decide +kernel⟩
theorem hiX11_joined : Cond.instanceMethod yX11_joined ∈ eT := eT_in (i := 1141) (by decide +kernel) rfl
theorem hsX11_joined : Cond.selects RX11 yX11_joined yX11_joined ∈ eT := eT_in (i := 1142) (by decide +kernel) rfl
theorem hwX11_grows : eMw yX11_grows cX11_grows 7 none 1 := ⟨eT_in (i := 1151) (by decide +kernel) rfl, eT_in (i := 59) (by decide +kernel) rfl, by decide +kernel, by decide +kernel, by decide +kernel⟩
theorem hiX11_grows : Cond.instanceMethod yX11_grows ∈ eT := eT_in (i := 1150) (by decide +kernel) rfl
theorem hsX11_grows : Cond.selects RX11 yX11_grows yX11_grows ∈ eT := eT_in (i := 43) (by decide +kernel) rfl
theorem hwX11_toWeave : eMw yX11_toWeave cX11_toWeave 5 (some .int) 0 := ⟨eT_in (i := 1147) (by decide +kernel) rfl, eT_in (i := 59) (by decide +kernel) rfl, by decide +kernel, by decide +kernel, by decide +kernel⟩
theorem hiX11_toWeave : Cond.instanceMethod yX11_toWeave ∈ eT := eT_in (i := 1145) (by decide +kernel) rfl
theorem hsX11_toWeave : Cond.selects RX11 yX11_toWeave yX11_toWeave ∈ eT := eT_in (i := 1146) (by decide +kernel) rfl
theorem hwX11_way : eMw yX11_way cX11_way 9 (some .int) 2 := ⟨eT_in (i := 1155) (by decide +kernel) rfl, eT_in (i := 59) (by decide +kernel) rfl, by decide +kernel, by decide +kernel, by decide +kernel⟩
theorem hiX11_way : Cond.instanceMethod yX11_way ∈ eT := eT_in (i := 1153) (by decide +kernel) rfl
theorem hsX11_way : Cond.selects RX11 yX11_way yX11_way ∈ eT := eT_in (i := 1154) (by decide +kernel) rfl
theorem hwX11_areNear : eMw yX11_areNear cX11_areNear 6 (some .boolean) 2 := ⟨eT_in (i := 1166) (by decide +kernel) rfl, eT_in (i := 59) (by decide +kernel) rfl, by decide +kernel, by decide +kernel, by decide +kernel⟩
theorem hiX11_areNear : Cond.instanceMethod yX11_areNear ∈ eT := eT_in (i := 1165) (by decide +kernel) rfl
theorem hsX11_areNear : Cond.selects RX11 yX11_areNear yX11_areNear ∈ eT := eT_in (i := 44) (by decide +kernel) rfl
theorem hwX11_darners : eMw yX11_darners cX11_darners 4 (some .int) 1 := ⟨eT_in (i := 1162) (by decide +kernel) rfl, eT_in (i := 59) (by decide +kernel) rfl, by decide +kernel, by decide +kernel, by decide +kernel⟩
theorem hiX11_darners : Cond.instanceMethod yX11_darners ∈ eT := eT_in (i := 1160) (by decide +kernel) rfl
theorem hsX11_darners : Cond.selects RX11 yX11_darners yX11_darners ∈ eT := eT_in (i := 1161) (by decide +kernel) rfl
theorem hwX11_power : eMw yX11_power cX11_power 4 (some .int) 2 := ⟨eT_in (i := 1176) (by decide +kernel) rfl, eT_in (i := 59) (by decide +kernel) rfl, by decide +kernel, by decide +kernel, by decide +kernel⟩
theorem htX11_power : Cond.static yX11_power ∈ eT := eT_in (i := 1175) (by decide +kernel) rfl
theorem hwX11_choose : eMw yX11_choose cX11_choose 4 (some .int) 2 := ⟨eT_in (i := 1173) (by decide +kernel) rfl, eT_in (i := 59) (by decide +kernel) rfl, by decide +kernel, by decide +kernel, by decide +kernel⟩
theorem htX11_choose : Cond.static yX11_choose ∈ eT := eT_in (i := 1172) (by decide +kernel) rfl
theorem hwX11_gcd : eMw yX11_gcd cX11_gcd 5 (some .int) 2 := ⟨eT_in (i := 1179) (by decide +kernel) rfl, eT_in (i := 59) (by decide +kernel) rfl, by decide +kernel, by decide +kernel, by decide +kernel⟩
theorem htX11_gcd : Cond.static yX11_gcd ∈ eT := eT_in (i := 1178) (by decide +kernel) rfl
theorem hwX11_odds : eMw yX11_odds cX11_odds 7 (some .int) 3 := ⟨eT_in (i := 1170) (by decide +kernel) rfl, eT_in (i := 59) (by decide +kernel) rfl, by decide +kernel, by decide +kernel, by decide +kernel⟩
theorem hiX11_odds : Cond.instanceMethod yX11_odds ∈ eT := eT_in (i := 1168) (by decide +kernel) rfl
theorem hsX11_odds : Cond.selects RX11 yX11_odds yX11_odds ∈ eT := eT_in (i := 1169) (by decide +kernel) rfl
theorem hwX11_otherwise : eMw yX11_otherwise cX11_otherwise 7 (some .int) 4 := ⟨eT_in (i := 1187) (by decide +kernel) rfl, eT_in (i := 59) (by decide +kernel) rfl, by decide +kernel, by decide +kernel, by decide +kernel⟩
theorem hiX11_otherwise : Cond.instanceMethod yX11_otherwise ∈ eT := eT_in (i := 1186) (by decide +kernel) rfl
theorem hsX11_otherwise : Cond.selects RX11 yX11_otherwise yX11_otherwise ∈ eT := eT_in (i := 45) (by decide +kernel) rfl
theorem hwX11_wrong : eMw yX11_wrong cX11_wrong 8 (some .int) 3 := ⟨eT_in (i := 1183) (by decide +kernel) rfl, eT_in (i := 59) (by decide +kernel) rfl, by decide +kernel, by decide +kernel, by decide +kernel⟩
theorem hiX11_wrong : Cond.instanceMethod yX11_wrong ∈ eT := eT_in (i := 1181) (by decide +kernel) rfl
theorem hsX11_wrong : Cond.selects RX11 yX11_wrong yX11_wrong ∈ eT := eT_in (i := 1182) (by decide +kernel) rfl
theorem hwX11_look : eMw yX11_look cX11_look 7 (some .int) 2 := ⟨eT_in (i := 1191) (by decide +kernel) rfl, eT_in (i := 59) (by decide +kernel) rfl, by decide +kernel, by decide +kernel, by decide +kernel⟩
theorem hiX11_look : Cond.instanceMethod yX11_look ∈ eT := eT_in (i := 1189) (by decide +kernel) rfl
theorem hsX11_look : Cond.selects RX11 yX11_look yX11_look ∈ eT := eT_in (i := 1190) (by decide +kernel) rfl
theorem hwX11_rate : eMw yX11_rate cX11_rate 6 (some .int) 2 := ⟨eT_in (i := 1195) (by decide +kernel) rfl, eT_in (i := 59) (by decide +kernel) rfl, by decide +kernel, by decide +kernel, by decide +kernel⟩
theorem hiX11_rate : Cond.instanceMethod yX11_rate ∈ eT := eT_in (i := 1193) (by decide +kernel) rfl
theorem hsX11_rate : Cond.selects RX11 yX11_rate yX11_rate ∈ eT := eT_in (i := 1194) (by decide +kernel) rfl
theorem hwX11_keep : eMw yX11_keep cX11_keep 3 (some .int) 1 := ⟨eT_in (i := 1205) (by decide +kernel) rfl, eT_in (i := 59) (by decide +kernel) rfl, by decide +kernel, by decide +kernel, by decide +kernel⟩
theorem hiX11_keep : Cond.instanceMethod yX11_keep ∈ eT := eT_in (i := 1203) (by decide +kernel) rfl
theorem hsX11_keep : Cond.selects RX11 yX11_keep yX11_keep ∈ eT := eT_in (i := 1204) (by decide +kernel) rfl
theorem hwX11_back : eMw yX11_back cX11_back 3 (some .int) 1 := ⟨eT_in (i := 1209) (by decide +kernel) rfl, eT_in (i := 59) (by decide +kernel) rfl, by decide +kernel, by decide +kernel, by decide +kernel⟩
theorem hiX11_back : Cond.instanceMethod yX11_back ∈ eT := eT_in (i := 1207) (by decide +kernel) rfl
theorem hsX11_back : Cond.selects RX11 yX11_back yX11_back ∈ eT := eT_in (i := 1208) (by decide +kernel) rfl
theorem hwX11_count : eMw yX11_count cX11_count 2 (some .int) 1 := ⟨eT_in (i := 1213) (by decide +kernel) rfl, eT_in (i := 59) (by decide +kernel) rfl, by decide +kernel, by decide +kernel, by decide +kernel⟩
theorem hiX11_count : Cond.instanceMethod yX11_count ∈ eT := eT_in (i := 1211) (by decide +kernel) rfl
theorem hsX11_count : Cond.selects RX11 yX11_count yX11_count ∈ eT := eT_in (i := 1212) (by decide +kernel) rfl
theorem hwX11_trace : eMw yX11_trace cX11_trace 1 (some .long) 0 := ⟨eT_in (i := 1217) (by decide +kernel) rfl, eT_in (i := 59) (by decide +kernel) rfl, by decide +kernel, by decide +kernel, by decide +kernel⟩
theorem hiX11_trace : Cond.instanceMethod yX11_trace ∈ eT := eT_in (i := 1215) (by decide +kernel) rfl
theorem hsX11_trace : Cond.selects RX11 yX11_trace yX11_trace ∈ eT := eT_in (i := 1216) (by decide +kernel) rfl
theorem hwJ6_bitCount_0f7a4 : eMw yJ6_bitCount_0f7a4 cJ6_bitCount_0f7a4 1 (some .int) 1 := ⟨eT_in (i := 712) (by decide +kernel) rfl, eT_in (i := 60) (by decide +kernel) rfl, by decide +kernel, by decide +kernel, by decide +kernel⟩
theorem htJ6_bitCount_0f7a4 : Cond.static yJ6_bitCount_0f7a4 ∈ eT := eT_in (i := 711) (by decide +kernel) rfl
theorem hwJ9_abs_0f7a4 : eMw yJ9_abs_0f7a4 cJ9_abs_0f7a4 1 (some .int) 1 := ⟨eT_in (i := 605) (by decide +kernel) rfl, eT_in (i := 50) (by decide +kernel) rfl, by decide +kernel, by decide +kernel, by decide +kernel⟩
theorem htJ9_abs_0f7a4 : Cond.static yJ9_abs_0f7a4 ∈ eT := eT_in (i := 604) (by decide +kernel) rfl
theorem hwJ9_max_7cf53 : eMw yJ9_max_7cf53 cJ9_max_7cf53 2 (some .int) 2 := ⟨eT_in (i := 83) (by decide +kernel) rfl, eT_in (i := 50) (by decide +kernel) rfl, by decide +kernel, by decide +kernel, by decide +kernel⟩
theorem htJ9_max_7cf53 : Cond.static yJ9_max_7cf53 ∈ eT := eT_in (i := 82) (by decide +kernel) rfl
theorem hwJ9_min_7cf53 : eMw yJ9_min_7cf53 cJ9_min_7cf53 2 (some .int) 2 := ⟨eT_in (i := 373) (by decide +kernel) rfl, eT_in (i := 50) (by decide +kernel) rfl, by decide +kernel, by decide +kernel, by decide +kernel⟩
theorem htJ9_min_7cf53 : Cond.static yJ9_min_7cf53 ∈ eT := eT_in (i := 372) (by decide +kernel) rfl
theorem kfX7_13 : Cond.fieldLink RX7 13 (TX7 0).1 (TX7 0).2.1 (TX7 0).2.2.1 ∈ eT := eT_in (i := 84) (by decide +kernel) rfl
theorem kfX1_26 : Cond.fieldLink RX1 26 (TX1 0).1 (TX1 0).2.1 (TX1 0).2.2.1 ∈ eT := eT_in (i := 97) (by decide +kernel) rfl
theorem kfX1_30 : Cond.fieldLink RX1 30 (TX1 1).1 (TX1 1).2.1 (TX1 1).2.2.1 ∈ eT := eT_in (i := 98) (by decide +kernel) rfl
theorem kfX1_33 : Cond.fieldLink RX1 33 (TX1 2).1 (TX1 2).2.1 (TX1 2).2.2.1 ∈ eT := eT_in (i := 99) (by decide +kernel) rfl
theorem kfX1_36 : Cond.fieldLink RX1 36 (TX1 3).1 (TX1 3).2.1 (TX1 3).2.2.1 ∈ eT := eT_in (i := 100) (by decide +kernel) rfl
theorem kfX1_14 : Cond.fieldLink RX1 14 (TX1 4).1 (TX1 4).2.1 (TX1 4).2.2.1 ∈ eT := eT_in (i := 101) (by decide +kernel) rfl
theorem kfX1_20 : Cond.fieldLink RX1 20 (TX1 5).1 (TX1 5).2.1 (TX1 5).2.2.1 ∈ eT := eT_in (i := 102) (by decide +kernel) rfl
theorem kfX2_14 : Cond.fieldLink RX2 14 (TX2 0).1 (TX2 0).2.1 (TX2 0).2.2.1 ∈ eT := eT_in (i := 126) (by decide +kernel) rfl
theorem kfX2_20 : Cond.fieldLink RX2 20 (TX2 1).1 (TX2 1).2.1 (TX2 1).2.2.1 ∈ eT := eT_in (i := 127) (by decide +kernel) rfl
theorem kfX2_27 : Cond.fieldLink RX2 27 (TX2 2).1 (TX2 2).2.1 (TX2 2).2.2.1 ∈ eT := eT_in (i := 128) (by decide +kernel) rfl
theorem kfX2_38 : Cond.fieldLink RX2 38 (TX2 3).1 (TX2 3).2.1 (TX2 3).2.2.1 ∈ eT := eT_in (i := 129) (by decide +kernel) rfl
theorem kfX2_41 : Cond.fieldLink RX2 41 (TX2 4).1 (TX2 4).2.1 (TX2 4).2.2.1 ∈ eT := eT_in (i := 130) (by decide +kernel) rfl
theorem kfX2_45 : Cond.fieldLink RX2 45 (TX2 5).1 (TX2 5).2.1 (TX2 5).2.2.1 ∈ eT := eT_in (i := 131) (by decide +kernel) rfl
theorem kfX2_51 : Cond.fieldLink RX2 51 (TX2 6).1 (TX2 6).2.1 (TX2 6).2.2.1 ∈ eT := eT_in (i := 132) (by decide +kernel) rfl
theorem kfX2_58 : Cond.fieldLink RX2 58 (TX2 7).1 (TX2 7).2.1 (TX2 7).2.2.1 ∈ eT := eT_in (i := 133) (by decide +kernel) rfl
theorem kfX2_81 : Cond.fieldLink RX2 81 (TX2 8).1 (TX2 8).2.1 (TX2 8).2.2.1 ∈ eT := eT_in (i := 134) (by decide +kernel) rfl
theorem kfX0_20 : Cond.fieldLink RX0 20 (TX0 0).1 (TX0 0).2.1 (TX0 0).2.2.1 ∈ eT := eT_in (i := 162) (by decide +kernel) rfl
theorem kfX0_16 : Cond.fieldLink RX0 16 (TX0 1).1 (TX0 1).2.1 (TX0 1).2.2.1 ∈ eT := eT_in (i := 163) (by decide +kernel) rfl
theorem kfX4_29 : Cond.fieldLink RX4 29 (TX4 0).1 (TX4 0).2.1 (TX4 0).2.2.1 ∈ eT := eT_in (i := 177) (by decide +kernel) rfl
theorem kfX4_16 : Cond.fieldLink RX4 16 (TX4 1).1 (TX4 1).2.1 (TX4 1).2.2.1 ∈ eT := eT_in (i := 178) (by decide +kernel) rfl
theorem kfX4_22 : Cond.fieldLink RX4 22 (TX4 2).1 (TX4 2).2.1 (TX4 2).2.2.1 ∈ eT := eT_in (i := 179) (by decide +kernel) rfl
theorem kfX4_26 : Cond.fieldLink RX4 26 (TX4 3).1 (TX4 3).2.1 (TX4 3).2.2.1 ∈ eT := eT_in (i := 180) (by decide +kernel) rfl
theorem kfX6_18 : Cond.fieldLink RX6 18 (TX6 0).1 (TX6 0).2.1 (TX6 0).2.2.1 ∈ eT := eT_in (i := 198) (by decide +kernel) rfl
theorem kfX6_9 : Cond.fieldLink RX6 9 (TX6 1).1 (TX6 1).2.1 (TX6 1).2.2.1 ∈ eT := eT_in (i := 199) (by decide +kernel) rfl
theorem kfX6_15 : Cond.fieldLink RX6 15 (TX6 2).1 (TX6 2).2.1 (TX6 2).2.2.1 ∈ eT := eT_in (i := 200) (by decide +kernel) rfl
theorem kfX8_20 : Cond.fieldLink RX8 20 (TX8 0).1 (TX8 0).2.1 (TX8 0).2.2.1 ∈ eT := eT_in (i := 216) (by decide +kernel) rfl
theorem kfX8_24 : Cond.fieldLink RX8 24 (TX8 1).1 (TX8 1).2.1 (TX8 1).2.2.1 ∈ eT := eT_in (i := 217) (by decide +kernel) rfl
theorem kfX8_28 : Cond.fieldLink RX8 28 (TX8 2).1 (TX8 2).2.1 (TX8 2).2.2.1 ∈ eT := eT_in (i := 218) (by decide +kernel) rfl
theorem kfX8_14 : Cond.fieldLink RX8 14 (TX8 3).1 (TX8 3).2.1 (TX8 3).2.2.1 ∈ eT := eT_in (i := 219) (by decide +kernel) rfl
theorem kfX9_24 : Cond.fieldLink RX9 24 (TX9 0).1 (TX9 0).2.1 (TX9 0).2.2.1 ∈ eT := eT_in (i := 242) (by decide +kernel) rfl
theorem kfX9_28 : Cond.fieldLink RX9 28 (TX9 1).1 (TX9 1).2.1 (TX9 1).2.2.1 ∈ eT := eT_in (i := 243) (by decide +kernel) rfl
theorem kfX9_37 : Cond.fieldLink RX9 37 (TX9 2).1 (TX9 2).2.1 (TX9 2).2.2.1 ∈ eT := eT_in (i := 244) (by decide +kernel) rfl
theorem kfX9_18 : Cond.fieldLink RX9 18 (TX9 3).1 (TX9 3).2.1 (TX9 3).2.2.1 ∈ eT := eT_in (i := 245) (by decide +kernel) rfl
theorem kfX3_25 : Cond.fieldLink RX3 25 (TX3 0).1 (TX3 0).2.1 (TX3 0).2.2.1 ∈ eT := eT_in (i := 267) (by decide +kernel) rfl
theorem kfX3_32 : Cond.fieldLink RX3 32 (TX3 1).1 (TX3 1).2.1 (TX3 1).2.2.1 ∈ eT := eT_in (i := 268) (by decide +kernel) rfl
theorem kfX3_14 : Cond.fieldLink RX3 14 (TX3 2).1 (TX3 2).2.1 (TX3 2).2.2.1 ∈ eT := eT_in (i := 269) (by decide +kernel) rfl
theorem kfX5_13 : Cond.fieldLink RX5 13 (TX5 0).1 (TX5 0).2.1 (TX5 0).2.2.1 ∈ eT := eT_in (i := 283) (by decide +kernel) rfl
theorem kfX5_17 : Cond.fieldLink RX5 17 (TX5 1).1 (TX5 1).2.1 (TX5 1).2.2.1 ∈ eT := eT_in (i := 284) (by decide +kernel) rfl
theorem kfX5_7 : Cond.fieldLink RX5 7 (TX5 2).1 (TX5 2).2.1 (TX5 2).2.2.1 ∈ eT := eT_in (i := 285) (by decide +kernel) rfl
theorem kfX10_12 : Cond.fieldLink RX10 12 (TX10 0).1 (TX10 0).2.1 (TX10 0).2.2.1 ∈ eT := eT_in (i := 293) (by decide +kernel) rfl
theorem kfX10_19 : Cond.fieldLink RX10 19 (TX10 1).1 (TX10 1).2.1 (TX10 1).2.2.1 ∈ eT := eT_in (i := 294) (by decide +kernel) rfl
theorem kfX10_28 : Cond.fieldLink RX10 28 (TX10 2).1 (TX10 2).2.1 (TX10 2).2.2.1 ∈ eT := eT_in (i := 295) (by decide +kernel) rfl
theorem kfX10_37 : Cond.fieldLink RX10 37 (TX10 3).1 (TX10 3).2.1 (TX10 3).2.2.1 ∈ eT := eT_in (i := 296) (by decide +kernel) rfl
theorem kfX10_46 : Cond.fieldLink RX10 46 (TX10 4).1 (TX10 4).2.1 (TX10 4).2.2.1 ∈ eT := eT_in (i := 297) (by decide +kernel) rfl
theorem kfX10_50 : Cond.fieldLink RX10 50 (TX10 5).1 (TX10 5).2.1 (TX10 5).2.2.1 ∈ eT := eT_in (i := 298) (by decide +kernel) rfl
theorem kfX10_57 : Cond.fieldLink RX10 57 (TX10 6).1 (TX10 6).2.1 (TX10 6).2.2.1 ∈ eT := eT_in (i := 299) (by decide +kernel) rfl
theorem kfX10_66 : Cond.fieldLink RX10 66 (TX10 7).1 (TX10 7).2.1 (TX10 7).2.2.1 ∈ eT := eT_in (i := 300) (by decide +kernel) rfl
theorem kfX10_75 : Cond.fieldLink RX10 75 (TX10 8).1 (TX10 8).2.1 (TX10 8).2.2.1 ∈ eT := eT_in (i := 301) (by decide +kernel) rfl
theorem kfX10_82 : Cond.fieldLink RX10 82 (TX10 9).1 (TX10 9).2.1 (TX10 9).2.2.1 ∈ eT := eT_in (i := 302) (by decide +kernel) rfl
theorem kfX10_91 : Cond.fieldLink RX10 91 (TX10 10).1 (TX10 10).2.1 (TX10 10).2.2.1 ∈ eT := eT_in (i := 303) (by decide +kernel) rfl
theorem kfX11_50 : Cond.fieldLink RX11 50 (TX11 0).1 (TX11 0).2.1 (TX11 0).2.2.1 ∈ eT := eT_in (i := 884) (by decide +kernel) rfl
theorem kfX11_215 : Cond.fieldLink RX11 215 (TX11 1).1 (TX11 1).2.1 (TX11 1).2.2.1 ∈ eT := eT_in (i := 885) (by decide +kernel) rfl
theorem kfX11_7 : Cond.fieldLink RX11 7 (TX11 2).1 (TX11 2).2.1 (TX11 2).2.2.1 ∈ eT := eT_in (i := 886) (by decide +kernel) rfl
theorem kfX11_58 : Cond.fieldLink RX11 58 (TX11 3).1 (TX11 3).2.1 (TX11 3).2.2.1 ∈ eT := eT_in (i := 887) (by decide +kernel) rfl
theorem kfX11_61 : Cond.fieldLink RX11 61 (TX11 4).1 (TX11 4).2.1 (TX11 4).2.2.1 ∈ eT := eT_in (i := 888) (by decide +kernel) rfl
theorem kfX11_71 : Cond.fieldLink RX11 71 (TX11 5).1 (TX11 5).2.1 (TX11 5).2.2.1 ∈ eT := eT_in (i := 889) (by decide +kernel) rfl
theorem kfX11_68 : Cond.fieldLink RX11 68 (TX11 6).1 (TX11 6).2.1 (TX11 6).2.2.1 ∈ eT := eT_in (i := 890) (by decide +kernel) rfl
theorem kfX11_74 : Cond.fieldLink RX11 74 (TX11 7).1 (TX11 7).2.1 (TX11 7).2.2.1 ∈ eT := eT_in (i := 891) (by decide +kernel) rfl
theorem kfX11_77 : Cond.fieldLink RX11 77 (TX11 8).1 (TX11 8).2.1 (TX11 8).2.2.1 ∈ eT := eT_in (i := 892) (by decide +kernel) rfl
theorem kfX11_13 : Cond.fieldLink RX11 13 (TX11 9).1 (TX11 9).2.1 (TX11 9).2.2.1 ∈ eT := eT_in (i := 893) (by decide +kernel) rfl
theorem kfX11_16 : Cond.fieldLink RX11 16 (TX11 10).1 (TX11 10).2.1 (TX11 10).2.2.1 ∈ eT := eT_in (i := 894) (by decide +kernel) rfl
theorem kfX11_19 : Cond.fieldLink RX11 19 (TX11 11).1 (TX11 11).2.1 (TX11 11).2.2.1 ∈ eT := eT_in (i := 895) (by decide +kernel) rfl
theorem kfX11_91 : Cond.fieldLink RX11 91 (TX11 12).1 (TX11 12).2.1 (TX11 12).2.2.1 ∈ eT := eT_in (i := 896) (by decide +kernel) rfl
theorem kfX11_22 : Cond.fieldLink RX11 22 (TX11 13).1 (TX11 13).2.1 (TX11 13).2.2.1 ∈ eT := eT_in (i := 897) (by decide +kernel) rfl
theorem kfX11_25 : Cond.fieldLink RX11 25 (TX11 14).1 (TX11 14).2.1 (TX11 14).2.2.1 ∈ eT := eT_in (i := 898) (by decide +kernel) rfl
theorem kfX11_28 : Cond.fieldLink RX11 28 (TX11 15).1 (TX11 15).2.1 (TX11 15).2.2.1 ∈ eT := eT_in (i := 899) (by decide +kernel) rfl
theorem kfX11_31 : Cond.fieldLink RX11 31 (TX11 16).1 (TX11 16).2.1 (TX11 16).2.2.1 ∈ eT := eT_in (i := 900) (by decide +kernel) rfl
theorem kfX11_35 : Cond.fieldLink RX11 35 (TX11 17).1 (TX11 17).2.1 (TX11 17).2.2.1 ∈ eT := eT_in (i := 901) (by decide +kernel) rfl
theorem kfX11_113 : Cond.fieldLink RX11 113 (TX11 18).1 (TX11 18).2.1 (TX11 18).2.2.1 ∈ eT := eT_in (i := 902) (by decide +kernel) rfl
theorem kfX11_38 : Cond.fieldLink RX11 38 (TX11 19).1 (TX11 19).2.1 (TX11 19).2.2.1 ∈ eT := eT_in (i := 903) (by decide +kernel) rfl
theorem kfX11_41 : Cond.fieldLink RX11 41 (TX11 20).1 (TX11 20).2.1 (TX11 20).2.2.1 ∈ eT := eT_in (i := 904) (by decide +kernel) rfl
theorem kfX11_44 : Cond.fieldLink RX11 44 (TX11 21).1 (TX11 21).2.1 (TX11 21).2.2.1 ∈ eT := eT_in (i := 905) (by decide +kernel) rfl
theorem kfX11_47 : Cond.fieldLink RX11 47 (TX11 22).1 (TX11 22).2.1 (TX11 22).2.2.1 ∈ eT := eT_in (i := 906) (by decide +kernel) rfl
theorem klL_9 : Cond.methodLink RL 9 yX10_init ∈ eT := eT_in (i := 63) (by decide +kernel) rfl
theorem klX10_3 : Cond.methodLink RX10 3 objectInit ∈ eT := eT_in (i := 66) (by decide +kernel) rfl
theorem klX10_11 : Cond.methodLink RX10 11 yX1_init ∈ eT := eT_in (i := 71) (by decide +kernel) rfl
theorem klX1_3 : Cond.methodLink RX1 3 objectInit ∈ eT := eT_in (i := 74) (by decide +kernel) rfl
theorem klX1_11 : Cond.methodLink RX1 11 yX7_init ∈ eT := eT_in (i := 77) (by decide +kernel) rfl
theorem klX7_1 : Cond.methodLink RX7 1 objectInit ∈ eT := eT_in (i := 80) (by decide +kernel) rfl
theorem klX7_7 : Cond.methodLink RX7 7 yJ9_max_7cf53 ∈ eT := eT_in (i := 81) (by decide +kernel) rfl
theorem klX1_23 : Cond.methodLink RX1 23 yX1_becomeFirst ∈ eT := eT_in (i := 89) (by decide +kernel) rfl
theorem klX1_39 : Cond.methodLink RX1 39 yX7_fill ∈ eT := eT_in (i := 93) (by decide +kernel) rfl
theorem klX2_3 : Cond.methodLink RX2 3 objectInit ∈ eT := eT_in (i := 121) (by decide +kernel) rfl
theorem klX2_11 : Cond.methodLink RX2 11 yX7_init ∈ eT := eT_in (i := 123) (by decide +kernel) rfl
theorem klX2_26 : Cond.methodLink RX2 26 yX1_init ∈ eT := eT_in (i := 125) (by decide +kernel) rfl
theorem klX10_25 : Cond.methodLink RX10 25 yX0_init ∈ eT := eT_in (i := 156) (by decide +kernel) rfl
theorem klX0_5 : Cond.methodLink RX0 5 objectInit ∈ eT := eT_in (i := 159) (by decide +kernel) rfl
theorem klX0_13 : Cond.methodLink RX0 13 yX7_init ∈ eT := eT_in (i := 161) (by decide +kernel) rfl
theorem klX10_34 : Cond.methodLink RX10 34 yX4_init ∈ eT := eT_in (i := 171) (by decide +kernel) rfl
theorem klX4_3 : Cond.methodLink RX4 3 objectInit ∈ eT := eT_in (i := 174) (by decide +kernel) rfl
theorem klX4_13 : Cond.methodLink RX4 13 yX7_init ∈ eT := eT_in (i := 176) (by decide +kernel) rfl
theorem klX10_43 : Cond.methodLink RX10 43 yX7_init ∈ eT := eT_in (i := 191) (by decide +kernel) rfl
theorem klX10_56 : Cond.methodLink RX10 56 yX6_init ∈ eT := eT_in (i := 194) (by decide +kernel) rfl
theorem klX6_3 : Cond.methodLink RX6 3 objectInit ∈ eT := eT_in (i := 197) (by decide +kernel) rfl
theorem klX10_63 : Cond.methodLink RX10 63 yX8_init ∈ eT := eT_in (i := 210) (by decide +kernel) rfl
theorem klX8_3 : Cond.methodLink RX8 3 objectInit ∈ eT := eT_in (i := 213) (by decide +kernel) rfl
theorem klX8_11 : Cond.methodLink RX8 11 yX7_init ∈ eT := eT_in (i := 215) (by decide +kernel) rfl
theorem klX10_72 : Cond.methodLink RX10 72 yX9_init ∈ eT := eT_in (i := 231) (by decide +kernel) rfl
theorem klX9_3 : Cond.methodLink RX9 3 objectInit ∈ eT := eT_in (i := 234) (by decide +kernel) rfl
theorem klX9_15 : Cond.methodLink RX9 15 yX7_init ∈ eT := eT_in (i := 239) (by decide +kernel) rfl
theorem klX9_34 : Cond.methodLink RX9 34 yX6_init ∈ eT := eT_in (i := 241) (by decide +kernel) rfl
theorem klX10_81 : Cond.methodLink RX10 81 yX3_init ∈ eT := eT_in (i := 257) (by decide +kernel) rfl
theorem klX3_3 : Cond.methodLink RX3 3 objectInit ∈ eT := eT_in (i := 260) (by decide +kernel) rfl
theorem klX3_11 : Cond.methodLink RX3 11 yX7_init ∈ eT := eT_in (i := 262) (by decide +kernel) rfl
theorem klX3_22 : Cond.methodLink RX3 22 yX0_init ∈ eT := eT_in (i := 264) (by decide +kernel) rfl
theorem klX3_31 : Cond.methodLink RX3 31 yX6_init ∈ eT := eT_in (i := 266) (by decide +kernel) rfl
theorem klX10_88 : Cond.methodLink RX10 88 yX5_init ∈ eT := eT_in (i := 279) (by decide +kernel) rfl
theorem klX5_1 : Cond.methodLink RX5 1 objectInit ∈ eT := eT_in (i := 282) (by decide +kernel) rfl
theorem klL_13 : Cond.methodLink RL 13 yX10_type ∈ eT := eT_in (i := 327) (by decide +kernel) rfl
theorem klX10_95 : Cond.methodLink RX10 95 yX2_add ∈ eT := eT_in (i := 331) (by decide +kernel) rfl
theorem klX2_31 : Cond.methodLink RX2 31 yX7_put ∈ eT := eT_in (i := 335) (by decide +kernel) rfl
theorem klX10_99 : Cond.methodLink RX10 99 yX2_size ∈ eT := eT_in (i := 339) (by decide +kernel) rfl
theorem klL_18 : Cond.methodLink RL 18 yX10_clear ∈ eT := eT_in (i := 343) (by decide +kernel) rfl
theorem klX10_103 : Cond.methodLink RX10 103 yX2_empty ∈ eT := eT_in (i := 347) (by decide +kernel) rfl
theorem klL_23 : Cond.methodLink RL 23 yX10_land ∈ eT := eT_in (i := 351) (by decide +kernel) rfl
theorem klX10_106 : Cond.methodLink RX10 106 yX2_read ∈ eT := eT_in (i := 355) (by decide +kernel) rfl
theorem klX2_35 : Cond.methodLink RX2 35 yX1_becomeFirst ∈ eT := eT_in (i := 359) (by decide +kernel) rfl
theorem klX2_48 : Cond.methodLink RX2 48 yX2_nextToken ∈ eT := eT_in (i := 360) (by decide +kernel) rfl
theorem klX2_106 : Cond.methodLink RX2 106 yX7_get ∈ eT := eT_in (i := 364) (by decide +kernel) rfl
theorem klX2_110 : Cond.methodLink RX2 110 yX2_isDigit ∈ eT := eT_in (i := 368) (by decide +kernel) rfl
theorem klX2_113 : Cond.methodLink RX2 113 yJ9_min_7cf53 ∈ eT := eT_in (i := 371) (by decide +kernel) rfl
theorem klX2_54 : Cond.methodLink RX2 54 yX2_readItem ∈ eT := eT_in (i := 374) (by decide +kernel) rfl
theorem klX2_61 : Cond.methodLink RX2 61 yX2_readSize ∈ eT := eT_in (i := 378) (by decide +kernel) rfl
theorem klX2_77 : Cond.methodLink RX2 77 yX2_readNumber ∈ eT := eT_in (i := 382) (by decide +kernel) rfl
theorem klX2_84 : Cond.methodLink RX2 84 yX1_setSize ∈ eT := eT_in (i := 386) (by decide +kernel) rfl
theorem klX2_87 : Cond.methodLink RX2 87 yX2_readItemEnd ∈ eT := eT_in (i := 390) (by decide +kernel) rfl
theorem klX2_64 : Cond.methodLink RX2 64 yX2_readHeight ∈ eT := eT_in (i := 394) (by decide +kernel) rfl
theorem klX2_90 : Cond.methodLink RX2 90 yX1_cells ∈ eT := eT_in (i := 398) (by decide +kernel) rfl
theorem klX2_93 : Cond.methodLink RX2 93 yX1_setHeight ∈ eT := eT_in (i := 402) (by decide +kernel) rfl
theorem klX1_46 : Cond.methodLink RX1 46 yX7_put ∈ eT := eT_in (i := 406) (by decide +kernel) rfl
theorem klX2_67 : Cond.methodLink RX2 67 yX1_towns ∈ eT := eT_in (i := 407) (by decide +kernel) rfl
theorem klX2_71 : Cond.methodLink RX2 71 yX2_readTown ∈ eT := eT_in (i := 411) (by decide +kernel) rfl
theorem klX2_96 : Cond.methodLink RX2 96 yX1_isTown ∈ eT := eT_in (i := 415) (by decide +kernel) rfl
theorem klX1_57 : Cond.methodLink RX1 57 yX1_cellsOfTowns ∈ eT := eT_in (i := 420) (by decide +kernel) rfl
theorem klX1_42 : Cond.methodLink RX1 42 yX7_get ∈ eT := eT_in (i := 424) (by decide +kernel) rfl
theorem klX2_100 : Cond.methodLink RX2 100 yX1_addTown ∈ eT := eT_in (i := 425) (by decide +kernel) rfl
theorem klX2_74 : Cond.methodLink RX2 74 yX2_readSlope ∈ eT := eT_in (i := 429) (by decide +kernel) rfl
theorem klX2_103 : Cond.methodLink RX2 103 yX1_setSlope ∈ eT := eT_in (i := 433) (by decide +kernel) rfl
theorem klX10_109 : Cond.methodLink RX10 109 yX2_told ∈ eT := eT_in (i := 437) (by decide +kernel) rfl
theorem klX10_113 : Cond.methodLink RX10 113 yX1_become ∈ eT := eT_in (i := 441) (by decide +kernel) rfl
theorem klX10_116 : Cond.methodLink RX10 116 yX0_removeAll ∈ eT := eT_in (i := 445) (by decide +kernel) rfl
theorem klX0_24 : Cond.methodLink RX0 24 yX7_put ∈ eT := eT_in (i := 449) (by decide +kernel) rfl
theorem klX10_119 : Cond.methodLink RX10 119 yX4_forget ∈ eT := eT_in (i := 450) (by decide +kernel) rfl
theorem klL_27 : Cond.methodLink RL 27 yX10_height ∈ eT := eT_in (i := 454) (by decide +kernel) rfl
theorem klX10_122 : Cond.methodLink RX10 122 yX1_hasCell ∈ eT := eT_in (i := 458) (by decide +kernel) rfl
theorem klX1_50 : Cond.methodLink RX1 50 yX1_cells ∈ eT := eT_in (i := 462) (by decide +kernel) rfl
theorem klX10_125 : Cond.methodLink RX10 125 yX1_heightAt ∈ eT := eT_in (i := 463) (by decide +kernel) rfl
theorem klL_31 : Cond.methodLink RL 31 yX10_town ∈ eT := eT_in (i := 467) (by decide +kernel) rfl
theorem klX10_129 : Cond.methodLink RX10 129 yX1_towns ∈ eT := eT_in (i := 471) (by decide +kernel) rfl
theorem klX10_132 : Cond.methodLink RX10 132 yX1_townCell ∈ eT := eT_in (i := 472) (by decide +kernel) rfl
theorem klL_35 : Cond.methodLink RL 35 yX10_bolt ∈ eT := eT_in (i := 476) (by decide +kernel) rfl
theorem klX10_135 : Cond.methodLink RX10 135 yX0_has ∈ eT := eT_in (i := 480) (by decide +kernel) rfl
theorem klX0_36 : Cond.methodLink RX0 36 yX0_size ∈ eT := eT_in (i := 484) (by decide +kernel) rfl
theorem klX0_32 : Cond.methodLink RX0 32 yX7_get ∈ eT := eT_in (i := 488) (by decide +kernel) rfl
theorem klX10_138 : Cond.methodLink RX10 138 yX0_firstCell ∈ eT := eT_in (i := 489) (by decide +kernel) rfl
theorem klX0_40 : Cond.methodLink RX0 40 yX0_placeOf ∈ eT := eT_in (i := 493) (by decide +kernel) rfl
theorem klX10_141 : Cond.methodLink RX10 141 yX0_lastCell ∈ eT := eT_in (i := 496) (by decide +kernel) rfl
theorem klX0_43 : Cond.methodLink RX0 43 yX0_length ∈ eT := eT_in (i := 500) (by decide +kernel) rfl
theorem klX0_46 : Cond.methodLink RX0 46 yX0_cellBehind ∈ eT := eT_in (i := 504) (by decide +kernel) rfl
theorem klX0_50 : Cond.methodLink RX0 50 yX0_firstCell ∈ eT := eT_in (i := 508) (by decide +kernel) rfl
theorem klX0_53 : Cond.methodLink RX0 53 yX0_cardAt ∈ eT := eT_in (i := 509) (by decide +kernel) rfl
theorem klX0_56 : Cond.methodLink RX0 56 yX1_neighbour ∈ eT := eT_in (i := 513) (by decide +kernel) rfl
theorem klX10_144 : Cond.methodLink RX10 144 yX0_length ∈ eT := eT_in (i := 517) (by decide +kernel) rfl
theorem klX10_147 : Cond.methodLink RX10 147 yX0_climb ∈ eT := eT_in (i := 518) (by decide +kernel) rfl
theorem klX0_74 : Cond.methodLink RX0 74 yX1_step ∈ eT := eT_in (i := 522) (by decide +kernel) rfl
theorem klX0_77 : Cond.methodLink RX0 77 yJ9_max_7cf53 ∈ eT := eT_in (i := 526) (by decide +kernel) rfl
theorem klL_40 : Cond.methodLink RL 40 yX10_card ∈ eT := eT_in (i := 527) (by decide +kernel) rfl
theorem klX10_150 : Cond.methodLink RX10 150 yX0_cardAt ∈ eT := eT_in (i := 531) (by decide +kernel) rfl
theorem klL_44 : Cond.methodLink RL 44 yX10_road ∈ eT := eT_in (i := 532) (by decide +kernel) rfl
theorem klX10_154 : Cond.methodLink RX10 154 yX10_isCard ∈ eT := eT_in (i := 536) (by decide +kernel) rfl
theorem klX10_157 : Cond.methodLink RX10 157 yX6_lay ∈ eT := eT_in (i := 539) (by decide +kernel) rfl
theorem klX6_22 : Cond.methodLink RX6 22 yX0_size ∈ eT := eT_in (i := 543) (by decide +kernel) rfl
theorem klX6_28 : Cond.methodLink RX6 28 yX0_firstCell ∈ eT := eT_in (i := 544) (by decide +kernel) rfl
theorem klX6_32 : Cond.methodLink RX6 32 yX0_length ∈ eT := eT_in (i := 545) (by decide +kernel) rfl
theorem klX6_35 : Cond.methodLink RX6 35 yX0_cardAt ∈ eT := eT_in (i := 546) (by decide +kernel) rfl
theorem klX6_39 : Cond.methodLink RX6 39 yX1_neighbour ∈ eT := eT_in (i := 547) (by decide +kernel) rfl
theorem klX6_44 : Cond.methodLink RX6 44 yJ9_min_7cf53 ∈ eT := eT_in (i := 548) (by decide +kernel) rfl
theorem klX6_49 : Cond.methodLink RX6 49 yJ9_max_7cf53 ∈ eT := eT_in (i := 549) (by decide +kernel) rfl
theorem klX6_52 : Cond.methodLink RX6 52 yX6_layBetween ∈ eT := eT_in (i := 550) (by decide +kernel) rfl
theorem klX10_160 : Cond.methodLink RX10 160 yX6_goes ∈ eT := eT_in (i := 555) (by decide +kernel) rfl
theorem klX6_68 : Cond.methodLink RX6 68 yX1_wide ∈ eT := eT_in (i := 559) (by decide +kernel) rfl
theorem klL_48 : Cond.methodLink RL 48 yX10_now ∈ eT := eT_in (i := 563) (by decide +kernel) rfl
theorem klX10_164 : Cond.methodLink RX10 164 yX0_size ∈ eT := eT_in (i := 567) (by decide +kernel) rfl
theorem klX10_165 : Cond.methodLink RX10 165 yX0_ells ∈ eT := eT_in (i := 568) (by decide +kernel) rfl
theorem klX10_168 : Cond.methodLink RX10 168 yX6_pieces ∈ eT := eT_in (i := 572) (by decide +kernel) rfl
theorem klX6_74 : Cond.methodLink RX6 74 yX1_towns ∈ eT := eT_in (i := 576) (by decide +kernel) rfl
theorem klX6_77 : Cond.methodLink RX6 77 yX1_townCell ∈ eT := eT_in (i := 577) (by decide +kernel) rfl
theorem klX6_80 : Cond.methodLink RX6 80 yX6_reach ∈ eT := eT_in (i := 578) (by decide +kernel) rfl
theorem klX6_71 : Cond.methodLink RX6 71 yX6_spread ∈ eT := eT_in (i := 582) (by decide +kernel) rfl
theorem klX10_171 : Cond.methodLink RX10 171 yX0_toNowhere ∈ eT := eT_in (i := 586) (by decide +kernel) rfl
theorem klX0_82 : Cond.methodLink RX0 82 yX0_touchesTown ∈ eT := eT_in (i := 590) (by decide +kernel) rfl
theorem klX0_70 : Cond.methodLink RX0 70 yX1_isTown ∈ eT := eT_in (i := 594) (by decide +kernel) rfl
theorem klX10_174 : Cond.methodLink RX10 174 yX6_steepest ∈ eT := eT_in (i := 596) (by decide +kernel) rfl
theorem klX6_56 : Cond.methodLink RX6 56 yX1_cells ∈ eT := eT_in (i := 600) (by decide +kernel) rfl
theorem klX6_83 : Cond.methodLink RX6 83 yX6_goes ∈ eT := eT_in (i := 601) (by decide +kernel) rfl
theorem klX6_59 : Cond.methodLink RX6 59 yX1_step ∈ eT := eT_in (i := 602) (by decide +kernel) rfl
theorem klX6_62 : Cond.methodLink RX6 62 yJ9_abs_0f7a4 ∈ eT := eT_in (i := 603) (by decide +kernel) rfl
theorem klX10_177 : Cond.methodLink RX10 177 yX9_leastSlope ∈ eT := eT_in (i := 606) (by decide +kernel) rfl
theorem klX9_40 : Cond.methodLink RX9 40 yX6_layWhereSlope ∈ eT := eT_in (i := 610) (by decide +kernel) rfl
theorem klX9_43 : Cond.methodLink RX9 43 yX6_pieces ∈ eT := eT_in (i := 614) (by decide +kernel) rfl
theorem klX10_180 : Cond.methodLink RX10 180 yX4_known ∈ eT := eT_in (i := 615) (by decide +kernel) rfl
theorem klL_52 : Cond.methodLink RL 52 yX10_begins ∈ eT := eT_in (i := 619) (by decide +kernel) rfl
theorem klX10_183 : Cond.methodLink RX10 183 yX4_remember ∈ eT := eT_in (i := 623) (by decide +kernel) rfl
theorem klX4_33 : Cond.methodLink RX4 33 yX0_copyTo ∈ eT := eT_in (i := 627) (by decide +kernel) rfl
theorem klX4_37 : Cond.methodLink RX4 37 yJ9_min_7cf53 ∈ eT := eT_in (i := 631) (by decide +kernel) rfl
theorem klX10_186 : Cond.methodLink RX10 186 yX0_begin ∈ eT := eT_in (i := 632) (by decide +kernel) rfl
theorem klL_56 : Cond.methodLink RL 56 yX10_weaves ∈ eT := eT_in (i := 636) (by decide +kernel) rfl
theorem klX10_189 : Cond.methodLink RX10 189 yX1_cellBy ∈ eT := eT_in (i := 640) (by decide +kernel) rfl
theorem klX1_60 : Cond.methodLink RX1 60 yX1_neighbour ∈ eT := eT_in (i := 644) (by decide +kernel) rfl
theorem klX1_64 : Cond.methodLink RX1 64 yX1_step ∈ eT := eT_in (i := 645) (by decide +kernel) rfl
theorem klX1_67 : Cond.methodLink RX1 67 yJ9_abs_0f7a4 ∈ eT := eT_in (i := 646) (by decide +kernel) rfl
theorem klX10_192 : Cond.methodLink RX10 192 yX0_weave ∈ eT := eT_in (i := 647) (by decide +kernel) rfl
theorem klL_60 : Cond.methodLink RL 60 yX10_turnAbout ∈ eT := eT_in (i := 651) (by decide +kernel) rfl
theorem klX10_196 : Cond.methodLink RX10 196 yX0_turn ∈ eT := eT_in (i := 655) (by decide +kernel) rfl
theorem klX0_64 : Cond.methodLink RX0 64 yX0_lastCell ∈ eT := eT_in (i := 659) (by decide +kernel) rfl
theorem klX0_67 : Cond.methodLink RX0 67 yX0_opposite ∈ eT := eT_in (i := 660) (by decide +kernel) rfl
theorem klL_64 : Cond.methodLink RL 64 yX10_rain ∈ eT := eT_in (i := 663) (by decide +kernel) rfl
theorem klX10_199 : Cond.methodLink RX10 199 yX0_fray ∈ eT := eT_in (i := 667) (by decide +kernel) rfl
theorem klL_68 : Cond.methodLink RL 68 yX10_undo ∈ eT := eT_in (i := 671) (by decide +kernel) rfl
theorem klX10_202 : Cond.methodLink RX10 202 yX4_takeBack ∈ eT := eT_in (i := 675) (by decide +kernel) rfl
theorem klX4_43 : Cond.methodLink RX4 43 yX0_copyFrom ∈ eT := eT_in (i := 679) (by decide +kernel) rfl
theorem klL_72 : Cond.methodLink RL 72 yX10_joined ∈ eT := eT_in (i := 683) (by decide +kernel) rfl
theorem klX10_206 : Cond.methodLink RX10 206 yX10_bit ∈ eT := eT_in (i := 687) (by decide +kernel) rfl
theorem klX10_209 : Cond.methodLink RX10 209 yX6_reach ∈ eT := eT_in (i := 688) (by decide +kernel) rfl
theorem klL_76 : Cond.methodLink RL 76 yX10_toWeave ∈ eT := eT_in (i := 689) (by decide +kernel) rfl
theorem klX10_212 : Cond.methodLink RX10 212 yX9_fewestElls ∈ eT := eT_in (i := 693) (by decide +kernel) rfl
theorem klX9_47 : Cond.methodLink RX9 47 yX1_slope ∈ eT := eT_in (i := 697) (by decide +kernel) rfl
theorem klX9_52 : Cond.methodLink RX9 52 yX1_towns ∈ eT := eT_in (i := 701) (by decide +kernel) rfl
theorem klX9_55 : Cond.methodLink RX9 55 yX1_cells ∈ eT := eT_in (i := 702) (by decide +kernel) rfl
theorem klX9_58 : Cond.methodLink RX9 58 yX9_placeOf ∈ eT := eT_in (i := 703) (by decide +kernel) rfl
theorem klX9_62 : Cond.methodLink RX9 62 yX9_cellsJoined ∈ eT := eT_in (i := 706) (by decide +kernel) rfl
theorem klX9_72 : Cond.methodLink RX9 72 yJ6_bitCount_0f7a4 ∈ eT := eT_in (i := 710) (by decide +kernel) rfl
theorem klX9_77 : Cond.methodLink RX9 77 yX1_cellsOfTowns ∈ eT := eT_in (i := 716) (by decide +kernel) rfl
theorem klX9_80 : Cond.methodLink RX9 80 yX9_cellsWherePartsMeet ∈ eT := eT_in (i := 717) (by decide +kernel) rfl
theorem klX9_69 : Cond.methodLink RX9 69 yX7_get ∈ eT := eT_in (i := 721) (by decide +kernel) rfl
theorem klX9_83 : Cond.methodLink RX9 83 yX6_spread ∈ eT := eT_in (i := 722) (by decide +kernel) rfl
theorem klX9_86 : Cond.methodLink RX9 86 yX6_reach ∈ eT := eT_in (i := 723) (by decide +kernel) rfl
theorem klX9_65 : Cond.methodLink RX9 65 yX7_put ∈ eT := eT_in (i := 724) (by decide +kernel) rfl
theorem klL_80 : Cond.methodLink RL 80 yX10_way ∈ eT := eT_in (i := 725) (by decide +kernel) rfl
theorem klX10_215 : Cond.methodLink RX10 215 yX8_soonest ∈ eT := eT_in (i := 729) (by decide +kernel) rfl
theorem klX8_32 : Cond.methodLink RX8 32 yX0_seams ∈ eT := eT_in (i := 733) (by decide +kernel) rfl
theorem klX8_38 : Cond.methodLink RX8 38 yX7_fill ∈ eT := eT_in (i := 737) (by decide +kernel) rfl
theorem klX8_41 : Cond.methodLink RX8 41 yX7_put ∈ eT := eT_in (i := 738) (by decide +kernel) rfl
theorem klX8_45 : Cond.methodLink RX8 45 yX1_cells ∈ eT := eT_in (i := 739) (by decide +kernel) rfl
theorem klX8_50 : Cond.methodLink RX8 50 yX7_get ∈ eT := eT_in (i := 740) (by decide +kernel) rfl
theorem klX8_54 : Cond.methodLink RX8 54 yX8_goOn ∈ eT := eT_in (i := 741) (by decide +kernel) rfl
theorem klX8_58 : Cond.methodLink RX8 58 yX6_goes ∈ eT := eT_in (i := 745) (by decide +kernel) rfl
theorem klX8_63 : Cond.methodLink RX8 63 yX1_neighbour ∈ eT := eT_in (i := 746) (by decide +kernel) rfl
theorem klX8_70 : Cond.methodLink RX8 70 yX1_step ∈ eT := eT_in (i := 748) (by decide +kernel) rfl
theorem klX8_73 : Cond.methodLink RX8 73 yJ9_max_7cf53 ∈ eT := eT_in (i := 749) (by decide +kernel) rfl
theorem klL_84 : Cond.methodLink RL 84 yX10_darners ∈ eT := eT_in (i := 750) (by decide +kernel) rfl
theorem klX10_218 : Cond.methodLink RX10 218 yX6_fewestDarners ∈ eT := eT_in (i := 754) (by decide +kernel) rfl
theorem klX6_87 : Cond.methodLink RX6 87 yJ6_bitCount_0f7a4 ∈ eT := eT_in (i := 758) (by decide +kernel) rfl
theorem klX6_92 : Cond.methodLink RX6 92 yX1_cellsOfTowns ∈ eT := eT_in (i := 759) (by decide +kernel) rfl
theorem klL_88 : Cond.methodLink RL 88 yX10_odds ∈ eT := eT_in (i := 760) (by decide +kernel) rfl
theorem klX10_221 : Cond.methodLink RX10 221 yX3_upperNumber ∈ eT := eT_in (i := 764) (by decide +kernel) rfl
theorem klX3_36 : Cond.methodLink RX3 36 yX3_foretell ∈ eT := eT_in (i := 768) (by decide +kernel) rfl
theorem klX3_58 : Cond.methodLink RX3 58 yX7_fill ∈ eT := eT_in (i := 772) (by decide +kernel) rfl
theorem klX3_61 : Cond.methodLink RX3 61 yX7_put ∈ eT := eT_in (i := 773) (by decide +kernel) rfl
theorem klX3_51 : Cond.methodLink RX3 51 yX7_get ∈ eT := eT_in (i := 774) (by decide +kernel) rfl
theorem klX3_40 : Cond.methodLink RX3 40 yX0_become ∈ eT := eT_in (i := 775) (by decide +kernel) rfl
theorem klX0_28 : Cond.methodLink RX0 28 yX0_copyTo ∈ eT := eT_in (i := 779) (by decide +kernel) rfl
theorem klX3_44 : Cond.methodLink RX3 44 yX6_lay ∈ eT := eT_in (i := 780) (by decide +kernel) rfl
theorem klX3_47 : Cond.methodLink RX3 47 yX6_pieces ∈ eT := eT_in (i := 781) (by decide +kernel) rfl
theorem klX3_55 : Cond.methodLink RX3 55 yX0_fray ∈ eT := eT_in (i := 782) (by decide +kernel) rfl
theorem klX10_225 : Cond.methodLink RX10 225 yX3_lowerNumber ∈ eT := eT_in (i := 783) (by decide +kernel) rfl
theorem klX10_228 : Cond.methodLink RX10 228 yX10_commonDivisor ∈ eT := eT_in (i := 787) (by decide +kernel) rfl
theorem klL_93 : Cond.methodLink RL 93 yX10_wrong ∈ eT := eT_in (i := 790) (by decide +kernel) rfl
theorem klX10_231 : Cond.methodLink RX10 231 yX0_cellIf ∈ eT := eT_in (i := 794) (by decide +kernel) rfl
theorem klX0_61 : Cond.methodLink RX0 61 yX1_cellBy ∈ eT := eT_in (i := 798) (by decide +kernel) rfl
theorem klL_97 : Cond.methodLink RL 97 yX10_look ∈ eT := eT_in (i := 799) (by decide +kernel) rfl
theorem klX10_235 : Cond.methodLink RX10 235 yX0_cellBehind ∈ eT := eT_in (i := 803) (by decide +kernel) rfl
theorem klX10_238 : Cond.methodLink RX10 238 yJ6_bitCount_0f7a4 ∈ eT := eT_in (i := 804) (by decide +kernel) rfl
theorem klL_101 : Cond.methodLink RL 101 yX10_rate ∈ eT := eT_in (i := 805) (by decide +kernel) rfl
theorem klX10_244 : Cond.methodLink RX10 244 yX5_asBolt ∈ eT := eT_in (i := 810) (by decide +kernel) rfl
theorem klX5_21 : Cond.methodLink RX5 21 yX0_length ∈ eT := eT_in (i := 814) (by decide +kernel) rfl
theorem klX10_247 : Cond.methodLink RX10 247 yX5_asLane ∈ eT := eT_in (i := 815) (by decide +kernel) rfl
theorem klX5_29 : Cond.methodLink RX5 29 yX5_asBolt ∈ eT := eT_in (i := 820) (by decide +kernel) rfl
theorem klX5_32 : Cond.methodLink RX5 32 yX0_lastCell ∈ eT := eT_in (i := 821) (by decide +kernel) rfl
theorem klX10_250 : Cond.methodLink RX10 250 yX5_asToll ∈ eT := eT_in (i := 822) (by decide +kernel) rfl
theorem klX5_37 : Cond.methodLink RX5 37 yX0_climb ∈ eT := eT_in (i := 827) (by decide +kernel) rfl
theorem klX10_253 : Cond.methodLink RX10 253 yX5_asTrack ∈ eT := eT_in (i := 828) (by decide +kernel) rfl
theorem klX5_42 : Cond.methodLink RX5 42 yX5_asLane ∈ eT := eT_in (i := 833) (by decide +kernel) rfl
theorem klX10_256 : Cond.methodLink RX10 256 yX5_asMoth ∈ eT := eT_in (i := 834) (by decide +kernel) rfl
theorem klX5_47 : Cond.methodLink RX5 47 yX5_asToll ∈ eT := eT_in (i := 839) (by decide +kernel) rfl
theorem klX10_259 : Cond.methodLink RX10 259 yX5_asDream ∈ eT := eT_in (i := 840) (by decide +kernel) rfl
theorem klX5_52 : Cond.methodLink RX5 52 yX6_lay ∈ eT := eT_in (i := 845) (by decide +kernel) rfl
theorem klX5_58 : Cond.methodLink RX5 58 yX6_pieces ∈ eT := eT_in (i := 846) (by decide +kernel) rfl
theorem klL_105 : Cond.methodLink RL 105 yX10_keep ∈ eT := eT_in (i := 847) (by decide +kernel) rfl
theorem klX10_262 : Cond.methodLink RX10 262 yX10_isImage ∈ eT := eT_in (i := 851) (by decide +kernel) rfl
theorem klX10_265 : Cond.methodLink RX10 265 yX0_copyTo ∈ eT := eT_in (i := 854) (by decide +kernel) rfl
theorem klL_109 : Cond.methodLink RL 109 yX10_back ∈ eT := eT_in (i := 855) (by decide +kernel) rfl
theorem klX10_269 : Cond.methodLink RX10 269 yX0_copyFrom ∈ eT := eT_in (i := 859) (by decide +kernel) rfl
theorem klL_113 : Cond.methodLink RL 113 yX10_count ∈ eT := eT_in (i := 860) (by decide +kernel) rfl
theorem klX10_272 : Cond.methodLink RX10 272 yX1_wide ∈ eT := eT_in (i := 864) (by decide +kernel) rfl
theorem klX10_275 : Cond.methodLink RX10 275 yX1_deep ∈ eT := eT_in (i := 865) (by decide +kernel) rfl
theorem klX10_278 : Cond.methodLink RX10 278 yX1_slope ∈ eT := eT_in (i := 869) (by decide +kernel) rfl
theorem klL_117 : Cond.methodLink RL 117 yX10_trace ∈ eT := eT_in (i := 870) (by decide +kernel) rfl
theorem klX10_281 : Cond.methodLink RX10 281 yX5_traced ∈ eT := eT_in (i := 874) (by decide +kernel) rfl
theorem klL_12 : Cond.methodLink RL 12 yX11_init ∈ eT := eT_in (i := 880) (by decide +kernel) rfl
theorem klX11_1 : Cond.methodLink RX11 1 objectInit ∈ eT := eT_in (i := 883) (by decide +kernel) rfl
theorem klL_17 : Cond.methodLink RL 17 yX11_type ∈ eT := eT_in (i := 955) (by decide +kernel) rfl
theorem klX11_54 : Cond.methodLink RX11 54 yX11_in ∈ eT := eT_in (i := 959) (by decide +kernel) rfl
theorem klL_22 : Cond.methodLink RL 22 yX11_clear ∈ eT := eT_in (i := 962) (by decide +kernel) rfl
theorem klL_26 : Cond.methodLink RL 26 yX11_land ∈ eT := eT_in (i := 966) (by decide +kernel) rfl
theorem klX11_84 : Cond.methodLink RX11 84 yX11_advances ∈ eT := eT_in (i := 970) (by decide +kernel) rfl
theorem klX11_64 : Cond.methodLink RX11 64 yX11_letterAt ∈ eT := eT_in (i := 974) (by decide +kernel) rfl
theorem klX11_80 : Cond.methodLink RX11 80 yX11_isWell ∈ eT := eT_in (i := 978) (by decide +kernel) rfl
theorem klX11_103 : Cond.methodLink RX11 103 yX11_mayBegin ∈ eT := eT_in (i := 982) (by decide +kernel) rfl
theorem klX11_87 : Cond.methodLink RX11 87 yX11_takes ∈ eT := eT_in (i := 986) (by decide +kernel) rfl
theorem klX11_106 : Cond.methodLink RX11 106 yX11_readsItem ∈ eT := eT_in (i := 990) (by decide +kernel) rfl
theorem klX11_95 : Cond.methodLink RX11 95 yX11_number ∈ eT := eT_in (i := 994) (by decide +kernel) rfl
theorem klX11_99 : Cond.methodLink RX11 99 yX11_isTaken ∈ eT := eT_in (i := 998) (by decide +kernel) rfl
theorem klX11_110 : Cond.methodLink RX11 110 yX11_settles ∈ eT := eT_in (i := 1002) (by decide +kernel) rfl
theorem klL_30 : Cond.methodLink RL 30 yX11_height ∈ eT := eT_in (i := 1006) (by decide +kernel) rfl
theorem klX11_120 : Cond.methodLink RX11 120 yX11_isCell ∈ eT := eT_in (i := 1010) (by decide +kernel) rfl
theorem klX11_116 : Cond.methodLink RX11 116 yX11_cells ∈ eT := eT_in (i := 1014) (by decide +kernel) rfl
theorem klL_34 : Cond.methodLink RL 34 yX11_town ∈ eT := eT_in (i := 1018) (by decide +kernel) rfl
theorem klL_39 : Cond.methodLink RL 39 yX11_bolt ∈ eT := eT_in (i := 1022) (by decide +kernel) rfl
theorem klX11_143 : Cond.methodLink RX11 143 yX11_isBolt ∈ eT := eT_in (i := 1026) (by decide +kernel) rfl
theorem klX11_129 : Cond.methodLink RX11 129 yX11_firstOf ∈ eT := eT_in (i := 1030) (by decide +kernel) rfl
theorem klX11_146 : Cond.methodLink RX11 146 yX11_endOf ∈ eT := eT_in (i := 1033) (by decide +kernel) rfl
theorem klX11_137 : Cond.methodLink RX11 137 yX11_cardsOf ∈ eT := eT_in (i := 1037) (by decide +kernel) rfl
theorem klX11_140 : Cond.methodLink RX11 140 yX11_behind ∈ eT := eT_in (i := 1040) (by decide +kernel) rfl
theorem klX11_133 : Cond.methodLink RX11 133 yX11_cardAt ∈ eT := eT_in (i := 1044) (by decide +kernel) rfl
theorem klX11_123 : Cond.methodLink RX11 123 yX11_leads ∈ eT := eT_in (i := 1047) (by decide +kernel) rfl
theorem klX11_149 : Cond.methodLink RX11 149 yX11_upOf ∈ eT := eT_in (i := 1051) (by decide +kernel) rfl
theorem klL_43 : Cond.methodLink RL 43 yX11_card ∈ eT := eT_in (i := 1055) (by decide +kernel) rfl
theorem klL_47 : Cond.methodLink RL 47 yX11_road ∈ eT := eT_in (i := 1059) (by decide +kernel) rfl
theorem klX11_152 : Cond.methodLink RX11 152 yX11_builds ∈ eT := eT_in (i := 1063) (by decide +kernel) rfl
theorem klL_51 : Cond.methodLink RL 51 yX11_now ∈ eT := eT_in (i := 1067) (by decide +kernel) rfl
theorem klX11_166 : Cond.methodLink RX11 166 yX11_ells ∈ eT := eT_in (i := 1071) (by decide +kernel) rfl
theorem klX11_169 : Cond.methodLink RX11 169 yX11_piecesOf ∈ eT := eT_in (i := 1075) (by decide +kernel) rfl
theorem klX11_157 : Cond.methodLink RX11 157 yX11_spreads ∈ eT := eT_in (i := 1079) (by decide +kernel) rfl
theorem klX11_173 : Cond.methodLink RX11 173 yX11_nowhere ∈ eT := eT_in (i := 1084) (by decide +kernel) rfl
theorem klX11_160 : Cond.methodLink RX11 160 yX11_isTown ∈ eT := eT_in (i := 1088) (by decide +kernel) rfl
theorem klX11_176 : Cond.methodLink RX11 176 yX11_steep ∈ eT := eT_in (i := 1092) (by decide +kernel) rfl
theorem klX11_126 : Cond.methodLink RX11 126 yX11_step ∈ eT := eT_in (i := 1096) (by decide +kernel) rfl
theorem klX11_179 : Cond.methodLink RX11 179 yX11_leastSlope ∈ eT := eT_in (i := 1100) (by decide +kernel) rfl
theorem klX11_163 : Cond.methodLink RX11 163 yX11_couldBe ∈ eT := eT_in (i := 1104) (by decide +kernel) rfl
theorem klL_55 : Cond.methodLink RL 55 yX11_begins ∈ eT := eT_in (i := 1108) (by decide +kernel) rfl
theorem klX11_182 : Cond.methodLink RX11 182 yX11_notes ∈ eT := eT_in (i := 1112) (by decide +kernel) rfl
theorem klL_59 : Cond.methodLink RL 59 yX11_weaves ∈ eT := eT_in (i := 1116) (by decide +kernel) rfl
theorem klX11_185 : Cond.methodLink RX11 185 yX11_goes ∈ eT := eT_in (i := 1120) (by decide +kernel) rfl
theorem klL_63 : Cond.methodLink RL 63 yX11_turnAbout ∈ eT := eT_in (i := 1124) (by decide +kernel) rfl
theorem klL_67 : Cond.methodLink RL 67 yX11_rain ∈ eT := eT_in (i := 1128) (by decide +kernel) rfl
theorem klX11_188 : Cond.methodLink RX11 188 yX11_frays ∈ eT := eT_in (i := 1132) (by decide +kernel) rfl
theorem klL_71 : Cond.methodLink RL 71 yX11_undo ∈ eT := eT_in (i := 1136) (by decide +kernel) rfl
theorem klL_75 : Cond.methodLink RL 75 yX11_joined ∈ eT := eT_in (i := 1140) (by decide +kernel) rfl
theorem klL_79 : Cond.methodLink RL 79 yX11_toWeave ∈ eT := eT_in (i := 1144) (by decide +kernel) rfl
theorem klX11_191 : Cond.methodLink RX11 191 yX11_grows ∈ eT := eT_in (i := 1148) (by decide +kernel) rfl
theorem klL_83 : Cond.methodLink RL 83 yX11_way ∈ eT := eT_in (i := 1152) (by decide +kernel) rfl
theorem klX11_194 : Cond.methodLink RX11 194 yX11_ones ∈ eT := eT_in (i := 1156) (by decide +kernel) rfl
theorem klL_87 : Cond.methodLink RL 87 yX11_darners ∈ eT := eT_in (i := 1159) (by decide +kernel) rfl
theorem klX11_197 : Cond.methodLink RX11 197 yX11_areNear ∈ eT := eT_in (i := 1163) (by decide +kernel) rfl
theorem klL_92 : Cond.methodLink RL 92 yX11_odds ∈ eT := eT_in (i := 1167) (by decide +kernel) rfl
theorem klX11_201 : Cond.methodLink RX11 201 yX11_choose ∈ eT := eT_in (i := 1171) (by decide +kernel) rfl
theorem klX11_204 : Cond.methodLink RX11 204 yX11_power ∈ eT := eT_in (i := 1174) (by decide +kernel) rfl
theorem klX11_207 : Cond.methodLink RX11 207 yX11_gcd ∈ eT := eT_in (i := 1177) (by decide +kernel) rfl
theorem klL_96 : Cond.methodLink RL 96 yX11_wrong ∈ eT := eT_in (i := 1180) (by decide +kernel) rfl
theorem klX11_210 : Cond.methodLink RX11 210 yX11_otherwise ∈ eT := eT_in (i := 1184) (by decide +kernel) rfl
theorem klL_100 : Cond.methodLink RL 100 yX11_look ∈ eT := eT_in (i := 1188) (by decide +kernel) rfl
theorem klL_104 : Cond.methodLink RL 104 yX11_rate ∈ eT := eT_in (i := 1192) (by decide +kernel) rfl
theorem klL_108 : Cond.methodLink RL 108 yX11_keep ∈ eT := eT_in (i := 1202) (by decide +kernel) rfl
theorem klL_112 : Cond.methodLink RL 112 yX11_back ∈ eT := eT_in (i := 1206) (by decide +kernel) rfl
theorem klL_116 : Cond.methodLink RL 116 yX11_count ∈ eT := eT_in (i := 1210) (by decide +kernel) rfl
theorem klL_121 : Cond.methodLink RL 121 yX11_trace ∈ eT := eT_in (i := 1214) (by decide +kernel) rfl
theorem knX10_18 : Cond.methodLinkNest RX10 18 yX2_init "WovenRoads" ∈ eNw := List.mem_filter.mpr ⟨List.mem_of_getElem? (i := 72) (by decide +kernel), rfl⟩
theorem knX9_11 : Cond.methodLinkNest RX9 11 yX10_bit "WovenRoads" ∈ eNw := List.mem_filter.mpr ⟨List.mem_of_getElem? (i := 190) (by decide +kernel), rfl⟩
theorem knX1_54 : Cond.methodLinkNest RX1 54 yX10_bit "WovenRoads" ∈ eNw := List.mem_filter.mpr ⟨List.mem_of_getElem? (i := 373) (by decide +kernel), rfl⟩
theorem knX6_65 : Cond.methodLinkNest RX6 65 yX10_bit "WovenRoads" ∈ eNw := List.mem_filter.mpr ⟨List.mem_of_getElem? (i := 508) (by decide +kernel), rfl⟩
theorem knX0_85 : Cond.methodLinkNest RX0 85 yX10_bit "WovenRoads" ∈ eNw := List.mem_filter.mpr ⟨List.mem_of_getElem? (i := 549) (by decide +kernel), rfl⟩
theorem knX8_67 : Cond.methodLinkNest RX8 67 yX10_bit "WovenRoads" ∈ eNw := List.mem_filter.mpr ⟨List.mem_of_getElem? (i := 701) (by decide +kernel), rfl⟩
theorem kcL_7 : Cond.classLink RL 7 RX10 ∈ eT := eT_in (i := 61) (by decide +kernel) rfl
theorem kcX10_9 : Cond.classLink RX10 9 RX1 ∈ eT := eT_in (i := 69) (by decide +kernel) rfl
theorem kcX1_9 : Cond.classLink RX1 9 RX7 ∈ eT := eT_in (i := 75) (by decide +kernel) rfl
theorem kcX10_16 : Cond.classLink RX10 16 RX2 ∈ eT := eT_in (i := 116) (by decide +kernel) rfl
theorem kcX2_9 : Cond.classLink RX2 9 RX7 ∈ eT := eT_in (i := 122) (by decide +kernel) rfl
theorem kcX2_24 : Cond.classLink RX2 24 RX1 ∈ eT := eT_in (i := 124) (by decide +kernel) rfl
theorem kcX10_23 : Cond.classLink RX10 23 RX0 ∈ eT := eT_in (i := 154) (by decide +kernel) rfl
theorem kcX0_11 : Cond.classLink RX0 11 RX7 ∈ eT := eT_in (i := 160) (by decide +kernel) rfl
theorem kcX10_32 : Cond.classLink RX10 32 RX4 ∈ eT := eT_in (i := 169) (by decide +kernel) rfl
theorem kcX4_9 : Cond.classLink RX4 9 RX7 ∈ eT := eT_in (i := 175) (by decide +kernel) rfl
theorem kcX10_41 : Cond.classLink RX10 41 RX7 ∈ eT := eT_in (i := 190) (by decide +kernel) rfl
theorem kcX10_54 : Cond.classLink RX10 54 RX6 ∈ eT := eT_in (i := 192) (by decide +kernel) rfl
theorem kcX10_61 : Cond.classLink RX10 61 RX8 ∈ eT := eT_in (i := 208) (by decide +kernel) rfl
theorem kcX8_9 : Cond.classLink RX8 9 RX7 ∈ eT := eT_in (i := 214) (by decide +kernel) rfl
theorem kcX10_70 : Cond.classLink RX10 70 RX9 ∈ eT := eT_in (i := 229) (by decide +kernel) rfl
theorem kcX9_9 : Cond.classLink RX9 9 RX7 ∈ eT := eT_in (i := 235) (by decide +kernel) rfl
theorem kcX9_32 : Cond.classLink RX9 32 RX6 ∈ eT := eT_in (i := 240) (by decide +kernel) rfl
theorem kcX10_79 : Cond.classLink RX10 79 RX3 ∈ eT := eT_in (i := 255) (by decide +kernel) rfl
theorem kcX3_9 : Cond.classLink RX3 9 RX7 ∈ eT := eT_in (i := 261) (by decide +kernel) rfl
theorem kcX3_20 : Cond.classLink RX3 20 RX0 ∈ eT := eT_in (i := 263) (by decide +kernel) rfl
theorem kcX3_29 : Cond.classLink RX3 29 RX6 ∈ eT := eT_in (i := 265) (by decide +kernel) rfl
theorem kcX10_86 : Cond.classLink RX10 86 RX5 ∈ eT := eT_in (i := 277) (by decide +kernel) rfl
theorem kcL_10 : Cond.classLink RL 10 RX11 ∈ eT := eT_in (i := 878) (by decide +kernel) rfl
theorem kkJ6_265 : Cond.constant RJ6 265 (1431655765) ∈ eT := eT_in (i := 713) (by decide +kernel) rfl
theorem kkJ6_266 : Cond.constant RJ6 266 (858993459) ∈ eT := eT_in (i := 714) (by decide +kernel) rfl
theorem kkJ6_267 : Cond.constant RJ6 267 (252645135) ∈ eT := eT_in (i := 715) (by decide +kernel) rfl
theorem kkX10_243 : Cond.constant RX10 243 (-1000000) ∈ eT := eT_in (i := 809) (by decide +kernel) rfl
theorem kkX11_156 : Cond.constant RX11 156 (1000000) ∈ eT := eT_in (i := 1083) (by decide +kernel) rfl
theorem kkX11_214 : Cond.constant RX11 214 (-1000000) ∈ eT := eT_in (i := 1196) (by decide +kernel) rfl
theorem kjX5_27 : Cond.constantLong RX5 27 (10) ∈ eT := eT_in (i := 819) (by decide +kernel) rfl
theorem kjX5_35 : Cond.constantLong RX5 35 (100) ∈ eT := eT_in (i := 826) (by decide +kernel) rfl
theorem kjX5_40 : Cond.constantLong RX5 40 (1000) ∈ eT := eT_in (i := 832) (by decide +kernel) rfl
theorem kjX5_45 : Cond.constantLong RX5 45 (10000) ∈ eT := eT_in (i := 838) (by decide +kernel) rfl
theorem kjX5_50 : Cond.constantLong RX5 50 (100000) ∈ eT := eT_in (i := 844) (by decide +kernel) rfl
theorem kjX11_219 : Cond.constantLong RX11 219 (11) ∈ eT := eT_in (i := 1197) (by decide +kernel) rfl
theorem kjX11_221 : Cond.constantLong RX11 221 (101) ∈ eT := eT_in (i := 1198) (by decide +kernel) rfl
theorem kjX11_223 : Cond.constantLong RX11 223 (1011) ∈ eT := eT_in (i := 1199) (by decide +kernel) rfl
theorem kjX11_225 : Cond.constantLong RX11 225 (10101) ∈ eT := eT_in (i := 1200) (by decide +kernel) rfl
theorem kjX11_227 : Cond.constantLong RX11 227 (100001) ∈ eT := eT_in (i := 1201) (by decide +kernel) rfl
end
section
/-! ===== contracts over worlds of numbered cells, calls, ends ===== -/
abbrev eRm (d mc ms : Nat) : Room := { frames := d, cells := mc, slots := ms, locals := 34 * d }
def eWs (y : MethodName) (cc : ByteArray) (nL : Nat) (ret : Option FieldType) : List Cond := .code y cc nL ret :: eT
def eB (D : va_G) (cI cZ : ClassId) (r : Nat → Nat) (w : eW) (sz : Nat) (U : State) : Prop :=
  U.heap.size = sz ∧ va_P D vwCl (e_cw cI cZ r w) U.heap ∧ va_K D vwCl (e_ty cI cZ) U ∧ va_D (fun _ => True) (e_cw cI cZ r w) ∧ eNest U
def eQN (D : va_G) (cI cZ : ClassId) (r : Nat → Nat) (A : Nat → Prop) (v : Option Value) (w' : eW) : Array Value → State → Outcome → State → Prop :=
  fun _ st oc t => oc = .returned (v.map (e_cv r)) ∧ va_P D vwCl (e_cw cI cZ r w') t.heap ∧ va_D A (e_cw cI cZ r w') ∧ va_F A st t
/-- a method that makes nothing: from world w with these arguments it comes to world w' and answers v -/
def eMN (l : Launch) (D : va_G) (cI cZ : ClassId) (d : Nat) (y : MethodName) (cc : ByteArray) (nL : Nat) (ret : Option FieldType) (As : List Value) (w : eW) (v : Option Value) (w' : eW) : Prop :=
  ∀ (r : Nat → Nat) (sz : Nat), Met l y (eWs y cc nL ret) (eRm d 0 0) (va_Pc (As.map (e_cv r)) (eB D cI cZ r w sz)) (eQN D cI cZ r (va_A (e_cw cI cZ r w) sz) v w') 0 0 (va_A (e_cw cI cZ r w) sz)
theorem eT_good {w : Cond} (h : w ∈ eT) : goodWord w = true := (List.mem_filter.mp h).2
theorem eWs_good {y : MethodName} {cc : ByteArray} {nL : Nat} {ret : Option FieldType} (hc : Cond.code y cc nL ret ∈ eT) : GoodIn eT (eWs y cc nL ret) := by
  intro w hw
  rcases List.mem_cons.mp hw with rfl | h
  · exact ⟨hc, good_of_word (eT_good hc)⟩
  · exact ⟨h, good_of_word (eT_good h)⟩
theorem eB_blind (D : va_G) (cI cZ : ClassId) (r : Nat → Nat) (w : eW) (sz : Nat) (As : List Value) : FrameBlind (va_Pc As (eB D cI cZ r w sz)) := by
  intro a U g mk q
  obtain ⟨q0, q1, qP, qK, qD, qN⟩ := q
  exact ⟨q0, q1, qP, va_K.moved (u := U) (U := U.calling g mk a) (Vm.Alike.refl U.vm) qK, qD, eNest_same (s := U) rfl qN⟩
section EVC
variable {p : Program} {l : Launch} {e : Env} {R : Room} {s : State} {m : MethodId} {args : Array Value} {below : List Frame} {meth : Method} {c : Code} {D : va_G} {cI cZ : ClassId} {A : Nat → Prop} {H0 : Heap} {nL : Nat} {Q : State → Prop} {cells slots : Nat} {r : Nat → Nat} {pc : Nat} {L L' : List (Nat × Value)} {S : List Value} {w w' : eW}
variable {y : MethodName} {cc : ByteArray} {ret : Option FieldType}
theorem e_free (hD : va_D A (e_cw cI cZ r w)) {H : Heap} {locs : List Loc} (hS : va_S A H0 H locs) (hA : ∀ q : Nat, H0.size ≤ q → A q) : ∀ q, va_A (e_cw cI cZ r w) H.size q → A q := by
  intro q h
  rcases h with ⟨k, e, h⟩ | h
  · exact hD.2 k (q, e) h
  · exact hA q (Nat.le_trans hS.1 h)
theorem ev_run (X : eX p s m args meth c D cI cZ A H0 y cc nL ret) {As : List Value} {v : Option Value}
    (hr : ∀ (H : Heap) (locs : List Loc) (ls : Array Slot), va_P D vwCl (e_cw cI cZ r w) H → va_D A (e_cw cI cZ r w) → lv_has ls nL (e_L r L) → va_Run p l e R s m args below meth c H locs cells slots 0 0 (F0 m pc ls ((As.reverse ++ S).map (e_cv r))) (S.map (e_cv r)) (eQN D cI cZ r (va_A (e_cw cI cZ r w) H.size) v w' (As.map (e_cv r)).toArray) (va_A (e_cw cI cZ r w) H.size))
    (k : EV p l e R s m args below meth c D cI cZ A H0 nL Q cells slots r (pc + 3) L (v.toList ++ S) w') : EV p l e R s m args below meth c D cI cZ A H0 nL Q cells slots r pc L (As.reverse ++ S) w := by
  intro H locs ls hP hD hS hl T hT X0
  obtain ⟨v1, st0, t, T', L2, h0, X', hL, e1, e2, ⟨hv, hP', hD', hz, hk⟩, st⟩ := hr H locs ls hP hD hl T hT X0
  have hF := e_free hD hS X.2.2.2.2.2.2.2.2.2.1
  cases hv
  rw [h0] at hz hk
  obtain ⟨t2, a1, b1⟩ := k T'.heap (locs ++ L2) ls (by rw [e1]; exact hP') (hD'.weaken (fun k q _ h => hF q.1 h))
    ⟨Nat.le_trans hS.1 (by rw [e1]; exact hz), fun q h1 h2 => by rw [e1, hk q (Nat.lt_of_lt_of_le h1 hS.1) (fun z => h2 (hF q z))]; exact hS.2.1 q h1 h2, fun q hq => by
      rcases List.mem_append.mp hq with h | h
      · exact hS.2.2 q h
      · exact hF _ (hL q h)⟩ hl T' rfl X'
  refine ⟨t2, st t2 ?_, b1⟩
  have e3 : (v.map (e_cv r)).toList ++ S.map (e_cv r) = (v.toList ++ S).map (e_cv r) := by cases v <;> simp
  rw [e3]
  exact a1
theorem e_sum (S : List Value) (r : Nat → Nat) : ((S.map (e_cv r)).map fun v => v.category).sum = (S.map fun v => v.category).sum := by
  rw [List.map_map]
  congr 1
  apply List.map_congr_left
  intro v _
  exact e_cv_cat r v
theorem e_callB (X : eX p s m args meth c D cI cZ A H0 y cc nL ret) {y1 : MethodName} {cc1 : ByteArray} {nL1 n1 d1 idx mc ms : Nat} {ret1 : Option FieldType} (hw : eMw y1 cc1 nL1 ret1 n1) (hl : Cond.methodLink y.cls idx y1 ∈ eT) (hR : d1 + 1 ≤ R.frames ∧ 8 + (nL1 + 11) + 34 * d1 ≤ R.locals) :
    CallB R s args y.cls idx y1 cc1 nL1 ret1 (eWs y1 cc1 nL1 ret1) (eRm d1 mc ms) mc ms n1 :=
  callB_of n1 X.2.2.2.2.1 (eWs_good hw.1) rfl rfl rfl (X.2.2.2.2.1 _ hw.2.1) (X.2.2.2.2.1 _ hl) hw.2.2 hR
theorem e_callN (X : eX p s m args meth c D cI cZ A H0 y cc nL ret) {y1 : MethodName} {cc1 : ByteArray} {nL1 n1 d1 idx mc ms : Nat} {ret1 : Option FieldType} {host : String} (hw : eMw y1 cc1 nL1 ret1 n1) (hl : Cond.methodLinkNest y.cls idx y1 host ∈ eNw) (hR : d1 + 1 ≤ R.frames ∧ 8 + (nL1 + 11) + 34 * d1 ≤ R.locals) :
    va_CN R s args y.cls idx y1 host cc1 nL1 ret1 (eWs y1 cc1 nL1 ret1) (eRm d1 mc ms) mc ms n1 :=
  va_cnB n1 X.2.2.2.2.1 (eWs_good hw.1) rfl rfl rfl (X.2.2.2.2.2.2.2.2.1 _ hl) (X.2.2.2.2.1 _ hw.2.1) hw.2.2 hR
theorem e_pre (X : eX p s m args meth c D cI cZ A H0 y cc nL ret) {H : Heap} (hP : va_P D vwCl (e_cw cI cZ r w) H) (hD : va_D A (e_cw cI cZ r w)) (As : List Value) : PreS s H (va_Pc As (eB D cI cZ r w H.size)) As :=
  ⟨eB_blind _ _ _ _ _ _ _, fun U hU hW => ⟨rfl, by rw [hU], by rw [hU]; exact hP, va_K.moved hW.alike X.2.2.2.2.2.2.2.1, hD.weaken (fun _ _ _ _ => trivial), eNest_warm hW X.2.2.2.2.2.2.2.2.1⟩⟩
theorem e_map_rev (r : Nat → Nat) (As S : List Value) : (As.reverse ++ S).map (e_cv r) = (As.map (e_cv r)).reverse ++ S.map (e_cv r) := by simp
/-- a static method -/
theorem ev_callS (X : eX p s m args meth c D cI cZ A H0 y cc nL ret) {y1 : MethodName} {cc1 : ByteArray} {nL1 n1 d1 idx : Nat} {ret1 : Option FieldType} (hw : eMw y1 cc1 nL1 ret1 n1) (hl : Cond.methodLink y.cls idx y1 ∈ eT) (hst : Cond.static y1 ∈ eT) (hR : d1 + 1 ≤ R.frames ∧ 8 + (nL1 + 11) + 34 * d1 ≤ R.locals) (hf : cells ≤ R.cells ∧ slots ≤ R.slots)
    {As : List Value} {v : Option Value} (hn : As.length = n1) (hS8 : (S.map fun v => v.category).sum ≤ 8) (hd : decode cc pc = .ok (.invokestatic idx, 3)) (hM : eMN l D cI cZ d1 y1 cc1 nL1 ret1 As w v w')
    (k : EV p l e R s m args below meth c D cI cZ A H0 nL Q cells slots r (pc + 3) L (v.toList ++ S) w') : EV p l e R s m args below meth c D cI cZ A H0 nL Q cells slots r pc L (As.reverse ++ S) w := by
  refine ev_run X (fun H locs ls hP hD hl2 => ?_) k
  exact va_runS (As := As.map (e_cv r)) ⟨X.1, X.2.1, X.2.2.1, X.2.2.2.1, X.2.2.2.2.1⟩ (hM r H.size) ⟨e_callB X hw hl hR, X.2.2.2.2.1 _ hst⟩ (e_pre X hP hD _) rfl (by simpa using hn) hl2.1 (e_map_rev r As S) (lv_room (by rw [e_sum]; exact hS8)) hd hf
/-- a nest mate's private static method -/
theorem ev_callSN (X : eX p s m args meth c D cI cZ A H0 y cc nL ret) {y1 : MethodName} {cc1 : ByteArray} {nL1 n1 d1 idx : Nat} {ret1 : Option FieldType} {host : String} (hw : eMw y1 cc1 nL1 ret1 n1) (hl : Cond.methodLinkNest y.cls idx y1 host ∈ eNw) (hst : Cond.static y1 ∈ eT) (hR : d1 + 1 ≤ R.frames ∧ 8 + (nL1 + 11) + 34 * d1 ≤ R.locals) (hf : cells ≤ R.cells ∧ slots ≤ R.slots)
    {As : List Value} {v : Option Value} (hn : As.length = n1) (hS8 : (S.map fun v => v.category).sum ≤ 8) (hd : decode cc pc = .ok (.invokestatic idx, 3)) (hM : eMN l D cI cZ d1 y1 cc1 nL1 ret1 As w v w')
    (k : EV p l e R s m args below meth c D cI cZ A H0 nL Q cells slots r (pc + 3) L (v.toList ++ S) w') : EV p l e R s m args below meth c D cI cZ A H0 nL Q cells slots r pc L (As.reverse ++ S) w := by
  refine ev_run X (fun H locs ls hP hD hl2 => ?_) k
  exact va_runSN (As := As.map (e_cv r)) ⟨X.1, X.2.1, X.2.2.1, X.2.2.2.1, X.2.2.2.2.1⟩ (hM r H.size) ⟨e_callN X hw hl hR, X.2.2.2.2.1 _ hst, trivial⟩ (e_pre X hP hD _) rfl (by simpa using hn) hl2.1 (e_map_rev r As S) (lv_room (by rw [e_sum]; exact hS8)) hd hf
/-- a method of an object -/
theorem ev_callV (X : eX p s m args meth c D cI cZ A H0 y cc nL ret) {y1 : MethodName} {cc1 : ByteArray} {nL1 n1 d1 idx ci o : Nat} {ret1 : Option FieldType} {q : vw_C} (hw : eMw y1 cc1 nL1 ret1 n1) (hl : Cond.methodLink y.cls idx y1 ∈ eT) (hin : Cond.instanceMethod y1 ∈ eT) (hse : Cond.selects y1.cls y1 y1 ∈ eT) (hq : vwCl[ci]? = some q ∧ q.1 = y1.cls) (hR : d1 + 1 ≤ R.frames ∧ 8 + (nL1 + 11) + 34 * d1 ≤ R.locals) (hf : cells ≤ R.cells ∧ slots ≤ R.slots)
    {As : List Value} {v : Option Value} (hn : As.length = n1) (hS8 : (S.map fun v => v.category).sum ≤ 8) (hd : decode cc pc = .ok (.invokevirtual idx, 3)) (ho : eO w o ci = true) (hM : eMN l D cI cZ d1 y1 cc1 nL1 ret1 (.ref o :: As) w v w')
    (k : EV p l e R s m args below meth c D cI cZ A H0 nL Q cells slots r (pc + 3) L (v.toList ++ S) w') : EV p l e R s m args below meth c D cI cZ A H0 nL Q cells slots r pc L (As.reverse ++ .ref o :: S) w := by
  have e0 : As.reverse ++ .ref o :: S = (Value.ref o :: As).reverse ++ S := by simp
  rw [e0]
  refine ev_run X (fun H locs ls hP hD hl2 => ?_) k
  obtain ⟨fs, hfs⟩ := eO_at ho
  have hp := e_pre X hP hD ((Value.ref o :: As).map (e_cv r))
  have hrc := va_recv X.2.2.2.2.2.2.2.1 hP hq.1 (e_cw_at hfs)
  rw [hq.2] at hrc
  exact va_runV (As := As.map (e_cv r)) (b := r o) (rest := S.map (e_cv r)) ⟨X.1, X.2.1, X.2.2.1, X.2.2.2.1, X.2.2.2.2.1⟩ (hM r H.size) ⟨e_callB X hw hl hR, X.2.2.2.2.1 _ hin, X.2.2.2.2.1 _ hse⟩ ⟨hp.1, hrc, hp.2⟩ rfl (by simpa using hn) hl2.1 (by simp [e_cv]) (lv_room (by rw [e_sum]; exact hS8)) hd hf
/-- a constructor that makes nothing -/
theorem ev_callI (X : eX p s m args meth c D cI cZ A H0 y cc nL ret) {y1 : MethodName} {cc1 : ByteArray} {nL1 n1 d1 idx o : Nat} (hw : eMw y1 cc1 nL1 none n1) (hl : Cond.methodLink y.cls idx y1 ∈ eT) (hin : Cond.instanceMethod y1 ∈ eT) (hy : y1.name = "<init>") (hR : d1 + 1 ≤ R.frames ∧ 8 + (nL1 + 11) + 34 * d1 ≤ R.locals) (hf : cells ≤ R.cells ∧ slots ≤ R.slots)
    {As : List Value} (hn : As.length = n1) (hS8 : (S.map fun v => v.category).sum ≤ 8) (hd : decode cc pc = .ok (.invokespecial idx, 3)) (hM : eMN l D cI cZ d1 y1 cc1 nL1 none (.ref o :: As) w none w')
    (k : EV p l e R s m args below meth c D cI cZ A H0 nL Q cells slots r (pc + 3) L S w') : EV p l e R s m args below meth c D cI cZ A H0 nL Q cells slots r pc L (As.reverse ++ .ref o :: S) w := by
  have e0 : As.reverse ++ .ref o :: S = (Value.ref o :: As).reverse ++ S := by simp
  rw [e0]
  refine ev_run X (v := none) (fun H locs ls hP hD hl2 => ?_) k
  exact va_runI (As := As.map (e_cv r)) (b := r o) (rest := S.map (e_cv r)) ⟨X.1, X.2.1, X.2.2.1, X.2.2.2.1, X.2.2.2.2.1⟩ (hM r H.size) ⟨e_callB X hw hl hR, hy, X.2.2.2.2.1 _ hin⟩ (e_pre X hP hD _) rfl (by simpa using hn) hl2.1 (by simp [e_cv]) (lv_room (by rw [e_sum]; exact hS8)) hd hf
theorem ev_objInit (X : eX p s m args meth c D cI cZ A H0 y cc nL ret) {idx o : Nat} (hl : Cond.methodLink y.cls idx objectInit ∈ eT) (h1 : Cond.instanceMethod objectInit ∈ eT) (h2 : Cond.code objectInit ⟨#[0xb1]⟩ 1 none ∈ eT) (hd : decode cc pc = .ok (.invokespecial idx, 3)) (hf : 1 ≤ R.frames) (hlo : (S.map fun v => v.category).sum + 12 ≤ R.locals)
    (k : EV p l e R s m args below meth c D cI cZ A H0 nL Q cells slots r (pc + 3) L S w) : EV p l e R s m args below meth c D cI cZ A H0 nL Q cells slots r pc L (.ref o :: S) w := by
  intro H locs ls hP hD hS hls
  refine W.objInit X.1 X.2.1 X.2.2.2.1 (X.2.2.2.2.1 _ hl) (X.2.2.2.2.1 _ h1) (X.2.2.2.2.1 _ h2) rfl (by rw [X.2.2.1]; exact hls.1) (a := r o) (rest := S.map (e_cv r)) rfl hd hf ?_ (k H locs ls hP hD hS hls)
  have := e_sum S r
  show 2 * 0 + _ + 12 ≤ _
  omega
/-! ends -/
abbrev eQ (below : List Frame) (D : va_G) (cI cZ : ClassId) (r : Nat → Nat) (A : Nat → Prop) (args : Array Value) (s : State) (v : Option Value) (w' : eW) : State → Prop := MQ below (eQN D cI cZ r A v w') args s 0 0 A
theorem e_end {H : Heap} {locs : List Loc} (hP : va_P D vwCl (e_cw cI cZ r w) H) (hD : va_D A (e_cw cI cZ r w)) (hS : va_S A s.heap H locs) {v : Option Value} : ∀ t : State, t.heap = H → s.WarmedH t.vm → eQN D cI cZ r A v w args s (.returned (v.map (e_cv r))) t :=
  fun t ht _ => ⟨rfl, by rw [ht]; exact hP, hD, hS.F ht⟩
theorem ev_vret (X : eX p s m args meth c D cI cZ A s.heap y cc nL none) (hd : decode cc pc = .ok (.return_, 1)) : EV p l e R s m args below meth c D cI cZ A s.heap nL (eQ below D cI cZ r A args s none w) 0 0 r pc L [] w :=
  fun H locs ls hP hD hS hl => W.vret X.1 X.2.1 X.2.2.2.2.2.1 (e_end (v := none) hP hD hS) hS.2.2 hd X.2.2.2.2.2.2.1
theorem ev_iret (X : eX p s m args meth c D cI cZ A s.heap y cc nL (some .int)) {x : Int32} (hd : decode cc pc = .ok (.ireturn, 1)) : EV p l e R s m args below meth c D cI cZ A s.heap nL (eQ below D cI cZ r A args s (some (.int x)) w) 0 0 r pc L [.int x] w :=
  fun H locs ls hP hD hS hl => W.iret X.1 X.2.1 X.2.2.2.2.2.1 (e_end (v := some (.int x)) hP hD hS) hS.2.2 hd X.2.2.2.2.2.2.1
theorem ev_zret (X : eX p s m args meth c D cI cZ A s.heap y cc nL (some .boolean)) {x x' : Int32} (hd : decode cc pc = .ok (.ireturn, 1)) (hz : eZ x = some x') : EV p l e R s m args below meth c D cI cZ A s.heap nL (eQ below D cI cZ r A args s (some (.int x')) w) 0 0 r pc L [.int x] w := by
  obtain ⟨h1, rfl⟩ := eZ_at hz
  exact fun H locs ls hP hD hS hl => W.zret X.1 X.2.1 X.2.2.2.2.2.1 (eZ_nar h1).1 (e_end (v := some (.int x')) hP hD hS) hS.2.2 hd X.2.2.2.2.2.2.1
theorem ev_lret (X : eX p s m args meth c D cI cZ A s.heap y cc nL (some .long)) {x : Int64} (hd : decode cc pc = .ok (.lreturn, 1)) : EV p l e R s m args below meth c D cI cZ A s.heap nL (eQ below D cI cZ r A args s (some (.long x)) w) 0 0 r pc L [.long x] w :=
  fun H locs ls hP hD hS hl => W.lret X.1 X.2.1 X.2.2.2.2.2.1 (e_end (v := some (.long x)) hP hD hS) hS.2.2 hd X.2.2.2.2.2.2.1
theorem ev_aret {rt : String} (X : eX p s m args meth c D cI cZ A s.heap y cc nL (some (.object rt))) {x : Nat} (hd : decode cc pc = .ok (.areturn, 1)) : EV p l e R s m args below meth c D cI cZ A s.heap nL (eQ below D cI cZ r A args s (some (.ref x)) w) 0 0 r pc L [.ref x] w :=
  fun H locs ls hP hD hS hl => W.aret X.1 X.2.1 X.2.2.2.2.2.1 (Or.inl ⟨_, rfl⟩) (Or.inr ⟨_, rfl⟩) (e_end (v := some (.ref x)) hP hD hS) hS.2.2 hd X.2.2.2.2.2.2.1
end EVC
/-- a block of a method that makes nothing: from pc on with these locals and this stack it ends with v in world w' -/
def eBN (l : Launch) (D : va_G) (cI cZ : ClassId) (d : Nat) (y : MethodName) (cc : ByteArray) (nL : Nat) (ret : Option FieldType) (pc : Nat) (L : List (Nat × Value)) (S : List Value) (w : eW) (v : Option Value) (w' : eW) : Prop :=
  ∀ (p : Program) (e : Env) (s : State) (m : MethodId) (args : Array Value) (below : List Frame) (meth : Method) (c : Code) (r : Nat → Nat) (A : Nat → Prop), eX p s m args meth c D cI cZ A s.heap y cc nL ret →
    EV p l e (eRm d 0 0) s m args below meth c D cI cZ A s.heap nL (eQ below D cI cZ r A args s v w') 0 0 r pc L S w
theorem eMN_of {l : Launch} {D : va_G} {cI cZ : ClassId} {d : Nat} {y : MethodName} {cc : ByteArray} {nL : Nat} {ret : Option FieldType} {As : List Value} {w w' : eW} {v : Option Value} (L : List (Nat × Value)) (hy : plainFor y = true) (hL : ∀ r, lv_args 0 (As.map (e_cv r)) = e_L r L) (hn : ∀ r, (lg_sl (As.map (e_cv r))).length ≤ nL)
    (h : eBN l D cI cZ d y cc nL ret 0 L [] w v w') : eMN l D cI cZ d y cc nL ret As w v w' := by
  intro r sz
  refine va_MetF (cc := cc) (maxL := nL) (ret := ret) hy rfl ?_
  intro p e s m args below meth c s₁ B hml hv
  obtain ⟨rfl, hsz, hP, hK, hD0, hN⟩ := hv
  have hts := atoms_spec (ws := eWs y cc nL ret) B.pre
  subst hsz
  have X : eX p s m (As.map (e_cv r)).toArray meth c D cI cZ (va_A (e_cw cI cZ r w) s.heap.size) s.heap y cc nL ret :=
    ⟨B.exec, B.bytes, hml, findClass_of_methodNamed B.named, fun w h => hts w (List.mem_cons_of_mem _ h), B.returns, B.notSynchronized, hK, hN, fun q h => Or.inr h, (name_of_methodNamed B.named B.method).1⟩
  have hl := lv_entry (As.map (e_cv r)) (hn r)
  rw [hL] at hl
  rw [lg_entry_eq]
  exact h p e s m _ below meth c r _ X s.heap [] _ hP (hD0.self (sz := s.heap.size)) va_S.rf hl
end
section
/-! ===== methods that make cells: constructors ===== -/
theorem e_cv_ag {r r1 : Nat → Nat} {n : Nat} (h : ∀ i, i < n → r1 i = r i) {v : Value} (hv : eFr n v = true) : e_cv r1 v = e_cv r v := by
  cases v with
  | ref i => simp [eFr] at hv; simp [e_cv, h i hv]
  | _ => rfl
theorem e_S_ag {r r1 : Nat → Nat} {n : Nat} (h : ∀ i, i < n → r1 i = r i) {S : List Value} (hv : S.all (eFr n) = true) : S.map (e_cv r1) = S.map (e_cv r) := by
  apply List.map_congr_left
  intro v hm
  exact e_cv_ag h (List.all_eq_true.mp hv v hm)
theorem e_L_ag {r r1 : Nat → Nat} {n : Nat} (h : ∀ i, i < n → r1 i = r i) {L : List (Nat × Value)} (hv : eFl n L = true) : e_L r1 L = e_L r L := by
  unfold e_L
  apply List.map_congr_left
  intro q hm
  rw [e_cv_ag h (List.all_eq_true.mp hv q hm)]
theorem e_w_ag {cI cZ : ClassId} {r r1 : Nat → Nat} {w : eW} (h : ∀ i, i < w.length → r1 i = r i) (hv : eFw w.length w = true) : e_cw cI cZ r1 w = e_cw cI cZ r w := by
  apply List.ext_getElem?
  intro j
  rw [e_cw_get, e_cw_get]
  cases hj : w[j]? with
  | none => rfl
  | some c =>
    have hlt := (List.getElem?_eq_some_iff.mp hj).1
    have hc := List.all_eq_true.mp hv c (List.mem_of_getElem? hj)
    simp only [Option.map_some, h j hlt]
    cases c with
    | inl a => rfl
    | inr o =>
      simp only [e_cc]
      rw [e_S_ag h hc]
theorem e_cw_app (cI cZ : ClassId) (r : Nat → Nat) (w : eW) (c : eC) : e_cw cI cZ r (w ++ [c]) = e_cw cI cZ r w ++ [(r w.length, e_cc cI cZ r c)] := by
  simp [e_cw, List.mapIdx_append]
section EVN
variable {p : Program} {l : Launch} {e : Env} {R : Room} {s : State} {m : MethodId} {args : Array Value} {below : List Frame} {meth : Method} {c : Code} {D : va_G} {cI cZ : ClassId} {A : Nat → Prop} {H0 : Heap} {nL : Nat} {Q : State → Prop} {cells slots : Nat} {r : Nat → Nat} {pc : Nat} {L L' : List (Nat × Value)} {S : List Value} {w w' : eW}
variable {y : MethodName} {cc : ByteArray} {ret : Option FieldType} {ci : Nat} {C : String} {T : u_T} {N : Nat} {ty : Nat → FieldType}
theorem e_upag (q : Nat) : ∀ i, i < w.length → va_up r w.length q i = r i := fun i hi => by simp [va_up, Nat.ne_of_lt hi]
theorem e_grow {H : Heap} {q : Nat} {ce : eC} {ls : Array Slot} (hf : eFw w.length w = true) (hL : eFl w.length L = true)
    (hP : va_P D vwCl (e_cw cI cZ r w ++ [(q, e_cc cI cZ (va_up r w.length q) ce)]) H) (hD : va_D A (e_cw cI cZ r w ++ [(q, e_cc cI cZ (va_up r w.length q) ce)])) (hls : lv_has ls nL (e_L r L)) :
    va_P D vwCl (e_cw cI cZ (va_up r w.length q) (w ++ [ce])) H ∧ va_D A (e_cw cI cZ (va_up r w.length q) (w ++ [ce])) ∧ lv_has ls nL (e_L (va_up r w.length q) L) := by
  have e1 : e_cw cI cZ (va_up r w.length q) (w ++ [ce]) = e_cw cI cZ r w ++ [(q, e_cc cI cZ (va_up r w.length q) ce)] := by
    rw [e_cw_app, e_w_ag (e_upag q) hf]
    simp [va_up]
  rw [e1, e_L_ag (e_upag q) hL]
  exact ⟨hP, hD, hls⟩
theorem ev_new (X : eX p s m args meth c D cI cZ A H0 y cc nL ret) (hC : eCl ci C T N ty) {idx : Nat} (hcl : Cond.classLink y.cls idx C ∈ eT) (hin : Cond.instantiable C N ∈ eT) (hini : Cond.initialized C ∈ eT) {fs : List Value} (hfs : ∀ r : Nat → Nat, fs.map (e_cv r) = fs) (hdef : ∀ j, j < N → defaultValue (ty j) = vp_V fs j)
    (hf : eFw w.length w = true) (hL : eFl w.length L = true) (hS : S.all (eFr w.length) = true) (hc : cells + 1 ≤ R.cells) (hs : slots + N ≤ R.slots) (hd : decode cc pc = .ok (.new idx, 3))
    (kk : ∀ r' : Nat → Nat, (∀ i, i < w.length → r' i = r i) → EV p l e R s m args below meth c D cI cZ A H0 nL Q (cells + 1) (slots + N) r' (pc + 3) L (.ref w.length :: S) (w ++ [.inr (ci, fs)])) : EV p l e R s m args below meth c D cI cZ A H0 nL Q cells slots r pc L S w := by
  intro H locs ls hP hD hSv hls
  refine va_new X.1 X.2.1 X.2.2.2.2.1 hC.2.1 ty hC.2.2.1 X.2.2.2.1 (X.2.2.2.2.1 _ hcl) (X.2.2.2.2.1 _ hin) (X.2.2.2.2.1 _ hini) X.2.2.2.2.2.2.2.1 hP hD hSv X.2.2.2.2.2.2.2.2.2.1 hC.1 hdef hc hs hd (fun q H1 hP1 hD1 hS1 => ?_)
  have e2 : e_cc cI cZ (va_up r w.length q) (.inr (ci, fs)) = .inr (ci, fs) := by simp only [e_cc, hfs]
  obtain ⟨g1, g2, g3⟩ := e_grow (ce := .inr (ci, fs)) hf hL (by rw [e2]; exact hP1) (by rw [e2]; exact hD1) hls
  have := kk (va_up r w.length q) (e_upag q) H1 locs ls g1 g2 hS1 g3
  rw [List.map_cons, e_S_ag (e_upag q) hS] at this
  simpa [e_cv, va_up] using this
theorem ev_newa (X : eX p s m args meth c D cI cZ A H0 y cc nL ret) (har : Cond.arrayClass .int ∈ eT) {n : Int32} {N' : Nat} (hn : ¬ n < 0) (hN : n.toNatClampNeg = N') (hb : N' ≤ 100000)
    (hf : eFw w.length w = true) (hL : eFl w.length L = true) (hS : S.all (eFr w.length) = true) (hc : cells + 1 ≤ R.cells) (hs : slots + N' ≤ R.slots) (hd : decode cc pc = .ok (.newarray .int, 2))
    (kk : ∀ r' : Nat → Nat, (∀ i, i < w.length → r' i = r i) → EV p l e R s m args below meth c D cI cZ A H0 nL Q (cells + 1) (slots + N') r' (pc + 2) L (.ref w.length :: S) (w ++ [.inl (false, N', fun _ => 0)])) : EV p l e R s m args below meth c D cI cZ A H0 nL Q cells slots r pc L (.int n :: S) w := by
  intro H locs ls hP hD hSv hls
  refine va_newa (atype := .int) (ty := .int) (a0 := (N', .inl (fun _ => 0))) X.1 X.2.1 (X.2.2.2.2.1 _ har) rfl X.2.2.2.2.2.2.2.1 hP hD hSv X.2.2.2.2.2.2.2.2.2.1 (fun cA => rfl) hn hN (by show N' * 4 ≤ _; omega) hc hs hd (fun q cA H1 hK1 hP1 hD1 hS1 => ?_)
  have hcA : cA = cI := by
    have h1 := (hK1.2 2 (cA, .int) rfl).2
    have h2 := (hK1.2 0 (cI, .int) rfl).2
    exact Option.some.inj (h1.symm.trans h2)
  subst hcA
  obtain ⟨g1, g2, g3⟩ := e_grow (ce := .inl (false, N', fun _ => 0)) hf hL hP1 hD1 hls
  have := kk (va_up r w.length q) (e_upag q) H1 locs ls g1 g2 hS1 g3
  rw [List.map_cons, e_S_ag (e_upag q) hS] at this
  simpa [e_cv, va_up] using this
theorem ev_newz (X : eX p s m args meth c D cI cZ A H0 y cc nL ret) (har : Cond.arrayClass .boolean ∈ eT) {n : Int32} {N' : Nat} (hn : ¬ n < 0) (hN : n.toNatClampNeg = N') (hb : N' ≤ 100000)
    (hf : eFw w.length w = true) (hL : eFl w.length L = true) (hS : S.all (eFr w.length) = true) (hc : cells + 1 ≤ R.cells) (hs : slots + N' ≤ R.slots) (hd : decode cc pc = .ok (.newarray .boolean, 2))
    (kk : ∀ r' : Nat → Nat, (∀ i, i < w.length → r' i = r i) → EV p l e R s m args below meth c D cI cZ A H0 nL Q (cells + 1) (slots + N') r' (pc + 2) L (.ref w.length :: S) (w ++ [.inl (true, N', fun _ => 0)])) : EV p l e R s m args below meth c D cI cZ A H0 nL Q cells slots r pc L (.int n :: S) w := by
  intro H locs ls hP hD hSv hls
  refine va_newa (atype := .boolean) (ty := .boolean) (a0 := (N', .inl (fun _ => 0))) X.1 X.2.1 (X.2.2.2.2.1 _ har) rfl X.2.2.2.2.2.2.2.1 hP hD hSv X.2.2.2.2.2.2.2.2.2.1 (fun cA => rfl) hn hN (by show N' * 1 ≤ _; omega) hc hs hd (fun q cA H1 hK1 hP1 hD1 hS1 => ?_)
  have hcA : cA = cZ := by
    have h1 := (hK1.2 2 (cA, .boolean) rfl).2
    have h2 := (hK1.2 1 (cZ, .boolean) rfl).2
    exact Option.some.inj (h1.symm.trans h2)
  subst hcA
  obtain ⟨g1, g2, g3⟩ := e_grow (ce := .inl (true, N', fun _ => 0)) hf hL hP1 hD1 hls
  have := kk (va_up r w.length q) (e_upag q) H1 locs ls g1 g2 hS1 g3
  rw [List.map_cons, e_S_ag (e_upag q) hS] at this
  simpa [e_cv, va_up] using this
end EVN
def eQA (D : va_G) (cI cZ : ClassId) (r0 : Nat → Nat) (n0 : Nat) (A : Nat → Prop) (w' : eW) : Array Value → State → Outcome → State → Prop :=
  fun _ st oc t => oc = .returned none ∧ ∃ r' : Nat → Nat, (∀ i, i < n0 → r' i = r0 i) ∧ va_P D vwCl (e_cw cI cZ r' w') t.heap ∧ va_D A (e_cw cI cZ r' w') ∧ va_F A st t
/-- a constructor that makes cells -/
def eMA (l : Launch) (D : va_G) (cI cZ : ClassId) (d : Nat) (y : MethodName) (cc : ByteArray) (nL : Nat) (As : List Value) (w w' : eW) : Prop :=
  (w.length ≤ w'.length ∧ e_wsz w ≤ e_wsz w') ∧ ∀ (r : Nat → Nat) (sz : Nat), Met l y (eWs y cc nL none) (eRm d (w'.length - w.length) (e_wsz w' - e_wsz w)) (va_Pc (As.map (e_cv r)) (eB D cI cZ r w sz)) (eQA D cI cZ r w.length (va_A (e_cw cI cZ r w) sz) w') (w'.length - w.length) (e_wsz w' - e_wsz w) (va_A (e_cw cI cZ r w) sz)
section EVM
variable {p : Program} {l : Launch} {e : Env} {R : Room} {s : State} {m : MethodId} {args : Array Value} {below : List Frame} {meth : Method} {c : Code} {D : va_G} {cI cZ : ClassId} {A : Nat → Prop} {H0 : Heap} {nL : Nat} {Q : State → Prop} {cells slots : Nat} {r : Nat → Nat} {pc : Nat} {L L' : List (Nat × Value)} {S : List Value} {w w' : eW}
variable {y : MethodName} {cc : ByteArray} {ret : Option FieldType}
theorem ev_runA (X : eX p s m args meth c D cI cZ A H0 y cc nL ret) {As : List Value} {mc ms : Nat} (hL : eFl w.length L = true) (hSf : S.all (eFr w.length) = true)
    (hr : ∀ (H : Heap) (locs : List Loc) (ls : Array Slot), va_P D vwCl (e_cw cI cZ r w) H → va_D A (e_cw cI cZ r w) → lv_has ls nL (e_L r L) → va_Run p l e R s m args below meth c H locs cells slots mc ms (F0 m pc ls ((As.reverse ++ S).map (e_cv r))) (S.map (e_cv r)) (eQA D cI cZ r w.length (va_A (e_cw cI cZ r w) H.size) w' (As.map (e_cv r)).toArray) (va_A (e_cw cI cZ r w) H.size))
    (k : ∀ r' : Nat → Nat, (∀ i, i < w.length → r' i = r i) → EV p l e R s m args below meth c D cI cZ A H0 nL Q (cells + mc) (slots + ms) r' (pc + 3) L S w') : EV p l e R s m args below meth c D cI cZ A H0 nL Q cells slots r pc L (As.reverse ++ S) w := by
  intro H locs ls hP hD hS hl T hT X0
  obtain ⟨v1, st0, t, T', L2, h0, X', hL2, e1, e2, ⟨hv, r', hag, hP', hD', hz, hk⟩, st⟩ := hr H locs ls hP hD hl T hT X0
  have hF := e_free hD hS X.2.2.2.2.2.2.2.2.2.1
  cases hv
  rw [h0] at hz hk
  obtain ⟨t2, a1, b1⟩ := k r' hag T'.heap (locs ++ L2) ls (by rw [e1]; exact hP') (hD'.weaken (fun k q _ h => hF q.1 h))
    ⟨Nat.le_trans hS.1 (by rw [e1]; exact hz), fun q h1 h2 => by rw [e1, hk q (Nat.lt_of_lt_of_le h1 hS.1) (fun z => h2 (hF q z))]; exact hS.2.1 q h1 h2, fun q hq => by
      rcases List.mem_append.mp hq with h | h
      · exact hS.2.2 q h
      · exact hF _ (hL2 q h)⟩ (by rw [e_L_ag hag hL]; exact hl) T' rfl X'
  refine ⟨t2, st t2 ?_, b1⟩
  rw [e_S_ag hag hSf] at a1
  exact a1
theorem ev_callA (X : eX p s m args meth c D cI cZ A H0 y cc nL ret) {y1 : MethodName} {cc1 : ByteArray} {nL1 n1 d1 idx o : Nat} (hw : eMw y1 cc1 nL1 none n1) (hl : Cond.methodLink y.cls idx y1 ∈ eT) (hin : Cond.instanceMethod y1 ∈ eT) (hy : y1.name = "<init>") (hR : d1 + 1 ≤ R.frames ∧ 8 + (nL1 + 11) + 34 * d1 ≤ R.locals)
    {As : List Value} (hn : As.length = n1) (hS8 : (S.map fun v => v.category).sum ≤ 8) (hd : decode cc pc = .ok (.invokespecial idx, 3)) (hM : eMA l D cI cZ d1 y1 cc1 nL1 (.ref o :: As) w w') (hf : cells + (w'.length - w.length) ≤ R.cells ∧ slots + (e_wsz w' - e_wsz w) ≤ R.slots) (hL : eFl w.length L = true) (hSf : S.all (eFr w.length) = true)
    (k : ∀ r' : Nat → Nat, (∀ i, i < w.length → r' i = r i) → EV p l e R s m args below meth c D cI cZ A H0 nL Q (cells + (w'.length - w.length)) (slots + (e_wsz w' - e_wsz w)) r' (pc + 3) L S w') : EV p l e R s m args below meth c D cI cZ A H0 nL Q cells slots r pc L (As.reverse ++ .ref o :: S) w := by
  have e0 : As.reverse ++ .ref o :: S = (Value.ref o :: As).reverse ++ S := by simp
  rw [e0]
  refine ev_runA X hL hSf (fun H locs ls hP hD hl2 => ?_) k
  exact va_runI (As := As.map (e_cv r)) (b := r o) (rest := S.map (e_cv r)) ⟨X.1, X.2.1, X.2.2.1, X.2.2.2.1, X.2.2.2.2.1⟩ (hM.2 r H.size) ⟨e_callB X hw hl hR, hy, X.2.2.2.2.1 _ hin⟩ (e_pre X hP hD _) rfl (by simpa using hn) hl2.1 (by simp [e_cv]) (lv_room (by rw [e_sum]; exact hS8)) hd hf
theorem ev_callAN (X : eX p s m args meth c D cI cZ A H0 y cc nL ret) {y1 : MethodName} {cc1 : ByteArray} {nL1 n1 d1 idx o : Nat} {host : String} (hw : eMw y1 cc1 nL1 none n1) (hl : Cond.methodLinkNest y.cls idx y1 host ∈ eNw) (hin : Cond.instanceMethod y1 ∈ eT) (hy : y1.name = "<init>") (hR : d1 + 1 ≤ R.frames ∧ 8 + (nL1 + 11) + 34 * d1 ≤ R.locals)
    {As : List Value} (hn : As.length = n1) (hS8 : (S.map fun v => v.category).sum ≤ 8) (hd : decode cc pc = .ok (.invokespecial idx, 3)) (hM : eMA l D cI cZ d1 y1 cc1 nL1 (.ref o :: As) w w') (hf : cells + (w'.length - w.length) ≤ R.cells ∧ slots + (e_wsz w' - e_wsz w) ≤ R.slots) (hL : eFl w.length L = true) (hSf : S.all (eFr w.length) = true)
    (k : ∀ r' : Nat → Nat, (∀ i, i < w.length → r' i = r i) → EV p l e R s m args below meth c D cI cZ A H0 nL Q (cells + (w'.length - w.length)) (slots + (e_wsz w' - e_wsz w)) r' (pc + 3) L S w') : EV p l e R s m args below meth c D cI cZ A H0 nL Q cells slots r pc L (As.reverse ++ .ref o :: S) w := by
  have e0 : As.reverse ++ .ref o :: S = (Value.ref o :: As).reverse ++ S := by simp
  rw [e0]
  refine ev_runA X hL hSf (fun H locs ls hP hD hl2 => ?_) k
  exact va_runIN (As := As.map (e_cv r)) (b := r o) (rest := S.map (e_cv r)) ⟨X.1, X.2.1, X.2.2.1, X.2.2.2.1, X.2.2.2.2.1⟩ (hM.2 r H.size) ⟨e_callN X hw hl hR, hy, X.2.2.2.2.1 _ hin⟩ (e_pre X hP hD _) rfl (by simpa using hn) hl2.1 (by simp [e_cv]) (lv_room (by rw [e_sum]; exact hS8)) hd hf
end EVM
/-- a stretch of a constructor -/
def eBA (l : Launch) (D : va_G) (cI cZ : ClassId) (d : Nat) (y : MethodName) (cc : ByteArray) (nL : Nat) (pc : Nat) (L : List (Nat × Value)) (S : List Value) (w w' : eW) : Prop :=
  (w.length ≤ w'.length ∧ e_wsz w ≤ e_wsz w') ∧ ∀ (p : Program) (e : Env) (s : State) (m : MethodId) (args : Array Value) (below : List Frame) (meth : Method) (c : Code) (r0 r : Nat → Nat) (A : Nat → Prop) (n0 z0 : Nat), eX p s m args meth c D cI cZ A s.heap y cc nL none → n0 ≤ w.length → z0 ≤ e_wsz w → (∀ i, i < n0 → r i = r0 i) →
    EV p l e (eRm d (w'.length - n0) (e_wsz w' - z0)) s m args below meth c D cI cZ A s.heap nL (MQ below (eQA D cI cZ r0 n0 A w') args s (w'.length - n0) (e_wsz w' - z0) A) (w.length - n0) (e_wsz w - z0) r pc L S w
section EVB
variable {l : Launch} {D : va_G} {cI cZ : ClassId} {d : Nat} {y : MethodName} {cc : ByteArray} {nL : Nat} {pc pc1 : Nat} {L L1 : List (Nat × Value)} {S S1 : List Value} {w w1 w' : eW}
theorem eBA_lift (hw : w1.length = w.length ∧ e_wsz w1 = e_wsz w) (step : ∀ (p : Program) (e : Env) (mc ms : Nat) (s : State) (m : MethodId) (args : Array Value) (below : List Frame) (meth : Method) (c : Code) (A : Nat → Prop) (Q : State → Prop) (cells slots : Nat) (r : Nat → Nat), cells ≤ mc ∧ slots ≤ ms → eX p s m args meth c D cI cZ A s.heap y cc nL none → EV p l e (eRm d mc ms) s m args below meth c D cI cZ A s.heap nL Q cells slots r pc1 L1 S1 w1 → EV p l e (eRm d mc ms) s m args below meth c D cI cZ A s.heap nL Q cells slots r pc L S w)
    (k : eBA l D cI cZ d y cc nL pc1 L1 S1 w1 w') : eBA l D cI cZ d y cc nL pc L S w w' := by
  obtain ⟨⟨k1, k2⟩, k3⟩ := k
  rw [hw.1] at k1
  rw [hw.2] at k2
  refine ⟨⟨k1, k2⟩, fun p e s m args below meth c r0 r A n0 z0 X h1 h2 h3 => ?_⟩
  have := k3 p e s m args below meth c r0 r A n0 z0 X (by rw [hw.1]; exact h1) (by rw [hw.2]; exact h2) h3
  rw [hw.1, hw.2] at this
  exact step p e _ _ s m args below meth c A _ _ _ r ⟨by omega, by omega⟩ X this
theorem e_wsz_app (w : eW) (c : eC) : e_wsz (w ++ [c]) = e_wsz w + e_sz c := by simp [e_wsz]
theorem eBA_new {ci : Nat} {C : String} {T : u_T} {N : Nat} {ty : Nat → FieldType} (hC : eCl ci C T N ty) {idx : Nat} (hcl : Cond.classLink y.cls idx C ∈ eT) (hin : Cond.instantiable C N ∈ eT) (hini : Cond.initialized C ∈ eT) {fs : List Value} (hN : fs.length = N) (hfs : ∀ r : Nat → Nat, fs.map (e_cv r) = fs) (hdef : ∀ j, j < N → defaultValue (ty j) = vp_V fs j)
    (hd : decode cc pc = .ok (.new idx, 3)) (hf : eFw w.length w = true) (hL : eFl w.length L = true) (hS : S.all (eFr w.length) = true)
    (k : eBA l D cI cZ d y cc nL (pc + 3) L (.ref w.length :: S) (w ++ [.inr (ci, fs)]) w') : eBA l D cI cZ d y cc nL pc L S w w' := by
  obtain ⟨⟨k1, k2⟩, k3⟩ := k
  rw [List.length_append, List.length_singleton] at k1
  rw [e_wsz_app] at k2
  have e1 : e_sz (.inr (ci, fs)) = N := hN
  rw [e1] at k2
  refine ⟨⟨by omega, by omega⟩, fun p e s m args below meth c r0 r A n0 z0 X h1 h2 h3 => ?_⟩
  refine ev_new X hC hcl hin hini hfs hdef hf hL hS (by show _ ≤ w'.length - n0; omega) (by show _ ≤ e_wsz w' - z0; omega) hd (fun r' hr => ?_)
  have := k3 p e s m args below meth c r0 r' A n0 z0 X (by rw [List.length_append]; omega) (by rw [e_wsz_app]; omega) (fun i hi => (hr i (by omega)).trans (h3 i hi))
  rw [List.length_append, List.length_singleton, e_wsz_app, e1, show w.length + 1 - n0 = w.length - n0 + 1 by omega, show e_wsz w + N - z0 = e_wsz w - z0 + N by omega] at this
  exact this
theorem eBA_newa (har : Cond.arrayClass .int ∈ eT) {n : Int32} {N' : Nat} (hd : decode cc pc = .ok (.newarray .int, 2)) (hn : ¬ n < 0) (hN : n.toNatClampNeg = N') (hb : N' ≤ 100000) (hf : eFw w.length w = true) (hL : eFl w.length L = true) (hS : S.all (eFr w.length) = true)
    (k : eBA l D cI cZ d y cc nL (pc + 2) L (.ref w.length :: S) (w ++ [.inl (false, N', fun _ => 0)]) w') : eBA l D cI cZ d y cc nL pc L (.int n :: S) w w' := by
  obtain ⟨⟨k1, k2⟩, k3⟩ := k
  rw [List.length_append, List.length_singleton] at k1
  rw [e_wsz_app] at k2
  have e1 : e_sz (.inl (false, N', fun _ => 0)) = N' := rfl
  rw [e1] at k2
  refine ⟨⟨by omega, by omega⟩, fun p e s m args below meth c r0 r A n0 z0 X h1 h2 h3 => ?_⟩
  refine ev_newa X har hn hN hb hf hL hS (by show _ ≤ w'.length - n0; omega) (by show _ ≤ e_wsz w' - z0; omega) hd (fun r' hr => ?_)
  have := k3 p e s m args below meth c r0 r' A n0 z0 X (by rw [List.length_append]; omega) (by rw [e_wsz_app]; omega) (fun i hi => (hr i (by omega)).trans (h3 i hi))
  rw [List.length_append, List.length_singleton, e_wsz_app, e1, show w.length + 1 - n0 = w.length - n0 + 1 by omega, show e_wsz w + N' - z0 = e_wsz w - z0 + N' by omega] at this
  exact this
theorem eBA_newz (har : Cond.arrayClass .boolean ∈ eT) {n : Int32} {N' : Nat} (hd : decode cc pc = .ok (.newarray .boolean, 2)) (hn : ¬ n < 0) (hN : n.toNatClampNeg = N') (hb : N' ≤ 100000) (hf : eFw w.length w = true) (hL : eFl w.length L = true) (hS : S.all (eFr w.length) = true)
    (k : eBA l D cI cZ d y cc nL (pc + 2) L (.ref w.length :: S) (w ++ [.inl (true, N', fun _ => 0)]) w') : eBA l D cI cZ d y cc nL pc L (.int n :: S) w w' := by
  obtain ⟨⟨k1, k2⟩, k3⟩ := k
  rw [List.length_append, List.length_singleton] at k1
  rw [e_wsz_app] at k2
  have e1 : e_sz (.inl (true, N', fun _ => 0)) = N' := rfl
  rw [e1] at k2
  refine ⟨⟨by omega, by omega⟩, fun p e s m args below meth c r0 r A n0 z0 X h1 h2 h3 => ?_⟩
  refine ev_newz X har hn hN hb hf hL hS (by show _ ≤ w'.length - n0; omega) (by show _ ≤ e_wsz w' - z0; omega) hd (fun r' hr => ?_)
  have := k3 p e s m args below meth c r0 r' A n0 z0 X (by rw [List.length_append]; omega) (by rw [e_wsz_app]; omega) (fun i hi => (hr i (by omega)).trans (h3 i hi))
  rw [List.length_append, List.length_singleton, e_wsz_app, e1, show w.length + 1 - n0 = w.length - n0 + 1 by omega, show e_wsz w + N' - z0 = e_wsz w - z0 + N' by omega] at this
  exact this
theorem eBA_call {y1 : MethodName} {cc1 : ByteArray} {nL1 n1 d1 idx o : Nat} (hw : eMw y1 cc1 nL1 none n1) (hl : Cond.methodLink y.cls idx y1 ∈ eT) (hin : Cond.instanceMethod y1 ∈ eT) (hy : y1.name = "<init>") (hR : d1 + 1 ≤ d ∧ 8 + (nL1 + 11) + 34 * d1 ≤ 34 * d)
    {As : List Value} (hn : As.length = n1) (hS8 : (S.map fun v => v.category).sum ≤ 8) (hd : decode cc pc = .ok (.invokespecial idx, 3)) (hM : eMA l D cI cZ d1 y1 cc1 nL1 (.ref o :: As) w w1) (hL : eFl w.length L = true) (hSf : S.all (eFr w.length) = true)
    (k : eBA l D cI cZ d y cc nL (pc + 3) L S w1 w') : eBA l D cI cZ d y cc nL pc L (As.reverse ++ .ref o :: S) w w' := by
  obtain ⟨⟨k1, k2⟩, k3⟩ := k
  have hM1 := hM.1.1
  have hM2 := hM.1.2
  refine ⟨⟨by omega, by omega⟩, fun p e s m args below meth c r0 r A n0 z0 X h1 h2 h3 => ?_⟩
  refine ev_callA X hw hl hin hy hR hn hS8 hd hM ⟨by show _ ≤ w'.length - n0; omega, by show _ ≤ e_wsz w' - z0; omega⟩ hL hSf (fun r' hr => ?_)
  have := k3 p e s m args below meth c r0 r' A n0 z0 X (by omega) (by omega) (fun i hi => (hr i (by omega)).trans (h3 i hi))
  rw [show w1.length - n0 = w.length - n0 + (w1.length - w.length) by omega, show e_wsz w1 - z0 = e_wsz w - z0 + (e_wsz w1 - e_wsz w) by omega] at this
  exact this
theorem eBA_callN {y1 : MethodName} {cc1 : ByteArray} {nL1 n1 d1 idx o : Nat} {host : String} (hw : eMw y1 cc1 nL1 none n1) (hl : Cond.methodLinkNest y.cls idx y1 host ∈ eNw) (hin : Cond.instanceMethod y1 ∈ eT) (hy : y1.name = "<init>") (hR : d1 + 1 ≤ d ∧ 8 + (nL1 + 11) + 34 * d1 ≤ 34 * d)
    {As : List Value} (hn : As.length = n1) (hS8 : (S.map fun v => v.category).sum ≤ 8) (hd : decode cc pc = .ok (.invokespecial idx, 3)) (hM : eMA l D cI cZ d1 y1 cc1 nL1 (.ref o :: As) w w1) (hL : eFl w.length L = true) (hSf : S.all (eFr w.length) = true)
    (k : eBA l D cI cZ d y cc nL (pc + 3) L S w1 w') : eBA l D cI cZ d y cc nL pc L (As.reverse ++ .ref o :: S) w w' := by
  obtain ⟨⟨k1, k2⟩, k3⟩ := k
  have hM1 := hM.1.1
  have hM2 := hM.1.2
  refine ⟨⟨by omega, by omega⟩, fun p e s m args below meth c r0 r A n0 z0 X h1 h2 h3 => ?_⟩
  refine ev_callAN X hw hl hin hy hR hn hS8 hd hM ⟨by show _ ≤ w'.length - n0; omega, by show _ ≤ e_wsz w' - z0; omega⟩ hL hSf (fun r' hr => ?_)
  have := k3 p e s m args below meth c r0 r' A n0 z0 X (by omega) (by omega) (fun i hi => (hr i (by omega)).trans (h3 i hi))
  rw [show w1.length - n0 = w.length - n0 + (w1.length - w.length) by omega, show e_wsz w1 - z0 = e_wsz w - z0 + (e_wsz w1 - e_wsz w) by omega] at this
  exact this
theorem eBA_ret (hd : decode cc pc = .ok (.return_, 1)) : eBA l D cI cZ d y cc nL pc L [] w w := by
  refine ⟨⟨Nat.le_refl _, Nat.le_refl _⟩, fun p e s m args below meth c r0 r A n0 z0 X h1 h2 h3 => ?_⟩
  intro H locs ls hP hD hS hl
  exact W.vret X.1 X.2.1 X.2.2.2.2.2.1 (fun t ht hW => ⟨rfl, r, h3, by rw [ht]; exact hP, hD, hS.F ht⟩) hS.2.2 hd X.2.2.2.2.2.2.1
theorem eMA_of {As : List Value} (L : List (Nat × Value)) (hy : plainName y.cls = true) (hL : ∀ r, lv_args 0 (As.map (e_cv r)) = e_L r L) (hn : ∀ r, (lg_sl (As.map (e_cv r))).length ≤ nL)
    (h : eBA l D cI cZ d y cc nL 0 L [] w w') : eMA l D cI cZ d y cc nL As w w' := by
  refine ⟨h.1, fun r sz => ?_⟩
  refine Met.ofW (cc := cc) (maxL := nL) (ret := none) hy rfl ?_
  intro p e s m args below meth c s₁ B hml hv
  obtain ⟨rfl, hsz, hP, hK, hD0, hN⟩ := hv
  have hts := atoms_spec (ws := eWs y cc nL none) B.pre
  subst hsz
  have X : eX p s m (As.map (e_cv r)).toArray meth c D cI cZ (va_A (e_cw cI cZ r w) s.heap.size) s.heap y cc nL none :=
    ⟨B.exec, B.bytes, hml, findClass_of_methodNamed B.named, fun w h => hts w (List.mem_cons_of_mem _ h), B.returns, B.notSynchronized, hK, hN, fun q h => Or.inr h, (name_of_methodNamed B.named B.method).1⟩
  have hl := lv_entry (As.map (e_cv r)) (hn r)
  rw [hL] at hl
  rw [lg_entry_eq]
  have := h.2 p e s m _ below meth c r r _ w.length (e_wsz w) X (Nat.le_refl _) (Nat.le_refl _) (fun _ _ => rfl) s.heap [] _ hP (hD0.self (sz := s.heap.size)) va_S.rf hl
  rw [Nat.sub_self, Nat.sub_self] at this
  exact this
theorem eP_len {o ci k : Nat} {v : Value} (h : eP w o ci k v = some w1) : w1.length = w.length ∧ e_wsz w1 = e_wsz w := by
  obtain ⟨fs, h1, h2, rfl⟩ := eP_at h
  refine ⟨by simp, ?_⟩
  have hlt := (List.getElem?_eq_some_iff.mp h1).1
  unfold e_wsz
  congr 1
  apply List.ext_getElem?
  intro j
  rw [List.getElem?_map, List.getElem?_map, List.getElem?_set]
  by_cases hj : o = j
  · subst hj
    rw [h1]
    simp [hlt, e_sz]
  · simp [hj]
end EVB
end
section
/-! ===== helpers of the printed walks ===== -/
def eN : Nat := 1024
def eBind2 {α β : Type} (o : Option (α × eW)) (f : α → eW → Option β) : Option β := o.bind (fun q => f q.1 q.2)
theorem eBi {α β : Type} {o : Option α} {f : α → Option β} {r : β} (h : o.bind f = some r) : ∃ x, o = some x ∧ f x = some r := Option.bind_eq_some_iff.mp h
theorem eB2 {α β : Type} {o : Option (α × eW)} {f : α → eW → Option β} {r : β} (h : eBind2 o f = some r) : ∃ x w, o = some (x, w) ∧ f x w = some r := by
  obtain ⟨⟨x, w⟩, h1, h2⟩ := eBi h
  exact ⟨x, w, h1, h2⟩
theorem eNz {β : Type} {v : Int32} {f : Option β} {r : β} (h : (if v = 0 then none else f) = some r) : ¬ v = 0 ∧ f = some r := by
  by_cases hv : v = 0
  · rw [if_pos hv] at h; cases h
  · rw [if_neg hv] at h; exact ⟨hv, h⟩
theorem eBif {β : Type} {b : Bool} {f : Option β} {r : β} (h : (bif b then f else none) = some r) : b = true ∧ f = some r := by
  cases b with
  | true => exact ⟨rfl, h⟩
  | false => cases h
section EVD
variable {p : Program} {l : Launch} {e : Env} {R : Room} {s : State} {m : MethodId} {args : Array Value} {below : List Frame} {meth : Method} {c : Code} {D : va_G} {cI cZ : ClassId} {A : Nat → Prop} {H0 : Heap} {nL : Nat} {Q : State → Prop} {cells slots : Nat} {r : Nat → Nat} {pc : Nat} {L : List (Nat × Value)} {S S' : List Value} {w w' : eW}
variable {y : MethodName} {cc : ByteArray} {ret : Option FieldType}
theorem ev_callV_i (X : eX p s m args meth c D cI cZ A H0 y cc nL ret) {y1 : MethodName} {cc1 : ByteArray} {nL1 n1 d1 idx ci o : Nat} {ret1 : Option FieldType} {q : vw_C} {x : Int32} (hw : eMw y1 cc1 nL1 ret1 n1) (hl : Cond.methodLink y.cls idx y1 ∈ eT) (hin : Cond.instanceMethod y1 ∈ eT) (hse : Cond.selects y1.cls y1 y1 ∈ eT) (hq : vwCl[ci]? = some q ∧ q.1 = y1.cls) (hR : d1 + 1 ≤ R.frames ∧ 8 + (nL1 + 11) + 34 * d1 ≤ R.locals) (hf : cells ≤ R.cells ∧ slots ≤ R.slots)
    {As : List Value} (hn : As.length = n1) (hS8 : (S.map fun v => v.category).sum ≤ 8) (hd : decode cc pc = .ok (.invokevirtual idx, 3)) (hs : As.reverse ++ .ref o :: S = S') (ho : eO w o ci = true) (hM : eMN l D cI cZ d1 y1 cc1 nL1 ret1 (.ref o :: As) w (some (.int x)) w')
    (k : EV p l e R s m args below meth c D cI cZ A H0 nL Q cells slots r (pc + 3) L (.int x :: S) w') : EV p l e R s m args below meth c D cI cZ A H0 nL Q cells slots r pc L S' w := by
  subst hs
  exact ev_callV X hw hl hin hse hq hR hf hn hS8 hd ho hM k
theorem ev_callS_i (X : eX p s m args meth c D cI cZ A H0 y cc nL ret) {y1 : MethodName} {cc1 : ByteArray} {nL1 n1 d1 idx : Nat} {ret1 : Option FieldType} {x : Int32} (hw : eMw y1 cc1 nL1 ret1 n1) (hl : Cond.methodLink y.cls idx y1 ∈ eT) (hst : Cond.static y1 ∈ eT) (hR : d1 + 1 ≤ R.frames ∧ 8 + (nL1 + 11) + 34 * d1 ≤ R.locals) (hf : cells ≤ R.cells ∧ slots ≤ R.slots)
    {As : List Value} (hn : As.length = n1) (hS8 : (S.map fun v => v.category).sum ≤ 8) (hd : decode cc pc = .ok (.invokestatic idx, 3)) (hs : As.reverse ++ S = S') (hM : eMN l D cI cZ d1 y1 cc1 nL1 ret1 As w (some (.int x)) w')
    (k : EV p l e R s m args below meth c D cI cZ A H0 nL Q cells slots r (pc + 3) L (.int x :: S) w') : EV p l e R s m args below meth c D cI cZ A H0 nL Q cells slots r pc L S' w := by
  subst hs
  exact ev_callS X hw hl hst hR hf hn hS8 hd hM k
theorem ev_callSN_i (X : eX p s m args meth c D cI cZ A H0 y cc nL ret) {y1 : MethodName} {cc1 : ByteArray} {nL1 n1 d1 idx : Nat} {ret1 : Option FieldType} {host : String} {x : Int32} (hw : eMw y1 cc1 nL1 ret1 n1) (hl : Cond.methodLinkNest y.cls idx y1 host ∈ eNw) (hst : Cond.static y1 ∈ eT) (hR : d1 + 1 ≤ R.frames ∧ 8 + (nL1 + 11) + 34 * d1 ≤ R.locals) (hf : cells ≤ R.cells ∧ slots ≤ R.slots)
    {As : List Value} (hn : As.length = n1) (hS8 : (S.map fun v => v.category).sum ≤ 8) (hd : decode cc pc = .ok (.invokestatic idx, 3)) (hs : As.reverse ++ S = S') (hM : eMN l D cI cZ d1 y1 cc1 nL1 ret1 As w (some (.int x)) w')
    (k : EV p l e R s m args below meth c D cI cZ A H0 nL Q cells slots r (pc + 3) L (.int x :: S) w') : EV p l e R s m args below meth c D cI cZ A H0 nL Q cells slots r pc L S' w := by
  subst hs
  exact ev_callSN X hw hl hst hR hf hn hS8 hd hM k
theorem ev_callV_l (X : eX p s m args meth c D cI cZ A H0 y cc nL ret) {y1 : MethodName} {cc1 : ByteArray} {nL1 n1 d1 idx ci o : Nat} {ret1 : Option FieldType} {q : vw_C} {x : Int64} (hw : eMw y1 cc1 nL1 ret1 n1) (hl : Cond.methodLink y.cls idx y1 ∈ eT) (hin : Cond.instanceMethod y1 ∈ eT) (hse : Cond.selects y1.cls y1 y1 ∈ eT) (hq : vwCl[ci]? = some q ∧ q.1 = y1.cls) (hR : d1 + 1 ≤ R.frames ∧ 8 + (nL1 + 11) + 34 * d1 ≤ R.locals) (hf : cells ≤ R.cells ∧ slots ≤ R.slots)
    {As : List Value} (hn : As.length = n1) (hS8 : (S.map fun v => v.category).sum ≤ 8) (hd : decode cc pc = .ok (.invokevirtual idx, 3)) (hs : As.reverse ++ .ref o :: S = S') (ho : eO w o ci = true) (hM : eMN l D cI cZ d1 y1 cc1 nL1 ret1 (.ref o :: As) w (some (.long x)) w')
    (k : EV p l e R s m args below meth c D cI cZ A H0 nL Q cells slots r (pc + 3) L (.long x :: S) w') : EV p l e R s m args below meth c D cI cZ A H0 nL Q cells slots r pc L S' w := by
  subst hs
  exact ev_callV X hw hl hin hse hq hR hf hn hS8 hd ho hM k
theorem ev_callS_l (X : eX p s m args meth c D cI cZ A H0 y cc nL ret) {y1 : MethodName} {cc1 : ByteArray} {nL1 n1 d1 idx : Nat} {ret1 : Option FieldType} {x : Int64} (hw : eMw y1 cc1 nL1 ret1 n1) (hl : Cond.methodLink y.cls idx y1 ∈ eT) (hst : Cond.static y1 ∈ eT) (hR : d1 + 1 ≤ R.frames ∧ 8 + (nL1 + 11) + 34 * d1 ≤ R.locals) (hf : cells ≤ R.cells ∧ slots ≤ R.slots)
    {As : List Value} (hn : As.length = n1) (hS8 : (S.map fun v => v.category).sum ≤ 8) (hd : decode cc pc = .ok (.invokestatic idx, 3)) (hs : As.reverse ++ S = S') (hM : eMN l D cI cZ d1 y1 cc1 nL1 ret1 As w (some (.long x)) w')
    (k : EV p l e R s m args below meth c D cI cZ A H0 nL Q cells slots r (pc + 3) L (.long x :: S) w') : EV p l e R s m args below meth c D cI cZ A H0 nL Q cells slots r pc L S' w := by
  subst hs
  exact ev_callS X hw hl hst hR hf hn hS8 hd hM k
theorem ev_callSN_l (X : eX p s m args meth c D cI cZ A H0 y cc nL ret) {y1 : MethodName} {cc1 : ByteArray} {nL1 n1 d1 idx : Nat} {ret1 : Option FieldType} {host : String} {x : Int64} (hw : eMw y1 cc1 nL1 ret1 n1) (hl : Cond.methodLinkNest y.cls idx y1 host ∈ eNw) (hst : Cond.static y1 ∈ eT) (hR : d1 + 1 ≤ R.frames ∧ 8 + (nL1 + 11) + 34 * d1 ≤ R.locals) (hf : cells ≤ R.cells ∧ slots ≤ R.slots)
    {As : List Value} (hn : As.length = n1) (hS8 : (S.map fun v => v.category).sum ≤ 8) (hd : decode cc pc = .ok (.invokestatic idx, 3)) (hs : As.reverse ++ S = S') (hM : eMN l D cI cZ d1 y1 cc1 nL1 ret1 As w (some (.long x)) w')
    (k : EV p l e R s m args below meth c D cI cZ A H0 nL Q cells slots r (pc + 3) L (.long x :: S) w') : EV p l e R s m args below meth c D cI cZ A H0 nL Q cells slots r pc L S' w := by
  subst hs
  exact ev_callSN X hw hl hst hR hf hn hS8 hd hM k
theorem ev_callV_r (X : eX p s m args meth c D cI cZ A H0 y cc nL ret) {y1 : MethodName} {cc1 : ByteArray} {nL1 n1 d1 idx ci o : Nat} {ret1 : Option FieldType} {q : vw_C} {x : Nat} (hw : eMw y1 cc1 nL1 ret1 n1) (hl : Cond.methodLink y.cls idx y1 ∈ eT) (hin : Cond.instanceMethod y1 ∈ eT) (hse : Cond.selects y1.cls y1 y1 ∈ eT) (hq : vwCl[ci]? = some q ∧ q.1 = y1.cls) (hR : d1 + 1 ≤ R.frames ∧ 8 + (nL1 + 11) + 34 * d1 ≤ R.locals) (hf : cells ≤ R.cells ∧ slots ≤ R.slots)
    {As : List Value} (hn : As.length = n1) (hS8 : (S.map fun v => v.category).sum ≤ 8) (hd : decode cc pc = .ok (.invokevirtual idx, 3)) (hs : As.reverse ++ .ref o :: S = S') (ho : eO w o ci = true) (hM : eMN l D cI cZ d1 y1 cc1 nL1 ret1 (.ref o :: As) w (some (.ref x)) w')
    (k : EV p l e R s m args below meth c D cI cZ A H0 nL Q cells slots r (pc + 3) L (.ref x :: S) w') : EV p l e R s m args below meth c D cI cZ A H0 nL Q cells slots r pc L S' w := by
  subst hs
  exact ev_callV X hw hl hin hse hq hR hf hn hS8 hd ho hM k
theorem ev_callS_r (X : eX p s m args meth c D cI cZ A H0 y cc nL ret) {y1 : MethodName} {cc1 : ByteArray} {nL1 n1 d1 idx : Nat} {ret1 : Option FieldType} {x : Nat} (hw : eMw y1 cc1 nL1 ret1 n1) (hl : Cond.methodLink y.cls idx y1 ∈ eT) (hst : Cond.static y1 ∈ eT) (hR : d1 + 1 ≤ R.frames ∧ 8 + (nL1 + 11) + 34 * d1 ≤ R.locals) (hf : cells ≤ R.cells ∧ slots ≤ R.slots)
    {As : List Value} (hn : As.length = n1) (hS8 : (S.map fun v => v.category).sum ≤ 8) (hd : decode cc pc = .ok (.invokestatic idx, 3)) (hs : As.reverse ++ S = S') (hM : eMN l D cI cZ d1 y1 cc1 nL1 ret1 As w (some (.ref x)) w')
    (k : EV p l e R s m args below meth c D cI cZ A H0 nL Q cells slots r (pc + 3) L (.ref x :: S) w') : EV p l e R s m args below meth c D cI cZ A H0 nL Q cells slots r pc L S' w := by
  subst hs
  exact ev_callS X hw hl hst hR hf hn hS8 hd hM k
theorem ev_callSN_r (X : eX p s m args meth c D cI cZ A H0 y cc nL ret) {y1 : MethodName} {cc1 : ByteArray} {nL1 n1 d1 idx : Nat} {ret1 : Option FieldType} {host : String} {x : Nat} (hw : eMw y1 cc1 nL1 ret1 n1) (hl : Cond.methodLinkNest y.cls idx y1 host ∈ eNw) (hst : Cond.static y1 ∈ eT) (hR : d1 + 1 ≤ R.frames ∧ 8 + (nL1 + 11) + 34 * d1 ≤ R.locals) (hf : cells ≤ R.cells ∧ slots ≤ R.slots)
    {As : List Value} (hn : As.length = n1) (hS8 : (S.map fun v => v.category).sum ≤ 8) (hd : decode cc pc = .ok (.invokestatic idx, 3)) (hs : As.reverse ++ S = S') (hM : eMN l D cI cZ d1 y1 cc1 nL1 ret1 As w (some (.ref x)) w')
    (k : EV p l e R s m args below meth c D cI cZ A H0 nL Q cells slots r (pc + 3) L (.ref x :: S) w') : EV p l e R s m args below meth c D cI cZ A H0 nL Q cells slots r pc L S' w := by
  subst hs
  exact ev_callSN X hw hl hst hR hf hn hS8 hd hM k
theorem ev_callV_v (X : eX p s m args meth c D cI cZ A H0 y cc nL ret) {y1 : MethodName} {cc1 : ByteArray} {nL1 n1 d1 idx ci o : Nat} {ret1 : Option FieldType} {q : vw_C}  (hw : eMw y1 cc1 nL1 ret1 n1) (hl : Cond.methodLink y.cls idx y1 ∈ eT) (hin : Cond.instanceMethod y1 ∈ eT) (hse : Cond.selects y1.cls y1 y1 ∈ eT) (hq : vwCl[ci]? = some q ∧ q.1 = y1.cls) (hR : d1 + 1 ≤ R.frames ∧ 8 + (nL1 + 11) + 34 * d1 ≤ R.locals) (hf : cells ≤ R.cells ∧ slots ≤ R.slots)
    {As : List Value} (hn : As.length = n1) (hS8 : (S.map fun v => v.category).sum ≤ 8) (hd : decode cc pc = .ok (.invokevirtual idx, 3)) (hs : As.reverse ++ .ref o :: S = S') (ho : eO w o ci = true) (hM : eMN l D cI cZ d1 y1 cc1 nL1 ret1 (.ref o :: As) w none w')
    (k : EV p l e R s m args below meth c D cI cZ A H0 nL Q cells slots r (pc + 3) L S w') : EV p l e R s m args below meth c D cI cZ A H0 nL Q cells slots r pc L S' w := by
  subst hs
  exact ev_callV X hw hl hin hse hq hR hf hn hS8 hd ho hM k
theorem ev_callS_v (X : eX p s m args meth c D cI cZ A H0 y cc nL ret) {y1 : MethodName} {cc1 : ByteArray} {nL1 n1 d1 idx : Nat} {ret1 : Option FieldType}  (hw : eMw y1 cc1 nL1 ret1 n1) (hl : Cond.methodLink y.cls idx y1 ∈ eT) (hst : Cond.static y1 ∈ eT) (hR : d1 + 1 ≤ R.frames ∧ 8 + (nL1 + 11) + 34 * d1 ≤ R.locals) (hf : cells ≤ R.cells ∧ slots ≤ R.slots)
    {As : List Value} (hn : As.length = n1) (hS8 : (S.map fun v => v.category).sum ≤ 8) (hd : decode cc pc = .ok (.invokestatic idx, 3)) (hs : As.reverse ++ S = S') (hM : eMN l D cI cZ d1 y1 cc1 nL1 ret1 As w none w')
    (k : EV p l e R s m args below meth c D cI cZ A H0 nL Q cells slots r (pc + 3) L S w') : EV p l e R s m args below meth c D cI cZ A H0 nL Q cells slots r pc L S' w := by
  subst hs
  exact ev_callS X hw hl hst hR hf hn hS8 hd hM k
theorem ev_callSN_v (X : eX p s m args meth c D cI cZ A H0 y cc nL ret) {y1 : MethodName} {cc1 : ByteArray} {nL1 n1 d1 idx : Nat} {ret1 : Option FieldType} {host : String}  (hw : eMw y1 cc1 nL1 ret1 n1) (hl : Cond.methodLinkNest y.cls idx y1 host ∈ eNw) (hst : Cond.static y1 ∈ eT) (hR : d1 + 1 ≤ R.frames ∧ 8 + (nL1 + 11) + 34 * d1 ≤ R.locals) (hf : cells ≤ R.cells ∧ slots ≤ R.slots)
    {As : List Value} (hn : As.length = n1) (hS8 : (S.map fun v => v.category).sum ≤ 8) (hd : decode cc pc = .ok (.invokestatic idx, 3)) (hs : As.reverse ++ S = S') (hM : eMN l D cI cZ d1 y1 cc1 nL1 ret1 As w none w')
    (k : EV p l e R s m args below meth c D cI cZ A H0 nL Q cells slots r (pc + 3) L S w') : EV p l e R s m args below meth c D cI cZ A H0 nL Q cells slots r pc L S' w := by
  subst hs
  exact ev_callSN X hw hl hst hR hf hn hS8 hd hM k
end EVD
end
section
section GEN
variable {l : Launch} {D : va_G} {cI cZ : ClassId}
theorem dJ9_max_7cf53_0 : decode cJ9_max_7cf53 0 = .ok (.iload_n 0, 1) := by decide +kernel
theorem dJ9_max_7cf53_1 : decode cJ9_max_7cf53 1 = .ok (.iload_n 1, 1) := by decide +kernel
theorem dJ9_max_7cf53_2 : decode cJ9_max_7cf53 2 = .ok (.if_icmp .lt 7, 3) := by decide +kernel
theorem dJ9_max_7cf53_5 : decode cJ9_max_7cf53 5 = .ok (.iload_n 0, 1) := by decide +kernel
theorem dJ9_max_7cf53_6 : decode cJ9_max_7cf53 6 = .ok (.goto 4, 3) := by decide +kernel
theorem dJ9_max_7cf53_9 : decode cJ9_max_7cf53 9 = .ok (.iload_n 1, 1) := by decide +kernel
theorem dJ9_max_7cf53_10 : decode cJ9_max_7cf53 10 = .ok (.ireturn, 1) := by decide +kernel
def fJ9_max_7cf53_0 (x0 : Int32) (x1 : Int32) (w : eW) : Option (Int32 × eW) := if x0 < x1 then (some (x1, w)) else (some (x0, w))
set_option maxRecDepth 20000 in
theorem sJ9_max_7cf53_0  (x0 : Int32) (x1 : Int32) (w : eW) (r : Int32 × eW) (h : fJ9_max_7cf53_0 x0 x1 w = some r) : eBN l D cI cZ 0 yJ9_max_7cf53 cJ9_max_7cf53 2 (some .int) 0 [(0, .int x0), (1, .int x1)] [] w (some (.int r.1)) r.2 := by
  rw [fJ9_max_7cf53_0] at h
  intro p e s m args below meth c r0 A X
  refine ev_iload_n (pc := 0) X 0 dJ9_max_7cf53_0 rfl rfl ?_
  refine ev_iload_n (pc := 1) X 1 dJ9_max_7cf53_1 rfl rfl ?_
  refine ev_icmp_lt (pc := 2) X 9 dJ9_max_7cf53_2 rfl (fun hc => ?_) (fun hc => ?_)
  · rw [if_pos hc] at h
    refine ev_iload_n (pc := 9) X 1 dJ9_max_7cf53_9 rfl rfl ?_
    cases h
    exact ev_iret (pc := 10) X dJ9_max_7cf53_10
  · rw [if_neg hc] at h
    refine ev_iload_n (pc := 5) X 0 dJ9_max_7cf53_5 rfl rfl ?_
    refine ev_goto (pc := 6) X 10 dJ9_max_7cf53_6 rfl ?_
    cases h
    exact ev_iret (pc := 10) X dJ9_max_7cf53_10
def fJ9_max_7cf53 (a0 : Int32) (a1 : Int32) (w : eW) : Option (Int32 × eW) := fJ9_max_7cf53_0 a0 a1 w
theorem mJ9_max_7cf53 {a0 : Int32} {a1 : Int32} {w : eW} {v : Int32} {w' : eW} (h : fJ9_max_7cf53 a0 a1 w = some (v, w')) : eMN l D cI cZ 0 yJ9_max_7cf53 cJ9_max_7cf53 2 (some .int) [.int a0, .int a1] w (some (.int v)) w' :=
  eMN_of [(0, .int a0), (1, .int a1)] (by decide +kernel) (fun _ => rfl) (fun _ => Nat.le_of_ble_eq_true rfl) (fun p e s m args below meth c r0 A X => ev_weak (pc := 0) [0, 1] rfl (sJ9_max_7cf53_0 _ _ _ _ h p e s m args below meth c r0 A X))
theorem dX7_put_0 : decode cX7_put 0 = .ok (.iload_n 1, 1) := by decide +kernel
theorem dX7_put_1 : decode cX7_put 1 = .ok (.ifCond .lt 19, 3) := by decide +kernel
theorem dX7_put_4 : decode cX7_put 4 = .ok (.iload_n 1, 1) := by decide +kernel
theorem dX7_put_5 : decode cX7_put 5 = .ok (.aload_n 0, 1) := by decide +kernel
theorem dX7_put_6 : decode cX7_put 6 = .ok (.getfield 13, 3) := by decide +kernel
theorem dX7_put_9 : decode cX7_put 9 = .ok (.arraylength, 1) := by decide +kernel
theorem dX7_put_10 : decode cX7_put 10 = .ok (.if_icmp .ge 10, 3) := by decide +kernel
theorem dX7_put_13 : decode cX7_put 13 = .ok (.aload_n 0, 1) := by decide +kernel
theorem dX7_put_14 : decode cX7_put 14 = .ok (.getfield 13, 3) := by decide +kernel
theorem dX7_put_17 : decode cX7_put 17 = .ok (.iload_n 1, 1) := by decide +kernel
theorem dX7_put_18 : decode cX7_put 18 = .ok (.iload_n 2, 1) := by decide +kernel
theorem dX7_put_19 : decode cX7_put 19 = .ok (.iastore, 1) := by decide +kernel
theorem dX7_put_20 : decode cX7_put 20 = .ok (.return_, 1) := by decide +kernel
def fX7_put_0 (x0 : Nat) (x1 : Int32) (x2 : Int32) (w : eW) : Option (eW) := if x1 < 0 then (some w) else ((eGR w x0 7 0).bind fun v1 => (eLen w v1).bind fun v2 => if v2 ≤ x1 then (some w) else ((eGR w x0 7 0).bind fun v3 => (eSt w false v3 x1 x2).bind fun w4 => some w4))
set_option maxRecDepth 20000 in
theorem sX7_put_0  (x0 : Nat) (x1 : Int32) (x2 : Int32) (w : eW) (r : eW) (h : fX7_put_0 x0 x1 x2 w = some r) : eBN l D cI cZ 0 yX7_put cX7_put 3 none 0 [(0, .ref x0), (1, .int x1), (2, .int x2)] [] w none r := by
  rw [fX7_put_0] at h
  intro p e s m args below meth c r0 A X
  refine ev_iload_n (pc := 0) X 1 dX7_put_0 rfl rfl ?_
  refine ev_if_lt (pc := 1) X 20 dX7_put_1 rfl (fun hc => ?_) (fun hc => ?_)
  · rw [if_pos hc] at h
    cases h
    exact ev_vret (pc := 20) X dX7_put_20
  · rw [if_neg hc] at h
    refine ev_iload_n (pc := 4) X 1 dX7_put_4 rfl rfl ?_
    refine ev_aload_n (pc := 5) X 0 dX7_put_5 rfl rfl ?_
    obtain ⟨v1, hv1, h⟩ := eBi h
    refine ev_getR (pc := 6) X hcX7 (k := 0) (by decide) kfX7_13 dX7_put_6 hv1 ?_
    obtain ⟨v2, hv2, h⟩ := eBi h
    refine ev_alen (pc := 9) X dX7_put_9 hv2 ?_
    refine ev_icmp_ge (pc := 10) X 20 dX7_put_10 rfl (fun hc => ?_) (fun hc => ?_)
    · rw [if_pos hc] at h
      cases h
      exact ev_vret (pc := 20) X dX7_put_20
    · rw [if_neg hc] at h
      refine ev_aload_n (pc := 13) X 0 dX7_put_13 rfl rfl ?_
      obtain ⟨v3, hv3, h⟩ := eBi h
      refine ev_getR (pc := 14) X hcX7 (k := 0) (by decide) kfX7_13 dX7_put_14 hv3 ?_
      refine ev_iload_n (pc := 17) X 1 dX7_put_17 rfl rfl ?_
      refine ev_iload_n (pc := 18) X 2 dX7_put_18 rfl rfl ?_
      obtain ⟨w4, hw4, h⟩ := eBi h
      refine ev_iast (pc := 19) X dX7_put_19 hw4 ?_
      cases h
      exact ev_vret (pc := 20) X dX7_put_20
def fX7_put (a0 : Nat) (a1 : Int32) (a2 : Int32) (w : eW) : Option (eW) := bif eO w a0 7 then fX7_put_0 a0 a1 a2 w else none
theorem mX7_put {a0 : Nat} {a1 : Int32} {a2 : Int32} {w : eW} {w' : eW} (h : fX7_put a0 a1 a2 w = some w') : eO w a0 7 = true ∧ eMN l D cI cZ 0 yX7_put cX7_put 3 none [.ref a0, .int a1, .int a2] w none w' := by
  obtain ⟨h0, h⟩ := eBif h
  exact ⟨h0, eMN_of [(0, .ref a0), (1, .int a1), (2, .int a2)] (plainFor_of_name (by decide)) (fun _ => rfl) (fun _ => Nat.le_of_ble_eq_true rfl) (fun p e s m args below meth c r0 A X => ev_weak (pc := 0) [0, 1, 2] rfl (sX7_put_0 _ _ _ _ _ h p e s m args below meth c r0 A X))⟩
theorem dX7_get_0 : decode cX7_get 0 = .ok (.iload_n 1, 1) := by decide +kernel
theorem dX7_get_1 : decode cX7_get 1 = .ok (.ifCond .lt 21, 3) := by decide +kernel
theorem dX7_get_4 : decode cX7_get 4 = .ok (.iload_n 1, 1) := by decide +kernel
theorem dX7_get_5 : decode cX7_get 5 = .ok (.aload_n 0, 1) := by decide +kernel
theorem dX7_get_6 : decode cX7_get 6 = .ok (.getfield 13, 3) := by decide +kernel
theorem dX7_get_9 : decode cX7_get 9 = .ok (.arraylength, 1) := by decide +kernel
theorem dX7_get_10 : decode cX7_get 10 = .ok (.if_icmp .ge 12, 3) := by decide +kernel
theorem dX7_get_13 : decode cX7_get 13 = .ok (.aload_n 0, 1) := by decide +kernel
theorem dX7_get_14 : decode cX7_get 14 = .ok (.getfield 13, 3) := by decide +kernel
theorem dX7_get_17 : decode cX7_get 17 = .ok (.iload_n 1, 1) := by decide +kernel
theorem dX7_get_18 : decode cX7_get 18 = .ok (.iaload, 1) := by decide +kernel
theorem dX7_get_19 : decode cX7_get 19 = .ok (.goto 4, 3) := by decide +kernel
theorem dX7_get_22 : decode cX7_get 22 = .ok (.iconst 0, 1) := by decide +kernel
theorem dX7_get_23 : decode cX7_get 23 = .ok (.ireturn, 1) := by decide +kernel
def fX7_get_22  (w : eW) : Option (Int32 × eW) := some ((0 : Int32), w)
set_option maxRecDepth 20000 in
theorem sX7_get_22   (w : eW) (r : Int32 × eW) (h : fX7_get_22  w = some r) : eBN l D cI cZ 0 yX7_get cX7_get 2 (some .int) 22 [] [] w (some (.int r.1)) r.2 := by
  rw [fX7_get_22] at h
  intro p e s m args below meth c r0 A X
  refine ev_iconst (pc := 22) (v := (0 : Int32)) X dX7_get_22 rfl ?_
  cases h
  exact ev_iret (pc := 23) X dX7_get_23
def fX7_get_0 (x0 : Nat) (x1 : Int32) (w : eW) : Option (Int32 × eW) := if x1 < 0 then (fX7_get_22 w) else ((eGR w x0 7 0).bind fun v1 => (eLen w v1).bind fun v2 => if v2 ≤ x1 then (fX7_get_22 w) else ((eGR w x0 7 0).bind fun v3 => (eLd w false v3 x1).bind fun v4 => some (v4, w)))
set_option maxRecDepth 20000 in
theorem sX7_get_0  (x0 : Nat) (x1 : Int32) (w : eW) (r : Int32 × eW) (h : fX7_get_0 x0 x1 w = some r) : eBN l D cI cZ 0 yX7_get cX7_get 2 (some .int) 0 [(0, .ref x0), (1, .int x1)] [] w (some (.int r.1)) r.2 := by
  rw [fX7_get_0] at h
  intro p e s m args below meth c r0 A X
  refine ev_iload_n (pc := 0) X 1 dX7_get_0 rfl rfl ?_
  refine ev_if_lt (pc := 1) X 22 dX7_get_1 rfl (fun hc => ?_) (fun hc => ?_)
  · rw [if_pos hc] at h
    exact ev_weak (pc := 22) [] rfl (sX7_get_22  _ _ h p e s m args below meth c r0 A X)
  · rw [if_neg hc] at h
    refine ev_iload_n (pc := 4) X 1 dX7_get_4 rfl rfl ?_
    refine ev_aload_n (pc := 5) X 0 dX7_get_5 rfl rfl ?_
    obtain ⟨v1, hv1, h⟩ := eBi h
    refine ev_getR (pc := 6) X hcX7 (k := 0) (by decide) kfX7_13 dX7_get_6 hv1 ?_
    obtain ⟨v2, hv2, h⟩ := eBi h
    refine ev_alen (pc := 9) X dX7_get_9 hv2 ?_
    refine ev_icmp_ge (pc := 10) X 22 dX7_get_10 rfl (fun hc => ?_) (fun hc => ?_)
    · rw [if_pos hc] at h
      exact ev_weak (pc := 22) [] rfl (sX7_get_22  _ _ h p e s m args below meth c r0 A X)
    · rw [if_neg hc] at h
      refine ev_aload_n (pc := 13) X 0 dX7_get_13 rfl rfl ?_
      obtain ⟨v3, hv3, h⟩ := eBi h
      refine ev_getR (pc := 14) X hcX7 (k := 0) (by decide) kfX7_13 dX7_get_14 hv3 ?_
      refine ev_iload_n (pc := 17) X 1 dX7_get_17 rfl rfl ?_
      obtain ⟨v4, hv4, h⟩ := eBi h
      refine ev_iald (pc := 18) X dX7_get_18 hv4 ?_
      refine ev_goto (pc := 19) X 23 dX7_get_19 rfl ?_
      cases h
      exact ev_iret (pc := 23) X dX7_get_23
def fX7_get (a0 : Nat) (a1 : Int32) (w : eW) : Option (Int32 × eW) := bif eO w a0 7 then fX7_get_0 a0 a1 w else none
theorem mX7_get {a0 : Nat} {a1 : Int32} {w : eW} {v : Int32} {w' : eW} (h : fX7_get a0 a1 w = some (v, w')) : eO w a0 7 = true ∧ eMN l D cI cZ 0 yX7_get cX7_get 2 (some .int) [.ref a0, .int a1] w (some (.int v)) w' := by
  obtain ⟨h0, h⟩ := eBif h
  exact ⟨h0, eMN_of [(0, .ref a0), (1, .int a1)] (plainFor_of_name (by decide)) (fun _ => rfl) (fun _ => Nat.le_of_ble_eq_true rfl) (fun p e s m args below meth c r0 A X => ev_weak (pc := 0) [0, 1] rfl (sX7_get_0 _ _ _ _ h p e s m args below meth c r0 A X))⟩
theorem dX1_cells_0 : decode cX1_cells 0 = .ok (.aload_n 0, 1) := by decide +kernel
theorem dX1_cells_1 : decode cX1_cells 1 = .ok (.getfield 26, 3) := by decide +kernel
theorem dX1_cells_4 : decode cX1_cells 4 = .ok (.aload_n 0, 1) := by decide +kernel
theorem dX1_cells_5 : decode cX1_cells 5 = .ok (.getfield 30, 3) := by decide +kernel
theorem dX1_cells_8 : decode cX1_cells 8 = .ok (.imul, 1) := by decide +kernel
theorem dX1_cells_9 : decode cX1_cells 9 = .ok (.ireturn, 1) := by decide +kernel
def fX1_cells_0 (x0 : Nat) (w : eW) : Option (Int32 × eW) := (eGI w x0 1 0).bind fun v1 => (eGI w x0 1 1).bind fun v2 => some (v1 * v2, w)
set_option maxRecDepth 20000 in
theorem sX1_cells_0  (x0 : Nat) (w : eW) (r : Int32 × eW) (h : fX1_cells_0 x0 w = some r) : eBN l D cI cZ 0 yX1_cells cX1_cells 1 (some .int) 0 [(0, .ref x0)] [] w (some (.int r.1)) r.2 := by
  rw [fX1_cells_0] at h
  intro p e s m args below meth c r0 A X
  refine ev_aload_n (pc := 0) X 0 dX1_cells_0 rfl rfl ?_
  obtain ⟨v1, hv1, h⟩ := eBi h
  refine ev_getI (pc := 1) X hcX1 (k := 0) (by decide) kfX1_26 dX1_cells_1 hv1 ?_
  refine ev_aload_n (pc := 4) X 0 dX1_cells_4 rfl rfl ?_
  obtain ⟨v2, hv2, h⟩ := eBi h
  refine ev_getI (pc := 5) X hcX1 (k := 1) (by decide) kfX1_30 dX1_cells_5 hv2 ?_
  refine ev_imul (pc := 8) X dX1_cells_8 ?_
  cases h
  exact ev_iret (pc := 9) X dX1_cells_9
def fX1_cells (a0 : Nat) (w : eW) : Option (Int32 × eW) := bif eO w a0 1 then fX1_cells_0 a0 w else none
theorem mX1_cells {a0 : Nat} {w : eW} {v : Int32} {w' : eW} (h : fX1_cells a0 w = some (v, w')) : eO w a0 1 = true ∧ eMN l D cI cZ 0 yX1_cells cX1_cells 1 (some .int) [.ref a0] w (some (.int v)) w' := by
  obtain ⟨h0, h⟩ := eBif h
  exact ⟨h0, eMN_of [(0, .ref a0)] (plainFor_of_name (by decide)) (fun _ => rfl) (fun _ => Nat.le_of_ble_eq_true rfl) (fun p e s m args below meth c r0 A X => ev_weak (pc := 0) [0] rfl (sX1_cells_0 _ _ _ h p e s m args below meth c r0 A X))⟩
theorem dX1_neighbour_0 : decode cX1_neighbour 0 = .ok (.aload_n 0, 1) := by decide +kernel
theorem dX1_neighbour_1 : decode cX1_neighbour 1 = .ok (.getfield 26, 3) := by decide +kernel
theorem dX1_neighbour_4 : decode cX1_neighbour 4 = .ok (.ifCond .le 12, 3) := by decide +kernel
theorem dX1_neighbour_7 : decode cX1_neighbour 7 = .ok (.iload_n 1, 1) := by decide +kernel
theorem dX1_neighbour_8 : decode cX1_neighbour 8 = .ok (.aload_n 0, 1) := by decide +kernel
theorem dX1_neighbour_9 : decode cX1_neighbour 9 = .ok (.getfield 26, 3) := by decide +kernel
theorem dX1_neighbour_12 : decode cX1_neighbour 12 = .ok (.irem, 1) := by decide +kernel
theorem dX1_neighbour_13 : decode cX1_neighbour 13 = .ok (.goto 4, 3) := by decide +kernel
theorem dX1_neighbour_16 : decode cX1_neighbour 16 = .ok (.iconst 0, 1) := by decide +kernel
theorem dX1_neighbour_17 : decode cX1_neighbour 17 = .ok (.istore_n 3, 1) := by decide +kernel
theorem dX1_neighbour_18 : decode cX1_neighbour 18 = .ok (.iload_n 2, 1) := by decide +kernel
theorem dX1_neighbour_19 : decode cX1_neighbour 19 = .ok (.tableswitch 103 0 3 #[29, 49, 67, 91], 29) := by decide +kernel
theorem dX1_neighbour_48 : decode cX1_neighbour 48 = .ok (.iload_n 1, 1) := by decide +kernel
theorem dX1_neighbour_49 : decode cX1_neighbour 49 = .ok (.aload_n 0, 1) := by decide +kernel
theorem dX1_neighbour_50 : decode cX1_neighbour 50 = .ok (.getfield 26, 3) := by decide +kernel
theorem dX1_neighbour_53 : decode cX1_neighbour 53 = .ok (.isub, 1) := by decide +kernel
theorem dX1_neighbour_54 : decode cX1_neighbour 54 = .ok (.ifCond .lt 12, 3) := by decide +kernel
theorem dX1_neighbour_57 : decode cX1_neighbour 57 = .ok (.iload_n 1, 1) := by decide +kernel
theorem dX1_neighbour_58 : decode cX1_neighbour 58 = .ok (.aload_n 0, 1) := by decide +kernel
theorem dX1_neighbour_59 : decode cX1_neighbour 59 = .ok (.getfield 26, 3) := by decide +kernel
theorem dX1_neighbour_62 : decode cX1_neighbour 62 = .ok (.isub, 1) := by decide +kernel
theorem dX1_neighbour_63 : decode cX1_neighbour 63 = .ok (.goto 4, 3) := by decide +kernel
theorem dX1_neighbour_66 : decode cX1_neighbour 66 = .ok (.iconst (-1), 1) := by decide +kernel
theorem dX1_neighbour_67 : decode cX1_neighbour 67 = .ok (.ireturn, 1) := by decide +kernel
theorem dX1_neighbour_68 : decode cX1_neighbour 68 = .ok (.iload_n 3, 1) := by decide +kernel
theorem dX1_neighbour_69 : decode cX1_neighbour 69 = .ok (.iconst 1, 1) := by decide +kernel
theorem dX1_neighbour_70 : decode cX1_neighbour 70 = .ok (.iadd, 1) := by decide +kernel
theorem dX1_neighbour_71 : decode cX1_neighbour 71 = .ok (.aload_n 0, 1) := by decide +kernel
theorem dX1_neighbour_72 : decode cX1_neighbour 72 = .ok (.getfield 26, 3) := by decide +kernel
theorem dX1_neighbour_75 : decode cX1_neighbour 75 = .ok (.if_icmp .ge 9, 3) := by decide +kernel
theorem dX1_neighbour_78 : decode cX1_neighbour 78 = .ok (.iload_n 1, 1) := by decide +kernel
theorem dX1_neighbour_79 : decode cX1_neighbour 79 = .ok (.iconst 1, 1) := by decide +kernel
theorem dX1_neighbour_80 : decode cX1_neighbour 80 = .ok (.iadd, 1) := by decide +kernel
theorem dX1_neighbour_81 : decode cX1_neighbour 81 = .ok (.goto 4, 3) := by decide +kernel
theorem dX1_neighbour_84 : decode cX1_neighbour 84 = .ok (.iconst (-1), 1) := by decide +kernel
theorem dX1_neighbour_85 : decode cX1_neighbour 85 = .ok (.ireturn, 1) := by decide +kernel
theorem dX1_neighbour_86 : decode cX1_neighbour 86 = .ok (.iload_n 1, 1) := by decide +kernel
theorem dX1_neighbour_87 : decode cX1_neighbour 87 = .ok (.aload_n 0, 1) := by decide +kernel
theorem dX1_neighbour_88 : decode cX1_neighbour 88 = .ok (.getfield 26, 3) := by decide +kernel
theorem dX1_neighbour_91 : decode cX1_neighbour 91 = .ok (.iadd, 1) := by decide +kernel
theorem dX1_neighbour_92 : decode cX1_neighbour 92 = .ok (.aload_n 0, 1) := by decide +kernel
theorem dX1_neighbour_93 : decode cX1_neighbour 93 = .ok (.invokevirtual 50, 3) := by decide +kernel
theorem dX1_neighbour_96 : decode cX1_neighbour 96 = .ok (.if_icmp .ge 12, 3) := by decide +kernel
theorem dX1_neighbour_99 : decode cX1_neighbour 99 = .ok (.iload_n 1, 1) := by decide +kernel
theorem dX1_neighbour_100 : decode cX1_neighbour 100 = .ok (.aload_n 0, 1) := by decide +kernel
theorem dX1_neighbour_101 : decode cX1_neighbour 101 = .ok (.getfield 26, 3) := by decide +kernel
theorem dX1_neighbour_104 : decode cX1_neighbour 104 = .ok (.iadd, 1) := by decide +kernel
theorem dX1_neighbour_105 : decode cX1_neighbour 105 = .ok (.goto 4, 3) := by decide +kernel
theorem dX1_neighbour_108 : decode cX1_neighbour 108 = .ok (.iconst (-1), 1) := by decide +kernel
theorem dX1_neighbour_109 : decode cX1_neighbour 109 = .ok (.ireturn, 1) := by decide +kernel
theorem dX1_neighbour_110 : decode cX1_neighbour 110 = .ok (.iload_n 3, 1) := by decide +kernel
theorem dX1_neighbour_111 : decode cX1_neighbour 111 = .ok (.ifCond .le 9, 3) := by decide +kernel
theorem dX1_neighbour_114 : decode cX1_neighbour 114 = .ok (.iload_n 1, 1) := by decide +kernel
theorem dX1_neighbour_115 : decode cX1_neighbour 115 = .ok (.iconst 1, 1) := by decide +kernel
theorem dX1_neighbour_116 : decode cX1_neighbour 116 = .ok (.isub, 1) := by decide +kernel
theorem dX1_neighbour_117 : decode cX1_neighbour 117 = .ok (.goto 4, 3) := by decide +kernel
theorem dX1_neighbour_120 : decode cX1_neighbour 120 = .ok (.iconst (-1), 1) := by decide +kernel
theorem dX1_neighbour_121 : decode cX1_neighbour 121 = .ok (.ireturn, 1) := by decide +kernel
theorem dX1_neighbour_122 : decode cX1_neighbour 122 = .ok (.iconst (-1), 1) := by decide +kernel
theorem dX1_neighbour_123 : decode cX1_neighbour 123 = .ok (.ireturn, 1) := by decide +kernel
def fX1_neighbour_17 (x0 : Nat) (x1 : Int32) (x2 : Int32) (t0 : Int32) (w : eW) : Option (Int32 × eW) := if x2 = (0 : Int32) then ((eGI w x0 1 0).bind fun v1 => if (x1 - v1) < 0 then (some ((-1 : Int32), w)) else ((eGI w x0 1 0).bind fun v2 => some (x1 - v2, w))) else (if x2 = (1 : Int32) then ((eGI w x0 1 0).bind fun v3 => if v3 ≤ (t0 + (1 : Int32)) then (some ((-1 : Int32), w)) else (some (x1 + (1 : Int32), w))) else (if x2 = (2 : Int32) then ((eGI w x0 1 0).bind fun v4 => eBind2 (fX1_cells x0 w) fun v6 w5 => if v6 ≤ (x1 + v4) then (some ((-1 : Int32), w5)) else ((eGI w5 x0 1 0).bind fun v7 => some (x1 + v7, w5))) else (if x2 = (3 : Int32) then (if t0 ≤ 0 then (some ((-1 : Int32), w)) else (some (x1 - (1 : Int32), w))) else (some ((-1 : Int32), w)))))
set_option maxRecDepth 20000 in
theorem sX1_neighbour_17  (x0 : Nat) (x1 : Int32) (x2 : Int32) (t0 : Int32) (w : eW) (r : Int32 × eW) (h : fX1_neighbour_17 x0 x1 x2 t0 w = some r) : eBN l D cI cZ 1 yX1_neighbour cX1_neighbour 4 (some .int) 17 [(0, .ref x0), (1, .int x1), (2, .int x2)] [.int t0] w (some (.int r.1)) r.2 := by
  rw [fX1_neighbour_17] at h
  intro p e s m args below meth c r0 A X
  refine ev_istore_n (pc := 17) (L' := [(3, .int t0), (0, .ref x0), (1, .int x1), (2, .int x2)]) X dX1_neighbour_17 rfl (by decide) rfl ?_
  refine ev_iload_n (pc := 18) X 3 dX1_neighbour_18 rfl rfl ?_
  by_cases hq19_0 : x2 = (0 : Int32)
  · rw [if_pos hq19_0] at h
    refine ev_tableIn (pc := 19) X 48 dX1_neighbour_19 (by rw [hq19_0]; decide) (by rw [hq19_0]; decide) (by rw [hq19_0]; rfl) rfl ?_
    refine ev_iload_n (pc := 48) X 2 dX1_neighbour_48 rfl rfl ?_
    refine ev_aload_n (pc := 49) X 1 dX1_neighbour_49 rfl rfl ?_
    obtain ⟨v1, hv1, h⟩ := eBi h
    refine ev_getI (pc := 50) X hcX1 (k := 0) (by decide) kfX1_26 dX1_neighbour_50 hv1 ?_
    refine ev_isub (pc := 53) X dX1_neighbour_53 ?_
    refine ev_if_lt (pc := 54) X 66 dX1_neighbour_54 rfl (fun hc => ?_) (fun hc => ?_)
    · rw [if_pos hc] at h
      refine ev_iconst (pc := 66) (v := (-1 : Int32)) X dX1_neighbour_66 rfl ?_
      cases h
      exact ev_iret (pc := 67) X dX1_neighbour_67
    · rw [if_neg hc] at h
      refine ev_iload_n (pc := 57) X 2 dX1_neighbour_57 rfl rfl ?_
      refine ev_aload_n (pc := 58) X 1 dX1_neighbour_58 rfl rfl ?_
      obtain ⟨v2, hv2, h⟩ := eBi h
      refine ev_getI (pc := 59) X hcX1 (k := 0) (by decide) kfX1_26 dX1_neighbour_59 hv2 ?_
      refine ev_isub (pc := 62) X dX1_neighbour_62 ?_
      refine ev_goto (pc := 63) X 67 dX1_neighbour_63 rfl ?_
      cases h
      exact ev_iret (pc := 67) X dX1_neighbour_67
  · rw [if_neg hq19_0] at h
    by_cases hq19_1 : x2 = (1 : Int32)
    · rw [if_pos hq19_1] at h
      refine ev_tableIn (pc := 19) X 68 dX1_neighbour_19 (by rw [hq19_1]; decide) (by rw [hq19_1]; decide) (by rw [hq19_1]; rfl) rfl ?_
      refine ev_iload_n (pc := 68) X 0 dX1_neighbour_68 rfl rfl ?_
      refine ev_iconst (pc := 69) (v := (1 : Int32)) X dX1_neighbour_69 rfl ?_
      refine ev_iadd (pc := 70) X dX1_neighbour_70 ?_
      refine ev_aload_n (pc := 71) X 1 dX1_neighbour_71 rfl rfl ?_
      obtain ⟨v3, hv3, h⟩ := eBi h
      refine ev_getI (pc := 72) X hcX1 (k := 0) (by decide) kfX1_26 dX1_neighbour_72 hv3 ?_
      refine ev_icmp_ge (pc := 75) X 84 dX1_neighbour_75 rfl (fun hc => ?_) (fun hc => ?_)
      · rw [if_pos hc] at h
        refine ev_iconst (pc := 84) (v := (-1 : Int32)) X dX1_neighbour_84 rfl ?_
        cases h
        exact ev_iret (pc := 85) X dX1_neighbour_85
      · rw [if_neg hc] at h
        refine ev_iload_n (pc := 78) X 2 dX1_neighbour_78 rfl rfl ?_
        refine ev_iconst (pc := 79) (v := (1 : Int32)) X dX1_neighbour_79 rfl ?_
        refine ev_iadd (pc := 80) X dX1_neighbour_80 ?_
        refine ev_goto (pc := 81) X 85 dX1_neighbour_81 rfl ?_
        cases h
        exact ev_iret (pc := 85) X dX1_neighbour_85
    · rw [if_neg hq19_1] at h
      by_cases hq19_2 : x2 = (2 : Int32)
      · rw [if_pos hq19_2] at h
        refine ev_tableIn (pc := 19) X 86 dX1_neighbour_19 (by rw [hq19_2]; decide) (by rw [hq19_2]; decide) (by rw [hq19_2]; rfl) rfl ?_
        refine ev_iload_n (pc := 86) X 2 dX1_neighbour_86 rfl rfl ?_
        refine ev_aload_n (pc := 87) X 1 dX1_neighbour_87 rfl rfl ?_
        obtain ⟨v4, hv4, h⟩ := eBi h
        refine ev_getI (pc := 88) X hcX1 (k := 0) (by decide) kfX1_26 dX1_neighbour_88 hv4 ?_
        refine ev_iadd (pc := 91) X dX1_neighbour_91 ?_
        refine ev_aload_n (pc := 92) X 1 dX1_neighbour_92 rfl rfl ?_
        obtain ⟨v6, w5, hc, h⟩ := eB2 h
        refine ev_callV_i (pc := 93) (As := []) (S := [.int (x1 + v4)]) X hwX1_cells klX1_50 hiX1_cells hsX1_cells (ci := 1) ⟨rfl, rfl⟩ ⟨Nat.le_of_ble_eq_true rfl, Nat.le_of_ble_eq_true rfl⟩ ⟨Nat.le_refl _, Nat.le_refl _⟩ rfl (Nat.le_of_ble_eq_true rfl) dX1_neighbour_93 rfl (mX1_cells (l := l) (D := D) (cI := cI) (cZ := cZ) hc).1 (mX1_cells hc).2 ?_
        refine ev_icmp_ge (pc := 96) X 108 dX1_neighbour_96 rfl (fun hc => ?_) (fun hc => ?_)
        · rw [if_pos hc] at h
          refine ev_iconst (pc := 108) (v := (-1 : Int32)) X dX1_neighbour_108 rfl ?_
          cases h
          exact ev_iret (pc := 109) X dX1_neighbour_109
        · rw [if_neg hc] at h
          refine ev_iload_n (pc := 99) X 2 dX1_neighbour_99 rfl rfl ?_
          refine ev_aload_n (pc := 100) X 1 dX1_neighbour_100 rfl rfl ?_
          obtain ⟨v7, hv7, h⟩ := eBi h
          refine ev_getI (pc := 101) X hcX1 (k := 0) (by decide) kfX1_26 dX1_neighbour_101 hv7 ?_
          refine ev_iadd (pc := 104) X dX1_neighbour_104 ?_
          refine ev_goto (pc := 105) X 109 dX1_neighbour_105 rfl ?_
          cases h
          exact ev_iret (pc := 109) X dX1_neighbour_109
      · rw [if_neg hq19_2] at h
        by_cases hq19_3 : x2 = (3 : Int32)
        · rw [if_pos hq19_3] at h
          refine ev_tableIn (pc := 19) X 110 dX1_neighbour_19 (by rw [hq19_3]; decide) (by rw [hq19_3]; decide) (by rw [hq19_3]; rfl) rfl ?_
          refine ev_iload_n (pc := 110) X 0 dX1_neighbour_110 rfl rfl ?_
          refine ev_if_le (pc := 111) X 120 dX1_neighbour_111 rfl (fun hc => ?_) (fun hc => ?_)
          · rw [if_pos hc] at h
            refine ev_iconst (pc := 120) (v := (-1 : Int32)) X dX1_neighbour_120 rfl ?_
            cases h
            exact ev_iret (pc := 121) X dX1_neighbour_121
          · rw [if_neg hc] at h
            refine ev_iload_n (pc := 114) X 2 dX1_neighbour_114 rfl rfl ?_
            refine ev_iconst (pc := 115) (v := (1 : Int32)) X dX1_neighbour_115 rfl ?_
            refine ev_isub (pc := 116) X dX1_neighbour_116 ?_
            refine ev_goto (pc := 117) X 121 dX1_neighbour_117 rfl ?_
            cases h
            exact ev_iret (pc := 121) X dX1_neighbour_121
        · rw [if_neg hq19_3] at h
          refine ev_tableOut (pc := 19) X 122 dX1_neighbour_19 (by have a0 := lv_neT hq19_0 (a := 0) (by decide); have a1 := lv_neT hq19_1 (a := 1) (by decide); have a2 := lv_neT hq19_2 (a := 2) (by decide); have a3 := lv_neT hq19_3 (a := 3) (by decide); omega) rfl ?_
          refine ev_iconst (pc := 122) (v := (-1 : Int32)) X dX1_neighbour_122 rfl ?_
          cases h
          exact ev_iret (pc := 123) X dX1_neighbour_123
def fX1_neighbour_0 (x0 : Nat) (x1 : Int32) (x2 : Int32) (w : eW) : Option (Int32 × eW) := (eGI w x0 1 0).bind fun v1 => if v1 ≤ 0 then (fX1_neighbour_17 x0 x1 x2 (0 : Int32) w) else ((eGI w x0 1 0).bind fun v2 => if v2 = 0 then none else fX1_neighbour_17 x0 x1 x2 (x1 - x1 / v2 * v2) w)
set_option maxRecDepth 20000 in
theorem sX1_neighbour_0  (x0 : Nat) (x1 : Int32) (x2 : Int32) (w : eW) (r : Int32 × eW) (h : fX1_neighbour_0 x0 x1 x2 w = some r) : eBN l D cI cZ 1 yX1_neighbour cX1_neighbour 4 (some .int) 0 [(0, .ref x0), (1, .int x1), (2, .int x2)] [] w (some (.int r.1)) r.2 := by
  rw [fX1_neighbour_0] at h
  intro p e s m args below meth c r0 A X
  refine ev_aload_n (pc := 0) X 0 dX1_neighbour_0 rfl rfl ?_
  obtain ⟨v1, hv1, h⟩ := eBi h
  refine ev_getI (pc := 1) X hcX1 (k := 0) (by decide) kfX1_26 dX1_neighbour_1 hv1 ?_
  refine ev_if_le (pc := 4) X 16 dX1_neighbour_4 rfl (fun hc => ?_) (fun hc => ?_)
  · rw [if_pos hc] at h
    refine ev_iconst (pc := 16) (v := (0 : Int32)) X dX1_neighbour_16 rfl ?_
    exact ev_weak (pc := 17) [0, 1, 2] rfl (sX1_neighbour_17 _ _ _ _ _ _ h p e s m args below meth c r0 A X)
  · rw [if_neg hc] at h
    refine ev_iload_n (pc := 7) X 1 dX1_neighbour_7 rfl rfl ?_
    refine ev_aload_n (pc := 8) X 0 dX1_neighbour_8 rfl rfl ?_
    obtain ⟨v2, hv2, h⟩ := eBi h
    refine ev_getI (pc := 9) X hcX1 (k := 0) (by decide) kfX1_26 dX1_neighbour_9 hv2 ?_
    obtain ⟨hz, h⟩ := eNz h
    refine ev_irem (pc := 12) X dX1_neighbour_12 hz ?_
    refine ev_goto (pc := 13) X 17 dX1_neighbour_13 rfl ?_
    exact ev_weak (pc := 17) [0, 1, 2] rfl (sX1_neighbour_17 _ _ _ _ _ _ h p e s m args below meth c r0 A X)
def fX1_neighbour (a0 : Nat) (a1 : Int32) (a2 : Int32) (w : eW) : Option (Int32 × eW) := bif eO w a0 1 then fX1_neighbour_0 a0 a1 a2 w else none
theorem mX1_neighbour {a0 : Nat} {a1 : Int32} {a2 : Int32} {w : eW} {v : Int32} {w' : eW} (h : fX1_neighbour a0 a1 a2 w = some (v, w')) : eO w a0 1 = true ∧ eMN l D cI cZ 1 yX1_neighbour cX1_neighbour 4 (some .int) [.ref a0, .int a1, .int a2] w (some (.int v)) w' := by
  obtain ⟨h0, h⟩ := eBif h
  exact ⟨h0, eMN_of [(0, .ref a0), (1, .int a1), (2, .int a2)] (plainFor_of_name (by decide)) (fun _ => rfl) (fun _ => Nat.le_of_ble_eq_true rfl) (fun p e s m args below meth c r0 A X => ev_weak (pc := 0) [0, 1, 2] rfl (sX1_neighbour_0 _ _ _ _ _ h p e s m args below meth c r0 A X))⟩
theorem dX1_step_0 : decode cX1_step 0 = .ok (.aload_n 0, 1) := by decide +kernel
theorem dX1_step_1 : decode cX1_step 1 = .ok (.getfield 14, 3) := by decide +kernel
theorem dX1_step_4 : decode cX1_step 4 = .ok (.iload_n 2, 1) := by decide +kernel
theorem dX1_step_5 : decode cX1_step 5 = .ok (.invokevirtual 42, 3) := by decide +kernel
theorem dX1_step_8 : decode cX1_step 8 = .ok (.aload_n 0, 1) := by decide +kernel
theorem dX1_step_9 : decode cX1_step 9 = .ok (.getfield 14, 3) := by decide +kernel
theorem dX1_step_12 : decode cX1_step 12 = .ok (.iload_n 1, 1) := by decide +kernel
theorem dX1_step_13 : decode cX1_step 13 = .ok (.invokevirtual 42, 3) := by decide +kernel
theorem dX1_step_16 : decode cX1_step 16 = .ok (.isub, 1) := by decide +kernel
theorem dX1_step_17 : decode cX1_step 17 = .ok (.ireturn, 1) := by decide +kernel
def fX1_step_0 (x0 : Nat) (x1 : Int32) (x2 : Int32) (w : eW) : Option (Int32 × eW) := (eGR w x0 1 4).bind fun v1 => eBind2 (fX7_get v1 x2 w) fun v3 w2 => (eGR w2 x0 1 4).bind fun v4 => eBind2 (fX7_get v4 x1 w2) fun v6 w5 => some (v3 - v6, w5)
set_option maxRecDepth 20000 in
theorem sX1_step_0  (x0 : Nat) (x1 : Int32) (x2 : Int32) (w : eW) (r : Int32 × eW) (h : fX1_step_0 x0 x1 x2 w = some r) : eBN l D cI cZ 1 yX1_step cX1_step 3 (some .int) 0 [(0, .ref x0), (1, .int x1), (2, .int x2)] [] w (some (.int r.1)) r.2 := by
  rw [fX1_step_0] at h
  intro p e s m args below meth c r0 A X
  refine ev_aload_n (pc := 0) X 0 dX1_step_0 rfl rfl ?_
  obtain ⟨v1, hv1, h⟩ := eBi h
  refine ev_getR (pc := 1) X hcX1 (k := 4) (by decide) kfX1_14 dX1_step_1 hv1 ?_
  refine ev_iload_n (pc := 4) X 2 dX1_step_4 rfl rfl ?_
  obtain ⟨v3, w2, hc, h⟩ := eB2 h
  refine ev_callV_i (pc := 5) (As := [.int x2]) (S := []) X hwX7_get klX1_42 hiX7_get hsX7_get (ci := 7) ⟨rfl, rfl⟩ ⟨Nat.le_of_ble_eq_true rfl, Nat.le_of_ble_eq_true rfl⟩ ⟨Nat.le_refl _, Nat.le_refl _⟩ rfl (Nat.le_of_ble_eq_true rfl) dX1_step_5 rfl (mX7_get (l := l) (D := D) (cI := cI) (cZ := cZ) hc).1 (mX7_get hc).2 ?_
  refine ev_aload_n (pc := 8) X 0 dX1_step_8 rfl rfl ?_
  obtain ⟨v4, hv4, h⟩ := eBi h
  refine ev_getR (pc := 9) X hcX1 (k := 4) (by decide) kfX1_14 dX1_step_9 hv4 ?_
  refine ev_iload_n (pc := 12) X 1 dX1_step_12 rfl rfl ?_
  obtain ⟨v6, w5, hc, h⟩ := eB2 h
  refine ev_callV_i (pc := 13) (As := [.int x1]) (S := [.int v3]) X hwX7_get klX1_42 hiX7_get hsX7_get (ci := 7) ⟨rfl, rfl⟩ ⟨Nat.le_of_ble_eq_true rfl, Nat.le_of_ble_eq_true rfl⟩ ⟨Nat.le_refl _, Nat.le_refl _⟩ rfl (Nat.le_of_ble_eq_true rfl) dX1_step_13 rfl (mX7_get (l := l) (D := D) (cI := cI) (cZ := cZ) hc).1 (mX7_get hc).2 ?_
  refine ev_isub (pc := 16) X dX1_step_16 ?_
  cases h
  exact ev_iret (pc := 17) X dX1_step_17
def fX1_step (a0 : Nat) (a1 : Int32) (a2 : Int32) (w : eW) : Option (Int32 × eW) := bif eO w a0 1 then fX1_step_0 a0 a1 a2 w else none
theorem mX1_step {a0 : Nat} {a1 : Int32} {a2 : Int32} {w : eW} {v : Int32} {w' : eW} (h : fX1_step a0 a1 a2 w = some (v, w')) : eO w a0 1 = true ∧ eMN l D cI cZ 1 yX1_step cX1_step 3 (some .int) [.ref a0, .int a1, .int a2] w (some (.int v)) w' := by
  obtain ⟨h0, h⟩ := eBif h
  exact ⟨h0, eMN_of [(0, .ref a0), (1, .int a1), (2, .int a2)] (plainFor_of_name (by decide)) (fun _ => rfl) (fun _ => Nat.le_of_ble_eq_true rfl) (fun p e s m args below meth c r0 A X => ev_weak (pc := 0) [0, 1, 2] rfl (sX1_step_0 _ _ _ _ _ h p e s m args below meth c r0 A X))⟩
theorem dJ9_abs_0f7a4_0 : decode cJ9_abs_0f7a4 0 = .ok (.iload_n 0, 1) := by decide +kernel
theorem dJ9_abs_0f7a4_1 : decode cJ9_abs_0f7a4 1 = .ok (.ifCond .ge 8, 3) := by decide +kernel
theorem dJ9_abs_0f7a4_4 : decode cJ9_abs_0f7a4 4 = .ok (.iload_n 0, 1) := by decide +kernel
theorem dJ9_abs_0f7a4_5 : decode cJ9_abs_0f7a4 5 = .ok (.ineg, 1) := by decide +kernel
theorem dJ9_abs_0f7a4_6 : decode cJ9_abs_0f7a4 6 = .ok (.goto 4, 3) := by decide +kernel
theorem dJ9_abs_0f7a4_9 : decode cJ9_abs_0f7a4 9 = .ok (.iload_n 0, 1) := by decide +kernel
theorem dJ9_abs_0f7a4_10 : decode cJ9_abs_0f7a4 10 = .ok (.ireturn, 1) := by decide +kernel
def fJ9_abs_0f7a4_0 (x0 : Int32) (w : eW) : Option (Int32 × eW) := if 0 ≤ x0 then (some (x0, w)) else (some (-x0, w))
set_option maxRecDepth 20000 in
theorem sJ9_abs_0f7a4_0  (x0 : Int32) (w : eW) (r : Int32 × eW) (h : fJ9_abs_0f7a4_0 x0 w = some r) : eBN l D cI cZ 0 yJ9_abs_0f7a4 cJ9_abs_0f7a4 1 (some .int) 0 [(0, .int x0)] [] w (some (.int r.1)) r.2 := by
  rw [fJ9_abs_0f7a4_0] at h
  intro p e s m args below meth c r0 A X
  refine ev_iload_n (pc := 0) X 0 dJ9_abs_0f7a4_0 rfl rfl ?_
  refine ev_if_ge (pc := 1) X 9 dJ9_abs_0f7a4_1 rfl (fun hc => ?_) (fun hc => ?_)
  · rw [if_pos hc] at h
    refine ev_iload_n (pc := 9) X 0 dJ9_abs_0f7a4_9 rfl rfl ?_
    cases h
    exact ev_iret (pc := 10) X dJ9_abs_0f7a4_10
  · rw [if_neg hc] at h
    refine ev_iload_n (pc := 4) X 0 dJ9_abs_0f7a4_4 rfl rfl ?_
    refine ev_ineg (pc := 5) X dJ9_abs_0f7a4_5 ?_
    refine ev_goto (pc := 6) X 10 dJ9_abs_0f7a4_6 rfl ?_
    cases h
    exact ev_iret (pc := 10) X dJ9_abs_0f7a4_10
def fJ9_abs_0f7a4 (a0 : Int32) (w : eW) : Option (Int32 × eW) := fJ9_abs_0f7a4_0 a0 w
theorem mJ9_abs_0f7a4 {a0 : Int32} {w : eW} {v : Int32} {w' : eW} (h : fJ9_abs_0f7a4 a0 w = some (v, w')) : eMN l D cI cZ 0 yJ9_abs_0f7a4 cJ9_abs_0f7a4 1 (some .int) [.int a0] w (some (.int v)) w' :=
  eMN_of [(0, .int a0)] (by decide +kernel) (fun _ => rfl) (fun _ => Nat.le_of_ble_eq_true rfl) (fun p e s m args below meth c r0 A X => ev_weak (pc := 0) [0] rfl (sJ9_abs_0f7a4_0 _ _ _ h p e s m args below meth c r0 A X))
theorem dX1_cellBy_0 : decode cX1_cellBy 0 = .ok (.aload_n 0, 1) := by decide +kernel
theorem dX1_cellBy_1 : decode cX1_cellBy 1 = .ok (.iload_n 1, 1) := by decide +kernel
theorem dX1_cellBy_2 : decode cX1_cellBy 2 = .ok (.iload_n 2, 1) := by decide +kernel
theorem dX1_cellBy_3 : decode cX1_cellBy 3 = .ok (.invokevirtual 60, 3) := by decide +kernel
theorem dX1_cellBy_6 : decode cX1_cellBy 6 = .ok (.istore_n 3, 1) := by decide +kernel
theorem dX1_cellBy_7 : decode cX1_cellBy 7 = .ok (.iload_n 3, 1) := by decide +kernel
theorem dX1_cellBy_8 : decode cX1_cellBy 8 = .ok (.iconst (-1), 1) := by decide +kernel
theorem dX1_cellBy_9 : decode cX1_cellBy 9 = .ok (.if_icmp .eq 23, 3) := by decide +kernel
theorem dX1_cellBy_12 : decode cX1_cellBy 12 = .ok (.aload_n 0, 1) := by decide +kernel
theorem dX1_cellBy_13 : decode cX1_cellBy 13 = .ok (.iload_n 1, 1) := by decide +kernel
theorem dX1_cellBy_14 : decode cX1_cellBy 14 = .ok (.iload_n 3, 1) := by decide +kernel
theorem dX1_cellBy_15 : decode cX1_cellBy 15 = .ok (.invokevirtual 64, 3) := by decide +kernel
theorem dX1_cellBy_18 : decode cX1_cellBy 18 = .ok (.invokestatic 67, 3) := by decide +kernel
theorem dX1_cellBy_21 : decode cX1_cellBy 21 = .ok (.aload_n 0, 1) := by decide +kernel
theorem dX1_cellBy_22 : decode cX1_cellBy 22 = .ok (.getfield 33, 3) := by decide +kernel
theorem dX1_cellBy_25 : decode cX1_cellBy 25 = .ok (.if_icmp .gt 7, 3) := by decide +kernel
theorem dX1_cellBy_28 : decode cX1_cellBy 28 = .ok (.iload_n 3, 1) := by decide +kernel
theorem dX1_cellBy_29 : decode cX1_cellBy 29 = .ok (.goto 4, 3) := by decide +kernel
theorem dX1_cellBy_32 : decode cX1_cellBy 32 = .ok (.iconst (-1), 1) := by decide +kernel
theorem dX1_cellBy_33 : decode cX1_cellBy 33 = .ok (.ireturn, 1) := by decide +kernel
def fX1_cellBy_32  (w : eW) : Option (Int32 × eW) := some ((-1 : Int32), w)
set_option maxRecDepth 20000 in
theorem sX1_cellBy_32   (w : eW) (r : Int32 × eW) (h : fX1_cellBy_32  w = some r) : eBN l D cI cZ 2 yX1_cellBy cX1_cellBy 4 (some .int) 32 [] [] w (some (.int r.1)) r.2 := by
  rw [fX1_cellBy_32] at h
  intro p e s m args below meth c r0 A X
  refine ev_iconst (pc := 32) (v := (-1 : Int32)) X dX1_cellBy_32 rfl ?_
  cases h
  exact ev_iret (pc := 33) X dX1_cellBy_33
def fX1_cellBy_0 (x0 : Nat) (x1 : Int32) (x2 : Int32) (w : eW) : Option (Int32 × eW) := eBind2 (fX1_neighbour x0 x1 x2 w) fun v2 w1 => if v2 = (-1 : Int32) then (fX1_cellBy_32 w1) else (eBind2 (fX1_step x0 x1 v2 w1) fun v4 w3 => eBind2 (fJ9_abs_0f7a4 v4 w3) fun v6 w5 => (eGI w5 x0 1 2).bind fun v7 => if v7 < v6 then (fX1_cellBy_32 w5) else (some (v2, w5)))
set_option maxRecDepth 20000 in
theorem sX1_cellBy_0  (x0 : Nat) (x1 : Int32) (x2 : Int32) (w : eW) (r : Int32 × eW) (h : fX1_cellBy_0 x0 x1 x2 w = some r) : eBN l D cI cZ 2 yX1_cellBy cX1_cellBy 4 (some .int) 0 [(0, .ref x0), (1, .int x1), (2, .int x2)] [] w (some (.int r.1)) r.2 := by
  rw [fX1_cellBy_0] at h
  intro p e s m args below meth c r0 A X
  refine ev_aload_n (pc := 0) X 0 dX1_cellBy_0 rfl rfl ?_
  refine ev_iload_n (pc := 1) X 1 dX1_cellBy_1 rfl rfl ?_
  refine ev_iload_n (pc := 2) X 2 dX1_cellBy_2 rfl rfl ?_
  obtain ⟨v2, w1, hc, h⟩ := eB2 h
  refine ev_callV_i (pc := 3) (As := [.int x1, .int x2]) (S := []) X hwX1_neighbour klX1_60 hiX1_neighbour hsX1_neighbour (ci := 1) ⟨rfl, rfl⟩ ⟨Nat.le_of_ble_eq_true rfl, Nat.le_of_ble_eq_true rfl⟩ ⟨Nat.le_refl _, Nat.le_refl _⟩ rfl (Nat.le_of_ble_eq_true rfl) dX1_cellBy_3 rfl (mX1_neighbour (l := l) (D := D) (cI := cI) (cZ := cZ) hc).1 (mX1_neighbour hc).2 ?_
  refine ev_istore_n (pc := 6) (L' := [(3, .int v2), (0, .ref x0), (1, .int x1), (2, .int x2)]) X dX1_cellBy_6 rfl (by decide) rfl ?_
  refine ev_iload_n (pc := 7) X 0 dX1_cellBy_7 rfl rfl ?_
  refine ev_iconst (pc := 8) (v := (-1 : Int32)) X dX1_cellBy_8 rfl ?_
  refine ev_icmp_eq (pc := 9) X 32 dX1_cellBy_9 rfl (fun hc => ?_) (fun hc => ?_)
  · rw [if_pos hc] at h
    exact ev_weak (pc := 32) [] rfl (sX1_cellBy_32  _ _ h p e s m args below meth c r0 A X)
  · rw [if_neg hc] at h
    refine ev_aload_n (pc := 12) X 1 dX1_cellBy_12 rfl rfl ?_
    refine ev_iload_n (pc := 13) X 2 dX1_cellBy_13 rfl rfl ?_
    refine ev_iload_n (pc := 14) X 0 dX1_cellBy_14 rfl rfl ?_
    obtain ⟨v4, w3, hc, h⟩ := eB2 h
    refine ev_callV_i (pc := 15) (As := [.int x1, .int v2]) (S := []) X hwX1_step klX1_64 hiX1_step hsX1_step (ci := 1) ⟨rfl, rfl⟩ ⟨Nat.le_of_ble_eq_true rfl, Nat.le_of_ble_eq_true rfl⟩ ⟨Nat.le_refl _, Nat.le_refl _⟩ rfl (Nat.le_of_ble_eq_true rfl) dX1_cellBy_15 rfl (mX1_step (l := l) (D := D) (cI := cI) (cZ := cZ) hc).1 (mX1_step hc).2 ?_
    obtain ⟨v6, w5, hc, h⟩ := eB2 h
    refine ev_callS_i (pc := 18) (As := [.int v4]) (S := []) X hwJ9_abs_0f7a4 klX1_67 htJ9_abs_0f7a4 ⟨Nat.le_of_ble_eq_true rfl, Nat.le_of_ble_eq_true rfl⟩ ⟨Nat.le_refl _, Nat.le_refl _⟩ rfl (Nat.le_of_ble_eq_true rfl) dX1_cellBy_18 rfl (mJ9_abs_0f7a4 hc) ?_
    refine ev_aload_n (pc := 21) X 1 dX1_cellBy_21 rfl rfl ?_
    obtain ⟨v7, hv7, h⟩ := eBi h
    refine ev_getI (pc := 22) X hcX1 (k := 2) (by decide) kfX1_33 dX1_cellBy_22 hv7 ?_
    refine ev_icmp_gt (pc := 25) X 32 dX1_cellBy_25 rfl (fun hc => ?_) (fun hc => ?_)
    · rw [if_pos hc] at h
      exact ev_weak (pc := 32) [] rfl (sX1_cellBy_32  _ _ h p e s m args below meth c r0 A X)
    · rw [if_neg hc] at h
      refine ev_iload_n (pc := 28) X 0 dX1_cellBy_28 rfl rfl ?_
      refine ev_goto (pc := 29) X 33 dX1_cellBy_29 rfl ?_
      cases h
      exact ev_iret (pc := 33) X dX1_cellBy_33
def fX1_cellBy (a0 : Nat) (a1 : Int32) (a2 : Int32) (w : eW) : Option (Int32 × eW) := bif eO w a0 1 then fX1_cellBy_0 a0 a1 a2 w else none
theorem mX1_cellBy {a0 : Nat} {a1 : Int32} {a2 : Int32} {w : eW} {v : Int32} {w' : eW} (h : fX1_cellBy a0 a1 a2 w = some (v, w')) : eO w a0 1 = true ∧ eMN l D cI cZ 2 yX1_cellBy cX1_cellBy 4 (some .int) [.ref a0, .int a1, .int a2] w (some (.int v)) w' := by
  obtain ⟨h0, h⟩ := eBif h
  exact ⟨h0, eMN_of [(0, .ref a0), (1, .int a1), (2, .int a2)] (plainFor_of_name (by decide)) (fun _ => rfl) (fun _ => Nat.le_of_ble_eq_true rfl) (fun p e s m args below meth c r0 A X => ev_weak (pc := 0) [0, 1, 2] rfl (sX1_cellBy_0 _ _ _ _ _ h p e s m args below meth c r0 A X))⟩
theorem dX10_bit_0 : decode cX10_bit 0 = .ok (.iconst 1, 1) := by decide +kernel
theorem dX10_bit_1 : decode cX10_bit 1 = .ok (.iload_n 0, 1) := by decide +kernel
theorem dX10_bit_2 : decode cX10_bit 2 = .ok (.ishl, 1) := by decide +kernel
theorem dX10_bit_3 : decode cX10_bit 3 = .ok (.ireturn, 1) := by decide +kernel
def fX10_bit_0 (x0 : Int32) (w : eW) : Option (Int32 × eW) := some ((1 : Int32) <<< (x0 &&& 31), w)
set_option maxRecDepth 20000 in
theorem sX10_bit_0  (x0 : Int32) (w : eW) (r : Int32 × eW) (h : fX10_bit_0 x0 w = some r) : eBN l D cI cZ 0 yX10_bit cX10_bit 1 (some .int) 0 [(0, .int x0)] [] w (some (.int r.1)) r.2 := by
  rw [fX10_bit_0] at h
  intro p e s m args below meth c r0 A X
  refine ev_iconst (pc := 0) (v := (1 : Int32)) X dX10_bit_0 rfl ?_
  refine ev_iload_n (pc := 1) X 0 dX10_bit_1 rfl rfl ?_
  refine ev_ishl (pc := 2) X dX10_bit_2 ?_
  cases h
  exact ev_iret (pc := 3) X dX10_bit_3
def fX10_bit (a0 : Int32) (w : eW) : Option (Int32 × eW) := fX10_bit_0 a0 w
theorem mX10_bit {a0 : Int32} {w : eW} {v : Int32} {w' : eW} (h : fX10_bit a0 w = some (v, w')) : eMN l D cI cZ 0 yX10_bit cX10_bit 1 (some .int) [.int a0] w (some (.int v)) w' :=
  eMN_of [(0, .int a0)] (plainFor_of_name (by decide)) (fun _ => rfl) (fun _ => Nat.le_of_ble_eq_true rfl) (fun p e s m args below meth c r0 A X => ev_weak (pc := 0) [0] rfl (sX10_bit_0 _ _ _ h p e s m args below meth c r0 A X))
theorem dX1_cellsOfTowns_0 : decode cX1_cellsOfTowns 0 = .ok (.iconst 0, 1) := by decide +kernel
theorem dX1_cellsOfTowns_1 : decode cX1_cellsOfTowns 1 = .ok (.istore_n 2, 1) := by decide +kernel
theorem dX1_cellsOfTowns_2 : decode cX1_cellsOfTowns 2 = .ok (.iconst 0, 1) := by decide +kernel
theorem dX1_cellsOfTowns_3 : decode cX1_cellsOfTowns 3 = .ok (.istore_n 3, 1) := by decide +kernel
theorem dX1_cellsOfTowns_4 : decode cX1_cellsOfTowns 4 = .ok (.iload_n 3, 1) := by decide +kernel
theorem dX1_cellsOfTowns_5 : decode cX1_cellsOfTowns 5 = .ok (.aload_n 0, 1) := by decide +kernel
theorem dX1_cellsOfTowns_6 : decode cX1_cellsOfTowns 6 = .ok (.getfield 36, 3) := by decide +kernel
theorem dX1_cellsOfTowns_9 : decode cX1_cellsOfTowns 9 = .ok (.if_icmp .ge 32, 3) := by decide +kernel
theorem dX1_cellsOfTowns_12 : decode cX1_cellsOfTowns 12 = .ok (.iload_n 1, 1) := by decide +kernel
theorem dX1_cellsOfTowns_13 : decode cX1_cellsOfTowns 13 = .ok (.iload_n 3, 1) := by decide +kernel
theorem dX1_cellsOfTowns_14 : decode cX1_cellsOfTowns 14 = .ok (.invokestatic 54, 3) := by decide +kernel
theorem dX1_cellsOfTowns_17 : decode cX1_cellsOfTowns 17 = .ok (.iand, 1) := by decide +kernel
theorem dX1_cellsOfTowns_18 : decode cX1_cellsOfTowns 18 = .ok (.ifCond .eq 17, 3) := by decide +kernel
theorem dX1_cellsOfTowns_21 : decode cX1_cellsOfTowns 21 = .ok (.iload_n 2, 1) := by decide +kernel
theorem dX1_cellsOfTowns_22 : decode cX1_cellsOfTowns 22 = .ok (.aload_n 0, 1) := by decide +kernel
theorem dX1_cellsOfTowns_23 : decode cX1_cellsOfTowns 23 = .ok (.getfield 20, 3) := by decide +kernel
theorem dX1_cellsOfTowns_26 : decode cX1_cellsOfTowns 26 = .ok (.iload_n 3, 1) := by decide +kernel
theorem dX1_cellsOfTowns_27 : decode cX1_cellsOfTowns 27 = .ok (.invokevirtual 42, 3) := by decide +kernel
theorem dX1_cellsOfTowns_30 : decode cX1_cellsOfTowns 30 = .ok (.invokestatic 54, 3) := by decide +kernel
theorem dX1_cellsOfTowns_33 : decode cX1_cellsOfTowns 33 = .ok (.ior, 1) := by decide +kernel
theorem dX1_cellsOfTowns_34 : decode cX1_cellsOfTowns 34 = .ok (.istore_n 2, 1) := by decide +kernel
theorem dX1_cellsOfTowns_35 : decode cX1_cellsOfTowns 35 = .ok (.iinc 3 1, 3) := by decide +kernel
theorem dX1_cellsOfTowns_38 : decode cX1_cellsOfTowns 38 = .ok (.goto (-34), 3) := by decide +kernel
theorem dX1_cellsOfTowns_41 : decode cX1_cellsOfTowns 41 = .ok (.iload_n 2, 1) := by decide +kernel
theorem dX1_cellsOfTowns_42 : decode cX1_cellsOfTowns 42 = .ok (.ireturn, 1) := by decide +kernel
def fX1_cellsOfTowns_35 (K4 : Nat → Int32 → Int32 → Int32 → eW → Option (Int32 × eW)) (x0 : Nat) (x1 : Int32) (x2 : Int32) (x3 : Int32) (w : eW) : Option (Int32 × eW) := K4 x0 x1 x2 (x3 + (1 : Int32)) w
set_option maxRecDepth 20000 in
theorem sX1_cellsOfTowns_35 {K4 : Nat → Int32 → Int32 → Int32 → eW → Option (Int32 × eW)} (hK4 : ∀ (x0 : Nat) (x1 : Int32) (x2 : Int32) (x3 : Int32) (w : eW) (r : Int32 × eW), K4 x0 x1 x2 x3 w = some r → eBN l D cI cZ 1 yX1_cellsOfTowns cX1_cellsOfTowns 4 (some .int) 4 [(0, .ref x0), (1, .int x1), (2, .int x2), (3, .int x3)] [] w (some (.int r.1)) r.2) (x0 : Nat) (x1 : Int32) (x2 : Int32) (x3 : Int32) (w : eW) (r : Int32 × eW) (h : fX1_cellsOfTowns_35 K4 x0 x1 x2 x3 w = some r) : eBN l D cI cZ 1 yX1_cellsOfTowns cX1_cellsOfTowns 4 (some .int) 35 [(0, .ref x0), (1, .int x1), (2, .int x2), (3, .int x3)] [] w (some (.int r.1)) r.2 := by
  rw [fX1_cellsOfTowns_35] at h
  intro p e s m args below meth c r0 A X
  refine ev_iinc (pc := 35) (v := x3 + (1 : Int32)) (L' := [(3, .int (x3 + (1 : Int32))), (0, .ref x0), (1, .int x1), (2, .int x2)]) X 3 dX1_cellsOfTowns_35 rfl rfl (by decide) rfl ?_
  refine ev_goto (pc := 38) X 4 dX1_cellsOfTowns_38 rfl ?_
  exact ev_weak (pc := 4) [1, 2, 3, 0] rfl (hK4 _ _ _ _ _ _ h p e s m args below meth c r0 A X)
def fX1_cellsOfTowns_4 : Nat → Nat → Int32 → Int32 → Int32 → eW → Option (Int32 × eW)
  | 0, _, _, _, _, _ => none
  | n + 1, x0, x1, x2, x3, w => (eGI w x0 1 3).bind fun v1 => if v1 ≤ x3 then (some (x2, w)) else (eBind2 (fX10_bit x3 w) fun v3 w2 => if (x1 &&& v3) = 0 then (fX1_cellsOfTowns_35 (fX1_cellsOfTowns_4 n) x0 x1 x2 x3 w2) else ((eGR w2 x0 1 5).bind fun v4 => eBind2 (fX7_get v4 x3 w2) fun v6 w5 => eBind2 (fX10_bit v6 w5) fun v8 w7 => fX1_cellsOfTowns_35 (fX1_cellsOfTowns_4 n) x0 x1 (x2 ||| v8) x3 w7))
set_option maxRecDepth 20000 in
theorem sX1_cellsOfTowns_4  : ∀ (n : Nat) (x0 : Nat) (x1 : Int32) (x2 : Int32) (x3 : Int32) (w : eW) (r : Int32 × eW), fX1_cellsOfTowns_4 n x0 x1 x2 x3 w = some r → eBN l D cI cZ 1 yX1_cellsOfTowns cX1_cellsOfTowns 4 (some .int) 4 [(0, .ref x0), (1, .int x1), (2, .int x2), (3, .int x3)] [] w (some (.int r.1)) r.2 := by
  intro n
  induction n with
  | zero => intro x0 x1 x2 x3 w r h; exact absurd (show (none : Option (Int32 × eW)) = some r from h) (by simp)
  | succ n ih =>
    intro x0 x1 x2 x3 w r h
    rw [fX1_cellsOfTowns_4] at h
    intro p e s m args below meth c r0 A X
    refine ev_iload_n (pc := 4) X 3 dX1_cellsOfTowns_4 rfl rfl ?_
    refine ev_aload_n (pc := 5) X 0 dX1_cellsOfTowns_5 rfl rfl ?_
    obtain ⟨v1, hv1, h⟩ := eBi h
    refine ev_getI (pc := 6) X hcX1 (k := 3) (by decide) kfX1_36 dX1_cellsOfTowns_6 hv1 ?_
    refine ev_icmp_ge (pc := 9) X 41 dX1_cellsOfTowns_9 rfl (fun hc => ?_) (fun hc => ?_)
    · rw [if_pos hc] at h
      refine ev_iload_n (pc := 41) X 2 dX1_cellsOfTowns_41 rfl rfl ?_
      cases h
      exact ev_iret (pc := 42) X dX1_cellsOfTowns_42
    · rw [if_neg hc] at h
      refine ev_iload_n (pc := 12) X 1 dX1_cellsOfTowns_12 rfl rfl ?_
      refine ev_iload_n (pc := 13) X 3 dX1_cellsOfTowns_13 rfl rfl ?_
      obtain ⟨v3, w2, hc, h⟩ := eB2 h
      refine ev_callSN_i (pc := 14) (As := [.int x3]) (S := [.int x1]) X hwX10_bit knX1_54 htX10_bit ⟨Nat.le_of_ble_eq_true rfl, Nat.le_of_ble_eq_true rfl⟩ ⟨Nat.le_refl _, Nat.le_refl _⟩ rfl (Nat.le_of_ble_eq_true rfl) dX1_cellsOfTowns_14 rfl (mX10_bit hc) ?_
      refine ev_iand (pc := 17) X dX1_cellsOfTowns_17 ?_
      refine ev_if_eq (pc := 18) X 35 dX1_cellsOfTowns_18 rfl (fun hc => ?_) (fun hc => ?_)
      · rw [if_pos hc] at h
        exact ev_weak (pc := 35) [0, 1, 2, 3] rfl (sX1_cellsOfTowns_35 (fun _ _ _ _ w r hh => ih _ _ _ _ w r hh) _ _ _ _ _ _ h p e s m args below meth c r0 A X)
      · rw [if_neg hc] at h
        refine ev_iload_n (pc := 21) X 2 dX1_cellsOfTowns_21 rfl rfl ?_
        refine ev_aload_n (pc := 22) X 0 dX1_cellsOfTowns_22 rfl rfl ?_
        obtain ⟨v4, hv4, h⟩ := eBi h
        refine ev_getR (pc := 23) X hcX1 (k := 5) (by decide) kfX1_20 dX1_cellsOfTowns_23 hv4 ?_
        refine ev_iload_n (pc := 26) X 3 dX1_cellsOfTowns_26 rfl rfl ?_
        obtain ⟨v6, w5, hc, h⟩ := eB2 h
        refine ev_callV_i (pc := 27) (As := [.int x3]) (S := [.int x2]) X hwX7_get klX1_42 hiX7_get hsX7_get (ci := 7) ⟨rfl, rfl⟩ ⟨Nat.le_of_ble_eq_true rfl, Nat.le_of_ble_eq_true rfl⟩ ⟨Nat.le_refl _, Nat.le_refl _⟩ rfl (Nat.le_of_ble_eq_true rfl) dX1_cellsOfTowns_27 rfl (mX7_get (l := l) (D := D) (cI := cI) (cZ := cZ) hc).1 (mX7_get hc).2 ?_
        obtain ⟨v8, w7, hc, h⟩ := eB2 h
        refine ev_callSN_i (pc := 30) (As := [.int v6]) (S := [.int x2]) X hwX10_bit knX1_54 htX10_bit ⟨Nat.le_of_ble_eq_true rfl, Nat.le_of_ble_eq_true rfl⟩ ⟨Nat.le_refl _, Nat.le_refl _⟩ rfl (Nat.le_of_ble_eq_true rfl) dX1_cellsOfTowns_30 rfl (mX10_bit hc) ?_
        refine ev_ior (pc := 33) X dX1_cellsOfTowns_33 ?_
        refine ev_istore_n (pc := 34) (L' := [(2, .int (x2 ||| v8)), (0, .ref x0), (1, .int x1), (3, .int x3)]) X dX1_cellsOfTowns_34 rfl (by decide) rfl ?_
        exact ev_weak (pc := 35) [1, 2, 0, 3] rfl (sX1_cellsOfTowns_35 (fun _ _ _ _ w r hh => ih _ _ _ _ w r hh) _ _ _ _ _ _ h p e s m args below meth c r0 A X)
def fX1_cellsOfTowns_0 (x0 : Nat) (x1 : Int32) (w : eW) : Option (Int32 × eW) := fX1_cellsOfTowns_4 eN x0 x1 (0 : Int32) (0 : Int32) w
set_option maxRecDepth 20000 in
theorem sX1_cellsOfTowns_0  (x0 : Nat) (x1 : Int32) (w : eW) (r : Int32 × eW) (h : fX1_cellsOfTowns_0 x0 x1 w = some r) : eBN l D cI cZ 1 yX1_cellsOfTowns cX1_cellsOfTowns 4 (some .int) 0 [(0, .ref x0), (1, .int x1)] [] w (some (.int r.1)) r.2 := by
  rw [fX1_cellsOfTowns_0] at h
  intro p e s m args below meth c r0 A X
  refine ev_iconst (pc := 0) (v := (0 : Int32)) X dX1_cellsOfTowns_0 rfl ?_
  refine ev_istore_n (pc := 1) (L' := [(2, .int (0 : Int32)), (0, .ref x0), (1, .int x1)]) X dX1_cellsOfTowns_1 rfl (by decide) rfl ?_
  refine ev_iconst (pc := 2) (v := (0 : Int32)) X dX1_cellsOfTowns_2 rfl ?_
  refine ev_istore_n (pc := 3) (L' := [(3, .int (0 : Int32)), (2, .int (0 : Int32)), (0, .ref x0), (1, .int x1)]) X dX1_cellsOfTowns_3 rfl (by decide) rfl ?_
  exact ev_weak (pc := 4) [2, 3, 1, 0] rfl (sX1_cellsOfTowns_4 eN _ _ _ _ _ _ h p e s m args below meth c r0 A X)
def fX1_cellsOfTowns (a0 : Nat) (a1 : Int32) (w : eW) : Option (Int32 × eW) := bif eO w a0 1 then fX1_cellsOfTowns_0 a0 a1 w else none
theorem mX1_cellsOfTowns {a0 : Nat} {a1 : Int32} {w : eW} {v : Int32} {w' : eW} (h : fX1_cellsOfTowns a0 a1 w = some (v, w')) : eO w a0 1 = true ∧ eMN l D cI cZ 1 yX1_cellsOfTowns cX1_cellsOfTowns 4 (some .int) [.ref a0, .int a1] w (some (.int v)) w' := by
  obtain ⟨h0, h⟩ := eBif h
  exact ⟨h0, eMN_of [(0, .ref a0), (1, .int a1)] (plainFor_of_name (by decide)) (fun _ => rfl) (fun _ => Nat.le_of_ble_eq_true rfl) (fun p e s m args below meth c r0 A X => ev_weak (pc := 0) [0, 1] rfl (sX1_cellsOfTowns_0 _ _ _ _ h p e s m args below meth c r0 A X))⟩
theorem dX1_isTown_0 : decode cX1_isTown 0 = .ok (.aload_n 0, 1) := by decide +kernel
theorem dX1_isTown_1 : decode cX1_isTown 1 = .ok (.aload_n 0, 1) := by decide +kernel
theorem dX1_isTown_2 : decode cX1_isTown 2 = .ok (.getfield 36, 3) := by decide +kernel
theorem dX1_isTown_5 : decode cX1_isTown 5 = .ok (.invokestatic 54, 3) := by decide +kernel
theorem dX1_isTown_8 : decode cX1_isTown 8 = .ok (.iconst 1, 1) := by decide +kernel
theorem dX1_isTown_9 : decode cX1_isTown 9 = .ok (.isub, 1) := by decide +kernel
theorem dX1_isTown_10 : decode cX1_isTown 10 = .ok (.invokevirtual 57, 3) := by decide +kernel
theorem dX1_isTown_13 : decode cX1_isTown 13 = .ok (.iload_n 1, 1) := by decide +kernel
theorem dX1_isTown_14 : decode cX1_isTown 14 = .ok (.invokestatic 54, 3) := by decide +kernel
theorem dX1_isTown_17 : decode cX1_isTown 17 = .ok (.iand, 1) := by decide +kernel
theorem dX1_isTown_18 : decode cX1_isTown 18 = .ok (.ifCond .eq 7, 3) := by decide +kernel
theorem dX1_isTown_21 : decode cX1_isTown 21 = .ok (.iconst 1, 1) := by decide +kernel
theorem dX1_isTown_22 : decode cX1_isTown 22 = .ok (.goto 4, 3) := by decide +kernel
theorem dX1_isTown_25 : decode cX1_isTown 25 = .ok (.iconst 0, 1) := by decide +kernel
theorem dX1_isTown_26 : decode cX1_isTown 26 = .ok (.ireturn, 1) := by decide +kernel
def fX1_isTown_0 (x0 : Nat) (x1 : Int32) (w : eW) : Option (Int32 × eW) := (eGI w x0 1 3).bind fun v1 => eBind2 (fX10_bit v1 w) fun v3 w2 => eBind2 (fX1_cellsOfTowns x0 (v3 - (1 : Int32)) w2) fun v5 w4 => eBind2 (fX10_bit x1 w4) fun v7 w6 => if (v5 &&& v7) = 0 then ((eZ (0 : Int32)).bind fun v8 => some (v8, w6)) else ((eZ (1 : Int32)).bind fun v9 => some (v9, w6))
set_option maxRecDepth 20000 in
theorem sX1_isTown_0  (x0 : Nat) (x1 : Int32) (w : eW) (r : Int32 × eW) (h : fX1_isTown_0 x0 x1 w = some r) : eBN l D cI cZ 2 yX1_isTown cX1_isTown 2 (some .boolean) 0 [(0, .ref x0), (1, .int x1)] [] w (some (.int r.1)) r.2 := by
  rw [fX1_isTown_0] at h
  intro p e s m args below meth c r0 A X
  refine ev_aload_n (pc := 0) X 0 dX1_isTown_0 rfl rfl ?_
  refine ev_aload_n (pc := 1) X 0 dX1_isTown_1 rfl rfl ?_
  obtain ⟨v1, hv1, h⟩ := eBi h
  refine ev_getI (pc := 2) X hcX1 (k := 3) (by decide) kfX1_36 dX1_isTown_2 hv1 ?_
  obtain ⟨v3, w2, hc, h⟩ := eB2 h
  refine ev_callSN_i (pc := 5) (As := [.int v1]) (S := [.ref x0]) X hwX10_bit knX1_54 htX10_bit ⟨Nat.le_of_ble_eq_true rfl, Nat.le_of_ble_eq_true rfl⟩ ⟨Nat.le_refl _, Nat.le_refl _⟩ rfl (Nat.le_of_ble_eq_true rfl) dX1_isTown_5 rfl (mX10_bit hc) ?_
  refine ev_iconst (pc := 8) (v := (1 : Int32)) X dX1_isTown_8 rfl ?_
  refine ev_isub (pc := 9) X dX1_isTown_9 ?_
  obtain ⟨v5, w4, hc, h⟩ := eB2 h
  refine ev_callV_i (pc := 10) (As := [.int (v3 - (1 : Int32))]) (S := []) X hwX1_cellsOfTowns klX1_57 hiX1_cellsOfTowns hsX1_cellsOfTowns (ci := 1) ⟨rfl, rfl⟩ ⟨Nat.le_of_ble_eq_true rfl, Nat.le_of_ble_eq_true rfl⟩ ⟨Nat.le_refl _, Nat.le_refl _⟩ rfl (Nat.le_of_ble_eq_true rfl) dX1_isTown_10 rfl (mX1_cellsOfTowns (l := l) (D := D) (cI := cI) (cZ := cZ) hc).1 (mX1_cellsOfTowns hc).2 ?_
  refine ev_iload_n (pc := 13) X 1 dX1_isTown_13 rfl rfl ?_
  obtain ⟨v7, w6, hc, h⟩ := eB2 h
  refine ev_callSN_i (pc := 14) (As := [.int x1]) (S := [.int v5]) X hwX10_bit knX1_54 htX10_bit ⟨Nat.le_of_ble_eq_true rfl, Nat.le_of_ble_eq_true rfl⟩ ⟨Nat.le_refl _, Nat.le_refl _⟩ rfl (Nat.le_of_ble_eq_true rfl) dX1_isTown_14 rfl (mX10_bit hc) ?_
  refine ev_iand (pc := 17) X dX1_isTown_17 ?_
  refine ev_if_eq (pc := 18) X 25 dX1_isTown_18 rfl (fun hc => ?_) (fun hc => ?_)
  · rw [if_pos hc] at h
    refine ev_iconst (pc := 25) (v := (0 : Int32)) X dX1_isTown_25 rfl ?_
    obtain ⟨v8, hv8, h⟩ := eBi h
    cases h
    exact ev_zret (pc := 26) X dX1_isTown_26 hv8
  · rw [if_neg hc] at h
    refine ev_iconst (pc := 21) (v := (1 : Int32)) X dX1_isTown_21 rfl ?_
    refine ev_goto (pc := 22) X 26 dX1_isTown_22 rfl ?_
    obtain ⟨v9, hv9, h⟩ := eBi h
    cases h
    exact ev_zret (pc := 26) X dX1_isTown_26 hv9
def fX1_isTown (a0 : Nat) (a1 : Int32) (w : eW) : Option (Int32 × eW) := bif eO w a0 1 then fX1_isTown_0 a0 a1 w else none
theorem mX1_isTown {a0 : Nat} {a1 : Int32} {w : eW} {v : Int32} {w' : eW} (h : fX1_isTown a0 a1 w = some (v, w')) : eO w a0 1 = true ∧ eMN l D cI cZ 2 yX1_isTown cX1_isTown 2 (some .boolean) [.ref a0, .int a1] w (some (.int v)) w' := by
  obtain ⟨h0, h⟩ := eBif h
  exact ⟨h0, eMN_of [(0, .ref a0), (1, .int a1)] (plainFor_of_name (by decide)) (fun _ => rfl) (fun _ => Nat.le_of_ble_eq_true rfl) (fun p e s m args below meth c r0 A X => ev_weak (pc := 0) [0, 1] rfl (sX1_isTown_0 _ _ _ _ h p e s m args below meth c r0 A X))⟩
theorem dX7_fill_0 : decode cX7_fill 0 = .ok (.iconst 0, 1) := by decide +kernel
theorem dX7_fill_1 : decode cX7_fill 1 = .ok (.istore_n 2, 1) := by decide +kernel
theorem dX7_fill_2 : decode cX7_fill 2 = .ok (.iload_n 2, 1) := by decide +kernel
theorem dX7_fill_3 : decode cX7_fill 3 = .ok (.aload_n 0, 1) := by decide +kernel
theorem dX7_fill_4 : decode cX7_fill 4 = .ok (.getfield 13, 3) := by decide +kernel
theorem dX7_fill_7 : decode cX7_fill 7 = .ok (.arraylength, 1) := by decide +kernel
theorem dX7_fill_8 : decode cX7_fill 8 = .ok (.if_icmp .ge 16, 3) := by decide +kernel
theorem dX7_fill_11 : decode cX7_fill 11 = .ok (.aload_n 0, 1) := by decide +kernel
theorem dX7_fill_12 : decode cX7_fill 12 = .ok (.getfield 13, 3) := by decide +kernel
theorem dX7_fill_15 : decode cX7_fill 15 = .ok (.iload_n 2, 1) := by decide +kernel
theorem dX7_fill_16 : decode cX7_fill 16 = .ok (.iload_n 1, 1) := by decide +kernel
theorem dX7_fill_17 : decode cX7_fill 17 = .ok (.iastore, 1) := by decide +kernel
theorem dX7_fill_18 : decode cX7_fill 18 = .ok (.iinc 2 1, 3) := by decide +kernel
theorem dX7_fill_21 : decode cX7_fill 21 = .ok (.goto (-19), 3) := by decide +kernel
theorem dX7_fill_24 : decode cX7_fill 24 = .ok (.return_, 1) := by decide +kernel
def fX7_fill_2 : Nat → Nat → Int32 → Int32 → eW → Option (eW)
  | 0, _, _, _, _ => none
  | n + 1, x0, x1, x2, w => (eGR w x0 7 0).bind fun v1 => (eLen w v1).bind fun v2 => if v2 ≤ x2 then (some w) else ((eGR w x0 7 0).bind fun v3 => (eSt w false v3 x2 x1).bind fun w4 => fX7_fill_2 n x0 x1 (x2 + (1 : Int32)) w4)
set_option maxRecDepth 20000 in
theorem sX7_fill_2  : ∀ (n : Nat) (x0 : Nat) (x1 : Int32) (x2 : Int32) (w : eW) (r : eW), fX7_fill_2 n x0 x1 x2 w = some r → eBN l D cI cZ 0 yX7_fill cX7_fill 3 none 2 [(0, .ref x0), (1, .int x1), (2, .int x2)] [] w none r := by
  intro n
  induction n with
  | zero => intro x0 x1 x2 w r h; exact absurd (show (none : Option (eW)) = some r from h) (by simp)
  | succ n ih =>
    intro x0 x1 x2 w r h
    rw [fX7_fill_2] at h
    intro p e s m args below meth c r0 A X
    refine ev_iload_n (pc := 2) X 2 dX7_fill_2 rfl rfl ?_
    refine ev_aload_n (pc := 3) X 0 dX7_fill_3 rfl rfl ?_
    obtain ⟨v1, hv1, h⟩ := eBi h
    refine ev_getR (pc := 4) X hcX7 (k := 0) (by decide) kfX7_13 dX7_fill_4 hv1 ?_
    obtain ⟨v2, hv2, h⟩ := eBi h
    refine ev_alen (pc := 7) X dX7_fill_7 hv2 ?_
    refine ev_icmp_ge (pc := 8) X 24 dX7_fill_8 rfl (fun hc => ?_) (fun hc => ?_)
    · rw [if_pos hc] at h
      cases h
      exact ev_vret (pc := 24) X dX7_fill_24
    · rw [if_neg hc] at h
      refine ev_aload_n (pc := 11) X 0 dX7_fill_11 rfl rfl ?_
      obtain ⟨v3, hv3, h⟩ := eBi h
      refine ev_getR (pc := 12) X hcX7 (k := 0) (by decide) kfX7_13 dX7_fill_12 hv3 ?_
      refine ev_iload_n (pc := 15) X 2 dX7_fill_15 rfl rfl ?_
      refine ev_iload_n (pc := 16) X 1 dX7_fill_16 rfl rfl ?_
      obtain ⟨w4, hw4, h⟩ := eBi h
      refine ev_iast (pc := 17) X dX7_fill_17 hw4 ?_
      refine ev_iinc (pc := 18) (v := x2 + (1 : Int32)) (L' := [(2, .int (x2 + (1 : Int32))), (0, .ref x0), (1, .int x1)]) X 2 dX7_fill_18 rfl rfl (by decide) rfl ?_
      refine ev_goto (pc := 21) X 2 dX7_fill_21 rfl ?_
      exact ev_weak (pc := 2) [1, 2, 0] rfl (ih _ _ _ _ _ h p e s m args below meth c r0 A X)
def fX7_fill_0 (x0 : Nat) (x1 : Int32) (w : eW) : Option (eW) := fX7_fill_2 eN x0 x1 (0 : Int32) w
set_option maxRecDepth 20000 in
theorem sX7_fill_0  (x0 : Nat) (x1 : Int32) (w : eW) (r : eW) (h : fX7_fill_0 x0 x1 w = some r) : eBN l D cI cZ 0 yX7_fill cX7_fill 3 none 0 [(0, .ref x0), (1, .int x1)] [] w none r := by
  rw [fX7_fill_0] at h
  intro p e s m args below meth c r0 A X
  refine ev_iconst (pc := 0) (v := (0 : Int32)) X dX7_fill_0 rfl ?_
  refine ev_istore_n (pc := 1) (L' := [(2, .int (0 : Int32)), (0, .ref x0), (1, .int x1)]) X dX7_fill_1 rfl (by decide) rfl ?_
  exact ev_weak (pc := 2) [1, 2, 0] rfl (sX7_fill_2 eN _ _ _ _ _ h p e s m args below meth c r0 A X)
def fX7_fill (a0 : Nat) (a1 : Int32) (w : eW) : Option (eW) := bif eO w a0 7 then fX7_fill_0 a0 a1 w else none
theorem mX7_fill {a0 : Nat} {a1 : Int32} {w : eW} {w' : eW} (h : fX7_fill a0 a1 w = some w') : eO w a0 7 = true ∧ eMN l D cI cZ 0 yX7_fill cX7_fill 3 none [.ref a0, .int a1] w none w' := by
  obtain ⟨h0, h⟩ := eBif h
  exact ⟨h0, eMN_of [(0, .ref a0), (1, .int a1)] (plainFor_of_name (by decide)) (fun _ => rfl) (fun _ => Nat.le_of_ble_eq_true rfl) (fun p e s m args below meth c r0 A X => ev_weak (pc := 0) [0, 1] rfl (sX7_fill_0 _ _ _ _ h p e s m args below meth c r0 A X))⟩
theorem dX1_becomeFirst_0 : decode cX1_becomeFirst 0 = .ok (.aload_n 0, 1) := by decide +kernel
theorem dX1_becomeFirst_1 : decode cX1_becomeFirst 1 = .ok (.iconst 3, 1) := by decide +kernel
theorem dX1_becomeFirst_2 : decode cX1_becomeFirst 2 = .ok (.putfield 26, 3) := by decide +kernel
theorem dX1_becomeFirst_5 : decode cX1_becomeFirst 5 = .ok (.aload_n 0, 1) := by decide +kernel
theorem dX1_becomeFirst_6 : decode cX1_becomeFirst 6 = .ok (.iconst 2, 1) := by decide +kernel
theorem dX1_becomeFirst_7 : decode cX1_becomeFirst 7 = .ok (.putfield 30, 3) := by decide +kernel
theorem dX1_becomeFirst_10 : decode cX1_becomeFirst 10 = .ok (.aload_n 0, 1) := by decide +kernel
theorem dX1_becomeFirst_11 : decode cX1_becomeFirst 11 = .ok (.bipush 9, 2) := by decide +kernel
theorem dX1_becomeFirst_13 : decode cX1_becomeFirst 13 = .ok (.putfield 33, 3) := by decide +kernel
theorem dX1_becomeFirst_16 : decode cX1_becomeFirst 16 = .ok (.aload_n 0, 1) := by decide +kernel
theorem dX1_becomeFirst_17 : decode cX1_becomeFirst 17 = .ok (.iconst 0, 1) := by decide +kernel
theorem dX1_becomeFirst_18 : decode cX1_becomeFirst 18 = .ok (.putfield 36, 3) := by decide +kernel
theorem dX1_becomeFirst_21 : decode cX1_becomeFirst 21 = .ok (.aload_n 0, 1) := by decide +kernel
theorem dX1_becomeFirst_22 : decode cX1_becomeFirst 22 = .ok (.getfield 14, 3) := by decide +kernel
theorem dX1_becomeFirst_25 : decode cX1_becomeFirst 25 = .ok (.iconst 0, 1) := by decide +kernel
theorem dX1_becomeFirst_26 : decode cX1_becomeFirst 26 = .ok (.invokevirtual 39, 3) := by decide +kernel
theorem dX1_becomeFirst_29 : decode cX1_becomeFirst 29 = .ok (.return_, 1) := by decide +kernel
def fX1_becomeFirst_0 (x0 : Nat) (w : eW) : Option (eW) := (eP w x0 1 0 (.int (3 : Int32))).bind fun w1 => (eP w1 x0 1 1 (.int (2 : Int32))).bind fun w2 => (eP w2 x0 1 2 (.int (9 : Int32))).bind fun w3 => (eP w3 x0 1 3 (.int (0 : Int32))).bind fun w4 => (eGR w4 x0 1 4).bind fun v5 => (fX7_fill v5 (0 : Int32) w4).bind fun w6 => some w6
set_option maxRecDepth 20000 in
theorem sX1_becomeFirst_0  (x0 : Nat) (w : eW) (r : eW) (h : fX1_becomeFirst_0 x0 w = some r) : eBN l D cI cZ 1 yX1_becomeFirst cX1_becomeFirst 1 none 0 [(0, .ref x0)] [] w none r := by
  rw [fX1_becomeFirst_0] at h
  intro p e s m args below meth c r0 A X
  refine ev_aload_n (pc := 0) X 0 dX1_becomeFirst_0 rfl rfl ?_
  refine ev_iconst (pc := 1) (v := (3 : Int32)) X dX1_becomeFirst_1 rfl ?_
  obtain ⟨w1, hw1, h⟩ := eBi h
  refine ev_putI (pc := 2) X hcX1 (k := 0) (by decide) kfX1_26 rfl rfl dX1_becomeFirst_2 hw1 ?_
  refine ev_aload_n (pc := 5) X 0 dX1_becomeFirst_5 rfl rfl ?_
  refine ev_iconst (pc := 6) (v := (2 : Int32)) X dX1_becomeFirst_6 rfl ?_
  obtain ⟨w2, hw2, h⟩ := eBi h
  refine ev_putI (pc := 7) X hcX1 (k := 1) (by decide) kfX1_30 rfl rfl dX1_becomeFirst_7 hw2 ?_
  refine ev_aload_n (pc := 10) X 0 dX1_becomeFirst_10 rfl rfl ?_
  refine ev_bipush (pc := 11) (v := (9 : Int32)) X dX1_becomeFirst_11 rfl ?_
  obtain ⟨w3, hw3, h⟩ := eBi h
  refine ev_putI (pc := 13) X hcX1 (k := 2) (by decide) kfX1_33 rfl rfl dX1_becomeFirst_13 hw3 ?_
  refine ev_aload_n (pc := 16) X 0 dX1_becomeFirst_16 rfl rfl ?_
  refine ev_iconst (pc := 17) (v := (0 : Int32)) X dX1_becomeFirst_17 rfl ?_
  obtain ⟨w4, hw4, h⟩ := eBi h
  refine ev_putI (pc := 18) X hcX1 (k := 3) (by decide) kfX1_36 rfl rfl dX1_becomeFirst_18 hw4 ?_
  refine ev_aload_n (pc := 21) X 0 dX1_becomeFirst_21 rfl rfl ?_
  obtain ⟨v5, hv5, h⟩ := eBi h
  refine ev_getR (pc := 22) X hcX1 (k := 4) (by decide) kfX1_14 dX1_becomeFirst_22 hv5 ?_
  refine ev_iconst (pc := 25) (v := (0 : Int32)) X dX1_becomeFirst_25 rfl ?_
  obtain ⟨w6, hc, h⟩ := eBi h
  refine ev_callV_v (pc := 26) (As := [.int (0 : Int32)]) (S := []) X hwX7_fill klX1_39 hiX7_fill hsX7_fill (ci := 7) ⟨rfl, rfl⟩ ⟨Nat.le_of_ble_eq_true rfl, Nat.le_of_ble_eq_true rfl⟩ ⟨Nat.le_refl _, Nat.le_refl _⟩ rfl (Nat.le_of_ble_eq_true rfl) dX1_becomeFirst_26 rfl (mX7_fill (l := l) (D := D) (cI := cI) (cZ := cZ) hc).1 (mX7_fill hc).2 ?_
  cases h
  exact ev_vret (pc := 29) X dX1_becomeFirst_29
def fX1_becomeFirst (a0 : Nat) (w : eW) : Option (eW) := bif eO w a0 1 then fX1_becomeFirst_0 a0 w else none
theorem mX1_becomeFirst {a0 : Nat} {w : eW} {w' : eW} (h : fX1_becomeFirst a0 w = some w') : eO w a0 1 = true ∧ eMN l D cI cZ 1 yX1_becomeFirst cX1_becomeFirst 1 none [.ref a0] w none w' := by
  obtain ⟨h0, h⟩ := eBif h
  exact ⟨h0, eMN_of [(0, .ref a0)] (plainFor_of_name (by decide)) (fun _ => rfl) (fun _ => Nat.le_of_ble_eq_true rfl) (fun p e s m args below meth c r0 A X => ev_weak (pc := 0) [0] rfl (sX1_becomeFirst_0 _ _ _ h p e s m args below meth c r0 A X))⟩
theorem dX1_become_0 : decode cX1_become 0 = .ok (.aload_n 0, 1) := by decide +kernel
theorem dX1_become_1 : decode cX1_become 1 = .ok (.aload_n 1, 1) := by decide +kernel
theorem dX1_become_2 : decode cX1_become 2 = .ok (.getfield 26, 3) := by decide +kernel
theorem dX1_become_5 : decode cX1_become 5 = .ok (.putfield 26, 3) := by decide +kernel
theorem dX1_become_8 : decode cX1_become 8 = .ok (.aload_n 0, 1) := by decide +kernel
theorem dX1_become_9 : decode cX1_become 9 = .ok (.aload_n 1, 1) := by decide +kernel
theorem dX1_become_10 : decode cX1_become 10 = .ok (.getfield 30, 3) := by decide +kernel
theorem dX1_become_13 : decode cX1_become 13 = .ok (.putfield 30, 3) := by decide +kernel
theorem dX1_become_16 : decode cX1_become 16 = .ok (.aload_n 0, 1) := by decide +kernel
theorem dX1_become_17 : decode cX1_become 17 = .ok (.aload_n 1, 1) := by decide +kernel
theorem dX1_become_18 : decode cX1_become 18 = .ok (.getfield 33, 3) := by decide +kernel
theorem dX1_become_21 : decode cX1_become 21 = .ok (.putfield 33, 3) := by decide +kernel
theorem dX1_become_24 : decode cX1_become 24 = .ok (.aload_n 0, 1) := by decide +kernel
theorem dX1_become_25 : decode cX1_become 25 = .ok (.aload_n 1, 1) := by decide +kernel
theorem dX1_become_26 : decode cX1_become 26 = .ok (.getfield 36, 3) := by decide +kernel
theorem dX1_become_29 : decode cX1_become 29 = .ok (.putfield 36, 3) := by decide +kernel
theorem dX1_become_32 : decode cX1_become 32 = .ok (.iconst 0, 1) := by decide +kernel
theorem dX1_become_33 : decode cX1_become 33 = .ok (.istore_n 2, 1) := by decide +kernel
theorem dX1_become_34 : decode cX1_become 34 = .ok (.iload_n 2, 1) := by decide +kernel
theorem dX1_become_35 : decode cX1_become 35 = .ok (.bipush 20, 2) := by decide +kernel
theorem dX1_become_37 : decode cX1_become 37 = .ok (.if_icmp .ge 25, 3) := by decide +kernel
theorem dX1_become_40 : decode cX1_become 40 = .ok (.aload_n 0, 1) := by decide +kernel
theorem dX1_become_41 : decode cX1_become 41 = .ok (.getfield 14, 3) := by decide +kernel
theorem dX1_become_44 : decode cX1_become 44 = .ok (.iload_n 2, 1) := by decide +kernel
theorem dX1_become_45 : decode cX1_become 45 = .ok (.aload_n 1, 1) := by decide +kernel
theorem dX1_become_46 : decode cX1_become 46 = .ok (.getfield 14, 3) := by decide +kernel
theorem dX1_become_49 : decode cX1_become 49 = .ok (.iload_n 2, 1) := by decide +kernel
theorem dX1_become_50 : decode cX1_become 50 = .ok (.invokevirtual 42, 3) := by decide +kernel
theorem dX1_become_53 : decode cX1_become 53 = .ok (.invokevirtual 46, 3) := by decide +kernel
theorem dX1_become_56 : decode cX1_become 56 = .ok (.iinc 2 1, 3) := by decide +kernel
theorem dX1_become_59 : decode cX1_become 59 = .ok (.goto (-25), 3) := by decide +kernel
theorem dX1_become_62 : decode cX1_become 62 = .ok (.iconst 0, 1) := by decide +kernel
theorem dX1_become_63 : decode cX1_become 63 = .ok (.istore_n 2, 1) := by decide +kernel
theorem dX1_become_64 : decode cX1_become 64 = .ok (.iload_n 2, 1) := by decide +kernel
theorem dX1_become_65 : decode cX1_become 65 = .ok (.iconst 4, 1) := by decide +kernel
theorem dX1_become_66 : decode cX1_become 66 = .ok (.if_icmp .ge 25, 3) := by decide +kernel
theorem dX1_become_69 : decode cX1_become 69 = .ok (.aload_n 0, 1) := by decide +kernel
theorem dX1_become_70 : decode cX1_become 70 = .ok (.getfield 20, 3) := by decide +kernel
theorem dX1_become_73 : decode cX1_become 73 = .ok (.iload_n 2, 1) := by decide +kernel
theorem dX1_become_74 : decode cX1_become 74 = .ok (.aload_n 1, 1) := by decide +kernel
theorem dX1_become_75 : decode cX1_become 75 = .ok (.getfield 20, 3) := by decide +kernel
theorem dX1_become_78 : decode cX1_become 78 = .ok (.iload_n 2, 1) := by decide +kernel
theorem dX1_become_79 : decode cX1_become 79 = .ok (.invokevirtual 42, 3) := by decide +kernel
theorem dX1_become_82 : decode cX1_become 82 = .ok (.invokevirtual 46, 3) := by decide +kernel
theorem dX1_become_85 : decode cX1_become 85 = .ok (.iinc 2 1, 3) := by decide +kernel
theorem dX1_become_88 : decode cX1_become 88 = .ok (.goto (-24), 3) := by decide +kernel
theorem dX1_become_91 : decode cX1_become 91 = .ok (.return_, 1) := by decide +kernel
def fX1_become_64 : Nat → Nat → Nat → Int32 → eW → Option (eW)
  | 0, _, _, _, _ => none
  | n + 1, x0, x1, x2, w => if (4 : Int32) ≤ x2 then (some w) else ((eGR w x0 1 5).bind fun v1 => (eGR w x1 1 5).bind fun v2 => eBind2 (fX7_get v2 x2 w) fun v4 w3 => (fX7_put v1 x2 v4 w3).bind fun w5 => fX1_become_64 n x0 x1 (x2 + (1 : Int32)) w5)
set_option maxRecDepth 20000 in
theorem sX1_become_64  : ∀ (n : Nat) (x0 : Nat) (x1 : Nat) (x2 : Int32) (w : eW) (r : eW), fX1_become_64 n x0 x1 x2 w = some r → eBN l D cI cZ 1 yX1_become cX1_become 3 none 64 [(0, .ref x0), (1, .ref x1), (2, .int x2)] [] w none r := by
  intro n
  induction n with
  | zero => intro x0 x1 x2 w r h; exact absurd (show (none : Option (eW)) = some r from h) (by simp)
  | succ n ih =>
    intro x0 x1 x2 w r h
    rw [fX1_become_64] at h
    intro p e s m args below meth c r0 A X
    refine ev_iload_n (pc := 64) X 2 dX1_become_64 rfl rfl ?_
    refine ev_iconst (pc := 65) (v := (4 : Int32)) X dX1_become_65 rfl ?_
    refine ev_icmp_ge (pc := 66) X 91 dX1_become_66 rfl (fun hc => ?_) (fun hc => ?_)
    · rw [if_pos hc] at h
      cases h
      exact ev_vret (pc := 91) X dX1_become_91
    · rw [if_neg hc] at h
      refine ev_aload_n (pc := 69) X 0 dX1_become_69 rfl rfl ?_
      obtain ⟨v1, hv1, h⟩ := eBi h
      refine ev_getR (pc := 70) X hcX1 (k := 5) (by decide) kfX1_20 dX1_become_70 hv1 ?_
      refine ev_iload_n (pc := 73) X 2 dX1_become_73 rfl rfl ?_
      refine ev_aload_n (pc := 74) X 1 dX1_become_74 rfl rfl ?_
      obtain ⟨v2, hv2, h⟩ := eBi h
      refine ev_getR (pc := 75) X hcX1 (k := 5) (by decide) kfX1_20 dX1_become_75 hv2 ?_
      refine ev_iload_n (pc := 78) X 2 dX1_become_78 rfl rfl ?_
      obtain ⟨v4, w3, hc, h⟩ := eB2 h
      refine ev_callV_i (pc := 79) (As := [.int x2]) (S := [.int x2, .ref v1]) X hwX7_get klX1_42 hiX7_get hsX7_get (ci := 7) ⟨rfl, rfl⟩ ⟨Nat.le_of_ble_eq_true rfl, Nat.le_of_ble_eq_true rfl⟩ ⟨Nat.le_refl _, Nat.le_refl _⟩ rfl (Nat.le_of_ble_eq_true rfl) dX1_become_79 rfl (mX7_get (l := l) (D := D) (cI := cI) (cZ := cZ) hc).1 (mX7_get hc).2 ?_
      obtain ⟨w5, hc, h⟩ := eBi h
      refine ev_callV_v (pc := 82) (As := [.int x2, .int v4]) (S := []) X hwX7_put klX1_46 hiX7_put hsX7_put (ci := 7) ⟨rfl, rfl⟩ ⟨Nat.le_of_ble_eq_true rfl, Nat.le_of_ble_eq_true rfl⟩ ⟨Nat.le_refl _, Nat.le_refl _⟩ rfl (Nat.le_of_ble_eq_true rfl) dX1_become_82 rfl (mX7_put (l := l) (D := D) (cI := cI) (cZ := cZ) hc).1 (mX7_put hc).2 ?_
      refine ev_iinc (pc := 85) (v := x2 + (1 : Int32)) (L' := [(2, .int (x2 + (1 : Int32))), (0, .ref x0), (1, .ref x1)]) X 2 dX1_become_85 rfl rfl (by decide) rfl ?_
      refine ev_goto (pc := 88) X 64 dX1_become_88 rfl ?_
      exact ev_weak (pc := 64) [1, 2, 0] rfl (ih _ _ _ _ _ h p e s m args below meth c r0 A X)
def fX1_become_34 : Nat → Nat → Nat → Int32 → eW → Option (eW)
  | 0, _, _, _, _ => none
  | n + 1, x0, x1, x2, w => if (20 : Int32) ≤ x2 then (fX1_become_64 eN x0 x1 (0 : Int32) w) else ((eGR w x0 1 4).bind fun v1 => (eGR w x1 1 4).bind fun v2 => eBind2 (fX7_get v2 x2 w) fun v4 w3 => (fX7_put v1 x2 v4 w3).bind fun w5 => fX1_become_34 n x0 x1 (x2 + (1 : Int32)) w5)
set_option maxRecDepth 20000 in
theorem sX1_become_34  : ∀ (n : Nat) (x0 : Nat) (x1 : Nat) (x2 : Int32) (w : eW) (r : eW), fX1_become_34 n x0 x1 x2 w = some r → eBN l D cI cZ 1 yX1_become cX1_become 3 none 34 [(0, .ref x0), (1, .ref x1), (2, .int x2)] [] w none r := by
  intro n
  induction n with
  | zero => intro x0 x1 x2 w r h; exact absurd (show (none : Option (eW)) = some r from h) (by simp)
  | succ n ih =>
    intro x0 x1 x2 w r h
    rw [fX1_become_34] at h
    intro p e s m args below meth c r0 A X
    refine ev_iload_n (pc := 34) X 2 dX1_become_34 rfl rfl ?_
    refine ev_bipush (pc := 35) (v := (20 : Int32)) X dX1_become_35 rfl ?_
    refine ev_icmp_ge (pc := 37) X 62 dX1_become_37 rfl (fun hc => ?_) (fun hc => ?_)
    · rw [if_pos hc] at h
      refine ev_iconst (pc := 62) (v := (0 : Int32)) X dX1_become_62 rfl ?_
      refine ev_istore_n (pc := 63) (L' := [(2, .int (0 : Int32)), (0, .ref x0), (1, .ref x1)]) X dX1_become_63 rfl (by decide) rfl ?_
      exact ev_weak (pc := 64) [1, 2, 0] rfl (sX1_become_64 eN _ _ _ _ _ h p e s m args below meth c r0 A X)
    · rw [if_neg hc] at h
      refine ev_aload_n (pc := 40) X 0 dX1_become_40 rfl rfl ?_
      obtain ⟨v1, hv1, h⟩ := eBi h
      refine ev_getR (pc := 41) X hcX1 (k := 4) (by decide) kfX1_14 dX1_become_41 hv1 ?_
      refine ev_iload_n (pc := 44) X 2 dX1_become_44 rfl rfl ?_
      refine ev_aload_n (pc := 45) X 1 dX1_become_45 rfl rfl ?_
      obtain ⟨v2, hv2, h⟩ := eBi h
      refine ev_getR (pc := 46) X hcX1 (k := 4) (by decide) kfX1_14 dX1_become_46 hv2 ?_
      refine ev_iload_n (pc := 49) X 2 dX1_become_49 rfl rfl ?_
      obtain ⟨v4, w3, hc, h⟩ := eB2 h
      refine ev_callV_i (pc := 50) (As := [.int x2]) (S := [.int x2, .ref v1]) X hwX7_get klX1_42 hiX7_get hsX7_get (ci := 7) ⟨rfl, rfl⟩ ⟨Nat.le_of_ble_eq_true rfl, Nat.le_of_ble_eq_true rfl⟩ ⟨Nat.le_refl _, Nat.le_refl _⟩ rfl (Nat.le_of_ble_eq_true rfl) dX1_become_50 rfl (mX7_get (l := l) (D := D) (cI := cI) (cZ := cZ) hc).1 (mX7_get hc).2 ?_
      obtain ⟨w5, hc, h⟩ := eBi h
      refine ev_callV_v (pc := 53) (As := [.int x2, .int v4]) (S := []) X hwX7_put klX1_46 hiX7_put hsX7_put (ci := 7) ⟨rfl, rfl⟩ ⟨Nat.le_of_ble_eq_true rfl, Nat.le_of_ble_eq_true rfl⟩ ⟨Nat.le_refl _, Nat.le_refl _⟩ rfl (Nat.le_of_ble_eq_true rfl) dX1_become_53 rfl (mX7_put (l := l) (D := D) (cI := cI) (cZ := cZ) hc).1 (mX7_put hc).2 ?_
      refine ev_iinc (pc := 56) (v := x2 + (1 : Int32)) (L' := [(2, .int (x2 + (1 : Int32))), (0, .ref x0), (1, .ref x1)]) X 2 dX1_become_56 rfl rfl (by decide) rfl ?_
      refine ev_goto (pc := 59) X 34 dX1_become_59 rfl ?_
      exact ev_weak (pc := 34) [1, 2, 0] rfl (ih _ _ _ _ _ h p e s m args below meth c r0 A X)
def fX1_become_0 (x0 : Nat) (x1 : Nat) (w : eW) : Option (eW) := (eGI w x1 1 0).bind fun v1 => (eP w x0 1 0 (.int v1)).bind fun w2 => (eGI w2 x1 1 1).bind fun v3 => (eP w2 x0 1 1 (.int v3)).bind fun w4 => (eGI w4 x1 1 2).bind fun v5 => (eP w4 x0 1 2 (.int v5)).bind fun w6 => (eGI w6 x1 1 3).bind fun v7 => (eP w6 x0 1 3 (.int v7)).bind fun w8 => fX1_become_34 eN x0 x1 (0 : Int32) w8
set_option maxRecDepth 20000 in
theorem sX1_become_0  (x0 : Nat) (x1 : Nat) (w : eW) (r : eW) (h : fX1_become_0 x0 x1 w = some r) : eBN l D cI cZ 1 yX1_become cX1_become 3 none 0 [(0, .ref x0), (1, .ref x1)] [] w none r := by
  rw [fX1_become_0] at h
  intro p e s m args below meth c r0 A X
  refine ev_aload_n (pc := 0) X 0 dX1_become_0 rfl rfl ?_
  refine ev_aload_n (pc := 1) X 1 dX1_become_1 rfl rfl ?_
  obtain ⟨v1, hv1, h⟩ := eBi h
  refine ev_getI (pc := 2) X hcX1 (k := 0) (by decide) kfX1_26 dX1_become_2 hv1 ?_
  obtain ⟨w2, hw2, h⟩ := eBi h
  refine ev_putI (pc := 5) X hcX1 (k := 0) (by decide) kfX1_26 rfl rfl dX1_become_5 hw2 ?_
  refine ev_aload_n (pc := 8) X 0 dX1_become_8 rfl rfl ?_
  refine ev_aload_n (pc := 9) X 1 dX1_become_9 rfl rfl ?_
  obtain ⟨v3, hv3, h⟩ := eBi h
  refine ev_getI (pc := 10) X hcX1 (k := 1) (by decide) kfX1_30 dX1_become_10 hv3 ?_
  obtain ⟨w4, hw4, h⟩ := eBi h
  refine ev_putI (pc := 13) X hcX1 (k := 1) (by decide) kfX1_30 rfl rfl dX1_become_13 hw4 ?_
  refine ev_aload_n (pc := 16) X 0 dX1_become_16 rfl rfl ?_
  refine ev_aload_n (pc := 17) X 1 dX1_become_17 rfl rfl ?_
  obtain ⟨v5, hv5, h⟩ := eBi h
  refine ev_getI (pc := 18) X hcX1 (k := 2) (by decide) kfX1_33 dX1_become_18 hv5 ?_
  obtain ⟨w6, hw6, h⟩ := eBi h
  refine ev_putI (pc := 21) X hcX1 (k := 2) (by decide) kfX1_33 rfl rfl dX1_become_21 hw6 ?_
  refine ev_aload_n (pc := 24) X 0 dX1_become_24 rfl rfl ?_
  refine ev_aload_n (pc := 25) X 1 dX1_become_25 rfl rfl ?_
  obtain ⟨v7, hv7, h⟩ := eBi h
  refine ev_getI (pc := 26) X hcX1 (k := 3) (by decide) kfX1_36 dX1_become_26 hv7 ?_
  obtain ⟨w8, hw8, h⟩ := eBi h
  refine ev_putI (pc := 29) X hcX1 (k := 3) (by decide) kfX1_36 rfl rfl dX1_become_29 hw8 ?_
  refine ev_iconst (pc := 32) (v := (0 : Int32)) X dX1_become_32 rfl ?_
  refine ev_istore_n (pc := 33) (L' := [(2, .int (0 : Int32)), (0, .ref x0), (1, .ref x1)]) X dX1_become_33 rfl (by decide) rfl ?_
  exact ev_weak (pc := 34) [1, 2, 0] rfl (sX1_become_34 eN _ _ _ _ _ h p e s m args below meth c r0 A X)
def fX1_become (a0 : Nat) (a1 : Nat) (w : eW) : Option (eW) := bif eO w a0 1 then fX1_become_0 a0 a1 w else none
theorem mX1_become {a0 : Nat} {a1 : Nat} {w : eW} {w' : eW} (h : fX1_become a0 a1 w = some w') : eO w a0 1 = true ∧ eMN l D cI cZ 1 yX1_become cX1_become 3 none [.ref a0, .ref a1] w none w' := by
  obtain ⟨h0, h⟩ := eBif h
  exact ⟨h0, eMN_of [(0, .ref a0), (1, .ref a1)] (plainFor_of_name (by decide)) (fun _ => rfl) (fun _ => Nat.le_of_ble_eq_true rfl) (fun p e s m args below meth c r0 A X => ev_weak (pc := 0) [0, 1] rfl (sX1_become_0 _ _ _ _ h p e s m args below meth c r0 A X))⟩
theorem dX1_setSize_0 : decode cX1_setSize 0 = .ok (.aload_n 0, 1) := by decide +kernel
theorem dX1_setSize_1 : decode cX1_setSize 1 = .ok (.iload_n 1, 1) := by decide +kernel
theorem dX1_setSize_2 : decode cX1_setSize 2 = .ok (.putfield 26, 3) := by decide +kernel
theorem dX1_setSize_5 : decode cX1_setSize 5 = .ok (.aload_n 0, 1) := by decide +kernel
theorem dX1_setSize_6 : decode cX1_setSize 6 = .ok (.iload_n 2, 1) := by decide +kernel
theorem dX1_setSize_7 : decode cX1_setSize 7 = .ok (.putfield 30, 3) := by decide +kernel
theorem dX1_setSize_10 : decode cX1_setSize 10 = .ok (.return_, 1) := by decide +kernel
def fX1_setSize_0 (x0 : Nat) (x1 : Int32) (x2 : Int32) (w : eW) : Option (eW) := (eP w x0 1 0 (.int x1)).bind fun w1 => (eP w1 x0 1 1 (.int x2)).bind fun w2 => some w2
set_option maxRecDepth 20000 in
theorem sX1_setSize_0  (x0 : Nat) (x1 : Int32) (x2 : Int32) (w : eW) (r : eW) (h : fX1_setSize_0 x0 x1 x2 w = some r) : eBN l D cI cZ 0 yX1_setSize cX1_setSize 3 none 0 [(0, .ref x0), (1, .int x1), (2, .int x2)] [] w none r := by
  rw [fX1_setSize_0] at h
  intro p e s m args below meth c r0 A X
  refine ev_aload_n (pc := 0) X 0 dX1_setSize_0 rfl rfl ?_
  refine ev_iload_n (pc := 1) X 1 dX1_setSize_1 rfl rfl ?_
  obtain ⟨w1, hw1, h⟩ := eBi h
  refine ev_putI (pc := 2) X hcX1 (k := 0) (by decide) kfX1_26 rfl rfl dX1_setSize_2 hw1 ?_
  refine ev_aload_n (pc := 5) X 0 dX1_setSize_5 rfl rfl ?_
  refine ev_iload_n (pc := 6) X 2 dX1_setSize_6 rfl rfl ?_
  obtain ⟨w2, hw2, h⟩ := eBi h
  refine ev_putI (pc := 7) X hcX1 (k := 1) (by decide) kfX1_30 rfl rfl dX1_setSize_7 hw2 ?_
  cases h
  exact ev_vret (pc := 10) X dX1_setSize_10
def fX1_setSize (a0 : Nat) (a1 : Int32) (a2 : Int32) (w : eW) : Option (eW) := bif eO w a0 1 then fX1_setSize_0 a0 a1 a2 w else none
theorem mX1_setSize {a0 : Nat} {a1 : Int32} {a2 : Int32} {w : eW} {w' : eW} (h : fX1_setSize a0 a1 a2 w = some w') : eO w a0 1 = true ∧ eMN l D cI cZ 0 yX1_setSize cX1_setSize 3 none [.ref a0, .int a1, .int a2] w none w' := by
  obtain ⟨h0, h⟩ := eBif h
  exact ⟨h0, eMN_of [(0, .ref a0), (1, .int a1), (2, .int a2)] (plainFor_of_name (by decide)) (fun _ => rfl) (fun _ => Nat.le_of_ble_eq_true rfl) (fun p e s m args below meth c r0 A X => ev_weak (pc := 0) [0, 1, 2] rfl (sX1_setSize_0 _ _ _ _ _ h p e s m args below meth c r0 A X))⟩
theorem dX1_setHeight_0 : decode cX1_setHeight 0 = .ok (.aload_n 0, 1) := by decide +kernel
theorem dX1_setHeight_1 : decode cX1_setHeight 1 = .ok (.getfield 14, 3) := by decide +kernel
theorem dX1_setHeight_4 : decode cX1_setHeight 4 = .ok (.iload_n 1, 1) := by decide +kernel
theorem dX1_setHeight_5 : decode cX1_setHeight 5 = .ok (.iload_n 2, 1) := by decide +kernel
theorem dX1_setHeight_6 : decode cX1_setHeight 6 = .ok (.invokevirtual 46, 3) := by decide +kernel
theorem dX1_setHeight_9 : decode cX1_setHeight 9 = .ok (.return_, 1) := by decide +kernel
def fX1_setHeight_0 (x0 : Nat) (x1 : Int32) (x2 : Int32) (w : eW) : Option (eW) := (eGR w x0 1 4).bind fun v1 => (fX7_put v1 x1 x2 w).bind fun w2 => some w2
set_option maxRecDepth 20000 in
theorem sX1_setHeight_0  (x0 : Nat) (x1 : Int32) (x2 : Int32) (w : eW) (r : eW) (h : fX1_setHeight_0 x0 x1 x2 w = some r) : eBN l D cI cZ 1 yX1_setHeight cX1_setHeight 3 none 0 [(0, .ref x0), (1, .int x1), (2, .int x2)] [] w none r := by
  rw [fX1_setHeight_0] at h
  intro p e s m args below meth c r0 A X
  refine ev_aload_n (pc := 0) X 0 dX1_setHeight_0 rfl rfl ?_
  obtain ⟨v1, hv1, h⟩ := eBi h
  refine ev_getR (pc := 1) X hcX1 (k := 4) (by decide) kfX1_14 dX1_setHeight_1 hv1 ?_
  refine ev_iload_n (pc := 4) X 1 dX1_setHeight_4 rfl rfl ?_
  refine ev_iload_n (pc := 5) X 2 dX1_setHeight_5 rfl rfl ?_
  obtain ⟨w2, hc, h⟩ := eBi h
  refine ev_callV_v (pc := 6) (As := [.int x1, .int x2]) (S := []) X hwX7_put klX1_46 hiX7_put hsX7_put (ci := 7) ⟨rfl, rfl⟩ ⟨Nat.le_of_ble_eq_true rfl, Nat.le_of_ble_eq_true rfl⟩ ⟨Nat.le_refl _, Nat.le_refl _⟩ rfl (Nat.le_of_ble_eq_true rfl) dX1_setHeight_6 rfl (mX7_put (l := l) (D := D) (cI := cI) (cZ := cZ) hc).1 (mX7_put hc).2 ?_
  cases h
  exact ev_vret (pc := 9) X dX1_setHeight_9
def fX1_setHeight (a0 : Nat) (a1 : Int32) (a2 : Int32) (w : eW) : Option (eW) := bif eO w a0 1 then fX1_setHeight_0 a0 a1 a2 w else none
theorem mX1_setHeight {a0 : Nat} {a1 : Int32} {a2 : Int32} {w : eW} {w' : eW} (h : fX1_setHeight a0 a1 a2 w = some w') : eO w a0 1 = true ∧ eMN l D cI cZ 1 yX1_setHeight cX1_setHeight 3 none [.ref a0, .int a1, .int a2] w none w' := by
  obtain ⟨h0, h⟩ := eBif h
  exact ⟨h0, eMN_of [(0, .ref a0), (1, .int a1), (2, .int a2)] (plainFor_of_name (by decide)) (fun _ => rfl) (fun _ => Nat.le_of_ble_eq_true rfl) (fun p e s m args below meth c r0 A X => ev_weak (pc := 0) [0, 1, 2] rfl (sX1_setHeight_0 _ _ _ _ _ h p e s m args below meth c r0 A X))⟩
theorem dX1_setSlope_0 : decode cX1_setSlope 0 = .ok (.aload_n 0, 1) := by decide +kernel
theorem dX1_setSlope_1 : decode cX1_setSlope 1 = .ok (.iload_n 1, 1) := by decide +kernel
theorem dX1_setSlope_2 : decode cX1_setSlope 2 = .ok (.putfield 33, 3) := by decide +kernel
theorem dX1_setSlope_5 : decode cX1_setSlope 5 = .ok (.return_, 1) := by decide +kernel
def fX1_setSlope_0 (x0 : Nat) (x1 : Int32) (w : eW) : Option (eW) := (eP w x0 1 2 (.int x1)).bind fun w1 => some w1
set_option maxRecDepth 20000 in
theorem sX1_setSlope_0  (x0 : Nat) (x1 : Int32) (w : eW) (r : eW) (h : fX1_setSlope_0 x0 x1 w = some r) : eBN l D cI cZ 0 yX1_setSlope cX1_setSlope 2 none 0 [(0, .ref x0), (1, .int x1)] [] w none r := by
  rw [fX1_setSlope_0] at h
  intro p e s m args below meth c r0 A X
  refine ev_aload_n (pc := 0) X 0 dX1_setSlope_0 rfl rfl ?_
  refine ev_iload_n (pc := 1) X 1 dX1_setSlope_1 rfl rfl ?_
  obtain ⟨w1, hw1, h⟩ := eBi h
  refine ev_putI (pc := 2) X hcX1 (k := 2) (by decide) kfX1_33 rfl rfl dX1_setSlope_2 hw1 ?_
  cases h
  exact ev_vret (pc := 5) X dX1_setSlope_5
def fX1_setSlope (a0 : Nat) (a1 : Int32) (w : eW) : Option (eW) := bif eO w a0 1 then fX1_setSlope_0 a0 a1 w else none
theorem mX1_setSlope {a0 : Nat} {a1 : Int32} {w : eW} {w' : eW} (h : fX1_setSlope a0 a1 w = some w') : eO w a0 1 = true ∧ eMN l D cI cZ 0 yX1_setSlope cX1_setSlope 2 none [.ref a0, .int a1] w none w' := by
  obtain ⟨h0, h⟩ := eBif h
  exact ⟨h0, eMN_of [(0, .ref a0), (1, .int a1)] (plainFor_of_name (by decide)) (fun _ => rfl) (fun _ => Nat.le_of_ble_eq_true rfl) (fun p e s m args below meth c r0 A X => ev_weak (pc := 0) [0, 1] rfl (sX1_setSlope_0 _ _ _ _ h p e s m args below meth c r0 A X))⟩
theorem dX1_addTown_0 : decode cX1_addTown 0 = .ok (.aload_n 0, 1) := by decide +kernel
theorem dX1_addTown_1 : decode cX1_addTown 1 = .ok (.getfield 20, 3) := by decide +kernel
theorem dX1_addTown_4 : decode cX1_addTown 4 = .ok (.aload_n 0, 1) := by decide +kernel
theorem dX1_addTown_5 : decode cX1_addTown 5 = .ok (.getfield 36, 3) := by decide +kernel
theorem dX1_addTown_8 : decode cX1_addTown 8 = .ok (.iload_n 1, 1) := by decide +kernel
theorem dX1_addTown_9 : decode cX1_addTown 9 = .ok (.invokevirtual 46, 3) := by decide +kernel
theorem dX1_addTown_12 : decode cX1_addTown 12 = .ok (.aload_n 0, 1) := by decide +kernel
theorem dX1_addTown_13 : decode cX1_addTown 13 = .ok (.dup, 1) := by decide +kernel
theorem dX1_addTown_14 : decode cX1_addTown 14 = .ok (.getfield 36, 3) := by decide +kernel
theorem dX1_addTown_17 : decode cX1_addTown 17 = .ok (.iconst 1, 1) := by decide +kernel
theorem dX1_addTown_18 : decode cX1_addTown 18 = .ok (.iadd, 1) := by decide +kernel
theorem dX1_addTown_19 : decode cX1_addTown 19 = .ok (.putfield 36, 3) := by decide +kernel
theorem dX1_addTown_22 : decode cX1_addTown 22 = .ok (.return_, 1) := by decide +kernel
def fX1_addTown_0 (x0 : Nat) (x1 : Int32) (w : eW) : Option (eW) := (eGR w x0 1 5).bind fun v1 => (eGI w x0 1 3).bind fun v2 => (fX7_put v1 v2 x1 w).bind fun w3 => (eGI w3 x0 1 3).bind fun v4 => (eP w3 x0 1 3 (.int (v4 + (1 : Int32)))).bind fun w5 => some w5
set_option maxRecDepth 20000 in
theorem sX1_addTown_0  (x0 : Nat) (x1 : Int32) (w : eW) (r : eW) (h : fX1_addTown_0 x0 x1 w = some r) : eBN l D cI cZ 1 yX1_addTown cX1_addTown 2 none 0 [(0, .ref x0), (1, .int x1)] [] w none r := by
  rw [fX1_addTown_0] at h
  intro p e s m args below meth c r0 A X
  refine ev_aload_n (pc := 0) X 0 dX1_addTown_0 rfl rfl ?_
  obtain ⟨v1, hv1, h⟩ := eBi h
  refine ev_getR (pc := 1) X hcX1 (k := 5) (by decide) kfX1_20 dX1_addTown_1 hv1 ?_
  refine ev_aload_n (pc := 4) X 0 dX1_addTown_4 rfl rfl ?_
  obtain ⟨v2, hv2, h⟩ := eBi h
  refine ev_getI (pc := 5) X hcX1 (k := 3) (by decide) kfX1_36 dX1_addTown_5 hv2 ?_
  refine ev_iload_n (pc := 8) X 1 dX1_addTown_8 rfl rfl ?_
  obtain ⟨w3, hc, h⟩ := eBi h
  refine ev_callV_v (pc := 9) (As := [.int v2, .int x1]) (S := []) X hwX7_put klX1_46 hiX7_put hsX7_put (ci := 7) ⟨rfl, rfl⟩ ⟨Nat.le_of_ble_eq_true rfl, Nat.le_of_ble_eq_true rfl⟩ ⟨Nat.le_refl _, Nat.le_refl _⟩ rfl (Nat.le_of_ble_eq_true rfl) dX1_addTown_9 rfl (mX7_put (l := l) (D := D) (cI := cI) (cZ := cZ) hc).1 (mX7_put hc).2 ?_
  refine ev_aload_n (pc := 12) X 0 dX1_addTown_12 rfl rfl ?_
  refine ev_dup (pc := 13) X dX1_addTown_13 rfl ?_
  obtain ⟨v4, hv4, h⟩ := eBi h
  refine ev_getI (pc := 14) X hcX1 (k := 3) (by decide) kfX1_36 dX1_addTown_14 hv4 ?_
  refine ev_iconst (pc := 17) (v := (1 : Int32)) X dX1_addTown_17 rfl ?_
  refine ev_iadd (pc := 18) X dX1_addTown_18 ?_
  obtain ⟨w5, hw5, h⟩ := eBi h
  refine ev_putI (pc := 19) X hcX1 (k := 3) (by decide) kfX1_36 rfl rfl dX1_addTown_19 hw5 ?_
  cases h
  exact ev_vret (pc := 22) X dX1_addTown_22
def fX1_addTown (a0 : Nat) (a1 : Int32) (w : eW) : Option (eW) := bif eO w a0 1 then fX1_addTown_0 a0 a1 w else none
theorem mX1_addTown {a0 : Nat} {a1 : Int32} {w : eW} {w' : eW} (h : fX1_addTown a0 a1 w = some w') : eO w a0 1 = true ∧ eMN l D cI cZ 1 yX1_addTown cX1_addTown 2 none [.ref a0, .int a1] w none w' := by
  obtain ⟨h0, h⟩ := eBif h
  exact ⟨h0, eMN_of [(0, .ref a0), (1, .int a1)] (plainFor_of_name (by decide)) (fun _ => rfl) (fun _ => Nat.le_of_ble_eq_true rfl) (fun p e s m args below meth c r0 A X => ev_weak (pc := 0) [0, 1] rfl (sX1_addTown_0 _ _ _ _ h p e s m args below meth c r0 A X))⟩
theorem dX1_wide_0 : decode cX1_wide 0 = .ok (.aload_n 0, 1) := by decide +kernel
theorem dX1_wide_1 : decode cX1_wide 1 = .ok (.getfield 26, 3) := by decide +kernel
theorem dX1_wide_4 : decode cX1_wide 4 = .ok (.ireturn, 1) := by decide +kernel
def fX1_wide_0 (x0 : Nat) (w : eW) : Option (Int32 × eW) := (eGI w x0 1 0).bind fun v1 => some (v1, w)
set_option maxRecDepth 20000 in
theorem sX1_wide_0  (x0 : Nat) (w : eW) (r : Int32 × eW) (h : fX1_wide_0 x0 w = some r) : eBN l D cI cZ 0 yX1_wide cX1_wide 1 (some .int) 0 [(0, .ref x0)] [] w (some (.int r.1)) r.2 := by
  rw [fX1_wide_0] at h
  intro p e s m args below meth c r0 A X
  refine ev_aload_n (pc := 0) X 0 dX1_wide_0 rfl rfl ?_
  obtain ⟨v1, hv1, h⟩ := eBi h
  refine ev_getI (pc := 1) X hcX1 (k := 0) (by decide) kfX1_26 dX1_wide_1 hv1 ?_
  cases h
  exact ev_iret (pc := 4) X dX1_wide_4
def fX1_wide (a0 : Nat) (w : eW) : Option (Int32 × eW) := bif eO w a0 1 then fX1_wide_0 a0 w else none
theorem mX1_wide {a0 : Nat} {w : eW} {v : Int32} {w' : eW} (h : fX1_wide a0 w = some (v, w')) : eO w a0 1 = true ∧ eMN l D cI cZ 0 yX1_wide cX1_wide 1 (some .int) [.ref a0] w (some (.int v)) w' := by
  obtain ⟨h0, h⟩ := eBif h
  exact ⟨h0, eMN_of [(0, .ref a0)] (plainFor_of_name (by decide)) (fun _ => rfl) (fun _ => Nat.le_of_ble_eq_true rfl) (fun p e s m args below meth c r0 A X => ev_weak (pc := 0) [0] rfl (sX1_wide_0 _ _ _ h p e s m args below meth c r0 A X))⟩
theorem dX1_deep_0 : decode cX1_deep 0 = .ok (.aload_n 0, 1) := by decide +kernel
theorem dX1_deep_1 : decode cX1_deep 1 = .ok (.getfield 30, 3) := by decide +kernel
theorem dX1_deep_4 : decode cX1_deep 4 = .ok (.ireturn, 1) := by decide +kernel
def fX1_deep_0 (x0 : Nat) (w : eW) : Option (Int32 × eW) := (eGI w x0 1 1).bind fun v1 => some (v1, w)
set_option maxRecDepth 20000 in
theorem sX1_deep_0  (x0 : Nat) (w : eW) (r : Int32 × eW) (h : fX1_deep_0 x0 w = some r) : eBN l D cI cZ 0 yX1_deep cX1_deep 1 (some .int) 0 [(0, .ref x0)] [] w (some (.int r.1)) r.2 := by
  rw [fX1_deep_0] at h
  intro p e s m args below meth c r0 A X
  refine ev_aload_n (pc := 0) X 0 dX1_deep_0 rfl rfl ?_
  obtain ⟨v1, hv1, h⟩ := eBi h
  refine ev_getI (pc := 1) X hcX1 (k := 1) (by decide) kfX1_30 dX1_deep_1 hv1 ?_
  cases h
  exact ev_iret (pc := 4) X dX1_deep_4
def fX1_deep (a0 : Nat) (w : eW) : Option (Int32 × eW) := bif eO w a0 1 then fX1_deep_0 a0 w else none
theorem mX1_deep {a0 : Nat} {w : eW} {v : Int32} {w' : eW} (h : fX1_deep a0 w = some (v, w')) : eO w a0 1 = true ∧ eMN l D cI cZ 0 yX1_deep cX1_deep 1 (some .int) [.ref a0] w (some (.int v)) w' := by
  obtain ⟨h0, h⟩ := eBif h
  exact ⟨h0, eMN_of [(0, .ref a0)] (plainFor_of_name (by decide)) (fun _ => rfl) (fun _ => Nat.le_of_ble_eq_true rfl) (fun p e s m args below meth c r0 A X => ev_weak (pc := 0) [0] rfl (sX1_deep_0 _ _ _ h p e s m args below meth c r0 A X))⟩
theorem dX1_slope_0 : decode cX1_slope 0 = .ok (.aload_n 0, 1) := by decide +kernel
theorem dX1_slope_1 : decode cX1_slope 1 = .ok (.getfield 33, 3) := by decide +kernel
theorem dX1_slope_4 : decode cX1_slope 4 = .ok (.ireturn, 1) := by decide +kernel
def fX1_slope_0 (x0 : Nat) (w : eW) : Option (Int32 × eW) := (eGI w x0 1 2).bind fun v1 => some (v1, w)
set_option maxRecDepth 20000 in
theorem sX1_slope_0  (x0 : Nat) (w : eW) (r : Int32 × eW) (h : fX1_slope_0 x0 w = some r) : eBN l D cI cZ 0 yX1_slope cX1_slope 1 (some .int) 0 [(0, .ref x0)] [] w (some (.int r.1)) r.2 := by
  rw [fX1_slope_0] at h
  intro p e s m args below meth c r0 A X
  refine ev_aload_n (pc := 0) X 0 dX1_slope_0 rfl rfl ?_
  obtain ⟨v1, hv1, h⟩ := eBi h
  refine ev_getI (pc := 1) X hcX1 (k := 2) (by decide) kfX1_33 dX1_slope_1 hv1 ?_
  cases h
  exact ev_iret (pc := 4) X dX1_slope_4
def fX1_slope (a0 : Nat) (w : eW) : Option (Int32 × eW) := bif eO w a0 1 then fX1_slope_0 a0 w else none
theorem mX1_slope {a0 : Nat} {w : eW} {v : Int32} {w' : eW} (h : fX1_slope a0 w = some (v, w')) : eO w a0 1 = true ∧ eMN l D cI cZ 0 yX1_slope cX1_slope 1 (some .int) [.ref a0] w (some (.int v)) w' := by
  obtain ⟨h0, h⟩ := eBif h
  exact ⟨h0, eMN_of [(0, .ref a0)] (plainFor_of_name (by decide)) (fun _ => rfl) (fun _ => Nat.le_of_ble_eq_true rfl) (fun p e s m args below meth c r0 A X => ev_weak (pc := 0) [0] rfl (sX1_slope_0 _ _ _ h p e s m args below meth c r0 A X))⟩
theorem dX1_towns_0 : decode cX1_towns 0 = .ok (.aload_n 0, 1) := by decide +kernel
theorem dX1_towns_1 : decode cX1_towns 1 = .ok (.getfield 36, 3) := by decide +kernel
theorem dX1_towns_4 : decode cX1_towns 4 = .ok (.ireturn, 1) := by decide +kernel
def fX1_towns_0 (x0 : Nat) (w : eW) : Option (Int32 × eW) := (eGI w x0 1 3).bind fun v1 => some (v1, w)
set_option maxRecDepth 20000 in
theorem sX1_towns_0  (x0 : Nat) (w : eW) (r : Int32 × eW) (h : fX1_towns_0 x0 w = some r) : eBN l D cI cZ 0 yX1_towns cX1_towns 1 (some .int) 0 [(0, .ref x0)] [] w (some (.int r.1)) r.2 := by
  rw [fX1_towns_0] at h
  intro p e s m args below meth c r0 A X
  refine ev_aload_n (pc := 0) X 0 dX1_towns_0 rfl rfl ?_
  obtain ⟨v1, hv1, h⟩ := eBi h
  refine ev_getI (pc := 1) X hcX1 (k := 3) (by decide) kfX1_36 dX1_towns_1 hv1 ?_
  cases h
  exact ev_iret (pc := 4) X dX1_towns_4
def fX1_towns (a0 : Nat) (w : eW) : Option (Int32 × eW) := bif eO w a0 1 then fX1_towns_0 a0 w else none
theorem mX1_towns {a0 : Nat} {w : eW} {v : Int32} {w' : eW} (h : fX1_towns a0 w = some (v, w')) : eO w a0 1 = true ∧ eMN l D cI cZ 0 yX1_towns cX1_towns 1 (some .int) [.ref a0] w (some (.int v)) w' := by
  obtain ⟨h0, h⟩ := eBif h
  exact ⟨h0, eMN_of [(0, .ref a0)] (plainFor_of_name (by decide)) (fun _ => rfl) (fun _ => Nat.le_of_ble_eq_true rfl) (fun p e s m args below meth c r0 A X => ev_weak (pc := 0) [0] rfl (sX1_towns_0 _ _ _ h p e s m args below meth c r0 A X))⟩
theorem dX1_hasCell_0 : decode cX1_hasCell 0 = .ok (.iload_n 1, 1) := by decide +kernel
theorem dX1_hasCell_1 : decode cX1_hasCell 1 = .ok (.ifCond .lt 15, 3) := by decide +kernel
theorem dX1_hasCell_4 : decode cX1_hasCell 4 = .ok (.iload_n 1, 1) := by decide +kernel
theorem dX1_hasCell_5 : decode cX1_hasCell 5 = .ok (.aload_n 0, 1) := by decide +kernel
theorem dX1_hasCell_6 : decode cX1_hasCell 6 = .ok (.invokevirtual 50, 3) := by decide +kernel
theorem dX1_hasCell_9 : decode cX1_hasCell 9 = .ok (.if_icmp .ge 7, 3) := by decide +kernel
theorem dX1_hasCell_12 : decode cX1_hasCell 12 = .ok (.iconst 1, 1) := by decide +kernel
theorem dX1_hasCell_13 : decode cX1_hasCell 13 = .ok (.goto 4, 3) := by decide +kernel
theorem dX1_hasCell_16 : decode cX1_hasCell 16 = .ok (.iconst 0, 1) := by decide +kernel
theorem dX1_hasCell_17 : decode cX1_hasCell 17 = .ok (.ireturn, 1) := by decide +kernel
def fX1_hasCell_16  (w : eW) : Option (Int32 × eW) := (eZ (0 : Int32)).bind fun v1 => some (v1, w)
set_option maxRecDepth 20000 in
theorem sX1_hasCell_16   (w : eW) (r : Int32 × eW) (h : fX1_hasCell_16  w = some r) : eBN l D cI cZ 1 yX1_hasCell cX1_hasCell 2 (some .boolean) 16 [] [] w (some (.int r.1)) r.2 := by
  rw [fX1_hasCell_16] at h
  intro p e s m args below meth c r0 A X
  refine ev_iconst (pc := 16) (v := (0 : Int32)) X dX1_hasCell_16 rfl ?_
  obtain ⟨v1, hv1, h⟩ := eBi h
  cases h
  exact ev_zret (pc := 17) X dX1_hasCell_17 hv1
def fX1_hasCell_0 (x0 : Nat) (x1 : Int32) (w : eW) : Option (Int32 × eW) := if x1 < 0 then (fX1_hasCell_16 w) else (eBind2 (fX1_cells x0 w) fun v2 w1 => if v2 ≤ x1 then (fX1_hasCell_16 w1) else ((eZ (1 : Int32)).bind fun v3 => some (v3, w1)))
set_option maxRecDepth 20000 in
theorem sX1_hasCell_0  (x0 : Nat) (x1 : Int32) (w : eW) (r : Int32 × eW) (h : fX1_hasCell_0 x0 x1 w = some r) : eBN l D cI cZ 1 yX1_hasCell cX1_hasCell 2 (some .boolean) 0 [(0, .ref x0), (1, .int x1)] [] w (some (.int r.1)) r.2 := by
  rw [fX1_hasCell_0] at h
  intro p e s m args below meth c r0 A X
  refine ev_iload_n (pc := 0) X 1 dX1_hasCell_0 rfl rfl ?_
  refine ev_if_lt (pc := 1) X 16 dX1_hasCell_1 rfl (fun hc => ?_) (fun hc => ?_)
  · rw [if_pos hc] at h
    exact ev_weak (pc := 16) [] rfl (sX1_hasCell_16  _ _ h p e s m args below meth c r0 A X)
  · rw [if_neg hc] at h
    refine ev_iload_n (pc := 4) X 1 dX1_hasCell_4 rfl rfl ?_
    refine ev_aload_n (pc := 5) X 0 dX1_hasCell_5 rfl rfl ?_
    obtain ⟨v2, w1, hc, h⟩ := eB2 h
    refine ev_callV_i (pc := 6) (As := []) (S := [.int x1]) X hwX1_cells klX1_50 hiX1_cells hsX1_cells (ci := 1) ⟨rfl, rfl⟩ ⟨Nat.le_of_ble_eq_true rfl, Nat.le_of_ble_eq_true rfl⟩ ⟨Nat.le_refl _, Nat.le_refl _⟩ rfl (Nat.le_of_ble_eq_true rfl) dX1_hasCell_6 rfl (mX1_cells (l := l) (D := D) (cI := cI) (cZ := cZ) hc).1 (mX1_cells hc).2 ?_
    refine ev_icmp_ge (pc := 9) X 16 dX1_hasCell_9 rfl (fun hc => ?_) (fun hc => ?_)
    · rw [if_pos hc] at h
      exact ev_weak (pc := 16) [] rfl (sX1_hasCell_16  _ _ h p e s m args below meth c r0 A X)
    · rw [if_neg hc] at h
      refine ev_iconst (pc := 12) (v := (1 : Int32)) X dX1_hasCell_12 rfl ?_
      refine ev_goto (pc := 13) X 17 dX1_hasCell_13 rfl ?_
      obtain ⟨v3, hv3, h⟩ := eBi h
      cases h
      exact ev_zret (pc := 17) X dX1_hasCell_17 hv3
def fX1_hasCell (a0 : Nat) (a1 : Int32) (w : eW) : Option (Int32 × eW) := bif eO w a0 1 then fX1_hasCell_0 a0 a1 w else none
theorem mX1_hasCell {a0 : Nat} {a1 : Int32} {w : eW} {v : Int32} {w' : eW} (h : fX1_hasCell a0 a1 w = some (v, w')) : eO w a0 1 = true ∧ eMN l D cI cZ 1 yX1_hasCell cX1_hasCell 2 (some .boolean) [.ref a0, .int a1] w (some (.int v)) w' := by
  obtain ⟨h0, h⟩ := eBif h
  exact ⟨h0, eMN_of [(0, .ref a0), (1, .int a1)] (plainFor_of_name (by decide)) (fun _ => rfl) (fun _ => Nat.le_of_ble_eq_true rfl) (fun p e s m args below meth c r0 A X => ev_weak (pc := 0) [0, 1] rfl (sX1_hasCell_0 _ _ _ _ h p e s m args below meth c r0 A X))⟩
theorem dX1_heightAt_0 : decode cX1_heightAt 0 = .ok (.aload_n 0, 1) := by decide +kernel
theorem dX1_heightAt_1 : decode cX1_heightAt 1 = .ok (.getfield 14, 3) := by decide +kernel
theorem dX1_heightAt_4 : decode cX1_heightAt 4 = .ok (.iload_n 1, 1) := by decide +kernel
theorem dX1_heightAt_5 : decode cX1_heightAt 5 = .ok (.invokevirtual 42, 3) := by decide +kernel
theorem dX1_heightAt_8 : decode cX1_heightAt 8 = .ok (.ireturn, 1) := by decide +kernel
def fX1_heightAt_0 (x0 : Nat) (x1 : Int32) (w : eW) : Option (Int32 × eW) := (eGR w x0 1 4).bind fun v1 => eBind2 (fX7_get v1 x1 w) fun v3 w2 => some (v3, w2)
set_option maxRecDepth 20000 in
theorem sX1_heightAt_0  (x0 : Nat) (x1 : Int32) (w : eW) (r : Int32 × eW) (h : fX1_heightAt_0 x0 x1 w = some r) : eBN l D cI cZ 1 yX1_heightAt cX1_heightAt 2 (some .int) 0 [(0, .ref x0), (1, .int x1)] [] w (some (.int r.1)) r.2 := by
  rw [fX1_heightAt_0] at h
  intro p e s m args below meth c r0 A X
  refine ev_aload_n (pc := 0) X 0 dX1_heightAt_0 rfl rfl ?_
  obtain ⟨v1, hv1, h⟩ := eBi h
  refine ev_getR (pc := 1) X hcX1 (k := 4) (by decide) kfX1_14 dX1_heightAt_1 hv1 ?_
  refine ev_iload_n (pc := 4) X 1 dX1_heightAt_4 rfl rfl ?_
  obtain ⟨v3, w2, hc, h⟩ := eB2 h
  refine ev_callV_i (pc := 5) (As := [.int x1]) (S := []) X hwX7_get klX1_42 hiX7_get hsX7_get (ci := 7) ⟨rfl, rfl⟩ ⟨Nat.le_of_ble_eq_true rfl, Nat.le_of_ble_eq_true rfl⟩ ⟨Nat.le_refl _, Nat.le_refl _⟩ rfl (Nat.le_of_ble_eq_true rfl) dX1_heightAt_5 rfl (mX7_get (l := l) (D := D) (cI := cI) (cZ := cZ) hc).1 (mX7_get hc).2 ?_
  cases h
  exact ev_iret (pc := 8) X dX1_heightAt_8
def fX1_heightAt (a0 : Nat) (a1 : Int32) (w : eW) : Option (Int32 × eW) := bif eO w a0 1 then fX1_heightAt_0 a0 a1 w else none
theorem mX1_heightAt {a0 : Nat} {a1 : Int32} {w : eW} {v : Int32} {w' : eW} (h : fX1_heightAt a0 a1 w = some (v, w')) : eO w a0 1 = true ∧ eMN l D cI cZ 1 yX1_heightAt cX1_heightAt 2 (some .int) [.ref a0, .int a1] w (some (.int v)) w' := by
  obtain ⟨h0, h⟩ := eBif h
  exact ⟨h0, eMN_of [(0, .ref a0), (1, .int a1)] (plainFor_of_name (by decide)) (fun _ => rfl) (fun _ => Nat.le_of_ble_eq_true rfl) (fun p e s m args below meth c r0 A X => ev_weak (pc := 0) [0, 1] rfl (sX1_heightAt_0 _ _ _ _ h p e s m args below meth c r0 A X))⟩
theorem dX1_townCell_0 : decode cX1_townCell 0 = .ok (.aload_n 0, 1) := by decide +kernel
theorem dX1_townCell_1 : decode cX1_townCell 1 = .ok (.getfield 20, 3) := by decide +kernel
theorem dX1_townCell_4 : decode cX1_townCell 4 = .ok (.iload_n 1, 1) := by decide +kernel
theorem dX1_townCell_5 : decode cX1_townCell 5 = .ok (.invokevirtual 42, 3) := by decide +kernel
theorem dX1_townCell_8 : decode cX1_townCell 8 = .ok (.ireturn, 1) := by decide +kernel
def fX1_townCell_0 (x0 : Nat) (x1 : Int32) (w : eW) : Option (Int32 × eW) := (eGR w x0 1 5).bind fun v1 => eBind2 (fX7_get v1 x1 w) fun v3 w2 => some (v3, w2)
set_option maxRecDepth 20000 in
theorem sX1_townCell_0  (x0 : Nat) (x1 : Int32) (w : eW) (r : Int32 × eW) (h : fX1_townCell_0 x0 x1 w = some r) : eBN l D cI cZ 1 yX1_townCell cX1_townCell 2 (some .int) 0 [(0, .ref x0), (1, .int x1)] [] w (some (.int r.1)) r.2 := by
  rw [fX1_townCell_0] at h
  intro p e s m args below meth c r0 A X
  refine ev_aload_n (pc := 0) X 0 dX1_townCell_0 rfl rfl ?_
  obtain ⟨v1, hv1, h⟩ := eBi h
  refine ev_getR (pc := 1) X hcX1 (k := 5) (by decide) kfX1_20 dX1_townCell_1 hv1 ?_
  refine ev_iload_n (pc := 4) X 1 dX1_townCell_4 rfl rfl ?_
  obtain ⟨v3, w2, hc, h⟩ := eB2 h
  refine ev_callV_i (pc := 5) (As := [.int x1]) (S := []) X hwX7_get klX1_42 hiX7_get hsX7_get (ci := 7) ⟨rfl, rfl⟩ ⟨Nat.le_of_ble_eq_true rfl, Nat.le_of_ble_eq_true rfl⟩ ⟨Nat.le_refl _, Nat.le_refl _⟩ rfl (Nat.le_of_ble_eq_true rfl) dX1_townCell_5 rfl (mX7_get (l := l) (D := D) (cI := cI) (cZ := cZ) hc).1 (mX7_get hc).2 ?_
  cases h
  exact ev_iret (pc := 8) X dX1_townCell_8
def fX1_townCell (a0 : Nat) (a1 : Int32) (w : eW) : Option (Int32 × eW) := bif eO w a0 1 then fX1_townCell_0 a0 a1 w else none
theorem mX1_townCell {a0 : Nat} {a1 : Int32} {w : eW} {v : Int32} {w' : eW} (h : fX1_townCell a0 a1 w = some (v, w')) : eO w a0 1 = true ∧ eMN l D cI cZ 1 yX1_townCell cX1_townCell 2 (some .int) [.ref a0, .int a1] w (some (.int v)) w' := by
  obtain ⟨h0, h⟩ := eBif h
  exact ⟨h0, eMN_of [(0, .ref a0), (1, .int a1)] (plainFor_of_name (by decide)) (fun _ => rfl) (fun _ => Nat.le_of_ble_eq_true rfl) (fun p e s m args below meth c r0 A X => ev_weak (pc := 0) [0, 1] rfl (sX1_townCell_0 _ _ _ _ h p e s m args below meth c r0 A X))⟩
theorem dJ9_min_7cf53_0 : decode cJ9_min_7cf53 0 = .ok (.iload_n 0, 1) := by decide +kernel
theorem dJ9_min_7cf53_1 : decode cJ9_min_7cf53 1 = .ok (.iload_n 1, 1) := by decide +kernel
theorem dJ9_min_7cf53_2 : decode cJ9_min_7cf53 2 = .ok (.if_icmp .gt 7, 3) := by decide +kernel
theorem dJ9_min_7cf53_5 : decode cJ9_min_7cf53 5 = .ok (.iload_n 0, 1) := by decide +kernel
theorem dJ9_min_7cf53_6 : decode cJ9_min_7cf53 6 = .ok (.goto 4, 3) := by decide +kernel
theorem dJ9_min_7cf53_9 : decode cJ9_min_7cf53 9 = .ok (.iload_n 1, 1) := by decide +kernel
theorem dJ9_min_7cf53_10 : decode cJ9_min_7cf53 10 = .ok (.ireturn, 1) := by decide +kernel
def fJ9_min_7cf53_0 (x0 : Int32) (x1 : Int32) (w : eW) : Option (Int32 × eW) := if x1 < x0 then (some (x1, w)) else (some (x0, w))
set_option maxRecDepth 20000 in
theorem sJ9_min_7cf53_0  (x0 : Int32) (x1 : Int32) (w : eW) (r : Int32 × eW) (h : fJ9_min_7cf53_0 x0 x1 w = some r) : eBN l D cI cZ 0 yJ9_min_7cf53 cJ9_min_7cf53 2 (some .int) 0 [(0, .int x0), (1, .int x1)] [] w (some (.int r.1)) r.2 := by
  rw [fJ9_min_7cf53_0] at h
  intro p e s m args below meth c r0 A X
  refine ev_iload_n (pc := 0) X 0 dJ9_min_7cf53_0 rfl rfl ?_
  refine ev_iload_n (pc := 1) X 1 dJ9_min_7cf53_1 rfl rfl ?_
  refine ev_icmp_gt (pc := 2) X 9 dJ9_min_7cf53_2 rfl (fun hc => ?_) (fun hc => ?_)
  · rw [if_pos hc] at h
    refine ev_iload_n (pc := 9) X 1 dJ9_min_7cf53_9 rfl rfl ?_
    cases h
    exact ev_iret (pc := 10) X dJ9_min_7cf53_10
  · rw [if_neg hc] at h
    refine ev_iload_n (pc := 5) X 0 dJ9_min_7cf53_5 rfl rfl ?_
    refine ev_goto (pc := 6) X 10 dJ9_min_7cf53_6 rfl ?_
    cases h
    exact ev_iret (pc := 10) X dJ9_min_7cf53_10
def fJ9_min_7cf53 (a0 : Int32) (a1 : Int32) (w : eW) : Option (Int32 × eW) := fJ9_min_7cf53_0 a0 a1 w
theorem mJ9_min_7cf53 {a0 : Int32} {a1 : Int32} {w : eW} {v : Int32} {w' : eW} (h : fJ9_min_7cf53 a0 a1 w = some (v, w')) : eMN l D cI cZ 0 yJ9_min_7cf53 cJ9_min_7cf53 2 (some .int) [.int a0, .int a1] w (some (.int v)) w' :=
  eMN_of [(0, .int a0), (1, .int a1)] (by decide +kernel) (fun _ => rfl) (fun _ => Nat.le_of_ble_eq_true rfl) (fun p e s m args below meth c r0 A X => ev_weak (pc := 0) [0, 1] rfl (sJ9_min_7cf53_0 _ _ _ _ h p e s m args below meth c r0 A X))
theorem dJ6_bitCount_0f7a4_0 : decode cJ6_bitCount_0f7a4 0 = .ok (.iload_n 0, 1) := by decide +kernel
theorem dJ6_bitCount_0f7a4_1 : decode cJ6_bitCount_0f7a4 1 = .ok (.iload_n 0, 1) := by decide +kernel
theorem dJ6_bitCount_0f7a4_2 : decode cJ6_bitCount_0f7a4 2 = .ok (.iconst 1, 1) := by decide +kernel
theorem dJ6_bitCount_0f7a4_3 : decode cJ6_bitCount_0f7a4 3 = .ok (.iushr, 1) := by decide +kernel
theorem dJ6_bitCount_0f7a4_4 : decode cJ6_bitCount_0f7a4 4 = .ok (.ldc_w 265, 3) := by decide +kernel
theorem dJ6_bitCount_0f7a4_7 : decode cJ6_bitCount_0f7a4 7 = .ok (.iand, 1) := by decide +kernel
theorem dJ6_bitCount_0f7a4_8 : decode cJ6_bitCount_0f7a4 8 = .ok (.isub, 1) := by decide +kernel
theorem dJ6_bitCount_0f7a4_9 : decode cJ6_bitCount_0f7a4 9 = .ok (.istore_n 0, 1) := by decide +kernel
theorem dJ6_bitCount_0f7a4_10 : decode cJ6_bitCount_0f7a4 10 = .ok (.iload_n 0, 1) := by decide +kernel
theorem dJ6_bitCount_0f7a4_11 : decode cJ6_bitCount_0f7a4 11 = .ok (.ldc_w 266, 3) := by decide +kernel
theorem dJ6_bitCount_0f7a4_14 : decode cJ6_bitCount_0f7a4 14 = .ok (.iand, 1) := by decide +kernel
theorem dJ6_bitCount_0f7a4_15 : decode cJ6_bitCount_0f7a4 15 = .ok (.iload_n 0, 1) := by decide +kernel
theorem dJ6_bitCount_0f7a4_16 : decode cJ6_bitCount_0f7a4 16 = .ok (.iconst 2, 1) := by decide +kernel
theorem dJ6_bitCount_0f7a4_17 : decode cJ6_bitCount_0f7a4 17 = .ok (.iushr, 1) := by decide +kernel
theorem dJ6_bitCount_0f7a4_18 : decode cJ6_bitCount_0f7a4 18 = .ok (.ldc_w 266, 3) := by decide +kernel
theorem dJ6_bitCount_0f7a4_21 : decode cJ6_bitCount_0f7a4 21 = .ok (.iand, 1) := by decide +kernel
theorem dJ6_bitCount_0f7a4_22 : decode cJ6_bitCount_0f7a4 22 = .ok (.iadd, 1) := by decide +kernel
theorem dJ6_bitCount_0f7a4_23 : decode cJ6_bitCount_0f7a4 23 = .ok (.istore_n 0, 1) := by decide +kernel
theorem dJ6_bitCount_0f7a4_24 : decode cJ6_bitCount_0f7a4 24 = .ok (.iload_n 0, 1) := by decide +kernel
theorem dJ6_bitCount_0f7a4_25 : decode cJ6_bitCount_0f7a4 25 = .ok (.iload_n 0, 1) := by decide +kernel
theorem dJ6_bitCount_0f7a4_26 : decode cJ6_bitCount_0f7a4 26 = .ok (.iconst 4, 1) := by decide +kernel
theorem dJ6_bitCount_0f7a4_27 : decode cJ6_bitCount_0f7a4 27 = .ok (.iushr, 1) := by decide +kernel
theorem dJ6_bitCount_0f7a4_28 : decode cJ6_bitCount_0f7a4 28 = .ok (.iadd, 1) := by decide +kernel
theorem dJ6_bitCount_0f7a4_29 : decode cJ6_bitCount_0f7a4 29 = .ok (.ldc_w 267, 3) := by decide +kernel
theorem dJ6_bitCount_0f7a4_32 : decode cJ6_bitCount_0f7a4 32 = .ok (.iand, 1) := by decide +kernel
theorem dJ6_bitCount_0f7a4_33 : decode cJ6_bitCount_0f7a4 33 = .ok (.istore_n 0, 1) := by decide +kernel
theorem dJ6_bitCount_0f7a4_34 : decode cJ6_bitCount_0f7a4 34 = .ok (.iload_n 0, 1) := by decide +kernel
theorem dJ6_bitCount_0f7a4_35 : decode cJ6_bitCount_0f7a4 35 = .ok (.iload_n 0, 1) := by decide +kernel
theorem dJ6_bitCount_0f7a4_36 : decode cJ6_bitCount_0f7a4 36 = .ok (.bipush 8, 2) := by decide +kernel
theorem dJ6_bitCount_0f7a4_38 : decode cJ6_bitCount_0f7a4 38 = .ok (.iushr, 1) := by decide +kernel
theorem dJ6_bitCount_0f7a4_39 : decode cJ6_bitCount_0f7a4 39 = .ok (.iadd, 1) := by decide +kernel
theorem dJ6_bitCount_0f7a4_40 : decode cJ6_bitCount_0f7a4 40 = .ok (.istore_n 0, 1) := by decide +kernel
theorem dJ6_bitCount_0f7a4_41 : decode cJ6_bitCount_0f7a4 41 = .ok (.iload_n 0, 1) := by decide +kernel
theorem dJ6_bitCount_0f7a4_42 : decode cJ6_bitCount_0f7a4 42 = .ok (.iload_n 0, 1) := by decide +kernel
theorem dJ6_bitCount_0f7a4_43 : decode cJ6_bitCount_0f7a4 43 = .ok (.bipush 16, 2) := by decide +kernel
theorem dJ6_bitCount_0f7a4_45 : decode cJ6_bitCount_0f7a4 45 = .ok (.iushr, 1) := by decide +kernel
theorem dJ6_bitCount_0f7a4_46 : decode cJ6_bitCount_0f7a4 46 = .ok (.iadd, 1) := by decide +kernel
theorem dJ6_bitCount_0f7a4_47 : decode cJ6_bitCount_0f7a4 47 = .ok (.istore_n 0, 1) := by decide +kernel
theorem dJ6_bitCount_0f7a4_48 : decode cJ6_bitCount_0f7a4 48 = .ok (.iload_n 0, 1) := by decide +kernel
theorem dJ6_bitCount_0f7a4_49 : decode cJ6_bitCount_0f7a4 49 = .ok (.bipush 63, 2) := by decide +kernel
theorem dJ6_bitCount_0f7a4_51 : decode cJ6_bitCount_0f7a4 51 = .ok (.iand, 1) := by decide +kernel
theorem dJ6_bitCount_0f7a4_52 : decode cJ6_bitCount_0f7a4 52 = .ok (.ireturn, 1) := by decide +kernel
def fJ6_bitCount_0f7a4_0 (x0 : Int32) (w : eW) : Option (Int32 × eW) := some ((((((((x0 - ((((x0 : Int32).toUInt32 >>> (((1 : Int32) : Int32).toUInt32 &&& Int32.toUInt32 31)).toInt32) &&& (1431655765 : Int32))) &&& (858993459 : Int32)) + (((((x0 - ((((x0 : Int32).toUInt32 >>> (((1 : Int32) : Int32).toUInt32 &&& Int32.toUInt32 31)).toInt32) &&& (1431655765 : Int32))) : Int32).toUInt32 >>> (((2 : Int32) : Int32).toUInt32 &&& Int32.toUInt32 31)).toInt32) &&& (858993459 : Int32))) + ((((((x0 - ((((x0 : Int32).toUInt32 >>> (((1 : Int32) : Int32).toUInt32 &&& Int32.toUInt32 31)).toInt32) &&& (1431655765 : Int32))) &&& (858993459 : Int32)) + (((((x0 - ((((x0 : Int32).toUInt32 >>> (((1 : Int32) : Int32).toUInt32 &&& Int32.toUInt32 31)).toInt32) &&& (1431655765 : Int32))) : Int32).toUInt32 >>> (((2 : Int32) : Int32).toUInt32 &&& Int32.toUInt32 31)).toInt32) &&& (858993459 : Int32))) : Int32).toUInt32 >>> (((4 : Int32) : Int32).toUInt32 &&& Int32.toUInt32 31)).toInt32)) &&& (252645135 : Int32)) + ((((((((x0 - ((((x0 : Int32).toUInt32 >>> (((1 : Int32) : Int32).toUInt32 &&& Int32.toUInt32 31)).toInt32) &&& (1431655765 : Int32))) &&& (858993459 : Int32)) + (((((x0 - ((((x0 : Int32).toUInt32 >>> (((1 : Int32) : Int32).toUInt32 &&& Int32.toUInt32 31)).toInt32) &&& (1431655765 : Int32))) : Int32).toUInt32 >>> (((2 : Int32) : Int32).toUInt32 &&& Int32.toUInt32 31)).toInt32) &&& (858993459 : Int32))) + ((((((x0 - ((((x0 : Int32).toUInt32 >>> (((1 : Int32) : Int32).toUInt32 &&& Int32.toUInt32 31)).toInt32) &&& (1431655765 : Int32))) &&& (858993459 : Int32)) + (((((x0 - ((((x0 : Int32).toUInt32 >>> (((1 : Int32) : Int32).toUInt32 &&& Int32.toUInt32 31)).toInt32) &&& (1431655765 : Int32))) : Int32).toUInt32 >>> (((2 : Int32) : Int32).toUInt32 &&& Int32.toUInt32 31)).toInt32) &&& (858993459 : Int32))) : Int32).toUInt32 >>> (((4 : Int32) : Int32).toUInt32 &&& Int32.toUInt32 31)).toInt32)) &&& (252645135 : Int32)) : Int32).toUInt32 >>> (((8 : Int32) : Int32).toUInt32 &&& Int32.toUInt32 31)).toInt32)) + (((((((((x0 - ((((x0 : Int32).toUInt32 >>> (((1 : Int32) : Int32).toUInt32 &&& Int32.toUInt32 31)).toInt32) &&& (1431655765 : Int32))) &&& (858993459 : Int32)) + (((((x0 - ((((x0 : Int32).toUInt32 >>> (((1 : Int32) : Int32).toUInt32 &&& Int32.toUInt32 31)).toInt32) &&& (1431655765 : Int32))) : Int32).toUInt32 >>> (((2 : Int32) : Int32).toUInt32 &&& Int32.toUInt32 31)).toInt32) &&& (858993459 : Int32))) + ((((((x0 - ((((x0 : Int32).toUInt32 >>> (((1 : Int32) : Int32).toUInt32 &&& Int32.toUInt32 31)).toInt32) &&& (1431655765 : Int32))) &&& (858993459 : Int32)) + (((((x0 - ((((x0 : Int32).toUInt32 >>> (((1 : Int32) : Int32).toUInt32 &&& Int32.toUInt32 31)).toInt32) &&& (1431655765 : Int32))) : Int32).toUInt32 >>> (((2 : Int32) : Int32).toUInt32 &&& Int32.toUInt32 31)).toInt32) &&& (858993459 : Int32))) : Int32).toUInt32 >>> (((4 : Int32) : Int32).toUInt32 &&& Int32.toUInt32 31)).toInt32)) &&& (252645135 : Int32)) + ((((((((x0 - ((((x0 : Int32).toUInt32 >>> (((1 : Int32) : Int32).toUInt32 &&& Int32.toUInt32 31)).toInt32) &&& (1431655765 : Int32))) &&& (858993459 : Int32)) + (((((x0 - ((((x0 : Int32).toUInt32 >>> (((1 : Int32) : Int32).toUInt32 &&& Int32.toUInt32 31)).toInt32) &&& (1431655765 : Int32))) : Int32).toUInt32 >>> (((2 : Int32) : Int32).toUInt32 &&& Int32.toUInt32 31)).toInt32) &&& (858993459 : Int32))) + ((((((x0 - ((((x0 : Int32).toUInt32 >>> (((1 : Int32) : Int32).toUInt32 &&& Int32.toUInt32 31)).toInt32) &&& (1431655765 : Int32))) &&& (858993459 : Int32)) + (((((x0 - ((((x0 : Int32).toUInt32 >>> (((1 : Int32) : Int32).toUInt32 &&& Int32.toUInt32 31)).toInt32) &&& (1431655765 : Int32))) : Int32).toUInt32 >>> (((2 : Int32) : Int32).toUInt32 &&& Int32.toUInt32 31)).toInt32) &&& (858993459 : Int32))) : Int32).toUInt32 >>> (((4 : Int32) : Int32).toUInt32 &&& Int32.toUInt32 31)).toInt32)) &&& (252645135 : Int32)) : Int32).toUInt32 >>> (((8 : Int32) : Int32).toUInt32 &&& Int32.toUInt32 31)).toInt32)) : Int32).toUInt32 >>> (((16 : Int32) : Int32).toUInt32 &&& Int32.toUInt32 31)).toInt32)) &&& (63 : Int32), w)
set_option maxRecDepth 20000 in
theorem sJ6_bitCount_0f7a4_0  (x0 : Int32) (w : eW) (r : Int32 × eW) (h : fJ6_bitCount_0f7a4_0 x0 w = some r) : eBN l D cI cZ 0 yJ6_bitCount_0f7a4 cJ6_bitCount_0f7a4 1 (some .int) 0 [(0, .int x0)] [] w (some (.int r.1)) r.2 := by
  rw [fJ6_bitCount_0f7a4_0] at h
  intro p e s m args below meth c r0 A X
  refine ev_iload_n (pc := 0) X 0 dJ6_bitCount_0f7a4_0 rfl rfl ?_
  refine ev_iload_n (pc := 1) X 0 dJ6_bitCount_0f7a4_1 rfl rfl ?_
  refine ev_iconst (pc := 2) (v := (1 : Int32)) X dJ6_bitCount_0f7a4_2 rfl ?_
  refine ev_iushr (pc := 3) X dJ6_bitCount_0f7a4_3 ?_
  refine ev_ldcw (pc := 4) X kkJ6_265 dJ6_bitCount_0f7a4_4 ?_
  refine ev_iand (pc := 7) X dJ6_bitCount_0f7a4_7 ?_
  refine ev_isub (pc := 8) X dJ6_bitCount_0f7a4_8 ?_
  refine ev_istore_n (pc := 9) (L' := [(0, .int (x0 - ((((x0 : Int32).toUInt32 >>> (((1 : Int32) : Int32).toUInt32 &&& Int32.toUInt32 31)).toInt32) &&& (1431655765 : Int32))))]) X dJ6_bitCount_0f7a4_9 rfl (by decide) rfl ?_
  refine ev_iload_n (pc := 10) X 0 dJ6_bitCount_0f7a4_10 rfl rfl ?_
  refine ev_ldcw (pc := 11) X kkJ6_266 dJ6_bitCount_0f7a4_11 ?_
  refine ev_iand (pc := 14) X dJ6_bitCount_0f7a4_14 ?_
  refine ev_iload_n (pc := 15) X 0 dJ6_bitCount_0f7a4_15 rfl rfl ?_
  refine ev_iconst (pc := 16) (v := (2 : Int32)) X dJ6_bitCount_0f7a4_16 rfl ?_
  refine ev_iushr (pc := 17) X dJ6_bitCount_0f7a4_17 ?_
  refine ev_ldcw (pc := 18) X kkJ6_266 dJ6_bitCount_0f7a4_18 ?_
  refine ev_iand (pc := 21) X dJ6_bitCount_0f7a4_21 ?_
  refine ev_iadd (pc := 22) X dJ6_bitCount_0f7a4_22 ?_
  refine ev_istore_n (pc := 23) (L' := [(0, .int (((x0 - ((((x0 : Int32).toUInt32 >>> (((1 : Int32) : Int32).toUInt32 &&& Int32.toUInt32 31)).toInt32) &&& (1431655765 : Int32))) &&& (858993459 : Int32)) + (((((x0 - ((((x0 : Int32).toUInt32 >>> (((1 : Int32) : Int32).toUInt32 &&& Int32.toUInt32 31)).toInt32) &&& (1431655765 : Int32))) : Int32).toUInt32 >>> (((2 : Int32) : Int32).toUInt32 &&& Int32.toUInt32 31)).toInt32) &&& (858993459 : Int32))))]) X dJ6_bitCount_0f7a4_23 rfl (by decide) rfl ?_
  refine ev_iload_n (pc := 24) X 0 dJ6_bitCount_0f7a4_24 rfl rfl ?_
  refine ev_iload_n (pc := 25) X 0 dJ6_bitCount_0f7a4_25 rfl rfl ?_
  refine ev_iconst (pc := 26) (v := (4 : Int32)) X dJ6_bitCount_0f7a4_26 rfl ?_
  refine ev_iushr (pc := 27) X dJ6_bitCount_0f7a4_27 ?_
  refine ev_iadd (pc := 28) X dJ6_bitCount_0f7a4_28 ?_
  refine ev_ldcw (pc := 29) X kkJ6_267 dJ6_bitCount_0f7a4_29 ?_
  refine ev_iand (pc := 32) X dJ6_bitCount_0f7a4_32 ?_
  refine ev_istore_n (pc := 33) (L' := [(0, .int (((((x0 - ((((x0 : Int32).toUInt32 >>> (((1 : Int32) : Int32).toUInt32 &&& Int32.toUInt32 31)).toInt32) &&& (1431655765 : Int32))) &&& (858993459 : Int32)) + (((((x0 - ((((x0 : Int32).toUInt32 >>> (((1 : Int32) : Int32).toUInt32 &&& Int32.toUInt32 31)).toInt32) &&& (1431655765 : Int32))) : Int32).toUInt32 >>> (((2 : Int32) : Int32).toUInt32 &&& Int32.toUInt32 31)).toInt32) &&& (858993459 : Int32))) + ((((((x0 - ((((x0 : Int32).toUInt32 >>> (((1 : Int32) : Int32).toUInt32 &&& Int32.toUInt32 31)).toInt32) &&& (1431655765 : Int32))) &&& (858993459 : Int32)) + (((((x0 - ((((x0 : Int32).toUInt32 >>> (((1 : Int32) : Int32).toUInt32 &&& Int32.toUInt32 31)).toInt32) &&& (1431655765 : Int32))) : Int32).toUInt32 >>> (((2 : Int32) : Int32).toUInt32 &&& Int32.toUInt32 31)).toInt32) &&& (858993459 : Int32))) : Int32).toUInt32 >>> (((4 : Int32) : Int32).toUInt32 &&& Int32.toUInt32 31)).toInt32)) &&& (252645135 : Int32)))]) X dJ6_bitCount_0f7a4_33 rfl (by decide) rfl ?_
  refine ev_iload_n (pc := 34) X 0 dJ6_bitCount_0f7a4_34 rfl rfl ?_
  refine ev_iload_n (pc := 35) X 0 dJ6_bitCount_0f7a4_35 rfl rfl ?_
  refine ev_bipush (pc := 36) (v := (8 : Int32)) X dJ6_bitCount_0f7a4_36 rfl ?_
  refine ev_iushr (pc := 38) X dJ6_bitCount_0f7a4_38 ?_
  refine ev_iadd (pc := 39) X dJ6_bitCount_0f7a4_39 ?_
  refine ev_istore_n (pc := 40) (L' := [(0, .int ((((((x0 - ((((x0 : Int32).toUInt32 >>> (((1 : Int32) : Int32).toUInt32 &&& Int32.toUInt32 31)).toInt32) &&& (1431655765 : Int32))) &&& (858993459 : Int32)) + (((((x0 - ((((x0 : Int32).toUInt32 >>> (((1 : Int32) : Int32).toUInt32 &&& Int32.toUInt32 31)).toInt32) &&& (1431655765 : Int32))) : Int32).toUInt32 >>> (((2 : Int32) : Int32).toUInt32 &&& Int32.toUInt32 31)).toInt32) &&& (858993459 : Int32))) + ((((((x0 - ((((x0 : Int32).toUInt32 >>> (((1 : Int32) : Int32).toUInt32 &&& Int32.toUInt32 31)).toInt32) &&& (1431655765 : Int32))) &&& (858993459 : Int32)) + (((((x0 - ((((x0 : Int32).toUInt32 >>> (((1 : Int32) : Int32).toUInt32 &&& Int32.toUInt32 31)).toInt32) &&& (1431655765 : Int32))) : Int32).toUInt32 >>> (((2 : Int32) : Int32).toUInt32 &&& Int32.toUInt32 31)).toInt32) &&& (858993459 : Int32))) : Int32).toUInt32 >>> (((4 : Int32) : Int32).toUInt32 &&& Int32.toUInt32 31)).toInt32)) &&& (252645135 : Int32)) + ((((((((x0 - ((((x0 : Int32).toUInt32 >>> (((1 : Int32) : Int32).toUInt32 &&& Int32.toUInt32 31)).toInt32) &&& (1431655765 : Int32))) &&& (858993459 : Int32)) + (((((x0 - ((((x0 : Int32).toUInt32 >>> (((1 : Int32) : Int32).toUInt32 &&& Int32.toUInt32 31)).toInt32) &&& (1431655765 : Int32))) : Int32).toUInt32 >>> (((2 : Int32) : Int32).toUInt32 &&& Int32.toUInt32 31)).toInt32) &&& (858993459 : Int32))) + ((((((x0 - ((((x0 : Int32).toUInt32 >>> (((1 : Int32) : Int32).toUInt32 &&& Int32.toUInt32 31)).toInt32) &&& (1431655765 : Int32))) &&& (858993459 : Int32)) + (((((x0 - ((((x0 : Int32).toUInt32 >>> (((1 : Int32) : Int32).toUInt32 &&& Int32.toUInt32 31)).toInt32) &&& (1431655765 : Int32))) : Int32).toUInt32 >>> (((2 : Int32) : Int32).toUInt32 &&& Int32.toUInt32 31)).toInt32) &&& (858993459 : Int32))) : Int32).toUInt32 >>> (((4 : Int32) : Int32).toUInt32 &&& Int32.toUInt32 31)).toInt32)) &&& (252645135 : Int32)) : Int32).toUInt32 >>> (((8 : Int32) : Int32).toUInt32 &&& Int32.toUInt32 31)).toInt32)))]) X dJ6_bitCount_0f7a4_40 rfl (by decide) rfl ?_
  refine ev_iload_n (pc := 41) X 0 dJ6_bitCount_0f7a4_41 rfl rfl ?_
  refine ev_iload_n (pc := 42) X 0 dJ6_bitCount_0f7a4_42 rfl rfl ?_
  refine ev_bipush (pc := 43) (v := (16 : Int32)) X dJ6_bitCount_0f7a4_43 rfl ?_
  refine ev_iushr (pc := 45) X dJ6_bitCount_0f7a4_45 ?_
  refine ev_iadd (pc := 46) X dJ6_bitCount_0f7a4_46 ?_
  refine ev_istore_n (pc := 47) (L' := [(0, .int (((((((x0 - ((((x0 : Int32).toUInt32 >>> (((1 : Int32) : Int32).toUInt32 &&& Int32.toUInt32 31)).toInt32) &&& (1431655765 : Int32))) &&& (858993459 : Int32)) + (((((x0 - ((((x0 : Int32).toUInt32 >>> (((1 : Int32) : Int32).toUInt32 &&& Int32.toUInt32 31)).toInt32) &&& (1431655765 : Int32))) : Int32).toUInt32 >>> (((2 : Int32) : Int32).toUInt32 &&& Int32.toUInt32 31)).toInt32) &&& (858993459 : Int32))) + ((((((x0 - ((((x0 : Int32).toUInt32 >>> (((1 : Int32) : Int32).toUInt32 &&& Int32.toUInt32 31)).toInt32) &&& (1431655765 : Int32))) &&& (858993459 : Int32)) + (((((x0 - ((((x0 : Int32).toUInt32 >>> (((1 : Int32) : Int32).toUInt32 &&& Int32.toUInt32 31)).toInt32) &&& (1431655765 : Int32))) : Int32).toUInt32 >>> (((2 : Int32) : Int32).toUInt32 &&& Int32.toUInt32 31)).toInt32) &&& (858993459 : Int32))) : Int32).toUInt32 >>> (((4 : Int32) : Int32).toUInt32 &&& Int32.toUInt32 31)).toInt32)) &&& (252645135 : Int32)) + ((((((((x0 - ((((x0 : Int32).toUInt32 >>> (((1 : Int32) : Int32).toUInt32 &&& Int32.toUInt32 31)).toInt32) &&& (1431655765 : Int32))) &&& (858993459 : Int32)) + (((((x0 - ((((x0 : Int32).toUInt32 >>> (((1 : Int32) : Int32).toUInt32 &&& Int32.toUInt32 31)).toInt32) &&& (1431655765 : Int32))) : Int32).toUInt32 >>> (((2 : Int32) : Int32).toUInt32 &&& Int32.toUInt32 31)).toInt32) &&& (858993459 : Int32))) + ((((((x0 - ((((x0 : Int32).toUInt32 >>> (((1 : Int32) : Int32).toUInt32 &&& Int32.toUInt32 31)).toInt32) &&& (1431655765 : Int32))) &&& (858993459 : Int32)) + (((((x0 - ((((x0 : Int32).toUInt32 >>> (((1 : Int32) : Int32).toUInt32 &&& Int32.toUInt32 31)).toInt32) &&& (1431655765 : Int32))) : Int32).toUInt32 >>> (((2 : Int32) : Int32).toUInt32 &&& Int32.toUInt32 31)).toInt32) &&& (858993459 : Int32))) : Int32).toUInt32 >>> (((4 : Int32) : Int32).toUInt32 &&& Int32.toUInt32 31)).toInt32)) &&& (252645135 : Int32)) : Int32).toUInt32 >>> (((8 : Int32) : Int32).toUInt32 &&& Int32.toUInt32 31)).toInt32)) + (((((((((x0 - ((((x0 : Int32).toUInt32 >>> (((1 : Int32) : Int32).toUInt32 &&& Int32.toUInt32 31)).toInt32) &&& (1431655765 : Int32))) &&& (858993459 : Int32)) + (((((x0 - ((((x0 : Int32).toUInt32 >>> (((1 : Int32) : Int32).toUInt32 &&& Int32.toUInt32 31)).toInt32) &&& (1431655765 : Int32))) : Int32).toUInt32 >>> (((2 : Int32) : Int32).toUInt32 &&& Int32.toUInt32 31)).toInt32) &&& (858993459 : Int32))) + ((((((x0 - ((((x0 : Int32).toUInt32 >>> (((1 : Int32) : Int32).toUInt32 &&& Int32.toUInt32 31)).toInt32) &&& (1431655765 : Int32))) &&& (858993459 : Int32)) + (((((x0 - ((((x0 : Int32).toUInt32 >>> (((1 : Int32) : Int32).toUInt32 &&& Int32.toUInt32 31)).toInt32) &&& (1431655765 : Int32))) : Int32).toUInt32 >>> (((2 : Int32) : Int32).toUInt32 &&& Int32.toUInt32 31)).toInt32) &&& (858993459 : Int32))) : Int32).toUInt32 >>> (((4 : Int32) : Int32).toUInt32 &&& Int32.toUInt32 31)).toInt32)) &&& (252645135 : Int32)) + ((((((((x0 - ((((x0 : Int32).toUInt32 >>> (((1 : Int32) : Int32).toUInt32 &&& Int32.toUInt32 31)).toInt32) &&& (1431655765 : Int32))) &&& (858993459 : Int32)) + (((((x0 - ((((x0 : Int32).toUInt32 >>> (((1 : Int32) : Int32).toUInt32 &&& Int32.toUInt32 31)).toInt32) &&& (1431655765 : Int32))) : Int32).toUInt32 >>> (((2 : Int32) : Int32).toUInt32 &&& Int32.toUInt32 31)).toInt32) &&& (858993459 : Int32))) + ((((((x0 - ((((x0 : Int32).toUInt32 >>> (((1 : Int32) : Int32).toUInt32 &&& Int32.toUInt32 31)).toInt32) &&& (1431655765 : Int32))) &&& (858993459 : Int32)) + (((((x0 - ((((x0 : Int32).toUInt32 >>> (((1 : Int32) : Int32).toUInt32 &&& Int32.toUInt32 31)).toInt32) &&& (1431655765 : Int32))) : Int32).toUInt32 >>> (((2 : Int32) : Int32).toUInt32 &&& Int32.toUInt32 31)).toInt32) &&& (858993459 : Int32))) : Int32).toUInt32 >>> (((4 : Int32) : Int32).toUInt32 &&& Int32.toUInt32 31)).toInt32)) &&& (252645135 : Int32)) : Int32).toUInt32 >>> (((8 : Int32) : Int32).toUInt32 &&& Int32.toUInt32 31)).toInt32)) : Int32).toUInt32 >>> (((16 : Int32) : Int32).toUInt32 &&& Int32.toUInt32 31)).toInt32)))]) X dJ6_bitCount_0f7a4_47 rfl (by decide) rfl ?_
  refine ev_iload_n (pc := 48) X 0 dJ6_bitCount_0f7a4_48 rfl rfl ?_
  refine ev_bipush (pc := 49) (v := (63 : Int32)) X dJ6_bitCount_0f7a4_49 rfl ?_
  refine ev_iand (pc := 51) X dJ6_bitCount_0f7a4_51 ?_
  cases h
  exact ev_iret (pc := 52) X dJ6_bitCount_0f7a4_52
def fJ6_bitCount_0f7a4 (a0 : Int32) (w : eW) : Option (Int32 × eW) := fJ6_bitCount_0f7a4_0 a0 w
theorem mJ6_bitCount_0f7a4 {a0 : Int32} {w : eW} {v : Int32} {w' : eW} (h : fJ6_bitCount_0f7a4 a0 w = some (v, w')) : eMN l D cI cZ 0 yJ6_bitCount_0f7a4 cJ6_bitCount_0f7a4 1 (some .int) [.int a0] w (some (.int v)) w' :=
  eMN_of [(0, .int a0)] (by decide +kernel) (fun _ => rfl) (fun _ => Nat.le_of_ble_eq_true rfl) (fun p e s m args below meth c r0 A X => ev_weak (pc := 0) [0] rfl (sJ6_bitCount_0f7a4_0 _ _ _ h p e s m args below meth c r0 A X))
end GEN
end
