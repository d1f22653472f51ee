section
-- ===== PART A: goes FIRST, ahead of the names: the tables' words, and 'selects' of the private methods out of them =====
/-- a private method of a class that the tables say can be made, by its rows of tables_1 -/
def lw_okq (q : MethodName × Nat) : Prop := (q.1.cls ≠ "java/lang/invoke/MethodHandle" ∧ q.1.cls ≠ "java/lang/invoke/VarHandle") ∧ Cond.instantiable q.1.cls q.2 ∈ tables_1 ∧ Cond.privateMethod q.1 ∈ tables_1 ∧ Cond.instanceMethod q.1 ∈ tables_1
theorem lw_p0 : lw_okq (⟨"WovenRoads$LandText", "nextToken", "()V"⟩, 9) := ⟨⟨by decide +kernel, by decide +kernel⟩, List.mem_of_getElem? (i := 71) (by decide +kernel), List.mem_of_getElem? (i := 315) (by decide +kernel), List.mem_of_getElem? (i := 316) (by decide +kernel)⟩
theorem lw_p1 : lw_okq (⟨"WovenRoads$LandText", "readItem", "()Z"⟩, 9) := ⟨⟨by decide +kernel, by decide +kernel⟩, List.mem_of_getElem? (i := 71) (by decide +kernel), List.mem_of_getElem? (i := 329) (by decide +kernel), List.mem_of_getElem? (i := 330) (by decide +kernel)⟩
theorem lw_p2 : lw_okq (⟨"WovenRoads$LandText", "readSize", "()Z"⟩, 9) := ⟨⟨by decide +kernel, by decide +kernel⟩, List.mem_of_getElem? (i := 71) (by decide +kernel), List.mem_of_getElem? (i := 333) (by decide +kernel), List.mem_of_getElem? (i := 334) (by decide +kernel)⟩
theorem lw_p3 : lw_okq (⟨"WovenRoads$LandText", "readNumber", "(II)Z"⟩, 9) := ⟨⟨by decide +kernel, by decide +kernel⟩, List.mem_of_getElem? (i := 71) (by decide +kernel), List.mem_of_getElem? (i := 337) (by decide +kernel), List.mem_of_getElem? (i := 338) (by decide +kernel)⟩
theorem lw_p4 : lw_okq (⟨"WovenRoads$LandText", "readItemEnd", "()Z"⟩, 9) := ⟨⟨by decide +kernel, by decide +kernel⟩, List.mem_of_getElem? (i := 71) (by decide +kernel), List.mem_of_getElem? (i := 345) (by decide +kernel), List.mem_of_getElem? (i := 346) (by decide +kernel)⟩
theorem lw_p5 : lw_okq (⟨"WovenRoads$LandText", "readHeight", "()Z"⟩, 9) := ⟨⟨by decide +kernel, by decide +kernel⟩, List.mem_of_getElem? (i := 71) (by decide +kernel), List.mem_of_getElem? (i := 349) (by decide +kernel), List.mem_of_getElem? (i := 350) (by decide +kernel)⟩
theorem lw_p6 : lw_okq (⟨"WovenRoads$LandText", "readTown", "()Z"⟩, 9) := ⟨⟨by decide +kernel, by decide +kernel⟩, List.mem_of_getElem? (i := 71) (by decide +kernel), List.mem_of_getElem? (i := 366) (by decide +kernel), List.mem_of_getElem? (i := 367) (by decide +kernel)⟩
theorem lw_p7 : lw_okq (⟨"WovenRoads$LandText", "readSlope", "()Z"⟩, 9) := ⟨⟨by decide +kernel, by decide +kernel⟩, List.mem_of_getElem? (i := 71) (by decide +kernel), List.mem_of_getElem? (i := 384) (by decide +kernel), List.mem_of_getElem? (i := 385) (by decide +kernel)⟩
theorem lw_p8 : lw_okq (⟨"WovenRoads$Roads", "layBetween", "(II)V"⟩, 3) := ⟨⟨by decide +kernel, by decide +kernel⟩, List.mem_of_getElem? (i := 147) (by decide +kernel), List.mem_of_getElem? (i := 505) (by decide +kernel), List.mem_of_getElem? (i := 506) (by decide +kernel)⟩
theorem lw_p9 : lw_okq (⟨"WovenRoads$Bolts", "touchesTown", "(I)Z"⟩, 2) := ⟨⟨by decide +kernel, by decide +kernel⟩, List.mem_of_getElem? (i := 109) (by decide +kernel), List.mem_of_getElem? (i := 545) (by decide +kernel), List.mem_of_getElem? (i := 546) (by decide +kernel)⟩
theorem lw_p10 : lw_okq (⟨"WovenRoads$Weaving", "cellsJoined", "(II)I"⟩, 4) := ⟨⟨by decide +kernel, by decide +kernel⟩, List.mem_of_getElem? (i := 184) (by decide +kernel), List.mem_of_getElem? (i := 661) (by decide +kernel), List.mem_of_getElem? (i := 662) (by decide +kernel)⟩
theorem lw_p11 : lw_okq (⟨"WovenRoads$Weaving", "cellsWherePartsMeet", "(II)I"⟩, 4) := ⟨⟨by decide +kernel, by decide +kernel⟩, List.mem_of_getElem? (i := 184) (by decide +kernel), List.mem_of_getElem? (i := 672) (by decide +kernel), List.mem_of_getElem? (i := 673) (by decide +kernel)⟩
theorem lw_p12 : lw_okq (⟨"WovenRoads$Walk", "goOn", "(II)Z"⟩, 4) := ⟨⟨by decide +kernel, by decide +kernel⟩, List.mem_of_getElem? (i := 163) (by decide +kernel), List.mem_of_getElem? (i := 696) (by decide +kernel), List.mem_of_getElem? (i := 697) (by decide +kernel)⟩
theorem lw_p13 : lw_okq (⟨"WovenRoads$Odds", "foretell", "(II)V"⟩, 3) := ⟨⟨by decide +kernel, by decide +kernel⟩, List.mem_of_getElem? (i := 210) (by decide +kernel), List.mem_of_getElem? (i := 723) (by decide +kernel), List.mem_of_getElem? (i := 724) (by decide +kernel)⟩
theorem lw_p14 : lw_okq (⟨"WovenRoadsModel", "advances", "()V"⟩, 23) := ⟨⟨by decide +kernel, by decide +kernel⟩, List.mem_of_getElem? (i := 833) (by decide +kernel), List.mem_of_getElem? (i := 925) (by decide +kernel), List.mem_of_getElem? (i := 926) (by decide +kernel)⟩
theorem lw_p15 : lw_okq (⟨"WovenRoadsModel", "letterAt", "(I)I"⟩, 23) := ⟨⟨by decide +kernel, by decide +kernel⟩, List.mem_of_getElem? (i := 833) (by decide +kernel), List.mem_of_getElem? (i := 929) (by decide +kernel), List.mem_of_getElem? (i := 930) (by decide +kernel)⟩
def lw_privs_1 : List (MethodName × Nat) := [(⟨"WovenRoads$LandText", "nextToken", "()V"⟩, 9), (⟨"WovenRoads$LandText", "readItem", "()Z"⟩, 9), (⟨"WovenRoads$LandText", "readSize", "()Z"⟩, 9), (⟨"WovenRoads$LandText", "readNumber", "(II)Z"⟩, 9), (⟨"WovenRoads$LandText", "readItemEnd", "()Z"⟩, 9), (⟨"WovenRoads$LandText", "readHeight", "()Z"⟩, 9), (⟨"WovenRoads$LandText", "readTown", "()Z"⟩, 9), (⟨"WovenRoads$LandText", "readSlope", "()Z"⟩, 9), (⟨"WovenRoads$Roads", "layBetween", "(II)V"⟩, 3), (⟨"WovenRoads$Bolts", "touchesTown", "(I)Z"⟩, 2), (⟨"WovenRoads$Weaving", "cellsJoined", "(II)I"⟩, 4), (⟨"WovenRoads$Weaving", "cellsWherePartsMeet", "(II)I"⟩, 4), (⟨"WovenRoads$Walk", "goOn", "(II)Z"⟩, 4), (⟨"WovenRoads$Odds", "foretell", "(II)V"⟩, 3), (⟨"WovenRoadsModel", "advances", "()V"⟩, 23), (⟨"WovenRoadsModel", "letterAt", "(I)I"⟩, 23)]
theorem lw_r1 : ∀ q ∈ lw_privs_1, lw_okq q := List.forall_mem_cons.mpr ⟨lw_p0, List.forall_mem_cons.mpr ⟨lw_p1, List.forall_mem_cons.mpr ⟨lw_p2, List.forall_mem_cons.mpr ⟨lw_p3, List.forall_mem_cons.mpr ⟨lw_p4, List.forall_mem_cons.mpr ⟨lw_p5, List.forall_mem_cons.mpr ⟨lw_p6, List.forall_mem_cons.mpr ⟨lw_p7, List.forall_mem_cons.mpr ⟨lw_p8, List.forall_mem_cons.mpr ⟨lw_p9, List.forall_mem_cons.mpr ⟨lw_p10, List.forall_mem_cons.mpr ⟨lw_p11, List.forall_mem_cons.mpr ⟨lw_p12, List.forall_mem_cons.mpr ⟨lw_p13, List.forall_mem_cons.mpr ⟨lw_p14, List.forall_mem_cons.mpr ⟨lw_p15, fun _ h => absurd h List.not_mem_nil⟩⟩⟩⟩⟩⟩⟩⟩⟩⟩⟩⟩⟩⟩⟩⟩
theorem lw_p16 : lw_okq (⟨"WovenRoadsModel", "isWell", "()Z"⟩, 23) := ⟨⟨by decide +kernel, by decide +kernel⟩, List.mem_of_getElem? (i := 833) (by decide +kernel), List.mem_of_getElem? (i := 933) (by decide +kernel), List.mem_of_getElem? (i := 934) (by decide +kernel)⟩
theorem lw_p17 : lw_okq (⟨"WovenRoadsModel", "mayBegin", "(I)Z"⟩, 23) := ⟨⟨by decide +kernel, by decide +kernel⟩, List.mem_of_getElem? (i := 833) (by decide +kernel), List.mem_of_getElem? (i := 937) (by decide +kernel), List.mem_of_getElem? (i := 938) (by decide +kernel)⟩
theorem lw_p18 : lw_okq (⟨"WovenRoadsModel", "takes", "(Z)I"⟩, 23) := ⟨⟨by decide +kernel, by decide +kernel⟩, List.mem_of_getElem? (i := 833) (by decide +kernel), List.mem_of_getElem? (i := 941) (by decide +kernel), List.mem_of_getElem? (i := 942) (by decide +kernel)⟩
theorem lw_p19 : lw_okq (⟨"WovenRoadsModel", "readsItem", "(I)V"⟩, 23) := ⟨⟨by decide +kernel, by decide +kernel⟩, List.mem_of_getElem? (i := 833) (by decide +kernel), List.mem_of_getElem? (i := 945) (by decide +kernel), List.mem_of_getElem? (i := 946) (by decide +kernel)⟩
theorem lw_p20 : lw_okq (⟨"WovenRoadsModel", "number", "(II)I"⟩, 23) := ⟨⟨by decide +kernel, by decide +kernel⟩, List.mem_of_getElem? (i := 833) (by decide +kernel), List.mem_of_getElem? (i := 949) (by decide +kernel), List.mem_of_getElem? (i := 950) (by decide +kernel)⟩
theorem lw_p21 : lw_okq (⟨"WovenRoadsModel", "isTaken", "(I)Z"⟩, 23) := ⟨⟨by decide +kernel, by decide +kernel⟩, List.mem_of_getElem? (i := 833) (by decide +kernel), List.mem_of_getElem? (i := 953) (by decide +kernel), List.mem_of_getElem? (i := 954) (by decide +kernel)⟩
theorem lw_p22 : lw_okq (⟨"WovenRoadsModel", "settles", "()V"⟩, 23) := ⟨⟨by decide +kernel, by decide +kernel⟩, List.mem_of_getElem? (i := 833) (by decide +kernel), List.mem_of_getElem? (i := 957) (by decide +kernel), List.mem_of_getElem? (i := 958) (by decide +kernel)⟩
theorem lw_p23 : lw_okq (⟨"WovenRoadsModel", "isCell", "(I)Z"⟩, 23) := ⟨⟨by decide +kernel, by decide +kernel⟩, List.mem_of_getElem? (i := 833) (by decide +kernel), List.mem_of_getElem? (i := 965) (by decide +kernel), List.mem_of_getElem? (i := 966) (by decide +kernel)⟩
theorem lw_p24 : lw_okq (⟨"WovenRoadsModel", "cells", "()I"⟩, 23) := ⟨⟨by decide +kernel, by decide +kernel⟩, List.mem_of_getElem? (i := 833) (by decide +kernel), List.mem_of_getElem? (i := 969) (by decide +kernel), List.mem_of_getElem? (i := 970) (by decide +kernel)⟩
theorem lw_p25 : lw_okq (⟨"WovenRoadsModel", "isBolt", "(I)Z"⟩, 23) := ⟨⟨by decide +kernel, by decide +kernel⟩, List.mem_of_getElem? (i := 833) (by decide +kernel), List.mem_of_getElem? (i := 981) (by decide +kernel), List.mem_of_getElem? (i := 982) (by decide +kernel)⟩
theorem lw_p26 : lw_okq (⟨"WovenRoadsModel", "endOf", "([II)I"⟩, 23) := ⟨⟨by decide +kernel, by decide +kernel⟩, List.mem_of_getElem? (i := 833) (by decide +kernel), List.mem_of_getElem? (i := 988) (by decide +kernel), List.mem_of_getElem? (i := 989) (by decide +kernel)⟩
theorem lw_p27 : lw_okq (⟨"WovenRoadsModel", "behind", "([III)I"⟩, 23) := ⟨⟨by decide +kernel, by decide +kernel⟩, List.mem_of_getElem? (i := 833) (by decide +kernel), List.mem_of_getElem? (i := 995) (by decide +kernel), List.mem_of_getElem? (i := 996) (by decide +kernel)⟩
theorem lw_p28 : lw_okq (⟨"WovenRoadsModel", "leads", "(II)I"⟩, 23) := ⟨⟨by decide +kernel, by decide +kernel⟩, List.mem_of_getElem? (i := 833) (by decide +kernel), List.mem_of_getElem? (i := 1002) (by decide +kernel), List.mem_of_getElem? (i := 1003) (by decide +kernel)⟩
theorem lw_p29 : lw_okq (⟨"WovenRoadsModel", "upOf", "(I)I"⟩, 23) := ⟨⟨by decide +kernel, by decide +kernel⟩, List.mem_of_getElem? (i := 833) (by decide +kernel), List.mem_of_getElem? (i := 1006) (by decide +kernel), List.mem_of_getElem? (i := 1007) (by decide +kernel)⟩
theorem lw_p30 : lw_okq (⟨"WovenRoadsModel", "builds", "([I)V"⟩, 23) := ⟨⟨by decide +kernel, by decide +kernel⟩, List.mem_of_getElem? (i := 833) (by decide +kernel), List.mem_of_getElem? (i := 1018) (by decide +kernel), List.mem_of_getElem? (i := 1019) (by decide +kernel)⟩
theorem lw_p31 : lw_okq (⟨"WovenRoadsModel", "ells", "()I"⟩, 23) := ⟨⟨by decide +kernel, by decide +kernel⟩, List.mem_of_getElem? (i := 833) (by decide +kernel), List.mem_of_getElem? (i := 1026) (by decide +kernel), List.mem_of_getElem? (i := 1027) (by decide +kernel)⟩
def lw_privs_2 : List (MethodName × Nat) := [(⟨"WovenRoadsModel", "isWell", "()Z"⟩, 23), (⟨"WovenRoadsModel", "mayBegin", "(I)Z"⟩, 23), (⟨"WovenRoadsModel", "takes", "(Z)I"⟩, 23), (⟨"WovenRoadsModel", "readsItem", "(I)V"⟩, 23), (⟨"WovenRoadsModel", "number", "(II)I"⟩, 23), (⟨"WovenRoadsModel", "isTaken", "(I)Z"⟩, 23), (⟨"WovenRoadsModel", "settles", "()V"⟩, 23), (⟨"WovenRoadsModel", "isCell", "(I)Z"⟩, 23), (⟨"WovenRoadsModel", "cells", "()I"⟩, 23), (⟨"WovenRoadsModel", "isBolt", "(I)Z"⟩, 23), (⟨"WovenRoadsModel", "endOf", "([II)I"⟩, 23), (⟨"WovenRoadsModel", "behind", "([III)I"⟩, 23), (⟨"WovenRoadsModel", "leads", "(II)I"⟩, 23), (⟨"WovenRoadsModel", "upOf", "(I)I"⟩, 23), (⟨"WovenRoadsModel", "builds", "([I)V"⟩, 23), (⟨"WovenRoadsModel", "ells", "()I"⟩, 23)]
theorem lw_r2 : ∀ q ∈ lw_privs_2, lw_okq q := List.forall_mem_cons.mpr ⟨lw_p16, List.forall_mem_cons.mpr ⟨lw_p17, List.forall_mem_cons.mpr ⟨lw_p18, List.forall_mem_cons.mpr ⟨lw_p19, List.forall_mem_cons.mpr ⟨lw_p20, List.forall_mem_cons.mpr ⟨lw_p21, List.forall_mem_cons.mpr ⟨lw_p22, List.forall_mem_cons.mpr ⟨lw_p23, List.forall_mem_cons.mpr ⟨lw_p24, List.forall_mem_cons.mpr ⟨lw_p25, List.forall_mem_cons.mpr ⟨lw_p26, List.forall_mem_cons.mpr ⟨lw_p27, List.forall_mem_cons.mpr ⟨lw_p28, List.forall_mem_cons.mpr ⟨lw_p29, List.forall_mem_cons.mpr ⟨lw_p30, List.forall_mem_cons.mpr ⟨lw_p31, fun _ h => absurd h List.not_mem_nil⟩⟩⟩⟩⟩⟩⟩⟩⟩⟩⟩⟩⟩⟩⟩⟩
theorem lw_p32 : lw_okq (⟨"WovenRoadsModel", "piecesOf", "([I)I"⟩, 23) := ⟨⟨by decide +kernel, by decide +kernel⟩, List.mem_of_getElem? (i := 833) (by decide +kernel), List.mem_of_getElem? (i := 1030) (by decide +kernel), List.mem_of_getElem? (i := 1031) (by decide +kernel)⟩
theorem lw_p33 : lw_okq (⟨"WovenRoadsModel", "spreads", "(I)V"⟩, 23) := ⟨⟨by decide +kernel, by decide +kernel⟩, List.mem_of_getElem? (i := 833) (by decide +kernel), List.mem_of_getElem? (i := 1034) (by decide +kernel), List.mem_of_getElem? (i := 1035) (by decide +kernel)⟩
theorem lw_p34 : lw_okq (⟨"WovenRoadsModel", "nowhere", "()I"⟩, 23) := ⟨⟨by decide +kernel, by decide +kernel⟩, List.mem_of_getElem? (i := 833) (by decide +kernel), List.mem_of_getElem? (i := 1039) (by decide +kernel), List.mem_of_getElem? (i := 1040) (by decide +kernel)⟩
theorem lw_p35 : lw_okq (⟨"WovenRoadsModel", "isTown", "(I)Z"⟩, 23) := ⟨⟨by decide +kernel, by decide +kernel⟩, List.mem_of_getElem? (i := 833) (by decide +kernel), List.mem_of_getElem? (i := 1043) (by decide +kernel), List.mem_of_getElem? (i := 1044) (by decide +kernel)⟩
theorem lw_p36 : lw_okq (⟨"WovenRoadsModel", "steep", "()I"⟩, 23) := ⟨⟨by decide +kernel, by decide +kernel⟩, List.mem_of_getElem? (i := 833) (by decide +kernel), List.mem_of_getElem? (i := 1047) (by decide +kernel), List.mem_of_getElem? (i := 1048) (by decide +kernel)⟩
theorem lw_p37 : lw_okq (⟨"WovenRoadsModel", "step", "(II)I"⟩, 23) := ⟨⟨by decide +kernel, by decide +kernel⟩, List.mem_of_getElem? (i := 833) (by decide +kernel), List.mem_of_getElem? (i := 1051) (by decide +kernel), List.mem_of_getElem? (i := 1052) (by decide +kernel)⟩
theorem lw_p38 : lw_okq (⟨"WovenRoadsModel", "leastSlope", "()I"⟩, 23) := ⟨⟨by decide +kernel, by decide +kernel⟩, List.mem_of_getElem? (i := 833) (by decide +kernel), List.mem_of_getElem? (i := 1055) (by decide +kernel), List.mem_of_getElem? (i := 1056) (by decide +kernel)⟩
theorem lw_p39 : lw_okq (⟨"WovenRoadsModel", "couldBe", "(I)Z"⟩, 23) := ⟨⟨by decide +kernel, by decide +kernel⟩, List.mem_of_getElem? (i := 833) (by decide +kernel), List.mem_of_getElem? (i := 1059) (by decide +kernel), List.mem_of_getElem? (i := 1060) (by decide +kernel)⟩
theorem lw_p40 : lw_okq (⟨"WovenRoadsModel", "notes", "()V"⟩, 23) := ⟨⟨by decide +kernel, by decide +kernel⟩, List.mem_of_getElem? (i := 833) (by decide +kernel), List.mem_of_getElem? (i := 1067) (by decide +kernel), List.mem_of_getElem? (i := 1068) (by decide +kernel)⟩
theorem lw_p41 : lw_okq (⟨"WovenRoadsModel", "goes", "(II)I"⟩, 23) := ⟨⟨by decide +kernel, by decide +kernel⟩, List.mem_of_getElem? (i := 833) (by decide +kernel), List.mem_of_getElem? (i := 1075) (by decide +kernel), List.mem_of_getElem? (i := 1076) (by decide +kernel)⟩
theorem lw_p42 : lw_okq (⟨"WovenRoadsModel", "frays", "([I)I"⟩, 23) := ⟨⟨by decide +kernel, by decide +kernel⟩, List.mem_of_getElem? (i := 833) (by decide +kernel), List.mem_of_getElem? (i := 1087) (by decide +kernel), List.mem_of_getElem? (i := 1088) (by decide +kernel)⟩
theorem lw_p43 : lw_okq (⟨"WovenRoadsModel", "grows", "(I)V"⟩, 23) := ⟨⟨by decide +kernel, by decide +kernel⟩, List.mem_of_getElem? (i := 833) (by decide +kernel), List.mem_of_getElem? (i := 1103) (by decide +kernel), List.mem_of_getElem? (i := 1104) (by decide +kernel)⟩
theorem lw_p44 : lw_okq (⟨"WovenRoadsModel", "areNear", "(II)Z"⟩, 23) := ⟨⟨by decide +kernel, by decide +kernel⟩, List.mem_of_getElem? (i := 833) (by decide +kernel), List.mem_of_getElem? (i := 1118) (by decide +kernel), List.mem_of_getElem? (i := 1119) (by decide +kernel)⟩
theorem lw_p45 : lw_okq (⟨"WovenRoadsModel", "otherwise", "(IIII)I"⟩, 23) := ⟨⟨by decide +kernel, by decide +kernel⟩, List.mem_of_getElem? (i := 833) (by decide +kernel), List.mem_of_getElem? (i := 1139) (by decide +kernel), List.mem_of_getElem? (i := 1140) (by decide +kernel)⟩
def lw_privs_3 : List (MethodName × Nat) := [(⟨"WovenRoadsModel", "piecesOf", "([I)I"⟩, 23), (⟨"WovenRoadsModel", "spreads", "(I)V"⟩, 23), (⟨"WovenRoadsModel", "nowhere", "()I"⟩, 23), (⟨"WovenRoadsModel", "isTown", "(I)Z"⟩, 23), (⟨"WovenRoadsModel", "steep", "()I"⟩, 23), (⟨"WovenRoadsModel", "step", "(II)I"⟩, 23), (⟨"WovenRoadsModel", "leastSlope", "()I"⟩, 23), (⟨"WovenRoadsModel", "couldBe", "(I)Z"⟩, 23), (⟨"WovenRoadsModel", "notes", "()V"⟩, 23), (⟨"WovenRoadsModel", "goes", "(II)I"⟩, 23), (⟨"WovenRoadsModel", "frays", "([I)I"⟩, 23), (⟨"WovenRoadsModel", "grows", "(I)V"⟩, 23), (⟨"WovenRoadsModel", "areNear", "(II)Z"⟩, 23), (⟨"WovenRoadsModel", "otherwise", "(IIII)I"⟩, 23)]
theorem lw_r3 : ∀ q ∈ lw_privs_3, lw_okq q := List.forall_mem_cons.mpr ⟨lw_p32, List.forall_mem_cons.mpr ⟨lw_p33, List.forall_mem_cons.mpr ⟨lw_p34, List.forall_mem_cons.mpr ⟨lw_p35, List.forall_mem_cons.mpr ⟨lw_p36, List.forall_mem_cons.mpr ⟨lw_p37, List.forall_mem_cons.mpr ⟨lw_p38, List.forall_mem_cons.mpr ⟨lw_p39, List.forall_mem_cons.mpr ⟨lw_p40, List.forall_mem_cons.mpr ⟨lw_p41, List.forall_mem_cons.mpr ⟨lw_p42, List.forall_mem_cons.mpr ⟨lw_p43, List.forall_mem_cons.mpr ⟨lw_p44, List.forall_mem_cons.mpr ⟨lw_p45, fun _ h => absurd h List.not_mem_nil⟩⟩⟩⟩⟩⟩⟩⟩⟩⟩⟩⟩⟩⟩
def lw_privs : List (MethodName × Nat) := lw_privs_1 ++ (lw_privs_2 ++ (lw_privs_3))
def lw_tbl : List Cond := k2_sels lw_privs ++ tables_1
theorem lw_privs_ok : ∀ q ∈ lw_privs, lw_okq q := by
  show ∀ q ∈ lw_privs_1 ++ (lw_privs_2 ++ (lw_privs_3)), lw_okq q
  exact List.forall_mem_append.mpr ⟨lw_r1, List.forall_mem_append.mpr ⟨lw_r2, lw_r3⟩⟩
-- ===== end of PART A; then your names; then what follows =====
end
section
def RX0 : String := "WovenRoads$Bolts"
def TX0 : u_T := fun k => match k with
  | 0 => ("WovenRoads$Bolts", "ground", "LWovenRoads$Land;", true)
  | _ => ("WovenRoads$Bolts", "numbers", "LWovenRoads$Row;", true)
def tyX0 : Nat → FieldType := fun k => match k with
  | 0 => .object "WovenRoads$Land"
  | _ => .object "WovenRoads$Row"
abbrev wsX00 : List Cond := u_ws RX0 TX0 2
theorem nmX0 : ∀ a, a < 2 → ∀ b, b < 2 → a ≠ b → (TX0 a).2.1 ≠ (TX0 b).2.1 := by decide +kernel
theorem tyX0_ok : ∀ k, k < 2 → parseFieldDescriptor (TX0 k).2.2.1 = some (tyX0 k) := by decide +kernel
abbrev cX0_init : ByteArray := prog_2_method_1_code
def yX0_init : MethodName := ⟨RX0, "<init>", "(LWovenRoads$Land;)V"⟩
abbrev cX0_removeAll : ByteArray := prog_2_method_2_code
def yX0_removeAll : MethodName := ⟨RX0, "removeAll", "()V"⟩
abbrev cX0_become : ByteArray := prog_2_method_3_code
def yX0_become : MethodName := ⟨RX0, "become", "(LWovenRoads$Bolts;)V"⟩
abbrev cX0_copyTo : ByteArray := prog_2_method_4_code
def yX0_copyTo : MethodName := ⟨RX0, "copyTo", "(LWovenRoads$Row;I)V"⟩
abbrev cX0_copyFrom : ByteArray := prog_2_method_5_code
def yX0_copyFrom : MethodName := ⟨RX0, "copyFrom", "(LWovenRoads$Row;I)V"⟩
abbrev cX0_size : ByteArray := prog_2_method_6_code
def yX0_size : MethodName := ⟨RX0, "size", "()I"⟩
abbrev cX0_has : ByteArray := prog_2_method_7_code
def yX0_has : MethodName := ⟨RX0, "has", "(I)Z"⟩
abbrev cX0_firstCell : ByteArray := prog_2_method_8_code
def yX0_firstCell : MethodName := ⟨RX0, "firstCell", "(I)I"⟩
abbrev cX0_length : ByteArray := prog_2_method_9_code
def yX0_length : MethodName := ⟨RX0, "length", "(I)I"⟩
abbrev cX0_cardAt : ByteArray := prog_2_method_10_code
def yX0_cardAt : MethodName := ⟨RX0, "cardAt", "(II)I"⟩
abbrev cX0_lastCell : ByteArray := prog_2_method_11_code
def yX0_lastCell : MethodName := ⟨RX0, "lastCell", "(I)I"⟩
abbrev cX0_cellBehind : ByteArray := prog_2_method_12_code
def yX0_cellBehind : MethodName := ⟨RX0, "cellBehind", "(II)I"⟩
abbrev cX0_cellIf : ByteArray := prog_2_method_13_code
def yX0_cellIf : MethodName := ⟨RX0, "cellIf", "(III)I"⟩
abbrev cX0_begin : ByteArray := prog_2_method_14_code
def yX0_begin : MethodName := ⟨RX0, "begin", "(I)I"⟩
abbrev cX0_weave : ByteArray := prog_2_method_15_code
def yX0_weave : MethodName := ⟨RX0, "weave", "(II)V"⟩
abbrev cX0_turn : ByteArray := prog_2_method_16_code
def yX0_turn : MethodName := ⟨RX0, "turn", "(I)V"⟩
abbrev cX0_fray : ByteArray := prog_2_method_17_code
def yX0_fray : MethodName := ⟨RX0, "fray", "()I"⟩
abbrev cX0_ells : ByteArray := prog_2_method_18_code
def yX0_ells : MethodName := ⟨RX0, "ells", "()I"⟩
abbrev cX0_climb : ByteArray := prog_2_method_19_code
def yX0_climb : MethodName := ⟨RX0, "climb", "(I)I"⟩
abbrev cX0_toNowhere : ByteArray := prog_2_method_20_code
def yX0_toNowhere : MethodName := ⟨RX0, "toNowhere", "()I"⟩
abbrev cX0_touchesTown : ByteArray := prog_2_method_21_code
def yX0_touchesTown : MethodName := ⟨RX0, "touchesTown", "(I)Z"⟩
abbrev cX0_seams : ByteArray := prog_2_method_22_code
def yX0_seams : MethodName := ⟨RX0, "seams", "()I"⟩
abbrev cX0_placeOf : ByteArray := prog_2_method_23_code
def yX0_placeOf : MethodName := ⟨RX0, "placeOf", "(I)I"⟩
abbrev cX0_opposite : ByteArray := prog_2_method_24_code
def yX0_opposite : MethodName := ⟨RX0, "opposite", "(I)I"⟩
def RX1 : String := "WovenRoads$Land"
def TX1 : u_T := fun k => match k with
  | 0 => ("WovenRoads$Land", "wide", "I", false)
  | 1 => ("WovenRoads$Land", "deep", "I", false)
  | 2 => ("WovenRoads$Land", "slope", "I", false)
  | 3 => ("WovenRoads$Land", "towns", "I", false)
  | 4 => ("WovenRoads$Land", "heights", "LWovenRoads$Row;", true)
  | _ => ("WovenRoads$Land", "townCells", "LWovenRoads$Row;", true)
def tyX1 : Nat → FieldType := fun k => match k with
  | 0 => .int
  | 1 => .int
  | 2 => .int
  | 3 => .int
  | 4 => .object "WovenRoads$Row"
  | _ => .object "WovenRoads$Row"
abbrev wsX10 : List Cond := u_ws RX1 TX1 6
theorem nmX1 : ∀ a, a < 6 → ∀ b, b < 6 → a ≠ b → (TX1 a).2.1 ≠ (TX1 b).2.1 := by decide +kernel
theorem tyX1_ok : ∀ k, k < 6 → parseFieldDescriptor (TX1 k).2.2.1 = some (tyX1 k) := by decide +kernel
abbrev cX1_init : ByteArray := prog_3_method_1_code
def yX1_init : MethodName := ⟨RX1, "<init>", "()V"⟩
abbrev cX1_becomeFirst : ByteArray := prog_3_method_2_code
def yX1_becomeFirst : MethodName := ⟨RX1, "becomeFirst", "()V"⟩
abbrev cX1_become : ByteArray := prog_3_method_3_code
def yX1_become : MethodName := ⟨RX1, "become", "(LWovenRoads$Land;)V"⟩
abbrev cX1_setSize : ByteArray := prog_3_method_4_code
def yX1_setSize : MethodName := ⟨RX1, "setSize", "(II)V"⟩
abbrev cX1_setHeight : ByteArray := prog_3_method_5_code
def yX1_setHeight : MethodName := ⟨RX1, "setHeight", "(II)V"⟩
abbrev cX1_setSlope : ByteArray := prog_3_method_6_code
def yX1_setSlope : MethodName := ⟨RX1, "setSlope", "(I)V"⟩
abbrev cX1_addTown : ByteArray := prog_3_method_7_code
def yX1_addTown : MethodName := ⟨RX1, "addTown", "(I)V"⟩
abbrev cX1_wide : ByteArray := prog_3_method_8_code
def yX1_wide : MethodName := ⟨RX1, "wide", "()I"⟩
abbrev cX1_deep : ByteArray := prog_3_method_9_code
def yX1_deep : MethodName := ⟨RX1, "deep", "()I"⟩
abbrev cX1_slope : ByteArray := prog_3_method_10_code
def yX1_slope : MethodName := ⟨RX1, "slope", "()I"⟩
abbrev cX1_towns : ByteArray := prog_3_method_11_code
def yX1_towns : MethodName := ⟨RX1, "towns", "()I"⟩
abbrev cX1_cells : ByteArray := prog_3_method_12_code
def yX1_cells : MethodName := ⟨RX1, "cells", "()I"⟩
abbrev cX1_hasCell : ByteArray := prog_3_method_13_code
def yX1_hasCell : MethodName := ⟨RX1, "hasCell", "(I)Z"⟩
abbrev cX1_heightAt : ByteArray := prog_3_method_14_code
def yX1_heightAt : MethodName := ⟨RX1, "heightAt", "(I)I"⟩
abbrev cX1_townCell : ByteArray := prog_3_method_15_code
def yX1_townCell : MethodName := ⟨RX1, "townCell", "(I)I"⟩
abbrev cX1_isTown : ByteArray := prog_3_method_16_code
def yX1_isTown : MethodName := ⟨RX1, "isTown", "(I)Z"⟩
abbrev cX1_cellsOfTowns : ByteArray := prog_3_method_17_code
def yX1_cellsOfTowns : MethodName := ⟨RX1, "cellsOfTowns", "(I)I"⟩
abbrev cX1_neighbour : ByteArray := prog_3_method_18_code
def yX1_neighbour : MethodName := ⟨RX1, "neighbour", "(II)I"⟩
abbrev cX1_step : ByteArray := prog_3_method_19_code
def yX1_step : MethodName := ⟨RX1, "step", "(II)I"⟩
abbrev cX1_cellBy : ByteArray := prog_3_method_20_code
def yX1_cellBy : MethodName := ⟨RX1, "cellBy", "(II)I"⟩
def RX2 : String := "WovenRoads$LandText"
def TX2 : u_T := fun k => match k with
  | 0 => ("WovenRoads$LandText", "letters", "LWovenRoads$Row;", true)
  | 1 => ("WovenRoads$LandText", "size", "I", false)
  | 2 => ("WovenRoads$LandText", "told", "LWovenRoads$Land;", true)
  | 3 => ("WovenRoads$LandText", "items", "I", false)
  | 4 => ("WovenRoads$LandText", "slopeTold", "Z", false)
  | 5 => ("WovenRoads$LandText", "place", "I", false)
  | 6 => ("WovenRoads$LandText", "token", "I", false)
  | 7 => ("WovenRoads$LandText", "tokenPlace", "I", false)
  | _ => ("WovenRoads$LandText", "number", "I", false)
def tyX2 : Nat → FieldType := fun k => match k with
  | 0 => .object "WovenRoads$Row"
  | 1 => .int
  | 2 => .object "WovenRoads$Land"
  | 3 => .int
  | 4 => .boolean
  | 5 => .int
  | 6 => .int
  | 7 => .int
  | _ => .int
abbrev wsX20 : List Cond := u_ws RX2 TX2 9
theorem nmX2 : ∀ a, a < 9 → ∀ b, b < 9 → a ≠ b → (TX2 a).2.1 ≠ (TX2 b).2.1 := by decide +kernel
theorem tyX2_ok : ∀ k, k < 9 → parseFieldDescriptor (TX2 k).2.2.1 = some (tyX2 k) := by decide +kernel
abbrev cX2_init : ByteArray := prog_4_method_1_code
def yX2_init : MethodName := ⟨RX2, "<init>", "()V"⟩
abbrev cX2_size : ByteArray := prog_4_method_2_code
def yX2_size : MethodName := ⟨RX2, "size", "()I"⟩
abbrev cX2_told : ByteArray := prog_4_method_3_code
def yX2_told : MethodName := ⟨RX2, "told", "()LWovenRoads$Land;"⟩
abbrev cX2_add : ByteArray := prog_4_method_4_code
def yX2_add : MethodName := ⟨RX2, "add", "(I)Z"⟩
abbrev cX2_empty : ByteArray := prog_4_method_5_code
def yX2_empty : MethodName := ⟨RX2, "empty", "()V"⟩
abbrev cX2_read : ByteArray := prog_4_method_6_code
def yX2_read : MethodName := ⟨RX2, "read", "()I"⟩
abbrev cX2_readItem : ByteArray := prog_4_method_7_code
def yX2_readItem : MethodName := ⟨RX2, "readItem", "()Z"⟩
abbrev cX2_readSize : ByteArray := prog_4_method_8_code
def yX2_readSize : MethodName := ⟨RX2, "readSize", "()Z"⟩
abbrev cX2_readHeight : ByteArray := prog_4_method_9_code
def yX2_readHeight : MethodName := ⟨RX2, "readHeight", "()Z"⟩
abbrev cX2_readTown : ByteArray := prog_4_method_10_code
def yX2_readTown : MethodName := ⟨RX2, "readTown", "()Z"⟩
abbrev cX2_readSlope : ByteArray := prog_4_method_11_code
def yX2_readSlope : MethodName := ⟨RX2, "readSlope", "()Z"⟩
abbrev cX2_readNumber : ByteArray := prog_4_method_12_code
def yX2_readNumber : MethodName := ⟨RX2, "readNumber", "(II)Z"⟩
abbrev cX2_readItemEnd : ByteArray := prog_4_method_13_code
def yX2_readItemEnd : MethodName := ⟨RX2, "readItemEnd", "()Z"⟩
abbrev cX2_nextToken : ByteArray := prog_4_method_14_code
def yX2_nextToken : MethodName := ⟨RX2, "nextToken", "()V"⟩
abbrev cX2_isDigit : ByteArray := prog_4_method_15_code
def yX2_isDigit : MethodName := ⟨RX2, "isDigit", "(I)Z"⟩
def RX3 : String := "WovenRoads$Odds"
def TX3 : u_T := fun k => match k with
  | 0 => ("WovenRoads$Odds", "frayed", "LWovenRoads$Bolts;", true)
  | 1 => ("WovenRoads$Odds", "left", "LWovenRoads$Roads;", true)
  | _ => ("WovenRoads$Odds", "chances", "LWovenRoads$Row;", true)
def tyX3 : Nat → FieldType := fun k => match k with
  | 0 => .object "WovenRoads$Bolts"
  | 1 => .object "WovenRoads$Roads"
  | _ => .object "WovenRoads$Row"
abbrev wsX30 : List Cond := u_ws RX3 TX3 3
theorem nmX3 : ∀ a, a < 3 → ∀ b, b < 3 → a ≠ b → (TX3 a).2.1 ≠ (TX3 b).2.1 := by decide +kernel
theorem tyX3_ok : ∀ k, k < 3 → parseFieldDescriptor (TX3 k).2.2.1 = some (tyX3 k) := by decide +kernel
abbrev cX3_init : ByteArray := prog_5_method_1_code
def yX3_init : MethodName := ⟨RX3, "<init>", "(LWovenRoads$Land;)V"⟩
abbrev cX3_lowerNumber : ByteArray := prog_5_method_2_code
def yX3_lowerNumber : MethodName := ⟨RX3, "lowerNumber", "(I)I"⟩
abbrev cX3_upperNumber : ByteArray := prog_5_method_3_code
def yX3_upperNumber : MethodName := ⟨RX3, "upperNumber", "(LWovenRoads$Bolts;II)I"⟩
abbrev cX3_foretell : ByteArray := prog_5_method_4_code
def yX3_foretell : MethodName := ⟨RX3, "foretell", "(II)V"⟩
def RX4 : String := "WovenRoads$Past"
def TX4 : u_T := fun k => match k with
  | 0 => ("WovenRoads$Past", "bolts", "LWovenRoads$Bolts;", true)
  | 1 => ("WovenRoads$Past", "shelf", "LWovenRoads$Row;", true)
  | 2 => ("WovenRoads$Past", "next", "I", false)
  | _ => ("WovenRoads$Past", "known", "I", false)
def tyX4 : Nat → FieldType := fun k => match k with
  | 0 => .object "WovenRoads$Bolts"
  | 1 => .object "WovenRoads$Row"
  | 2 => .int
  | _ => .int
abbrev wsX40 : List Cond := u_ws RX4 TX4 4
theorem nmX4 : ∀ a, a < 4 → ∀ b, b < 4 → a ≠ b → (TX4 a).2.1 ≠ (TX4 b).2.1 := by decide +kernel
theorem tyX4_ok : ∀ k, k < 4 → parseFieldDescriptor (TX4 k).2.2.1 = some (tyX4 k) := by decide +kernel
abbrev cX4_init : ByteArray := prog_6_method_1_code
def yX4_init : MethodName := ⟨RX4, "<init>", "(LWovenRoads$Bolts;)V"⟩
abbrev cX4_known : ByteArray := prog_6_method_2_code
def yX4_known : MethodName := ⟨RX4, "known", "()I"⟩
abbrev cX4_forget : ByteArray := prog_6_method_3_code
def yX4_forget : MethodName := ⟨RX4, "forget", "()V"⟩
abbrev cX4_remember : ByteArray := prog_6_method_4_code
def yX4_remember : MethodName := ⟨RX4, "remember", "()V"⟩
abbrev cX4_takeBack : ByteArray := prog_6_method_5_code
def yX4_takeBack : MethodName := ⟨RX4, "takeBack", "()Z"⟩
def RX5 : String := "WovenRoads$Rates"
def TX5 : u_T := fun k => match k with
  | 0 => ("WovenRoads$Rates", "bolts", "LWovenRoads$Bolts;", true)
  | 1 => ("WovenRoads$Rates", "roads", "LWovenRoads$Roads;", true)
  | _ => ("WovenRoads$Rates", "traced", "J", false)
def tyX5 : Nat → FieldType := fun k => match k with
  | 0 => .object "WovenRoads$Bolts"
  | 1 => .object "WovenRoads$Roads"
  | _ => .long
abbrev wsX50 : List Cond := u_ws RX5 TX5 3
theorem nmX5 : ∀ a, a < 3 → ∀ b, b < 3 → a ≠ b → (TX5 a).2.1 ≠ (TX5 b).2.1 := by decide +kernel
theorem tyX5_ok : ∀ k, k < 3 → parseFieldDescriptor (TX5 k).2.2.1 = some (tyX5 k) := by decide +kernel
abbrev cX5_init : ByteArray := prog_7_method_1_code
def yX5_init : MethodName := ⟨RX5, "<init>", "(LWovenRoads$Bolts;LWovenRoads$Roads;)V"⟩
abbrev cX5_traced : ByteArray := prog_7_method_2_code
def yX5_traced : MethodName := ⟨RX5, "traced", "()J"⟩
abbrev cX5_asBolt : ByteArray := prog_7_method_3_code
def yX5_asBolt : MethodName := ⟨RX5, "asBolt", "(I)I"⟩
abbrev cX5_asLane : ByteArray := prog_7_method_4_code
def yX5_asLane : MethodName := ⟨RX5, "asLane", "(I)I"⟩
abbrev cX5_asToll : ByteArray := prog_7_method_5_code
def yX5_asToll : MethodName := ⟨RX5, "asToll", "(I)I"⟩
abbrev cX5_asTrack : ByteArray := prog_7_method_6_code
def yX5_asTrack : MethodName := ⟨RX5, "asTrack", "(I)I"⟩
abbrev cX5_asMoth : ByteArray := prog_7_method_7_code
def yX5_asMoth : MethodName := ⟨RX5, "asMoth", "(I)I"⟩
abbrev cX5_asDream : ByteArray := prog_7_method_8_code
def yX5_asDream : MethodName := ⟨RX5, "asDream", "(I)I"⟩
def RX6 : String := "WovenRoads$Roads"
def TX6 : u_T := fun k => match k with
  | 0 => ("WovenRoads$Roads", "ground", "LWovenRoads$Land;", true)
  | 1 => ("WovenRoads$Roads", "right", "I", false)
  | _ => ("WovenRoads$Roads", "down", "I", false)
def tyX6 : Nat → FieldType := fun k => match k with
  | 0 => .object "WovenRoads$Land"
  | 1 => .int
  | _ => .int
abbrev wsX60 : List Cond := u_ws RX6 TX6 3
theorem nmX6 : ∀ a, a < 3 → ∀ b, b < 3 → a ≠ b → (TX6 a).2.1 ≠ (TX6 b).2.1 := by decide +kernel
theorem tyX6_ok : ∀ k, k < 3 → parseFieldDescriptor (TX6 k).2.2.1 = some (tyX6 k) := by decide +kernel
abbrev cX6_init : ByteArray := prog_8_method_1_code
def yX6_init : MethodName := ⟨RX6, "<init>", "(LWovenRoads$Land;)V"⟩
abbrev cX6_lay : ByteArray := prog_8_method_2_code
def yX6_lay : MethodName := ⟨RX6, "lay", "(LWovenRoads$Bolts;)V"⟩
abbrev cX6_layWhereSlope : ByteArray := prog_8_method_3_code
def yX6_layWhereSlope : MethodName := ⟨RX6, "layWhereSlope", "(I)V"⟩
abbrev cX6_layBetween : ByteArray := prog_8_method_4_code
def yX6_layBetween : MethodName := ⟨RX6, "layBetween", "(II)V"⟩
abbrev cX6_goes : ByteArray := prog_8_method_5_code
def yX6_goes : MethodName := ⟨RX6, "goes", "(II)Z"⟩
abbrev cX6_spread : ByteArray := prog_8_method_6_code
def yX6_spread : MethodName := ⟨RX6, "spread", "(I)I"⟩
abbrev cX6_reach : ByteArray := prog_8_method_7_code
def yX6_reach : MethodName := ⟨RX6, "reach", "(II)I"⟩
abbrev cX6_pieces : ByteArray := prog_8_method_8_code
def yX6_pieces : MethodName := ⟨RX6, "pieces", "()I"⟩
abbrev cX6_steepest : ByteArray := prog_8_method_9_code
def yX6_steepest : MethodName := ⟨RX6, "steepest", "()I"⟩
abbrev cX6_fewestDarners : ByteArray := prog_8_method_10_code
def yX6_fewestDarners : MethodName := ⟨RX6, "fewestDarners", "(I)I"⟩
def RX7 : String := "WovenRoads$Row"
def TX7 : u_T := fun k => match k with
  | _ => ("WovenRoads$Row", "numbers", "[I", true)
def tyX7 : Nat → FieldType := fun k => match k with
  | _ => .array .int
abbrev wsX70 : List Cond := u_ws RX7 TX7 1
theorem nmX7 : ∀ a, a < 1 → ∀ b, b < 1 → a ≠ b → (TX7 a).2.1 ≠ (TX7 b).2.1 := by decide +kernel
theorem tyX7_ok : ∀ k, k < 1 → parseFieldDescriptor (TX7 k).2.2.1 = some (tyX7 k) := by decide +kernel
abbrev cX7_init : ByteArray := prog_9_method_1_code
def yX7_init : MethodName := ⟨RX7, "<init>", "(I)V"⟩
abbrev cX7_get : ByteArray := prog_9_method_2_code
def yX7_get : MethodName := ⟨RX7, "get", "(I)I"⟩
abbrev cX7_put : ByteArray := prog_9_method_3_code
def yX7_put : MethodName := ⟨RX7, "put", "(II)V"⟩
abbrev cX7_fill : ByteArray := prog_9_method_4_code
def yX7_fill : MethodName := ⟨RX7, "fill", "(I)V"⟩
def RX8 : String := "WovenRoads$Walk"
def TX8 : u_T := fun k => match k with
  | 0 => ("WovenRoads$Walk", "ground", "LWovenRoads$Land;", true)
  | 1 => ("WovenRoads$Walk", "bolts", "LWovenRoads$Bolts;", true)
  | 2 => ("WovenRoads$Walk", "roads", "LWovenRoads$Roads;", true)
  | _ => ("WovenRoads$Walk", "times", "LWovenRoads$Row;", true)
def tyX8 : Nat → FieldType := fun k => match k with
  | 0 => .object "WovenRoads$Land"
  | 1 => .object "WovenRoads$Bolts"
  | 2 => .object "WovenRoads$Roads"
  | _ => .object "WovenRoads$Row"
abbrev wsX80 : List Cond := u_ws RX8 TX8 4
theorem nmX8 : ∀ a, a < 4 → ∀ b, b < 4 → a ≠ b → (TX8 a).2.1 ≠ (TX8 b).2.1 := by decide +kernel
theorem tyX8_ok : ∀ k, k < 4 → parseFieldDescriptor (TX8 k).2.2.1 = some (tyX8 k) := by decide +kernel
abbrev cX8_init : ByteArray := prog_10_method_1_code
def yX8_init : MethodName := ⟨RX8, "<init>", "(LWovenRoads$Land;LWovenRoads$Bolts;LWovenRoads$Roads;)V"⟩
abbrev cX8_soonest : ByteArray := prog_10_method_2_code
def yX8_soonest : MethodName := ⟨RX8, "soonest", "(II)I"⟩
abbrev cX8_goOn : ByteArray := prog_10_method_3_code
def yX8_goOn : MethodName := ⟨RX8, "goOn", "(II)Z"⟩
def RX9 : String := "WovenRoads$Weaving"
def TX9 : u_T := fun k => match k with
  | 0 => ("WovenRoads$Weaving", "ground", "LWovenRoads$Land;", true)
  | 1 => ("WovenRoads$Weaving", "roads", "LWovenRoads$Roads;", true)
  | 2 => ("WovenRoads$Weaving", "possible", "LWovenRoads$Roads;", true)
  | _ => ("WovenRoads$Weaving", "joinable", "LWovenRoads$Row;", true)
def tyX9 : Nat → FieldType := fun k => match k with
  | 0 => .object "WovenRoads$Land"
  | 1 => .object "WovenRoads$Roads"
  | 2 => .object "WovenRoads$Roads"
  | _ => .object "WovenRoads$Row"
abbrev wsX90 : List Cond := u_ws RX9 TX9 4
theorem nmX9 : ∀ a, a < 4 → ∀ b, b < 4 → a ≠ b → (TX9 a).2.1 ≠ (TX9 b).2.1 := by decide +kernel
theorem tyX9_ok : ∀ k, k < 4 → parseFieldDescriptor (TX9 k).2.2.1 = some (tyX9 k) := by decide +kernel
abbrev cX9_init : ByteArray := prog_11_method_1_code
def yX9_init : MethodName := ⟨RX9, "<init>", "(LWovenRoads$Land;LWovenRoads$Roads;)V"⟩
abbrev cX9_leastSlope : ByteArray := prog_11_method_2_code
def yX9_leastSlope : MethodName := ⟨RX9, "leastSlope", "()I"⟩
abbrev cX9_fewestElls : ByteArray := prog_11_method_3_code
def yX9_fewestElls : MethodName := ⟨RX9, "fewestElls", "()I"⟩
abbrev cX9_cellsJoined : ByteArray := prog_11_method_4_code
def yX9_cellsJoined : MethodName := ⟨RX9, "cellsJoined", "(II)I"⟩
abbrev cX9_cellsWherePartsMeet : ByteArray := prog_11_method_5_code
def yX9_cellsWherePartsMeet : MethodName := ⟨RX9, "cellsWherePartsMeet", "(II)I"⟩
abbrev cX9_placeOf : ByteArray := prog_11_method_6_code
def yX9_placeOf : MethodName := ⟨RX9, "placeOf", "(II)I"⟩
def RX10 : String := "WovenRoads"
def TX10 : u_T := fun k => match k with
  | 0 => ("WovenRoads", "ground", "LWovenRoads$Land;", true)
  | 1 => ("WovenRoads", "text", "LWovenRoads$LandText;", true)
  | 2 => ("WovenRoads", "bolts", "LWovenRoads$Bolts;", true)
  | 3 => ("WovenRoads", "past", "LWovenRoads$Past;", true)
  | 4 => ("WovenRoads", "images", "LWovenRoads$Row;", true)
  | 5 => ("WovenRoads", "keptImages", "I", false)
  | 6 => ("WovenRoads", "roads", "LWovenRoads$Roads;", true)
  | 7 => ("WovenRoads", "walk", "LWovenRoads$Walk;", true)
  | 8 => ("WovenRoads", "weaving", "LWovenRoads$Weaving;", true)
  | 9 => ("WovenRoads", "fortune", "LWovenRoads$Odds;", true)
  | _ => ("WovenRoads", "rates", "LWovenRoads$Rates;", true)
def tyX10 : Nat → FieldType := fun k => match k with
  | 0 => .object "WovenRoads$Land"
  | 1 => .object "WovenRoads$LandText"
  | 2 => .object "WovenRoads$Bolts"
  | 3 => .object "WovenRoads$Past"
  | 4 => .object "WovenRoads$Row"
  | 5 => .int
  | 6 => .object "WovenRoads$Roads"
  | 7 => .object "WovenRoads$Walk"
  | 8 => .object "WovenRoads$Weaving"
  | 9 => .object "WovenRoads$Odds"
  | _ => .object "WovenRoads$Rates"
abbrev wsX100 : List Cond := u_ws RX10 TX10 11
theorem nmX10 : ∀ a, a < 11 → ∀ b, b < 11 → a ≠ b → (TX10 a).2.1 ≠ (TX10 b).2.1 := by decide +kernel
theorem tyX10_ok : ∀ k, k < 11 → parseFieldDescriptor (TX10 k).2.2.1 = some (tyX10 k) := by decide +kernel
abbrev cX10_init : ByteArray := prog_1_method_1_code
def yX10_init : MethodName := ⟨RX10, "<init>", "()V"⟩
abbrev cX10_type : ByteArray := prog_1_method_2_code
def yX10_type : MethodName := ⟨RX10, "type", "(I)I"⟩
abbrev cX10_clear : ByteArray := prog_1_method_3_code
def yX10_clear : MethodName := ⟨RX10, "clear", "()I"⟩
abbrev cX10_land : ByteArray := prog_1_method_4_code
def yX10_land : MethodName := ⟨RX10, "land", "()I"⟩
abbrev cX10_height : ByteArray := prog_1_method_5_code
def yX10_height : MethodName := ⟨RX10, "height", "(I)I"⟩
abbrev cX10_town : ByteArray := prog_1_method_6_code
def yX10_town : MethodName := ⟨RX10, "town", "(I)I"⟩
abbrev cX10_bolt : ByteArray := prog_1_method_7_code
def yX10_bolt : MethodName := ⟨RX10, "bolt", "(II)I"⟩
abbrev cX10_card : ByteArray := prog_1_method_8_code
def yX10_card : MethodName := ⟨RX10, "card", "(II)I"⟩
abbrev cX10_road : ByteArray := prog_1_method_9_code
def yX10_road : MethodName := ⟨RX10, "road", "(II)I"⟩
abbrev cX10_now : ByteArray := prog_1_method_10_code
def yX10_now : MethodName := ⟨RX10, "now", "(I)I"⟩
abbrev cX10_begins : ByteArray := prog_1_method_11_code
def yX10_begins : MethodName := ⟨RX10, "begins", "(I)I"⟩
abbrev cX10_weaves : ByteArray := prog_1_method_12_code
def yX10_weaves : MethodName := ⟨RX10, "weaves", "(II)I"⟩
abbrev cX10_turnAbout : ByteArray := prog_1_method_13_code
def yX10_turnAbout : MethodName := ⟨RX10, "turnAbout", "(I)I"⟩
abbrev cX10_rain : ByteArray := prog_1_method_14_code
def yX10_rain : MethodName := ⟨RX10, "rain", "()I"⟩
abbrev cX10_undo : ByteArray := prog_1_method_15_code
def yX10_undo : MethodName := ⟨RX10, "undo", "()I"⟩
abbrev cX10_joined : ByteArray := prog_1_method_16_code
def yX10_joined : MethodName := ⟨RX10, "joined", "(II)I"⟩
abbrev cX10_toWeave : ByteArray := prog_1_method_17_code
def yX10_toWeave : MethodName := ⟨RX10, "toWeave", "()I"⟩
abbrev cX10_way : ByteArray := prog_1_method_18_code
def yX10_way : MethodName := ⟨RX10, "way", "(II)I"⟩
abbrev cX10_darners : ByteArray := prog_1_method_19_code
def yX10_darners : MethodName := ⟨RX10, "darners", "(I)I"⟩
abbrev cX10_odds : ByteArray := prog_1_method_20_code
def yX10_odds : MethodName := ⟨RX10, "odds", "(III)I"⟩
abbrev cX10_wrong : ByteArray := prog_1_method_21_code
def yX10_wrong : MethodName := ⟨RX10, "wrong", "(III)I"⟩
abbrev cX10_look : ByteArray := prog_1_method_22_code
def yX10_look : MethodName := ⟨RX10, "look", "(II)I"⟩
abbrev cX10_rate : ByteArray := prog_1_method_23_code
def yX10_rate : MethodName := ⟨RX10, "rate", "(II)I"⟩
abbrev cX10_keep : ByteArray := prog_1_method_24_code
def yX10_keep : MethodName := ⟨RX10, "keep", "(I)I"⟩
abbrev cX10_back : ByteArray := prog_1_method_25_code
def yX10_back : MethodName := ⟨RX10, "back", "(I)I"⟩
abbrev cX10_count : ByteArray := prog_1_method_26_code
def yX10_count : MethodName := ⟨RX10, "count", "(I)I"⟩
abbrev cX10_trace : ByteArray := prog_1_method_27_code
def yX10_trace : MethodName := ⟨RX10, "trace", "()J"⟩
abbrev cX10_isCard : ByteArray := prog_1_method_28_code
def yX10_isCard : MethodName := ⟨RX10, "isCard", "(I)Z"⟩
abbrev cX10_isImage : ByteArray := prog_1_method_29_code
def yX10_isImage : MethodName := ⟨RX10, "isImage", "(I)Z"⟩
abbrev cX10_bit : ByteArray := prog_1_method_30_code
def yX10_bit : MethodName := ⟨RX10, "bit", "(I)I"⟩
abbrev cX10_commonDivisor : ByteArray := prog_1_method_31_code
def yX10_commonDivisor : MethodName := ⟨RX10, "commonDivisor", "(II)I"⟩
def RX11 : String := "WovenRoadsModel"
def TX11 : u_T := fun k => match k with
  | 0 => ("WovenRoadsModel", "thrown", "I", false)
  | 1 => ("WovenRoadsModel", "trace", "J", false)
  | 2 => ("WovenRoadsModel", "text", "[I", true)
  | 3 => ("WovenRoadsModel", "typed", "I", false)
  | 4 => ("WovenRoadsModel", "next", "I", false)
  | 5 => ("WovenRoadsModel", "token", "I", false)
  | 6 => ("WovenRoadsModel", "place", "I", false)
  | 7 => ("WovenRoadsModel", "value", "I", false)
  | 8 => ("WovenRoadsModel", "fault", "I", false)
  | 9 => ("WovenRoadsModel", "many", "[I", true)
  | 10 => ("WovenRoadsModel", "heights", "[I", true)
  | 11 => ("WovenRoadsModel", "towns", "[I", true)
  | 12 => ("WovenRoadsModel", "isSlopeTold", "Z", false)
  | 13 => ("WovenRoadsModel", "s", "[I", true)
  | 14 => ("WovenRoadsModel", "w", "[I", true)
  | 15 => ("WovenRoadsModel", "kept", "[I", true)
  | 16 => ("WovenRoadsModel", "isKept", "[Z", true)
  | 17 => ("WovenRoadsModel", "undos", "[I", true)
  | 18 => ("WovenRoadsModel", "undoMany", "I", false)
  | 19 => ("WovenRoadsModel", "roads", "[I", true)
  | 20 => ("WovenRoadsModel", "touched", "[I", true)
  | 21 => ("WovenRoadsModel", "far", "[I", true)
  | _ => ("WovenRoadsModel", "tree", "[I", true)
def tyX11 : Nat → FieldType := fun k => match k with
  | 0 => .int
  | 1 => .long
  | 2 => .array .int
  | 3 => .int
  | 4 => .int
  | 5 => .int
  | 6 => .int
  | 7 => .int
  | 8 => .int
  | 9 => .array .int
  | 10 => .array .int
  | 11 => .array .int
  | 12 => .boolean
  | 13 => .array .int
  | 14 => .array .int
  | 15 => .array .int
  | 16 => .array .boolean
  | 17 => .array .int
  | 18 => .int
  | 19 => .array .int
  | 20 => .array .int
  | 21 => .array .int
  | _ => .array .int
abbrev wsX110 : List Cond := u_ws RX11 TX11 23
theorem nmX11 : ∀ a, a < 23 → ∀ b, b < 23 → a ≠ b → (TX11 a).2.1 ≠ (TX11 b).2.1 := by decide +kernel
theorem tyX11_ok : ∀ k, k < 23 → parseFieldDescriptor (TX11 k).2.2.1 = some (tyX11 k) := by decide +kernel
abbrev cX11_init : ByteArray := prog_13_method_1_code
def yX11_init : MethodName := ⟨RX11, "<init>", "()V"⟩
abbrev cX11_in : ByteArray := prog_13_method_3_code
def yX11_in : MethodName := ⟨RX11, "in", "(III)Z"⟩
abbrev cX11_ones : ByteArray := prog_13_method_4_code
def yX11_ones : MethodName := ⟨RX11, "ones", "(I)I"⟩
abbrev cX11_type : ByteArray := prog_13_method_5_code
def yX11_type : MethodName := ⟨RX11, "type", "(I)I"⟩
abbrev cX11_clear : ByteArray := prog_13_method_6_code
def yX11_clear : MethodName := ⟨RX11, "clear", "()I"⟩
abbrev cX11_letterAt : ByteArray := prog_13_method_7_code
def yX11_letterAt : MethodName := ⟨RX11, "letterAt", "(I)I"⟩
abbrev cX11_advances : ByteArray := prog_13_method_8_code
def yX11_advances : MethodName := ⟨RX11, "advances", "()V"⟩
abbrev cX11_isWell : ByteArray := prog_13_method_9_code
def yX11_isWell : MethodName := ⟨RX11, "isWell", "()Z"⟩
abbrev cX11_takes : ByteArray := prog_13_method_10_code
def yX11_takes : MethodName := ⟨RX11, "takes", "(Z)I"⟩
abbrev cX11_number : ByteArray := prog_13_method_11_code
def yX11_number : MethodName := ⟨RX11, "number", "(II)I"⟩
abbrev cX11_isTaken : ByteArray := prog_13_method_12_code
def yX11_isTaken : MethodName := ⟨RX11, "isTaken", "(I)Z"⟩
abbrev cX11_mayBegin : ByteArray := prog_13_method_13_code
def yX11_mayBegin : MethodName := ⟨RX11, "mayBegin", "(I)Z"⟩
abbrev cX11_readsItem : ByteArray := prog_13_method_14_code
def yX11_readsItem : MethodName := ⟨RX11, "readsItem", "(I)V"⟩
abbrev cX11_land : ByteArray := prog_13_method_15_code
def yX11_land : MethodName := ⟨RX11, "land", "()I"⟩
abbrev cX11_settles : ByteArray := prog_13_method_16_code
def yX11_settles : MethodName := ⟨RX11, "settles", "()V"⟩
abbrev cX11_cells : ByteArray := prog_13_method_17_code
def yX11_cells : MethodName := ⟨RX11, "cells", "()I"⟩
abbrev cX11_isCell : ByteArray := prog_13_method_18_code
def yX11_isCell : MethodName := ⟨RX11, "isCell", "(I)Z"⟩
abbrev cX11_isBolt : ByteArray := prog_13_method_19_code
def yX11_isBolt : MethodName := ⟨RX11, "isBolt", "(I)Z"⟩
abbrev cX11_height : ByteArray := prog_13_method_20_code
def yX11_height : MethodName := ⟨RX11, "height", "(I)I"⟩
abbrev cX11_town : ByteArray := prog_13_method_21_code
def yX11_town : MethodName := ⟨RX11, "town", "(I)I"⟩
abbrev cX11_leads : ByteArray := prog_13_method_22_code
def yX11_leads : MethodName := ⟨RX11, "leads", "(II)I"⟩
abbrev cX11_step : ByteArray := prog_13_method_23_code
def yX11_step : MethodName := ⟨RX11, "step", "(II)I"⟩
abbrev cX11_goes : ByteArray := prog_13_method_24_code
def yX11_goes : MethodName := ⟨RX11, "goes", "(II)I"⟩
abbrev cX11_firstOf : ByteArray := prog_13_method_25_code
def yX11_firstOf : MethodName := ⟨RX11, "firstOf", "([II)I"⟩
abbrev cX11_cardsOf : ByteArray := prog_13_method_26_code
def yX11_cardsOf : MethodName := ⟨RX11, "cardsOf", "([II)I"⟩
abbrev cX11_cardAt : ByteArray := prog_13_method_27_code
def yX11_cardAt : MethodName := ⟨RX11, "cardAt", "([III)I"⟩
abbrev cX11_behind : ByteArray := prog_13_method_28_code
def yX11_behind : MethodName := ⟨RX11, "behind", "([III)I"⟩
abbrev cX11_endOf : ByteArray := prog_13_method_29_code
def yX11_endOf : MethodName := ⟨RX11, "endOf", "([II)I"⟩
abbrev cX11_upOf : ByteArray := prog_13_method_30_code
def yX11_upOf : MethodName := ⟨RX11, "upOf", "(I)I"⟩
abbrev cX11_bolt : ByteArray := prog_13_method_31_code
def yX11_bolt : MethodName := ⟨RX11, "bolt", "(II)I"⟩
abbrev cX11_card : ByteArray := prog_13_method_32_code
def yX11_card : MethodName := ⟨RX11, "card", "(II)I"⟩
abbrev cX11_builds : ByteArray := prog_13_method_33_code
def yX11_builds : MethodName := ⟨RX11, "builds", "([I)V"⟩
abbrev cX11_road : ByteArray := prog_13_method_34_code
def yX11_road : MethodName := ⟨RX11, "road", "(II)I"⟩
abbrev cX11_spreads : ByteArray := prog_13_method_35_code
def yX11_spreads : MethodName := ⟨RX11, "spreads", "(I)V"⟩
abbrev cX11_piecesOf : ByteArray := prog_13_method_36_code
def yX11_piecesOf : MethodName := ⟨RX11, "piecesOf", "([I)I"⟩
abbrev cX11_isTown : ByteArray := prog_13_method_37_code
def yX11_isTown : MethodName := ⟨RX11, "isTown", "(I)Z"⟩
abbrev cX11_nowhere : ByteArray := prog_13_method_38_code
def yX11_nowhere : MethodName := ⟨RX11, "nowhere", "()I"⟩
abbrev cX11_steep : ByteArray := prog_13_method_39_code
def yX11_steep : MethodName := ⟨RX11, "steep", "()I"⟩
abbrev cX11_ells : ByteArray := prog_13_method_40_code
def yX11_ells : MethodName := ⟨RX11, "ells", "()I"⟩
abbrev cX11_couldBe : ByteArray := prog_13_method_41_code
def yX11_couldBe : MethodName := ⟨RX11, "couldBe", "(I)Z"⟩
abbrev cX11_leastSlope : ByteArray := prog_13_method_42_code
def yX11_leastSlope : MethodName := ⟨RX11, "leastSlope", "()I"⟩
abbrev cX11_now : ByteArray := prog_13_method_43_code
def yX11_now : MethodName := ⟨RX11, "now", "(I)I"⟩
abbrev cX11_notes : ByteArray := prog_13_method_44_code
def yX11_notes : MethodName := ⟨RX11, "notes", "()V"⟩
abbrev cX11_begins : ByteArray := prog_13_method_45_code
def yX11_begins : MethodName := ⟨RX11, "begins", "(I)I"⟩
abbrev cX11_weaves : ByteArray := prog_13_method_46_code
def yX11_weaves : MethodName := ⟨RX11, "weaves", "(II)I"⟩
abbrev cX11_turnAbout : ByteArray := prog_13_method_47_code
def yX11_turnAbout : MethodName := ⟨RX11, "turnAbout", "(I)I"⟩
abbrev cX11_frays : ByteArray := prog_13_method_48_code
def yX11_frays : MethodName := ⟨RX11, "frays", "([I)I"⟩
abbrev cX11_rain : ByteArray := prog_13_method_49_code
def yX11_rain : MethodName := ⟨RX11, "rain", "()I"⟩
abbrev cX11_undo : ByteArray := prog_13_method_50_code
def yX11_undo : MethodName := ⟨RX11, "undo", "()I"⟩
abbrev cX11_joined : ByteArray := prog_13_method_51_code
def yX11_joined : MethodName := ⟨RX11, "joined", "(II)I"⟩
abbrev cX11_grows : ByteArray := prog_13_method_52_code
def yX11_grows : MethodName := ⟨RX11, "grows", "(I)V"⟩
abbrev cX11_toWeave : ByteArray := prog_13_method_53_code
def yX11_toWeave : MethodName := ⟨RX11, "toWeave", "()I"⟩
abbrev cX11_way : ByteArray := prog_13_method_54_code
def yX11_way : MethodName := ⟨RX11, "way", "(II)I"⟩
abbrev cX11_areNear : ByteArray := prog_13_method_55_code
def yX11_areNear : MethodName := ⟨RX11, "areNear", "(II)Z"⟩
abbrev cX11_darners : ByteArray := prog_13_method_56_code
def yX11_darners : MethodName := ⟨RX11, "darners", "(I)I"⟩
abbrev cX11_power : ByteArray := prog_13_method_57_code
def yX11_power : MethodName := ⟨RX11, "power", "(II)I"⟩
abbrev cX11_choose : ByteArray := prog_13_method_58_code
def yX11_choose : MethodName := ⟨RX11, "choose", "(II)I"⟩
abbrev cX11_gcd : ByteArray := prog_13_method_59_code
def yX11_gcd : MethodName := ⟨RX11, "gcd", "(II)I"⟩
abbrev cX11_odds : ByteArray := prog_13_method_60_code
def yX11_odds : MethodName := ⟨RX11, "odds", "(III)I"⟩
abbrev cX11_otherwise : ByteArray := prog_13_method_61_code
def yX11_otherwise : MethodName := ⟨RX11, "otherwise", "(IIII)I"⟩
abbrev cX11_wrong : ByteArray := prog_13_method_62_code
def yX11_wrong : MethodName := ⟨RX11, "wrong", "(III)I"⟩
abbrev cX11_look : ByteArray := prog_13_method_63_code
def yX11_look : MethodName := ⟨RX11, "look", "(II)I"⟩
abbrev cX11_rate : ByteArray := prog_13_method_64_code
def yX11_rate : MethodName := ⟨RX11, "rate", "(II)I"⟩
abbrev cX11_keep : ByteArray := prog_13_method_65_code
def yX11_keep : MethodName := ⟨RX11, "keep", "(I)I"⟩
abbrev cX11_back : ByteArray := prog_13_method_66_code
def yX11_back : MethodName := ⟨RX11, "back", "(I)I"⟩
abbrev cX11_count : ByteArray := prog_13_method_67_code
def yX11_count : MethodName := ⟨RX11, "count", "(I)I"⟩
abbrev cX11_trace : ByteArray := prog_13_method_68_code
def yX11_trace : MethodName := ⟨RX11, "trace", "()J"⟩
def RJ6 : String := "java/lang/Integer"
abbrev cJ6_bitCount_0f7a4 : ByteArray := prog_14_method_49_code
def yJ6_bitCount_0f7a4 : MethodName := ⟨RJ6, "bitCount", "(I)I"⟩
def RJ9 : String := "java/lang/Math"
abbrev cJ9_abs_0f7a4 : ByteArray := prog_15_method_59_code
def yJ9_abs_0f7a4 : MethodName := ⟨RJ9, "abs", "(I)I"⟩
abbrev cJ9_max_7cf53 : ByteArray := prog_15_method_65_code
def yJ9_max_7cf53 : MethodName := ⟨RJ9, "max", "(II)I"⟩
abbrev cJ9_min_7cf53 : ByteArray := prog_15_method_69_code
def yJ9_min_7cf53 : MethodName := ⟨RJ9, "min", "(II)I"⟩
def RL : String := "WovenRoadsLaw"
abbrev cL_law : ByteArray := code
def yL_law : MethodName := ⟨RL, "law", "([I)Z"⟩
abbrev vwCl : List vw_C := [(RX0, TX0, 2), (RX1, TX1, 6), (RX2, TX2, 9), (RX3, TX3, 3), (RX4, TX4, 4), (RX5, TX5, 3), (RX6, TX6, 3), (RX7, TX7, 1), (RX8, TX8, 4), (RX9, TX9, 4), (RX10, TX10, 11), (RX11, TX11, 23)]
end
section
/-! ===== worlds with numbered cells: cells are numbered, a map gives each number its address ===== -/
abbrev eC : Type := (Bool × Nat × (Nat → Int32)) ⊕ (Nat × List Value)
abbrev eW : Type := List eC
def e_cv (r : Nat → Nat) : Value → Value
  | .ref i => .ref (r i)
  | v => v
def e_cc (cI cZ : ClassId) (r : Nat → Nat) : eC → va_E
  | .inl a => .inl (bif a.1 then cZ else cI, a.2.1, .inl a.2.2)
  | .inr o => .inr (o.1, o.2.map (e_cv r))
def e_cw (cI cZ : ClassId) (r : Nat → Nat) (w : eW) : va_W := w.mapIdx (fun i c => (r i, e_cc cI cZ r c))
abbrev e_ty (cI cZ : ClassId) : List (ClassId × FieldType) := [(cI, .int), (cZ, .boolean)]
def e_L (r : Nat → Nat) (L : List (Nat × Value)) : List (Nat × Value) := L.map (fun q => (q.1, e_cv r q.2))
theorem e_cv_cat (r : Nat → Nat) (v : Value) : (e_cv r v).category = v.category := by cases v <;> rfl
theorem e_cw_get (cI cZ : ClassId) (r : Nat → Nat) (w : eW) (i : Nat) : (e_cw cI cZ r w)[i]? = (w[i]?).map (fun c => (r i, e_cc cI cZ r c)) := by
  simp [e_cw, List.getElem?_mapIdx]
theorem e_cw_at {cI cZ : ClassId} {r : Nat → Nat} {w : eW} {i : Nat} {c : eC} (h : w[i]? = some c) : (e_cw cI cZ r w)[i]? = some (r i, e_cc cI cZ r c) := by
  rw [e_cw_get, h]; rfl
theorem e_cw_set (cI cZ : ClassId) (r : Nat → Nat) (w : eW) (i : Nat) (c : eC) : e_cw cI cZ r (w.set i c) = (e_cw cI cZ r w).set i (r i, e_cc cI cZ r c) := by
  apply List.ext_getElem?
  intro j
  rw [e_cw_get, List.getElem?_set, List.getElem?_set, e_cw_get]
  have hl : (e_cw cI cZ r w).length = w.length := by simp [e_cw]
  rw [hl]
  by_cases h : i = j
  · subst h
    by_cases h2 : i < w.length <;> simp [h2]
  · simp [h]
theorem e_L_filter (r : Nat → Nat) (L : List (Nat × Value)) (i : Nat) : (e_L r L).filter (fun q => !(q.1 == i) && !(q.1 + 1 == i && q.2.category == 2)) = e_L r (L.filter (fun q => !(q.1 == i) && !(q.1 + 1 == i && q.2.category == 2))) := by
  unfold e_L
  rw [List.filter_map]
  congr 1
  apply List.filter_congr
  intro x _
  simp [Function.comp, e_cv_cat]
theorem e_L_get (r : Nat → Nat) (L : List (Nat × Value)) (k : Nat) : (e_L r L)[k]? = (L[k]?).map (fun q => (q.1, e_cv r q.2)) := by simp [e_L]
theorem e_L_pick (r : Nat → Nat) (L : List (Nat × Value)) (ks : List Nat) : lv_pick (e_L r L) ks = e_L r (lv_pick L ks) := by
  unfold lv_pick
  induction ks with
  | nil => rfl
  | cons k ks ih =>
    rw [List.filterMap_cons, List.filterMap_cons, e_L_get]
    cases h : L[k]? with
    | none => simpa using ih
    | some q => simp [e_L] at ih ⊢; exact ih
/-! ===== the judgement: the machine from a frame on, over a world of numbered cells ===== -/
def EV (p : Program) (l : Launch) (e : Env) (R : Room) (s : State) (m : MethodId) (args : Array Value) (below : List Frame) (meth : Method) (c : Code) (D : va_G) (cI cZ : ClassId) (A : Nat → Prop) (H0 : Heap) (nL : Nat) (Q : State → Prop) (cells slots : Nat) (r : Nat → Nat) (pc : Nat) (L : List (Nat × Value)) (S : List Value) (w : eW) : Prop :=
  ∀ (H : Heap) (locs : List Loc) (ls : Array Slot), va_P D vwCl (e_cw cI cZ r w) H → va_D A (e_cw cI cZ r w) → va_S A H0 H locs → lv_has ls nL (e_L r L) →
    W p l e R s m args below meth c H locs cells slots Q (F0 m pc ls (S.map (e_cv r)))
/-- the words that move with every call -/
def eT : List Cond := lw_tbl.filter goodWord
/-- the words on nest mates' members -/
def eNw : List Cond := tables_1.filter (fun w => match w with | .methodLinkNest _ _ _ _ => true | _ => false)
def eNest (U : State) : Prop := ∀ w ∈ eNw, va_Nw w U
theorem eNest_warm {s U : State} (hW : s.WarmedH U.vm) (h : eNest s) : eNest U := by
  intro w hw
  have h1 := h w hw
  have h2 := (List.mem_filter.mp hw).2
  cases w <;> first | exact va_Nw.warmM hW h1 | cases h2
theorem eNest_same {s U : State} (hv : s.vm = U.vm) (h : eNest s) : eNest U := by
  intro w hw
  have h1 := h w hw
  have h2 := (List.mem_filter.mp hw).2
  cases w <;> first | exact va_Nw.same rfl hv h1 | cases h2
/-- what stands fast in a method's body -/
def eX (p : Program) (s : State) (m : MethodId) (args : Array Value) (meth : Method) (c : Code) (D : va_G) (cI cZ : ClassId) (A : Nat → Prop) (H0 : Heap) (y : MethodName) (cc : ByteArray) (nL : Nat) (ret : Option FieldType) : Prop :=
  p.tables.exec = Jvm.exec ∧ c.code = cc ∧ c.maxLocals = nL ∧ s.vm.findClass y.cls = some m.cls ∧ (∀ w ∈ eT, w.before args s = true) ∧ meth.sig.returnType = ret ∧ meth.locks = false ∧ va_K D vwCl (e_ty cI cZ) s ∧ eNest s ∧ (∀ q : Nat, H0.size ≤ q → A q) ∧ meth.name = y.name
section EVR
variable {p : Program} {l : Launch} {e : Env} {R : Room} {s : State} {m : MethodId} {args : Array Value} {below : List Frame} {meth : Method} {c : Code} {D : va_G} {cI cZ : ClassId} {A : Nat → Prop} {H0 : Heap} {nL : Nat} {Q : State → Prop} {cells slots : Nat} {r : Nat → Nat} {pc : Nat} {L L' : List (Nat × Value)} {S : List Value} {w : eW}
variable {y : MethodName} {cc : ByteArray} {ret : Option FieldType}
theorem ev_weak (ks : List Nat) (hL : lv_pick L ks = L') (k : EV p l e R s m args below meth c D cI cZ A H0 nL Q cells slots r pc L' S w) : EV p l e R s m args below meth c D cI cZ A H0 nL Q cells slots r pc L S w := by
  intro H locs ls hP hD hS hl
  exact k H locs ls hP hD hS (lv_sub hl ks (by rw [e_L_pick, hL]))
theorem ev_iconst (X : eX p s m args meth c D cI cZ A H0 y cc nL ret) {n : Int} {v : Int32} (hd : decode cc pc = .ok (.iconst n, 1)) (hv : Int32.ofInt n = v) (k : EV p l e R s m args below meth c D cI cZ A H0 nL Q cells slots r (pc + 1) L (.int v :: S) w) : EV p l e R s m args below meth c D cI cZ A H0 nL Q cells slots r pc L S w :=
  fun H locs ls hP hD hS hl => lv_iconst X.1 X.2.1 hd hv (k H locs ls hP hD hS hl)
theorem ev_bipush (X : eX p s m args meth c D cI cZ A H0 y cc nL ret) {n : Int} {v : Int32} (hd : decode cc pc = .ok (.bipush n, 2)) (hv : (Int8.ofInt n).toInt32 = v) (k : EV p l e R s m args below meth c D cI cZ A H0 nL Q cells slots r (pc + 2) L (.int v :: S) w) : EV p l e R s m args below meth c D cI cZ A H0 nL Q cells slots r pc L S w :=
  fun H locs ls hP hD hS hl => lv_bipush X.1 X.2.1 hd hv (k H locs ls hP hD hS hl)
theorem ev_sipush (X : eX p s m args meth c D cI cZ A H0 y cc nL ret) {n : Int} {v : Int32} (hd : decode cc pc = .ok (.sipush n, 3)) (hv : (Int16.ofInt n).toInt32 = v) (k : EV p l e R s m args below meth c D cI cZ A H0 nL Q cells slots r (pc + 3) L (.int v :: S) w) : EV p l e R s m args below meth c D cI cZ A H0 nL Q cells slots r pc L S w :=
  fun H locs ls hP hD hS hl => lv_sipush X.1 X.2.1 hd hv (k H locs ls hP hD hS hl)
theorem ev_lconst (X : eX p s m args meth c D cI cZ A H0 y cc nL ret) {n : Fin 2} {v : Int64} (hd : decode cc pc = .ok (.lconst n, 1)) (hv : Int64.ofNat (n : Nat) = v) (k : EV p l e R s m args below meth c D cI cZ A H0 nL Q cells slots r (pc + 1) L (.long v :: S) w) : EV p l e R s m args below meth c D cI cZ A H0 nL Q cells slots r pc L S w :=
  fun H locs ls hP hD hS hl => lv_lconst X.1 X.2.1 hd hv (k H locs ls hP hD hS hl)
theorem ev_ldc (X : eX p s m args meth c D cI cZ A H0 y cc nL ret) {n : Nat} {v : Int32} (hm : Cond.constant y.cls n v ∈ eT) (hd : decode cc pc = .ok (.ldc n, 2)) (k : EV p l e R s m args below meth c D cI cZ A H0 nL Q cells slots r (pc + 2) L (.int v :: S) w) : EV p l e R s m args below meth c D cI cZ A H0 nL Q cells slots r pc L S w :=
  fun H locs ls hP hD hS hl => lv_ldc X.1 X.2.1 X.2.2.2.1 (X.2.2.2.2.1 _ hm) hd (k H locs ls hP hD hS hl)
theorem ev_ldcw (X : eX p s m args meth c D cI cZ A H0 y cc nL ret) {n : Nat} {v : Int32} (hm : Cond.constant y.cls n v ∈ eT) (hd : decode cc pc = .ok (.ldc_w n, 3)) (k : EV p l e R s m args below meth c D cI cZ A H0 nL Q cells slots r (pc + 3) L (.int v :: S) w) : EV p l e R s m args below meth c D cI cZ A H0 nL Q cells slots r pc L S w :=
  fun H locs ls hP hD hS hl => lv_ldcw X.1 X.2.1 X.2.2.2.1 (X.2.2.2.2.1 _ hm) hd (k H locs ls hP hD hS hl)
theorem ev_ldc2 (X : eX p s m args meth c D cI cZ A H0 y cc nL ret) {n : Nat} {v : Int64} (hm : Cond.constantLong y.cls n v ∈ eT) (hd : decode cc pc = .ok (.ldc2_w n, 3)) (k : EV p l e R s m args below meth c D cI cZ A H0 nL Q cells slots r (pc + 3) L (.long v :: S) w) : EV p l e R s m args below meth c D cI cZ A H0 nL Q cells slots r pc L S w :=
  fun H locs ls hP hD hS hl => lv_ldc2 X.1 X.2.1 X.2.2.2.1 (X.2.2.2.2.1 _ hm) hd (k H locs ls hP hD hS hl)
theorem e_at {ls : Array Slot} {j i : Nat} {v : Value} (hl : lv_has ls nL (e_L r L)) (hk : L[j]? = some (i, v)) : ls[i]? = some (.val (e_cv r v)) := lv_at hl j (by rw [e_L_get, hk]; rfl)
theorem ev_iload_n (X : eX p s m args meth c D cI cZ A H0 y cc nL ret) {n : Fin 4} {i : Nat} (j : Nat) {x : Int32} (hd : decode cc pc = .ok (.iload_n n, 1)) (hi : (n : Nat) = i) (hk : L[j]? = some (i, .int x)) (k : EV p l e R s m args below meth c D cI cZ A H0 nL Q cells slots r (pc + 1) L (.int x :: S) w) : EV p l e R s m args below meth c D cI cZ A H0 nL Q cells slots r pc L S w :=
  fun H locs ls hP hD hS hl => lv_iload_n X.1 X.2.1 hd hi (e_at hl hk) (k H locs ls hP hD hS hl)
theorem ev_iload (X : eX p s m args meth c D cI cZ A H0 y cc nL ret) {i : Nat} (j : Nat) {x : Int32} (hd : decode cc pc = .ok (.iload i, 2)) (hk : L[j]? = some (i, .int x)) (k : EV p l e R s m args below meth c D cI cZ A H0 nL Q cells slots r (pc + 2) L (.int x :: S) w) : EV p l e R s m args below meth c D cI cZ A H0 nL Q cells slots r pc L S w :=
  fun H locs ls hP hD hS hl => lv_iload X.1 X.2.1 hd (e_at hl hk) (k H locs ls hP hD hS hl)
theorem ev_aload_n (X : eX p s m args meth c D cI cZ A H0 y cc nL ret) {n : Fin 4} {i : Nat} (j : Nat) {x : Nat} (hd : decode cc pc = .ok (.aload_n n, 1)) (hi : (n : Nat) = i) (hk : L[j]? = some (i, .ref x)) (k : EV p l e R s m args below meth c D cI cZ A H0 nL Q cells slots r (pc + 1) L (.ref x :: S) w) : EV p l e R s m args below meth c D cI cZ A H0 nL Q cells slots r pc L S w :=
  fun H locs ls hP hD hS hl => lv_aload_n X.1 X.2.1 hd hi (e_at hl hk) (k H locs ls hP hD hS hl)
theorem ev_istore_n (X : eX p s m args meth c D cI cZ A H0 y cc nL ret) {n : Fin 4} {i : Nat} {x : Int32} (hd : decode cc pc = .ok (.istore_n n, 1)) (hi : (n : Nat) = i) (hn : i < nL) (hl' : (i, Value.int x) :: L.filter (fun q => !(q.1 == i) && !(q.1 + 1 == i && q.2.category == 2)) = L') (k : EV p l e R s m args below meth c D cI cZ A H0 nL Q cells slots r (pc + 1) L' S w) : EV p l e R s m args below meth c D cI cZ A H0 nL Q cells slots r pc L (.int x :: S) w :=
  fun H locs ls hP hD hS hl => lv_istore_n X.1 X.2.1 hd hi hl hn (by rw [e_L_filter]; exact congrArg (e_L r) hl') (fun ls' hl2 => k H locs ls' hP hD hS hl2)
theorem ev_istore (X : eX p s m args meth c D cI cZ A H0 y cc nL ret) {i : Nat} {x : Int32} (hd : decode cc pc = .ok (.istore i, 2)) (hn : i < nL) (hl' : (i, Value.int x) :: L.filter (fun q => !(q.1 == i) && !(q.1 + 1 == i && q.2.category == 2)) = L') (k : EV p l e R s m args below meth c D cI cZ A H0 nL Q cells slots r (pc + 2) L' S w) : EV p l e R s m args below meth c D cI cZ A H0 nL Q cells slots r pc L (.int x :: S) w :=
  fun H locs ls hP hD hS hl => lv_istore X.1 X.2.1 hd hl hn (by rw [e_L_filter]; exact congrArg (e_L r) hl') (fun ls' hl2 => k H locs ls' hP hD hS hl2)
theorem ev_astore_n (X : eX p s m args meth c D cI cZ A H0 y cc nL ret) {n : Fin 4} {i : Nat} {x : Nat} (hd : decode cc pc = .ok (.astore_n n, 1)) (hi : (n : Nat) = i) (hn : i < nL) (hl' : (i, Value.ref x) :: L.filter (fun q => !(q.1 == i) && !(q.1 + 1 == i && q.2.category == 2)) = L') (k : EV p l e R s m args below meth c D cI cZ A H0 nL Q cells slots r (pc + 1) L' S w) : EV p l e R s m args below meth c D cI cZ A H0 nL Q cells slots r pc L (.ref x :: S) w :=
  fun H locs ls hP hD hS hl => lv_astore_n X.1 X.2.1 hd hi hl hn (by rw [e_L_filter]; exact congrArg (e_L r) hl') (fun ls' hl2 => k H locs ls' hP hD hS hl2)
theorem ev_iinc (X : eX p s m args meth c D cI cZ A H0 y cc nL ret) {i : Nat} (j : Nat) {n : Int} {x v : Int32} (hd : decode cc pc = .ok (.iinc i n, 3)) (hk : L[j]? = some (i, .int x)) (hv : x + Int32.ofInt n = v) (hn : i < nL) (hl' : (i, Value.int v) :: L.filter (fun q => !(q.1 == i) && !(q.1 + 1 == i && q.2.category == 2)) = L') (k : EV p l e R s m args below meth c D cI cZ A H0 nL Q cells slots r (pc + 3) L' S w) : EV p l e R s m args below meth c D cI cZ A H0 nL Q cells slots r pc L S w :=
  fun H locs ls hP hD hS hl => lv_iinc X.1 X.2.1 hd hl (k := j) (by rw [e_L_get, hk]; rfl) hv hn (by rw [e_L_filter]; exact congrArg (e_L r) hl') (fun ls' hl2 => k H locs ls' hP hD hS hl2)
end EVR
section EVA
variable {p : Program} {l : Launch} {e : Env} {R : Room} {s : State} {m : MethodId} {args : Array Value} {below : List Frame} {meth : Method} {c : Code} {D : va_G} {cI cZ : ClassId} {A : Nat → Prop} {H0 : Heap} {nL : Nat} {Q : State → Prop} {cells slots : Nat} {r : Nat → Nat} {pc : Nat} {L L' : List (Nat × Value)} {S : List Value} {w : eW}
variable {y : MethodName} {cc : ByteArray} {ret : Option FieldType}
theorem ev_iadd (X : eX p s m args meth c D cI cZ A H0 y cc nL ret) {x v : Int32} (hd : decode cc pc = .ok (.iadd, 1)) (k : EV p l e R s m args below meth c D cI cZ A H0 nL Q cells slots r (pc + 1) L (.int (x + v) :: S) w) : EV p l e R s m args below meth c D cI cZ A H0 nL Q cells slots r pc L (.int v :: .int x :: S) w :=
  fun H locs ls hP hD hS hl => lv_iadd X.1 X.2.1 hd (k H locs ls hP hD hS hl)
theorem ev_isub (X : eX p s m args meth c D cI cZ A H0 y cc nL ret) {x v : Int32} (hd : decode cc pc = .ok (.isub, 1)) (k : EV p l e R s m args below meth c D cI cZ A H0 nL Q cells slots r (pc + 1) L (.int (x - v) :: S) w) : EV p l e R s m args below meth c D cI cZ A H0 nL Q cells slots r pc L (.int v :: .int x :: S) w :=
  fun H locs ls hP hD hS hl => lv_isub X.1 X.2.1 hd (k H locs ls hP hD hS hl)
theorem ev_imul (X : eX p s m args meth c D cI cZ A H0 y cc nL ret) {x v : Int32} (hd : decode cc pc = .ok (.imul, 1)) (k : EV p l e R s m args below meth c D cI cZ A H0 nL Q cells slots r (pc + 1) L (.int (x * v) :: S) w) : EV p l e R s m args below meth c D cI cZ A H0 nL Q cells slots r pc L (.int v :: .int x :: S) w :=
  fun H locs ls hP hD hS hl => lv_imul X.1 X.2.1 hd (k H locs ls hP hD hS hl)
theorem ev_iand (X : eX p s m args meth c D cI cZ A H0 y cc nL ret) {x v : Int32} (hd : decode cc pc = .ok (.iand, 1)) (k : EV p l e R s m args below meth c D cI cZ A H0 nL Q cells slots r (pc + 1) L (.int (x &&& v) :: S) w) : EV p l e R s m args below meth c D cI cZ A H0 nL Q cells slots r pc L (.int v :: .int x :: S) w :=
  fun H locs ls hP hD hS hl => lv_iand X.1 X.2.1 hd (k H locs ls hP hD hS hl)
theorem ev_ior (X : eX p s m args meth c D cI cZ A H0 y cc nL ret) {x v : Int32} (hd : decode cc pc = .ok (.ior, 1)) (k : EV p l e R s m args below meth c D cI cZ A H0 nL Q cells slots r (pc + 1) L (.int (x ||| v) :: S) w) : EV p l e R s m args below meth c D cI cZ A H0 nL Q cells slots r pc L (.int v :: .int x :: S) w :=
  fun H locs ls hP hD hS hl => lv_ior X.1 X.2.1 hd (k H locs ls hP hD hS hl)
theorem ev_ixor (X : eX p s m args meth c D cI cZ A H0 y cc nL ret) {x v : Int32} (hd : decode cc pc = .ok (.ixor, 1)) (k : EV p l e R s m args below meth c D cI cZ A H0 nL Q cells slots r (pc + 1) L (.int (x ^^^ v) :: S) w) : EV p l e R s m args below meth c D cI cZ A H0 nL Q cells slots r pc L (.int v :: .int x :: S) w :=
  fun H locs ls hP hD hS hl => lv_ixor X.1 X.2.1 hd (k H locs ls hP hD hS hl)
theorem ev_ishl (X : eX p s m args meth c D cI cZ A H0 y cc nL ret) {x v : Int32} (hd : decode cc pc = .ok (.ishl, 1)) (k : EV p l e R s m args below meth c D cI cZ A H0 nL Q cells slots r (pc + 1) L (.int (x <<< (v &&& 31)) :: S) w) : EV p l e R s m args below meth c D cI cZ A H0 nL Q cells slots r pc L (.int v :: .int x :: S) w :=
  fun H locs ls hP hD hS hl => lv_ishl X.1 X.2.1 hd (k H locs ls hP hD hS hl)
theorem ev_ishr (X : eX p s m args meth c D cI cZ A H0 y cc nL ret) {x v : Int32} (hd : decode cc pc = .ok (.ishr, 1)) (k : EV p l e R s m args below meth c D cI cZ A H0 nL Q cells slots r (pc + 1) L (.int (x >>> (v &&& 31)) :: S) w) : EV p l e R s m args below meth c D cI cZ A H0 nL Q cells slots r pc L (.int v :: .int x :: S) w :=
  fun H locs ls hP hD hS hl => lv_ishr X.1 X.2.1 hd (k H locs ls hP hD hS hl)
theorem ev_iushr (X : eX p s m args meth c D cI cZ A H0 y cc nL ret) {x v : Int32} (hd : decode cc pc = .ok (.iushr, 1)) (k : EV p l e R s m args below meth c D cI cZ A H0 nL Q cells slots r (pc + 1) L (.int ((x.toUInt32 >>> (v.toUInt32 &&& Int32.toUInt32 31)).toInt32) :: S) w) : EV p l e R s m args below meth c D cI cZ A H0 nL Q cells slots r pc L (.int v :: .int x :: S) w :=
  fun H locs ls hP hD hS hl => lv_iushr X.1 X.2.1 hd rfl (k H locs ls hP hD hS hl)
theorem ev_ineg (X : eX p s m args meth c D cI cZ A H0 y cc nL ret) {x : Int32} (hd : decode cc pc = .ok (.ineg, 1)) (k : EV p l e R s m args below meth c D cI cZ A H0 nL Q cells slots r (pc + 1) L (.int (-x) :: S) w) : EV p l e R s m args below meth c D cI cZ A H0 nL Q cells slots r pc L (.int x :: S) w :=
  fun H locs ls hP hD hS hl => lv_ineg X.1 X.2.1 hd (k H locs ls hP hD hS hl)
theorem ev_idiv (X : eX p s m args meth c D cI cZ A H0 y cc nL ret) {x v : Int32} (hd : decode cc pc = .ok (.idiv, 1)) (hne : ¬ v = 0) (k : EV p l e R s m args below meth c D cI cZ A H0 nL Q cells slots r (pc + 1) L (.int (x / v) :: S) w) : EV p l e R s m args below meth c D cI cZ A H0 nL Q cells slots r pc L (.int v :: .int x :: S) w :=
  fun H locs ls hP hD hS hl => lv_idiv X.1 X.2.1 hd hne (k H locs ls hP hD hS hl)
theorem ev_irem (X : eX p s m args meth c D cI cZ A H0 y cc nL ret) {x v : Int32} (hd : decode cc pc = .ok (.irem, 1)) (hne : ¬ v = 0) (k : EV p l e R s m args below meth c D cI cZ A H0 nL Q cells slots r (pc + 1) L (.int (x - x / v * v) :: S) w) : EV p l e R s m args below meth c D cI cZ A H0 nL Q cells slots r pc L (.int v :: .int x :: S) w :=
  fun H locs ls hP hD hS hl => lv_irem X.1 X.2.1 hd hne (k H locs ls hP hD hS hl)
theorem ev_ladd (X : eX p s m args meth c D cI cZ A H0 y cc nL ret) {x v : Int64} (hd : decode cc pc = .ok (.ladd, 1)) (k : EV p l e R s m args below meth c D cI cZ A H0 nL Q cells slots r (pc + 1) L (.long (x + v) :: S) w) : EV p l e R s m args below meth c D cI cZ A H0 nL Q cells slots r pc L (.long v :: .long x :: S) w :=
  fun H locs ls hP hD hS hl => lv_ladd X.1 X.2.1 hd (k H locs ls hP hD hS hl)
theorem ev_dup (X : eX p s m args meth c D cI cZ A H0 y cc nL ret) {v : Value} (hd : decode cc pc = .ok (.dup, 1)) (hc : v.category = 1) (k : EV p l e R s m args below meth c D cI cZ A H0 nL Q cells slots r (pc + 1) L (v :: v :: S) w) : EV p l e R s m args below meth c D cI cZ A H0 nL Q cells slots r pc L (v :: S) w :=
  fun H locs ls hP hD hS hl => lv_dup X.1 X.2.1 hd (by rw [e_cv_cat]; exact hc) (k H locs ls hP hD hS hl)
theorem ev_pop (X : eX p s m args meth c D cI cZ A H0 y cc nL ret) {v : Value} (hd : decode cc pc = .ok (.pop, 1)) (hc : v.category = 1) (k : EV p l e R s m args below meth c D cI cZ A H0 nL Q cells slots r (pc + 1) L S w) : EV p l e R s m args below meth c D cI cZ A H0 nL Q cells slots r pc L (v :: S) w :=
  fun H locs ls hP hD hS hl => lv_pop X.1 X.2.1 hd (by rw [e_cv_cat]; exact hc) (k H locs ls hP hD hS hl)
theorem ev_dup2 (X : eX p s m args meth c D cI cZ A H0 y cc nL ret) {v v2 : Value} (hd : decode cc pc = .ok (.dup2, 1)) (hc : v.category = 1) (hc2 : v2.category = 1) (k : EV p l e R s m args below meth c D cI cZ A H0 nL Q cells slots r (pc + 1) L (v :: v2 :: v :: v2 :: S) w) : EV p l e R s m args below meth c D cI cZ A H0 nL Q cells slots r pc L (v :: v2 :: S) w :=
  fun H locs ls hP hD hS hl => lv_dup2_11 X.1 X.2.1 hd (by rw [e_cv_cat]; exact hc) (by rw [e_cv_cat]; exact hc2) (k H locs ls hP hD hS hl)
theorem ev_goto (X : eX p s m args meth c D cI cZ A H0 y cc nL ret) {off : Int} (tgt : Nat) (hd : decode cc pc = .ok (.goto off, 3)) (ht : (pc : Int) + off = (tgt : Int)) (k : EV p l e R s m args below meth c D cI cZ A H0 nL Q cells slots r tgt L S w) : EV p l e R s m args below meth c D cI cZ A H0 nL Q cells slots r pc L S w :=
  fun H locs ls hP hD hS hl => lv_goto X.1 X.2.1 hd ht (k H locs ls hP hD hS hl)
theorem ev_if_eq (X : eX p s m args meth c D cI cZ A H0 y cc nL ret) {x : Int32} {off : Int} (tgt : Nat) (hd : decode cc pc = .ok (.ifCond .eq off, 3)) (ht : (pc : Int) + off = (tgt : Int)) (kt : x = 0 → EV p l e R s m args below meth c D cI cZ A H0 nL Q cells slots r tgt L S w) (kf : ¬ x = 0 → EV p l e R s m args below meth c D cI cZ A H0 nL Q cells slots r (pc + 3) L S w) : EV p l e R s m args below meth c D cI cZ A H0 nL Q cells slots r pc L (.int x :: S) w :=
  fun H locs ls hP hD hS hl => lv_if_eq X.1 X.2.1 hd ht (fun h => kt h H locs ls hP hD hS hl) (fun h => kf h H locs ls hP hD hS hl)
theorem ev_icmp_eq (X : eX p s m args meth c D cI cZ A H0 y cc nL ret) {x v : Int32} {off : Int} (tgt : Nat) (hd : decode cc pc = .ok (.if_icmp .eq off, 3)) (ht : (pc : Int) + off = (tgt : Int)) (kt : x = v → EV p l e R s m args below meth c D cI cZ A H0 nL Q cells slots r tgt L S w) (kf : ¬ x = v → EV p l e R s m args below meth c D cI cZ A H0 nL Q cells slots r (pc + 3) L S w) : EV p l e R s m args below meth c D cI cZ A H0 nL Q cells slots r pc L (.int v :: .int x :: S) w :=
  fun H locs ls hP hD hS hl => lv_icmp_eq X.1 X.2.1 hd ht (fun h => kt h H locs ls hP hD hS hl) (fun h => kf h H locs ls hP hD hS hl)
theorem ev_if_ne (X : eX p s m args meth c D cI cZ A H0 y cc nL ret) {x : Int32} {off : Int} (tgt : Nat) (hd : decode cc pc = .ok (.ifCond .ne off, 3)) (ht : (pc : Int) + off = (tgt : Int)) (kt : ¬ x = 0 → EV p l e R s m args below meth c D cI cZ A H0 nL Q cells slots r tgt L S w) (kf : x = 0 → EV p l e R s m args below meth c D cI cZ A H0 nL Q cells slots r (pc + 3) L S w) : EV p l e R s m args below meth c D cI cZ A H0 nL Q cells slots r pc L (.int x :: S) w :=
  fun H locs ls hP hD hS hl => lv_if_ne X.1 X.2.1 hd ht (fun h => kt h H locs ls hP hD hS hl) (fun h => kf h H locs ls hP hD hS hl)
theorem ev_icmp_ne (X : eX p s m args meth c D cI cZ A H0 y cc nL ret) {x v : Int32} {off : Int} (tgt : Nat) (hd : decode cc pc = .ok (.if_icmp .ne off, 3)) (ht : (pc : Int) + off = (tgt : Int)) (kt : ¬ x = v → EV p l e R s m args below meth c D cI cZ A H0 nL Q cells slots r tgt L S w) (kf : x = v → EV p l e R s m args below meth c D cI cZ A H0 nL Q cells slots r (pc + 3) L S w) : EV p l e R s m args below meth c D cI cZ A H0 nL Q cells slots r pc L (.int v :: .int x :: S) w :=
  fun H locs ls hP hD hS hl => lv_icmp_ne X.1 X.2.1 hd ht (fun h => kt h H locs ls hP hD hS hl) (fun h => kf h H locs ls hP hD hS hl)
theorem ev_if_lt (X : eX p s m args meth c D cI cZ A H0 y cc nL ret) {x : Int32} {off : Int} (tgt : Nat) (hd : decode cc pc = .ok (.ifCond .lt off, 3)) (ht : (pc : Int) + off = (tgt : Int)) (kt : x < 0 → EV p l e R s m args below meth c D cI cZ A H0 nL Q cells slots r tgt L S w) (kf : ¬ x < 0 → EV p l e R s m args below meth c D cI cZ A H0 nL Q cells slots r (pc + 3) L S w) : EV p l e R s m args below meth c D cI cZ A H0 nL Q cells slots r pc L (.int x :: S) w :=
  fun H locs ls hP hD hS hl => lv_if_lt X.1 X.2.1 hd ht (fun h => kt h H locs ls hP hD hS hl) (fun h => kf h H locs ls hP hD hS hl)
theorem ev_icmp_lt (X : eX p s m args meth c D cI cZ A H0 y cc nL ret) {x v : Int32} {off : Int} (tgt : Nat) (hd : decode cc pc = .ok (.if_icmp .lt off, 3)) (ht : (pc : Int) + off = (tgt : Int)) (kt : x < v → EV p l e R s m args below meth c D cI cZ A H0 nL Q cells slots r tgt L S w) (kf : ¬ x < v → EV p l e R s m args below meth c D cI cZ A H0 nL Q cells slots r (pc + 3) L S w) : EV p l e R s m args below meth c D cI cZ A H0 nL Q cells slots r pc L (.int v :: .int x :: S) w :=
  fun H locs ls hP hD hS hl => lv_icmp_lt X.1 X.2.1 hd ht (fun h => kt h H locs ls hP hD hS hl) (fun h => kf h H locs ls hP hD hS hl)
theorem ev_if_ge (X : eX p s m args meth c D cI cZ A H0 y cc nL ret) {x : Int32} {off : Int} (tgt : Nat) (hd : decode cc pc = .ok (.ifCond .ge off, 3)) (ht : (pc : Int) + off = (tgt : Int)) (kt : 0 ≤ x → EV p l e R s m args below meth c D cI cZ A H0 nL Q cells slots r tgt L S w) (kf : ¬ 0 ≤ x → EV p l e R s m args below meth c D cI cZ A H0 nL Q cells slots r (pc + 3) L S w) : EV p l e R s m args below meth c D cI cZ A H0 nL Q cells slots r pc L (.int x :: S) w :=
  fun H locs ls hP hD hS hl => lv_if_ge X.1 X.2.1 hd ht (fun h => kt h H locs ls hP hD hS hl) (fun h => kf h H locs ls hP hD hS hl)
theorem ev_icmp_ge (X : eX p s m args meth c D cI cZ A H0 y cc nL ret) {x v : Int32} {off : Int} (tgt : Nat) (hd : decode cc pc = .ok (.if_icmp .ge off, 3)) (ht : (pc : Int) + off = (tgt : Int)) (kt : v ≤ x → EV p l e R s m args below meth c D cI cZ A H0 nL Q cells slots r tgt L S w) (kf : ¬ v ≤ x → EV p l e R s m args below meth c D cI cZ A H0 nL Q cells slots r (pc + 3) L S w) : EV p l e R s m args below meth c D cI cZ A H0 nL Q cells slots r pc L (.int v :: .int x :: S) w :=
  fun H locs ls hP hD hS hl => lv_icmp_ge X.1 X.2.1 hd ht (fun h => kt h H locs ls hP hD hS hl) (fun h => kf h H locs ls hP hD hS hl)
theorem ev_if_gt (X : eX p s m args meth c D cI cZ A H0 y cc nL ret) {x : Int32} {off : Int} (tgt : Nat) (hd : decode cc pc = .ok (.ifCond .gt off, 3)) (ht : (pc : Int) + off = (tgt : Int)) (kt : 0 < x → EV p l e R s m args below meth c D cI cZ A H0 nL Q cells slots r tgt L S w) (kf : ¬ 0 < x → EV p l e R s m args below meth c D cI cZ A H0 nL Q cells slots r (pc + 3) L S w) : EV p l e R s m args below meth c D cI cZ A H0 nL Q cells slots r pc L (.int x :: S) w :=
  fun H locs ls hP hD hS hl => lv_if_gt X.1 X.2.1 hd ht (fun h => kt h H locs ls hP hD hS hl) (fun h => kf h H locs ls hP hD hS hl)
theorem ev_icmp_gt (X : eX p s m args meth c D cI cZ A H0 y cc nL ret) {x v : Int32} {off : Int} (tgt : Nat) (hd : decode cc pc = .ok (.if_icmp .gt off, 3)) (ht : (pc : Int) + off = (tgt : Int)) (kt : v < x → EV p l e R s m args below meth c D cI cZ A H0 nL Q cells slots r tgt L S w) (kf : ¬ v < x → EV p l e R s m args below meth c D cI cZ A H0 nL Q cells slots r (pc + 3) L S w) : EV p l e R s m args below meth c D cI cZ A H0 nL Q cells slots r pc L (.int v :: .int x :: S) w :=
  fun H locs ls hP hD hS hl => lv_icmp_gt X.1 X.2.1 hd ht (fun h => kt h H locs ls hP hD hS hl) (fun h => kf h H locs ls hP hD hS hl)
theorem ev_if_le (X : eX p s m args meth c D cI cZ A H0 y cc nL ret) {x : Int32} {off : Int} (tgt : Nat) (hd : decode cc pc = .ok (.ifCond .le off, 3)) (ht : (pc : Int) + off = (tgt : Int)) (kt : x ≤ 0 → EV p l e R s m args below meth c D cI cZ A H0 nL Q cells slots r tgt L S w) (kf : ¬ x ≤ 0 → EV p l e R s m args below meth c D cI cZ A H0 nL Q cells slots r (pc + 3) L S w) : EV p l e R s m args below meth c D cI cZ A H0 nL Q cells slots r pc L (.int x :: S) w :=
  fun H locs ls hP hD hS hl => lv_if_le X.1 X.2.1 hd ht (fun h => kt h H locs ls hP hD hS hl) (fun h => kf h H locs ls hP hD hS hl)
theorem ev_icmp_le (X : eX p s m args meth c D cI cZ A H0 y cc nL ret) {x v : Int32} {off : Int} (tgt : Nat) (hd : decode cc pc = .ok (.if_icmp .le off, 3)) (ht : (pc : Int) + off = (tgt : Int)) (kt : x ≤ v → EV p l e R s m args below meth c D cI cZ A H0 nL Q cells slots r tgt L S w) (kf : ¬ x ≤ v → EV p l e R s m args below meth c D cI cZ A H0 nL Q cells slots r (pc + 3) L S w) : EV p l e R s m args below meth c D cI cZ A H0 nL Q cells slots r pc L (.int v :: .int x :: S) w :=
  fun H locs ls hP hD hS hl => lv_icmp_le X.1 X.2.1 hd ht (fun h => kt h H locs ls hP hD hS hl) (fun h => kf h H locs ls hP hD hS hl)
theorem ev_lookup (X : eX p s m args meth c D cI cZ A H0 y cc nL ret) {dflt : Int} {ps : Array (Int × Int)} {len : Nat} {x : Int32} {off : Int} (tgt : Nat) (hd : decode cc pc = .ok (.lookupswitch dflt ps, len)) (hp : (ps.toList.zip (ps.toList.drop 1)).all (fun (a, next) => a.1 < next.1) = true) (ho : Op.lookupswitch.offset ps.toList dflt x.toInt = off) (ht : (pc : Int) + off = (tgt : Int)) (k : EV p l e R s m args below meth c D cI cZ A H0 nL Q cells slots r tgt L S w) : EV p l e R s m args below meth c D cI cZ A H0 nL Q cells slots r pc L (.int x :: S) w :=
  fun H locs ls hP hD hS hl => lv_lookup X.1 X.2.1 hd hp ho ht (k H locs ls hP hD hS hl)
theorem ev_tableOut (X : eX p s m args meth c D cI cZ A H0 y cc nL ret) {dflt lo hi : Int} {offs : Array Int} {len : Nat} {x : Int32} (tgt : Nat) (hd : decode cc pc = .ok (.tableswitch dflt lo hi offs, len)) (h : x.toInt < lo ∨ hi < x.toInt) (ht : (pc : Int) + dflt = (tgt : Int)) (k : EV p l e R s m args below meth c D cI cZ A H0 nL Q cells slots r tgt L S w) : EV p l e R s m args below meth c D cI cZ A H0 nL Q cells slots r pc L (.int x :: S) w :=
  fun H locs ls hP hD hS hl => lv_tableOut X.1 X.2.1 hd h ht (k H locs ls hP hD hS hl)
theorem ev_tableIn (X : eX p s m args meth c D cI cZ A H0 y cc nL ret) {dflt lo hi : Int} {offs : Array Int} {len : Nat} {x : Int32} {off : Int} (tgt : Nat) (hd : decode cc pc = .ok (.tableswitch dflt lo hi offs, len)) (h1 : ¬ x.toInt < lo) (h2 : ¬ hi < x.toInt) (ho : offs[(x.toInt - lo).toNat]? = some off) (ht : (pc : Int) + off = (tgt : Int)) (k : EV p l e R s m args below meth c D cI cZ A H0 nL Q cells slots r tgt L S w) : EV p l e R s m args below meth c D cI cZ A H0 nL Q cells slots r pc L (.int x :: S) w :=
  fun H locs ls hP hD hS hl => lv_tableIn X.1 X.2.1 hd h1 h2 ho ht (k H locs ls hP hD hS hl)
end EVA
end
section
/-! ===== what a world holds, as partial functions ===== -/
def eO (w : eW) (o ci : Nat) : Bool := match w[o]? with
  | some (.inr q) => q.1 == ci
  | _ => false
def eF (w : eW) (o ci k : Nat) : Option Value := match w[o]? with
  | some (.inr q) => if q.1 = ci then q.2[k]? else none
  | _ => none
def eGI (w : eW) (o ci k : Nat) : Option Int32 := match eF w o ci k with
  | some (.int x) => some x
  | _ => none
def eGR (w : eW) (o ci k : Nat) : Option Nat := match eF w o ci k with
  | some (.ref x) => some x
  | _ => none
def eGL (w : eW) (o ci k : Nat) : Option Int64 := match eF w o ci k with
  | some (.long x) => some x
  | _ => none
def eP (w : eW) (o ci k : Nat) (v : Value) : Option eW := match w[o]? with
  | some (.inr q) => if q.1 = ci ∧ k < q.2.length then some (w.set o (.inr (ci, q.2.set k v))) else none
  | _ => none
def eZ (x : Int32) : Option Int32 := if x = 0 ∨ x = 1 then some x else none
def eLen (w : eW) (a : Nat) : Option Int32 := match w[a]? with
  | some (.inl q) => some (Int32.ofNat q.2.1)
  | _ => none
def eLd (w : eW) (b : Bool) (a : Nat) (i : Int32) : Option Int32 := match w[a]? with
  | some (.inl q) => if q.1 = b ∧ ¬ (i < 0 ∨ q.2.1 ≤ i.toNatClampNeg) then some (q.2.2 i.toNatClampNeg) else none
  | _ => none
def eSt (w : eW) (b : Bool) (a : Nat) (i x : Int32) : Option eW := match w[a]? with
  | some (.inl q) => if q.1 = b ∧ ¬ (i < 0 ∨ q.2.1 ≤ i.toNatClampNeg) then some (w.set a (.inl (b, q.2.1, upd q.2.2 i.toNatClampNeg (bif b then vp_nar .boolean x else x)))) else none
  | _ => none
def eFr (n : Nat) : Value → Bool
  | .ref i => decide (i < n)
  | _ => true
def eFw (n : Nat) (w : eW) : Bool := w.all (fun c => match c with
  | .inl _ => true
  | .inr o => o.2.all (eFr n))
def eFl (n : Nat) (L : List (Nat × Value)) : Bool := L.all (fun q => eFr n q.2)
def e_sz : eC → Nat
  | .inl a => a.2.1
  | .inr o => o.2.length
def e_wsz (w : eW) : Nat := (w.map e_sz).sum
theorem eF_at {w : eW} {o ci k : Nat} {v : Value} (h : eF w o ci k = some v) : ∃ fs, w[o]? = some (.inr (ci, fs)) ∧ fs[k]? = some v := by
  unfold eF at h
  split at h
  next q hq =>
    split at h
    next hc => subst hc; exact ⟨q.2, hq, h⟩
    next => cases h
  next => cases h
theorem eGI_at {w : eW} {o ci k : Nat} {x : Int32} (h : eGI w o ci k = some x) : eF w o ci k = some (.int x) := by
  unfold eGI at h
  split at h
  next hq => cases h; exact hq
  next => cases h
theorem eGR_at {w : eW} {o ci k : Nat} {x : Nat} (h : eGR w o ci k = some x) : eF w o ci k = some (.ref x) := by
  unfold eGR at h
  split at h
  next hq => cases h; exact hq
  next => cases h
theorem eGL_at {w : eW} {o ci k : Nat} {x : Int64} (h : eGL w o ci k = some x) : eF w o ci k = some (.long x) := by
  unfold eGL at h
  split at h
  next hq => cases h; exact hq
  next => cases h
theorem eP_at {w w' : eW} {o ci k : Nat} {v : Value} (h : eP w o ci k v = some w') : ∃ fs, w[o]? = some (.inr (ci, fs)) ∧ k < fs.length ∧ w' = w.set o (.inr (ci, fs.set k v)) := by
  unfold eP at h
  split at h
  next q hq =>
    split at h
    next hc => obtain ⟨hc, hk⟩ := hc; subst hc; cases h; exact ⟨q.2, hq, hk, rfl⟩
    next => cases h
  next => cases h
theorem eO_at {w : eW} {o ci : Nat} (h : eO w o ci = true) : ∃ fs, w[o]? = some (.inr (ci, fs)) := by
  unfold eO at h
  split at h
  next q hq => have := eq_of_beq h; subst this; exact ⟨q.2, hq⟩
  next => cases h
theorem eLen_at {w : eW} {a : Nat} {x : Int32} (h : eLen w a = some x) : ∃ b n f, w[a]? = some (.inl (b, n, f)) ∧ Int32.ofNat n = x := by
  unfold eLen at h
  split at h
  next q hq => cases h; exact ⟨q.1, q.2.1, q.2.2, hq, rfl⟩
  next => cases h
theorem eLd_at {w : eW} {b : Bool} {a : Nat} {i x : Int32} (h : eLd w b a i = some x) : ∃ n f, w[a]? = some (.inl (b, n, f)) ∧ vp_in i n ∧ f i.toNatClampNeg = x := by
  unfold eLd at h
  split at h
  next q hq =>
    split at h
    next hc => obtain ⟨hc, hi⟩ := hc; subst hc; cases h; exact ⟨q.2.1, q.2.2, hq, hi, rfl⟩
    next => cases h
  next => cases h
theorem eSt_at {w w' : eW} {b : Bool} {a : Nat} {i x : Int32} (h : eSt w b a i x = some w') : ∃ n f, w[a]? = some (.inl (b, n, f)) ∧ vp_in i n ∧ w' = w.set a (.inl (b, n, upd f i.toNatClampNeg (bif b then vp_nar .boolean x else x))) := by
  unfold eSt at h
  split at h
  next q hq =>
    split at h
    next hc => obtain ⟨hc, hi⟩ := hc; subst hc; cases h; exact ⟨q.2.1, q.2.2, hq, hi, rfl⟩
    next => cases h
  next => cases h
theorem eZ_at {x v : Int32} (h : eZ x = some v) : (x = 0 ∨ x = 1) ∧ v = x := by
  unfold eZ at h
  split at h
  next hc => cases h; exact ⟨hc, rfl⟩
  next => cases h
theorem eZ_nar {x : Int32} (h : x = 0 ∨ x = 1) : narrow .boolean (.int x) = .int x ∧ fits .boolean (.int x) = true := by
  rcases h with rfl | rfl <;> exact ⟨by decide, by decide⟩
/-! ===== the class facts ===== -/
def eCl (ci : Nat) (C : String) (T : u_T) (N : Nat) (ty : Nat → FieldType) : Prop :=
  vwCl[ci]? = some (C, T, N) ∧ (∀ w ∈ u_ws C T N, w ∈ eT) ∧ (∀ k, k < N → parseFieldDescriptor (T k).2.2.1 = some (ty k)) ∧ (∀ a, a < N → ∀ b, b < N → a ≠ b → (T a).2.1 ≠ (T b).2.1)
theorem eT_in {i : Nat} {w : Cond} (h : lw_tbl[i]? = some w) (hg : goodWord w = true) : w ∈ eT := List.mem_filter.mpr ⟨List.mem_of_getElem? h, hg⟩
theorem eT_all {Ts : List Cond} {Ps : List Nat} (h : (Ts.zip Ps).all (fun q => decide (lw_tbl[q.2]? = some q.1) && goodWord q.1) = true) (hl : Ts.length ≤ Ps.length) : ∀ w ∈ Ts, w ∈ eT := by
  intro w hw
  obtain ⟨i, hi⟩ := List.getElem?_of_mem hw
  have hlt := (List.getElem?_eq_some_iff.mp hi).1
  have hz : (w, Ps[i]'(by omega)) ∈ Ts.zip Ps := by
    apply List.mem_of_getElem? (i := i)
    rw [List.getElem?_zip_eq_some]
    exact ⟨hi, List.getElem?_eq_getElem (by omega)⟩
  have := List.all_eq_true.mp h _ hz
  simp only [Bool.and_eq_true, decide_eq_true_eq] at this
  exact eT_in this.1 this.2
section EVH
variable {p : Program} {l : Launch} {e : Env} {R : Room} {s : State} {m : MethodId} {args : Array Value} {below : List Frame} {meth : Method} {c : Code} {D : va_G} {cI cZ : ClassId} {A : Nat → Prop} {H0 : Heap} {nL : Nat} {Q : State → Prop} {cells slots : Nat} {r : Nat → Nat} {pc : Nat} {L L' : List (Nat × Value)} {S : List Value} {w w' : eW}
variable {y : MethodName} {cc : ByteArray} {ret : Option FieldType} {ci : Nat} {C : String} {T : u_T} {N : Nat} {ty : Nat → FieldType}
theorem ev_get (X : eX p s m args meth c D cI cZ A H0 y cc nL ret) (hC : eCl ci C T N ty) {idx : Nat} {k : Nat} (hk : k < N) (hl : Cond.fieldLink y.cls idx (T k).1 (T k).2.1 (T k).2.2.1 ∈ eT) {o : Nat} {v : Value} (hv : eF w o ci k = some v) (hd : decode cc pc = .ok (.getfield idx, 3))
    (kk : EV p l e R s m args below meth c D cI cZ A H0 nL Q cells slots r (pc + 3) L (v :: S) w) : EV p l e R s m args below meth c D cI cZ A H0 nL Q cells slots r pc L (.ref o :: S) w := by
  intro H locs ls hP hD hS hls
  obtain ⟨fs, h1, h2⟩ := eF_at hv
  exact va_get X.1 X.2.1 X.2.2.2.2.1 hC.2.1 X.2.2.2.1 X.2.2.2.2.2.2.2.1 hP o (e_cw_at h1) hC.1 k hk (X.2.2.2.2.1 _ hl) (fun _ h => h) (by rw [List.getElem?_map, h2]; rfl) hd (kk H locs ls hP hD hS hls)
theorem ev_getI (X : eX p s m args meth c D cI cZ A H0 y cc nL ret) (hC : eCl ci C T N ty) {idx : Nat} {k : Nat} (hk : k < N) (hl : Cond.fieldLink y.cls idx (T k).1 (T k).2.1 (T k).2.2.1 ∈ eT) {o : Nat} {x : Int32} (hd : decode cc pc = .ok (.getfield idx, 3)) (hv : eGI w o ci k = some x)
    (kk : EV p l e R s m args below meth c D cI cZ A H0 nL Q cells slots r (pc + 3) L (.int x :: S) w) : EV p l e R s m args below meth c D cI cZ A H0 nL Q cells slots r pc L (.ref o :: S) w := ev_get X hC hk hl (eGI_at hv) hd kk
theorem ev_getR (X : eX p s m args meth c D cI cZ A H0 y cc nL ret) (hC : eCl ci C T N ty) {idx : Nat} {k : Nat} (hk : k < N) (hl : Cond.fieldLink y.cls idx (T k).1 (T k).2.1 (T k).2.2.1 ∈ eT) {o : Nat} {x : Nat} (hd : decode cc pc = .ok (.getfield idx, 3)) (hv : eGR w o ci k = some x)
    (kk : EV p l e R s m args below meth c D cI cZ A H0 nL Q cells slots r (pc + 3) L (.ref x :: S) w) : EV p l e R s m args below meth c D cI cZ A H0 nL Q cells slots r pc L (.ref o :: S) w := ev_get X hC hk hl (eGR_at hv) hd kk
theorem ev_getL (X : eX p s m args meth c D cI cZ A H0 y cc nL ret) (hC : eCl ci C T N ty) {idx : Nat} {k : Nat} (hk : k < N) (hl : Cond.fieldLink y.cls idx (T k).1 (T k).2.1 (T k).2.2.1 ∈ eT) {o : Nat} {x : Int64} (hd : decode cc pc = .ok (.getfield idx, 3)) (hv : eGL w o ci k = some x)
    (kk : EV p l e R s m args below meth c D cI cZ A H0 nL Q cells slots r (pc + 3) L (.long x :: S) w) : EV p l e R s m args below meth c D cI cZ A H0 nL Q cells slots r pc L (.ref o :: S) w := ev_get X hC hk hl (eGL_at hv) hd kk
theorem ev_put (X : eX p s m args meth c D cI cZ A H0 y cc nL ret) (hC : eCl ci C T N ty) {idx : Nat} {k : Nat} (hk : k < N) (hl : Cond.fieldLink y.cls idx (T k).1 (T k).2.1 (T k).2.2.1 ∈ eT) (hfin : (T k).2.2.2 = false) {o : Nat} {v : Value} (hn : narrow (ty k) (e_cv r v) = e_cv r v) (hfit : fits (ty k) (e_cv r v) = true) (hv : eP w o ci k v = some w') (hd : decode cc pc = .ok (.putfield idx, 3))
    (kk : EV p l e R s m args below meth c D cI cZ A H0 nL Q cells slots r (pc + 3) L S w') : EV p l e R s m args below meth c D cI cZ A H0 nL Q cells slots r pc L (v :: .ref o :: S) w := by
  intro H locs ls hP hD hS hls
  obtain ⟨fs, h1, h2, h3⟩ := eP_at hv
  subst h3
  have e1 : (e_cw cI cZ r w).set o (r o, .inr (ci, (fs.map (e_cv r)).set k (e_cv r v))) = e_cw cI cZ r (w.set o (.inr (ci, fs.set k v))) := by
    rw [e_cw_set]
    simp [e_cc, List.map_set]
  refine va_put X.1 X.2.1 X.2.2.2.2.1 hC.2.1 ty hC.2.2.1 hC.2.2.2 X.2.2.2.1 X.2.2.2.2.2.2.2.1 hP hD hS o (e_cw_at h1) hC.1 k hk (X.2.2.2.2.1 _ hl) (fun _ h => h) hfin (hC.2.2.1 k hk) hn hfit (by simpa using h2) hd (fun H1 locs1 hP1 hD1 hS1 => ?_)
  rw [e1] at hP1 hD1
  exact kk H1 locs1 ls hP1 hD1 hS1 hls
theorem ev_putI (X : eX p s m args meth c D cI cZ A H0 y cc nL ret) (hC : eCl ci C T N ty) {idx : Nat} {k : Nat} (hk : k < N) (hl : Cond.fieldLink y.cls idx (T k).1 (T k).2.1 (T k).2.2.1 ∈ eT) (hfin : (T k).2.2.2 = false) (ht : ty k = .int) {o : Nat} {x : Int32} (hd : decode cc pc = .ok (.putfield idx, 3)) (hv : eP w o ci k (.int x) = some w')
    (kk : EV p l e R s m args below meth c D cI cZ A H0 nL Q cells slots r (pc + 3) L S w') : EV p l e R s m args below meth c D cI cZ A H0 nL Q cells slots r pc L (.int x :: .ref o :: S) w := ev_put X hC hk hl hfin (by rw [ht]; rfl) (by rw [ht]; rfl) hv hd kk
theorem ev_putZ (X : eX p s m args meth c D cI cZ A H0 y cc nL ret) (hC : eCl ci C T N ty) {idx : Nat} {k : Nat} (hk : k < N) (hl : Cond.fieldLink y.cls idx (T k).1 (T k).2.1 (T k).2.2.1 ∈ eT) (hfin : (T k).2.2.2 = false) (ht : ty k = .boolean) {o : Nat} {x x' : Int32} (hd : decode cc pc = .ok (.putfield idx, 3)) (hz : eZ x = some x') (hv : eP w o ci k (.int x') = some w')
    (kk : EV p l e R s m args below meth c D cI cZ A H0 nL Q cells slots r (pc + 3) L S w') : EV p l e R s m args below meth c D cI cZ A H0 nL Q cells slots r pc L (.int x :: .ref o :: S) w := by
  obtain ⟨h1, rfl⟩ := eZ_at hz
  exact ev_put X hC hk hl hfin (by rw [ht]; exact (eZ_nar h1).1) (by rw [ht]; exact (eZ_nar h1).2) hv hd kk
theorem ev_putL (X : eX p s m args meth c D cI cZ A H0 y cc nL ret) (hC : eCl ci C T N ty) {idx : Nat} {k : Nat} (hk : k < N) (hl : Cond.fieldLink y.cls idx (T k).1 (T k).2.1 (T k).2.2.1 ∈ eT) (hfin : (T k).2.2.2 = false) (ht : ty k = .long) {o : Nat} {x : Int64} (hd : decode cc pc = .ok (.putfield idx, 3)) (hv : eP w o ci k (.long x) = some w')
    (kk : EV p l e R s m args below meth c D cI cZ A H0 nL Q cells slots r (pc + 3) L S w') : EV p l e R s m args below meth c D cI cZ A H0 nL Q cells slots r pc L (.long x :: .ref o :: S) w := ev_put X hC hk hl hfin (by rw [ht]; rfl) (by rw [ht]; rfl) hv hd kk
/-- a final field, in a constructor -/
theorem ev_putF (X : eX p s m args meth c D cI cZ A H0 y cc nL ret) (hC : eCl ci C T N ty) {idx : Nat} {k : Nat} (hk : k < N) (hl : Cond.fieldLink y.cls idx (T k).1 (T k).2.1 (T k).2.2.1 ∈ eT) (hfin : (T k).2.2.2 = true) (hy : y.name = "<init>") (hdecl : (T k).1 = y.cls) {o x : Nat} (hn : ∀ a : Nat, narrow (ty k) (.ref a) = .ref a ∧ fits (ty k) (.ref a) = true) (hd : decode cc pc = .ok (.putfield idx, 3)) (hv : eP w o ci k (.ref x) = some w')
    (kk : EV p l e R s m args below meth c D cI cZ A H0 nL Q cells slots r (pc + 3) L S w') : EV p l e R s m args below meth c D cI cZ A H0 nL Q cells slots r pc L (.ref x :: .ref o :: S) w := by
  intro H locs ls hP hD hS hls
  obtain ⟨fs, h1, h2, h3⟩ := eP_at hv
  subst h3
  have e1 : (e_cw cI cZ r w).set o (r o, .inr (ci, (fs.map (e_cv r)).set k (e_cv r (.ref x)))) = e_cw cI cZ r (w.set o (.inr (ci, fs.set k (.ref x)))) := by
    rw [e_cw_set]
    simp [e_cc, List.map_set]
  refine va_putF X.1 X.2.1 X.2.2.2.2.1 hC.2.1 ty hC.2.2.1 hC.2.2.2 X.2.2.2.1 X.2.2.2.2.2.2.2.1 hP hD hS o (e_cw_at h1) hC.1 k hk (X.2.2.2.2.1 _ hl) (fun _ h => h) hfin (X.2.2.2.2.2.2.2.2.2.2.trans hy) hdecl (hC.2.2.1 k hk) (hn _).1 (hn _).2 (by simpa using h2) hd (fun H1 locs1 hP1 hD1 hS1 => ?_)
  rw [e1] at hP1 hD1
  exact kk H1 locs1 ls hP1 hD1 hS1 hls
theorem ev_alen (X : eX p s m args meth c D cI cZ A H0 y cc nL ret) {a : Nat} {x : Int32} (hd : decode cc pc = .ok (.arraylength, 1)) (hv : eLen w a = some x)
    (kk : EV p l e R s m args below meth c D cI cZ A H0 nL Q cells slots r (pc + 1) L (.int x :: S) w) : EV p l e R s m args below meth c D cI cZ A H0 nL Q cells slots r pc L (.ref a :: S) w := by
  intro H locs ls hP hD hS hls
  obtain ⟨b, n, f, h1, h2⟩ := eLen_at hv
  cases b with
  | true => exact va_alen X.1 X.2.1 X.2.2.2.2.2.2.2.1 hP a 1 (e_cw_at h1) rfl h2 hd (kk H locs ls hP hD hS hls)
  | false => exact va_alen X.1 X.2.1 X.2.2.2.2.2.2.2.1 hP a 0 (e_cw_at h1) rfl h2 hd (kk H locs ls hP hD hS hls)
theorem ev_iald (X : eX p s m args meth c D cI cZ A H0 y cc nL ret) {a : Nat} {i x : Int32} (hd : decode cc pc = .ok (.iaload, 1)) (hv : eLd w false a i = some x)
    (kk : EV p l e R s m args below meth c D cI cZ A H0 nL Q cells slots r (pc + 1) L (.int x :: S) w) : EV p l e R s m args below meth c D cI cZ A H0 nL Q cells slots r pc L (.int i :: .ref a :: S) w := by
  intro H locs ls hP hD hS hls
  obtain ⟨n, f, h1, h2, h3⟩ := eLd_at hv
  subst h3
  exact va_iald X.1 X.2.1 X.2.2.2.2.2.2.2.1 hP a 0 (e_cw_at h1) rfl h2 hd (kk H locs ls hP hD hS hls)
theorem ev_zald (X : eX p s m args meth c D cI cZ A H0 y cc nL ret) {a : Nat} {i x : Int32} (hd : decode cc pc = .ok (.baload, 1)) (hv : eLd w true a i = some x)
    (kk : EV p l e R s m args below meth c D cI cZ A H0 nL Q cells slots r (pc + 1) L (.int x :: S) w) : EV p l e R s m args below meth c D cI cZ A H0 nL Q cells slots r pc L (.int i :: .ref a :: S) w := by
  intro H locs ls hP hD hS hls
  obtain ⟨n, f, h1, h2, h3⟩ := eLd_at hv
  subst h3
  exact va_zald X.1 X.2.1 X.2.2.2.2.2.2.2.1 hP a 1 (e_cw_at h1) rfl h2 hd (kk H locs ls hP hD hS hls)
theorem ev_iast (X : eX p s m args meth c D cI cZ A H0 y cc nL ret) {a : Nat} {i x : Int32} (hd : decode cc pc = .ok (.iastore, 1)) (hv : eSt w false a i x = some w')
    (kk : EV p l e R s m args below meth c D cI cZ A H0 nL Q cells slots r (pc + 1) L S w') : EV p l e R s m args below meth c D cI cZ A H0 nL Q cells slots r pc L (.int x :: .int i :: .ref a :: S) w := by
  intro H locs ls hP hD hS hls
  obtain ⟨n, f, h1, h2, h3⟩ := eSt_at hv
  subst h3
  refine va_iast X.1 X.2.1 X.2.2.2.2.2.2.2.1 hP hD hS a 0 (e_cw_at h1) rfl h2 hd (fun H1 locs1 hP1 hD1 hS1 => ?_)
  refine kk H1 locs1 ls ?_ ?_ hS1 hls
  · rw [e_cw_set]; exact hP1
  · rw [e_cw_set]; exact hD1
theorem ev_zast (X : eX p s m args meth c D cI cZ A H0 y cc nL ret) {a : Nat} {i x : Int32} (hd : decode cc pc = .ok (.bastore, 1)) (hv : eSt w true a i x = some w')
    (kk : EV p l e R s m args below meth c D cI cZ A H0 nL Q cells slots r (pc + 1) L S w') : EV p l e R s m args below meth c D cI cZ A H0 nL Q cells slots r pc L (.int x :: .int i :: .ref a :: S) w := by
  intro H locs ls hP hD hS hls
  obtain ⟨n, f, h1, h2, h3⟩ := eSt_at hv
  subst h3
  refine va_zast X.1 X.2.1 X.2.2.2.2.2.2.2.1 hP hD hS a 1 (e_cw_at h1) rfl h2 hd (fun H1 locs1 hP1 hD1 hS1 => ?_)
  refine kk H1 locs1 ls ?_ ?_ hS1 hls
  · rw [e_cw_set]; exact hP1
  · rw [e_cw_set]; exact hD1
end EVH
end
section
/-! ===== contracts over worlds of numbered cells, calls, ends ===== -/
abbrev eRm (d mc ms : Nat) : Room := { frames := d, cells := mc, slots := ms, locals := 34 * d }
def eWs (y : MethodName) (cc : ByteArray) (nL : Nat) (ret : Option FieldType) : List Cond := .code y cc nL ret :: eT
def eB (D : va_G) (cI cZ : ClassId) (r : Nat → Nat) (w : eW) (sz : Nat) (U : State) : Prop :=
  U.heap.size = sz ∧ va_P D vwCl (e_cw cI cZ r w) U.heap ∧ va_K D vwCl (e_ty cI cZ) U ∧ va_D (fun _ => True) (e_cw cI cZ r w) ∧ eNest U
def eQN (D : va_G) (cI cZ : ClassId) (r : Nat → Nat) (A : Nat → Prop) (v : Option Value) (w' : eW) : Array Value → State → Outcome → State → Prop :=
  fun _ st oc t => oc = .returned (v.map (e_cv r)) ∧ va_P D vwCl (e_cw cI cZ r w') t.heap ∧ va_D A (e_cw cI cZ r w') ∧ va_F A st t
/-- a method that makes nothing: from world w with these arguments it comes to world w' and answers v -/
def eMN (l : Launch) (D : va_G) (cI cZ : ClassId) (d : Nat) (y : MethodName) (cc : ByteArray) (nL : Nat) (ret : Option FieldType) (As : List Value) (w : eW) (v : Option Value) (w' : eW) : Prop :=
  ∀ (r : Nat → Nat) (sz : Nat), Met l y (eWs y cc nL ret) (eRm d 0 0) (va_Pc (As.map (e_cv r)) (eB D cI cZ r w sz)) (eQN D cI cZ r (va_A (e_cw cI cZ r w) sz) v w') 0 0 (va_A (e_cw cI cZ r w) sz)
/-- a method's words, apart from what its call links -/
def eMw (y : MethodName) (cc : ByteArray) (nL : Nat) (ret : Option FieldType) (n : Nat) : Prop :=
  Cond.code y cc nL ret ∈ eT ∧ Cond.initialized y.cls ∈ eT ∧ y.cls ≠ "java/lang/invoke/MethodHandle" ∧ y.cls ≠ "java/lang/invoke/VarHandle" ∧ (parseMethodDescriptor y.desc).map (fun d => d.parameters.length) = some n
theorem eT_good {w : Cond} (h : w ∈ eT) : goodWord w = true := (List.mem_filter.mp h).2
theorem eWs_good {y : MethodName} {cc : ByteArray} {nL : Nat} {ret : Option FieldType} (hc : Cond.code y cc nL ret ∈ eT) : GoodIn eT (eWs y cc nL ret) := by
  intro w hw
  rcases List.mem_cons.mp hw with rfl | h
  · exact ⟨hc, good_of_word (eT_good hc)⟩
  · exact ⟨h, good_of_word (eT_good h)⟩
theorem eB_blind (D : va_G) (cI cZ : ClassId) (r : Nat → Nat) (w : eW) (sz : Nat) (As : List Value) : FrameBlind (va_Pc As (eB D cI cZ r w sz)) := by
  intro a U g mk q
  obtain ⟨q0, q1, qP, qK, qD, qN⟩ := q
  exact ⟨q0, q1, qP, va_K.moved (u := U) (U := U.calling g mk a) (Vm.Alike.refl U.vm) qK, qD, eNest_same (s := U) rfl qN⟩
section EVC
variable {p : Program} {l : Launch} {e : Env} {R : Room} {s : State} {m : MethodId} {args : Array Value} {below : List Frame} {meth : Method} {c : Code} {D : va_G} {cI cZ : ClassId} {A : Nat → Prop} {H0 : Heap} {nL : Nat} {Q : State → Prop} {cells slots : Nat} {r : Nat → Nat} {pc : Nat} {L L' : List (Nat × Value)} {S : List Value} {w w' : eW}
variable {y : MethodName} {cc : ByteArray} {ret : Option FieldType}
theorem e_free (hD : va_D A (e_cw cI cZ r w)) {H : Heap} {locs : List Loc} (hS : va_S A H0 H locs) (hA : ∀ q : Nat, H0.size ≤ q → A q) : ∀ q, va_A (e_cw cI cZ r w) H.size q → A q := by
  intro q h
  rcases h with ⟨k, e, h⟩ | h
  · exact hD.2 k (q, e) h
  · exact hA q (Nat.le_trans hS.1 h)
theorem ev_run (X : eX p s m args meth c D cI cZ A H0 y cc nL ret) {As : List Value} {v : Option Value}
    (hr : ∀ (H : Heap) (locs : List Loc) (ls : Array Slot), va_P D vwCl (e_cw cI cZ r w) H → va_D A (e_cw cI cZ r w) → lv_has ls nL (e_L r L) → va_Run p l e R s m args below meth c H locs cells slots 0 0 (F0 m pc ls ((As.reverse ++ S).map (e_cv r))) (S.map (e_cv r)) (eQN D cI cZ r (va_A (e_cw cI cZ r w) H.size) v w' (As.map (e_cv r)).toArray) (va_A (e_cw cI cZ r w) H.size))
    (k : EV p l e R s m args below meth c D cI cZ A H0 nL Q cells slots r (pc + 3) L (v.toList ++ S) w') : EV p l e R s m args below meth c D cI cZ A H0 nL Q cells slots r pc L (As.reverse ++ S) w := by
  intro H locs ls hP hD hS hl T hT X0
  obtain ⟨v1, st0, t, T', L2, h0, X', hL, e1, e2, ⟨hv, hP', hD', hz, hk⟩, st⟩ := hr H locs ls hP hD hl T hT X0
  have hF := e_free hD hS X.2.2.2.2.2.2.2.2.2.1
  cases hv
  rw [h0] at hz hk
  obtain ⟨t2, a1, b1⟩ := k T'.heap (locs ++ L2) ls (by rw [e1]; exact hP') (hD'.weaken (fun k q _ h => hF q.1 h))
    ⟨Nat.le_trans hS.1 (by rw [e1]; exact hz), fun q h1 h2 => by rw [e1, hk q (Nat.lt_of_lt_of_le h1 hS.1) (fun z => h2 (hF q z))]; exact hS.2.1 q h1 h2, fun q hq => by
      rcases List.mem_append.mp hq with h | h
      · exact hS.2.2 q h
      · exact hF _ (hL q h)⟩ hl T' rfl X'
  refine ⟨t2, st t2 ?_, b1⟩
  have e3 : (v.map (e_cv r)).toList ++ S.map (e_cv r) = (v.toList ++ S).map (e_cv r) := by cases v <;> simp
  rw [e3]
  exact a1
theorem e_sum (S : List Value) (r : Nat → Nat) : ((S.map (e_cv r)).map fun v => v.category).sum = (S.map fun v => v.category).sum := by
  rw [List.map_map]
  congr 1
  apply List.map_congr_left
  intro v _
  exact e_cv_cat r v
theorem e_callB (X : eX p s m args meth c D cI cZ A H0 y cc nL ret) {y1 : MethodName} {cc1 : ByteArray} {nL1 n1 d1 idx mc ms : Nat} {ret1 : Option FieldType} (hw : eMw y1 cc1 nL1 ret1 n1) (hl : Cond.methodLink y.cls idx y1 ∈ eT) (hR : d1 + 1 ≤ R.frames ∧ 8 + (nL1 + 11) + 34 * d1 ≤ R.locals) :
    CallB R s args y.cls idx y1 cc1 nL1 ret1 (eWs y1 cc1 nL1 ret1) (eRm d1 mc ms) mc ms n1 :=
  callB_of n1 X.2.2.2.2.1 (eWs_good hw.1) rfl rfl rfl (X.2.2.2.2.1 _ hw.2.1) (X.2.2.2.2.1 _ hl) hw.2.2 hR
theorem e_callN (X : eX p s m args meth c D cI cZ A H0 y cc nL ret) {y1 : MethodName} {cc1 : ByteArray} {nL1 n1 d1 idx mc ms : Nat} {ret1 : Option FieldType} {host : String} (hw : eMw y1 cc1 nL1 ret1 n1) (hl : Cond.methodLinkNest y.cls idx y1 host ∈ eNw) (hR : d1 + 1 ≤ R.frames ∧ 8 + (nL1 + 11) + 34 * d1 ≤ R.locals) :
    va_CN R s args y.cls idx y1 host cc1 nL1 ret1 (eWs y1 cc1 nL1 ret1) (eRm d1 mc ms) mc ms n1 :=
  va_cnB n1 X.2.2.2.2.1 (eWs_good hw.1) rfl rfl rfl (X.2.2.2.2.2.2.2.2.1 _ hl) (X.2.2.2.2.1 _ hw.2.1) hw.2.2 hR
theorem e_pre (X : eX p s m args meth c D cI cZ A H0 y cc nL ret) {H : Heap} (hP : va_P D vwCl (e_cw cI cZ r w) H) (hD : va_D A (e_cw cI cZ r w)) (As : List Value) : PreS s H (va_Pc As (eB D cI cZ r w H.size)) As :=
  ⟨eB_blind _ _ _ _ _ _ _, fun U hU hW => ⟨rfl, by rw [hU], by rw [hU]; exact hP, va_K.moved hW.alike X.2.2.2.2.2.2.2.1, hD.weaken (fun _ _ _ _ => trivial), eNest_warm hW X.2.2.2.2.2.2.2.2.1⟩⟩
theorem e_map_rev (r : Nat → Nat) (As S : List Value) : (As.reverse ++ S).map (e_cv r) = (As.map (e_cv r)).reverse ++ S.map (e_cv r) := by simp
/-- a static method -/
theorem ev_callS (X : eX p s m args meth c D cI cZ A H0 y cc nL ret) {y1 : MethodName} {cc1 : ByteArray} {nL1 n1 d1 idx : Nat} {ret1 : Option FieldType} (hw : eMw y1 cc1 nL1 ret1 n1) (hl : Cond.methodLink y.cls idx y1 ∈ eT) (hst : Cond.static y1 ∈ eT) (hR : d1 + 1 ≤ R.frames ∧ 8 + (nL1 + 11) + 34 * d1 ≤ R.locals) (hf : cells ≤ R.cells ∧ slots ≤ R.slots)
    {As : List Value} {v : Option Value} (hn : As.length = n1) (hS8 : (S.map fun v => v.category).sum ≤ 8) (hd : decode cc pc = .ok (.invokestatic idx, 3)) (hM : eMN l D cI cZ d1 y1 cc1 nL1 ret1 As w v w')
    (k : EV p l e R s m args below meth c D cI cZ A H0 nL Q cells slots r (pc + 3) L (v.toList ++ S) w') : EV p l e R s m args below meth c D cI cZ A H0 nL Q cells slots r pc L (As.reverse ++ S) w := by
  refine ev_run X (fun H locs ls hP hD hl2 => ?_) k
  exact va_runS (As := As.map (e_cv r)) ⟨X.1, X.2.1, X.2.2.1, X.2.2.2.1, X.2.2.2.2.1⟩ (hM r H.size) ⟨e_callB X hw hl hR, X.2.2.2.2.1 _ hst⟩ (e_pre X hP hD _) rfl (by simpa using hn) hl2.1 (e_map_rev r As S) (lv_room (by rw [e_sum]; exact hS8)) hd hf
/-- a nest mate's private static method -/
theorem ev_callSN (X : eX p s m args meth c D cI cZ A H0 y cc nL ret) {y1 : MethodName} {cc1 : ByteArray} {nL1 n1 d1 idx : Nat} {ret1 : Option FieldType} {host : String} (hw : eMw y1 cc1 nL1 ret1 n1) (hl : Cond.methodLinkNest y.cls idx y1 host ∈ eNw) (hst : Cond.static y1 ∈ eT) (hR : d1 + 1 ≤ R.frames ∧ 8 + (nL1 + 11) + 34 * d1 ≤ R.locals) (hf : cells ≤ R.cells ∧ slots ≤ R.slots)
    {As : List Value} {v : Option Value} (hn : As.length = n1) (hS8 : (S.map fun v => v.category).sum ≤ 8) (hd : decode cc pc = .ok (.invokestatic idx, 3)) (hM : eMN l D cI cZ d1 y1 cc1 nL1 ret1 As w v w')
    (k : EV p l e R s m args below meth c D cI cZ A H0 nL Q cells slots r (pc + 3) L (v.toList ++ S) w') : EV p l e R s m args below meth c D cI cZ A H0 nL Q cells slots r pc L (As.reverse ++ S) w := by
  refine ev_run X (fun H locs ls hP hD hl2 => ?_) k
  exact va_runSN (As := As.map (e_cv r)) ⟨X.1, X.2.1, X.2.2.1, X.2.2.2.1, X.2.2.2.2.1⟩ (hM r H.size) ⟨e_callN X hw hl hR, X.2.2.2.2.1 _ hst, trivial⟩ (e_pre X hP hD _) rfl (by simpa using hn) hl2.1 (e_map_rev r As S) (lv_room (by rw [e_sum]; exact hS8)) hd hf
/-- a method of an object -/
theorem ev_callV (X : eX p s m args meth c D cI cZ A H0 y cc nL ret) {y1 : MethodName} {cc1 : ByteArray} {nL1 n1 d1 idx ci o : Nat} {ret1 : Option FieldType} {q : vw_C} (hw : eMw y1 cc1 nL1 ret1 n1) (hl : Cond.methodLink y.cls idx y1 ∈ eT) (hin : Cond.instanceMethod y1 ∈ eT) (hse : Cond.selects y1.cls y1 y1 ∈ eT) (hq : vwCl[ci]? = some q ∧ q.1 = y1.cls) (hR : d1 + 1 ≤ R.frames ∧ 8 + (nL1 + 11) + 34 * d1 ≤ R.locals) (hf : cells ≤ R.cells ∧ slots ≤ R.slots)
    {As : List Value} {v : Option Value} (hn : As.length = n1) (hS8 : (S.map fun v => v.category).sum ≤ 8) (hd : decode cc pc = .ok (.invokevirtual idx, 3)) (ho : eO w o ci = true) (hM : eMN l D cI cZ d1 y1 cc1 nL1 ret1 (.ref o :: As) w v w')
    (k : EV p l e R s m args below meth c D cI cZ A H0 nL Q cells slots r (pc + 3) L (v.toList ++ S) w') : EV p l e R s m args below meth c D cI cZ A H0 nL Q cells slots r pc L (As.reverse ++ .ref o :: S) w := by
  have e0 : As.reverse ++ .ref o :: S = (Value.ref o :: As).reverse ++ S := by simp
  rw [e0]
  refine ev_run X (fun H locs ls hP hD hl2 => ?_) k
  obtain ⟨fs, hfs⟩ := eO_at ho
  have hp := e_pre X hP hD ((Value.ref o :: As).map (e_cv r))
  have hrc := va_recv X.2.2.2.2.2.2.2.1 hP hq.1 (e_cw_at hfs)
  rw [hq.2] at hrc
  exact va_runV (As := As.map (e_cv r)) (b := r o) (rest := S.map (e_cv r)) ⟨X.1, X.2.1, X.2.2.1, X.2.2.2.1, X.2.2.2.2.1⟩ (hM r H.size) ⟨e_callB X hw hl hR, X.2.2.2.2.1 _ hin, X.2.2.2.2.1 _ hse⟩ ⟨hp.1, hrc, hp.2⟩ rfl (by simpa using hn) hl2.1 (by simp [e_cv]) (lv_room (by rw [e_sum]; exact hS8)) hd hf
/-- a constructor that makes nothing -/
theorem ev_callI (X : eX p s m args meth c D cI cZ A H0 y cc nL ret) {y1 : MethodName} {cc1 : ByteArray} {nL1 n1 d1 idx o : Nat} (hw : eMw y1 cc1 nL1 none n1) (hl : Cond.methodLink y.cls idx y1 ∈ eT) (hin : Cond.instanceMethod y1 ∈ eT) (hy : y1.name = "<init>") (hR : d1 + 1 ≤ R.frames ∧ 8 + (nL1 + 11) + 34 * d1 ≤ R.locals) (hf : cells ≤ R.cells ∧ slots ≤ R.slots)
    {As : List Value} (hn : As.length = n1) (hS8 : (S.map fun v => v.category).sum ≤ 8) (hd : decode cc pc = .ok (.invokespecial idx, 3)) (hM : eMN l D cI cZ d1 y1 cc1 nL1 none (.ref o :: As) w none w')
    (k : EV p l e R s m args below meth c D cI cZ A H0 nL Q cells slots r (pc + 3) L S w') : EV p l e R s m args below meth c D cI cZ A H0 nL Q cells slots r pc L (As.reverse ++ .ref o :: S) w := by
  have e0 : As.reverse ++ .ref o :: S = (Value.ref o :: As).reverse ++ S := by simp
  rw [e0]
  refine ev_run X (v := none) (fun H locs ls hP hD hl2 => ?_) k
  exact va_runI (As := As.map (e_cv r)) (b := r o) (rest := S.map (e_cv r)) ⟨X.1, X.2.1, X.2.2.1, X.2.2.2.1, X.2.2.2.2.1⟩ (hM r H.size) ⟨e_callB X hw hl hR, hy, X.2.2.2.2.1 _ hin⟩ (e_pre X hP hD _) rfl (by simpa using hn) hl2.1 (by simp [e_cv]) (lv_room (by rw [e_sum]; exact hS8)) hd hf
theorem ev_objInit (X : eX p s m args meth c D cI cZ A H0 y cc nL ret) {idx o : Nat} (hl : Cond.methodLink y.cls idx objectInit ∈ eT) (h1 : Cond.instanceMethod objectInit ∈ eT) (h2 : Cond.code objectInit ⟨#[0xb1]⟩ 1 none ∈ eT) (hd : decode cc pc = .ok (.invokespecial idx, 3)) (hf : 1 ≤ R.frames) (hlo : (S.map fun v => v.category).sum + 12 ≤ R.locals)
    (k : EV p l e R s m args below meth c D cI cZ A H0 nL Q cells slots r (pc + 3) L S w) : EV p l e R s m args below meth c D cI cZ A H0 nL Q cells slots r pc L (.ref o :: S) w := by
  intro H locs ls hP hD hS hls
  refine W.objInit X.1 X.2.1 X.2.2.2.1 (X.2.2.2.2.1 _ hl) (X.2.2.2.2.1 _ h1) (X.2.2.2.2.1 _ h2) rfl (by rw [X.2.2.1]; exact hls.1) (a := r o) (rest := S.map (e_cv r)) rfl hd hf ?_ (k H locs ls hP hD hS hls)
  have := e_sum S r
  show 2 * 0 + _ + 12 ≤ _
  omega
/-! ends -/
abbrev eQ (below : List Frame) (D : va_G) (cI cZ : ClassId) (r : Nat → Nat) (A : Nat → Prop) (args : Array Value) (s : State) (v : Option Value) (w' : eW) : State → Prop := MQ below (eQN D cI cZ r A v w') args s 0 0 A
theorem e_end {H : Heap} {locs : List Loc} (hP : va_P D vwCl (e_cw cI cZ r w) H) (hD : va_D A (e_cw cI cZ r w)) (hS : va_S A s.heap H locs) {v : Option Value} : ∀ t : State, t.heap = H → s.WarmedH t.vm → eQN D cI cZ r A v w args s (.returned (v.map (e_cv r))) t :=
  fun t ht _ => ⟨rfl, by rw [ht]; exact hP, hD, hS.F ht⟩
theorem ev_vret (X : eX p s m args meth c D cI cZ A s.heap y cc nL none) (hd : decode cc pc = .ok (.return_, 1)) : EV p l e R s m args below meth c D cI cZ A s.heap nL (eQ below D cI cZ r A args s none w) 0 0 r pc L [] w :=
  fun H locs ls hP hD hS hl => W.vret X.1 X.2.1 X.2.2.2.2.2.1 (e_end (v := none) hP hD hS) hS.2.2 hd X.2.2.2.2.2.2.1
theorem ev_iret (X : eX p s m args meth c D cI cZ A s.heap y cc nL (some .int)) {x : Int32} (hd : decode cc pc = .ok (.ireturn, 1)) : EV p l e R s m args below meth c D cI cZ A s.heap nL (eQ below D cI cZ r A args s (some (.int x)) w) 0 0 r pc L [.int x] w :=
  fun H locs ls hP hD hS hl => W.iret X.1 X.2.1 X.2.2.2.2.2.1 (e_end (v := some (.int x)) hP hD hS) hS.2.2 hd X.2.2.2.2.2.2.1
theorem ev_zret (X : eX p s m args meth c D cI cZ A s.heap y cc nL (some .boolean)) {x x' : Int32} (hd : decode cc pc = .ok (.ireturn, 1)) (hz : eZ x = some x') : EV p l e R s m args below meth c D cI cZ A s.heap nL (eQ below D cI cZ r A args s (some (.int x')) w) 0 0 r pc L [.int x] w := by
  obtain ⟨h1, rfl⟩ := eZ_at hz
  exact fun H locs ls hP hD hS hl => W.zret X.1 X.2.1 X.2.2.2.2.2.1 (eZ_nar h1).1 (e_end (v := some (.int x')) hP hD hS) hS.2.2 hd X.2.2.2.2.2.2.1
theorem ev_lret (X : eX p s m args meth c D cI cZ A s.heap y cc nL (some .long)) {x : Int64} (hd : decode cc pc = .ok (.lreturn, 1)) : EV p l e R s m args below meth c D cI cZ A s.heap nL (eQ below D cI cZ r A args s (some (.long x)) w) 0 0 r pc L [.long x] w :=
  fun H locs ls hP hD hS hl => W.lret X.1 X.2.1 X.2.2.2.2.2.1 (e_end (v := some (.long x)) hP hD hS) hS.2.2 hd X.2.2.2.2.2.2.1
theorem ev_aret {rt : String} (X : eX p s m args meth c D cI cZ A s.heap y cc nL (some (.object rt))) {x : Nat} (hd : decode cc pc = .ok (.areturn, 1)) : EV p l e R s m args below meth c D cI cZ A s.heap nL (eQ below D cI cZ r A args s (some (.ref x)) w) 0 0 r pc L [.ref x] w :=
  fun H locs ls hP hD hS hl => W.aret X.1 X.2.1 X.2.2.2.2.2.1 (Or.inl ⟨_, rfl⟩) (Or.inr ⟨_, rfl⟩) (e_end (v := some (.ref x)) hP hD hS) hS.2.2 hd X.2.2.2.2.2.2.1
end EVC
/-- a block of a method that makes nothing: from pc on with these locals and this stack it ends with v in world w' -/
def eBN (l : Launch) (D : va_G) (cI cZ : ClassId) (d : Nat) (y : MethodName) (cc : ByteArray) (nL : Nat) (ret : Option FieldType) (pc : Nat) (L : List (Nat × Value)) (S : List Value) (w : eW) (v : Option Value) (w' : eW) : Prop :=
  ∀ (p : Program) (e : Env) (s : State) (m : MethodId) (args : Array Value) (below : List Frame) (meth : Method) (c : Code) (r : Nat → Nat) (A : Nat → Prop), eX p s m args meth c D cI cZ A s.heap y cc nL ret →
    EV p l e (eRm d 0 0) s m args below meth c D cI cZ A s.heap nL (eQ below D cI cZ r A args s v w') 0 0 r pc L S w
theorem eMN_of {l : Launch} {D : va_G} {cI cZ : ClassId} {d : Nat} {y : MethodName} {cc : ByteArray} {nL : Nat} {ret : Option FieldType} {As : List Value} {w w' : eW} {v : Option Value} (L : List (Nat × Value)) (hy : plainName y.cls = true) (hL : ∀ r, lv_args 0 (As.map (e_cv r)) = e_L r L) (hn : ∀ r, (lg_sl (As.map (e_cv r))).length ≤ nL)
    (h : eBN l D cI cZ d y cc nL ret 0 L [] w v w') : eMN l D cI cZ d y cc nL ret As w v w' := by
  intro r sz
  refine Met.ofW (cc := cc) (maxL := nL) (ret := ret) hy rfl ?_
  intro p e s m args below meth c s₁ B hml hv
  obtain ⟨rfl, hsz, hP, hK, hD0, hN⟩ := hv
  have hts := atoms_spec (ws := eWs y cc nL ret) B.pre
  subst hsz
  have X : eX p s m (As.map (e_cv r)).toArray meth c D cI cZ (va_A (e_cw cI cZ r w) s.heap.size) s.heap y cc nL ret :=
    ⟨B.exec, B.bytes, hml, findClass_of_methodNamed B.named, fun w h => hts w (List.mem_cons_of_mem _ h), B.returns, B.notSynchronized, hK, hN, fun q h => Or.inr h, (name_of_methodNamed B.named B.method).1⟩
  have hl := lv_entry (As.map (e_cv r)) (hn r)
  rw [hL] at hl
  rw [lg_entry_eq]
  exact h p e s m _ below meth c r _ X s.heap [] _ hP (hD0.self (sz := s.heap.size)) va_S.rf hl
end
section
/-! ===== methods that make cells: constructors ===== -/
theorem e_cv_ag {r r1 : Nat → Nat} {n : Nat} (h : ∀ i, i < n → r1 i = r i) {v : Value} (hv : eFr n v = true) : e_cv r1 v = e_cv r v := by
  cases v with
  | ref i => simp [eFr] at hv; simp [e_cv, h i hv]
  | _ => rfl
theorem e_S_ag {r r1 : Nat → Nat} {n : Nat} (h : ∀ i, i < n → r1 i = r i) {S : List Value} (hv : S.all (eFr n) = true) : S.map (e_cv r1) = S.map (e_cv r) := by
  apply List.map_congr_left
  intro v hm
  exact e_cv_ag h (List.all_eq_true.mp hv v hm)
theorem e_L_ag {r r1 : Nat → Nat} {n : Nat} (h : ∀ i, i < n → r1 i = r i) {L : List (Nat × Value)} (hv : eFl n L = true) : e_L r1 L = e_L r L := by
  unfold e_L
  apply List.map_congr_left
  intro q hm
  rw [e_cv_ag h (List.all_eq_true.mp hv q hm)]
theorem e_w_ag {cI cZ : ClassId} {r r1 : Nat → Nat} {w : eW} (h : ∀ i, i < w.length → r1 i = r i) (hv : eFw w.length w = true) : e_cw cI cZ r1 w = e_cw cI cZ r w := by
  apply List.ext_getElem?
  intro j
  rw [e_cw_get, e_cw_get]
  cases hj : w[j]? with
  | none => rfl
  | some c =>
    have hlt := (List.getElem?_eq_some_iff.mp hj).1
    have hc := List.all_eq_true.mp hv c (List.mem_of_getElem? hj)
    simp only [Option.map_some, h j hlt]
    cases c with
    | inl a => rfl
    | inr o =>
      simp only [e_cc]
      rw [e_S_ag h hc]
theorem e_cw_app (cI cZ : ClassId) (r : Nat → Nat) (w : eW) (c : eC) : e_cw cI cZ r (w ++ [c]) = e_cw cI cZ r w ++ [(r w.length, e_cc cI cZ r c)] := by
  simp [e_cw, List.mapIdx_append]
section EVN
variable {p : Program} {l : Launch} {e : Env} {R : Room} {s : State} {m : MethodId} {args : Array Value} {below : List Frame} {meth : Method} {c : Code} {D : va_G} {cI cZ : ClassId} {A : Nat → Prop} {H0 : Heap} {nL : Nat} {Q : State → Prop} {cells slots : Nat} {r : Nat → Nat} {pc : Nat} {L L' : List (Nat × Value)} {S : List Value} {w w' : eW}
variable {y : MethodName} {cc : ByteArray} {ret : Option FieldType} {ci : Nat} {C : String} {T : u_T} {N : Nat} {ty : Nat → FieldType}
theorem e_upag (q : Nat) : ∀ i, i < w.length → va_up r w.length q i = r i := fun i hi => by simp [va_up, Nat.ne_of_lt hi]
theorem e_grow {H : Heap} {q : Nat} {ce : eC} {ls : Array Slot} (hf : eFw w.length w = true) (hL : eFl w.length L = true)
    (hP : va_P D vwCl (e_cw cI cZ r w ++ [(q, e_cc cI cZ (va_up r w.length q) ce)]) H) (hD : va_D A (e_cw cI cZ r w ++ [(q, e_cc cI cZ (va_up r w.length q) ce)])) (hls : lv_has ls nL (e_L r L)) :
    va_P D vwCl (e_cw cI cZ (va_up r w.length q) (w ++ [ce])) H ∧ va_D A (e_cw cI cZ (va_up r w.length q) (w ++ [ce])) ∧ lv_has ls nL (e_L (va_up r w.length q) L) := by
  have e1 : e_cw cI cZ (va_up r w.length q) (w ++ [ce]) = e_cw cI cZ r w ++ [(q, e_cc cI cZ (va_up r w.length q) ce)] := by
    rw [e_cw_app, e_w_ag (e_upag q) hf]
    simp [va_up]
  rw [e1, e_L_ag (e_upag q) hL]
  exact ⟨hP, hD, hls⟩
theorem ev_new (X : eX p s m args meth c D cI cZ A H0 y cc nL ret) (hC : eCl ci C T N ty) {idx : Nat} (hcl : Cond.classLink y.cls idx C ∈ eT) (hin : Cond.instantiable C N ∈ eT) (hini : Cond.initialized C ∈ eT) {fs : List Value} (hfs : ∀ r : Nat → Nat, fs.map (e_cv r) = fs) (hdef : ∀ j, j < N → defaultValue (ty j) = vp_V fs j)
    (hf : eFw w.length w = true) (hL : eFl w.length L = true) (hS : S.all (eFr w.length) = true) (hc : cells + 1 ≤ R.cells) (hs : slots + N ≤ R.slots) (hd : decode cc pc = .ok (.new idx, 3))
    (kk : ∀ r' : Nat → Nat, (∀ i, i < w.length → r' i = r i) → EV p l e R s m args below meth c D cI cZ A H0 nL Q (cells + 1) (slots + N) r' (pc + 3) L (.ref w.length :: S) (w ++ [.inr (ci, fs)])) : EV p l e R s m args below meth c D cI cZ A H0 nL Q cells slots r pc L S w := by
  intro H locs ls hP hD hSv hls
  refine va_new X.1 X.2.1 X.2.2.2.2.1 hC.2.1 ty hC.2.2.1 X.2.2.2.1 (X.2.2.2.2.1 _ hcl) (X.2.2.2.2.1 _ hin) (X.2.2.2.2.1 _ hini) X.2.2.2.2.2.2.2.1 hP hD hSv X.2.2.2.2.2.2.2.2.2.1 hC.1 hdef hc hs hd (fun q H1 hP1 hD1 hS1 => ?_)
  have e2 : e_cc cI cZ (va_up r w.length q) (.inr (ci, fs)) = .inr (ci, fs) := by simp only [e_cc, hfs]
  obtain ⟨g1, g2, g3⟩ := e_grow (ce := .inr (ci, fs)) hf hL (by rw [e2]; exact hP1) (by rw [e2]; exact hD1) hls
  have := kk (va_up r w.length q) (e_upag q) H1 locs ls g1 g2 hS1 g3
  rw [List.map_cons, e_S_ag (e_upag q) hS] at this
  simpa [e_cv, va_up] using this
theorem ev_newa (X : eX p s m args meth c D cI cZ A H0 y cc nL ret) (har : Cond.arrayClass .int ∈ eT) {n : Int32} {N' : Nat} (hn : ¬ n < 0) (hN : n.toNatClampNeg = N') (hb : N' ≤ 100000)
    (hf : eFw w.length w = true) (hL : eFl w.length L = true) (hS : S.all (eFr w.length) = true) (hc : cells + 1 ≤ R.cells) (hs : slots + N' ≤ R.slots) (hd : decode cc pc = .ok (.newarray .int, 2))
    (kk : ∀ r' : Nat → Nat, (∀ i, i < w.length → r' i = r i) → EV p l e R s m args below meth c D cI cZ A H0 nL Q (cells + 1) (slots + N') r' (pc + 2) L (.ref w.length :: S) (w ++ [.inl (false, N', fun _ => 0)])) : EV p l e R s m args below meth c D cI cZ A H0 nL Q cells slots r pc L (.int n :: S) w := by
  intro H locs ls hP hD hSv hls
  refine va_newa (atype := .int) (ty := .int) (a0 := (N', .inl (fun _ => 0))) X.1 X.2.1 (X.2.2.2.2.1 _ har) rfl X.2.2.2.2.2.2.2.1 hP hD hSv X.2.2.2.2.2.2.2.2.2.1 (fun cA => rfl) hn hN (by show N' * 4 ≤ _; omega) hc hs hd (fun q cA H1 hK1 hP1 hD1 hS1 => ?_)
  have hcA : cA = cI := by
    have h1 := (hK1.2 2 (cA, .int) rfl).2
    have h2 := (hK1.2 0 (cI, .int) rfl).2
    exact Option.some.inj (h1.symm.trans h2)
  subst hcA
  obtain ⟨g1, g2, g3⟩ := e_grow (ce := .inl (false, N', fun _ => 0)) hf hL hP1 hD1 hls
  have := kk (va_up r w.length q) (e_upag q) H1 locs ls g1 g2 hS1 g3
  rw [List.map_cons, e_S_ag (e_upag q) hS] at this
  simpa [e_cv, va_up] using this
theorem ev_newz (X : eX p s m args meth c D cI cZ A H0 y cc nL ret) (har : Cond.arrayClass .boolean ∈ eT) {n : Int32} {N' : Nat} (hn : ¬ n < 0) (hN : n.toNatClampNeg = N') (hb : N' ≤ 100000)
    (hf : eFw w.length w = true) (hL : eFl w.length L = true) (hS : S.all (eFr w.length) = true) (hc : cells + 1 ≤ R.cells) (hs : slots + N' ≤ R.slots) (hd : decode cc pc = .ok (.newarray .boolean, 2))
    (kk : ∀ r' : Nat → Nat, (∀ i, i < w.length → r' i = r i) → EV p l e R s m args below meth c D cI cZ A H0 nL Q (cells + 1) (slots + N') r' (pc + 2) L (.ref w.length :: S) (w ++ [.inl (true, N', fun _ => 0)])) : EV p l e R s m args below meth c D cI cZ A H0 nL Q cells slots r pc L (.int n :: S) w := by
  intro H locs ls hP hD hSv hls
  refine va_newa (atype := .boolean) (ty := .boolean) (a0 := (N', .inl (fun _ => 0))) X.1 X.2.1 (X.2.2.2.2.1 _ har) rfl X.2.2.2.2.2.2.2.1 hP hD hSv X.2.2.2.2.2.2.2.2.2.1 (fun cA => rfl) hn hN (by show N' * 1 ≤ _; omega) hc hs hd (fun q cA H1 hK1 hP1 hD1 hS1 => ?_)
  have hcA : cA = cZ := by
    have h1 := (hK1.2 2 (cA, .boolean) rfl).2
    have h2 := (hK1.2 1 (cZ, .boolean) rfl).2
    exact Option.some.inj (h1.symm.trans h2)
  subst hcA
  obtain ⟨g1, g2, g3⟩ := e_grow (ce := .inl (true, N', fun _ => 0)) hf hL hP1 hD1 hls
  have := kk (va_up r w.length q) (e_upag q) H1 locs ls g1 g2 hS1 g3
  rw [List.map_cons, e_S_ag (e_upag q) hS] at this
  simpa [e_cv, va_up] using this
end EVN
def eQA (D : va_G) (cI cZ : ClassId) (r0 : Nat → Nat) (n0 : Nat) (A : Nat → Prop) (w' : eW) : Array Value → State → Outcome → State → Prop :=
  fun _ st oc t => oc = .returned none ∧ ∃ r' : Nat → Nat, (∀ i, i < n0 → r' i = r0 i) ∧ va_P D vwCl (e_cw cI cZ r' w') t.heap ∧ va_D A (e_cw cI cZ r' w') ∧ va_F A st t
/-- a constructor that makes cells -/
def eMA (l : Launch) (D : va_G) (cI cZ : ClassId) (d : Nat) (y : MethodName) (cc : ByteArray) (nL : Nat) (As : List Value) (w w' : eW) : Prop :=
  (w.length ≤ w'.length ∧ e_wsz w ≤ e_wsz w') ∧ ∀ (r : Nat → Nat) (sz : Nat), Met l y (eWs y cc nL none) (eRm d (w'.length - w.length) (e_wsz w' - e_wsz w)) (va_Pc (As.map (e_cv r)) (eB D cI cZ r w sz)) (eQA D cI cZ r w.length (va_A (e_cw cI cZ r w) sz) w') (w'.length - w.length) (e_wsz w' - e_wsz w) (va_A (e_cw cI cZ r w) sz)
section EVM
variable {p : Program} {l : Launch} {e : Env} {R : Room} {s : State} {m : MethodId} {args : Array Value} {below : List Frame} {meth : Method} {c : Code} {D : va_G} {cI cZ : ClassId} {A : Nat → Prop} {H0 : Heap} {nL : Nat} {Q : State → Prop} {cells slots : Nat} {r : Nat → Nat} {pc : Nat} {L L' : List (Nat × Value)} {S : List Value} {w w' : eW}
variable {y : MethodName} {cc : ByteArray} {ret : Option FieldType}
theorem ev_runA (X : eX p s m args meth c D cI cZ A H0 y cc nL ret) {As : List Value} {mc ms : Nat} (hL : eFl w.length L = true) (hSf : S.all (eFr w.length) = true)
    (hr : ∀ (H : Heap) (locs : List Loc) (ls : Array Slot), va_P D vwCl (e_cw cI cZ r w) H → va_D A (e_cw cI cZ r w) → lv_has ls nL (e_L r L) → va_Run p l e R s m args below meth c H locs cells slots mc ms (F0 m pc ls ((As.reverse ++ S).map (e_cv r))) (S.map (e_cv r)) (eQA D cI cZ r w.length (va_A (e_cw cI cZ r w) H.size) w' (As.map (e_cv r)).toArray) (va_A (e_cw cI cZ r w) H.size))
    (k : ∀ r' : Nat → Nat, (∀ i, i < w.length → r' i = r i) → EV p l e R s m args below meth c D cI cZ A H0 nL Q (cells + mc) (slots + ms) r' (pc + 3) L S w') : EV p l e R s m args below meth c D cI cZ A H0 nL Q cells slots r pc L (As.reverse ++ S) w := by
  intro H locs ls hP hD hS hl T hT X0
  obtain ⟨v1, st0, t, T', L2, h0, X', hL2, e1, e2, ⟨hv, r', hag, hP', hD', hz, hk⟩, st⟩ := hr H locs ls hP hD hl T hT X0
  have hF := e_free hD hS X.2.2.2.2.2.2.2.2.2.1
  cases hv
  rw [h0] at hz hk
  obtain ⟨t2, a1, b1⟩ := k r' hag T'.heap (locs ++ L2) ls (by rw [e1]; exact hP') (hD'.weaken (fun k q _ h => hF q.1 h))
    ⟨Nat.le_trans hS.1 (by rw [e1]; exact hz), fun q h1 h2 => by rw [e1, hk q (Nat.lt_of_lt_of_le h1 hS.1) (fun z => h2 (hF q z))]; exact hS.2.1 q h1 h2, fun q hq => by
      rcases List.mem_append.mp hq with h | h
      · exact hS.2.2 q h
      · exact hF _ (hL2 q h)⟩ (by rw [e_L_ag hag hL]; exact hl) T' rfl X'
  refine ⟨t2, st t2 ?_, b1⟩
  rw [e_S_ag hag hSf] at a1
  exact a1
theorem ev_callA (X : eX p s m args meth c D cI cZ A H0 y cc nL ret) {y1 : MethodName} {cc1 : ByteArray} {nL1 n1 d1 idx o : Nat} (hw : eMw y1 cc1 nL1 none n1) (hl : Cond.methodLink y.cls idx y1 ∈ eT) (hin : Cond.instanceMethod y1 ∈ eT) (hy : y1.name = "<init>") (hR : d1 + 1 ≤ R.frames ∧ 8 + (nL1 + 11) + 34 * d1 ≤ R.locals)
    {As : List Value} (hn : As.length = n1) (hS8 : (S.map fun v => v.category).sum ≤ 8) (hd : decode cc pc = .ok (.invokespecial idx, 3)) (hM : eMA l D cI cZ d1 y1 cc1 nL1 (.ref o :: As) w w') (hf : cells + (w'.length - w.length) ≤ R.cells ∧ slots + (e_wsz w' - e_wsz w) ≤ R.slots) (hL : eFl w.length L = true) (hSf : S.all (eFr w.length) = true)
    (k : ∀ r' : Nat → Nat, (∀ i, i < w.length → r' i = r i) → EV p l e R s m args below meth c D cI cZ A H0 nL Q (cells + (w'.length - w.length)) (slots + (e_wsz w' - e_wsz w)) r' (pc + 3) L S w') : EV p l e R s m args below meth c D cI cZ A H0 nL Q cells slots r pc L (As.reverse ++ .ref o :: S) w := by
  have e0 : As.reverse ++ .ref o :: S = (Value.ref o :: As).reverse ++ S := by simp
  rw [e0]
  refine ev_runA X hL hSf (fun H locs ls hP hD hl2 => ?_) k
  exact va_runI (As := As.map (e_cv r)) (b := r o) (rest := S.map (e_cv r)) ⟨X.1, X.2.1, X.2.2.1, X.2.2.2.1, X.2.2.2.2.1⟩ (hM.2 r H.size) ⟨e_callB X hw hl hR, hy, X.2.2.2.2.1 _ hin⟩ (e_pre X hP hD _) rfl (by simpa using hn) hl2.1 (by simp [e_cv]) (lv_room (by rw [e_sum]; exact hS8)) hd hf
theorem ev_callAN (X : eX p s m args meth c D cI cZ A H0 y cc nL ret) {y1 : MethodName} {cc1 : ByteArray} {nL1 n1 d1 idx o : Nat} {host : String} (hw : eMw y1 cc1 nL1 none n1) (hl : Cond.methodLinkNest y.cls idx y1 host ∈ eNw) (hin : Cond.instanceMethod y1 ∈ eT) (hy : y1.name = "<init>") (hR : d1 + 1 ≤ R.frames ∧ 8 + (nL1 + 11) + 34 * d1 ≤ R.locals)
    {As : List Value} (hn : As.length = n1) (hS8 : (S.map fun v => v.category).sum ≤ 8) (hd : decode cc pc = .ok (.invokespecial idx, 3)) (hM : eMA l D cI cZ d1 y1 cc1 nL1 (.ref o :: As) w w') (hf : cells + (w'.length - w.length) ≤ R.cells ∧ slots + (e_wsz w' - e_wsz w) ≤ R.slots) (hL : eFl w.length L = true) (hSf : S.all (eFr w.length) = true)
    (k : ∀ r' : Nat → Nat, (∀ i, i < w.length → r' i = r i) → EV p l e R s m args below meth c D cI cZ A H0 nL Q (cells + (w'.length - w.length)) (slots + (e_wsz w' - e_wsz w)) r' (pc + 3) L S w') : EV p l e R s m args below meth c D cI cZ A H0 nL Q cells slots r pc L (As.reverse ++ .ref o :: S) w := by
  have e0 : As.reverse ++ .ref o :: S = (Value.ref o :: As).reverse ++ S := by simp
  rw [e0]
  refine ev_runA X hL hSf (fun H locs ls hP hD hl2 => ?_) k
  exact va_runIN (As := As.map (e_cv r)) (b := r o) (rest := S.map (e_cv r)) ⟨X.1, X.2.1, X.2.2.1, X.2.2.2.1, X.2.2.2.2.1⟩ (hM.2 r H.size) ⟨e_callN X hw hl hR, hy, X.2.2.2.2.1 _ hin⟩ (e_pre X hP hD _) rfl (by simpa using hn) hl2.1 (by simp [e_cv]) (lv_room (by rw [e_sum]; exact hS8)) hd hf
end EVM
/-- a stretch of a constructor -/
def eBA (l : Launch) (D : va_G) (cI cZ : ClassId) (d : Nat) (y : MethodName) (cc : ByteArray) (nL : Nat) (pc : Nat) (L : List (Nat × Value)) (S : List Value) (w w' : eW) : Prop :=
  (w.length ≤ w'.length ∧ e_wsz w ≤ e_wsz w') ∧ ∀ (p : Program) (e : Env) (s : State) (m : MethodId) (args : Array Value) (below : List Frame) (meth : Method) (c : Code) (r0 r : Nat → Nat) (A : Nat → Prop) (n0 z0 : Nat), eX p s m args meth c D cI cZ A s.heap y cc nL none → n0 ≤ w.length → z0 ≤ e_wsz w → (∀ i, i < n0 → r i = r0 i) →
    EV p l e (eRm d (w'.length - n0) (e_wsz w' - z0)) s m args below meth c D cI cZ A s.heap nL (MQ below (eQA D cI cZ r0 n0 A w') args s (w'.length - n0) (e_wsz w' - z0) A) (w.length - n0) (e_wsz w - z0) r pc L S w
section EVB
variable {l : Launch} {D : va_G} {cI cZ : ClassId} {d : Nat} {y : MethodName} {cc : ByteArray} {nL : Nat} {pc pc1 : Nat} {L L1 : List (Nat × Value)} {S S1 : List Value} {w w1 w' : eW}
theorem eBA_lift (hw : w1.length = w.length ∧ e_wsz w1 = e_wsz w) (step : ∀ (p : Program) (e : Env) (mc ms : Nat) (s : State) (m : MethodId) (args : Array Value) (below : List Frame) (meth : Method) (c : Code) (A : Nat → Prop) (Q : State → Prop) (cells slots : Nat) (r : Nat → Nat), cells ≤ mc ∧ slots ≤ ms → eX p s m args meth c D cI cZ A s.heap y cc nL none → EV p l e (eRm d mc ms) s m args below meth c D cI cZ A s.heap nL Q cells slots r pc1 L1 S1 w1 → EV p l e (eRm d mc ms) s m args below meth c D cI cZ A s.heap nL Q cells slots r pc L S w)
    (k : eBA l D cI cZ d y cc nL pc1 L1 S1 w1 w') : eBA l D cI cZ d y cc nL pc L S w w' := by
  obtain ⟨⟨k1, k2⟩, k3⟩ := k
  rw [hw.1] at k1
  rw [hw.2] at k2
  refine ⟨⟨k1, k2⟩, fun p e s m args below meth c r0 r A n0 z0 X h1 h2 h3 => ?_⟩
  have := k3 p e s m args below meth c r0 r A n0 z0 X (by rw [hw.1]; exact h1) (by rw [hw.2]; exact h2) h3
  rw [hw.1, hw.2] at this
  exact step p e _ _ s m args below meth c A _ _ _ r ⟨by omega, by omega⟩ X this
theorem e_wsz_app (w : eW) (c : eC) : e_wsz (w ++ [c]) = e_wsz w + e_sz c := by simp [e_wsz]
theorem eBA_new {ci : Nat} {C : String} {T : u_T} {N : Nat} {ty : Nat → FieldType} (hC : eCl ci C T N ty) {idx : Nat} (hcl : Cond.classLink y.cls idx C ∈ eT) (hin : Cond.instantiable C N ∈ eT) (hini : Cond.initialized C ∈ eT) {fs : List Value} (hN : fs.length = N) (hfs : ∀ r : Nat → Nat, fs.map (e_cv r) = fs) (hdef : ∀ j, j < N → defaultValue (ty j) = vp_V fs j)
    (hd : decode cc pc = .ok (.new idx, 3)) (hf : eFw w.length w = true) (hL : eFl w.length L = true) (hS : S.all (eFr w.length) = true)
    (k : eBA l D cI cZ d y cc nL (pc + 3) L (.ref w.length :: S) (w ++ [.inr (ci, fs)]) w') : eBA l D cI cZ d y cc nL pc L S w w' := by
  obtain ⟨⟨k1, k2⟩, k3⟩ := k
  rw [List.length_append, List.length_singleton] at k1
  rw [e_wsz_app] at k2
  have e1 : e_sz (.inr (ci, fs)) = N := hN
  rw [e1] at k2
  refine ⟨⟨by omega, by omega⟩, fun p e s m args below meth c r0 r A n0 z0 X h1 h2 h3 => ?_⟩
  refine ev_new X hC hcl hin hini hfs hdef hf hL hS (by show _ ≤ w'.length - n0; omega) (by show _ ≤ e_wsz w' - z0; omega) hd (fun r' hr => ?_)
  have := k3 p e s m args below meth c r0 r' A n0 z0 X (by rw [List.length_append]; omega) (by rw [e_wsz_app]; omega) (fun i hi => (hr i (by omega)).trans (h3 i hi))
  rw [List.length_append, List.length_singleton, e_wsz_app, e1, show w.length + 1 - n0 = w.length - n0 + 1 by omega, show e_wsz w + N - z0 = e_wsz w - z0 + N by omega] at this
  exact this
theorem eBA_newa (har : Cond.arrayClass .int ∈ eT) {n : Int32} {N' : Nat} (hd : decode cc pc = .ok (.newarray .int, 2)) (hn : ¬ n < 0) (hN : n.toNatClampNeg = N') (hb : N' ≤ 100000) (hf : eFw w.length w = true) (hL : eFl w.length L = true) (hS : S.all (eFr w.length) = true)
    (k : eBA l D cI cZ d y cc nL (pc + 2) L (.ref w.length :: S) (w ++ [.inl (false, N', fun _ => 0)]) w') : eBA l D cI cZ d y cc nL pc L (.int n :: S) w w' := by
  obtain ⟨⟨k1, k2⟩, k3⟩ := k
  rw [List.length_append, List.length_singleton] at k1
  rw [e_wsz_app] at k2
  have e1 : e_sz (.inl (false, N', fun _ => 0)) = N' := rfl
  rw [e1] at k2
  refine ⟨⟨by omega, by omega⟩, fun p e s m args below meth c r0 r A n0 z0 X h1 h2 h3 => ?_⟩
  refine ev_newa X har hn hN hb hf hL hS (by show _ ≤ w'.length - n0; omega) (by show _ ≤ e_wsz w' - z0; omega) hd (fun r' hr => ?_)
  have := k3 p e s m args below meth c r0 r' A n0 z0 X (by rw [List.length_append]; omega) (by rw [e_wsz_app]; omega) (fun i hi => (hr i (by omega)).trans (h3 i hi))
  rw [List.length_append, List.length_singleton, e_wsz_app, e1, show w.length + 1 - n0 = w.length - n0 + 1 by omega, show e_wsz w + N' - z0 = e_wsz w - z0 + N' by omega] at this
  exact this
theorem eBA_newz (har : Cond.arrayClass .boolean ∈ eT) {n : Int32} {N' : Nat} (hd : decode cc pc = .ok (.newarray .boolean, 2)) (hn : ¬ n < 0) (hN : n.toNatClampNeg = N') (hb : N' ≤ 100000) (hf : eFw w.length w = true) (hL : eFl w.length L = true) (hS : S.all (eFr w.length) = true)
    (k : eBA l D cI cZ d y cc nL (pc + 2) L (.ref w.length :: S) (w ++ [.inl (true, N', fun _ => 0)]) w') : eBA l D cI cZ d y cc nL pc L (.int n :: S) w w' := by
  obtain ⟨⟨k1, k2⟩, k3⟩ := k
  rw [List.length_append, List.length_singleton] at k1
  rw [e_wsz_app] at k2
  have e1 : e_sz (.inl (true, N', fun _ => 0)) = N' := rfl
  rw [e1] at k2
  refine ⟨⟨by omega, by omega⟩, fun p e s m args below meth c r0 r A n0 z0 X h1 h2 h3 => ?_⟩
  refine ev_newz X har hn hN hb hf hL hS (by show _ ≤ w'.length - n0; omega) (by show _ ≤ e_wsz w' - z0; omega) hd (fun r' hr => ?_)
  have := k3 p e s m args below meth c r0 r' A n0 z0 X (by rw [List.length_append]; omega) (by rw [e_wsz_app]; omega) (fun i hi => (hr i (by omega)).trans (h3 i hi))
  rw [List.length_append, List.length_singleton, e_wsz_app, e1, show w.length + 1 - n0 = w.length - n0 + 1 by omega, show e_wsz w + N' - z0 = e_wsz w - z0 + N' by omega] at this
  exact this
theorem eBA_call {y1 : MethodName} {cc1 : ByteArray} {nL1 n1 d1 idx o : Nat} (hw : eMw y1 cc1 nL1 none n1) (hl : Cond.methodLink y.cls idx y1 ∈ eT) (hin : Cond.instanceMethod y1 ∈ eT) (hy : y1.name = "<init>") (hR : d1 + 1 ≤ d ∧ 8 + (nL1 + 11) + 34 * d1 ≤ 34 * d)
    {As : List Value} (hn : As.length = n1) (hS8 : (S.map fun v => v.category).sum ≤ 8) (hd : decode cc pc = .ok (.invokespecial idx, 3)) (hM : eMA l D cI cZ d1 y1 cc1 nL1 (.ref o :: As) w w1) (hL : eFl w.length L = true) (hSf : S.all (eFr w.length) = true)
    (k : eBA l D cI cZ d y cc nL (pc + 3) L S w1 w') : eBA l D cI cZ d y cc nL pc L (As.reverse ++ .ref o :: S) w w' := by
  obtain ⟨⟨k1, k2⟩, k3⟩ := k
  have hM1 := hM.1.1
  have hM2 := hM.1.2
  refine ⟨⟨by omega, by omega⟩, fun p e s m args below meth c r0 r A n0 z0 X h1 h2 h3 => ?_⟩
  refine ev_callA X hw hl hin hy hR hn hS8 hd hM ⟨by show _ ≤ w'.length - n0; omega, by show _ ≤ e_wsz w' - z0; omega⟩ hL hSf (fun r' hr => ?_)
  have := k3 p e s m args below meth c r0 r' A n0 z0 X (by omega) (by omega) (fun i hi => (hr i (by omega)).trans (h3 i hi))
  rw [show w1.length - n0 = w.length - n0 + (w1.length - w.length) by omega, show e_wsz w1 - z0 = e_wsz w - z0 + (e_wsz w1 - e_wsz w) by omega] at this
  exact this
theorem eBA_callN {y1 : MethodName} {cc1 : ByteArray} {nL1 n1 d1 idx o : Nat} {host : String} (hw : eMw y1 cc1 nL1 none n1) (hl : Cond.methodLinkNest y.cls idx y1 host ∈ eNw) (hin : Cond.instanceMethod y1 ∈ eT) (hy : y1.name = "<init>") (hR : d1 + 1 ≤ d ∧ 8 + (nL1 + 11) + 34 * d1 ≤ 34 * d)
    {As : List Value} (hn : As.length = n1) (hS8 : (S.map fun v => v.category).sum ≤ 8) (hd : decode cc pc = .ok (.invokespecial idx, 3)) (hM : eMA l D cI cZ d1 y1 cc1 nL1 (.ref o :: As) w w1) (hL : eFl w.length L = true) (hSf : S.all (eFr w.length) = true)
    (k : eBA l D cI cZ d y cc nL (pc + 3) L S w1 w') : eBA l D cI cZ d y cc nL pc L (As.reverse ++ .ref o :: S) w w' := by
  obtain ⟨⟨k1, k2⟩, k3⟩ := k
  have hM1 := hM.1.1
  have hM2 := hM.1.2
  refine ⟨⟨by omega, by omega⟩, fun p e s m args below meth c r0 r A n0 z0 X h1 h2 h3 => ?_⟩
  refine ev_callAN X hw hl hin hy hR hn hS8 hd hM ⟨by show _ ≤ w'.length - n0; omega, by show _ ≤ e_wsz w' - z0; omega⟩ hL hSf (fun r' hr => ?_)
  have := k3 p e s m args below meth c r0 r' A n0 z0 X (by omega) (by omega) (fun i hi => (hr i (by omega)).trans (h3 i hi))
  rw [show w1.length - n0 = w.length - n0 + (w1.length - w.length) by omega, show e_wsz w1 - z0 = e_wsz w - z0 + (e_wsz w1 - e_wsz w) by omega] at this
  exact this
theorem eBA_ret (hd : decode cc pc = .ok (.return_, 1)) : eBA l D cI cZ d y cc nL pc L [] w w := by
  refine ⟨⟨Nat.le_refl _, Nat.le_refl _⟩, fun p e s m args below meth c r0 r A n0 z0 X h1 h2 h3 => ?_⟩
  intro H locs ls hP hD hS hl
  exact W.vret X.1 X.2.1 X.2.2.2.2.2.1 (fun t ht hW => ⟨rfl, r, h3, by rw [ht]; exact hP, hD, hS.F ht⟩) hS.2.2 hd X.2.2.2.2.2.2.1
theorem eMA_of {As : List Value} (L : List (Nat × Value)) (hy : plainName y.cls = true) (hL : ∀ r, lv_args 0 (As.map (e_cv r)) = e_L r L) (hn : ∀ r, (lg_sl (As.map (e_cv r))).length ≤ nL)
    (h : eBA l D cI cZ d y cc nL 0 L [] w w') : eMA l D cI cZ d y cc nL As w w' := by
  refine ⟨h.1, fun r sz => ?_⟩
  refine Met.ofW (cc := cc) (maxL := nL) (ret := none) hy rfl ?_
  intro p e s m args below meth c s₁ B hml hv
  obtain ⟨rfl, hsz, hP, hK, hD0, hN⟩ := hv
  have hts := atoms_spec (ws := eWs y cc nL none) B.pre
  subst hsz
  have X : eX p s m (As.map (e_cv r)).toArray meth c D cI cZ (va_A (e_cw cI cZ r w) s.heap.size) s.heap y cc nL none :=
    ⟨B.exec, B.bytes, hml, findClass_of_methodNamed B.named, fun w h => hts w (List.mem_cons_of_mem _ h), B.returns, B.notSynchronized, hK, hN, fun q h => Or.inr h, (name_of_methodNamed B.named B.method).1⟩
  have hl := lv_entry (As.map (e_cv r)) (hn r)
  rw [hL] at hl
  rw [lg_entry_eq]
  have := h.2 p e s m _ below meth c r r _ w.length (e_wsz w) X (Nat.le_refl _) (Nat.le_refl _) (fun _ _ => rfl) s.heap [] _ hP (hD0.self (sz := s.heap.size)) va_S.rf hl
  rw [Nat.sub_self, Nat.sub_self] at this
  exact this
theorem eP_len {o ci k : Nat} {v : Value} (h : eP w o ci k v = some w1) : w1.length = w.length ∧ e_wsz w1 = e_wsz w := by
  obtain ⟨fs, h1, h2, rfl⟩ := eP_at h
  refine ⟨by simp, ?_⟩
  have hlt := (List.getElem?_eq_some_iff.mp h1).1
  unfold e_wsz
  congr 1
  apply List.ext_getElem?
  intro j
  rw [List.getElem?_map, List.getElem?_map, List.getElem?_set]
  by_cases hj : o = j
  · subst hj
    rw [h1]
    simp [hlt, e_sz]
  · simp [hj]
end EVB
end
