-- ===== PART A: goes FIRST, ahead of the names: the tables' words, and 'selects' of the private methods out of them =====
/-- a private method of a class that the tables say can be made, by its rows of tables_1 -/
def lw_okq (q : MethodName × Nat) : Prop := (q.1.cls ≠ "java/lang/invoke/MethodHandle" ∧ q.1.cls ≠ "java/lang/invoke/VarHandle") ∧ Cond.instantiable q.1.cls q.2 ∈ tables_1 ∧ Cond.privateMethod q.1 ∈ tables_1 ∧ Cond.instanceMethod q.1 ∈ tables_1
theorem lw_p0 : lw_okq (⟨"CarryUp$Reader", "step", "()V"⟩, 7) := ⟨⟨by decide +kernel, by decide +kernel⟩, List.mem_of_getElem? (i := 42) (by decide +kernel), List.mem_of_getElem? (i := 381) (by decide +kernel), List.mem_of_getElem? (i := 382) (by decide +kernel)⟩
theorem lw_p1 : lw_okq (⟨"CarryUp$Reader", "takes", "(Ljava/lang/String;)Z"⟩, 7) := ⟨⟨by decide +kernel, by decide +kernel⟩, List.mem_of_getElem? (i := 42) (by decide +kernel), List.mem_of_getElem? (i := 394) (by decide +kernel), List.mem_of_getElem? (i := 395) (by decide +kernel)⟩
theorem lw_p2 : lw_okq (⟨"CarryUp$Reader", "readLine", "()V"⟩, 7) := ⟨⟨by decide +kernel, by decide +kernel⟩, List.mem_of_getElem? (i := 42) (by decide +kernel), List.mem_of_getElem? (i := 453) (by decide +kernel), List.mem_of_getElem? (i := 454) (by decide +kernel)⟩
theorem lw_p3 : lw_okq (⟨"CarryUp$Reader", "readThing", "()V"⟩, 7) := ⟨⟨by decide +kernel, by decide +kernel⟩, List.mem_of_getElem? (i := 42) (by decide +kernel), List.mem_of_getElem? (i := 458) (by decide +kernel), List.mem_of_getElem? (i := 459) (by decide +kernel)⟩
theorem lw_p4 : lw_okq (⟨"CarryUp$Reader", "note", "(I)V"⟩, 7) := ⟨⟨by decide +kernel, by decide +kernel⟩, List.mem_of_getElem? (i := 42) (by decide +kernel), List.mem_of_getElem? (i := 462) (by decide +kernel), List.mem_of_getElem? (i := 463) (by decide +kernel)⟩
theorem lw_p5 : lw_okq (⟨"CarryUp$Reader", "letter", "()I"⟩, 7) := ⟨⟨by decide +kernel, by decide +kernel⟩, List.mem_of_getElem? (i := 42) (by decide +kernel), List.mem_of_getElem? (i := 467) (by decide +kernel), List.mem_of_getElem? (i := 468) (by decide +kernel)⟩
theorem lw_p6 : lw_okq (⟨"CarryUp$Reader", "number", "(II)I"⟩, 7) := ⟨⟨by decide +kernel, by decide +kernel⟩, List.mem_of_getElem? (i := 42) (by decide +kernel), List.mem_of_getElem? (i := 475) (by decide +kernel), List.mem_of_getElem? (i := 476) (by decide +kernel)⟩
theorem lw_p7 : lw_okq (⟨"CarryUp$Reader", "readOne", "(II)V"⟩, 7) := ⟨⟨by decide +kernel, by decide +kernel⟩, List.mem_of_getElem? (i := 42) (by decide +kernel), List.mem_of_getElem? (i := 488) (by decide +kernel), List.mem_of_getElem? (i := 489) (by decide +kernel)⟩
theorem lw_p8 : lw_okq (⟨"CarryUp$Reader", "readWay", "()V"⟩, 7) := ⟨⟨by decide +kernel, by decide +kernel⟩, List.mem_of_getElem? (i := 42) (by decide +kernel), List.mem_of_getElem? (i := 495) (by decide +kernel), List.mem_of_getElem? (i := 496) (by decide +kernel)⟩
theorem lw_p9 : lw_okq (⟨"CarryUp$Reader", "readCall", "()V"⟩, 7) := ⟨⟨by decide +kernel, by decide +kernel⟩, List.mem_of_getElem? (i := 42) (by decide +kernel), List.mem_of_getElem? (i := 500) (by decide +kernel), List.mem_of_getElem? (i := 501) (by decide +kernel)⟩
theorem lw_p10 : lw_okq (⟨"CarryUp$Reader", "readSort", "()V"⟩, 7) := ⟨⟨by decide +kernel, by decide +kernel⟩, List.mem_of_getElem? (i := 42) (by decide +kernel), List.mem_of_getElem? (i := 505) (by decide +kernel), List.mem_of_getElem? (i := 506) (by decide +kernel)⟩
theorem lw_p11 : lw_okq (⟨"CarryUp$Reader", "things", "()I"⟩, 7) := ⟨⟨by decide +kernel, by decide +kernel⟩, List.mem_of_getElem? (i := 42) (by decide +kernel), List.mem_of_getElem? (i := 510) (by decide +kernel), List.mem_of_getElem? (i := 511) (by decide +kernel)⟩
theorem lw_p12 : lw_okq (⟨"CarryUp$Plan", "tellThing", "(IIII)V"⟩, 8) := ⟨⟨by decide +kernel, by decide +kernel⟩, List.mem_of_getElem? (i := 70) (by decide +kernel), List.mem_of_getElem? (i := 533) (by decide +kernel), List.mem_of_getElem? (i := 534) (by decide +kernel)⟩
theorem lw_p13 : lw_okq (⟨"CarryUp$Plan", "tellWay", "(III)V"⟩, 8) := ⟨⟨by decide +kernel, by decide +kernel⟩, List.mem_of_getElem? (i := 70) (by decide +kernel), List.mem_of_getElem? (i := 538) (by decide +kernel), List.mem_of_getElem? (i := 539) (by decide +kernel)⟩
theorem lw_p14 : lw_okq (⟨"CarryUp$Plan", "tellCall", "(ILCarryUp$Reader;I)V"⟩, 8) := ⟨⟨by decide +kernel, by decide +kernel⟩, List.mem_of_getElem? (i := 70) (by decide +kernel), List.mem_of_getElem? (i := 542) (by decide +kernel), List.mem_of_getElem? (i := 543) (by decide +kernel)⟩
theorem lw_p15 : lw_okq (⟨"CarryUp$Plan", "callAt", "(I)LCarryUp$Call;"⟩, 8) := ⟨⟨by decide +kernel, by decide +kernel⟩, List.mem_of_getElem? (i := 70) (by decide +kernel), List.mem_of_getElem? (i := 546) (by decide +kernel), List.mem_of_getElem? (i := 547) (by decide +kernel)⟩
def lw_privs_1 : List (MethodName × Nat) := [(⟨"CarryUp$Reader", "step", "()V"⟩, 7), (⟨"CarryUp$Reader", "takes", "(Ljava/lang/String;)Z"⟩, 7), (⟨"CarryUp$Reader", "readLine", "()V"⟩, 7), (⟨"CarryUp$Reader", "readThing", "()V"⟩, 7), (⟨"CarryUp$Reader", "note", "(I)V"⟩, 7), (⟨"CarryUp$Reader", "letter", "()I"⟩, 7), (⟨"CarryUp$Reader", "number", "(II)I"⟩, 7), (⟨"CarryUp$Reader", "readOne", "(II)V"⟩, 7), (⟨"CarryUp$Reader", "readWay", "()V"⟩, 7), (⟨"CarryUp$Reader", "readCall", "()V"⟩, 7), (⟨"CarryUp$Reader", "readSort", "()V"⟩, 7), (⟨"CarryUp$Reader", "things", "()I"⟩, 7), (⟨"CarryUp$Plan", "tellThing", "(IIII)V"⟩, 8), (⟨"CarryUp$Plan", "tellWay", "(III)V"⟩, 8), (⟨"CarryUp$Plan", "tellCall", "(ILCarryUp$Reader;I)V"⟩, 8), (⟨"CarryUp$Plan", "callAt", "(I)LCarryUp$Call;"⟩, 8)]
theorem lw_r1 : ∀ q ∈ lw_privs_1, lw_okq q := List.forall_mem_cons.mpr ⟨lw_p0, List.forall_mem_cons.mpr ⟨lw_p1, List.forall_mem_cons.mpr ⟨lw_p2, List.forall_mem_cons.mpr ⟨lw_p3, List.forall_mem_cons.mpr ⟨lw_p4, List.forall_mem_cons.mpr ⟨lw_p5, List.forall_mem_cons.mpr ⟨lw_p6, List.forall_mem_cons.mpr ⟨lw_p7, List.forall_mem_cons.mpr ⟨lw_p8, List.forall_mem_cons.mpr ⟨lw_p9, List.forall_mem_cons.mpr ⟨lw_p10, List.forall_mem_cons.mpr ⟨lw_p11, List.forall_mem_cons.mpr ⟨lw_p12, List.forall_mem_cons.mpr ⟨lw_p13, List.forall_mem_cons.mpr ⟨lw_p14, List.forall_mem_cons.mpr ⟨lw_p15, fun _ h => absurd h List.not_mem_nil⟩⟩⟩⟩⟩⟩⟩⟩⟩⟩⟩⟩⟩⟩⟩⟩
theorem lw_p16 : lw_okq (⟨"CarryUp$Plan", "tellSort", "(ILCarryUp$Reader;I)V"⟩, 8) := ⟨⟨by decide +kernel, by decide +kernel⟩, List.mem_of_getElem? (i := 70) (by decide +kernel), List.mem_of_getElem? (i := 555) (by decide +kernel), List.mem_of_getElem? (i := 556) (by decide +kernel)⟩
theorem lw_p17 : lw_okq (⟨"CarryUp", "refusal", "(IIZ)I"⟩, 8) := ⟨⟨by decide +kernel, by decide +kernel⟩, List.mem_of_getElem? (i := 20) (by decide +kernel), List.mem_of_getElem? (i := 681) (by decide +kernel), List.mem_of_getElem? (i := 682) (by decide +kernel)⟩
theorem lw_p18 : lw_okq (⟨"CarryUp$Walk", "finish", "(IJIZ)V"⟩, 9) := ⟨⟨by decide +kernel, by decide +kernel⟩, List.mem_of_getElem? (i := 218) (by decide +kernel), List.mem_of_getElem? (i := 730) (by decide +kernel), List.mem_of_getElem? (i := 731) (by decide +kernel)⟩
theorem lw_p19 : lw_okq (⟨"CarryUp$Choice", "isWorthATry", "(II)Z"⟩, 7) := ⟨⟨by decide +kernel, by decide +kernel⟩, List.mem_of_getElem? (i := 252) (by decide +kernel), List.mem_of_getElem? (i := 804) (by decide +kernel), List.mem_of_getElem? (i := 805) (by decide +kernel)⟩
theorem lw_p20 : lw_okq (⟨"CarryUp", "refusalNow", "(IIZ)I"⟩, 8) := ⟨⟨by decide +kernel, by decide +kernel⟩, List.mem_of_getElem? (i := 20) (by decide +kernel), List.mem_of_getElem? (i := 871) (by decide +kernel), List.mem_of_getElem? (i := 872) (by decide +kernel)⟩
theorem lw_p21 : lw_okq (⟨"CarryUp$Book", "isDone", "(II)Z"⟩, 5) := ⟨⟨by decide +kernel, by decide +kernel⟩, List.mem_of_getElem? (i := 299) (by decide +kernel), List.mem_of_getElem? (i := 959) (by decide +kernel), List.mem_of_getElem? (i := 960) (by decide +kernel)⟩
theorem lw_p22 : lw_okq (⟨"CarryUp$Walk", "meet", "(ILCarryUp$Call;LCarryUp$Sort;)V"⟩, 9) := ⟨⟨by decide +kernel, by decide +kernel⟩, List.mem_of_getElem? (i := 218) (by decide +kernel), List.mem_of_getElem? (i := 1007) (by decide +kernel), List.mem_of_getElem? (i := 1008) (by decide +kernel)⟩
theorem lw_p23 : lw_okq (⟨"CarryUpModel", "token", "()V"⟩, 31) := ⟨⟨by decide +kernel, by decide +kernel⟩, List.mem_of_getElem? (i := 1040) (by decide +kernel), List.mem_of_getElem? (i := 1157) (by decide +kernel), List.mem_of_getElem? (i := 1158) (by decide +kernel)⟩
theorem lw_p24 : lw_okq (⟨"CarryUpModel", "readsLine", "()Z"⟩, 31) := ⟨⟨by decide +kernel, by decide +kernel⟩, List.mem_of_getElem? (i := 1040) (by decide +kernel), List.mem_of_getElem? (i := 1164) (by decide +kernel), List.mem_of_getElem? (i := 1165) (by decide +kernel)⟩
theorem lw_p25 : lw_okq (⟨"CarryUpModel", "isWord", "(II)Z"⟩, 31) := ⟨⟨by decide +kernel, by decide +kernel⟩, List.mem_of_getElem? (i := 1040) (by decide +kernel), List.mem_of_getElem? (i := 1169) (by decide +kernel), List.mem_of_getElem? (i := 1170) (by decide +kernel)⟩
theorem lw_p26 : lw_okq (⟨"CarryUpModel", "readsThing", "()Z"⟩, 31) := ⟨⟨by decide +kernel, by decide +kernel⟩, List.mem_of_getElem? (i := 1040) (by decide +kernel), List.mem_of_getElem? (i := 1178) (by decide +kernel), List.mem_of_getElem? (i := 1179) (by decide +kernel)⟩
theorem lw_p27 : lw_okq (⟨"CarryUpModel", "reads", "(III)Z"⟩, 31) := ⟨⟨by decide +kernel, by decide +kernel⟩, List.mem_of_getElem? (i := 1040) (by decide +kernel), List.mem_of_getElem? (i := 1184) (by decide +kernel), List.mem_of_getElem? (i := 1185) (by decide +kernel)⟩
theorem lw_p28 : lw_okq (⟨"CarryUpModel", "readsWay", "()Z"⟩, 31) := ⟨⟨by decide +kernel, by decide +kernel⟩, List.mem_of_getElem? (i := 1040) (by decide +kernel), List.mem_of_getElem? (i := 1190) (by decide +kernel), List.mem_of_getElem? (i := 1191) (by decide +kernel)⟩
theorem lw_p29 : lw_okq (⟨"CarryUpModel", "number", "()I"⟩, 31) := ⟨⟨by decide +kernel, by decide +kernel⟩, List.mem_of_getElem? (i := 1040) (by decide +kernel), List.mem_of_getElem? (i := 1194) (by decide +kernel), List.mem_of_getElem? (i := 1195) (by decide +kernel)⟩
theorem lw_p30 : lw_okq (⟨"CarryUpModel", "readsSort", "()Z"⟩, 31) := ⟨⟨by decide +kernel, by decide +kernel⟩, List.mem_of_getElem? (i := 1040) (by decide +kernel), List.mem_of_getElem? (i := 1198) (by decide +kernel), List.mem_of_getElem? (i := 1199) (by decide +kernel)⟩
theorem lw_p31 : lw_okq (⟨"CarryUpModel", "readsThings", "(I)Z"⟩, 31) := ⟨⟨by decide +kernel, by decide +kernel⟩, List.mem_of_getElem? (i := 1040) (by decide +kernel), List.mem_of_getElem? (i := 1203) (by decide +kernel), List.mem_of_getElem? (i := 1204) (by decide +kernel)⟩
def lw_privs_2 : List (MethodName × Nat) := [(⟨"CarryUp$Plan", "tellSort", "(ILCarryUp$Reader;I)V"⟩, 8), (⟨"CarryUp", "refusal", "(IIZ)I"⟩, 8), (⟨"CarryUp$Walk", "finish", "(IJIZ)V"⟩, 9), (⟨"CarryUp$Choice", "isWorthATry", "(II)Z"⟩, 7), (⟨"CarryUp", "refusalNow", "(IIZ)I"⟩, 8), (⟨"CarryUp$Book", "isDone", "(II)Z"⟩, 5), (⟨"CarryUp$Walk", "meet", "(ILCarryUp$Call;LCarryUp$Sort;)V"⟩, 9), (⟨"CarryUpModel", "token", "()V"⟩, 31), (⟨"CarryUpModel", "readsLine", "()Z"⟩, 31), (⟨"CarryUpModel", "isWord", "(II)Z"⟩, 31), (⟨"CarryUpModel", "readsThing", "()Z"⟩, 31), (⟨"CarryUpModel", "reads", "(III)Z"⟩, 31), (⟨"CarryUpModel", "readsWay", "()Z"⟩, 31), (⟨"CarryUpModel", "number", "()I"⟩, 31), (⟨"CarryUpModel", "readsSort", "()Z"⟩, 31), (⟨"CarryUpModel", "readsThings", "(I)Z"⟩, 31)]
theorem lw_r2 : ∀ q ∈ lw_privs_2, lw_okq q := List.forall_mem_cons.mpr ⟨lw_p16, List.forall_mem_cons.mpr ⟨lw_p17, List.forall_mem_cons.mpr ⟨lw_p18, List.forall_mem_cons.mpr ⟨lw_p19, List.forall_mem_cons.mpr ⟨lw_p20, List.forall_mem_cons.mpr ⟨lw_p21, List.forall_mem_cons.mpr ⟨lw_p22, List.forall_mem_cons.mpr ⟨lw_p23, List.forall_mem_cons.mpr ⟨lw_p24, List.forall_mem_cons.mpr ⟨lw_p25, List.forall_mem_cons.mpr ⟨lw_p26, List.forall_mem_cons.mpr ⟨lw_p27, List.forall_mem_cons.mpr ⟨lw_p28, List.forall_mem_cons.mpr ⟨lw_p29, List.forall_mem_cons.mpr ⟨lw_p30, List.forall_mem_cons.mpr ⟨lw_p31, fun _ h => absurd h List.not_mem_nil⟩⟩⟩⟩⟩⟩⟩⟩⟩⟩⟩⟩⟩⟩⟩⟩
theorem lw_p32 : lw_okq (⟨"CarryUpModel", "lay", "(I)V"⟩, 31) := ⟨⟨by decide +kernel, by decide +kernel⟩, List.mem_of_getElem? (i := 1040) (by decide +kernel), List.mem_of_getElem? (i := 1216) (by decide +kernel), List.mem_of_getElem? (i := 1217) (by decide +kernel)⟩
theorem lw_p33 : lw_okq (⟨"CarryUpModel", "isCall", "(I)Z"⟩, 31) := ⟨⟨by decide +kernel, by decide +kernel⟩, List.mem_of_getElem? (i := 1040) (by decide +kernel), List.mem_of_getElem? (i := 1231) (by decide +kernel), List.mem_of_getElem? (i := 1232) (by decide +kernel)⟩
theorem lw_p34 : lw_okq (⟨"CarryUpModel", "isSort", "(II)Z"⟩, 31) := ⟨⟨by decide +kernel, by decide +kernel⟩, List.mem_of_getElem? (i := 1040) (by decide +kernel), List.mem_of_getElem? (i := 1240) (by decide +kernel), List.mem_of_getElem? (i := 1241) (by decide +kernel)⟩
theorem lw_p35 : lw_okq (⟨"CarryUpModel", "mayBe", "(I)Z"⟩, 31) := ⟨⟨by decide +kernel, by decide +kernel⟩, List.mem_of_getElem? (i := 1040) (by decide +kernel), List.mem_of_getElem? (i := 1256) (by decide +kernel), List.mem_of_getElem? (i := 1257) (by decide +kernel)⟩
theorem lw_p36 : lw_okq (⟨"CarryUpModel", "weight", "(I)I"⟩, 31) := ⟨⟨by decide +kernel, by decide +kernel⟩, List.mem_of_getElem? (i := 1040) (by decide +kernel), List.mem_of_getElem? (i := 1260) (by decide +kernel), List.mem_of_getElem? (i := 1261) (by decide +kernel)⟩
theorem lw_p37 : lw_okq (⟨"CarryUpModel", "leftOf", "(III)I"⟩, 31) := ⟨⟨by decide +kernel, by decide +kernel⟩, List.mem_of_getElem? (i := 1040) (by decide +kernel), List.mem_of_getElem? (i := 1268) (by decide +kernel), List.mem_of_getElem? (i := 1269) (by decide +kernel)⟩
theorem lw_p38 : lw_okq (⟨"CarryUpModel", "isUsable", "(I)Z"⟩, 31) := ⟨⟨by decide +kernel, by decide +kernel⟩, List.mem_of_getElem? (i := 1040) (by decide +kernel), List.mem_of_getElem? (i := 1279) (by decide +kernel), List.mem_of_getElem? (i := 1280) (by decide +kernel)⟩
theorem lw_p39 : lw_okq (⟨"CarryUpModel", "totalOf", "(I)I"⟩, 31) := ⟨⟨by decide +kernel, by decide +kernel⟩, List.mem_of_getElem? (i := 1040) (by decide +kernel), List.mem_of_getElem? (i := 1286) (by decide +kernel), List.mem_of_getElem? (i := 1287) (by decide +kernel)⟩
theorem lw_p40 : lw_okq (⟨"CarryUpModel", "refusesBag", "(III)I"⟩, 31) := ⟨⟨by decide +kernel, by decide +kernel⟩, List.mem_of_getElem? (i := 1040) (by decide +kernel), List.mem_of_getElem? (i := 1300) (by decide +kernel), List.mem_of_getElem? (i := 1301) (by decide +kernel)⟩
theorem lw_p41 : lw_okq (⟨"CarryUpModel", "refuses", "(II)I"⟩, 31) := ⟨⟨by decide +kernel, by decide +kernel⟩, List.mem_of_getElem? (i := 1040) (by decide +kernel), List.mem_of_getElem? (i := 1304) (by decide +kernel), List.mem_of_getElem? (i := 1305) (by decide +kernel)⟩
theorem lw_p42 : lw_okq (⟨"CarryUpModel", "layRow", "(II)V"⟩, 31) := ⟨⟨by decide +kernel, by decide +kernel⟩, List.mem_of_getElem? (i := 1040) (by decide +kernel), List.mem_of_getElem? (i := 1311) (by decide +kernel), List.mem_of_getElem? (i := 1312) (by decide +kernel)⟩
theorem lw_p43 : lw_okq (⟨"CarryUpModel", "meanOf", "(III)J"⟩, 31) := ⟨⟨by decide +kernel, by decide +kernel⟩, List.mem_of_getElem? (i := 1040) (by decide +kernel), List.mem_of_getElem? (i := 1315) (by decide +kernel), List.mem_of_getElem? (i := 1316) (by decide +kernel)⟩
theorem lw_p44 : lw_okq (⟨"CarryUpModel", "layChosen", "(I)V"⟩, 31) := ⟨⟨by decide +kernel, by decide +kernel⟩, List.mem_of_getElem? (i := 1040) (by decide +kernel), List.mem_of_getElem? (i := 1319) (by decide +kernel), List.mem_of_getElem? (i := 1320) (by decide +kernel)⟩
theorem lw_p45 : lw_okq (⟨"CarryUpModel", "go", "(II)V"⟩, 31) := ⟨⟨by decide +kernel, by decide +kernel⟩, List.mem_of_getElem? (i := 1040) (by decide +kernel), List.mem_of_getElem? (i := 1323) (by decide +kernel), List.mem_of_getElem? (i := 1324) (by decide +kernel)⟩
theorem lw_p46 : lw_okq (⟨"CarryUpModel", "sortBy", "(II)I"⟩, 31) := ⟨⟨by decide +kernel, by decide +kernel⟩, List.mem_of_getElem? (i := 1040) (by decide +kernel), List.mem_of_getElem? (i := 1328) (by decide +kernel), List.mem_of_getElem? (i := 1329) (by decide +kernel)⟩
theorem lw_p47 : lw_okq (⟨"CarryUpModel", "doneOf", "(I)J"⟩, 31) := ⟨⟨by decide +kernel, by decide +kernel⟩, List.mem_of_getElem? (i := 1040) (by decide +kernel), List.mem_of_getElem? (i := 1338) (by decide +kernel), List.mem_of_getElem? (i := 1339) (by decide +kernel)⟩
def lw_privs_3 : List (MethodName × Nat) := [(⟨"CarryUpModel", "lay", "(I)V"⟩, 31), (⟨"CarryUpModel", "isCall", "(I)Z"⟩, 31), (⟨"CarryUpModel", "isSort", "(II)Z"⟩, 31), (⟨"CarryUpModel", "mayBe", "(I)Z"⟩, 31), (⟨"CarryUpModel", "weight", "(I)I"⟩, 31), (⟨"CarryUpModel", "leftOf", "(III)I"⟩, 31), (⟨"CarryUpModel", "isUsable", "(I)Z"⟩, 31), (⟨"CarryUpModel", "totalOf", "(I)I"⟩, 31), (⟨"CarryUpModel", "refusesBag", "(III)I"⟩, 31), (⟨"CarryUpModel", "refuses", "(II)I"⟩, 31), (⟨"CarryUpModel", "layRow", "(II)V"⟩, 31), (⟨"CarryUpModel", "meanOf", "(III)J"⟩, 31), (⟨"CarryUpModel", "layChosen", "(I)V"⟩, 31), (⟨"CarryUpModel", "go", "(II)V"⟩, 31), (⟨"CarryUpModel", "sortBy", "(II)I"⟩, 31), (⟨"CarryUpModel", "doneOf", "(I)J"⟩, 31)]
theorem lw_r3 : ∀ q ∈ lw_privs_3, lw_okq q := List.forall_mem_cons.mpr ⟨lw_p32, List.forall_mem_cons.mpr ⟨lw_p33, List.forall_mem_cons.mpr ⟨lw_p34, List.forall_mem_cons.mpr ⟨lw_p35, List.forall_mem_cons.mpr ⟨lw_p36, List.forall_mem_cons.mpr ⟨lw_p37, List.forall_mem_cons.mpr ⟨lw_p38, List.forall_mem_cons.mpr ⟨lw_p39, List.forall_mem_cons.mpr ⟨lw_p40, List.forall_mem_cons.mpr ⟨lw_p41, List.forall_mem_cons.mpr ⟨lw_p42, List.forall_mem_cons.mpr ⟨lw_p43, List.forall_mem_cons.mpr ⟨lw_p44, List.forall_mem_cons.mpr ⟨lw_p45, List.forall_mem_cons.mpr ⟨lw_p46, List.forall_mem_cons.mpr ⟨lw_p47, fun _ h => absurd h List.not_mem_nil⟩⟩⟩⟩⟩⟩⟩⟩⟩⟩⟩⟩⟩⟩⟩⟩
theorem lw_p48 : lw_okq (⟨"CarryUpModel", "bestBag", "()I"⟩, 31) := ⟨⟨by decide +kernel, by decide +kernel⟩, List.mem_of_getElem? (i := 1040) (by decide +kernel), List.mem_of_getElem? (i := 1350) (by decide +kernel), List.mem_of_getElem? (i := 1351) (by decide +kernel)⟩
theorem lw_p49 : lw_okq (⟨"CarryUpModel", "refusesNow", "(IIII)I"⟩, 31) := ⟨⟨by decide +kernel, by decide +kernel⟩, List.mem_of_getElem? (i := 1040) (by decide +kernel), List.mem_of_getElem? (i := 1372) (by decide +kernel), List.mem_of_getElem? (i := 1373) (by decide +kernel)⟩
theorem lw_p50 : lw_okq (⟨"CarryUpModel", "valueOf", "(IIII)J"⟩, 31) := ⟨⟨by decide +kernel, by decide +kernel⟩, List.mem_of_getElem? (i := 1040) (by decide +kernel), List.mem_of_getElem? (i := 1378) (by decide +kernel), List.mem_of_getElem? (i := 1379) (by decide +kernel)⟩
theorem lw_p51 : lw_okq (⟨"CarryUpModel", "going", "(IIIII)J"⟩, 31) := ⟨⟨by decide +kernel, by decide +kernel⟩, List.mem_of_getElem? (i := 1040) (by decide +kernel), List.mem_of_getElem? (i := 1382) (by decide +kernel), List.mem_of_getElem? (i := 1383) (by decide +kernel)⟩
theorem lw_p52 : lw_okq (⟨"CarryUpModel", "arrival", "(III)I"⟩, 31) := ⟨⟨by decide +kernel, by decide +kernel⟩, List.mem_of_getElem? (i := 1040) (by decide +kernel), List.mem_of_getElem? (i := 1386) (by decide +kernel), List.mem_of_getElem? (i := 1387) (by decide +kernel)⟩
theorem lw_p53 : lw_okq (⟨"CarryUpModel", "totals", "(I)J"⟩, 31) := ⟨⟨by decide +kernel, by decide +kernel⟩, List.mem_of_getElem? (i := 1040) (by decide +kernel), List.mem_of_getElem? (i := 1390) (by decide +kernel), List.mem_of_getElem? (i := 1391) (by decide +kernel)⟩
theorem lw_p54 : lw_okq (⟨"CarryUpModel", "isLate", "(II)Z"⟩, 31) := ⟨⟨by decide +kernel, by decide +kernel⟩, List.mem_of_getElem? (i := 1040) (by decide +kernel), List.mem_of_getElem? (i := 1394) (by decide +kernel), List.mem_of_getElem? (i := 1395) (by decide +kernel)⟩
theorem lw_p55 : lw_okq (⟨"CarryUpModel", "got", "(II)J"⟩, 31) := ⟨⟨by decide +kernel, by decide +kernel⟩, List.mem_of_getElem? (i := 1040) (by decide +kernel), List.mem_of_getElem? (i := 1398) (by decide +kernel), List.mem_of_getElem? (i := 1399) (by decide +kernel)⟩
theorem lw_p56 : lw_okq (⟨"CarryUpModel", "three", "(IIII)J"⟩, 31) := ⟨⟨by decide +kernel, by decide +kernel⟩, List.mem_of_getElem? (i := 1040) (by decide +kernel), List.mem_of_getElem? (i := 1402) (by decide +kernel), List.mem_of_getElem? (i := 1403) (by decide +kernel)⟩
theorem lw_p57 : lw_okq (⟨"CarryUpModel", "goThree", "(IIIII)J"⟩, 31) := ⟨⟨by decide +kernel, by decide +kernel⟩, List.mem_of_getElem? (i := 1040) (by decide +kernel), List.mem_of_getElem? (i := 1406) (by decide +kernel), List.mem_of_getElem? (i := 1407) (by decide +kernel)⟩
theorem lw_p58 : lw_okq (⟨"CarryUpModel", "two", "(IIII)J"⟩, 31) := ⟨⟨by decide +kernel, by decide +kernel⟩, List.mem_of_getElem? (i := 1040) (by decide +kernel), List.mem_of_getElem? (i := 1410) (by decide +kernel), List.mem_of_getElem? (i := 1411) (by decide +kernel)⟩
theorem lw_p59 : lw_okq (⟨"CarryUpModel", "goTwo", "(IIIII)J"⟩, 31) := ⟨⟨by decide +kernel, by decide +kernel⟩, List.mem_of_getElem? (i := 1040) (by decide +kernel), List.mem_of_getElem? (i := 1414) (by decide +kernel), List.mem_of_getElem? (i := 1415) (by decide +kernel)⟩
theorem lw_p60 : lw_okq (⟨"CarryUpModel", "one", "(IIII)J"⟩, 31) := ⟨⟨by decide +kernel, by decide +kernel⟩, List.mem_of_getElem? (i := 1040) (by decide +kernel), List.mem_of_getElem? (i := 1418) (by decide +kernel), List.mem_of_getElem? (i := 1419) (by decide +kernel)⟩
theorem lw_p61 : lw_okq (⟨"CarryUpModel", "then", "(IIII)I"⟩, 31) := ⟨⟨by decide +kernel, by decide +kernel⟩, List.mem_of_getElem? (i := 1040) (by decide +kernel), List.mem_of_getElem? (i := 1422) (by decide +kernel), List.mem_of_getElem? (i := 1423) (by decide +kernel)⟩
theorem lw_p62 : lw_okq (⟨"CarryUpModel", "savedBy", "(I)I"⟩, 31) := ⟨⟨by decide +kernel, by decide +kernel⟩, List.mem_of_getElem? (i := 1040) (by decide +kernel), List.mem_of_getElem? (i := 1446) (by decide +kernel), List.mem_of_getElem? (i := 1447) (by decide +kernel)⟩
theorem lw_p63 : lw_okq (⟨"CarryUpModel", "doesFor", "(I)I"⟩, 31) := ⟨⟨by decide +kernel, by decide +kernel⟩, List.mem_of_getElem? (i := 1040) (by decide +kernel), List.mem_of_getElem? (i := 1461) (by decide +kernel), List.mem_of_getElem? (i := 1462) (by decide +kernel)⟩
def lw_privs_4 : List (MethodName × Nat) := [(⟨"CarryUpModel", "bestBag", "()I"⟩, 31), (⟨"CarryUpModel", "refusesNow", "(IIII)I"⟩, 31), (⟨"CarryUpModel", "valueOf", "(IIII)J"⟩, 31), (⟨"CarryUpModel", "going", "(IIIII)J"⟩, 31), (⟨"CarryUpModel", "arrival", "(III)I"⟩, 31), (⟨"CarryUpModel", "totals", "(I)J"⟩, 31), (⟨"CarryUpModel", "isLate", "(II)Z"⟩, 31), (⟨"CarryUpModel", "got", "(II)J"⟩, 31), (⟨"CarryUpModel", "three", "(IIII)J"⟩, 31), (⟨"CarryUpModel", "goThree", "(IIIII)J"⟩, 31), (⟨"CarryUpModel", "two", "(IIII)J"⟩, 31), (⟨"CarryUpModel", "goTwo", "(IIIII)J"⟩, 31), (⟨"CarryUpModel", "one", "(IIII)J"⟩, 31), (⟨"CarryUpModel", "then", "(IIII)I"⟩, 31), (⟨"CarryUpModel", "savedBy", "(I)I"⟩, 31), (⟨"CarryUpModel", "doesFor", "(I)I"⟩, 31)]
theorem lw_r4 : ∀ q ∈ lw_privs_4, lw_okq q := List.forall_mem_cons.mpr ⟨lw_p48, List.forall_mem_cons.mpr ⟨lw_p49, List.forall_mem_cons.mpr ⟨lw_p50, List.forall_mem_cons.mpr ⟨lw_p51, List.forall_mem_cons.mpr ⟨lw_p52, List.forall_mem_cons.mpr ⟨lw_p53, List.forall_mem_cons.mpr ⟨lw_p54, List.forall_mem_cons.mpr ⟨lw_p55, List.forall_mem_cons.mpr ⟨lw_p56, List.forall_mem_cons.mpr ⟨lw_p57, List.forall_mem_cons.mpr ⟨lw_p58, List.forall_mem_cons.mpr ⟨lw_p59, List.forall_mem_cons.mpr ⟨lw_p60, List.forall_mem_cons.mpr ⟨lw_p61, List.forall_mem_cons.mpr ⟨lw_p62, List.forall_mem_cons.mpr ⟨lw_p63, fun _ h => absurd h List.not_mem_nil⟩⟩⟩⟩⟩⟩⟩⟩⟩⟩⟩⟩⟩⟩⟩⟩
def lw_privs : List (MethodName × Nat) := lw_privs_1 ++ (lw_privs_2 ++ (lw_privs_3 ++ (lw_privs_4)))
def lw_tbl : List Cond := k2_sels lw_privs ++ tables_1
theorem lw_privs_ok : ∀ q ∈ lw_privs, lw_okq q := by
  show ∀ q ∈ lw_privs_1 ++ (lw_privs_2 ++ (lw_privs_3 ++ (lw_privs_4))), lw_okq q
  exact List.forall_mem_append.mpr ⟨lw_r1, List.forall_mem_append.mpr ⟨lw_r2, List.forall_mem_append.mpr ⟨lw_r3, lw_r4⟩⟩⟩

-- ===== names: classes, fields, methods (as the kit printed them)
def RX0 : String := "CarryUp$Book"
def TX0 : u_T := fun k => match k with
  | 0 => ("CarryUp$Book", "plan", "LCarryUp$Plan;", true)
  | 1 => ("CarryUp$Book", "alls", "[I", true)
  | 2 => ("CarryUp$Book", "ones", "[I", true)
  | 3 => ("CarryUp$Book", "bags", "[I", true)
  | _ => ("CarryUp$Book", "visits", "I", false)
def tyX0 : Nat → FieldType := fun k => match k with
  | 0 => .object "CarryUp$Plan"
  | 1 => .array .int
  | 2 => .array .int
  | 3 => .array .int
  | _ => .int
abbrev wsX00 : List Cond := u_ws RX0 TX0 5
theorem nmX0 : ∀ a, a < 5 → ∀ b, b < 5 → a ≠ b → (TX0 a).2.1 ≠ (TX0 b).2.1 := by decide +kernel
theorem tyX0_ok : ∀ k, k < 5 → parseFieldDescriptor (TX0 k).2.2.1 = some (tyX0 k) := by decide +kernel
abbrev cX0_init : ByteArray := prog_2_method_1_code
def yX0_init : MethodName := ⟨RX0, "<init>", "(LCarryUp$Plan;)V"⟩
abbrev cX0_visits : ByteArray := prog_2_method_2_code
def yX0_visits : MethodName := ⟨RX0, "visits", "()I"⟩
abbrev cX0_add : ByteArray := prog_2_method_3_code
def yX0_add : MethodName := ⟨RX0, "add", "(LCarryUp$Sort;I)I"⟩
abbrev cX0_isDone : ByteArray := prog_2_method_4_code
def yX0_isDone : MethodName := ⟨RX0, "isDone", "(II)Z"⟩
abbrev cX0_savedBy : ByteArray := prog_2_method_5_code
def yX0_savedBy : MethodName := ⟨RX0, "savedBy", "(I)I"⟩
abbrev cX0_mostSaving : ByteArray := prog_2_method_6_code
def yX0_mostSaving : MethodName := ⟨RX0, "mostSaving", "(I)I"⟩
abbrev cX0_doneBy : ByteArray := prog_2_method_7_code
def yX0_doneBy : MethodName := ⟨RX0, "doneBy", "(I)I"⟩
abbrev cX0_bestBox : ByteArray := prog_2_method_8_code
def yX0_bestBox : MethodName := ⟨RX0, "bestBox", "()I"⟩
def RX1 : String := "CarryUp$Call"
def TX1 : u_T := fun k => match k with
  | 0 => ("CarryUp$Call", "sorts", "[LCarryUp$Sort;", true)
  | 1 => ("CarryUp$Call", "sortCount", "I", false)
  | 2 => ("CarryUp$Call", "likely", "I", false)
  | 3 => ("CarryUp$Call", "told", "Z", false)
  | 4 => ("CarryUp$Call", "place", "I", false)
  | 5 => ("CarryUp$Call", "opens", "I", false)
  | 6 => ("CarryUp$Call", "shuts", "I", false)
  | 7 => ("CarryUp$Call", "worth", "I", false)
  | 8 => ("CarryUp$Call", "again", "I", false)
  | _ => ("CarryUp$Call", "look", "I", false)
def tyX1 : Nat → FieldType := fun k => match k with
  | 0 => .array (.object "CarryUp$Sort")
  | 1 => .int
  | 2 => .int
  | 3 => .boolean
  | 4 => .int
  | 5 => .int
  | 6 => .int
  | 7 => .int
  | 8 => .int
  | _ => .int
abbrev wsX10 : List Cond := u_ws RX1 TX1 10
theorem nmX1 : ∀ a, a < 10 → ∀ b, b < 10 → a ≠ b → (TX1 a).2.1 ≠ (TX1 b).2.1 := by decide +kernel
theorem tyX1_ok : ∀ k, k < 10 → parseFieldDescriptor (TX1 k).2.2.1 = some (tyX1 k) := by decide +kernel
abbrev cX1_init : ByteArray := prog_3_method_1_code
def yX1_init : MethodName := ⟨RX1, "<init>", "()V"⟩
abbrev cX1_tell : ByteArray := prog_3_method_2_code
def yX1_tell : MethodName := ⟨RX1, "tell", "(LCarryUp$Reader;I)V"⟩
abbrev cX1_tellSort : ByteArray := prog_3_method_3_code
def yX1_tellSort : MethodName := ⟨RX1, "tellSort", "(LCarryUp$Reader;I)V"⟩
abbrev cX1_isTold : ByteArray := prog_3_method_4_code
def yX1_isTold : MethodName := ⟨RX1, "isTold", "()Z"⟩
abbrev cX1_sorts : ByteArray := prog_3_method_5_code
def yX1_sorts : MethodName := ⟨RX1, "sorts", "()I"⟩
abbrev cX1_likely : ByteArray := prog_3_method_6_code
def yX1_likely : MethodName := ⟨RX1, "likely", "()I"⟩
abbrev cX1_sortTold : ByteArray := prog_3_method_7_code
def yX1_sortTold : MethodName := ⟨RX1, "sortTold", "(I)LCarryUp$Sort;"⟩
abbrev cX1_likelyDone : ByteArray := prog_3_method_8_code
def yX1_likelyDone : MethodName := ⟨RX1, "likelyDone", "(I)I"⟩
abbrev cX1_wanted : ByteArray := prog_3_method_9_code
def yX1_wanted : MethodName := ⟨RX1, "wanted", "()I"⟩
abbrev cX1_lateAt : ByteArray := prog_3_method_10_code
def yX1_lateAt : MethodName := ⟨RX1, "lateAt", "(I)Z"⟩
abbrev cX1_startedAt : ByteArray := prog_3_method_11_code
def yX1_startedAt : MethodName := ⟨RX1, "startedAt", "(I)I"⟩
abbrev cX1_drawn : ByteArray := prog_3_method_12_code
def yX1_drawn : MethodName := ⟨RX1, "drawn", "(I)LCarryUp$Sort;"⟩
def RX2 : String := "CarryUp$Choice"
def TX2 : u_T := fun k => match k with
  | 0 => ("CarryUp$Choice", "plan", "LCarryUp$Plan;", true)
  | 1 => ("CarryUp$Choice", "rows", "LCarryUp$Row;", true)
  | 2 => ("CarryUp$Choice", "walk", "LCarryUp$Walk;", true)
  | 3 => ("CarryUp$Choice", "bag", "I", false)
  | 4 => ("CarryUp$Choice", "row", "I", false)
  | 5 => ("CarryUp$Choice", "sum", "J", false)
  | _ => ("CarryUp$Choice", "scale", "J", false)
def tyX2 : Nat → FieldType := fun k => match k with
  | 0 => .object "CarryUp$Plan"
  | 1 => .object "CarryUp$Row"
  | 2 => .object "CarryUp$Walk"
  | 3 => .int
  | 4 => .int
  | 5 => .long
  | _ => .long
abbrev wsX20 : List Cond := u_ws RX2 TX2 7
theorem nmX2 : ∀ a, a < 7 → ∀ b, b < 7 → a ≠ b → (TX2 a).2.1 ≠ (TX2 b).2.1 := by decide +kernel
theorem tyX2_ok : ∀ k, k < 7 → parseFieldDescriptor (TX2 k).2.2.1 = some (tyX2 k) := by decide +kernel
abbrev cX2_init : ByteArray := prog_4_method_1_code
def yX2_init : MethodName := ⟨RX2, "<init>", "(LCarryUp$Plan;LCarryUp$Row;LCarryUp$Walk;)V"⟩
abbrev cX2_bag : ByteArray := prog_4_method_2_code
def yX2_bag : MethodName := ⟨RX2, "bag", "()I"⟩
abbrev cX2_row : ByteArray := prog_4_method_3_code
def yX2_row : MethodName := ⟨RX2, "row", "()I"⟩
abbrev cX2_scale : ByteArray := prog_4_method_4_code
def yX2_scale : MethodName := ⟨RX2, "scale", "()J"⟩
abbrev cX2_isWorthATry : ByteArray := prog_4_method_5_code
def yX2_isWorthATry : MethodName := ⟨RX2, "isWorthATry", "(II)Z"⟩
abbrev cX2_findBest : ByteArray := prog_4_method_6_code
def yX2_findBest : MethodName := ⟨RX2, "findBest", "()V"⟩
abbrev cX2_findSure : ByteArray := prog_4_method_7_code
def yX2_findSure : MethodName := ⟨RX2, "findSure", "(II)I"⟩
abbrev cX2_gainByKnowing : ByteArray := prog_4_method_8_code
def yX2_gainByKnowing : MethodName := ⟨RX2, "gainByKnowing", "(I)J"⟩
abbrev cX2_findBoth : ByteArray := prog_4_method_9_code
def yX2_findBoth : MethodName := ⟨RX2, "findBoth", "(I)Z"⟩
abbrev cX2_rowOf : ByteArray := prog_4_method_10_code
def yX2_rowOf : MethodName := ⟨RX2, "rowOf", "(II)I"⟩
def RX3 : String := "CarryUp$Now"
def TX3 : u_T := fun k => match k with
  | 0 => ("CarryUp$Now", "plan", "LCarryUp$Plan;", true)
  | 1 => ("CarryUp$Now", "first", "I", false)
  | 2 => ("CarryUp$Now", "worth", "J", false)
  | _ => ("CarryUp$Now", "scale", "J", false)
def tyX3 : Nat → FieldType := fun k => match k with
  | 0 => .object "CarryUp$Plan"
  | 1 => .int
  | 2 => .long
  | _ => .long
abbrev wsX30 : List Cond := u_ws RX3 TX3 4
theorem nmX3 : ∀ a, a < 4 → ∀ b, b < 4 → a ≠ b → (TX3 a).2.1 ≠ (TX3 b).2.1 := by decide +kernel
theorem tyX3_ok : ∀ k, k < 4 → parseFieldDescriptor (TX3 k).2.2.1 = some (tyX3 k) := by decide +kernel
abbrev cX3_init : ByteArray := prog_5_method_1_code
def yX3_init : MethodName := ⟨RX3, "<init>", "(LCarryUp$Plan;)V"⟩
abbrev cX3_first : ByteArray := prog_5_method_2_code
def yX3_first : MethodName := ⟨RX3, "first", "()I"⟩
abbrev cX3_worth : ByteArray := prog_5_method_3_code
def yX3_worth : MethodName := ⟨RX3, "worth", "()J"⟩
abbrev cX3_scale : ByteArray := prog_5_method_4_code
def yX3_scale : MethodName := ⟨RX3, "scale", "()J"⟩
abbrev cX3_find : ByteArray := prog_5_method_5_code
def yX3_find : MethodName := ⟨RX3, "find", "(IIII)V"⟩
abbrev cX3_scaleOf : ByteArray := prog_5_method_6_code
def yX3_scaleOf : MethodName := ⟨RX3, "scaleOf", "(LCarryUp$Plan;I)J"⟩
abbrev cX3_bestLeft : ByteArray := prog_5_method_7_code
def yX3_bestLeft : MethodName := ⟨RX3, "bestLeft", "(LCarryUp$Plan;IIII)J"⟩
abbrev cX3_going : ByteArray := prog_5_method_8_code
def yX3_going : MethodName := ⟨RX3, "going", "(LCarryUp$Plan;IIIII)J"⟩
def RX4 : String := "CarryUp$Plan"
def TX4 : u_T := fun k => match k with
  | 0 => ("CarryUp$Plan", "weights", "[I", true)
  | 1 => ("CarryUp$Plan", "prices", "[I", true)
  | 2 => ("CarryUp$Plan", "ways", "[I", true)
  | 3 => ("CarryUp$Plan", "calls", "[LCarryUp$Call;", true)
  | 4 => ("CarryUp$Plan", "tools", "I", false)
  | 5 => ("CarryUp$Plan", "load", "I", false)
  | 6 => ("CarryUp$Plan", "purse", "I", false)
  | _ => ("CarryUp$Plan", "begin", "I", false)
def tyX4 : Nat → FieldType := fun k => match k with
  | 0 => .array .int
  | 1 => .array .int
  | 2 => .array .int
  | 3 => .array (.object "CarryUp$Call")
  | 4 => .int
  | 5 => .int
  | 6 => .int
  | _ => .int
abbrev wsX40 : List Cond := u_ws RX4 TX4 8
theorem nmX4 : ∀ a, a < 8 → ∀ b, b < 8 → a ≠ b → (TX4 a).2.1 ≠ (TX4 b).2.1 := by decide +kernel
theorem tyX4_ok : ∀ k, k < 8 → parseFieldDescriptor (TX4 k).2.2.1 = some (tyX4 k) := by decide +kernel
abbrev cX4_init : ByteArray := prog_6_method_1_code
def yX4_init : MethodName := ⟨RX4, "<init>", "()V"⟩
abbrev cX4_weight : ByteArray := prog_6_method_2_code
def yX4_weight : MethodName := ⟨RX4, "weight", "(I)I"⟩
abbrev cX4_price : ByteArray := prog_6_method_3_code
def yX4_price : MethodName := ⟨RX4, "price", "(I)I"⟩
abbrev cX4_tools : ByteArray := prog_6_method_4_code
def yX4_tools : MethodName := ⟨RX4, "tools", "()I"⟩
abbrev cX4_load : ByteArray := prog_6_method_5_code
def yX4_load : MethodName := ⟨RX4, "load", "()I"⟩
abbrev cX4_purse : ByteArray := prog_6_method_6_code
def yX4_purse : MethodName := ⟨RX4, "purse", "()I"⟩
abbrev cX4_begin : ByteArray := prog_6_method_7_code
def yX4_begin : MethodName := ⟨RX4, "begin", "()I"⟩
abbrev cX4_wayBetween : ByteArray := prog_6_method_8_code
def yX4_wayBetween : MethodName := ⟨RX4, "wayBetween", "(II)I"⟩
abbrev cX4_tell : ByteArray := prog_6_method_9_code
def yX4_tell : MethodName := ⟨RX4, "tell", "(LCarryUp$Reader;I)V"⟩
abbrev cX4_tellThing : ByteArray := prog_6_method_10_code
def yX4_tellThing : MethodName := ⟨RX4, "tellThing", "(IIII)V"⟩
abbrev cX4_tellWay : ByteArray := prog_6_method_11_code
def yX4_tellWay : MethodName := ⟨RX4, "tellWay", "(III)V"⟩
abbrev cX4_tellCall : ByteArray := prog_6_method_12_code
def yX4_tellCall : MethodName := ⟨RX4, "tellCall", "(ILCarryUp$Reader;I)V"⟩
abbrev cX4_tellSort : ByteArray := prog_6_method_13_code
def yX4_tellSort : MethodName := ⟨RX4, "tellSort", "(ILCarryUp$Reader;I)V"⟩
abbrev cX4_callAt : ByteArray := prog_6_method_14_code
def yX4_callAt : MethodName := ⟨RX4, "callAt", "(I)LCarryUp$Call;"⟩
abbrev cX4_callTold : ByteArray := prog_6_method_15_code
def yX4_callTold : MethodName := ⟨RX4, "callTold", "(I)LCarryUp$Call;"⟩
abbrev cX4_callWithSorts : ByteArray := prog_6_method_16_code
def yX4_callWithSorts : MethodName := ⟨RX4, "callWithSorts", "(I)LCarryUp$Call;"⟩
abbrev cX4_sortTold : ByteArray := prog_6_method_17_code
def yX4_sortTold : MethodName := ⟨RX4, "sortTold", "(II)LCarryUp$Sort;"⟩
abbrev cX4_callsTold : ByteArray := prog_6_method_18_code
def yX4_callsTold : MethodName := ⟨RX4, "callsTold", "()I"⟩
abbrev cX4_weightOf : ByteArray := prog_6_method_19_code
def yX4_weightOf : MethodName := ⟨RX4, "weightOf", "(I)I"⟩
abbrev cX4_mayBe : ByteArray := prog_6_method_20_code
def yX4_mayBe : MethodName := ⟨RX4, "mayBe", "(I)Z"⟩
abbrev cX4_wanted : ByteArray := prog_6_method_21_code
def yX4_wanted : MethodName := ⟨RX4, "wanted", "()I"⟩
abbrev cX4_standsIn : ByteArray := prog_6_method_22_code
def yX4_standsIn : MethodName := ⟨RX4, "standsIn", "(II)Z"⟩
def RX5 : String := "CarryUp$Reader"
def TX5 : u_T := fun k => match k with
  | 0 => ("CarryUp$Reader", "text", "LCarryUp$Text;", true)
  | 1 => ("CarryUp$Reader", "told", "[I", true)
  | 2 => ("CarryUp$Reader", "lines", "I", false)
  | 3 => ("CarryUp$Reader", "noted", "I", false)
  | 4 => ("CarryUp$Reader", "from", "I", false)
  | 5 => ("CarryUp$Reader", "to", "I", false)
  | _ => ("CarryUp$Reader", "faulty", "Z", false)
def tyX5 : Nat → FieldType := fun k => match k with
  | 0 => .object "CarryUp$Text"
  | 1 => .array .int
  | 2 => .int
  | 3 => .int
  | 4 => .int
  | 5 => .int
  | _ => .boolean
abbrev wsX50 : List Cond := u_ws RX5 TX5 7
theorem nmX5 : ∀ a, a < 7 → ∀ b, b < 7 → a ≠ b → (TX5 a).2.1 ≠ (TX5 b).2.1 := by decide +kernel
theorem tyX5_ok : ∀ k, k < 7 → parseFieldDescriptor (TX5 k).2.2.1 = some (tyX5 k) := by decide +kernel
abbrev cX5_init : ByteArray := prog_7_method_1_code
def yX5_init : MethodName := ⟨RX5, "<init>", "(LCarryUp$Text;)V"⟩
abbrev cX5_lines : ByteArray := prog_7_method_2_code
def yX5_lines : MethodName := ⟨RX5, "lines", "()I"⟩
abbrev cX5_told : ByteArray := prog_7_method_3_code
def yX5_told : MethodName := ⟨RX5, "told", "(II)I"⟩
abbrev cX5_read : ByteArray := prog_7_method_4_code
def yX5_read : MethodName := ⟨RX5, "read", "()I"⟩
abbrev cX5_readLine : ByteArray := prog_7_method_5_code
def yX5_readLine : MethodName := ⟨RX5, "readLine", "()V"⟩
abbrev cX5_readThing : ByteArray := prog_7_method_6_code
def yX5_readThing : MethodName := ⟨RX5, "readThing", "()V"⟩
abbrev cX5_readOne : ByteArray := prog_7_method_7_code
def yX5_readOne : MethodName := ⟨RX5, "readOne", "(II)V"⟩
abbrev cX5_readWay : ByteArray := prog_7_method_8_code
def yX5_readWay : MethodName := ⟨RX5, "readWay", "()V"⟩
abbrev cX5_readCall : ByteArray := prog_7_method_9_code
def yX5_readCall : MethodName := ⟨RX5, "readCall", "()V"⟩
abbrev cX5_readSort : ByteArray := prog_7_method_10_code
def yX5_readSort : MethodName := ⟨RX5, "readSort", "()V"⟩
abbrev cX5_note : ByteArray := prog_7_method_11_code
def yX5_note : MethodName := ⟨RX5, "note", "(I)V"⟩
abbrev cX5_step : ByteArray := prog_7_method_12_code
def yX5_step : MethodName := ⟨RX5, "step", "()V"⟩
abbrev cX5_takes : ByteArray := prog_7_method_13_code
def yX5_takes : MethodName := ⟨RX5, "takes", "(Ljava/lang/String;)Z"⟩
abbrev cX5_number : ByteArray := prog_7_method_14_code
def yX5_number : MethodName := ⟨RX5, "number", "(II)I"⟩
abbrev cX5_things : ByteArray := prog_7_method_15_code
def yX5_things : MethodName := ⟨RX5, "things", "()I"⟩
abbrev cX5_letter : ByteArray := prog_7_method_16_code
def yX5_letter : MethodName := ⟨RX5, "letter", "()I"⟩
def RX6 : String := "CarryUp$Row"
def TX6 : u_T := fun k => match k with
  | 0 => ("CarryUp$Row", "plan", "LCarryUp$Plan;", true)
  | 1 => ("CarryUp$Row", "stops", "[I", true)
  | 2 => ("CarryUp$Row", "ways", "[I", true)
  | 3 => ("CarryUp$Row", "calls", "[LCarryUp$Call;", true)
  | 4 => ("CarryUp$Row", "length", "I", false)
  | 5 => ("CarryUp$Row", "knownCall", "I", false)
  | _ => ("CarryUp$Row", "knownSort", "I", false)
def tyX6 : Nat → FieldType := fun k => match k with
  | 0 => .object "CarryUp$Plan"
  | 1 => .array .int
  | 2 => .array .int
  | 3 => .array (.object "CarryUp$Call")
  | 4 => .int
  | 5 => .int
  | _ => .int
abbrev wsX60 : List Cond := u_ws RX6 TX6 7
theorem nmX6 : ∀ a, a < 7 → ∀ b, b < 7 → a ≠ b → (TX6 a).2.1 ≠ (TX6 b).2.1 := by decide +kernel
theorem tyX6_ok : ∀ k, k < 7 → parseFieldDescriptor (TX6 k).2.2.1 = some (tyX6 k) := by decide +kernel
abbrev cX6_init : ByteArray := prog_8_method_1_code
def yX6_init : MethodName := ⟨RX6, "<init>", "(LCarryUp$Plan;)V"⟩
abbrev cX6_tell : ByteArray := prog_8_method_2_code
def yX6_tell : MethodName := ⟨RX6, "tell", "(II)I"⟩
abbrev cX6_hasTwice : ByteArray := prog_8_method_3_code
def yX6_hasTwice : MethodName := ⟨RX6, "hasTwice", "()Z"⟩
abbrev cX6_has : ByteArray := prog_8_method_4_code
def yX6_has : MethodName := ⟨RX6, "has", "(I)Z"⟩
abbrev cX6_length : ByteArray := prog_8_method_5_code
def yX6_length : MethodName := ⟨RX6, "length", "()I"⟩
abbrev cX6_stopAt : ByteArray := prog_8_method_6_code
def yX6_stopAt : MethodName := ⟨RX6, "stopAt", "(I)I"⟩
abbrev cX6_wayTo : ByteArray := prog_8_method_7_code
def yX6_wayTo : MethodName := ⟨RX6, "wayTo", "(I)I"⟩
abbrev cX6_callAt : ByteArray := prog_8_method_8_code
def yX6_callAt : MethodName := ⟨RX6, "callAt", "(I)LCarryUp$Call;"⟩
abbrev cX6_assume : ByteArray := prog_8_method_9_code
def yX6_assume : MethodName := ⟨RX6, "assume", "(II)V"⟩
abbrev cX6_forget : ByteArray := prog_8_method_10_code
def yX6_forget : MethodName := ⟨RX6, "forget", "()V"⟩
abbrev cX6_likelyOf : ByteArray := prog_8_method_11_code
def yX6_likelyOf : MethodName := ⟨RX6, "likelyOf", "(II)I"⟩
abbrev cX6_likelyAt : ByteArray := prog_8_method_12_code
def yX6_likelyAt : MethodName := ⟨RX6, "likelyAt", "(I)I"⟩
abbrev cX6_wanted : ByteArray := prog_8_method_13_code
def yX6_wanted : MethodName := ⟨RX6, "wanted", "()I"⟩
def RX7 : String := "CarryUp$Sort"
def TX7 : u_T := fun k => match k with
  | 0 => ("CarryUp$Sort", "likely", "I", false)
  | 1 => ("CarryUp$Sort", "minutes", "I", false)
  | 2 => ("CarryUp$Sort", "all", "I", false)
  | _ => ("CarryUp$Sort", "one", "I", false)
def tyX7 : Nat → FieldType := fun k => match k with
  | 0 => .int
  | 1 => .int
  | 2 => .int
  | _ => .int
abbrev wsX70 : List Cond := u_ws RX7 TX7 4
theorem nmX7 : ∀ a, a < 4 → ∀ b, b < 4 → a ≠ b → (TX7 a).2.1 ≠ (TX7 b).2.1 := by decide +kernel
theorem tyX7_ok : ∀ k, k < 4 → parseFieldDescriptor (TX7 k).2.2.1 = some (tyX7 k) := by decide +kernel
abbrev cX7_init : ByteArray := prog_9_method_1_code
def yX7_init : MethodName := ⟨RX7, "<init>", "()V"⟩
abbrev cX7_tell : ByteArray := prog_9_method_2_code
def yX7_tell : MethodName := ⟨RX7, "tell", "(IIII)V"⟩
abbrev cX7_isDone : ByteArray := prog_9_method_3_code
def yX7_isDone : MethodName := ⟨RX7, "isDone", "(III)Z"⟩
abbrev cX7_left : ByteArray := prog_9_method_4_code
def yX7_left : MethodName := ⟨RX7, "left", "(II)I"⟩
abbrev cX7_wanted : ByteArray := prog_9_method_5_code
def yX7_wanted : MethodName := ⟨RX7, "wanted", "()I"⟩
def RX8 : String := "CarryUp$Text"
def TX8 : u_T := fun k => match k with
  | 0 => ("CarryUp$Text", "bytes", "[I", true)
  | _ => ("CarryUp$Text", "length", "I", false)
def tyX8 : Nat → FieldType := fun k => match k with
  | 0 => .array .int
  | _ => .int
abbrev wsX80 : List Cond := u_ws RX8 TX8 2
theorem nmX8 : ∀ a, a < 2 → ∀ b, b < 2 → a ≠ b → (TX8 a).2.1 ≠ (TX8 b).2.1 := by decide +kernel
theorem tyX8_ok : ∀ k, k < 2 → parseFieldDescriptor (TX8 k).2.2.1 = some (tyX8 k) := by decide +kernel
abbrev cX8_init : ByteArray := prog_10_method_1_code
def yX8_init : MethodName := ⟨RX8, "<init>", "()V"⟩
abbrev cX8_length : ByteArray := prog_10_method_2_code
def yX8_length : MethodName := ⟨RX8, "length", "()I"⟩
abbrev cX8_clear : ByteArray := prog_10_method_3_code
def yX8_clear : MethodName := ⟨RX8, "clear", "()V"⟩
abbrev cX8_add : ByteArray := prog_10_method_4_code
def yX8_add : MethodName := ⟨RX8, "add", "(JI)I"⟩
abbrev cX8_kindAt : ByteArray := prog_10_method_5_code
def yX8_kindAt : MethodName := ⟨RX8, "kindAt", "(I)I"⟩
abbrev cX8_isAt : ByteArray := prog_10_method_6_code
def yX8_isAt : MethodName := ⟨RX8, "isAt", "(IILjava/lang/String;)Z"⟩
abbrev cX8_things : ByteArray := prog_10_method_7_code
def yX8_things : MethodName := ⟨RX8, "things", "(II)I"⟩
abbrev cX8_number : ByteArray := prog_10_method_8_code
def yX8_number : MethodName := ⟨RX8, "number", "(II)I"⟩
def RX9 : String := "CarryUp$Walk"
def TX9 : u_T := fun k => match k with
  | 0 => ("CarryUp$Walk", "plan", "LCarryUp$Plan;", true)
  | 1 => ("CarryUp$Walk", "row", "LCarryUp$Row;", true)
  | 2 => ("CarryUp$Walk", "full", "I", false)
  | 3 => ("CarryUp$Walk", "sum", "J", false)
  | 4 => ("CarryUp$Walk", "allDone", "J", false)
  | 5 => ("CarryUp$Walk", "scale", "J", false)
  | 6 => ("CarryUp$Walk", "latest", "I", false)
  | 7 => ("CarryUp$Walk", "doneBits", "I", false)
  | _ => ("CarryUp$Walk", "bagLeft", "I", false)
def tyX9 : Nat → FieldType := fun k => match k with
  | 0 => .object "CarryUp$Plan"
  | 1 => .object "CarryUp$Row"
  | 2 => .int
  | 3 => .long
  | 4 => .long
  | 5 => .long
  | 6 => .int
  | 7 => .int
  | _ => .int
abbrev wsX90 : List Cond := u_ws RX9 TX9 9
theorem nmX9 : ∀ a, a < 9 → ∀ b, b < 9 → a ≠ b → (TX9 a).2.1 ≠ (TX9 b).2.1 := by decide +kernel
theorem tyX9_ok : ∀ k, k < 9 → parseFieldDescriptor (TX9 k).2.2.1 = some (tyX9 k) := by decide +kernel
abbrev cX9_init : ByteArray := prog_11_method_1_code
def yX9_init : MethodName := ⟨RX9, "<init>", "(LCarryUp$Plan;LCarryUp$Row;)V"⟩
abbrev cX9_sum : ByteArray := prog_11_method_2_code
def yX9_sum : MethodName := ⟨RX9, "sum", "()J"⟩
abbrev cX9_allDone : ByteArray := prog_11_method_3_code
def yX9_allDone : MethodName := ⟨RX9, "allDone", "()J"⟩
abbrev cX9_scale : ByteArray := prog_11_method_4_code
def yX9_scale : MethodName := ⟨RX9, "scale", "()J"⟩
abbrev cX9_latest : ByteArray := prog_11_method_5_code
def yX9_latest : MethodName := ⟨RX9, "latest", "()I"⟩
abbrev cX9_doneBits : ByteArray := prog_11_method_6_code
def yX9_doneBits : MethodName := ⟨RX9, "doneBits", "()I"⟩
abbrev cX9_bagLeft : ByteArray := prog_11_method_7_code
def yX9_bagLeft : MethodName := ⟨RX9, "bagLeft", "()I"⟩
abbrev cX9_take : ByteArray := prog_11_method_8_code
def yX9_take : MethodName := ⟨RX9, "take", "(I)V"⟩
abbrev cX9_goOn : ByteArray := prog_11_method_9_code
def yX9_goOn : MethodName := ⟨RX9, "goOn", "(LCarryUp$Walk;IIIJIZ)V"⟩
abbrev cX9_finish : ByteArray := prog_11_method_10_code
def yX9_finish : MethodName := ⟨RX9, "finish", "(IJIZ)V"⟩
abbrev cX9_draw : ByteArray := prog_11_method_11_code
def yX9_draw : MethodName := ⟨RX9, "draw", "(II)V"⟩
abbrev cX9_meet : ByteArray := prog_11_method_12_code
def yX9_meet : MethodName := ⟨RX9, "meet", "(ILCarryUp$Call;LCarryUp$Sort;)V"⟩
def RX10 : String := "CarryUp"
def TX10 : u_T := fun k => match k with
  | 0 => ("CarryUp", "text", "LCarryUp$Text;", true)
  | 1 => ("CarryUp", "reader", "LCarryUp$Reader;", true)
  | 2 => ("CarryUp", "plan", "LCarryUp$Plan;", true)
  | 3 => ("CarryUp", "rows", "LCarryUp$Row;", true)
  | 4 => ("CarryUp", "walk", "LCarryUp$Walk;", true)
  | 5 => ("CarryUp", "choice", "LCarryUp$Choice;", true)
  | 6 => ("CarryUp", "now", "LCarryUp$Now;", true)
  | _ => ("CarryUp", "book", "LCarryUp$Book;", true)
def tyX10 : Nat → FieldType := fun k => match k with
  | 0 => .object "CarryUp$Text"
  | 1 => .object "CarryUp$Reader"
  | 2 => .object "CarryUp$Plan"
  | 3 => .object "CarryUp$Row"
  | 4 => .object "CarryUp$Walk"
  | 5 => .object "CarryUp$Choice"
  | 6 => .object "CarryUp$Now"
  | _ => .object "CarryUp$Book"
abbrev wsX100 : List Cond := u_ws RX10 TX10 8
theorem nmX10 : ∀ a, a < 8 → ∀ b, b < 8 → a ≠ b → (TX10 a).2.1 ≠ (TX10 b).2.1 := by decide +kernel
theorem tyX10_ok : ∀ k, k < 8 → parseFieldDescriptor (TX10 k).2.2.1 = some (tyX10 k) := by decide +kernel
abbrev cX10_init : ByteArray := prog_1_method_1_code
def yX10_init : MethodName := ⟨RX10, "<init>", "()V"⟩
abbrev cX10_write : ByteArray := prog_1_method_2_code
def yX10_write : MethodName := ⟨RX10, "write", "(JI)I"⟩
abbrev cX10_erase : ByteArray := prog_1_method_3_code
def yX10_erase : MethodName := ⟨RX10, "erase", "()I"⟩
abbrev cX10_fault : ByteArray := prog_1_method_4_code
def yX10_fault : MethodName := ⟨RX10, "fault", "()I"⟩
abbrev cX10_day : ByteArray := prog_1_method_5_code
def yX10_day : MethodName := ⟨RX10, "day", "()I"⟩
abbrev cX10_thing : ByteArray := prog_1_method_6_code
def yX10_thing : MethodName := ⟨RX10, "thing", "(II)I"⟩
abbrev cX10_call : ByteArray := prog_1_method_7_code
def yX10_call : MethodName := ⟨RX10, "call", "(II)I"⟩
abbrev cX10_sort : ByteArray := prog_1_method_8_code
def yX10_sort : MethodName := ⟨RX10, "sort", "(III)I"⟩
abbrev cX10_way : ByteArray := prog_1_method_9_code
def yX10_way : MethodName := ⟨RX10, "way", "(II)I"⟩
abbrev cX10_may : ByteArray := prog_1_method_10_code
def yX10_may : MethodName := ⟨RX10, "may", "(I)I"⟩
abbrev cX10_does : ByteArray := prog_1_method_11_code
def yX10_does : MethodName := ⟨RX10, "does", "(III)I"⟩
abbrev cX10_chance : ByteArray := prog_1_method_12_code
def yX10_chance : MethodName := ⟨RX10, "chance", "(III)I"⟩
abbrev cX10_mean : ByteArray := prog_1_method_13_code
def yX10_mean : MethodName := ⟨RX10, "mean", "(IIII)J"⟩
abbrev cX10_all : ByteArray := prog_1_method_14_code
def yX10_all : MethodName := ⟨RX10, "all", "(IIII)J"⟩
abbrev cX10_end : ByteArray := prog_1_method_15_code
def yX10_end : MethodName := ⟨RX10, "end", "(III)I"⟩
abbrev cX10_best : ByteArray := prog_1_method_16_code
def yX10_best : MethodName := ⟨RX10, "best", "(II)I"⟩
abbrev cX10_sure : ByteArray := prog_1_method_17_code
def yX10_sure : MethodName := ⟨RX10, "sure", "(IIII)I"⟩
abbrev cX10_know : ByteArray := prog_1_method_18_code
def yX10_know : MethodName := ⟨RX10, "know", "(IIII)J"⟩
abbrev cX10_both : ByteArray := prog_1_method_19_code
def yX10_both : MethodName := ⟨RX10, "both", "(II)I"⟩
abbrev cX10_value : ByteArray := prog_1_method_20_code
def yX10_value : MethodName := ⟨RX10, "value", "(IIIII)J"⟩
abbrev cX10_next : ByteArray := prog_1_method_21_code
def yX10_next : MethodName := ⟨RX10, "next", "(IIII)I"⟩
abbrev cX10_stands : ByteArray := prog_1_method_22_code
def yX10_stands : MethodName := ⟨RX10, "stands", "(II)I"⟩
abbrev cX10_idle : ByteArray := prog_1_method_23_code
def yX10_idle : MethodName := ⟨RX10, "idle", "()I"⟩
abbrev cX10_visit : ByteArray := prog_1_method_24_code
def yX10_visit : MethodName := ⟨RX10, "visit", "(III)I"⟩
abbrev cX10_saved : ByteArray := prog_1_method_25_code
def yX10_saved : MethodName := ⟨RX10, "saved", "(I)I"⟩
abbrev cX10_most : ByteArray := prog_1_method_26_code
def yX10_most : MethodName := ⟨RX10, "most", "(I)I"⟩
abbrev cX10_box : ByteArray := prog_1_method_27_code
def yX10_box : MethodName := ⟨RX10, "box", "(I)I"⟩
abbrev cX10_run : ByteArray := prog_1_method_28_code
def yX10_run : MethodName := ⟨RX10, "run", "(IIIII)I"⟩
abbrev cX10_count : ByteArray := prog_1_method_29_code
def yX10_count : MethodName := ⟨RX10, "count", "(I)I"⟩
abbrev cX10_refusal : ByteArray := prog_1_method_30_code
def yX10_refusal : MethodName := ⟨RX10, "refusal", "(IIZ)I"⟩
abbrev cX10_refusalNow : ByteArray := prog_1_method_31_code
def yX10_refusalNow : MethodName := ⟨RX10, "refusalNow", "(IIZ)I"⟩
abbrev cX10_within : ByteArray := prog_1_method_32_code
def yX10_within : MethodName := ⟨RX10, "within", "(III)Z"⟩
abbrev cX10_isBag : ByteArray := prog_1_method_33_code
def yX10_isBag : MethodName := ⟨RX10, "isBag", "(I)Z"⟩
abbrev cX10_isPart : ByteArray := prog_1_method_34_code
def yX10_isPart : MethodName := ⟨RX10, "isPart", "(I)Z"⟩
abbrev cX10_lowest : ByteArray := prog_1_method_35_code
def yX10_lowest : MethodName := ⟨RX10, "lowest", "(JJI)J"⟩
abbrev cX10_at : ByteArray := prog_1_method_36_code
def yX10_at : MethodName := ⟨RX10, "at", "([II)I"⟩
abbrev cX10_put : ByteArray := prog_1_method_37_code
def yX10_put : MethodName := ⟨RX10, "put", "([III)V"⟩
def RX11 : String := "CarryUpModel"
def TX11 : u_T := fun k => match k with
  | 0 => ("CarryUpModel", "text", "[I", true)
  | 1 => ("CarryUpModel", "length", "I", false)
  | 2 => ("CarryUpModel", "read", "[I", true)
  | 3 => ("CarryUpModel", "readMany", "I", false)
  | 4 => ("CarryUpModel", "weights", "[I", true)
  | 5 => ("CarryUpModel", "prices", "[I", true)
  | 6 => ("CarryUpModel", "tools", "I", false)
  | 7 => ("CarryUpModel", "load", "I", false)
  | 8 => ("CarryUpModel", "purse", "I", false)
  | 9 => ("CarryUpModel", "begin", "I", false)
  | 10 => ("CarryUpModel", "ways", "[I", true)
  | 11 => ("CarryUpModel", "toldCalls", "I", false)
  | 12 => ("CarryUpModel", "calls", "[I", true)
  | 13 => ("CarryUpModel", "sortMany", "[I", true)
  | 14 => ("CarryUpModel", "sorts", "[I", true)
  | 15 => ("CarryUpModel", "visits", "[I", true)
  | 16 => ("CarryUpModel", "visitMany", "I", false)
  | 17 => ("CarryUpModel", "at", "I", false)
  | 18 => ("CarryUpModel", "place", "I", false)
  | 19 => ("CarryUpModel", "end", "I", false)
  | 20 => ("CarryUpModel", "entries", "[I", true)
  | 21 => ("CarryUpModel", "entryMany", "I", false)
  | 22 => ("CarryUpModel", "combos", "I", false)
  | 23 => ("CarryUpModel", "all", "J", false)
  | 24 => ("CarryUpModel", "weight", "J", false)
  | 25 => ("CarryUpModel", "gain", "I", false)
  | 26 => ("CarryUpModel", "allDone", "Z", false)
  | 27 => ("CarryUpModel", "minute", "I", false)
  | 28 => ("CarryUpModel", "doneSet", "I", false)
  | 29 => ("CarryUpModel", "bagLeft", "I", false)
  | _ => ("CarryUpModel", "chosen", "[I", true)
def tyX11 : Nat → FieldType := fun k => match k with
  | 0 => .array .int
  | 1 => .int
  | 2 => .array .int
  | 3 => .int
  | 4 => .array .int
  | 5 => .array .int
  | 6 => .int
  | 7 => .int
  | 8 => .int
  | 9 => .int
  | 10 => .array .int
  | 11 => .int
  | 12 => .array .int
  | 13 => .array .int
  | 14 => .array .int
  | 15 => .array .int
  | 16 => .int
  | 17 => .int
  | 18 => .int
  | 19 => .int
  | 20 => .array .int
  | 21 => .int
  | 22 => .int
  | 23 => .long
  | 24 => .long
  | 25 => .int
  | 26 => .boolean
  | 27 => .int
  | 28 => .int
  | 29 => .int
  | _ => .array .int
abbrev wsX110 : List Cond := u_ws RX11 TX11 31
theorem nmX11 : ∀ a, a < 31 → ∀ b, b < 31 → a ≠ b → (TX11 a).2.1 ≠ (TX11 b).2.1 := by decide +kernel
theorem tyX11_ok : ∀ k, k < 31 → parseFieldDescriptor (TX11 k).2.2.1 = some (tyX11 k) := by decide +kernel
abbrev cX11_init : ByteArray := prog_13_method_1_code
def yX11_init : MethodName := ⟨RX11, "<init>", "()V"⟩
abbrev cX11_in : ByteArray := prog_13_method_2_code
def yX11_in : MethodName := ⟨RX11, "in", "(JJJ)Z"⟩
abbrev cX11_has : ByteArray := prog_13_method_3_code
def yX11_has : MethodName := ⟨RX11, "has", "(II)Z"⟩
abbrev cX11_write : ByteArray := prog_13_method_4_code
def yX11_write : MethodName := ⟨RX11, "write", "(JI)I"⟩
abbrev cX11_erase : ByteArray := prog_13_method_5_code
def yX11_erase : MethodName := ⟨RX11, "erase", "()I"⟩
abbrev cX11_kind : ByteArray := prog_13_method_6_code
def yX11_kind : MethodName := ⟨RX11, "kind", "(I)I"⟩
abbrev cX11_token : ByteArray := prog_13_method_7_code
def yX11_token : MethodName := ⟨RX11, "token", "()V"⟩
abbrev cX11_isWord : ByteArray := prog_13_method_8_code
def yX11_isWord : MethodName := ⟨RX11, "isWord", "(II)Z"⟩
abbrev cX11_reads : ByteArray := prog_13_method_9_code
def yX11_reads : MethodName := ⟨RX11, "reads", "(III)Z"⟩
abbrev cX11_readsThings : ByteArray := prog_13_method_10_code
def yX11_readsThings : MethodName := ⟨RX11, "readsThings", "(I)Z"⟩
abbrev cX11_readsThing : ByteArray := prog_13_method_11_code
def yX11_readsThing : MethodName := ⟨RX11, "readsThing", "()Z"⟩
abbrev cX11_readsWay : ByteArray := prog_13_method_12_code
def yX11_readsWay : MethodName := ⟨RX11, "readsWay", "()Z"⟩
abbrev cX11_number : ByteArray := prog_13_method_13_code
def yX11_number : MethodName := ⟨RX11, "number", "()I"⟩
abbrev cX11_readsSort : ByteArray := prog_13_method_14_code
def yX11_readsSort : MethodName := ⟨RX11, "readsSort", "()Z"⟩
abbrev cX11_readsLine : ByteArray := prog_13_method_15_code
def yX11_readsLine : MethodName := ⟨RX11, "readsLine", "()Z"⟩
abbrev cX11_fault : ByteArray := prog_13_method_16_code
def yX11_fault : MethodName := ⟨RX11, "fault", "()I"⟩
abbrev cX11_lay : ByteArray := prog_13_method_17_code
def yX11_lay : MethodName := ⟨RX11, "lay", "(I)V"⟩
abbrev cX11_day : ByteArray := prog_13_method_18_code
def yX11_day : MethodName := ⟨RX11, "day", "()I"⟩
abbrev cX11_isThing : ByteArray := prog_13_method_19_code
def yX11_isThing : MethodName := ⟨RX11, "isThing", "(I)Z"⟩
abbrev cX11_isCall : ByteArray := prog_13_method_20_code
def yX11_isCall : MethodName := ⟨RX11, "isCall", "(I)Z"⟩
abbrev cX11_thing : ByteArray := prog_13_method_21_code
def yX11_thing : MethodName := ⟨RX11, "thing", "(II)I"⟩
abbrev cX11_call : ByteArray := prog_13_method_22_code
def yX11_call : MethodName := ⟨RX11, "call", "(II)I"⟩
abbrev cX11_isSort : ByteArray := prog_13_method_23_code
def yX11_isSort : MethodName := ⟨RX11, "isSort", "(II)Z"⟩
abbrev cX11_sort : ByteArray := prog_13_method_24_code
def yX11_sort : MethodName := ⟨RX11, "sort", "(III)I"⟩
abbrev cX11_way : ByteArray := prog_13_method_25_code
def yX11_way : MethodName := ⟨RX11, "way", "(II)I"⟩
abbrev cX11_isBag : ByteArray := prog_13_method_26_code
def yX11_isBag : MethodName := ⟨RX11, "isBag", "(I)Z"⟩
abbrev cX11_weight : ByteArray := prog_13_method_27_code
def yX11_weight : MethodName := ⟨RX11, "weight", "(I)I"⟩
abbrev cX11_mayBe : ByteArray := prog_13_method_28_code
def yX11_mayBe : MethodName := ⟨RX11, "mayBe", "(I)Z"⟩
abbrev cX11_may : ByteArray := prog_13_method_29_code
def yX11_may : MethodName := ⟨RX11, "may", "(I)I"⟩
abbrev cX11_fits : ByteArray := prog_13_method_30_code
def yX11_fits : MethodName := ⟨RX11, "fits", "(III)Z"⟩
abbrev cX11_leftOf : ByteArray := prog_13_method_31_code
def yX11_leftOf : MethodName := ⟨RX11, "leftOf", "(III)I"⟩
abbrev cX11_does : ByteArray := prog_13_method_32_code
def yX11_does : MethodName := ⟨RX11, "does", "(III)I"⟩
abbrev cX11_totalOf : ByteArray := prog_13_method_33_code
def yX11_totalOf : MethodName := ⟨RX11, "totalOf", "(I)I"⟩
abbrev cX11_isUsable : ByteArray := prog_13_method_34_code
def yX11_isUsable : MethodName := ⟨RX11, "isUsable", "(I)Z"⟩
abbrev cX11_divisor : ByteArray := prog_13_method_35_code
def yX11_divisor : MethodName := ⟨RX11, "divisor", "(JJ)J"⟩
abbrev cX11_lowest : ByteArray := prog_13_method_36_code
def yX11_lowest : MethodName := ⟨RX11, "lowest", "(JJI)J"⟩
abbrev cX11_isPart : ByteArray := prog_13_method_37_code
def yX11_isPart : MethodName := ⟨RX11, "isPart", "(I)Z"⟩
abbrev cX11_chance : ByteArray := prog_13_method_38_code
def yX11_chance : MethodName := ⟨RX11, "chance", "(III)I"⟩
abbrev cX11_refuses : ByteArray := prog_13_method_39_code
def yX11_refuses : MethodName := ⟨RX11, "refuses", "(II)I"⟩
abbrev cX11_layRow : ByteArray := prog_13_method_40_code
def yX11_layRow : MethodName := ⟨RX11, "layRow", "(II)V"⟩
abbrev cX11_layChosen : ByteArray := prog_13_method_41_code
def yX11_layChosen : MethodName := ⟨RX11, "layChosen", "(I)V"⟩
abbrev cX11_go : ByteArray := prog_13_method_42_code
def yX11_go : MethodName := ⟨RX11, "go", "(II)V"⟩
abbrev cX11_sortBy : ByteArray := prog_13_method_43_code
def yX11_sortBy : MethodName := ⟨RX11, "sortBy", "(II)I"⟩
abbrev cX11_meanOf : ByteArray := prog_13_method_44_code
def yX11_meanOf : MethodName := ⟨RX11, "meanOf", "(III)J"⟩
abbrev cX11_doneOf : ByteArray := prog_13_method_45_code
def yX11_doneOf : MethodName := ⟨RX11, "doneOf", "(I)J"⟩
abbrev cX11_refusesBag : ByteArray := prog_13_method_46_code
def yX11_refusesBag : MethodName := ⟨RX11, "refusesBag", "(III)I"⟩
abbrev cX11_mean : ByteArray := prog_13_method_47_code
def yX11_mean : MethodName := ⟨RX11, "mean", "(IIII)J"⟩
abbrev cX11_all : ByteArray := prog_13_method_48_code
def yX11_all : MethodName := ⟨RX11, "all", "(IIII)J"⟩
abbrev cX11_end : ByteArray := prog_13_method_49_code
def yX11_end : MethodName := ⟨RX11, "end", "(III)I"⟩
abbrev cX11_bestBag : ByteArray := prog_13_method_50_code
def yX11_bestBag : MethodName := ⟨RX11, "bestBag", "()I"⟩
abbrev cX11_best : ByteArray := prog_13_method_51_code
def yX11_best : MethodName := ⟨RX11, "best", "(II)I"⟩
abbrev cX11_sure : ByteArray := prog_13_method_52_code
def yX11_sure : MethodName := ⟨RX11, "sure", "(IIII)I"⟩
abbrev cX11_know : ByteArray := prog_13_method_53_code
def yX11_know : MethodName := ⟨RX11, "know", "(IIII)J"⟩
abbrev cX11_both : ByteArray := prog_13_method_54_code
def yX11_both : MethodName := ⟨RX11, "both", "(II)I"⟩
abbrev cX11_totals : ByteArray := prog_13_method_55_code
def yX11_totals : MethodName := ⟨RX11, "totals", "(I)J"⟩
abbrev cX11_arrival : ByteArray := prog_13_method_56_code
def yX11_arrival : MethodName := ⟨RX11, "arrival", "(III)I"⟩
abbrev cX11_isLate : ByteArray := prog_13_method_57_code
def yX11_isLate : MethodName := ⟨RX11, "isLate", "(II)Z"⟩
abbrev cX11_got : ByteArray := prog_13_method_58_code
def yX11_got : MethodName := ⟨RX11, "got", "(II)J"⟩
abbrev cX11_then : ByteArray := prog_13_method_59_code
def yX11_then : MethodName := ⟨RX11, "then", "(IIII)I"⟩
abbrev cX11_one : ByteArray := prog_13_method_60_code
def yX11_one : MethodName := ⟨RX11, "one", "(IIII)J"⟩
abbrev cX11_goTwo : ByteArray := prog_13_method_61_code
def yX11_goTwo : MethodName := ⟨RX11, "goTwo", "(IIIII)J"⟩
abbrev cX11_two : ByteArray := prog_13_method_62_code
def yX11_two : MethodName := ⟨RX11, "two", "(IIII)J"⟩
abbrev cX11_goThree : ByteArray := prog_13_method_63_code
def yX11_goThree : MethodName := ⟨RX11, "goThree", "(IIIII)J"⟩
abbrev cX11_three : ByteArray := prog_13_method_64_code
def yX11_three : MethodName := ⟨RX11, "three", "(IIII)J"⟩
abbrev cX11_going : ByteArray := prog_13_method_65_code
def yX11_going : MethodName := ⟨RX11, "going", "(IIIII)J"⟩
abbrev cX11_refusesNow : ByteArray := prog_13_method_66_code
def yX11_refusesNow : MethodName := ⟨RX11, "refusesNow", "(IIII)I"⟩
abbrev cX11_valueOf : ByteArray := prog_13_method_67_code
def yX11_valueOf : MethodName := ⟨RX11, "valueOf", "(IIII)J"⟩
abbrev cX11_value : ByteArray := prog_13_method_68_code
def yX11_value : MethodName := ⟨RX11, "value", "(IIIII)J"⟩
abbrev cX11_next : ByteArray := prog_13_method_69_code
def yX11_next : MethodName := ⟨RX11, "next", "(IIII)I"⟩
abbrev cX11_stands : ByteArray := prog_13_method_70_code
def yX11_stands : MethodName := ⟨RX11, "stands", "(II)I"⟩
abbrev cX11_idle : ByteArray := prog_13_method_71_code
def yX11_idle : MethodName := ⟨RX11, "idle", "()I"⟩
abbrev cX11_visit : ByteArray := prog_13_method_72_code
def yX11_visit : MethodName := ⟨RX11, "visit", "(III)I"⟩
abbrev cX11_savedBy : ByteArray := prog_13_method_73_code
def yX11_savedBy : MethodName := ⟨RX11, "savedBy", "(I)I"⟩
abbrev cX11_saved : ByteArray := prog_13_method_74_code
def yX11_saved : MethodName := ⟨RX11, "saved", "(I)I"⟩
abbrev cX11_many : ByteArray := prog_13_method_75_code
def yX11_many : MethodName := ⟨RX11, "many", "(I)I"⟩
abbrev cX11_most : ByteArray := prog_13_method_76_code
def yX11_most : MethodName := ⟨RX11, "most", "(I)I"⟩
abbrev cX11_doesFor : ByteArray := prog_13_method_77_code
def yX11_doesFor : MethodName := ⟨RX11, "doesFor", "(I)I"⟩
abbrev cX11_box : ByteArray := prog_13_method_78_code
def yX11_box : MethodName := ⟨RX11, "box", "(I)I"⟩
abbrev cX11_run : ByteArray := prog_13_method_79_code
def yX11_run : MethodName := ⟨RX11, "run", "(IIIII)I"⟩
abbrev cX11_count : ByteArray := prog_13_method_80_code
def yX11_count : MethodName := ⟨RX11, "count", "(I)I"⟩
def RJ0 : String := "java/lang/String"
abbrev cJ0_length_8abf5 : ByteArray := prog_16_method_54_code
def yJ0_length_8abf5 : MethodName := ⟨RJ0, "length", "()I"⟩
abbrev cJ0_charAt_5068e : ByteArray := prog_16_method_56_code
def yJ0_charAt_5068e : MethodName := ⟨RJ0, "charAt", "(I)C"⟩
abbrev cJ0_coder_7d493 : ByteArray := prog_16_method_152_code
def yJ0_coder_7d493 : MethodName := ⟨RJ0, "coder", "()B"⟩
abbrev cJ0_isLatin1_aae02 : ByteArray := prog_16_method_154_code
def yJ0_isLatin1_aae02 : MethodName := ⟨RJ0, "isLatin1", "()Z"⟩
abbrev cJ0_checkIndex_df160 : ByteArray := prog_16_method_155_code
def yJ0_checkIndex_df160 : MethodName := ⟨RJ0, "checkIndex", "(II)V"⟩
def RJ1 : String := "java/lang/StringLatin1"
abbrev cJ1_charAt_3b067 : ByteArray := prog_17_method_2_code
def yJ1_charAt_3b067 : MethodName := ⟨RJ1, "charAt", "([BI)C"⟩
def RJ2 : String := "java/lang/StringUTF16"
abbrev cJ2_getChar_3b067 : ByteArray := prog_18_method_5_code
def yJ2_getChar_3b067 : MethodName := ⟨RJ2, "getChar", "([BI)C"⟩
abbrev cJ2_length_9d52b : ByteArray := prog_18_method_6_code
def yJ2_length_9d52b : MethodName := ⟨RJ2, "length", "([B)I"⟩
abbrev cJ2_charAt_3b067 : ByteArray := prog_18_method_83_code
def yJ2_charAt_3b067 : MethodName := ⟨RJ2, "charAt", "([BI)C"⟩
abbrev cJ2_checkIndex_2214a : ByteArray := prog_18_method_91_code
def yJ2_checkIndex_2214a : MethodName := ⟨RJ2, "checkIndex", "(I[B)V"⟩
def RJ3 : String := "jdk/internal/util/Preconditions"
abbrev cJ3_checkIndex_8e157 : ByteArray := prog_19_method_11_code
def yJ3_checkIndex_8e157 : MethodName := ⟨RJ3, "checkIndex", "(IILjava/util/function/BiFunction;)I"⟩
def RJ6 : String := "java/lang/Integer"
abbrev cJ6_bitCount_0f7a4 : ByteArray := prog_14_method_49_code
def yJ6_bitCount_0f7a4 : MethodName := ⟨RJ6, "bitCount", "(I)I"⟩
def RJ9 : String := "java/lang/Math"
abbrev cJ9_abs_067f4 : ByteArray := prog_15_method_61_code
def yJ9_abs_067f4 : MethodName := ⟨RJ9, "abs", "(J)J"⟩
abbrev cJ9_max_7cf53 : ByteArray := prog_15_method_65_code
def yJ9_max_7cf53 : MethodName := ⟨RJ9, "max", "(II)I"⟩
abbrev cJ9_max_f86c9 : ByteArray := prog_15_method_66_code
def yJ9_max_f86c9 : MethodName := ⟨RJ9, "max", "(JJ)J"⟩
abbrev cJ9_min_7cf53 : ByteArray := prog_15_method_69_code
def yJ9_min_7cf53 : MethodName := ⟨RJ9, "min", "(II)I"⟩
abbrev vwCl : List vw_C := [(RX0, TX0, 5), (RX1, TX1, 10), (RX2, TX2, 7), (RX3, TX3, 4), (RX4, TX4, 8), (RX5, TX5, 7), (RX6, TX6, 7), (RX7, TX7, 4), (RX8, TX8, 2), (RX9, TX9, 9), (RX10, TX10, 8), (RX11, TX11, 31)]
-- ===== the words that calls may carry, and those of nest mates
def TT : List Cond := lw_tbl.filter goodWord
theorem tt_of {w : Cond} (i : Nat) (h : lw_tbl[i]? = some w) (hg : goodWord w = true) : w ∈ TT := List.mem_filter.mpr ⟨List.mem_of_getElem? h, hg⟩
theorem tt_in {w : Cond} (h : w ∈ TT) : w ∈ lw_tbl := (List.mem_filter.mp h).1
theorem tt_good {w : Cond} (h : w ∈ TT) : (w.onTables && w.keeps) = true ∨ ∃ ty, w = .arrayClass ty := good_of_word (List.mem_filter.mp h).2
def isNest : Cond → Bool
  | .methodLinkNest .. => true
  | .fieldLinkNest .. => true
  | _ => false
def NN : List Cond := lw_tbl.filter isNest
theorem nn_of {w : Cond} (i : Nat) (h : lw_tbl[i]? = some w) (hg : isNest w = true) : w ∈ NN := List.mem_filter.mpr ⟨List.mem_of_getElem? h, hg⟩
theorem nn_in {w : Cond} (h : w ∈ NN) : w ∈ lw_tbl := (List.mem_filter.mp h).1
theorem nn_nest {w : Cond} (h : w ∈ NN) : isNest w = true := (List.mem_filter.mp h).2
theorem nn_on : ∀ {w : Cond}, isNest w = true → w.onTables = true
  | .methodLinkNest .., _ => rfl
  | .fieldLinkNest .., _ => rfl
theorem nn_warm {s U : State} (hW : s.WarmedH U.vm) : ∀ w : Cond, isNest w = true → va_Nw w s → va_Nw w U
  | .methodLinkNest .., _, h => va_Nw.warmM hW h
  | .fieldLinkNest .., _, h => va_Nw.warmF hW h
theorem nn_same {u U : State} (hv : u.vm = U.vm) : ∀ w : Cond, isNest w = true → va_Nw w u → va_Nw w U
  | .methodLinkNest .., _, h => va_Nw.same rfl hv h
  | .fieldLinkNest .., _, h => va_Nw.same rfl hv h
theorem nn_at {A : Array Value} {U : State} : ∀ w : Cond, isNest w = true → w.before A U = true → va_Nw w U
  | .methodLinkNest .., _, h => va_Nw.of rfl h
  | .fieldLinkNest .., _, h => va_Nw.of rfl h
theorem tt_all (l : List Cond) (h : l.all (fun w => decide (w ∈ lw_tbl) && goodWord w) = true) : ∀ w ∈ l, w ∈ TT := fun w hw => by
  have h1 := List.all_eq_true.mp h w hw
  simp only [Bool.and_eq_true, decide_eq_true_eq] at h1
  exact List.mem_filter.mpr h1
theorem inT0 : ∀ w ∈ u_ws RX0 TX0 5, w ∈ TT := tt_all _ (by decide +kernel)
theorem inT1 : ∀ w ∈ u_ws RX1 TX1 10, w ∈ TT := tt_all _ (by decide +kernel)
theorem inT2 : ∀ w ∈ u_ws RX2 TX2 7, w ∈ TT := tt_all _ (by decide +kernel)
theorem inT3 : ∀ w ∈ u_ws RX3 TX3 4, w ∈ TT := tt_all _ (by decide +kernel)
theorem inT4 : ∀ w ∈ u_ws RX4 TX4 8, w ∈ TT := tt_all _ (by decide +kernel)
theorem inT5 : ∀ w ∈ u_ws RX5 TX5 7, w ∈ TT := tt_all _ (by decide +kernel)
theorem inT6 : ∀ w ∈ u_ws RX6 TX6 7, w ∈ TT := tt_all _ (by decide +kernel)
theorem inT7 : ∀ w ∈ u_ws RX7 TX7 4, w ∈ TT := tt_all _ (by decide +kernel)
theorem inT8 : ∀ w ∈ u_ws RX8 TX8 2, w ∈ TT := tt_all _ (by decide +kernel)
theorem inT9 : ∀ w ∈ u_ws RX9 TX9 9, w ∈ TT := tt_all _ (by decide +kernel)
theorem inT10 : ∀ w ∈ u_ws RX10 TX10 8, w ∈ TT := tt_all _ (by decide +kernel)
theorem inT11 : ∀ w ∈ u_ws RX11 TX11 31, w ∈ TT := tt_all _ (by decide +kernel)
