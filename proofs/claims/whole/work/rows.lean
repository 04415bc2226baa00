section
-- ===== PART A: goes FIRST, ahead of the names: the tables' words, and 'selects' of the private methods out of them =====
/-- a private method of a class that the tables say can be made, by its rows of tables_1 -/
def lw_okq (q : MethodName × Nat) : Prop := (q.1.cls ≠ "java/lang/invoke/MethodHandle" ∧ q.1.cls ≠ "java/lang/invoke/VarHandle") ∧ Cond.instantiable q.1.cls q.2 ∈ tables_1 ∧ Cond.privateMethod q.1 ∈ tables_1 ∧ Cond.instanceMethod q.1 ∈ tables_1
theorem lw_p0 : lw_okq (⟨"CarryUp$Reader", "step", "()V"⟩, 7) := ⟨⟨by decide +kernel, by decide +kernel⟩, List.mem_of_getElem? (i := 42) (by decide +kernel), List.mem_of_getElem? (i := 381) (by decide +kernel), List.mem_of_getElem? (i := 382) (by decide +kernel)⟩
theorem lw_p1 : lw_okq (⟨"CarryUp$Reader", "takes", "(Ljava/lang/String;)Z"⟩, 7) := ⟨⟨by decide +kernel, by decide +kernel⟩, List.mem_of_getElem? (i := 42) (by decide +kernel), List.mem_of_getElem? (i := 394) (by decide +kernel), List.mem_of_getElem? (i := 395) (by decide +kernel)⟩
theorem lw_p2 : lw_okq (⟨"CarryUp$Reader", "readLine", "()V"⟩, 7) := ⟨⟨by decide +kernel, by decide +kernel⟩, List.mem_of_getElem? (i := 42) (by decide +kernel), List.mem_of_getElem? (i := 453) (by decide +kernel), List.mem_of_getElem? (i := 454) (by decide +kernel)⟩
theorem lw_p3 : lw_okq (⟨"CarryUp$Reader", "readThing", "()V"⟩, 7) := ⟨⟨by decide +kernel, by decide +kernel⟩, List.mem_of_getElem? (i := 42) (by decide +kernel), List.mem_of_getElem? (i := 458) (by decide +kernel), List.mem_of_getElem? (i := 459) (by decide +kernel)⟩
theorem lw_p4 : lw_okq (⟨"CarryUp$Reader", "note", "(I)V"⟩, 7) := ⟨⟨by decide +kernel, by decide +kernel⟩, List.mem_of_getElem? (i := 42) (by decide +kernel), List.mem_of_getElem? (i := 462) (by decide +kernel), List.mem_of_getElem? (i := 463) (by decide +kernel)⟩
theorem lw_p5 : lw_okq (⟨"CarryUp$Reader", "letter", "()I"⟩, 7) := ⟨⟨by decide +kernel, by decide +kernel⟩, List.mem_of_getElem? (i := 42) (by decide +kernel), List.mem_of_getElem? (i := 467) (by decide +kernel), List.mem_of_getElem? (i := 468) (by decide +kernel)⟩
theorem lw_p6 : lw_okq (⟨"CarryUp$Reader", "number", "(II)I"⟩, 7) := ⟨⟨by decide +kernel, by decide +kernel⟩, List.mem_of_getElem? (i := 42) (by decide +kernel), List.mem_of_getElem? (i := 475) (by decide +kernel), List.mem_of_getElem? (i := 476) (by decide +kernel)⟩
theorem lw_p7 : lw_okq (⟨"CarryUp$Reader", "readOne", "(II)V"⟩, 7) := ⟨⟨by decide +kernel, by decide +kernel⟩, List.mem_of_getElem? (i := 42) (by decide +kernel), List.mem_of_getElem? (i := 488) (by decide +kernel), List.mem_of_getElem? (i := 489) (by decide +kernel)⟩
theorem lw_p8 : lw_okq (⟨"CarryUp$Reader", "readWay", "()V"⟩, 7) := ⟨⟨by decide +kernel, by decide +kernel⟩, List.mem_of_getElem? (i := 42) (by decide +kernel), List.mem_of_getElem? (i := 495) (by decide +kernel), List.mem_of_getElem? (i := 496) (by decide +kernel)⟩
theorem lw_p9 : lw_okq (⟨"CarryUp$Reader", "readCall", "()V"⟩, 7) := ⟨⟨by decide +kernel, by decide +kernel⟩, List.mem_of_getElem? (i := 42) (by decide +kernel), List.mem_of_getElem? (i := 500) (by decide +kernel), List.mem_of_getElem? (i := 501) (by decide +kernel)⟩
theorem lw_p10 : lw_okq (⟨"CarryUp$Reader", "readSort", "()V"⟩, 7) := ⟨⟨by decide +kernel, by decide +kernel⟩, List.mem_of_getElem? (i := 42) (by decide +kernel), List.mem_of_getElem? (i := 505) (by decide +kernel), List.mem_of_getElem? (i := 506) (by decide +kernel)⟩
theorem lw_p11 : lw_okq (⟨"CarryUp$Reader", "things", "()I"⟩, 7) := ⟨⟨by decide +kernel, by decide +kernel⟩, List.mem_of_getElem? (i := 42) (by decide +kernel), List.mem_of_getElem? (i := 510) (by decide +kernel), List.mem_of_getElem? (i := 511) (by decide +kernel)⟩
theorem lw_p12 : lw_okq (⟨"CarryUp$Plan", "tellThing", "(IIII)V"⟩, 8) := ⟨⟨by decide +kernel, by decide +kernel⟩, List.mem_of_getElem? (i := 70) (by decide +kernel), List.mem_of_getElem? (i := 533) (by decide +kernel), List.mem_of_getElem? (i := 534) (by decide +kernel)⟩
theorem lw_p13 : lw_okq (⟨"CarryUp$Plan", "tellWay", "(III)V"⟩, 8) := ⟨⟨by decide +kernel, by decide +kernel⟩, List.mem_of_getElem? (i := 70) (by decide +kernel), List.mem_of_getElem? (i := 538) (by decide +kernel), List.mem_of_getElem? (i := 539) (by decide +kernel)⟩
theorem lw_p14 : lw_okq (⟨"CarryUp$Plan", "tellCall", "(ILCarryUp$Reader;I)V"⟩, 8) := ⟨⟨by decide +kernel, by decide +kernel⟩, List.mem_of_getElem? (i := 70) (by decide +kernel), List.mem_of_getElem? (i := 542) (by decide +kernel), List.mem_of_getElem? (i := 543) (by decide +kernel)⟩
theorem lw_p15 : lw_okq (⟨"CarryUp$Plan", "callAt", "(I)LCarryUp$Call;"⟩, 8) := ⟨⟨by decide +kernel, by decide +kernel⟩, List.mem_of_getElem? (i := 70) (by decide +kernel), List.mem_of_getElem? (i := 546) (by decide +kernel), List.mem_of_getElem? (i := 547) (by decide +kernel)⟩
def lw_privs_1 : List (MethodName × Nat) := [(⟨"CarryUp$Reader", "step", "()V"⟩, 7), (⟨"CarryUp$Reader", "takes", "(Ljava/lang/String;)Z"⟩, 7), (⟨"CarryUp$Reader", "readLine", "()V"⟩, 7), (⟨"CarryUp$Reader", "readThing", "()V"⟩, 7), (⟨"CarryUp$Reader", "note", "(I)V"⟩, 7), (⟨"CarryUp$Reader", "letter", "()I"⟩, 7), (⟨"CarryUp$Reader", "number", "(II)I"⟩, 7), (⟨"CarryUp$Reader", "readOne", "(II)V"⟩, 7), (⟨"CarryUp$Reader", "readWay", "()V"⟩, 7), (⟨"CarryUp$Reader", "readCall", "()V"⟩, 7), (⟨"CarryUp$Reader", "readSort", "()V"⟩, 7), (⟨"CarryUp$Reader", "things", "()I"⟩, 7), (⟨"CarryUp$Plan", "tellThing", "(IIII)V"⟩, 8), (⟨"CarryUp$Plan", "tellWay", "(III)V"⟩, 8), (⟨"CarryUp$Plan", "tellCall", "(ILCarryUp$Reader;I)V"⟩, 8), (⟨"CarryUp$Plan", "callAt", "(I)LCarryUp$Call;"⟩, 8)]
theorem lw_r1 : ∀ q ∈ lw_privs_1, lw_okq q := List.forall_mem_cons.mpr ⟨lw_p0, List.forall_mem_cons.mpr ⟨lw_p1, List.forall_mem_cons.mpr ⟨lw_p2, List.forall_mem_cons.mpr ⟨lw_p3, List.forall_mem_cons.mpr ⟨lw_p4, List.forall_mem_cons.mpr ⟨lw_p5, List.forall_mem_cons.mpr ⟨lw_p6, List.forall_mem_cons.mpr ⟨lw_p7, List.forall_mem_cons.mpr ⟨lw_p8, List.forall_mem_cons.mpr ⟨lw_p9, List.forall_mem_cons.mpr ⟨lw_p10, List.forall_mem_cons.mpr ⟨lw_p11, List.forall_mem_cons.mpr ⟨lw_p12, List.forall_mem_cons.mpr ⟨lw_p13, List.forall_mem_cons.mpr ⟨lw_p14, List.forall_mem_cons.mpr ⟨lw_p15, fun _ h => absurd h List.not_mem_nil⟩⟩⟩⟩⟩⟩⟩⟩⟩⟩⟩⟩⟩⟩⟩⟩
theorem lw_p16 : lw_okq (⟨"CarryUp$Plan", "tellSort", "(ILCarryUp$Reader;I)V"⟩, 8) := ⟨⟨by decide +kernel, by decide +kernel⟩, List.mem_of_getElem? (i := 70) (by decide +kernel), List.mem_of_getElem? (i := 555) (by decide +kernel), List.mem_of_getElem? (i := 556) (by decide +kernel)⟩
theorem lw_p17 : lw_okq (⟨"CarryUp", "refusal", "(IIZ)I"⟩, 8) := ⟨⟨by decide +kernel, by decide +kernel⟩, List.mem_of_getElem? (i := 20) (by decide +kernel), List.mem_of_getElem? (i := 681) (by decide +kernel), List.mem_of_getElem? (i := 682) (by decide +kernel)⟩
theorem lw_p18 : lw_okq (⟨"CarryUp$Walk", "finish", "(IJIZ)V"⟩, 9) := ⟨⟨by decide +kernel, by decide +kernel⟩, List.mem_of_getElem? (i := 218) (by decide +kernel), List.mem_of_getElem? (i := 730) (by decide +kernel), List.mem_of_getElem? (i := 731) (by decide +kernel)⟩
theorem lw_p19 : lw_okq (⟨"CarryUp$Choice", "isWorthATry", "(II)Z"⟩, 7) := ⟨⟨by decide +kernel, by decide +kernel⟩, List.mem_of_getElem? (i := 252) (by decide +kernel), List.mem_of_getElem? (i := 804) (by decide +kernel), List.mem_of_getElem? (i := 805) (by decide +kernel)⟩
theorem lw_p20 : lw_okq (⟨"CarryUp", "refusalNow", "(IIZ)I"⟩, 8) := ⟨⟨by decide +kernel, by decide +kernel⟩, List.mem_of_getElem? (i := 20) (by decide +kernel), List.mem_of_getElem? (i := 871) (by decide +kernel), List.mem_of_getElem? (i := 872) (by decide +kernel)⟩
theorem lw_p21 : lw_okq (⟨"CarryUp$Book", "isDone", "(II)Z"⟩, 5) := ⟨⟨by decide +kernel, by decide +kernel⟩, List.mem_of_getElem? (i := 299) (by decide +kernel), List.mem_of_getElem? (i := 959) (by decide +kernel), List.mem_of_getElem? (i := 960) (by decide +kernel)⟩
theorem lw_p22 : lw_okq (⟨"CarryUp$Walk", "meet", "(ILCarryUp$Call;LCarryUp$Sort;)V"⟩, 9) := ⟨⟨by decide +kernel, by decide +kernel⟩, List.mem_of_getElem? (i := 218) (by decide +kernel), List.mem_of_getElem? (i := 1007) (by decide +kernel), List.mem_of_getElem? (i := 1008) (by decide +kernel)⟩
theorem lw_p23 : lw_okq (⟨"CarryUpModel", "token", "()V"⟩, 31) := ⟨⟨by decide +kernel, by decide +kernel⟩, List.mem_of_getElem? (i := 1040) (by decide +kernel), List.mem_of_getElem? (i := 1157) (by decide +kernel), List.mem_of_getElem? (i := 1158) (by decide +kernel)⟩
theorem lw_p24 : lw_okq (⟨"CarryUpModel", "readsLine", "()Z"⟩, 31) := ⟨⟨by decide +kernel, by decide +kernel⟩, List.mem_of_getElem? (i := 1040) (by decide +kernel), List.mem_of_getElem? (i := 1164) (by decide +kernel), List.mem_of_getElem? (i := 1165) (by decide +kernel)⟩
theorem lw_p25 : lw_okq (⟨"CarryUpModel", "isWord", "(II)Z"⟩, 31) := ⟨⟨by decide +kernel, by decide +kernel⟩, List.mem_of_getElem? (i := 1040) (by decide +kernel), List.mem_of_getElem? (i := 1169) (by decide +kernel), List.mem_of_getElem? (i := 1170) (by decide +kernel)⟩
theorem lw_p26 : lw_okq (⟨"CarryUpModel", "readsThing", "()Z"⟩, 31) := ⟨⟨by decide +kernel, by decide +kernel⟩, List.mem_of_getElem? (i := 1040) (by decide +kernel), List.mem_of_getElem? (i := 1178) (by decide +kernel), List.mem_of_getElem? (i := 1179) (by decide +kernel)⟩
theorem lw_p27 : lw_okq (⟨"CarryUpModel", "reads", "(III)Z"⟩, 31) := ⟨⟨by decide +kernel, by decide +kernel⟩, List.mem_of_getElem? (i := 1040) (by decide +kernel), List.mem_of_getElem? (i := 1184) (by decide +kernel), List.mem_of_getElem? (i := 1185) (by decide +kernel)⟩
theorem lw_p28 : lw_okq (⟨"CarryUpModel", "readsWay", "()Z"⟩, 31) := ⟨⟨by decide +kernel, by decide +kernel⟩, List.mem_of_getElem? (i := 1040) (by decide +kernel), List.mem_of_getElem? (i := 1190) (by decide +kernel), List.mem_of_getElem? (i := 1191) (by decide +kernel)⟩
theorem lw_p29 : lw_okq (⟨"CarryUpModel", "number", "()I"⟩, 31) := ⟨⟨by decide +kernel, by decide +kernel⟩, List.mem_of_getElem? (i := 1040) (by decide +kernel), List.mem_of_getElem? (i := 1194) (by decide +kernel), List.mem_of_getElem? (i := 1195) (by decide +kernel)⟩
theorem lw_p30 : lw_okq (⟨"CarryUpModel", "readsSort", "()Z"⟩, 31) := ⟨⟨by decide +kernel, by decide +kernel⟩, List.mem_of_getElem? (i := 1040) (by decide +kernel), List.mem_of_getElem? (i := 1198) (by decide +kernel), List.mem_of_getElem? (i := 1199) (by decide +kernel)⟩
theorem lw_p31 : lw_okq (⟨"CarryUpModel", "readsThings", "(I)Z"⟩, 31) := ⟨⟨by decide +kernel, by decide +kernel⟩, List.mem_of_getElem? (i := 1040) (by decide +kernel), List.mem_of_getElem? (i := 1203) (by decide +kernel), List.mem_of_getElem? (i := 1204) (by decide +kernel)⟩
def lw_privs_2 : List (MethodName × Nat) := [(⟨"CarryUp$Plan", "tellSort", "(ILCarryUp$Reader;I)V"⟩, 8), (⟨"CarryUp", "refusal", "(IIZ)I"⟩, 8), (⟨"CarryUp$Walk", "finish", "(IJIZ)V"⟩, 9), (⟨"CarryUp$Choice", "isWorthATry", "(II)Z"⟩, 7), (⟨"CarryUp", "refusalNow", "(IIZ)I"⟩, 8), (⟨"CarryUp$Book", "isDone", "(II)Z"⟩, 5), (⟨"CarryUp$Walk", "meet", "(ILCarryUp$Call;LCarryUp$Sort;)V"⟩, 9), (⟨"CarryUpModel", "token", "()V"⟩, 31), (⟨"CarryUpModel", "readsLine", "()Z"⟩, 31), (⟨"CarryUpModel", "isWord", "(II)Z"⟩, 31), (⟨"CarryUpModel", "readsThing", "()Z"⟩, 31), (⟨"CarryUpModel", "reads", "(III)Z"⟩, 31), (⟨"CarryUpModel", "readsWay", "()Z"⟩, 31), (⟨"CarryUpModel", "number", "()I"⟩, 31), (⟨"CarryUpModel", "readsSort", "()Z"⟩, 31), (⟨"CarryUpModel", "readsThings", "(I)Z"⟩, 31)]
theorem lw_r2 : ∀ q ∈ lw_privs_2, lw_okq q := List.forall_mem_cons.mpr ⟨lw_p16, List.forall_mem_cons.mpr ⟨lw_p17, List.forall_mem_cons.mpr ⟨lw_p18, List.forall_mem_cons.mpr ⟨lw_p19, List.forall_mem_cons.mpr ⟨lw_p20, List.forall_mem_cons.mpr ⟨lw_p21, List.forall_mem_cons.mpr ⟨lw_p22, List.forall_mem_cons.mpr ⟨lw_p23, List.forall_mem_cons.mpr ⟨lw_p24, List.forall_mem_cons.mpr ⟨lw_p25, List.forall_mem_cons.mpr ⟨lw_p26, List.forall_mem_cons.mpr ⟨lw_p27, List.forall_mem_cons.mpr ⟨lw_p28, List.forall_mem_cons.mpr ⟨lw_p29, List.forall_mem_cons.mpr ⟨lw_p30, List.forall_mem_cons.mpr ⟨lw_p31, fun _ h => absurd h List.not_mem_nil⟩⟩⟩⟩⟩⟩⟩⟩⟩⟩⟩⟩⟩⟩⟩⟩
theorem lw_p32 : lw_okq (⟨"CarryUpModel", "lay", "(I)V"⟩, 31) := ⟨⟨by decide +kernel, by decide +kernel⟩, List.mem_of_getElem? (i := 1040) (by decide +kernel), List.mem_of_getElem? (i := 1216) (by decide +kernel), List.mem_of_getElem? (i := 1217) (by decide +kernel)⟩
theorem lw_p33 : lw_okq (⟨"CarryUpModel", "isCall", "(I)Z"⟩, 31) := ⟨⟨by decide +kernel, by decide +kernel⟩, List.mem_of_getElem? (i := 1040) (by decide +kernel), List.mem_of_getElem? (i := 1231) (by decide +kernel), List.mem_of_getElem? (i := 1232) (by decide +kernel)⟩
theorem lw_p34 : lw_okq (⟨"CarryUpModel", "isSort", "(II)Z"⟩, 31) := ⟨⟨by decide +kernel, by decide +kernel⟩, List.mem_of_getElem? (i := 1040) (by decide +kernel), List.mem_of_getElem? (i := 1240) (by decide +kernel), List.mem_of_getElem? (i := 1241) (by decide +kernel)⟩
theorem lw_p35 : lw_okq (⟨"CarryUpModel", "mayBe", "(I)Z"⟩, 31) := ⟨⟨by decide +kernel, by decide +kernel⟩, List.mem_of_getElem? (i := 1040) (by decide +kernel), List.mem_of_getElem? (i := 1256) (by decide +kernel), List.mem_of_getElem? (i := 1257) (by decide +kernel)⟩
theorem lw_p36 : lw_okq (⟨"CarryUpModel", "weight", "(I)I"⟩, 31) := ⟨⟨by decide +kernel, by decide +kernel⟩, List.mem_of_getElem? (i := 1040) (by decide +kernel), List.mem_of_getElem? (i := 1260) (by decide +kernel), List.mem_of_getElem? (i := 1261) (by decide +kernel)⟩
theorem lw_p37 : lw_okq (⟨"CarryUpModel", "leftOf", "(III)I"⟩, 31) := ⟨⟨by decide +kernel, by decide +kernel⟩, List.mem_of_getElem? (i := 1040) (by decide +kernel), List.mem_of_getElem? (i := 1268) (by decide +kernel), List.mem_of_getElem? (i := 1269) (by decide +kernel)⟩
theorem lw_p38 : lw_okq (⟨"CarryUpModel", "isUsable", "(I)Z"⟩, 31) := ⟨⟨by decide +kernel, by decide +kernel⟩, List.mem_of_getElem? (i := 1040) (by decide +kernel), List.mem_of_getElem? (i := 1279) (by decide +kernel), List.mem_of_getElem? (i := 1280) (by decide +kernel)⟩
theorem lw_p39 : lw_okq (⟨"CarryUpModel", "totalOf", "(I)I"⟩, 31) := ⟨⟨by decide +kernel, by decide +kernel⟩, List.mem_of_getElem? (i := 1040) (by decide +kernel), List.mem_of_getElem? (i := 1286) (by decide +kernel), List.mem_of_getElem? (i := 1287) (by decide +kernel)⟩
theorem lw_p40 : lw_okq (⟨"CarryUpModel", "refusesBag", "(III)I"⟩, 31) := ⟨⟨by decide +kernel, by decide +kernel⟩, List.mem_of_getElem? (i := 1040) (by decide +kernel), List.mem_of_getElem? (i := 1300) (by decide +kernel), List.mem_of_getElem? (i := 1301) (by decide +kernel)⟩
theorem lw_p41 : lw_okq (⟨"CarryUpModel", "refuses", "(II)I"⟩, 31) := ⟨⟨by decide +kernel, by decide +kernel⟩, List.mem_of_getElem? (i := 1040) (by decide +kernel), List.mem_of_getElem? (i := 1304) (by decide +kernel), List.mem_of_getElem? (i := 1305) (by decide +kernel)⟩
theorem lw_p42 : lw_okq (⟨"CarryUpModel", "layRow", "(II)V"⟩, 31) := ⟨⟨by decide +kernel, by decide +kernel⟩, List.mem_of_getElem? (i := 1040) (by decide +kernel), List.mem_of_getElem? (i := 1311) (by decide +kernel), List.mem_of_getElem? (i := 1312) (by decide +kernel)⟩
theorem lw_p43 : lw_okq (⟨"CarryUpModel", "meanOf", "(III)J"⟩, 31) := ⟨⟨by decide +kernel, by decide +kernel⟩, List.mem_of_getElem? (i := 1040) (by decide +kernel), List.mem_of_getElem? (i := 1315) (by decide +kernel), List.mem_of_getElem? (i := 1316) (by decide +kernel)⟩
theorem lw_p44 : lw_okq (⟨"CarryUpModel", "layChosen", "(I)V"⟩, 31) := ⟨⟨by decide +kernel, by decide +kernel⟩, List.mem_of_getElem? (i := 1040) (by decide +kernel), List.mem_of_getElem? (i := 1319) (by decide +kernel), List.mem_of_getElem? (i := 1320) (by decide +kernel)⟩
theorem lw_p45 : lw_okq (⟨"CarryUpModel", "go", "(II)V"⟩, 31) := ⟨⟨by decide +kernel, by decide +kernel⟩, List.mem_of_getElem? (i := 1040) (by decide +kernel), List.mem_of_getElem? (i := 1323) (by decide +kernel), List.mem_of_getElem? (i := 1324) (by decide +kernel)⟩
theorem lw_p46 : lw_okq (⟨"CarryUpModel", "sortBy", "(II)I"⟩, 31) := ⟨⟨by decide +kernel, by decide +kernel⟩, List.mem_of_getElem? (i := 1040) (by decide +kernel), List.mem_of_getElem? (i := 1328) (by decide +kernel), List.mem_of_getElem? (i := 1329) (by decide +kernel)⟩
theorem lw_p47 : lw_okq (⟨"CarryUpModel", "doneOf", "(I)J"⟩, 31) := ⟨⟨by decide +kernel, by decide +kernel⟩, List.mem_of_getElem? (i := 1040) (by decide +kernel), List.mem_of_getElem? (i := 1338) (by decide +kernel), List.mem_of_getElem? (i := 1339) (by decide +kernel)⟩
def lw_privs_3 : List (MethodName × Nat) := [(⟨"CarryUpModel", "lay", "(I)V"⟩, 31), (⟨"CarryUpModel", "isCall", "(I)Z"⟩, 31), (⟨"CarryUpModel", "isSort", "(II)Z"⟩, 31), (⟨"CarryUpModel", "mayBe", "(I)Z"⟩, 31), (⟨"CarryUpModel", "weight", "(I)I"⟩, 31), (⟨"CarryUpModel", "leftOf", "(III)I"⟩, 31), (⟨"CarryUpModel", "isUsable", "(I)Z"⟩, 31), (⟨"CarryUpModel", "totalOf", "(I)I"⟩, 31), (⟨"CarryUpModel", "refusesBag", "(III)I"⟩, 31), (⟨"CarryUpModel", "refuses", "(II)I"⟩, 31), (⟨"CarryUpModel", "layRow", "(II)V"⟩, 31), (⟨"CarryUpModel", "meanOf", "(III)J"⟩, 31), (⟨"CarryUpModel", "layChosen", "(I)V"⟩, 31), (⟨"CarryUpModel", "go", "(II)V"⟩, 31), (⟨"CarryUpModel", "sortBy", "(II)I"⟩, 31), (⟨"CarryUpModel", "doneOf", "(I)J"⟩, 31)]
theorem lw_r3 : ∀ q ∈ lw_privs_3, lw_okq q := List.forall_mem_cons.mpr ⟨lw_p32, List.forall_mem_cons.mpr ⟨lw_p33, List.forall_mem_cons.mpr ⟨lw_p34, List.forall_mem_cons.mpr ⟨lw_p35, List.forall_mem_cons.mpr ⟨lw_p36, List.forall_mem_cons.mpr ⟨lw_p37, List.forall_mem_cons.mpr ⟨lw_p38, List.forall_mem_cons.mpr ⟨lw_p39, List.forall_mem_cons.mpr ⟨lw_p40, List.forall_mem_cons.mpr ⟨lw_p41, List.forall_mem_cons.mpr ⟨lw_p42, List.forall_mem_cons.mpr ⟨lw_p43, List.forall_mem_cons.mpr ⟨lw_p44, List.forall_mem_cons.mpr ⟨lw_p45, List.forall_mem_cons.mpr ⟨lw_p46, List.forall_mem_cons.mpr ⟨lw_p47, fun _ h => absurd h List.not_mem_nil⟩⟩⟩⟩⟩⟩⟩⟩⟩⟩⟩⟩⟩⟩⟩⟩
theorem lw_p48 : lw_okq (⟨"CarryUpModel", "bestBag", "()I"⟩, 31) := ⟨⟨by decide +kernel, by decide +kernel⟩, List.mem_of_getElem? (i := 1040) (by decide +kernel), List.mem_of_getElem? (i := 1350) (by decide +kernel), List.mem_of_getElem? (i := 1351) (by decide +kernel)⟩
theorem lw_p49 : lw_okq (⟨"CarryUpModel", "refusesNow", "(IIII)I"⟩, 31) := ⟨⟨by decide +kernel, by decide +kernel⟩, List.mem_of_getElem? (i := 1040) (by decide +kernel), List.mem_of_getElem? (i := 1372) (by decide +kernel), List.mem_of_getElem? (i := 1373) (by decide +kernel)⟩
theorem lw_p50 : lw_okq (⟨"CarryUpModel", "valueOf", "(IIII)J"⟩, 31) := ⟨⟨by decide +kernel, by decide +kernel⟩, List.mem_of_getElem? (i := 1040) (by decide +kernel), List.mem_of_getElem? (i := 1378) (by decide +kernel), List.mem_of_getElem? (i := 1379) (by decide +kernel)⟩
theorem lw_p51 : lw_okq (⟨"CarryUpModel", "going", "(IIIII)J"⟩, 31) := ⟨⟨by decide +kernel, by decide +kernel⟩, List.mem_of_getElem? (i := 1040) (by decide +kernel), List.mem_of_getElem? (i := 1382) (by decide +kernel), List.mem_of_getElem? (i := 1383) (by decide +kernel)⟩
theorem lw_p52 : lw_okq (⟨"CarryUpModel", "arrival", "(III)I"⟩, 31) := ⟨⟨by decide +kernel, by decide +kernel⟩, List.mem_of_getElem? (i := 1040) (by decide +kernel), List.mem_of_getElem? (i := 1386) (by decide +kernel), List.mem_of_getElem? (i := 1387) (by decide +kernel)⟩
theorem lw_p53 : lw_okq (⟨"CarryUpModel", "totals", "(I)J"⟩, 31) := ⟨⟨by decide +kernel, by decide +kernel⟩, List.mem_of_getElem? (i := 1040) (by decide +kernel), List.mem_of_getElem? (i := 1390) (by decide +kernel), List.mem_of_getElem? (i := 1391) (by decide +kernel)⟩
theorem lw_p54 : lw_okq (⟨"CarryUpModel", "isLate", "(II)Z"⟩, 31) := ⟨⟨by decide +kernel, by decide +kernel⟩, List.mem_of_getElem? (i := 1040) (by decide +kernel), List.mem_of_getElem? (i := 1394) (by decide +kernel), List.mem_of_getElem? (i := 1395) (by decide +kernel)⟩
theorem lw_p55 : lw_okq (⟨"CarryUpModel", "got", "(II)J"⟩, 31) := ⟨⟨by decide +kernel, by decide +kernel⟩, List.mem_of_getElem? (i := 1040) (by decide +kernel), List.mem_of_getElem? (i := 1398) (by decide +kernel), List.mem_of_getElem? (i := 1399) (by decide +kernel)⟩
theorem lw_p56 : lw_okq (⟨"CarryUpModel", "three", "(IIII)J"⟩, 31) := ⟨⟨by decide +kernel, by decide +kernel⟩, List.mem_of_getElem? (i := 1040) (by decide +kernel), List.mem_of_getElem? (i := 1402) (by decide +kernel), List.mem_of_getElem? (i := 1403) (by decide +kernel)⟩
theorem lw_p57 : lw_okq (⟨"CarryUpModel", "goThree", "(IIIII)J"⟩, 31) := ⟨⟨by decide +kernel, by decide +kernel⟩, List.mem_of_getElem? (i := 1040) (by decide +kernel), List.mem_of_getElem? (i := 1406) (by decide +kernel), List.mem_of_getElem? (i := 1407) (by decide +kernel)⟩
theorem lw_p58 : lw_okq (⟨"CarryUpModel", "two", "(IIII)J"⟩, 31) := ⟨⟨by decide +kernel, by decide +kernel⟩, List.mem_of_getElem? (i := 1040) (by decide +kernel), List.mem_of_getElem? (i := 1410) (by decide +kernel), List.mem_of_getElem? (i := 1411) (by decide +kernel)⟩
theorem lw_p59 : lw_okq (⟨"CarryUpModel", "goTwo", "(IIIII)J"⟩, 31) := ⟨⟨by decide +kernel, by decide +kernel⟩, List.mem_of_getElem? (i := 1040) (by decide +kernel), List.mem_of_getElem? (i := 1414) (by decide +kernel), List.mem_of_getElem? (i := 1415) (by decide +kernel)⟩
theorem lw_p60 : lw_okq (⟨"CarryUpModel", "one", "(IIII)J"⟩, 31) := ⟨⟨by decide +kernel, by decide +kernel⟩, List.mem_of_getElem? (i := 1040) (by decide +kernel), List.mem_of_getElem? (i := 1418) (by decide +kernel), List.mem_of_getElem? (i := 1419) (by decide +kernel)⟩
theorem lw_p61 : lw_okq (⟨"CarryUpModel", "then", "(IIII)I"⟩, 31) := ⟨⟨by decide +kernel, by decide +kernel⟩, List.mem_of_getElem? (i := 1040) (by decide +kernel), List.mem_of_getElem? (i := 1422) (by decide +kernel), List.mem_of_getElem? (i := 1423) (by decide +kernel)⟩
theorem lw_p62 : lw_okq (⟨"CarryUpModel", "savedBy", "(I)I"⟩, 31) := ⟨⟨by decide +kernel, by decide +kernel⟩, List.mem_of_getElem? (i := 1040) (by decide +kernel), List.mem_of_getElem? (i := 1446) (by decide +kernel), List.mem_of_getElem? (i := 1447) (by decide +kernel)⟩
theorem lw_p63 : lw_okq (⟨"CarryUpModel", "doesFor", "(I)I"⟩, 31) := ⟨⟨by decide +kernel, by decide +kernel⟩, List.mem_of_getElem? (i := 1040) (by decide +kernel), List.mem_of_getElem? (i := 1461) (by decide +kernel), List.mem_of_getElem? (i := 1462) (by decide +kernel)⟩
def lw_privs_4 : List (MethodName × Nat) := [(⟨"CarryUpModel", "bestBag", "()I"⟩, 31), (⟨"CarryUpModel", "refusesNow", "(IIII)I"⟩, 31), (⟨"CarryUpModel", "valueOf", "(IIII)J"⟩, 31), (⟨"CarryUpModel", "going", "(IIIII)J"⟩, 31), (⟨"CarryUpModel", "arrival", "(III)I"⟩, 31), (⟨"CarryUpModel", "totals", "(I)J"⟩, 31), (⟨"CarryUpModel", "isLate", "(II)Z"⟩, 31), (⟨"CarryUpModel", "got", "(II)J"⟩, 31), (⟨"CarryUpModel", "three", "(IIII)J"⟩, 31), (⟨"CarryUpModel", "goThree", "(IIIII)J"⟩, 31), (⟨"CarryUpModel", "two", "(IIII)J"⟩, 31), (⟨"CarryUpModel", "goTwo", "(IIIII)J"⟩, 31), (⟨"CarryUpModel", "one", "(IIII)J"⟩, 31), (⟨"CarryUpModel", "then", "(IIII)I"⟩, 31), (⟨"CarryUpModel", "savedBy", "(I)I"⟩, 31), (⟨"CarryUpModel", "doesFor", "(I)I"⟩, 31)]
theorem lw_r4 : ∀ q ∈ lw_privs_4, lw_okq q := List.forall_mem_cons.mpr ⟨lw_p48, List.forall_mem_cons.mpr ⟨lw_p49, List.forall_mem_cons.mpr ⟨lw_p50, List.forall_mem_cons.mpr ⟨lw_p51, List.forall_mem_cons.mpr ⟨lw_p52, List.forall_mem_cons.mpr ⟨lw_p53, List.forall_mem_cons.mpr ⟨lw_p54, List.forall_mem_cons.mpr ⟨lw_p55, List.forall_mem_cons.mpr ⟨lw_p56, List.forall_mem_cons.mpr ⟨lw_p57, List.forall_mem_cons.mpr ⟨lw_p58, List.forall_mem_cons.mpr ⟨lw_p59, List.forall_mem_cons.mpr ⟨lw_p60, List.forall_mem_cons.mpr ⟨lw_p61, List.forall_mem_cons.mpr ⟨lw_p62, List.forall_mem_cons.mpr ⟨lw_p63, fun _ h => absurd h List.not_mem_nil⟩⟩⟩⟩⟩⟩⟩⟩⟩⟩⟩⟩⟩⟩⟩⟩
def lw_privs : List (MethodName × Nat) := lw_privs_1 ++ (lw_privs_2 ++ (lw_privs_3 ++ (lw_privs_4)))
def lw_tbl : List Cond := k2_sels lw_privs ++ tables_1
theorem lw_privs_ok : ∀ q ∈ lw_privs, lw_okq q := by
  show ∀ q ∈ lw_privs_1 ++ (lw_privs_2 ++ (lw_privs_3 ++ (lw_privs_4))), lw_okq q
  exact List.forall_mem_append.mpr ⟨lw_r1, List.forall_mem_append.mpr ⟨lw_r2, List.forall_mem_append.mpr ⟨lw_r3, lw_r4⟩⟩⟩

-- ===== names: classes, fields, methods (as the kit printed them)
def RX0 : String := "CarryUp$Book"
def TX0 : u_T := fun k => match k with
  | 0 => ("CarryUp$Book", "plan", "LCarryUp$Plan;", true)
  | 1 => ("CarryUp$Book", "alls", "[I", true)
  | 2 => ("CarryUp$Book", "ones", "[I", true)
  | 3 => ("CarryUp$Book", "bags", "[I", true)
  | _ => ("CarryUp$Book", "visits", "I", false)
def tyX0 : Nat → FieldType := fun k => match k with
  | 0 => .object "CarryUp$Plan"
  | 1 => .array .int
  | 2 => .array .int
  | 3 => .array .int
  | _ => .int
abbrev wsX00 : List Cond := u_ws RX0 TX0 5
theorem nmX0 : ∀ a, a < 5 → ∀ b, b < 5 → a ≠ b → (TX0 a).2.1 ≠ (TX0 b).2.1 := by decide +kernel
theorem tyX0_ok : ∀ k, k < 5 → parseFieldDescriptor (TX0 k).2.2.1 = some (tyX0 k) := by decide +kernel
abbrev cX0_init : ByteArray := prog_2_method_1_code
def yX0_init : MethodName := ⟨RX0, "<init>", "(LCarryUp$Plan;)V"⟩
abbrev cX0_visits : ByteArray := prog_2_method_2_code
def yX0_visits : MethodName := ⟨RX0, "visits", "()I"⟩
abbrev cX0_add : ByteArray := prog_2_method_3_code
def yX0_add : MethodName := ⟨RX0, "add", "(LCarryUp$Sort;I)I"⟩
abbrev cX0_isDone : ByteArray := prog_2_method_4_code
def yX0_isDone : MethodName := ⟨RX0, "isDone", "(II)Z"⟩
abbrev cX0_savedBy : ByteArray := prog_2_method_5_code
def yX0_savedBy : MethodName := ⟨RX0, "savedBy", "(I)I"⟩
abbrev cX0_mostSaving : ByteArray := prog_2_method_6_code
def yX0_mostSaving : MethodName := ⟨RX0, "mostSaving", "(I)I"⟩
abbrev cX0_doneBy : ByteArray := prog_2_method_7_code
def yX0_doneBy : MethodName := ⟨RX0, "doneBy", "(I)I"⟩
abbrev cX0_bestBox : ByteArray := prog_2_method_8_code
def yX0_bestBox : MethodName := ⟨RX0, "bestBox", "()I"⟩
def RX1 : String := "CarryUp$Call"
def TX1 : u_T := fun k => match k with
  | 0 => ("CarryUp$Call", "sorts", "[LCarryUp$Sort;", true)
  | 1 => ("CarryUp$Call", "sortCount", "I", false)
  | 2 => ("CarryUp$Call", "likely", "I", false)
  | 3 => ("CarryUp$Call", "told", "Z", false)
  | 4 => ("CarryUp$Call", "place", "I", false)
  | 5 => ("CarryUp$Call", "opens", "I", false)
  | 6 => ("CarryUp$Call", "shuts", "I", false)
  | 7 => ("CarryUp$Call", "worth", "I", false)
  | 8 => ("CarryUp$Call", "again", "I", false)
  | _ => ("CarryUp$Call", "look", "I", false)
def tyX1 : Nat → FieldType := fun k => match k with
  | 0 => .array (.object "CarryUp$Sort")
  | 1 => .int
  | 2 => .int
  | 3 => .boolean
  | 4 => .int
  | 5 => .int
  | 6 => .int
  | 7 => .int
  | 8 => .int
  | _ => .int
abbrev wsX10 : List Cond := u_ws RX1 TX1 10
theorem nmX1 : ∀ a, a < 10 → ∀ b, b < 10 → a ≠ b → (TX1 a).2.1 ≠ (TX1 b).2.1 := by decide +kernel
theorem tyX1_ok : ∀ k, k < 10 → parseFieldDescriptor (TX1 k).2.2.1 = some (tyX1 k) := by decide +kernel
abbrev cX1_init : ByteArray := prog_3_method_1_code
def yX1_init : MethodName := ⟨RX1, "<init>", "()V"⟩
abbrev cX1_tell : ByteArray := prog_3_method_2_code
def yX1_tell : MethodName := ⟨RX1, "tell", "(LCarryUp$Reader;I)V"⟩
abbrev cX1_tellSort : ByteArray := prog_3_method_3_code
def yX1_tellSort : MethodName := ⟨RX1, "tellSort", "(LCarryUp$Reader;I)V"⟩
abbrev cX1_isTold : ByteArray := prog_3_method_4_code
def yX1_isTold : MethodName := ⟨RX1, "isTold", "()Z"⟩
abbrev cX1_sorts : ByteArray := prog_3_method_5_code
def yX1_sorts : MethodName := ⟨RX1, "sorts", "()I"⟩
abbrev cX1_likely : ByteArray := prog_3_method_6_code
def yX1_likely : MethodName := ⟨RX1, "likely", "()I"⟩
abbrev cX1_sortTold : ByteArray := prog_3_method_7_code
def yX1_sortTold : MethodName := ⟨RX1, "sortTold", "(I)LCarryUp$Sort;"⟩
abbrev cX1_likelyDone : ByteArray := prog_3_method_8_code
def yX1_likelyDone : MethodName := ⟨RX1, "likelyDone", "(I)I"⟩
abbrev cX1_wanted : ByteArray := prog_3_method_9_code
def yX1_wanted : MethodName := ⟨RX1, "wanted", "()I"⟩
abbrev cX1_lateAt : ByteArray := prog_3_method_10_code
def yX1_lateAt : MethodName := ⟨RX1, "lateAt", "(I)Z"⟩
abbrev cX1_startedAt : ByteArray := prog_3_method_11_code
def yX1_startedAt : MethodName := ⟨RX1, "startedAt", "(I)I"⟩
abbrev cX1_drawn : ByteArray := prog_3_method_12_code
def yX1_drawn : MethodName := ⟨RX1, "drawn", "(I)LCarryUp$Sort;"⟩
def RX2 : String := "CarryUp$Choice"
def TX2 : u_T := fun k => match k with
  | 0 => ("CarryUp$Choice", "plan", "LCarryUp$Plan;", true)
  | 1 => ("CarryUp$Choice", "rows", "LCarryUp$Row;", true)
  | 2 => ("CarryUp$Choice", "walk", "LCarryUp$Walk;", true)
  | 3 => ("CarryUp$Choice", "bag", "I", false)
  | 4 => ("CarryUp$Choice", "row", "I", false)
  | 5 => ("CarryUp$Choice", "sum", "J", false)
  | _ => ("CarryUp$Choice", "scale", "J", false)
def tyX2 : Nat → FieldType := fun k => match k with
  | 0 => .object "CarryUp$Plan"
  | 1 => .object "CarryUp$Row"
  | 2 => .object "CarryUp$Walk"
  | 3 => .int
  | 4 => .int
  | 5 => .long
  | _ => .long
abbrev wsX20 : List Cond := u_ws RX2 TX2 7
theorem nmX2 : ∀ a, a < 7 → ∀ b, b < 7 → a ≠ b → (TX2 a).2.1 ≠ (TX2 b).2.1 := by decide +kernel
theorem tyX2_ok : ∀ k, k < 7 → parseFieldDescriptor (TX2 k).2.2.1 = some (tyX2 k) := by decide +kernel
abbrev cX2_init : ByteArray := prog_4_method_1_code
def yX2_init : MethodName := ⟨RX2, "<init>", "(LCarryUp$Plan;LCarryUp$Row;LCarryUp$Walk;)V"⟩
abbrev cX2_bag : ByteArray := prog_4_method_2_code
def yX2_bag : MethodName := ⟨RX2, "bag", "()I"⟩
abbrev cX2_row : ByteArray := prog_4_method_3_code
def yX2_row : MethodName := ⟨RX2, "row", "()I"⟩
abbrev cX2_scale : ByteArray := prog_4_method_4_code
def yX2_scale : MethodName := ⟨RX2, "scale", "()J"⟩
abbrev cX2_isWorthATry : ByteArray := prog_4_method_5_code
def yX2_isWorthATry : MethodName := ⟨RX2, "isWorthATry", "(II)Z"⟩
abbrev cX2_findBest : ByteArray := prog_4_method_6_code
def yX2_findBest : MethodName := ⟨RX2, "findBest", "()V"⟩
abbrev cX2_findSure : ByteArray := prog_4_method_7_code
def yX2_findSure : MethodName := ⟨RX2, "findSure", "(II)I"⟩
abbrev cX2_gainByKnowing : ByteArray := prog_4_method_8_code
def yX2_gainByKnowing : MethodName := ⟨RX2, "gainByKnowing", "(I)J"⟩
abbrev cX2_findBoth : ByteArray := prog_4_method_9_code
def yX2_findBoth : MethodName := ⟨RX2, "findBoth", "(I)Z"⟩
abbrev cX2_rowOf : ByteArray := prog_4_method_10_code
def yX2_rowOf : MethodName := ⟨RX2, "rowOf", "(II)I"⟩
def RX3 : String := "CarryUp$Now"
def TX3 : u_T := fun k => match k with
  | 0 => ("CarryUp$Now", "plan", "LCarryUp$Plan;", true)
  | 1 => ("CarryUp$Now", "first", "I", false)
  | 2 => ("CarryUp$Now", "worth", "J", false)
  | _ => ("CarryUp$Now", "scale", "J", false)
def tyX3 : Nat → FieldType := fun k => match k with
  | 0 => .object "CarryUp$Plan"
  | 1 => .int
  | 2 => .long
  | _ => .long
abbrev wsX30 : List Cond := u_ws RX3 TX3 4
theorem nmX3 : ∀ a, a < 4 → ∀ b, b < 4 → a ≠ b → (TX3 a).2.1 ≠ (TX3 b).2.1 := by decide +kernel
theorem tyX3_ok : ∀ k, k < 4 → parseFieldDescriptor (TX3 k).2.2.1 = some (tyX3 k) := by decide +kernel
abbrev cX3_init : ByteArray := prog_5_method_1_code
def yX3_init : MethodName := ⟨RX3, "<init>", "(LCarryUp$Plan;)V"⟩
abbrev cX3_first : ByteArray := prog_5_method_2_code
def yX3_first : MethodName := ⟨RX3, "first", "()I"⟩
abbrev cX3_worth : ByteArray := prog_5_method_3_code
def yX3_worth : MethodName := ⟨RX3, "worth", "()J"⟩
abbrev cX3_scale : ByteArray := prog_5_method_4_code
def yX3_scale : MethodName := ⟨RX3, "scale", "()J"⟩
abbrev cX3_find : ByteArray := prog_5_method_5_code
def yX3_find : MethodName := ⟨RX3, "find", "(IIII)V"⟩
abbrev cX3_scaleOf : ByteArray := prog_5_method_6_code
def yX3_scaleOf : MethodName := ⟨RX3, "scaleOf", "(LCarryUp$Plan;I)J"⟩
abbrev cX3_bestLeft : ByteArray := prog_5_method_7_code
def yX3_bestLeft : MethodName := ⟨RX3, "bestLeft", "(LCarryUp$Plan;IIII)J"⟩
abbrev cX3_going : ByteArray := prog_5_method_8_code
def yX3_going : MethodName := ⟨RX3, "going", "(LCarryUp$Plan;IIIII)J"⟩
def RX4 : String := "CarryUp$Plan"
def TX4 : u_T := fun k => match k with
  | 0 => ("CarryUp$Plan", "weights", "[I", true)
  | 1 => ("CarryUp$Plan", "prices", "[I", true)
  | 2 => ("CarryUp$Plan", "ways", "[I", true)
  | 3 => ("CarryUp$Plan", "calls", "[LCarryUp$Call;", true)
  | 4 => ("CarryUp$Plan", "tools", "I", false)
  | 5 => ("CarryUp$Plan", "load", "I", false)
  | 6 => ("CarryUp$Plan", "purse", "I", false)
  | _ => ("CarryUp$Plan", "begin", "I", false)
def tyX4 : Nat → FieldType := fun k => match k with
  | 0 => .array .int
  | 1 => .array .int
  | 2 => .array .int
  | 3 => .array (.object "CarryUp$Call")
  | 4 => .int
  | 5 => .int
  | 6 => .int
  | _ => .int
abbrev wsX40 : List Cond := u_ws RX4 TX4 8
theorem nmX4 : ∀ a, a < 8 → ∀ b, b < 8 → a ≠ b → (TX4 a).2.1 ≠ (TX4 b).2.1 := by decide +kernel
theorem tyX4_ok : ∀ k, k < 8 → parseFieldDescriptor (TX4 k).2.2.1 = some (tyX4 k) := by decide +kernel
abbrev cX4_init : ByteArray := prog_6_method_1_code
def yX4_init : MethodName := ⟨RX4, "<init>", "()V"⟩
abbrev cX4_weight : ByteArray := prog_6_method_2_code
def yX4_weight : MethodName := ⟨RX4, "weight", "(I)I"⟩
abbrev cX4_price : ByteArray := prog_6_method_3_code
def yX4_price : MethodName := ⟨RX4, "price", "(I)I"⟩
abbrev cX4_tools : ByteArray := prog_6_method_4_code
def yX4_tools : MethodName := ⟨RX4, "tools", "()I"⟩
abbrev cX4_load : ByteArray := prog_6_method_5_code
def yX4_load : MethodName := ⟨RX4, "load", "()I"⟩
abbrev cX4_purse : ByteArray := prog_6_method_6_code
def yX4_purse : MethodName := ⟨RX4, "purse", "()I"⟩
abbrev cX4_begin : ByteArray := prog_6_method_7_code
def yX4_begin : MethodName := ⟨RX4, "begin", "()I"⟩
abbrev cX4_wayBetween : ByteArray := prog_6_method_8_code
def yX4_wayBetween : MethodName := ⟨RX4, "wayBetween", "(II)I"⟩
abbrev cX4_tell : ByteArray := prog_6_method_9_code
def yX4_tell : MethodName := ⟨RX4, "tell", "(LCarryUp$Reader;I)V"⟩
abbrev cX4_tellThing : ByteArray := prog_6_method_10_code
def yX4_tellThing : MethodName := ⟨RX4, "tellThing", "(IIII)V"⟩
abbrev cX4_tellWay : ByteArray := prog_6_method_11_code
def yX4_tellWay : MethodName := ⟨RX4, "tellWay", "(III)V"⟩
abbrev cX4_tellCall : ByteArray := prog_6_method_12_code
def yX4_tellCall : MethodName := ⟨RX4, "tellCall", "(ILCarryUp$Reader;I)V"⟩
abbrev cX4_tellSort : ByteArray := prog_6_method_13_code
def yX4_tellSort : MethodName := ⟨RX4, "tellSort", "(ILCarryUp$Reader;I)V"⟩
abbrev cX4_callAt : ByteArray := prog_6_method_14_code
def yX4_callAt : MethodName := ⟨RX4, "callAt", "(I)LCarryUp$Call;"⟩
abbrev cX4_callTold : ByteArray := prog_6_method_15_code
def yX4_callTold : MethodName := ⟨RX4, "callTold", "(I)LCarryUp$Call;"⟩
abbrev cX4_callWithSorts : ByteArray := prog_6_method_16_code
def yX4_callWithSorts : MethodName := ⟨RX4, "callWithSorts", "(I)LCarryUp$Call;"⟩
abbrev cX4_sortTold : ByteArray := prog_6_method_17_code
def yX4_sortTold : MethodName := ⟨RX4, "sortTold", "(II)LCarryUp$Sort;"⟩
abbrev cX4_callsTold : ByteArray := prog_6_method_18_code
def yX4_callsTold : MethodName := ⟨RX4, "callsTold", "()I"⟩
abbrev cX4_weightOf : ByteArray := prog_6_method_19_code
def yX4_weightOf : MethodName := ⟨RX4, "weightOf", "(I)I"⟩
abbrev cX4_mayBe : ByteArray := prog_6_method_20_code
def yX4_mayBe : MethodName := ⟨RX4, "mayBe", "(I)Z"⟩
abbrev cX4_wanted : ByteArray := prog_6_method_21_code
def yX4_wanted : MethodName := ⟨RX4, "wanted", "()I"⟩
abbrev cX4_standsIn : ByteArray := prog_6_method_22_code
def yX4_standsIn : MethodName := ⟨RX4, "standsIn", "(II)Z"⟩
def RX5 : String := "CarryUp$Reader"
def TX5 : u_T := fun k => match k with
  | 0 => ("CarryUp$Reader", "text", "LCarryUp$Text;", true)
  | 1 => ("CarryUp$Reader", "told", "[I", true)
  | 2 => ("CarryUp$Reader", "lines", "I", false)
  | 3 => ("CarryUp$Reader", "noted", "I", false)
  | 4 => ("CarryUp$Reader", "from", "I", false)
  | 5 => ("CarryUp$Reader", "to", "I", false)
  | _ => ("CarryUp$Reader", "faulty", "Z", false)
def tyX5 : Nat → FieldType := fun k => match k with
  | 0 => .object "CarryUp$Text"
  | 1 => .array .int
  | 2 => .int
  | 3 => .int
  | 4 => .int
  | 5 => .int
  | _ => .boolean
abbrev wsX50 : List Cond := u_ws RX5 TX5 7
theorem nmX5 : ∀ a, a < 7 → ∀ b, b < 7 → a ≠ b → (TX5 a).2.1 ≠ (TX5 b).2.1 := by decide +kernel
theorem tyX5_ok : ∀ k, k < 7 → parseFieldDescriptor (TX5 k).2.2.1 = some (tyX5 k) := by decide +kernel
abbrev cX5_init : ByteArray := prog_7_method_1_code
def yX5_init : MethodName := ⟨RX5, "<init>", "(LCarryUp$Text;)V"⟩
abbrev cX5_lines : ByteArray := prog_7_method_2_code
def yX5_lines : MethodName := ⟨RX5, "lines", "()I"⟩
abbrev cX5_told : ByteArray := prog_7_method_3_code
def yX5_told : MethodName := ⟨RX5, "told", "(II)I"⟩
abbrev cX5_read : ByteArray := prog_7_method_4_code
def yX5_read : MethodName := ⟨RX5, "read", "()I"⟩
abbrev cX5_readLine : ByteArray := prog_7_method_5_code
def yX5_readLine : MethodName := ⟨RX5, "readLine", "()V"⟩
abbrev cX5_readThing : ByteArray := prog_7_method_6_code
def yX5_readThing : MethodName := ⟨RX5, "readThing", "()V"⟩
abbrev cX5_readOne : ByteArray := prog_7_method_7_code
def yX5_readOne : MethodName := ⟨RX5, "readOne", "(II)V"⟩
abbrev cX5_readWay : ByteArray := prog_7_method_8_code
def yX5_readWay : MethodName := ⟨RX5, "readWay", "()V"⟩
abbrev cX5_readCall : ByteArray := prog_7_method_9_code
def yX5_readCall : MethodName := ⟨RX5, "readCall", "()V"⟩
abbrev cX5_readSort : ByteArray := prog_7_method_10_code
def yX5_readSort : MethodName := ⟨RX5, "readSort", "()V"⟩
abbrev cX5_note : ByteArray := prog_7_method_11_code
def yX5_note : MethodName := ⟨RX5, "note", "(I)V"⟩
abbrev cX5_step : ByteArray := prog_7_method_12_code
def yX5_step : MethodName := ⟨RX5, "step", "()V"⟩
abbrev cX5_takes : ByteArray := prog_7_method_13_code
def yX5_takes : MethodName := ⟨RX5, "takes", "(Ljava/lang/String;)Z"⟩
abbrev cX5_number : ByteArray := prog_7_method_14_code
def yX5_number : MethodName := ⟨RX5, "number", "(II)I"⟩
abbrev cX5_things : ByteArray := prog_7_method_15_code
def yX5_things : MethodName := ⟨RX5, "things", "()I"⟩
abbrev cX5_letter : ByteArray := prog_7_method_16_code
def yX5_letter : MethodName := ⟨RX5, "letter", "()I"⟩
def RX6 : String := "CarryUp$Row"
def TX6 : u_T := fun k => match k with
  | 0 => ("CarryUp$Row", "plan", "LCarryUp$Plan;", true)
  | 1 => ("CarryUp$Row", "stops", "[I", true)
  | 2 => ("CarryUp$Row", "ways", "[I", true)
  | 3 => ("CarryUp$Row", "calls", "[LCarryUp$Call;", true)
  | 4 => ("CarryUp$Row", "length", "I", false)
  | 5 => ("CarryUp$Row", "knownCall", "I", false)
  | _ => ("CarryUp$Row", "knownSort", "I", false)
def tyX6 : Nat → FieldType := fun k => match k with
  | 0 => .object "CarryUp$Plan"
  | 1 => .array .int
  | 2 => .array .int
  | 3 => .array (.object "CarryUp$Call")
  | 4 => .int
  | 5 => .int
  | _ => .int
abbrev wsX60 : List Cond := u_ws RX6 TX6 7
theorem nmX6 : ∀ a, a < 7 → ∀ b, b < 7 → a ≠ b → (TX6 a).2.1 ≠ (TX6 b).2.1 := by decide +kernel
theorem tyX6_ok : ∀ k, k < 7 → parseFieldDescriptor (TX6 k).2.2.1 = some (tyX6 k) := by decide +kernel
abbrev cX6_init : ByteArray := prog_8_method_1_code
def yX6_init : MethodName := ⟨RX6, "<init>", "(LCarryUp$Plan;)V"⟩
abbrev cX6_tell : ByteArray := prog_8_method_2_code
def yX6_tell : MethodName := ⟨RX6, "tell", "(II)I"⟩
abbrev cX6_hasTwice : ByteArray := prog_8_method_3_code
def yX6_hasTwice : MethodName := ⟨RX6, "hasTwice", "()Z"⟩
abbrev cX6_has : ByteArray := prog_8_method_4_code
def yX6_has : MethodName := ⟨RX6, "has", "(I)Z"⟩
abbrev cX6_length : ByteArray := prog_8_method_5_code
def yX6_length : MethodName := ⟨RX6, "length", "()I"⟩
abbrev cX6_stopAt : ByteArray := prog_8_method_6_code
def yX6_stopAt : MethodName := ⟨RX6, "stopAt", "(I)I"⟩
abbrev cX6_wayTo : ByteArray := prog_8_method_7_code
def yX6_wayTo : MethodName := ⟨RX6, "wayTo", "(I)I"⟩
abbrev cX6_callAt : ByteArray := prog_8_method_8_code
def yX6_callAt : MethodName := ⟨RX6, "callAt", "(I)LCarryUp$Call;"⟩
abbrev cX6_assume : ByteArray := prog_8_method_9_code
def yX6_assume : MethodName := ⟨RX6, "assume", "(II)V"⟩
abbrev cX6_forget : ByteArray := prog_8_method_10_code
def yX6_forget : MethodName := ⟨RX6, "forget", "()V"⟩
abbrev cX6_likelyOf : ByteArray := prog_8_method_11_code
def yX6_likelyOf : MethodName := ⟨RX6, "likelyOf", "(II)I"⟩
abbrev cX6_likelyAt : ByteArray := prog_8_method_12_code
def yX6_likelyAt : MethodName := ⟨RX6, "likelyAt", "(I)I"⟩
abbrev cX6_wanted : ByteArray := prog_8_method_13_code
def yX6_wanted : MethodName := ⟨RX6, "wanted", "()I"⟩
def RX7 : String := "CarryUp$Sort"
def TX7 : u_T := fun k => match k with
  | 0 => ("CarryUp$Sort", "likely", "I", false)
  | 1 => ("CarryUp$Sort", "minutes", "I", false)
  | 2 => ("CarryUp$Sort", "all", "I", false)
  | _ => ("CarryUp$Sort", "one", "I", false)
def tyX7 : Nat → FieldType := fun k => match k with
  | 0 => .int
  | 1 => .int
  | 2 => .int
  | _ => .int
abbrev wsX70 : List Cond := u_ws RX7 TX7 4
theorem nmX7 : ∀ a, a < 4 → ∀ b, b < 4 → a ≠ b → (TX7 a).2.1 ≠ (TX7 b).2.1 := by decide +kernel
theorem tyX7_ok : ∀ k, k < 4 → parseFieldDescriptor (TX7 k).2.2.1 = some (tyX7 k) := by decide +kernel
abbrev cX7_init : ByteArray := prog_9_method_1_code
def yX7_init : MethodName := ⟨RX7, "<init>", "()V"⟩
abbrev cX7_tell : ByteArray := prog_9_method_2_code
def yX7_tell : MethodName := ⟨RX7, "tell", "(IIII)V"⟩
abbrev cX7_isDone : ByteArray := prog_9_method_3_code
def yX7_isDone : MethodName := ⟨RX7, "isDone", "(III)Z"⟩
abbrev cX7_left : ByteArray := prog_9_method_4_code
def yX7_left : MethodName := ⟨RX7, "left", "(II)I"⟩
abbrev cX7_wanted : ByteArray := prog_9_method_5_code
def yX7_wanted : MethodName := ⟨RX7, "wanted", "()I"⟩
def RX8 : String := "CarryUp$Text"
def TX8 : u_T := fun k => match k with
  | 0 => ("CarryUp$Text", "bytes", "[I", true)
  | _ => ("CarryUp$Text", "length", "I", false)
def tyX8 : Nat → FieldType := fun k => match k with
  | 0 => .array .int
  | _ => .int
abbrev wsX80 : List Cond := u_ws RX8 TX8 2
theorem nmX8 : ∀ a, a < 2 → ∀ b, b < 2 → a ≠ b → (TX8 a).2.1 ≠ (TX8 b).2.1 := by decide +kernel
theorem tyX8_ok : ∀ k, k < 2 → parseFieldDescriptor (TX8 k).2.2.1 = some (tyX8 k) := by decide +kernel
abbrev cX8_init : ByteArray := prog_10_method_1_code
def yX8_init : MethodName := ⟨RX8, "<init>", "()V"⟩
abbrev cX8_length : ByteArray := prog_10_method_2_code
def yX8_length : MethodName := ⟨RX8, "length", "()I"⟩
abbrev cX8_clear : ByteArray := prog_10_method_3_code
def yX8_clear : MethodName := ⟨RX8, "clear", "()V"⟩
abbrev cX8_add : ByteArray := prog_10_method_4_code
def yX8_add : MethodName := ⟨RX8, "add", "(JI)I"⟩
abbrev cX8_kindAt : ByteArray := prog_10_method_5_code
def yX8_kindAt : MethodName := ⟨RX8, "kindAt", "(I)I"⟩
abbrev cX8_isAt : ByteArray := prog_10_method_6_code
def yX8_isAt : MethodName := ⟨RX8, "isAt", "(IILjava/lang/String;)Z"⟩
abbrev cX8_things : ByteArray := prog_10_method_7_code
def yX8_things : MethodName := ⟨RX8, "things", "(II)I"⟩
abbrev cX8_number : ByteArray := prog_10_method_8_code
def yX8_number : MethodName := ⟨RX8, "number", "(II)I"⟩
def RX9 : String := "CarryUp$Walk"
def TX9 : u_T := fun k => match k with
  | 0 => ("CarryUp$Walk", "plan", "LCarryUp$Plan;", true)
  | 1 => ("CarryUp$Walk", "row", "LCarryUp$Row;", true)
  | 2 => ("CarryUp$Walk", "full", "I", false)
  | 3 => ("CarryUp$Walk", "sum", "J", false)
  | 4 => ("CarryUp$Walk", "allDone", "J", false)
  | 5 => ("CarryUp$Walk", "scale", "J", false)
  | 6 => ("CarryUp$Walk", "latest", "I", false)
  | 7 => ("CarryUp$Walk", "doneBits", "I", false)
  | _ => ("CarryUp$Walk", "bagLeft", "I", false)
def tyX9 : Nat → FieldType := fun k => match k with
  | 0 => .object "CarryUp$Plan"
  | 1 => .object "CarryUp$Row"
  | 2 => .int
  | 3 => .long
  | 4 => .long
  | 5 => .long
  | 6 => .int
  | 7 => .int
  | _ => .int
abbrev wsX90 : List Cond := u_ws RX9 TX9 9
theorem nmX9 : ∀ a, a < 9 → ∀ b, b < 9 → a ≠ b → (TX9 a).2.1 ≠ (TX9 b).2.1 := by decide +kernel
theorem tyX9_ok : ∀ k, k < 9 → parseFieldDescriptor (TX9 k).2.2.1 = some (tyX9 k) := by decide +kernel
abbrev cX9_init : ByteArray := prog_11_method_1_code
def yX9_init : MethodName := ⟨RX9, "<init>", "(LCarryUp$Plan;LCarryUp$Row;)V"⟩
abbrev cX9_sum : ByteArray := prog_11_method_2_code
def yX9_sum : MethodName := ⟨RX9, "sum", "()J"⟩
abbrev cX9_allDone : ByteArray := prog_11_method_3_code
def yX9_allDone : MethodName := ⟨RX9, "allDone", "()J"⟩
abbrev cX9_scale : ByteArray := prog_11_method_4_code
def yX9_scale : MethodName := ⟨RX9, "scale", "()J"⟩
abbrev cX9_latest : ByteArray := prog_11_method_5_code
def yX9_latest : MethodName := ⟨RX9, "latest", "()I"⟩
abbrev cX9_doneBits : ByteArray := prog_11_method_6_code
def yX9_doneBits : MethodName := ⟨RX9, "doneBits", "()I"⟩
abbrev cX9_bagLeft : ByteArray := prog_11_method_7_code
def yX9_bagLeft : MethodName := ⟨RX9, "bagLeft", "()I"⟩
abbrev cX9_take : ByteArray := prog_11_method_8_code
def yX9_take : MethodName := ⟨RX9, "take", "(I)V"⟩
abbrev cX9_goOn : ByteArray := prog_11_method_9_code
def yX9_goOn : MethodName := ⟨RX9, "goOn", "(LCarryUp$Walk;IIIJIZ)V"⟩
abbrev cX9_finish : ByteArray := prog_11_method_10_code
def yX9_finish : MethodName := ⟨RX9, "finish", "(IJIZ)V"⟩
abbrev cX9_draw : ByteArray := prog_11_method_11_code
def yX9_draw : MethodName := ⟨RX9, "draw", "(II)V"⟩
abbrev cX9_meet : ByteArray := prog_11_method_12_code
def yX9_meet : MethodName := ⟨RX9, "meet", "(ILCarryUp$Call;LCarryUp$Sort;)V"⟩
def RX10 : String := "CarryUp"
def TX10 : u_T := fun k => match k with
  | 0 => ("CarryUp", "text", "LCarryUp$Text;", true)
  | 1 => ("CarryUp", "reader", "LCarryUp$Reader;", true)
  | 2 => ("CarryUp", "plan", "LCarryUp$Plan;", true)
  | 3 => ("CarryUp", "rows", "LCarryUp$Row;", true)
  | 4 => ("CarryUp", "walk", "LCarryUp$Walk;", true)
  | 5 => ("CarryUp", "choice", "LCarryUp$Choice;", true)
  | 6 => ("CarryUp", "now", "LCarryUp$Now;", true)
  | _ => ("CarryUp", "book", "LCarryUp$Book;", true)
def tyX10 : Nat → FieldType := fun k => match k with
  | 0 => .object "CarryUp$Text"
  | 1 => .object "CarryUp$Reader"
  | 2 => .object "CarryUp$Plan"
  | 3 => .object "CarryUp$Row"
  | 4 => .object "CarryUp$Walk"
  | 5 => .object "CarryUp$Choice"
  | 6 => .object "CarryUp$Now"
  | _ => .object "CarryUp$Book"
abbrev wsX100 : List Cond := u_ws RX10 TX10 8
theorem nmX10 : ∀ a, a < 8 → ∀ b, b < 8 → a ≠ b → (TX10 a).2.1 ≠ (TX10 b).2.1 := by decide +kernel
theorem tyX10_ok : ∀ k, k < 8 → parseFieldDescriptor (TX10 k).2.2.1 = some (tyX10 k) := by decide +kernel
abbrev cX10_init : ByteArray := prog_1_method_1_code
def yX10_init : MethodName := ⟨RX10, "<init>", "()V"⟩
abbrev cX10_write : ByteArray := prog_1_method_2_code
def yX10_write : MethodName := ⟨RX10, "write", "(JI)I"⟩
abbrev cX10_erase : ByteArray := prog_1_method_3_code
def yX10_erase : MethodName := ⟨RX10, "erase", "()I"⟩
abbrev cX10_fault : ByteArray := prog_1_method_4_code
def yX10_fault : MethodName := ⟨RX10, "fault", "()I"⟩
abbrev cX10_day : ByteArray := prog_1_method_5_code
def yX10_day : MethodName := ⟨RX10, "day", "()I"⟩
abbrev cX10_thing : ByteArray := prog_1_method_6_code
def yX10_thing : MethodName := ⟨RX10, "thing", "(II)I"⟩
abbrev cX10_call : ByteArray := prog_1_method_7_code
def yX10_call : MethodName := ⟨RX10, "call", "(II)I"⟩
abbrev cX10_sort : ByteArray := prog_1_method_8_code
def yX10_sort : MethodName := ⟨RX10, "sort", "(III)I"⟩
abbrev cX10_way : ByteArray := prog_1_method_9_code
def yX10_way : MethodName := ⟨RX10, "way", "(II)I"⟩
abbrev cX10_may : ByteArray := prog_1_method_10_code
def yX10_may : MethodName := ⟨RX10, "may", "(I)I"⟩
abbrev cX10_does : ByteArray := prog_1_method_11_code
def yX10_does : MethodName := ⟨RX10, "does", "(III)I"⟩
abbrev cX10_chance : ByteArray := prog_1_method_12_code
def yX10_chance : MethodName := ⟨RX10, "chance", "(III)I"⟩
abbrev cX10_mean : ByteArray := prog_1_method_13_code
def yX10_mean : MethodName := ⟨RX10, "mean", "(IIII)J"⟩
abbrev cX10_all : ByteArray := prog_1_method_14_code
def yX10_all : MethodName := ⟨RX10, "all", "(IIII)J"⟩
abbrev cX10_end : ByteArray := prog_1_method_15_code
def yX10_end : MethodName := ⟨RX10, "end", "(III)I"⟩
abbrev cX10_best : ByteArray := prog_1_method_16_code
def yX10_best : MethodName := ⟨RX10, "best", "(II)I"⟩
abbrev cX10_sure : ByteArray := prog_1_method_17_code
def yX10_sure : MethodName := ⟨RX10, "sure", "(IIII)I"⟩
abbrev cX10_know : ByteArray := prog_1_method_18_code
def yX10_know : MethodName := ⟨RX10, "know", "(IIII)J"⟩
abbrev cX10_both : ByteArray := prog_1_method_19_code
def yX10_both : MethodName := ⟨RX10, "both", "(II)I"⟩
abbrev cX10_value : ByteArray := prog_1_method_20_code
def yX10_value : MethodName := ⟨RX10, "value", "(IIIII)J"⟩
abbrev cX10_next : ByteArray := prog_1_method_21_code
def yX10_next : MethodName := ⟨RX10, "next", "(IIII)I"⟩
abbrev cX10_stands : ByteArray := prog_1_method_22_code
def yX10_stands : MethodName := ⟨RX10, "stands", "(II)I"⟩
abbrev cX10_idle : ByteArray := prog_1_method_23_code
def yX10_idle : MethodName := ⟨RX10, "idle", "()I"⟩
abbrev cX10_visit : ByteArray := prog_1_method_24_code
def yX10_visit : MethodName := ⟨RX10, "visit", "(III)I"⟩
abbrev cX10_saved : ByteArray := prog_1_method_25_code
def yX10_saved : MethodName := ⟨RX10, "saved", "(I)I"⟩
abbrev cX10_most : ByteArray := prog_1_method_26_code
def yX10_most : MethodName := ⟨RX10, "most", "(I)I"⟩
abbrev cX10_box : ByteArray := prog_1_method_27_code
def yX10_box : MethodName := ⟨RX10, "box", "(I)I"⟩
abbrev cX10_run : ByteArray := prog_1_method_28_code
def yX10_run : MethodName := ⟨RX10, "run", "(IIIII)I"⟩
abbrev cX10_count : ByteArray := prog_1_method_29_code
def yX10_count : MethodName := ⟨RX10, "count", "(I)I"⟩
abbrev cX10_refusal : ByteArray := prog_1_method_30_code
def yX10_refusal : MethodName := ⟨RX10, "refusal", "(IIZ)I"⟩
abbrev cX10_refusalNow : ByteArray := prog_1_method_31_code
def yX10_refusalNow : MethodName := ⟨RX10, "refusalNow", "(IIZ)I"⟩
abbrev cX10_within : ByteArray := prog_1_method_32_code
def yX10_within : MethodName := ⟨RX10, "within", "(III)Z"⟩
abbrev cX10_isBag : ByteArray := prog_1_method_33_code
def yX10_isBag : MethodName := ⟨RX10, "isBag", "(I)Z"⟩
abbrev cX10_isPart : ByteArray := prog_1_method_34_code
def yX10_isPart : MethodName := ⟨RX10, "isPart", "(I)Z"⟩
abbrev cX10_lowest : ByteArray := prog_1_method_35_code
def yX10_lowest : MethodName := ⟨RX10, "lowest", "(JJI)J"⟩
abbrev cX10_at : ByteArray := prog_1_method_36_code
def yX10_at : MethodName := ⟨RX10, "at", "([II)I"⟩
abbrev cX10_put : ByteArray := prog_1_method_37_code
def yX10_put : MethodName := ⟨RX10, "put", "([III)V"⟩
def RX11 : String := "CarryUpModel"
def TX11 : u_T := fun k => match k with
  | 0 => ("CarryUpModel", "text", "[I", true)
  | 1 => ("CarryUpModel", "length", "I", false)
  | 2 => ("CarryUpModel", "read", "[I", true)
  | 3 => ("CarryUpModel", "readMany", "I", false)
  | 4 => ("CarryUpModel", "weights", "[I", true)
  | 5 => ("CarryUpModel", "prices", "[I", true)
  | 6 => ("CarryUpModel", "tools", "I", false)
  | 7 => ("CarryUpModel", "load", "I", false)
  | 8 => ("CarryUpModel", "purse", "I", false)
  | 9 => ("CarryUpModel", "begin", "I", false)
  | 10 => ("CarryUpModel", "ways", "[I", true)
  | 11 => ("CarryUpModel", "toldCalls", "I", false)
  | 12 => ("CarryUpModel", "calls", "[I", true)
  | 13 => ("CarryUpModel", "sortMany", "[I", true)
  | 14 => ("CarryUpModel", "sorts", "[I", true)
  | 15 => ("CarryUpModel", "visits", "[I", true)
  | 16 => ("CarryUpModel", "visitMany", "I", false)
  | 17 => ("CarryUpModel", "at", "I", false)
  | 18 => ("CarryUpModel", "place", "I", false)
  | 19 => ("CarryUpModel", "end", "I", false)
  | 20 => ("CarryUpModel", "entries", "[I", true)
  | 21 => ("CarryUpModel", "entryMany", "I", false)
  | 22 => ("CarryUpModel", "combos", "I", false)
  | 23 => ("CarryUpModel", "all", "J", false)
  | 24 => ("CarryUpModel", "weight", "J", false)
  | 25 => ("CarryUpModel", "gain", "I", false)
  | 26 => ("CarryUpModel", "allDone", "Z", false)
  | 27 => ("CarryUpModel", "minute", "I", false)
  | 28 => ("CarryUpModel", "doneSet", "I", false)
  | 29 => ("CarryUpModel", "bagLeft", "I", false)
  | _ => ("CarryUpModel", "chosen", "[I", true)
def tyX11 : Nat → FieldType := fun k => match k with
  | 0 => .array .int
  | 1 => .int
  | 2 => .array .int
  | 3 => .int
  | 4 => .array .int
  | 5 => .array .int
  | 6 => .int
  | 7 => .int
  | 8 => .int
  | 9 => .int
  | 10 => .array .int
  | 11 => .int
  | 12 => .array .int
  | 13 => .array .int
  | 14 => .array .int
  | 15 => .array .int
  | 16 => .int
  | 17 => .int
  | 18 => .int
  | 19 => .int
  | 20 => .array .int
  | 21 => .int
  | 22 => .int
  | 23 => .long
  | 24 => .long
  | 25 => .int
  | 26 => .boolean
  | 27 => .int
  | 28 => .int
  | 29 => .int
  | _ => .array .int
abbrev wsX110 : List Cond := u_ws RX11 TX11 31
theorem nmX11 : ∀ a, a < 31 → ∀ b, b < 31 → a ≠ b → (TX11 a).2.1 ≠ (TX11 b).2.1 := by decide +kernel
theorem tyX11_ok : ∀ k, k < 31 → parseFieldDescriptor (TX11 k).2.2.1 = some (tyX11 k) := by decide +kernel
abbrev cX11_init : ByteArray := prog_13_method_1_code
def yX11_init : MethodName := ⟨RX11, "<init>", "()V"⟩
abbrev cX11_in : ByteArray := prog_13_method_2_code
def yX11_in : MethodName := ⟨RX11, "in", "(JJJ)Z"⟩
abbrev cX11_has : ByteArray := prog_13_method_3_code
def yX11_has : MethodName := ⟨RX11, "has", "(II)Z"⟩
abbrev cX11_write : ByteArray := prog_13_method_4_code
def yX11_write : MethodName := ⟨RX11, "write", "(JI)I"⟩
abbrev cX11_erase : ByteArray := prog_13_method_5_code
def yX11_erase : MethodName := ⟨RX11, "erase", "()I"⟩
abbrev cX11_kind : ByteArray := prog_13_method_6_code
def yX11_kind : MethodName := ⟨RX11, "kind", "(I)I"⟩
abbrev cX11_token : ByteArray := prog_13_method_7_code
def yX11_token : MethodName := ⟨RX11, "token", "()V"⟩
abbrev cX11_isWord : ByteArray := prog_13_method_8_code
def yX11_isWord : MethodName := ⟨RX11, "isWord", "(II)Z"⟩
abbrev cX11_reads : ByteArray := prog_13_method_9_code
def yX11_reads : MethodName := ⟨RX11, "reads", "(III)Z"⟩
abbrev cX11_readsThings : ByteArray := prog_13_method_10_code
def yX11_readsThings : MethodName := ⟨RX11, "readsThings", "(I)Z"⟩
abbrev cX11_readsThing : ByteArray := prog_13_method_11_code
def yX11_readsThing : MethodName := ⟨RX11, "readsThing", "()Z"⟩
abbrev cX11_readsWay : ByteArray := prog_13_method_12_code
def yX11_readsWay : MethodName := ⟨RX11, "readsWay", "()Z"⟩
abbrev cX11_number : ByteArray := prog_13_method_13_code
def yX11_number : MethodName := ⟨RX11, "number", "()I"⟩
abbrev cX11_readsSort : ByteArray := prog_13_method_14_code
def yX11_readsSort : MethodName := ⟨RX11, "readsSort", "()Z"⟩
abbrev cX11_readsLine : ByteArray := prog_13_method_15_code
def yX11_readsLine : MethodName := ⟨RX11, "readsLine", "()Z"⟩
abbrev cX11_fault : ByteArray := prog_13_method_16_code
def yX11_fault : MethodName := ⟨RX11, "fault", "()I"⟩
abbrev cX11_lay : ByteArray := prog_13_method_17_code
def yX11_lay : MethodName := ⟨RX11, "lay", "(I)V"⟩
abbrev cX11_day : ByteArray := prog_13_method_18_code
def yX11_day : MethodName := ⟨RX11, "day", "()I"⟩
abbrev cX11_isThing : ByteArray := prog_13_method_19_code
def yX11_isThing : MethodName := ⟨RX11, "isThing", "(I)Z"⟩
abbrev cX11_isCall : ByteArray := prog_13_method_20_code
def yX11_isCall : MethodName := ⟨RX11, "isCall", "(I)Z"⟩
abbrev cX11_thing : ByteArray := prog_13_method_21_code
def yX11_thing : MethodName := ⟨RX11, "thing", "(II)I"⟩
abbrev cX11_call : ByteArray := prog_13_method_22_code
def yX11_call : MethodName := ⟨RX11, "call", "(II)I"⟩
abbrev cX11_isSort : ByteArray := prog_13_method_23_code
def yX11_isSort : MethodName := ⟨RX11, "isSort", "(II)Z"⟩
abbrev cX11_sort : ByteArray := prog_13_method_24_code
def yX11_sort : MethodName := ⟨RX11, "sort", "(III)I"⟩
abbrev cX11_way : ByteArray := prog_13_method_25_code
def yX11_way : MethodName := ⟨RX11, "way", "(II)I"⟩
abbrev cX11_isBag : ByteArray := prog_13_method_26_code
def yX11_isBag : MethodName := ⟨RX11, "isBag", "(I)Z"⟩
abbrev cX11_weight : ByteArray := prog_13_method_27_code
def yX11_weight : MethodName := ⟨RX11, "weight", "(I)I"⟩
abbrev cX11_mayBe : ByteArray := prog_13_method_28_code
def yX11_mayBe : MethodName := ⟨RX11, "mayBe", "(I)Z"⟩
abbrev cX11_may : ByteArray := prog_13_method_29_code
def yX11_may : MethodName := ⟨RX11, "may", "(I)I"⟩
abbrev cX11_fits : ByteArray := prog_13_method_30_code
def yX11_fits : MethodName := ⟨RX11, "fits", "(III)Z"⟩
abbrev cX11_leftOf : ByteArray := prog_13_method_31_code
def yX11_leftOf : MethodName := ⟨RX11, "leftOf", "(III)I"⟩
abbrev cX11_does : ByteArray := prog_13_method_32_code
def yX11_does : MethodName := ⟨RX11, "does", "(III)I"⟩
abbrev cX11_totalOf : ByteArray := prog_13_method_33_code
def yX11_totalOf : MethodName := ⟨RX11, "totalOf", "(I)I"⟩
abbrev cX11_isUsable : ByteArray := prog_13_method_34_code
def yX11_isUsable : MethodName := ⟨RX11, "isUsable", "(I)Z"⟩
abbrev cX11_divisor : ByteArray := prog_13_method_35_code
def yX11_divisor : MethodName := ⟨RX11, "divisor", "(JJ)J"⟩
abbrev cX11_lowest : ByteArray := prog_13_method_36_code
def yX11_lowest : MethodName := ⟨RX11, "lowest", "(JJI)J"⟩
abbrev cX11_isPart : ByteArray := prog_13_method_37_code
def yX11_isPart : MethodName := ⟨RX11, "isPart", "(I)Z"⟩
abbrev cX11_chance : ByteArray := prog_13_method_38_code
def yX11_chance : MethodName := ⟨RX11, "chance", "(III)I"⟩
abbrev cX11_refuses : ByteArray := prog_13_method_39_code
def yX11_refuses : MethodName := ⟨RX11, "refuses", "(II)I"⟩
abbrev cX11_layRow : ByteArray := prog_13_method_40_code
def yX11_layRow : MethodName := ⟨RX11, "layRow", "(II)V"⟩
abbrev cX11_layChosen : ByteArray := prog_13_method_41_code
def yX11_layChosen : MethodName := ⟨RX11, "layChosen", "(I)V"⟩
abbrev cX11_go : ByteArray := prog_13_method_42_code
def yX11_go : MethodName := ⟨RX11, "go", "(II)V"⟩
abbrev cX11_sortBy : ByteArray := prog_13_method_43_code
def yX11_sortBy : MethodName := ⟨RX11, "sortBy", "(II)I"⟩
abbrev cX11_meanOf : ByteArray := prog_13_method_44_code
def yX11_meanOf : MethodName := ⟨RX11, "meanOf", "(III)J"⟩
abbrev cX11_doneOf : ByteArray := prog_13_method_45_code
def yX11_doneOf : MethodName := ⟨RX11, "doneOf", "(I)J"⟩
abbrev cX11_refusesBag : ByteArray := prog_13_method_46_code
def yX11_refusesBag : MethodName := ⟨RX11, "refusesBag", "(III)I"⟩
abbrev cX11_mean : ByteArray := prog_13_method_47_code
def yX11_mean : MethodName := ⟨RX11, "mean", "(IIII)J"⟩
abbrev cX11_all : ByteArray := prog_13_method_48_code
def yX11_all : MethodName := ⟨RX11, "all", "(IIII)J"⟩
abbrev cX11_end : ByteArray := prog_13_method_49_code
def yX11_end : MethodName := ⟨RX11, "end", "(III)I"⟩
abbrev cX11_bestBag : ByteArray := prog_13_method_50_code
def yX11_bestBag : MethodName := ⟨RX11, "bestBag", "()I"⟩
abbrev cX11_best : ByteArray := prog_13_method_51_code
def yX11_best : MethodName := ⟨RX11, "best", "(II)I"⟩
abbrev cX11_sure : ByteArray := prog_13_method_52_code
def yX11_sure : MethodName := ⟨RX11, "sure", "(IIII)I"⟩
abbrev cX11_know : ByteArray := prog_13_method_53_code
def yX11_know : MethodName := ⟨RX11, "know", "(IIII)J"⟩
abbrev cX11_both : ByteArray := prog_13_method_54_code
def yX11_both : MethodName := ⟨RX11, "both", "(II)I"⟩
abbrev cX11_totals : ByteArray := prog_13_method_55_code
def yX11_totals : MethodName := ⟨RX11, "totals", "(I)J"⟩
abbrev cX11_arrival : ByteArray := prog_13_method_56_code
def yX11_arrival : MethodName := ⟨RX11, "arrival", "(III)I"⟩
abbrev cX11_isLate : ByteArray := prog_13_method_57_code
def yX11_isLate : MethodName := ⟨RX11, "isLate", "(II)Z"⟩
abbrev cX11_got : ByteArray := prog_13_method_58_code
def yX11_got : MethodName := ⟨RX11, "got", "(II)J"⟩
abbrev cX11_then : ByteArray := prog_13_method_59_code
def yX11_then : MethodName := ⟨RX11, "then", "(IIII)I"⟩
abbrev cX11_one : ByteArray := prog_13_method_60_code
def yX11_one : MethodName := ⟨RX11, "one", "(IIII)J"⟩
abbrev cX11_goTwo : ByteArray := prog_13_method_61_code
def yX11_goTwo : MethodName := ⟨RX11, "goTwo", "(IIIII)J"⟩
abbrev cX11_two : ByteArray := prog_13_method_62_code
def yX11_two : MethodName := ⟨RX11, "two", "(IIII)J"⟩
abbrev cX11_goThree : ByteArray := prog_13_method_63_code
def yX11_goThree : MethodName := ⟨RX11, "goThree", "(IIIII)J"⟩
abbrev cX11_three : ByteArray := prog_13_method_64_code
def yX11_three : MethodName := ⟨RX11, "three", "(IIII)J"⟩
abbrev cX11_going : ByteArray := prog_13_method_65_code
def yX11_going : MethodName := ⟨RX11, "going", "(IIIII)J"⟩
abbrev cX11_refusesNow : ByteArray := prog_13_method_66_code
def yX11_refusesNow : MethodName := ⟨RX11, "refusesNow", "(IIII)I"⟩
abbrev cX11_valueOf : ByteArray := prog_13_method_67_code
def yX11_valueOf : MethodName := ⟨RX11, "valueOf", "(IIII)J"⟩
abbrev cX11_value : ByteArray := prog_13_method_68_code
def yX11_value : MethodName := ⟨RX11, "value", "(IIIII)J"⟩
abbrev cX11_next : ByteArray := prog_13_method_69_code
def yX11_next : MethodName := ⟨RX11, "next", "(IIII)I"⟩
abbrev cX11_stands : ByteArray := prog_13_method_70_code
def yX11_stands : MethodName := ⟨RX11, "stands", "(II)I"⟩
abbrev cX11_idle : ByteArray := prog_13_method_71_code
def yX11_idle : MethodName := ⟨RX11, "idle", "()I"⟩
abbrev cX11_visit : ByteArray := prog_13_method_72_code
def yX11_visit : MethodName := ⟨RX11, "visit", "(III)I"⟩
abbrev cX11_savedBy : ByteArray := prog_13_method_73_code
def yX11_savedBy : MethodName := ⟨RX11, "savedBy", "(I)I"⟩
abbrev cX11_saved : ByteArray := prog_13_method_74_code
def yX11_saved : MethodName := ⟨RX11, "saved", "(I)I"⟩
abbrev cX11_many : ByteArray := prog_13_method_75_code
def yX11_many : MethodName := ⟨RX11, "many", "(I)I"⟩
abbrev cX11_most : ByteArray := prog_13_method_76_code
def yX11_most : MethodName := ⟨RX11, "most", "(I)I"⟩
abbrev cX11_doesFor : ByteArray := prog_13_method_77_code
def yX11_doesFor : MethodName := ⟨RX11, "doesFor", "(I)I"⟩
abbrev cX11_box : ByteArray := prog_13_method_78_code
def yX11_box : MethodName := ⟨RX11, "box", "(I)I"⟩
abbrev cX11_run : ByteArray := prog_13_method_79_code
def yX11_run : MethodName := ⟨RX11, "run", "(IIIII)I"⟩
abbrev cX11_count : ByteArray := prog_13_method_80_code
def yX11_count : MethodName := ⟨RX11, "count", "(I)I"⟩
def RJ0 : String := "java/lang/String"
abbrev cJ0_length_8abf5 : ByteArray := prog_16_method_54_code
def yJ0_length_8abf5 : MethodName := ⟨RJ0, "length", "()I"⟩
abbrev cJ0_charAt_5068e : ByteArray := prog_16_method_56_code
def yJ0_charAt_5068e : MethodName := ⟨RJ0, "charAt", "(I)C"⟩
abbrev cJ0_coder_7d493 : ByteArray := prog_16_method_152_code
def yJ0_coder_7d493 : MethodName := ⟨RJ0, "coder", "()B"⟩
abbrev cJ0_isLatin1_aae02 : ByteArray := prog_16_method_154_code
def yJ0_isLatin1_aae02 : MethodName := ⟨RJ0, "isLatin1", "()Z"⟩
abbrev cJ0_checkIndex_df160 : ByteArray := prog_16_method_155_code
def yJ0_checkIndex_df160 : MethodName := ⟨RJ0, "checkIndex", "(II)V"⟩
def RJ1 : String := "java/lang/StringLatin1"
abbrev cJ1_charAt_3b067 : ByteArray := prog_17_method_2_code
def yJ1_charAt_3b067 : MethodName := ⟨RJ1, "charAt", "([BI)C"⟩
def RJ2 : String := "java/lang/StringUTF16"
abbrev cJ2_getChar_3b067 : ByteArray := prog_18_method_5_code
def yJ2_getChar_3b067 : MethodName := ⟨RJ2, "getChar", "([BI)C"⟩
abbrev cJ2_length_9d52b : ByteArray := prog_18_method_6_code
def yJ2_length_9d52b : MethodName := ⟨RJ2, "length", "([B)I"⟩
abbrev cJ2_charAt_3b067 : ByteArray := prog_18_method_83_code
def yJ2_charAt_3b067 : MethodName := ⟨RJ2, "charAt", "([BI)C"⟩
abbrev cJ2_checkIndex_2214a : ByteArray := prog_18_method_91_code
def yJ2_checkIndex_2214a : MethodName := ⟨RJ2, "checkIndex", "(I[B)V"⟩
def RJ3 : String := "jdk/internal/util/Preconditions"
abbrev cJ3_checkIndex_8e157 : ByteArray := prog_19_method_11_code
def yJ3_checkIndex_8e157 : MethodName := ⟨RJ3, "checkIndex", "(IILjava/util/function/BiFunction;)I"⟩
def RJ6 : String := "java/lang/Integer"
abbrev cJ6_bitCount_0f7a4 : ByteArray := prog_14_method_49_code
def yJ6_bitCount_0f7a4 : MethodName := ⟨RJ6, "bitCount", "(I)I"⟩
def RJ9 : String := "java/lang/Math"
abbrev cJ9_abs_067f4 : ByteArray := prog_15_method_61_code
def yJ9_abs_067f4 : MethodName := ⟨RJ9, "abs", "(J)J"⟩
abbrev cJ9_max_7cf53 : ByteArray := prog_15_method_65_code
def yJ9_max_7cf53 : MethodName := ⟨RJ9, "max", "(II)I"⟩
abbrev cJ9_max_f86c9 : ByteArray := prog_15_method_66_code
def yJ9_max_f86c9 : MethodName := ⟨RJ9, "max", "(JJ)J"⟩
abbrev cJ9_min_7cf53 : ByteArray := prog_15_method_69_code
def yJ9_min_7cf53 : MethodName := ⟨RJ9, "min", "(II)I"⟩
abbrev vwCl : List vw_C := [(RX0, TX0, 5), (RX1, TX1, 10), (RX2, TX2, 7), (RX3, TX3, 4), (RX4, TX4, 8), (RX5, TX5, 7), (RX6, TX6, 7), (RX7, TX7, 4), (RX8, TX8, 2), (RX9, TX9, 9), (RX10, TX10, 8), (RX11, TX11, 31)]
-- ===== the words that calls may carry, and those of nest mates
def TT : List Cond := lw_tbl.filter goodWord
theorem tt_of {w : Cond} (i : Nat) (h : lw_tbl[i]? = some w) (hg : goodWord w = true) : w ∈ TT := List.mem_filter.mpr ⟨List.mem_of_getElem? h, hg⟩
theorem tt_in {w : Cond} (h : w ∈ TT) : w ∈ lw_tbl := (List.mem_filter.mp h).1
theorem tt_good {w : Cond} (h : w ∈ TT) : (w.onTables && w.keeps) = true ∨ ∃ ty, w = .arrayClass ty := good_of_word (List.mem_filter.mp h).2
def isNest : Cond → Bool
  | .methodLinkNest .. => true
  | .fieldLinkNest .. => true
  | _ => false
def NN : List Cond := lw_tbl.filter isNest
theorem nn_of {w : Cond} (i : Nat) (h : lw_tbl[i]? = some w) (hg : isNest w = true) : w ∈ NN := List.mem_filter.mpr ⟨List.mem_of_getElem? h, hg⟩
theorem nn_in {w : Cond} (h : w ∈ NN) : w ∈ lw_tbl := (List.mem_filter.mp h).1
theorem nn_nest {w : Cond} (h : w ∈ NN) : isNest w = true := (List.mem_filter.mp h).2
theorem nn_on : ∀ {w : Cond}, isNest w = true → w.onTables = true
  | .methodLinkNest .., _ => rfl
  | .fieldLinkNest .., _ => rfl
theorem nn_warm {s U : State} (hW : s.WarmedH U.vm) : ∀ w : Cond, isNest w = true → va_Nw w s → va_Nw w U
  | .methodLinkNest .., _, h => va_Nw.warmM hW h
  | .fieldLinkNest .., _, h => va_Nw.warmF hW h
theorem nn_same {u U : State} (hv : u.vm = U.vm) : ∀ w : Cond, isNest w = true → va_Nw w u → va_Nw w U
  | .methodLinkNest .., _, h => va_Nw.same rfl hv h
  | .fieldLinkNest .., _, h => va_Nw.same rfl hv h
theorem nn_at {A : Array Value} {U : State} : ∀ w : Cond, isNest w = true → w.before A U = true → va_Nw w U
  | .methodLinkNest .., _, h => va_Nw.of rfl h
  | .fieldLinkNest .., _, h => va_Nw.of rfl h
theorem tt_all (l : List Cond) (h : l.all (fun w => decide (w ∈ lw_tbl) && goodWord w) = true) : ∀ w ∈ l, w ∈ TT := fun w hw => by
  have h1 := List.all_eq_true.mp h w hw
  simp only [Bool.and_eq_true, decide_eq_true_eq] at h1
  exact List.mem_filter.mpr h1
theorem inT0 : ∀ w ∈ u_ws RX0 TX0 5, w ∈ TT := tt_all _ (by decide +kernel)
theorem inT1 : ∀ w ∈ u_ws RX1 TX1 10, w ∈ TT := tt_all _ (by decide +kernel)
theorem inT2 : ∀ w ∈ u_ws RX2 TX2 7, w ∈ TT := tt_all _ (by decide +kernel)
theorem inT3 : ∀ w ∈ u_ws RX3 TX3 4, w ∈ TT := tt_all _ (by decide +kernel)
theorem inT4 : ∀ w ∈ u_ws RX4 TX4 8, w ∈ TT := tt_all _ (by decide +kernel)
theorem inT5 : ∀ w ∈ u_ws RX5 TX5 7, w ∈ TT := tt_all _ (by decide +kernel)
theorem inT6 : ∀ w ∈ u_ws RX6 TX6 7, w ∈ TT := tt_all _ (by decide +kernel)
theorem inT7 : ∀ w ∈ u_ws RX7 TX7 4, w ∈ TT := tt_all _ (by decide +kernel)
theorem inT8 : ∀ w ∈ u_ws RX8 TX8 2, w ∈ TT := tt_all _ (by decide +kernel)
theorem inT9 : ∀ w ∈ u_ws RX9 TX9 9, w ∈ TT := tt_all _ (by decide +kernel)
theorem inT10 : ∀ w ∈ u_ws RX10 TX10 8, w ∈ TT := tt_all _ (by decide +kernel)
theorem inT11 : ∀ w ∈ u_ws RX11 TX11 31, w ∈ TT := tt_all _ (by decide +kernel)
end
section
-- ===== 02: the state of a world as numbers, and what a call says
abbrev St : Type := (Nat → Nat → Int32) × (Nat → Nat → Int64) × (Nat → Option (Fin 6))
def setI (S : St) (p j : Nat) (v : Int32) : St := (fun a => if a = p then upd (S.1 a) j v else S.1 a, S.2.1, S.2.2)
def setL (S : St) (p j : Nat) (v : Int64) : St := (S.1, fun a => if a = p then vp_updL (S.2.1 a) j v else S.2.1 a, S.2.2)
def setR (S : St) (i : Nat) (v : Option (Fin 6)) : St := (S.1, S.2.1, va_up S.2.2 i v)
-- a value gets a name
def bnd {α β : Type} (x : α) (f : α → β) : β := f x
theorem bnd_at {α β : Type} {x y : α} {f : α → β} {o : β} (e : y = x) (h : bnd x f = o) : f y = o := by subst e; exact h
theorem bnd_ex {α β : Type} {x : α} {f : α → β} {o : β} (h : bnd x f = o) : ∃ y, x = y ∧ f y = o := ⟨x, rfl, h⟩
-- the rest, if something may be done
def chk {β : Type} (c : Prop) [Decidable c] (x : Option β) : Option β := if c then x else none
theorem chk_ex {β : Type} {c : Prop} [Decidable c] {x : Option β} {o : β} (h : chk c x = some o) : c ∧ x = some o := by
  unfold chk at h
  by_cases q : c
  · rw [if_pos q] at h; exact ⟨q, h⟩
  · rw [if_neg q] at h; cases h
theorem chk_t {β : Type} {c : Prop} [Decidable c] {x : Option β} (h : c) : chk c x = x := if_pos h
def obd {α β : Type} (x : Option α) (f : α → Option β) : Option β := match x with
  | none => none
  | some a => f a
theorem obd_ex {α β : Type} {x : Option α} {f : α → Option β} {o : β} (h : obd x f = some o) : ∃ y, x = some y ∧ f y = some o := by
  cases x with
  | none => cases h
  | some a => exact ⟨a, rfl, h⟩
theorem obd_s {α β : Type} (a : α) (f : α → Option β) : obd (some a) f = f a := rfl
def oel {α β : Type} (x : Option α) (a : β) (f : α → β) : β := match x with
  | none => a
  | some c => f c
theorem oel_n {α β : Type} {a o : β} {f : α → β} (h : oel none a f = o) : a = o := h
theorem oel_s {α β : Type} {a o : β} {c : α} {f : α → β} (h : oel (some c) a f = o) : f c = o := h
theorem ite_t {β : Type} {c : Prop} [Decidable c] {x y o : β} (q : c) (h : (if c then x else y) = o) : x = o := by rw [if_pos q] at h; exact h
theorem ite_n {β : Type} {c : Prop} [Decidable c] {x y o : β} (q : ¬ c) (h : (if c then x else y) = o) : y = o := by rw [if_neg q] at h; exact h
abbrev ixo (i : Int32) (n : Nat) : Prop := ¬ (i < 0 ∨ n ≤ i.toNatClampNeg)
abbrev zb (v : Int32) : Prop := v = 0 ∨ v = 1
theorem zb_n {v : Int32} (h : zb v) : narrow .boolean (.int v) = .int v := by rcases h with rfl | rfl <;> rfl
theorem zb_f {v : Int32} (h : zb v) : fits .boolean (.int v) = true := by rcases h with rfl | rfl <;> rfl
theorem ix_lt {i : Int32} {n : Nat} (h : ixo i n) : i.toNatClampNeg < n := Nat.not_le.mp fun q => h (Or.inr q)
def fin6 (i : Int32) : Option (Fin 6) := if h : ixo i 6 then some ⟨i.toNatClampNeg, ix_lt h⟩ else none
theorem fin6_ex {i : Int32} {c : Fin 6} (h : fin6 i = some c) : vp_in i 6 ∧ c.val = i.toNatClampNeg := by
  unfold fin6 at h
  by_cases q : ixo i 6
  · rw [dif_pos q] at h; cases h; exact ⟨q, rfl⟩
  · rw [dif_neg q] at h; cases h
def finS (c : Fin 6) (i : Int32) : Option (Fin 24) := if h : ixo i 4 then some ⟨4 * c.val + i.toNatClampNeg, by have := ix_lt h; have := c.isLt; omega⟩ else none
theorem finS_ex {c : Fin 6} {i : Int32} {q : Fin 24} (h : finS c i = some q) : vp_in i 4 ∧ q.val = 4 * c.val + i.toNatClampNeg := by
  unfold finS at h
  by_cases z : ixo i 4
  · rw [dif_pos z] at h; cases h; exact ⟨z, rfl⟩
  · rw [dif_neg z] at h; cases h
-- how far a loop may go, at the most
def FU : Nat := 5000
theorem FU_eq : FU = 5000 := rfl
-- what goes with the tables (strings, nest mates, classes) beside a world
def KKok (D : va_G) (tys : List (ClassId × FieldType)) (KK : (Nat → Prop) → State → Prop) : Prop :=
  (∀ (A B : Nat → Prop) (s U : State) (locs : List Loc), KK A s → s.WarmedH U.vm → va_S A s.heap U.heap locs → (∀ q, B q → A q) → KK B U) ∧
  (∀ (A : Nat → Prop) (U : State) (g : JFrame) (mk : MethodId) (a : Array Value), KK A U → KK A (U.calling g mk a)) ∧
  (∀ (A : Nat → Prop) (U : State), KK A U → va_K D vwCl tys U) ∧
  (∀ (A : Nat → Prop) (U : State), KK A U → ∀ w ∈ NN, va_Nw w U)
def Iv (D : va_G) (w : St → va_W) (S : St) (A : Nat → Prop) (s : State) (H : Heap) (locs : List Loc) : Prop := va_P D vwCl (w S) H ∧ va_D A (w S) ∧ va_S A s.heap H locs
def Bw (D : va_G) (w : St → va_W) (A : Nat → Prop) (u : St) (t : State) : Prop := va_P D vwCl (w u) t.heap ∧ va_D A (w u)
def Pw (D : va_G) (w : St → va_W) (KK : (Nat → Prop) → State → Prop) (S : St) (sz : Nat) (U : State) : Prop := U.heap.size = sz ∧ va_P D vwCl (w S) U.heap ∧ va_D (fun _ => True) (w S) ∧ KK (va_A (w S) sz) U
def Qw (D : va_G) (w : St → va_W) (S S1 : St) (v : Option Value) (sz : Nat) : Array Value → State → Outcome → State → Prop := fun _ st oc t => oc = .returned v ∧ Bw D w (va_A (w S) sz) S1 t ∧ va_F (va_A (w S) sz) st t
/-- a method's contract: from S, with the values As, it answers v and leaves S1 -/
def Kt (l : Launch) (D : va_G) (w : St → va_W) (KK : (Nat → Prop) → State → Prop) (y : MethodName) (cc : ByteArray) (n : Nat) (ret : Option FieldType) (fr lo : Nat) (As : List Value) (S : St) (v : Option Value) (S1 : St) : Prop :=
  ∀ sz : Nat, Met l y (Cond.code y cc n ret :: TT) ({ frames := fr, cells := 0, slots := 0, locals := lo }) (va_Pc As (Pw D w KK S sz)) (Qw D w S S1 v sz) 0 0 (va_A (w S) sz)
/-- what the tables say of a method that is called -/
def MV (y : MethodName) (bytes : ByteArray) (maxL : Nat) (ret : Option FieldType) (n : Nat) : Prop := Cond.code y bytes maxL ret ∈ TT ∧ Cond.instanceMethod y ∈ TT ∧ Cond.selects y.cls y y ∈ TT ∧ Cond.initialized y.cls ∈ TT ∧ (y.cls ≠ "java/lang/invoke/MethodHandle" ∧ y.cls ≠ "java/lang/invoke/VarHandle" ∧ (parseMethodDescriptor y.desc).map (fun d => d.parameters.length) = some n)
def MS (y : MethodName) (bytes : ByteArray) (maxL : Nat) (ret : Option FieldType) (n : Nat) : Prop := Cond.code y bytes maxL ret ∈ TT ∧ Cond.static y ∈ TT ∧ Cond.initialized y.cls ∈ TT ∧ (y.cls ≠ "java/lang/invoke/MethodHandle" ∧ y.cls ≠ "java/lang/invoke/VarHandle" ∧ (parseMethodDescriptor y.desc).map (fun d => d.parameters.length) = some n)
theorem goodTT {B : Cond} (h : B ∈ TT) : GoodIn TT (B :: TT) := fun w hw => (List.mem_cons.mp hw).elim (fun e => e ▸ ⟨h, tt_good h⟩) (fun h => ⟨h, tt_good h⟩)
theorem free_in {D : va_G} {w : St → va_W} {S : St} {A : Nat → Prop} {s : State} {H : Heap} {locs : List Loc} (I : Iv D w S A s H locs) (hA : ∀ q, s.heap.size ≤ q → A q) : ∀ q, va_A (w S) H.size q → A q := by
  intro q h
  rcases h with ⟨k, e, h⟩ | h
  · exact I.2.1.2 k (q, e) h
  · exact hA q (Nat.le_trans I.2.2.1 h)
section KCALL
variable {p : Program} {l : Launch} {e : Env} {R : Room} {s : State} {m : MethodId} {args : Array Value} {below : List Frame} {meth : Method} {c : Code} {H : Heap} {locs : List Loc} {Q : State → Prop}
variable {D : va_G} {tys : List (ClassId × FieldType)} {KK : (Nat → Prop) → State → Prop} {w : St → va_W} {S S1 : St} {A : Nat → Prop} {cc bytes : ByteArray} {nL maxL fr lo n index pc : Nat} {own host : String} {y : MethodName} {ret : Option FieldType} {As rest st st1 : List Value} {v : Option Value} {ls : Array Slot} {b : Addr}
/-- behind a call -/
theorem k_behind {aa : Array Value} (I : Iv D w S A s H locs) (hA : ∀ q, s.heap.size ≤ q → A q)
    (hr : va_Run p l e R s m args below meth c H locs 0 0 0 0 (F0 m pc ls st) rest (Qw D w S S1 v H.size aa) (va_A (w S) H.size)) (h1 : v.toList ++ rest = st1)
    (kk : ∀ (H1 : Heap) (locs1 : List Loc), Iv D w S1 A s H1 locs1 → W p l e R s m args below meth c H1 locs1 0 0 Q (F0 m (pc + 3) ls st1)) : W p l e R s m args below meth c H locs 0 0 Q (F0 m pc ls st) := by
  have hF := free_in I hA
  obtain ⟨hP, hD, hS⟩ := I
  intro T hT X
  obtain ⟨v', st₀, t, T', L, h0, X', hL, e1, e2, ⟨hv, ⟨hb1, hb2⟩, hz, hk⟩, stp⟩ := hr T hT X
  cases hv
  rw [h0] at hz hk
  obtain ⟨t2, a1, b1⟩ := kk T'.heap (locs ++ L) ⟨by rw [e1]; exact hb1, hb2.weaken (fun k q _ h => hF q.1 h), Nat.le_trans hS.1 (by rw [e1]; exact hz), fun q h1 h2 => by rw [e1, hk q (Nat.lt_of_lt_of_le h1 hS.1) (fun z => h2 (hF q z))]; exact hS.2.1 q h1 h2, fun q hq => by
      rcases List.mem_append.mp hq with h | h
      · exact hS.2.2 q h
      · exact hF _ (hL q h)⟩ T' rfl X'
  refine ⟨t2, stp t2 ?_, b1⟩
  subst h1
  exact a1
theorem k_pre (hk : KKok D tys KK) (hK : KK A s) (I : Iv D w S A s H locs) (hA : ∀ q, s.heap.size ≤ q → A q) (Bs : List Value) : PreS s H (va_Pc Bs (Pw D w KK S H.size)) Bs := by
  have hF := free_in I hA
  obtain ⟨hP, hD, hS⟩ := I
  refine ⟨fun a U g mk q => ?_, fun U hU hW => ?_⟩
  · obtain ⟨q0, q1, q2, q3, q4⟩ := q
    exact ⟨q0, q1, q2, q3, hk.2.1 _ _ _ _ _ q4⟩
  · exact ⟨rfl, by rw [hU], by rw [hU]; exact hP, hD.weaken (fun _ _ _ _ => trivial), hk.1 A _ s U locs hK hW (by rw [hU]; exact hS) hF⟩
/-- a method of its own class, or a public one of another, on an object of the world -/
theorem k_V (C : CallFix p m c cc nL s args TT own) (hk : KKok D tys KK) (hK : KK A s) (I : Iv D w S A s H locs) (hA : ∀ q, s.heap.size ≤ q → A q)
    (hc : Kt l D w KK y bytes maxL ret fr lo (.ref b :: As) S v S1) (hR : fr + 1 ≤ R.frames ∧ 8 + (maxL + 11) + lo ≤ R.locals) (hm : MV y bytes maxL ret n) (hl : Cond.methodLink own index y ∈ TT)
    (q0 ci : Nat) {fs : List Value} {T : u_T} {N : Nat} (he : (w S)[q0]? = some (b, .inr (ci, fs))) (hci : vwCl[ci]? = some (y.cls, T, N)) (hn : As.length = n) (hz : ls.size = nL) (hst : As.reverse ++ .ref b :: rest = st) (hW : (rest.map fun v => v.category).sum ≤ 8) (hdg : decode cc pc = .ok (.invokevirtual index, 3)) (h1 : v.toList ++ rest = st1)
    (kk : ∀ (H1 : Heap) (locs1 : List Loc), Iv D w S1 A s H1 locs1 → W p l e R s m args below meth c H1 locs1 0 0 Q (F0 m (pc + 3) ls st1)) : W p l e R s m args below meth c H locs 0 0 Q (F0 m pc ls st) := by
  obtain ⟨m1, m2, m3, m4, m5⟩ := hm
  have hP := I.1
  have ht := C.2.2.2.2
  refine k_behind I hA (va_runV (rest := rest) C (hc H.size) ⟨callB_of n ht (goodTT m1) rfl rfl rfl (ht _ m4) (ht _ hl) m5 hR, ht _ m2, ht _ m3⟩ ⟨(k_pre hk hK I hA (.ref b :: As)).1, va_recv (hk.2.2.1 _ _ hK) hP hci he, (k_pre hk hK I hA (.ref b :: As)).2⟩ rfl hn hz hst.symm (by simpa using hW) hdg ⟨Nat.zero_le _, Nat.zero_le _⟩) h1 kk
/-- a static method of the same class -/
theorem k_S (C : CallFix p m c cc nL s args TT own) (hk : KKok D tys KK) (hK : KK A s) (I : Iv D w S A s H locs) (hA : ∀ q, s.heap.size ≤ q → A q)
    (hc : Kt l D w KK y bytes maxL ret fr lo As S v S1) (hR : fr + 1 ≤ R.frames ∧ 8 + (maxL + 11) + lo ≤ R.locals) (hm : MS y bytes maxL ret n) (hl : Cond.methodLink own index y ∈ TT)
    (hn : As.length = n) (hz : ls.size = nL) (hst : As.reverse ++ rest = st) (hW : (rest.map fun v => v.category).sum ≤ 8) (hdg : decode cc pc = .ok (.invokestatic index, 3)) (h1 : v.toList ++ rest = st1)
    (kk : ∀ (H1 : Heap) (locs1 : List Loc), Iv D w S1 A s H1 locs1 → W p l e R s m args below meth c H1 locs1 0 0 Q (F0 m (pc + 3) ls st1)) : W p l e R s m args below meth c H locs 0 0 Q (F0 m pc ls st) := by
  obtain ⟨m1, m2, m4, m5⟩ := hm
  have ht := C.2.2.2.2
  refine k_behind I hA (va_runS (rest := rest) C (hc H.size) ⟨callB_of n ht (goodTT m1) rfl rfl rfl (ht _ m4) (ht _ hl) m5 hR, ht _ m2⟩ (k_pre hk hK I hA As) rfl hn hz hst.symm (by simpa using hW) hdg ⟨Nat.zero_le _, Nat.zero_le _⟩) h1 kk
/-- a private static method of a nest mate -/
theorem k_SN (C : CallFix p m c cc nL s args TT own) (hk : KKok D tys KK) (hK : KK A s) (I : Iv D w S A s H locs) (hA : ∀ q, s.heap.size ≤ q → A q)
    (hc : Kt l D w KK y bytes maxL ret fr lo As S v S1) (hR : fr + 1 ≤ R.frames ∧ 8 + (maxL + 11) + lo ≤ R.locals) (hm : MS y bytes maxL ret n) (hl : Cond.methodLinkNest own index y host ∈ NN)
    (hn : As.length = n) (hz : ls.size = nL) (hst : As.reverse ++ rest = st) (hW : (rest.map fun v => v.category).sum ≤ 8) (hdg : decode cc pc = .ok (.invokestatic index, 3)) (h1 : v.toList ++ rest = st1)
    (kk : ∀ (H1 : Heap) (locs1 : List Loc), Iv D w S1 A s H1 locs1 → W p l e R s m args below meth c H1 locs1 0 0 Q (F0 m (pc + 3) ls st1)) : W p l e R s m args below meth c H locs 0 0 Q (F0 m pc ls st) := by
  obtain ⟨m1, m2, m4, m5⟩ := hm
  have ht := C.2.2.2.2
  refine k_behind I hA (va_runSN (rest := rest) C (hc H.size) ⟨va_cnB n ht (goodTT m1) rfl rfl rfl (hk.2.2.2 _ _ hK _ hl) (ht _ m4) m5 hR, ht _ m2, trivial⟩ (k_pre hk hK I hA As) rfl hn hz hst.symm (by simpa using hW) hdg ⟨Nat.zero_le _, Nat.zero_le _⟩) h1 kk
/-- a field is read -/
theorem k_get (C : CallFix p m c cc nL s args TT own) (hK : va_K D vwCl tys s) (I : Iv D w S A s H locs) {Cn : String} {T : u_T} {N : Nat} (hin : ∀ w ∈ u_ws Cn T N, w ∈ TT) (q0 ci k : Nat) {a : Nat} {fs : List Value} {x : Value} (he : (w S)[q0]? = some (a, .inr (ci, fs))) (hci : vwCl[ci]? = some (Cn, T, N)) (hk : k < N) (hO : (T k).1 = Cn) (hl : Cond.fieldLink own index Cn (T k).2.1 (T k).2.2.1 ∈ TT) (hv : fs[k]? = some x) (hdg : decode cc pc = .ok (.getfield index, 3))
    (kk : W p l e R s m args below meth c H locs 0 0 Q (F0 m (pc + 3) ls (x :: rest))) : W p l e R s m args below meth c H locs 0 0 Q (F0 m pc ls (.ref a :: rest)) := by
  obtain ⟨hx, hb, -, hown, ht⟩ := C
  exact va_get hx hb ht hin hown hK I.1 q0 he hci k hk (ht _ hl) (fun z h => by rw [hO] at h; exact h) hv hdg kk
theorem k_getN (C : CallFix p m c cc nL s args TT own) (hK : va_K D vwCl tys s) (hN : ∀ w ∈ NN, va_Nw w s) (I : Iv D w S A s H locs) {Cn : String} {T : u_T} {N : Nat} (hin : ∀ w ∈ u_ws Cn T N, w ∈ TT) (q0 ci k : Nat) {a : Nat} {fs : List Value} {x : Value} (he : (w S)[q0]? = some (a, .inr (ci, fs))) (hci : vwCl[ci]? = some (Cn, T, N)) (hk : k < N) (hO : (T k).1 = Cn) (hl : Cond.fieldLinkNest own index Cn (T k).2.1 (T k).2.2.1 host ∈ NN) (hv : fs[k]? = some x) (hdg : decode cc pc = .ok (.getfield index, 3))
    (kk : W p l e R s m args below meth c H locs 0 0 Q (F0 m (pc + 3) ls (x :: rest))) : W p l e R s m args below meth c H locs 0 0 Q (F0 m pc ls (.ref a :: rest)) := by
  obtain ⟨hx, hb, -, hown, ht⟩ := C
  exact va_getN hx hb ht hin hown hK I.1 q0 he hci k hk (va_Nw.use (nn_on (nn_nest hl)) (hN _ hl)) (fun z h => by rw [hO] at h; exact h) hv hdg kk
/-- a field is written -/
theorem k_put (C : CallFix p m c cc nL s args TT own) (hK : va_K D vwCl tys s) (I : Iv D w S A s H locs) {Cn : String} {T : u_T} {N : Nat} (hin : ∀ w ∈ u_ws Cn T N, w ∈ TT) (ty0 : Nat → FieldType) (hty : ∀ k, k < N → parseFieldDescriptor (T k).2.2.1 = some (ty0 k)) (hnm : ∀ a, a < N → ∀ b, b < N → a ≠ b → (T a).2.1 ≠ (T b).2.1)
    (q0 ci k : Nat) {a : Nat} {fs : List Value} {x : Value} (he : (w S)[q0]? = some (a, .inr (ci, fs))) (hci : vwCl[ci]? = some (Cn, T, N)) (hk : k < N) (hO : (T k).1 = Cn) (hl : Cond.fieldLink own index Cn (T k).2.1 (T k).2.2.1 ∈ TT) (hfin : (T k).2.2.2 = false) (hn : narrow (ty0 k) x = x) (hfit : fits (ty0 k) x = true) (hlen : k < fs.length) (hset : (w S).set q0 (a, .inr (ci, fs.set k x)) = w S1) (hdg : decode cc pc = .ok (.putfield index, 3))
    (kk : ∀ (H1 : Heap) (locs1 : List Loc), Iv D w S1 A s H1 locs1 → W p l e R s m args below meth c H1 locs1 0 0 Q (F0 m (pc + 3) ls rest)) : W p l e R s m args below meth c H locs 0 0 Q (F0 m pc ls (x :: .ref a :: rest)) := by
  obtain ⟨hx, hb, -, hown, ht⟩ := C
  obtain ⟨hP, hD, hS⟩ := I
  refine va_put hx hb ht hin ty0 hty hnm hown hK hP hD hS q0 he hci k hk (ht _ hl) (fun z h => by rw [hO] at h; exact h) hfin (hty k hk) hn hfit hlen hdg (fun H1 locs1 h1 h2 h3 => kk H1 locs1 ⟨?_, ?_, h3⟩)
  · rw [← hset]; exact h1
  · rw [← hset]; exact h2
/-- arrays of ints -/
theorem k_ald (C : CallFix p m c cc nL s args TT own) (hK : va_K D vwCl tys s) (I : Iv D w S A s H locs) (q0 t0 : Nat) {a : Nat} {cA : ClassId} {N : Nat} {f : Nat → Int32} (ha : (w S)[q0]? = some (a, .inl (cA, N, .inl f))) (ht : tys[t0]? = some (cA, .int)) {i : Int32} (hin : ixo i N) (hdg : decode cc pc = .ok (.iaload, 1))
    (kk : W p l e R s m args below meth c H locs 0 0 Q (F0 m (pc + 1) ls (.int (f i.toNatClampNeg) :: rest))) : W p l e R s m args below meth c H locs 0 0 Q (F0 m pc ls (.int i :: .ref a :: rest)) := va_iald C.1 C.2.1 hK I.1 q0 t0 ha ht hin hdg kk
theorem k_ast (C : CallFix p m c cc nL s args TT own) (hK : va_K D vwCl tys s) (I : Iv D w S A s H locs) (q0 t0 : Nat) {a : Nat} {cA : ClassId} {N : Nat} {f : Nat → Int32} (ha : (w S)[q0]? = some (a, .inl (cA, N, .inl f))) (ht : tys[t0]? = some (cA, .int)) {i x : Int32} (hin : ixo i N) (hset : (w S).set q0 (a, .inl (cA, N, .inl (upd f i.toNatClampNeg x))) = w S1) (hdg : decode cc pc = .ok (.iastore, 1))
    (kk : ∀ (H1 : Heap) (locs1 : List Loc), Iv D w S1 A s H1 locs1 → W p l e R s m args below meth c H1 locs1 0 0 Q (F0 m (pc + 1) ls rest)) : W p l e R s m args below meth c H locs 0 0 Q (F0 m pc ls (.int x :: .int i :: .ref a :: rest)) := by
  obtain ⟨hP, hD, hS⟩ := I
  refine va_iast C.1 C.2.1 hK hP hD hS q0 t0 ha ht hin hdg (fun H1 locs1 h1 h2 h3 => kk H1 locs1 ⟨?_, ?_, h3⟩)
  · rw [← hset]; exact h1
  · rw [← hset]; exact h2
end KCALL
/-- what a walk of a method's body starts with, and how it ends -/
def Rt (p : Program) (l : Launch) (e : Env) (R : Room) (s : State) (m : MethodId) (args : Array Value) (below : List Frame) (meth : Method) (c : Code) (D : va_G) (w : St → va_W) (A : Nat → Prop) (S1 : St) (Q : State → Prop) (cc : ByteArray) (ins : Instr) (st : List Value) : Prop :=
  ∀ (pc : Nat) (ls : Array Slot) (H : Heap) (locs : List Loc), Iv D w S1 A s H locs → decode cc pc = .ok (ins, 1) → W p l e R s m args below meth c H locs 0 0 Q (F0 m pc ls st)
def RetOk (l : Launch) (cc : ByteArray) (ret : Option FieldType) (v : Option Value) (ins : Instr) (st : List Value) : Prop :=
  ∀ (p : Program) (e : Env) (R : Room) (s : State) (m : MethodId) (args : Array Value) (below : List Frame) (meth : Method) (c : Code) (H : Heap) (locs : List Loc) (pc : Nat) (ls : Array Slot) (Qc : Array Value → State → Outcome → State → Prop) (free : Addr → Prop),
    p.tables.exec = Jvm.exec → c.code = cc → meth.sig.returnType = ret → meth.locks = false → (∀ t : State, t.heap = H → s.WarmedH t.vm → Qc args s (.returned v) t) → (∀ q ∈ locs, free q.base) → decode cc pc = .ok (ins, 1) →
    W p l e R s m args below meth c H locs 0 0 (MQ below Qc args s 0 0 free) (F0 m pc ls st)
theorem ret_i {l : Launch} {cc : ByteArray} {r : Int32} : RetOk l cc (some .int) (some (.int r)) .ireturn [.int r] := fun p e R s m args below meth c H locs pc ls Qc free hx hb hr hlk hq hf hd => W.iret (v := r) hx hb hr hq hf hd (hlocks := hlk)
theorem ret_z {l : Launch} {cc : ByteArray} {r : Int32} (h : zb r) : RetOk l cc (some .boolean) (some (.int r)) .ireturn [.int r] := fun p e R s m args below meth c H locs pc ls Qc free hx hb hr hlk hq hf hd => W.zret (v := r) hx hb hr (zb_n h) hq hf hd (hlocks := hlk)
theorem ret_l {l : Launch} {cc : ByteArray} {r : Int64} : RetOk l cc (some .long) (some (.long r)) .lreturn [.long r] := fun p e R s m args below meth c H locs pc ls Qc free hx hb hr hlk hq hf hd => W.lret (v := r) hx hb hr hq hf hd (hlocks := hlk)
theorem ret_v {l : Launch} {cc : ByteArray} : RetOk l cc none none .return_ [] := fun p e R s m args below meth c H locs pc ls Qc free hx hb hr hlk hq hf hd => W.vret hx hb hr hq hf hd (hlocks := hlk)
theorem ret_a {l : Launch} {cc : ByteArray} {C : String} {r : Option Nat} : RetOk l cc (some (.object C)) (some (va_rf r)) .areturn [va_rf r] := fun p e R s m args below meth c H locs pc ls Qc free hx hb hr hlk hq hf hd => W.aret (v := va_rf r) hx hb hr (Or.inl ⟨C, rfl⟩) (by cases r with | none => exact Or.inl rfl | some a => exact Or.inr ⟨a, rfl⟩) hq hf hd (hlocks := hlk)
theorem k_ent {l : Launch} {D : va_G} {KK : (Nat → Prop) → State → Prop} {w : St → va_W} {y : MethodName} {cc : ByteArray} {n : Nat} {ret : Option FieldType} {fr lo : Nat} {As : List Value} {S S1 : St} {v : Option Value} {ins : Instr} {st : List Value} (hy : plainName y.cls = true) (hlen : (lg_sl As).length ≤ n) (hret : RetOk l cc ret v ins st)
    (body : ∀ (p : Program) (e : Env) (s : State) (m : MethodId) (args : Array Value) (below : List Frame) (meth : Method) (c : Code) (A : Nat → Prop) (Q : State → Prop), CallFix p m c cc n s args TT y.cls → KK A s → Iv D w S A s s.heap [] → (∀ q, s.heap.size ≤ q → A q) →
      Rt p l e ({ frames := fr, cells := 0, slots := 0, locals := lo }) s m args below meth c D w A S1 Q cc ins st → ∀ ls : Array Slot, lv_has ls n (lv_args 0 As) → W p l e ({ frames := fr, cells := 0, slots := 0, locals := lo }) s m args below meth c s.heap [] 0 0 Q (F0 m 0 ls [])) :
    Kt l D w KK y cc n ret fr lo As S v S1 := by
  intro sz
  refine Met.ofW (cc := cc) (maxL := n) (ret := ret) hy rfl ?_
  intro p e s m args below meth c s₁ B hml hv
  obtain ⟨rfl, hsz, hP, hD, hK⟩ := hv
  have hts := atoms_spec (ws := Cond.code y cc n ret :: TT) B.pre
  subst hsz
  rw [lg_entry_eq]
  refine body p e s m _ below meth c (va_A (w S) s.heap.size) _ ⟨B.exec, B.bytes, hml, findClass_of_methodNamed B.named, fun w hw => hts w (List.mem_cons_of_mem _ hw)⟩ hK ⟨hP, hD.self, va_S.rf⟩ (fun q h => Or.inr h) ?_ _ (lv_entry As hlen)
  intro pc ls H locs I hd
  obtain ⟨hP1, hD1, hS1⟩ := I
  exact hret p e _ s m _ below meth c H locs pc ls _ _ B.exec B.bytes B.returns B.notSynchronized (fun t ht hW => ⟨rfl, ⟨by rw [ht]; exact hP1, hD1⟩, hS1.F ht⟩) hS1.2.2 hd
/-- the same for an answer that is true or false -/
theorem k_entz {l : Launch} {D : va_G} {KK : (Nat → Prop) → State → Prop} {w : St → va_W} {y : MethodName} {cc : ByteArray} {n : Nat} {fr lo : Nat} {As : List Value} {S S1 : St} {r : Int32} (hy : plainName y.cls = true) (hlen : (lg_sl As).length ≤ n)
    (body : ∀ (p : Program) (e : Env) (s : State) (m : MethodId) (args : Array Value) (below : List Frame) (meth : Method) (c : Code) (A : Nat → Prop) (Q : State → Prop), CallFix p m c cc n s args TT y.cls → KK A s → Iv D w S A s s.heap [] → (∀ q, s.heap.size ≤ q → A q) →
      (zb r → Rt p l e ({ frames := fr, cells := 0, slots := 0, locals := lo }) s m args below meth c D w A S1 Q cc .ireturn [.int r]) → ∀ ls : Array Slot, lv_has ls n (lv_args 0 As) → W p l e ({ frames := fr, cells := 0, slots := 0, locals := lo }) s m args below meth c s.heap [] 0 0 Q (F0 m 0 ls [])) :
    Kt l D w KK y cc n (some .boolean) fr lo As S (some (.int r)) S1 := by
  intro sz
  refine Met.ofW (cc := cc) (maxL := n) (ret := some .boolean) hy rfl ?_
  intro p e s m args below meth c s₁ B hml hv
  obtain ⟨rfl, hsz, hP, hD, hK⟩ := hv
  have hts := atoms_spec (ws := Cond.code y cc n (some .boolean) :: TT) B.pre
  subst hsz
  rw [lg_entry_eq]
  refine body p e s m _ below meth c (va_A (w S) s.heap.size) _ ⟨B.exec, B.bytes, hml, findClass_of_methodNamed B.named, fun w hw => hts w (List.mem_cons_of_mem _ hw)⟩ hK ⟨hP, hD.self, va_S.rf⟩ (fun q h => Or.inr h) ?_ _ (lv_entry As hlen)
  intro hz pc ls H locs I hd
  obtain ⟨hP1, hD1, hS1⟩ := I
  exact ret_z (l := l) hz p e _ s m _ below meth c H locs pc ls _ _ B.exec B.bytes B.returns B.notSynchronized (fun t ht hW => ⟨rfl, ⟨by rw [ht]; exact hP1, hD1⟩, hS1.F ht⟩) hS1.2.2 hd
def obd2 {α β : Type} (x : Option (α × St)) (f : α → St → Option β) : Option β := match x with
  | none => none
  | some a => f a.1 a.2
theorem obd2_ex {α β : Type} {x : Option (α × St)} {f : α → St → Option β} {o : β} (h : obd2 x f = some o) : ∃ r S, x = some (r, S) ∧ f r S = some o := by
  cases x with
  | none => cases h
  | some a => exact ⟨a.1, a.2, rfl, h⟩
def bnd2 {α β : Type} (x : α × St) (f : α → St → β) : β := f x.1 x.2
theorem bnd2_ex {α β : Type} {x : α × St} {f : α → St → β} {o : β} (h : bnd2 x f = o) : ∃ r S, x = (r, S) ∧ f r S = o := ⟨x.1, x.2, rfl, h⟩
section RT
variable {p : Program} {l : Launch} {e : Env} {R : Room} {s : State} {m : MethodId} {args : Array Value} {below : List Frame} {meth : Method} {c : Code} {H : Heap} {locs : List Loc} {Q : State → Prop} {D : va_G} {w : St → va_W} {A : Nat → Prop} {S S1 : St} {cc : ByteArray} {pc : Nat} {ls : Array Slot}
theorem rt_i {v r : Int32} (hq : Rt p l e R s m args below meth c D w A S1 Q cc .ireturn [.int r]) (h : some (v, S) = some (r, S1)) (I : Iv D w S A s H locs) (hd : decode cc pc = .ok (.ireturn, 1)) : W p l e R s m args below meth c H locs 0 0 Q (F0 m pc ls [.int v]) := by cases h; exact hq _ _ _ _ I hd
theorem rt_z {v r : Int32} (hz : zb v) (hq : zb r → Rt p l e R s m args below meth c D w A S1 Q cc .ireturn [.int r]) (h : some (v, S) = some (r, S1)) (I : Iv D w S A s H locs) (hd : decode cc pc = .ok (.ireturn, 1)) : W p l e R s m args below meth c H locs 0 0 Q (F0 m pc ls [.int v]) := by cases h; exact hq hz _ _ _ _ I hd
theorem rt_l {v r : Int64} (hq : Rt p l e R s m args below meth c D w A S1 Q cc .lreturn [.long r]) (h : some (v, S) = some (r, S1)) (I : Iv D w S A s H locs) (hd : decode cc pc = .ok (.lreturn, 1)) : W p l e R s m args below meth c H locs 0 0 Q (F0 m pc ls [.long v]) := by cases h; exact hq _ _ _ _ I hd
theorem rt_v (hq : Rt p l e R s m args below meth c D w A S1 Q cc .return_ []) (h : some S = some S1) (I : Iv D w S A s H locs) (hd : decode cc pc = .ok (.return_, 1)) : W p l e R s m args below meth c H locs 0 0 Q (F0 m pc ls []) := by cases h; exact hq _ _ _ _ I hd
theorem rt_a {α : Type} {f : α → Value} {v r : α} (hq : Rt p l e R s m args below meth c D w A S1 Q cc .areturn [f r]) (h : some (v, S) = some (r, S1)) (I : Iv D w S A s H locs) (hd : decode cc pc = .ok (.areturn, 1)) : W p l e R s m args below meth c H locs 0 0 Q (F0 m pc ls [f v]) := by cases h; exact hq _ _ _ _ I hd
variable {st rest : List Value} {nL : Nat}
theorem k_top {α : Type} {f : α → Value} {x : α} (k : ∀ y : α, y = x → W p l e R s m args below meth c H locs 0 0 Q (F0 m pc ls (f y :: rest))) : W p l e R s m args below meth c H locs 0 0 Q (F0 m pc ls (f x :: rest)) := k x rfl
/-- references that may be none: loads, stores, tests -/
theorem k_aload {v : Value} (r : Option Nat) (hx : p.tables.exec = Jvm.exec) (hb : c.code = cc) {i : Nat} (hdg : decode cc pc = .ok (.aload i, 2)) (hr : va_rf r = v) (hl : ls[i]? = some (.val v)) (k : W p l e R s m args below meth c H locs 0 0 Q (F0 m (pc + 2) ls (v :: rest))) : W p l e R s m args below meth c H locs 0 0 Q (F0 m pc ls rest) := by
  subst hr
  cases r with
  | none => exact lv_aloadN hx hb hdg hl k
  | some a => exact lv_aload hx hb hdg hl k
theorem k_aload_n {v : Value} (r : Option Nat) (hx : p.tables.exec = Jvm.exec) (hb : c.code = cc) {j : Fin 4} {i : Nat} (hdg : decode cc pc = .ok (.aload_n j, 1)) (hi : (j : Nat) = i) (hr : va_rf r = v) (hl : ls[i]? = some (.val v)) (k : W p l e R s m args below meth c H locs 0 0 Q (F0 m (pc + 1) ls (v :: rest))) : W p l e R s m args below meth c H locs 0 0 Q (F0 m pc ls rest) := by
  subst hr
  cases r with
  | none => exact lv_aload_nN hx hb hdg hi hl k
  | some a => exact lv_aload_n hx hb hdg hi hl k
theorem k_astore {v : Value} (r : Option Nat) (hx : p.tables.exec = Jvm.exec) (hb : c.code = cc) {i : Nat} {lv lv' : List (Nat × Value)} (hdg : decode cc pc = .ok (.astore i, 2)) (hr : va_rf r = v) (h : lv_has ls nL lv) (hn : i < nL) (hl : (i, v) :: lv.filter (fun q => !(q.1 == i) && !(q.1 + 1 == i && q.2.category == 2)) = lv') (kk : ∀ ls' : Array Slot, lv_has ls' nL lv' → W p l e R s m args below meth c H locs 0 0 Q (F0 m (pc + 2) ls' rest)) : W p l e R s m args below meth c H locs 0 0 Q (F0 m pc ls (v :: rest)) := by
  subst hr
  cases r with
  | none => exact lv_astoreN hx hb hdg h hn hl kk
  | some a => exact lv_astore hx hb hdg h hn hl kk
theorem k_astore_n {v : Value} (r : Option Nat) (hx : p.tables.exec = Jvm.exec) (hb : c.code = cc) {j : Fin 4} {i : Nat} {lv lv' : List (Nat × Value)} (hdg : decode cc pc = .ok (.astore_n j, 1)) (hi : (j : Nat) = i) (hr : va_rf r = v) (h : lv_has ls nL lv) (hn : i < nL) (hl : (i, v) :: lv.filter (fun q => !(q.1 == i) && !(q.1 + 1 == i && q.2.category == 2)) = lv') (kk : ∀ ls' : Array Slot, lv_has ls' nL lv' → W p l e R s m args below meth c H locs 0 0 Q (F0 m (pc + 1) ls' rest)) : W p l e R s m args below meth c H locs 0 0 Q (F0 m pc ls (v :: rest)) := by
  subst hr
  cases r with
  | none => exact lv_astore_nN hx hb hdg hi h hn hl kk
  | some a => exact lv_astore_n hx hb hdg hi h hn hl kk
theorem k_ifnn {α : Type} {g : α → Nat} {o : Option α} (hx : p.tables.exec = Jvm.exec) (hb : c.code = cc) {off : Int} {tgt : Nat} (hdg : decode cc pc = .ok (.ifnonnull off, 3)) (ht : (pc : Int) + off = (tgt : Int)) (ks : ∀ q, o = some q → W p l e R s m args below meth c H locs 0 0 Q (F0 m tgt ls rest)) (kn : o = none → W p l e R s m args below meth c H locs 0 0 Q (F0 m (pc + 3) ls rest)) : W p l e R s m args below meth c H locs 0 0 Q (F0 m pc ls (va_rf (o.map g) :: rest)) := by
  cases o with
  | none => exact lv_ifnonnullN hx hb hdg (kn rfl)
  | some q => exact lv_ifnonnull hx hb hdg ht (ks q rfl)
theorem k_ifn {α : Type} {g : α → Nat} {o : Option α} (hx : p.tables.exec = Jvm.exec) (hb : c.code = cc) {off : Int} {tgt : Nat} (hdg : decode cc pc = .ok (.ifnull off, 3)) (ht : (pc : Int) + off = (tgt : Int)) (kn : o = none → W p l e R s m args below meth c H locs 0 0 Q (F0 m tgt ls rest)) (ks : ∀ q, o = some q → W p l e R s m args below meth c H locs 0 0 Q (F0 m (pc + 3) ls rest)) : W p l e R s m args below meth c H locs 0 0 Q (F0 m pc ls (va_rf (o.map g) :: rest)) := by
  cases o with
  | none => exact lv_ifnullN hx hb hdg ht (kn rfl)
  | some q => exact lv_ifnull hx hb hdg (ks q rfl)
end RT
end
section
-- ===== 03: the two worlds, cell by cell
/-- the class: which cells it is, at the addresses ad, in the state S -/
def xw (cI cC cS : ClassId) (ad : Nat → Nat) (S : St) : va_W :=
  [(ad 0, .inr (10, [.ref (ad 1), .ref (ad 2), .ref (ad 3), .ref (ad 4), .ref (ad 5), .ref (ad 6), .ref (ad 7), .ref (ad 8)])),
   (ad 1, .inr (8, [.ref (ad 11), .int (S.1 1 1)])),
   (ad 2, .inr (5, [.ref (ad 1), .ref (ad 12), .int (S.1 2 2), .int (S.1 2 3), .int (S.1 2 4), .int (S.1 2 5), .int (S.1 2 6)])),
   (ad 3, .inr (4, [.ref (ad 13), .ref (ad 14), .ref (ad 15), .ref (ad 9), .int (S.1 3 4), .int (S.1 3 5), .int (S.1 3 6), .int (S.1 3 7)])),
   (ad 4, .inr (6, [.ref (ad 3), .ref (ad 16), .ref (ad 17), .ref (ad 10), .int (S.1 4 4), .int (S.1 4 5), .int (S.1 4 6)])),
   (ad 5, .inr (9, [.ref (ad 3), .ref (ad 4), .int (S.1 5 2), .long (S.2.1 5 3), .long (S.2.1 5 4), .long (S.2.1 5 5), .int (S.1 5 6), .int (S.1 5 7), .int (S.1 5 8)])),
   (ad 6, .inr (2, [.ref (ad 3), .ref (ad 4), .ref (ad 5), .int (S.1 6 3), .int (S.1 6 4), .long (S.2.1 6 5), .long (S.2.1 6 6)])),
   (ad 7, .inr (3, [.ref (ad 3), .int (S.1 7 1), .long (S.2.1 7 2), .long (S.2.1 7 3)])),
   (ad 8, .inr (0, [.ref (ad 3), .ref (ad 18), .ref (ad 19), .ref (ad 20), .int (S.1 8 4)])),
   (ad 9, .inl (cC, 6, .inr (.inr (.inr (.inr (fun c => if c < 6 then some (ad (21 + c)) else none)))))),
   (ad 10, .inl (cC, 6, .inr (.inr (.inr (.inr (fun i => (S.2.2 i).map (fun c => ad (21 + c.val)))))))),
   (ad 11, .inl (cI, 200, .inl (S.1 11))),
   (ad 12, .inl (cI, 80, .inl (S.1 12))),
   (ad 13, .inl (cI, 8, .inl (S.1 13))),
   (ad 14, .inl (cI, 8, .inl (S.1 14))),
   (ad 15, .inl (cI, 36, .inl (S.1 15))),
   (ad 16, .inl (cI, 6, .inl (S.1 16))),
   (ad 17, .inl (cI, 6, .inl (S.1 17))),
   (ad 18, .inl (cI, 16, .inl (S.1 18))),
   (ad 19, .inl (cI, 16, .inl (S.1 19))),
   (ad 20, .inl (cI, 16, .inl (S.1 20))),
   (ad 21, .inr (1, [.ref (ad 27), .int (S.1 21 1), .int (S.1 21 2), .int (S.1 21 3), .int (S.1 21 4), .int (S.1 21 5), .int (S.1 21 6), .int (S.1 21 7), .int (S.1 21 8), .int (S.1 21 9)])),
   (ad 22, .inr (1, [.ref (ad 28), .int (S.1 22 1), .int (S.1 22 2), .int (S.1 22 3), .int (S.1 22 4), .int (S.1 22 5), .int (S.1 22 6), .int (S.1 22 7), .int (S.1 22 8), .int (S.1 22 9)])),
   (ad 23, .inr (1, [.ref (ad 29), .int (S.1 23 1), .int (S.1 23 2), .int (S.1 23 3), .int (S.1 23 4), .int (S.1 23 5), .int (S.1 23 6), .int (S.1 23 7), .int (S.1 23 8), .int (S.1 23 9)])),
   (ad 24, .inr (1, [.ref (ad 30), .int (S.1 24 1), .int (S.1 24 2), .int (S.1 24 3), .int (S.1 24 4), .int (S.1 24 5), .int (S.1 24 6), .int (S.1 24 7), .int (S.1 24 8), .int (S.1 24 9)])),
   (ad 25, .inr (1, [.ref (ad 31), .int (S.1 25 1), .int (S.1 25 2), .int (S.1 25 3), .int (S.1 25 4), .int (S.1 25 5), .int (S.1 25 6), .int (S.1 25 7), .int (S.1 25 8), .int (S.1 25 9)])),
   (ad 26, .inr (1, [.ref (ad 32), .int (S.1 26 1), .int (S.1 26 2), .int (S.1 26 3), .int (S.1 26 4), .int (S.1 26 5), .int (S.1 26 6), .int (S.1 26 7), .int (S.1 26 8), .int (S.1 26 9)])),
   (ad 27, .inl (cS, 4, .inr (.inr (.inr (.inr (fun j => if j < 4 then some (ad (33 + (4 * 0 + j))) else none)))))),
   (ad 28, .inl (cS, 4, .inr (.inr (.inr (.inr (fun j => if j < 4 then some (ad (33 + (4 * 1 + j))) else none)))))),
   (ad 29, .inl (cS, 4, .inr (.inr (.inr (.inr (fun j => if j < 4 then some (ad (33 + (4 * 2 + j))) else none)))))),
   (ad 30, .inl (cS, 4, .inr (.inr (.inr (.inr (fun j => if j < 4 then some (ad (33 + (4 * 3 + j))) else none)))))),
   (ad 31, .inl (cS, 4, .inr (.inr (.inr (.inr (fun j => if j < 4 then some (ad (33 + (4 * 4 + j))) else none)))))),
   (ad 32, .inl (cS, 4, .inr (.inr (.inr (.inr (fun j => if j < 4 then some (ad (33 + (4 * 5 + j))) else none)))))),
   (ad 33, .inr (7, [.int (S.1 33 0), .int (S.1 33 1), .int (S.1 33 2), .int (S.1 33 3)])),
   (ad 34, .inr (7, [.int (S.1 34 0), .int (S.1 34 1), .int (S.1 34 2), .int (S.1 34 3)])),
   (ad 35, .inr (7, [.int (S.1 35 0), .int (S.1 35 1), .int (S.1 35 2), .int (S.1 35 3)])),
   (ad 36, .inr (7, [.int (S.1 36 0), .int (S.1 36 1), .int (S.1 36 2), .int (S.1 36 3)])),
   (ad 37, .inr (7, [.int (S.1 37 0), .int (S.1 37 1), .int (S.1 37 2), .int (S.1 37 3)])),
   (ad 38, .inr (7, [.int (S.1 38 0), .int (S.1 38 1), .int (S.1 38 2), .int (S.1 38 3)])),
   (ad 39, .inr (7, [.int (S.1 39 0), .int (S.1 39 1), .int (S.1 39 2), .int (S.1 39 3)])),
   (ad 40, .inr (7, [.int (S.1 40 0), .int (S.1 40 1), .int (S.1 40 2), .int (S.1 40 3)])),
   (ad 41, .inr (7, [.int (S.1 41 0), .int (S.1 41 1), .int (S.1 41 2), .int (S.1 41 3)])),
   (ad 42, .inr (7, [.int (S.1 42 0), .int (S.1 42 1), .int (S.1 42 2), .int (S.1 42 3)])),
   (ad 43, .inr (7, [.int (S.1 43 0), .int (S.1 43 1), .int (S.1 43 2), .int (S.1 43 3)])),
   (ad 44, .inr (7, [.int (S.1 44 0), .int (S.1 44 1), .int (S.1 44 2), .int (S.1 44 3)])),
   (ad 45, .inr (7, [.int (S.1 45 0), .int (S.1 45 1), .int (S.1 45 2), .int (S.1 45 3)])),
   (ad 46, .inr (7, [.int (S.1 46 0), .int (S.1 46 1), .int (S.1 46 2), .int (S.1 46 3)])),
   (ad 47, .inr (7, [.int (S.1 47 0), .int (S.1 47 1), .int (S.1 47 2), .int (S.1 47 3)])),
   (ad 48, .inr (7, [.int (S.1 48 0), .int (S.1 48 1), .int (S.1 48 2), .int (S.1 48 3)])),
   (ad 49, .inr (7, [.int (S.1 49 0), .int (S.1 49 1), .int (S.1 49 2), .int (S.1 49 3)])),
   (ad 50, .inr (7, [.int (S.1 50 0), .int (S.1 50 1), .int (S.1 50 2), .int (S.1 50 3)])),
   (ad 51, .inr (7, [.int (S.1 51 0), .int (S.1 51 1), .int (S.1 51 2), .int (S.1 51 3)])),
   (ad 52, .inr (7, [.int (S.1 52 0), .int (S.1 52 1), .int (S.1 52 2), .int (S.1 52 3)])),
   (ad 53, .inr (7, [.int (S.1 53 0), .int (S.1 53 1), .int (S.1 53 2), .int (S.1 53 3)])),
   (ad 54, .inr (7, [.int (S.1 54 0), .int (S.1 54 1), .int (S.1 54 2), .int (S.1 54 3)])),
   (ad 55, .inr (7, [.int (S.1 55 0), .int (S.1 55 1), .int (S.1 55 2), .int (S.1 55 3)])),
   (ad 56, .inr (7, [.int (S.1 56 0), .int (S.1 56 1), .int (S.1 56 2), .int (S.1 56 3)]))]
/-- the reference -/
def mw (cI : ClassId) (ad : Nat → Nat) (S : St) : va_W :=
  [(ad 0, .inr (11, [.ref (ad 1), .int (S.1 0 1), .ref (ad 2), .int (S.1 0 3), .ref (ad 3), .ref (ad 4), .int (S.1 0 6), .int (S.1 0 7), .int (S.1 0 8), .int (S.1 0 9), .ref (ad 5), .int (S.1 0 11), .ref (ad 6), .ref (ad 7), .ref (ad 8), .ref (ad 9), .int (S.1 0 16), .int (S.1 0 17), .int (S.1 0 18), .int (S.1 0 19), .ref (ad 10), .int (S.1 0 21), .int (S.1 0 22), .long (S.2.1 0 23), .long (S.2.1 0 24), .int (S.1 0 25), .int (S.1 0 26), .int (S.1 0 27), .int (S.1 0 28), .int (S.1 0 29), .ref (ad 11)])),
   (ad 1, .inl (cI, 200, .inl (S.1 1))),
   (ad 2, .inl (cI, 80, .inl (S.1 2))),
   (ad 3, .inl (cI, 8, .inl (S.1 3))),
   (ad 4, .inl (cI, 8, .inl (S.1 4))),
   (ad 5, .inl (cI, 36, .inl (S.1 5))),
   (ad 6, .inl (cI, 36, .inl (S.1 6))),
   (ad 7, .inl (cI, 6, .inl (S.1 7))),
   (ad 8, .inl (cI, 96, .inl (S.1 8))),
   (ad 9, .inl (cI, 48, .inl (S.1 9))),
   (ad 10, .inl (cI, 6, .inl (S.1 10))),
   (ad 11, .inl (cI, 6, .inl (S.1 11)))]
abbrev xtys (cI cC cS : ClassId) : List (ClassId × FieldType) := [(cI, .int), (cC, .object "CarryUp$Call"), (cS, .object "CarryUp$Sort")]
-- the texts that the class names: class, place in its file, text
def strO (_ : Nat) : String := "CarryUp$Reader"
def strK : Nat → Nat := fun i => match i with
  | 0 => 41
  | 1 => 62
  | 2 => 103
  | 3 => 105
  | 4 => 67
  | 5 => 73
  | 6 => 75
  | 7 => 77
  | 8 => 82
  | 9 => 87
  | 10 => 108
  | _ => 113
def strT : Nat → String := fun i => match i with
  | 0 => ";"
  | 1 => "thing"
  | 2 => "part"
  | 3 => "tool"
  | 4 => "load"
  | 5 => "purse"
  | 6 => "begin"
  | 7 => "way"
  | 8 => "call"
  | 9 => "sort"
  | 10 => "none"
  | _ => "or"
def strLen : List Nat := [1, 5, 4, 4, 4, 5, 5, 3, 4, 4, 4, 2]
def strByt : List (List Int32) := [[59], [116, 104, 105, 110, 103], [112, 97, 114, 116], [116, 111, 111, 108], [108, 111, 97, 100], [112, 117, 114, 115, 101], [98, 101, 103, 105, 110], [119, 97, 121], [99, 97, 108, 108], [115, 111, 114, 116], [110, 111, 110, 101], [111, 114]]
def SX (adK adV : Nat → Nat) (A : Nat → Prop) (U : State) : Prop := vk_S 12 strLen strByt adK adV A U U.heap ∧ ∀ i : Nat, i < 12 → vk_R (strO i) (strK i) (strT i) (adK i) U
/-- what every call takes along -/
def KX (D : va_G) (tys : List (ClassId × FieldType)) (adK adV : Nat → Nat) (A : Nat → Prop) (U : State) : Prop := va_K D vwCl tys U ∧ (∀ w ∈ NN, va_Nw w U) ∧ SX adK adV A U
theorem kx_ok (D : va_G) (tys : List (ClassId × FieldType)) (adK adV : Nat → Nat) : KKok D tys (KX D tys adK adV) := by
  refine ⟨fun A B s U locs h hW hS hB => ?_, fun A U g mk a h => ?_, fun A U h => h.1, fun A U h => h.2.1⟩
  · obtain ⟨h1, h2, h3, h4⟩ := h
    exact ⟨va_K.moved hW.alike h1, fun w hw => nn_warm hW w (nn_nest hw) (h2 w hw), ((h3.kept hS.2.1).moved hW.alike).narrow hB, fun i hi => (h4 i hi).warm hW⟩
  · obtain ⟨h1, h2, h3, h4⟩ := h
    exact ⟨va_K.moved (u := U) (U := U.calling g mk a) (Vm.Alike.refl U.vm) h1, fun w hw => nn_same (u := U) (U := U.calling g mk a) rfl w (nn_nest hw) (h2 w hw), h3.moved (Vm.Alike.refl U.vm), fun i hi => (h4 i hi).same rfl⟩
section KX
variable {p : Program} {l : Launch} {e : Env} {R : Room} {s : State} {m : MethodId} {args : Array Value} {below : List Frame} {meth : Method} {c : Code} {H : Heap} {locs : List Loc} {Q : State → Prop}
variable {D : va_G} {tys : List (ClassId × FieldType)} {adK adV : Nat → Nat} {S S1 : St} {A : Nat → Prop} {cc : ByteArray} {nL index pc : Nat} {own host : String} {rest : List Value} {ls : Array Slot} {cI cC cS : ClassId} {ad : Nat → Nat}
theorem xw_0 : (xw cI cC cS ad S)[0]? = some (ad 0, .inr (10, [.ref (ad 1), .ref (ad 2), .ref (ad 3), .ref (ad 4), .ref (ad 5), .ref (ad 6), .ref (ad 7), .ref (ad 8)])) := rfl
theorem gx_0_0 (C : CallFix p m c cc nL s args TT own) (hK : KX D tys adK adV A s) (I : Iv D (xw cI cC cS ad) S A s H locs) (hl : Cond.fieldLink own index RX10 "text" "LCarryUp$Text;" ∈ TT) (hdg : decode cc pc = .ok (.getfield index, 3)) (kk : W p l e R s m args below meth c H locs 0 0 Q (F0 m (pc + 3) ls (.ref (ad 1) :: rest))) : W p l e R s m args below meth c H locs 0 0 Q (F0 m pc ls (.ref (ad 0) :: rest)) := k_get C hK.1 I inT10 0 10 0 (xw_0 (cI := cI) (ad := ad) (cC := cC) (cS := cS)) rfl (by decide) rfl hl rfl hdg kk
theorem gx_0_1 (C : CallFix p m c cc nL s args TT own) (hK : KX D tys adK adV A s) (I : Iv D (xw cI cC cS ad) S A s H locs) (hl : Cond.fieldLink own index RX10 "reader" "LCarryUp$Reader;" ∈ TT) (hdg : decode cc pc = .ok (.getfield index, 3)) (kk : W p l e R s m args below meth c H locs 0 0 Q (F0 m (pc + 3) ls (.ref (ad 2) :: rest))) : W p l e R s m args below meth c H locs 0 0 Q (F0 m pc ls (.ref (ad 0) :: rest)) := k_get C hK.1 I inT10 0 10 1 (xw_0 (cI := cI) (ad := ad) (cC := cC) (cS := cS)) rfl (by decide) rfl hl rfl hdg kk
theorem gx_0_2 (C : CallFix p m c cc nL s args TT own) (hK : KX D tys adK adV A s) (I : Iv D (xw cI cC cS ad) S A s H locs) (hl : Cond.fieldLink own index RX10 "plan" "LCarryUp$Plan;" ∈ TT) (hdg : decode cc pc = .ok (.getfield index, 3)) (kk : W p l e R s m args below meth c H locs 0 0 Q (F0 m (pc + 3) ls (.ref (ad 3) :: rest))) : W p l e R s m args below meth c H locs 0 0 Q (F0 m pc ls (.ref (ad 0) :: rest)) := k_get C hK.1 I inT10 0 10 2 (xw_0 (cI := cI) (ad := ad) (cC := cC) (cS := cS)) rfl (by decide) rfl hl rfl hdg kk
theorem gx_0_3 (C : CallFix p m c cc nL s args TT own) (hK : KX D tys adK adV A s) (I : Iv D (xw cI cC cS ad) S A s H locs) (hl : Cond.fieldLink own index RX10 "rows" "LCarryUp$Row;" ∈ TT) (hdg : decode cc pc = .ok (.getfield index, 3)) (kk : W p l e R s m args below meth c H locs 0 0 Q (F0 m (pc + 3) ls (.ref (ad 4) :: rest))) : W p l e R s m args below meth c H locs 0 0 Q (F0 m pc ls (.ref (ad 0) :: rest)) := k_get C hK.1 I inT10 0 10 3 (xw_0 (cI := cI) (ad := ad) (cC := cC) (cS := cS)) rfl (by decide) rfl hl rfl hdg kk
theorem gx_0_4 (C : CallFix p m c cc nL s args TT own) (hK : KX D tys adK adV A s) (I : Iv D (xw cI cC cS ad) S A s H locs) (hl : Cond.fieldLink own index RX10 "walk" "LCarryUp$Walk;" ∈ TT) (hdg : decode cc pc = .ok (.getfield index, 3)) (kk : W p l e R s m args below meth c H locs 0 0 Q (F0 m (pc + 3) ls (.ref (ad 5) :: rest))) : W p l e R s m args below meth c H locs 0 0 Q (F0 m pc ls (.ref (ad 0) :: rest)) := k_get C hK.1 I inT10 0 10 4 (xw_0 (cI := cI) (ad := ad) (cC := cC) (cS := cS)) rfl (by decide) rfl hl rfl hdg kk
theorem gx_0_5 (C : CallFix p m c cc nL s args TT own) (hK : KX D tys adK adV A s) (I : Iv D (xw cI cC cS ad) S A s H locs) (hl : Cond.fieldLink own index RX10 "choice" "LCarryUp$Choice;" ∈ TT) (hdg : decode cc pc = .ok (.getfield index, 3)) (kk : W p l e R s m args below meth c H locs 0 0 Q (F0 m (pc + 3) ls (.ref (ad 6) :: rest))) : W p l e R s m args below meth c H locs 0 0 Q (F0 m pc ls (.ref (ad 0) :: rest)) := k_get C hK.1 I inT10 0 10 5 (xw_0 (cI := cI) (ad := ad) (cC := cC) (cS := cS)) rfl (by decide) rfl hl rfl hdg kk
theorem gx_0_6 (C : CallFix p m c cc nL s args TT own) (hK : KX D tys adK adV A s) (I : Iv D (xw cI cC cS ad) S A s H locs) (hl : Cond.fieldLink own index RX10 "now" "LCarryUp$Now;" ∈ TT) (hdg : decode cc pc = .ok (.getfield index, 3)) (kk : W p l e R s m args below meth c H locs 0 0 Q (F0 m (pc + 3) ls (.ref (ad 7) :: rest))) : W p l e R s m args below meth c H locs 0 0 Q (F0 m pc ls (.ref (ad 0) :: rest)) := k_get C hK.1 I inT10 0 10 6 (xw_0 (cI := cI) (ad := ad) (cC := cC) (cS := cS)) rfl (by decide) rfl hl rfl hdg kk
theorem gx_0_7 (C : CallFix p m c cc nL s args TT own) (hK : KX D tys adK adV A s) (I : Iv D (xw cI cC cS ad) S A s H locs) (hl : Cond.fieldLink own index RX10 "book" "LCarryUp$Book;" ∈ TT) (hdg : decode cc pc = .ok (.getfield index, 3)) (kk : W p l e R s m args below meth c H locs 0 0 Q (F0 m (pc + 3) ls (.ref (ad 8) :: rest))) : W p l e R s m args below meth c H locs 0 0 Q (F0 m pc ls (.ref (ad 0) :: rest)) := k_get C hK.1 I inT10 0 10 7 (xw_0 (cI := cI) (ad := ad) (cC := cC) (cS := cS)) rfl (by decide) rfl hl rfl hdg kk
theorem xw_1 : (xw cI cC cS ad S)[1]? = some (ad 1, .inr (8, [.ref (ad 11), .int (S.1 1 1)])) := rfl
theorem gx_1_0 (C : CallFix p m c cc nL s args TT own) (hK : KX D tys adK adV A s) (I : Iv D (xw cI cC cS ad) S A s H locs) (hl : Cond.fieldLink own index RX8 "bytes" "[I" ∈ TT) (hdg : decode cc pc = .ok (.getfield index, 3)) (kk : W p l e R s m args below meth c H locs 0 0 Q (F0 m (pc + 3) ls (.ref (ad 11) :: rest))) : W p l e R s m args below meth c H locs 0 0 Q (F0 m pc ls (.ref (ad 1) :: rest)) := k_get C hK.1 I inT8 1 8 0 (xw_1 (cI := cI) (ad := ad) (cC := cC) (cS := cS)) rfl (by decide) rfl hl rfl hdg kk
theorem gx_1_1 (C : CallFix p m c cc nL s args TT own) (hK : KX D tys adK adV A s) (I : Iv D (xw cI cC cS ad) S A s H locs) (hl : Cond.fieldLink own index RX8 "length" "I" ∈ TT) (hdg : decode cc pc = .ok (.getfield index, 3)) (kk : W p l e R s m args below meth c H locs 0 0 Q (F0 m (pc + 3) ls (.int (S.1 1 1) :: rest))) : W p l e R s m args below meth c H locs 0 0 Q (F0 m pc ls (.ref (ad 1) :: rest)) := k_get C hK.1 I inT8 1 8 1 (xw_1 (cI := cI) (ad := ad) (cC := cC) (cS := cS)) rfl (by decide) rfl hl rfl hdg kk
theorem px_1_1 (C : CallFix p m c cc nL s args TT own) (hK : KX D tys adK adV A s) (I : Iv D (xw cI cC cS ad) S A s H locs) (hl : Cond.fieldLink own index RX8 "length" "I" ∈ TT) {x : Int32} (hdg : decode cc pc = .ok (.putfield index, 3)) (kk : ∀ S1 : St, S1 = setI S 1 1 x → ∀ (H1 : Heap) (locs1 : List Loc), Iv D (xw cI cC cS ad) S1 A s H1 locs1 → W p l e R s m args below meth c H1 locs1 0 0 Q (F0 m (pc + 3) ls rest)) : W p l e R s m args below meth c H locs 0 0 Q (F0 m pc ls (.int x :: .ref (ad 1) :: rest)) := k_put (S1 := setI S 1 1 x) C hK.1 I inT8 tyX8 tyX8_ok nmX8 1 8 1 (xw_1 (cI := cI) (ad := ad) (cC := cC) (cS := cS)) rfl (by decide) rfl hl rfl rfl rfl (Nat.le_of_ble_eq_true rfl) rfl hdg (kk _ rfl)
theorem xw_2 : (xw cI cC cS ad S)[2]? = some (ad 2, .inr (5, [.ref (ad 1), .ref (ad 12), .int (S.1 2 2), .int (S.1 2 3), .int (S.1 2 4), .int (S.1 2 5), .int (S.1 2 6)])) := rfl
theorem gx_2_0 (C : CallFix p m c cc nL s args TT own) (hK : KX D tys adK adV A s) (I : Iv D (xw cI cC cS ad) S A s H locs) (hl : Cond.fieldLink own index RX5 "text" "LCarryUp$Text;" ∈ TT) (hdg : decode cc pc = .ok (.getfield index, 3)) (kk : W p l e R s m args below meth c H locs 0 0 Q (F0 m (pc + 3) ls (.ref (ad 1) :: rest))) : W p l e R s m args below meth c H locs 0 0 Q (F0 m pc ls (.ref (ad 2) :: rest)) := k_get C hK.1 I inT5 2 5 0 (xw_2 (cI := cI) (ad := ad) (cC := cC) (cS := cS)) rfl (by decide) rfl hl rfl hdg kk
theorem gx_2_1 (C : CallFix p m c cc nL s args TT own) (hK : KX D tys adK adV A s) (I : Iv D (xw cI cC cS ad) S A s H locs) (hl : Cond.fieldLink own index RX5 "told" "[I" ∈ TT) (hdg : decode cc pc = .ok (.getfield index, 3)) (kk : W p l e R s m args below meth c H locs 0 0 Q (F0 m (pc + 3) ls (.ref (ad 12) :: rest))) : W p l e R s m args below meth c H locs 0 0 Q (F0 m pc ls (.ref (ad 2) :: rest)) := k_get C hK.1 I inT5 2 5 1 (xw_2 (cI := cI) (ad := ad) (cC := cC) (cS := cS)) rfl (by decide) rfl hl rfl hdg kk
theorem gx_2_2 (C : CallFix p m c cc nL s args TT own) (hK : KX D tys adK adV A s) (I : Iv D (xw cI cC cS ad) S A s H locs) (hl : Cond.fieldLink own index RX5 "lines" "I" ∈ TT) (hdg : decode cc pc = .ok (.getfield index, 3)) (kk : W p l e R s m args below meth c H locs 0 0 Q (F0 m (pc + 3) ls (.int (S.1 2 2) :: rest))) : W p l e R s m args below meth c H locs 0 0 Q (F0 m pc ls (.ref (ad 2) :: rest)) := k_get C hK.1 I inT5 2 5 2 (xw_2 (cI := cI) (ad := ad) (cC := cC) (cS := cS)) rfl (by decide) rfl hl rfl hdg kk
theorem px_2_2 (C : CallFix p m c cc nL s args TT own) (hK : KX D tys adK adV A s) (I : Iv D (xw cI cC cS ad) S A s H locs) (hl : Cond.fieldLink own index RX5 "lines" "I" ∈ TT) {x : Int32} (hdg : decode cc pc = .ok (.putfield index, 3)) (kk : ∀ S1 : St, S1 = setI S 2 2 x → ∀ (H1 : Heap) (locs1 : List Loc), Iv D (xw cI cC cS ad) S1 A s H1 locs1 → W p l e R s m args below meth c H1 locs1 0 0 Q (F0 m (pc + 3) ls rest)) : W p l e R s m args below meth c H locs 0 0 Q (F0 m pc ls (.int x :: .ref (ad 2) :: rest)) := k_put (S1 := setI S 2 2 x) C hK.1 I inT5 tyX5 tyX5_ok nmX5 2 5 2 (xw_2 (cI := cI) (ad := ad) (cC := cC) (cS := cS)) rfl (by decide) rfl hl rfl rfl rfl (Nat.le_of_ble_eq_true rfl) rfl hdg (kk _ rfl)
theorem gx_2_3 (C : CallFix p m c cc nL s args TT own) (hK : KX D tys adK adV A s) (I : Iv D (xw cI cC cS ad) S A s H locs) (hl : Cond.fieldLink own index RX5 "noted" "I" ∈ TT) (hdg : decode cc pc = .ok (.getfield index, 3)) (kk : W p l e R s m args below meth c H locs 0 0 Q (F0 m (pc + 3) ls (.int (S.1 2 3) :: rest))) : W p l e R s m args below meth c H locs 0 0 Q (F0 m pc ls (.ref (ad 2) :: rest)) := k_get C hK.1 I inT5 2 5 3 (xw_2 (cI := cI) (ad := ad) (cC := cC) (cS := cS)) rfl (by decide) rfl hl rfl hdg kk
theorem px_2_3 (C : CallFix p m c cc nL s args TT own) (hK : KX D tys adK adV A s) (I : Iv D (xw cI cC cS ad) S A s H locs) (hl : Cond.fieldLink own index RX5 "noted" "I" ∈ TT) {x : Int32} (hdg : decode cc pc = .ok (.putfield index, 3)) (kk : ∀ S1 : St, S1 = setI S 2 3 x → ∀ (H1 : Heap) (locs1 : List Loc), Iv D (xw cI cC cS ad) S1 A s H1 locs1 → W p l e R s m args below meth c H1 locs1 0 0 Q (F0 m (pc + 3) ls rest)) : W p l e R s m args below meth c H locs 0 0 Q (F0 m pc ls (.int x :: .ref (ad 2) :: rest)) := k_put (S1 := setI S 2 3 x) C hK.1 I inT5 tyX5 tyX5_ok nmX5 2 5 3 (xw_2 (cI := cI) (ad := ad) (cC := cC) (cS := cS)) rfl (by decide) rfl hl rfl rfl rfl (Nat.le_of_ble_eq_true rfl) rfl hdg (kk _ rfl)
theorem gx_2_4 (C : CallFix p m c cc nL s args TT own) (hK : KX D tys adK adV A s) (I : Iv D (xw cI cC cS ad) S A s H locs) (hl : Cond.fieldLink own index RX5 "from" "I" ∈ TT) (hdg : decode cc pc = .ok (.getfield index, 3)) (kk : W p l e R s m args below meth c H locs 0 0 Q (F0 m (pc + 3) ls (.int (S.1 2 4) :: rest))) : W p l e R s m args below meth c H locs 0 0 Q (F0 m pc ls (.ref (ad 2) :: rest)) := k_get C hK.1 I inT5 2 5 4 (xw_2 (cI := cI) (ad := ad) (cC := cC) (cS := cS)) rfl (by decide) rfl hl rfl hdg kk
theorem px_2_4 (C : CallFix p m c cc nL s args TT own) (hK : KX D tys adK adV A s) (I : Iv D (xw cI cC cS ad) S A s H locs) (hl : Cond.fieldLink own index RX5 "from" "I" ∈ TT) {x : Int32} (hdg : decode cc pc = .ok (.putfield index, 3)) (kk : ∀ S1 : St, S1 = setI S 2 4 x → ∀ (H1 : Heap) (locs1 : List Loc), Iv D (xw cI cC cS ad) S1 A s H1 locs1 → W p l e R s m args below meth c H1 locs1 0 0 Q (F0 m (pc + 3) ls rest)) : W p l e R s m args below meth c H locs 0 0 Q (F0 m pc ls (.int x :: .ref (ad 2) :: rest)) := k_put (S1 := setI S 2 4 x) C hK.1 I inT5 tyX5 tyX5_ok nmX5 2 5 4 (xw_2 (cI := cI) (ad := ad) (cC := cC) (cS := cS)) rfl (by decide) rfl hl rfl rfl rfl (Nat.le_of_ble_eq_true rfl) rfl hdg (kk _ rfl)
theorem gx_2_5 (C : CallFix p m c cc nL s args TT own) (hK : KX D tys adK adV A s) (I : Iv D (xw cI cC cS ad) S A s H locs) (hl : Cond.fieldLink own index RX5 "to" "I" ∈ TT) (hdg : decode cc pc = .ok (.getfield index, 3)) (kk : W p l e R s m args below meth c H locs 0 0 Q (F0 m (pc + 3) ls (.int (S.1 2 5) :: rest))) : W p l e R s m args below meth c H locs 0 0 Q (F0 m pc ls (.ref (ad 2) :: rest)) := k_get C hK.1 I inT5 2 5 5 (xw_2 (cI := cI) (ad := ad) (cC := cC) (cS := cS)) rfl (by decide) rfl hl rfl hdg kk
theorem px_2_5 (C : CallFix p m c cc nL s args TT own) (hK : KX D tys adK adV A s) (I : Iv D (xw cI cC cS ad) S A s H locs) (hl : Cond.fieldLink own index RX5 "to" "I" ∈ TT) {x : Int32} (hdg : decode cc pc = .ok (.putfield index, 3)) (kk : ∀ S1 : St, S1 = setI S 2 5 x → ∀ (H1 : Heap) (locs1 : List Loc), Iv D (xw cI cC cS ad) S1 A s H1 locs1 → W p l e R s m args below meth c H1 locs1 0 0 Q (F0 m (pc + 3) ls rest)) : W p l e R s m args below meth c H locs 0 0 Q (F0 m pc ls (.int x :: .ref (ad 2) :: rest)) := k_put (S1 := setI S 2 5 x) C hK.1 I inT5 tyX5 tyX5_ok nmX5 2 5 5 (xw_2 (cI := cI) (ad := ad) (cC := cC) (cS := cS)) rfl (by decide) rfl hl rfl rfl rfl (Nat.le_of_ble_eq_true rfl) rfl hdg (kk _ rfl)
theorem gx_2_6 (C : CallFix p m c cc nL s args TT own) (hK : KX D tys adK adV A s) (I : Iv D (xw cI cC cS ad) S A s H locs) (hl : Cond.fieldLink own index RX5 "faulty" "Z" ∈ TT) (hdg : decode cc pc = .ok (.getfield index, 3)) (kk : W p l e R s m args below meth c H locs 0 0 Q (F0 m (pc + 3) ls (.int (S.1 2 6) :: rest))) : W p l e R s m args below meth c H locs 0 0 Q (F0 m pc ls (.ref (ad 2) :: rest)) := k_get C hK.1 I inT5 2 5 6 (xw_2 (cI := cI) (ad := ad) (cC := cC) (cS := cS)) rfl (by decide) rfl hl rfl hdg kk
theorem px_2_6 (C : CallFix p m c cc nL s args TT own) (hK : KX D tys adK adV A s) (I : Iv D (xw cI cC cS ad) S A s H locs) (hl : Cond.fieldLink own index RX5 "faulty" "Z" ∈ TT) {x : Int32} (hz : zb x) (hdg : decode cc pc = .ok (.putfield index, 3)) (kk : ∀ S1 : St, S1 = setI S 2 6 x → ∀ (H1 : Heap) (locs1 : List Loc), Iv D (xw cI cC cS ad) S1 A s H1 locs1 → W p l e R s m args below meth c H1 locs1 0 0 Q (F0 m (pc + 3) ls rest)) : W p l e R s m args below meth c H locs 0 0 Q (F0 m pc ls (.int x :: .ref (ad 2) :: rest)) := k_put (S1 := setI S 2 6 x) C hK.1 I inT5 tyX5 tyX5_ok nmX5 2 5 6 (xw_2 (cI := cI) (ad := ad) (cC := cC) (cS := cS)) rfl (by decide) rfl hl rfl (zb_n hz) (zb_f hz) (Nat.le_of_ble_eq_true rfl) rfl hdg (kk _ rfl)
theorem xw_3 : (xw cI cC cS ad S)[3]? = some (ad 3, .inr (4, [.ref (ad 13), .ref (ad 14), .ref (ad 15), .ref (ad 9), .int (S.1 3 4), .int (S.1 3 5), .int (S.1 3 6), .int (S.1 3 7)])) := rfl
theorem gx_3_0 (C : CallFix p m c cc nL s args TT own) (hK : KX D tys adK adV A s) (I : Iv D (xw cI cC cS ad) S A s H locs) (hl : Cond.fieldLink own index RX4 "weights" "[I" ∈ TT) (hdg : decode cc pc = .ok (.getfield index, 3)) (kk : W p l e R s m args below meth c H locs 0 0 Q (F0 m (pc + 3) ls (.ref (ad 13) :: rest))) : W p l e R s m args below meth c H locs 0 0 Q (F0 m pc ls (.ref (ad 3) :: rest)) := k_get C hK.1 I inT4 3 4 0 (xw_3 (cI := cI) (ad := ad) (cC := cC) (cS := cS)) rfl (by decide) rfl hl rfl hdg kk
theorem gx_3_1 (C : CallFix p m c cc nL s args TT own) (hK : KX D tys adK adV A s) (I : Iv D (xw cI cC cS ad) S A s H locs) (hl : Cond.fieldLink own index RX4 "prices" "[I" ∈ TT) (hdg : decode cc pc = .ok (.getfield index, 3)) (kk : W p l e R s m args below meth c H locs 0 0 Q (F0 m (pc + 3) ls (.ref (ad 14) :: rest))) : W p l e R s m args below meth c H locs 0 0 Q (F0 m pc ls (.ref (ad 3) :: rest)) := k_get C hK.1 I inT4 3 4 1 (xw_3 (cI := cI) (ad := ad) (cC := cC) (cS := cS)) rfl (by decide) rfl hl rfl hdg kk
theorem gx_3_2 (C : CallFix p m c cc nL s args TT own) (hK : KX D tys adK adV A s) (I : Iv D (xw cI cC cS ad) S A s H locs) (hl : Cond.fieldLink own index RX4 "ways" "[I" ∈ TT) (hdg : decode cc pc = .ok (.getfield index, 3)) (kk : W p l e R s m args below meth c H locs 0 0 Q (F0 m (pc + 3) ls (.ref (ad 15) :: rest))) : W p l e R s m args below meth c H locs 0 0 Q (F0 m pc ls (.ref (ad 3) :: rest)) := k_get C hK.1 I inT4 3 4 2 (xw_3 (cI := cI) (ad := ad) (cC := cC) (cS := cS)) rfl (by decide) rfl hl rfl hdg kk
theorem gx_3_3 (C : CallFix p m c cc nL s args TT own) (hK : KX D tys adK adV A s) (I : Iv D (xw cI cC cS ad) S A s H locs) (hl : Cond.fieldLink own index RX4 "calls" "[LCarryUp$Call;" ∈ TT) (hdg : decode cc pc = .ok (.getfield index, 3)) (kk : W p l e R s m args below meth c H locs 0 0 Q (F0 m (pc + 3) ls (.ref (ad 9) :: rest))) : W p l e R s m args below meth c H locs 0 0 Q (F0 m pc ls (.ref (ad 3) :: rest)) := k_get C hK.1 I inT4 3 4 3 (xw_3 (cI := cI) (ad := ad) (cC := cC) (cS := cS)) rfl (by decide) rfl hl rfl hdg kk
theorem gx_3_4 (C : CallFix p m c cc nL s args TT own) (hK : KX D tys adK adV A s) (I : Iv D (xw cI cC cS ad) S A s H locs) (hl : Cond.fieldLink own index RX4 "tools" "I" ∈ TT) (hdg : decode cc pc = .ok (.getfield index, 3)) (kk : W p l e R s m args below meth c H locs 0 0 Q (F0 m (pc + 3) ls (.int (S.1 3 4) :: rest))) : W p l e R s m args below meth c H locs 0 0 Q (F0 m pc ls (.ref (ad 3) :: rest)) := k_get C hK.1 I inT4 3 4 4 (xw_3 (cI := cI) (ad := ad) (cC := cC) (cS := cS)) rfl (by decide) rfl hl rfl hdg kk
theorem px_3_4 (C : CallFix p m c cc nL s args TT own) (hK : KX D tys adK adV A s) (I : Iv D (xw cI cC cS ad) S A s H locs) (hl : Cond.fieldLink own index RX4 "tools" "I" ∈ TT) {x : Int32} (hdg : decode cc pc = .ok (.putfield index, 3)) (kk : ∀ S1 : St, S1 = setI S 3 4 x → ∀ (H1 : Heap) (locs1 : List Loc), Iv D (xw cI cC cS ad) S1 A s H1 locs1 → W p l e R s m args below meth c H1 locs1 0 0 Q (F0 m (pc + 3) ls rest)) : W p l e R s m args below meth c H locs 0 0 Q (F0 m pc ls (.int x :: .ref (ad 3) :: rest)) := k_put (S1 := setI S 3 4 x) C hK.1 I inT4 tyX4 tyX4_ok nmX4 3 4 4 (xw_3 (cI := cI) (ad := ad) (cC := cC) (cS := cS)) rfl (by decide) rfl hl rfl rfl rfl (Nat.le_of_ble_eq_true rfl) rfl hdg (kk _ rfl)
theorem gx_3_5 (C : CallFix p m c cc nL s args TT own) (hK : KX D tys adK adV A s) (I : Iv D (xw cI cC cS ad) S A s H locs) (hl : Cond.fieldLink own index RX4 "load" "I" ∈ TT) (hdg : decode cc pc = .ok (.getfield index, 3)) (kk : W p l e R s m args below meth c H locs 0 0 Q (F0 m (pc + 3) ls (.int (S.1 3 5) :: rest))) : W p l e R s m args below meth c H locs 0 0 Q (F0 m pc ls (.ref (ad 3) :: rest)) := k_get C hK.1 I inT4 3 4 5 (xw_3 (cI := cI) (ad := ad) (cC := cC) (cS := cS)) rfl (by decide) rfl hl rfl hdg kk
theorem px_3_5 (C : CallFix p m c cc nL s args TT own) (hK : KX D tys adK adV A s) (I : Iv D (xw cI cC cS ad) S A s H locs) (hl : Cond.fieldLink own index RX4 "load" "I" ∈ TT) {x : Int32} (hdg : decode cc pc = .ok (.putfield index, 3)) (kk : ∀ S1 : St, S1 = setI S 3 5 x → ∀ (H1 : Heap) (locs1 : List Loc), Iv D (xw cI cC cS ad) S1 A s H1 locs1 → W p l e R s m args below meth c H1 locs1 0 0 Q (F0 m (pc + 3) ls rest)) : W p l e R s m args below meth c H locs 0 0 Q (F0 m pc ls (.int x :: .ref (ad 3) :: rest)) := k_put (S1 := setI S 3 5 x) C hK.1 I inT4 tyX4 tyX4_ok nmX4 3 4 5 (xw_3 (cI := cI) (ad := ad) (cC := cC) (cS := cS)) rfl (by decide) rfl hl rfl rfl rfl (Nat.le_of_ble_eq_true rfl) rfl hdg (kk _ rfl)
theorem gx_3_6 (C : CallFix p m c cc nL s args TT own) (hK : KX D tys adK adV A s) (I : Iv D (xw cI cC cS ad) S A s H locs) (hl : Cond.fieldLink own index RX4 "purse" "I" ∈ TT) (hdg : decode cc pc = .ok (.getfield index, 3)) (kk : W p l e R s m args below meth c H locs 0 0 Q (F0 m (pc + 3) ls (.int (S.1 3 6) :: rest))) : W p l e R s m args below meth c H locs 0 0 Q (F0 m pc ls (.ref (ad 3) :: rest)) := k_get C hK.1 I inT4 3 4 6 (xw_3 (cI := cI) (ad := ad) (cC := cC) (cS := cS)) rfl (by decide) rfl hl rfl hdg kk
theorem px_3_6 (C : CallFix p m c cc nL s args TT own) (hK : KX D tys adK adV A s) (I : Iv D (xw cI cC cS ad) S A s H locs) (hl : Cond.fieldLink own index RX4 "purse" "I" ∈ TT) {x : Int32} (hdg : decode cc pc = .ok (.putfield index, 3)) (kk : ∀ S1 : St, S1 = setI S 3 6 x → ∀ (H1 : Heap) (locs1 : List Loc), Iv D (xw cI cC cS ad) S1 A s H1 locs1 → W p l e R s m args below meth c H1 locs1 0 0 Q (F0 m (pc + 3) ls rest)) : W p l e R s m args below meth c H locs 0 0 Q (F0 m pc ls (.int x :: .ref (ad 3) :: rest)) := k_put (S1 := setI S 3 6 x) C hK.1 I inT4 tyX4 tyX4_ok nmX4 3 4 6 (xw_3 (cI := cI) (ad := ad) (cC := cC) (cS := cS)) rfl (by decide) rfl hl rfl rfl rfl (Nat.le_of_ble_eq_true rfl) rfl hdg (kk _ rfl)
theorem gx_3_7 (C : CallFix p m c cc nL s args TT own) (hK : KX D tys adK adV A s) (I : Iv D (xw cI cC cS ad) S A s H locs) (hl : Cond.fieldLink own index RX4 "begin" "I" ∈ TT) (hdg : decode cc pc = .ok (.getfield index, 3)) (kk : W p l e R s m args below meth c H locs 0 0 Q (F0 m (pc + 3) ls (.int (S.1 3 7) :: rest))) : W p l e R s m args below meth c H locs 0 0 Q (F0 m pc ls (.ref (ad 3) :: rest)) := k_get C hK.1 I inT4 3 4 7 (xw_3 (cI := cI) (ad := ad) (cC := cC) (cS := cS)) rfl (by decide) rfl hl rfl hdg kk
theorem px_3_7 (C : CallFix p m c cc nL s args TT own) (hK : KX D tys adK adV A s) (I : Iv D (xw cI cC cS ad) S A s H locs) (hl : Cond.fieldLink own index RX4 "begin" "I" ∈ TT) {x : Int32} (hdg : decode cc pc = .ok (.putfield index, 3)) (kk : ∀ S1 : St, S1 = setI S 3 7 x → ∀ (H1 : Heap) (locs1 : List Loc), Iv D (xw cI cC cS ad) S1 A s H1 locs1 → W p l e R s m args below meth c H1 locs1 0 0 Q (F0 m (pc + 3) ls rest)) : W p l e R s m args below meth c H locs 0 0 Q (F0 m pc ls (.int x :: .ref (ad 3) :: rest)) := k_put (S1 := setI S 3 7 x) C hK.1 I inT4 tyX4 tyX4_ok nmX4 3 4 7 (xw_3 (cI := cI) (ad := ad) (cC := cC) (cS := cS)) rfl (by decide) rfl hl rfl rfl rfl (Nat.le_of_ble_eq_true rfl) rfl hdg (kk _ rfl)
theorem xw_4 : (xw cI cC cS ad S)[4]? = some (ad 4, .inr (6, [.ref (ad 3), .ref (ad 16), .ref (ad 17), .ref (ad 10), .int (S.1 4 4), .int (S.1 4 5), .int (S.1 4 6)])) := rfl
theorem gx_4_0 (C : CallFix p m c cc nL s args TT own) (hK : KX D tys adK adV A s) (I : Iv D (xw cI cC cS ad) S A s H locs) (hl : Cond.fieldLink own index RX6 "plan" "LCarryUp$Plan;" ∈ TT) (hdg : decode cc pc = .ok (.getfield index, 3)) (kk : W p l e R s m args below meth c H locs 0 0 Q (F0 m (pc + 3) ls (.ref (ad 3) :: rest))) : W p l e R s m args below meth c H locs 0 0 Q (F0 m pc ls (.ref (ad 4) :: rest)) := k_get C hK.1 I inT6 4 6 0 (xw_4 (cI := cI) (ad := ad) (cC := cC) (cS := cS)) rfl (by decide) rfl hl rfl hdg kk
theorem gx_4_1 (C : CallFix p m c cc nL s args TT own) (hK : KX D tys adK adV A s) (I : Iv D (xw cI cC cS ad) S A s H locs) (hl : Cond.fieldLink own index RX6 "stops" "[I" ∈ TT) (hdg : decode cc pc = .ok (.getfield index, 3)) (kk : W p l e R s m args below meth c H locs 0 0 Q (F0 m (pc + 3) ls (.ref (ad 16) :: rest))) : W p l e R s m args below meth c H locs 0 0 Q (F0 m pc ls (.ref (ad 4) :: rest)) := k_get C hK.1 I inT6 4 6 1 (xw_4 (cI := cI) (ad := ad) (cC := cC) (cS := cS)) rfl (by decide) rfl hl rfl hdg kk
theorem gx_4_2 (C : CallFix p m c cc nL s args TT own) (hK : KX D tys adK adV A s) (I : Iv D (xw cI cC cS ad) S A s H locs) (hl : Cond.fieldLink own index RX6 "ways" "[I" ∈ TT) (hdg : decode cc pc = .ok (.getfield index, 3)) (kk : W p l e R s m args below meth c H locs 0 0 Q (F0 m (pc + 3) ls (.ref (ad 17) :: rest))) : W p l e R s m args below meth c H locs 0 0 Q (F0 m pc ls (.ref (ad 4) :: rest)) := k_get C hK.1 I inT6 4 6 2 (xw_4 (cI := cI) (ad := ad) (cC := cC) (cS := cS)) rfl (by decide) rfl hl rfl hdg kk
theorem gx_4_3 (C : CallFix p m c cc nL s args TT own) (hK : KX D tys adK adV A s) (I : Iv D (xw cI cC cS ad) S A s H locs) (hl : Cond.fieldLink own index RX6 "calls" "[LCarryUp$Call;" ∈ TT) (hdg : decode cc pc = .ok (.getfield index, 3)) (kk : W p l e R s m args below meth c H locs 0 0 Q (F0 m (pc + 3) ls (.ref (ad 10) :: rest))) : W p l e R s m args below meth c H locs 0 0 Q (F0 m pc ls (.ref (ad 4) :: rest)) := k_get C hK.1 I inT6 4 6 3 (xw_4 (cI := cI) (ad := ad) (cC := cC) (cS := cS)) rfl (by decide) rfl hl rfl hdg kk
theorem gx_4_4 (C : CallFix p m c cc nL s args TT own) (hK : KX D tys adK adV A s) (I : Iv D (xw cI cC cS ad) S A s H locs) (hl : Cond.fieldLink own index RX6 "length" "I" ∈ TT) (hdg : decode cc pc = .ok (.getfield index, 3)) (kk : W p l e R s m args below meth c H locs 0 0 Q (F0 m (pc + 3) ls (.int (S.1 4 4) :: rest))) : W p l e R s m args below meth c H locs 0 0 Q (F0 m pc ls (.ref (ad 4) :: rest)) := k_get C hK.1 I inT6 4 6 4 (xw_4 (cI := cI) (ad := ad) (cC := cC) (cS := cS)) rfl (by decide) rfl hl rfl hdg kk
theorem px_4_4 (C : CallFix p m c cc nL s args TT own) (hK : KX D tys adK adV A s) (I : Iv D (xw cI cC cS ad) S A s H locs) (hl : Cond.fieldLink own index RX6 "length" "I" ∈ TT) {x : Int32} (hdg : decode cc pc = .ok (.putfield index, 3)) (kk : ∀ S1 : St, S1 = setI S 4 4 x → ∀ (H1 : Heap) (locs1 : List Loc), Iv D (xw cI cC cS ad) S1 A s H1 locs1 → W p l e R s m args below meth c H1 locs1 0 0 Q (F0 m (pc + 3) ls rest)) : W p l e R s m args below meth c H locs 0 0 Q (F0 m pc ls (.int x :: .ref (ad 4) :: rest)) := k_put (S1 := setI S 4 4 x) C hK.1 I inT6 tyX6 tyX6_ok nmX6 4 6 4 (xw_4 (cI := cI) (ad := ad) (cC := cC) (cS := cS)) rfl (by decide) rfl hl rfl rfl rfl (Nat.le_of_ble_eq_true rfl) rfl hdg (kk _ rfl)
theorem gx_4_5 (C : CallFix p m c cc nL s args TT own) (hK : KX D tys adK adV A s) (I : Iv D (xw cI cC cS ad) S A s H locs) (hl : Cond.fieldLink own index RX6 "knownCall" "I" ∈ TT) (hdg : decode cc pc = .ok (.getfield index, 3)) (kk : W p l e R s m args below meth c H locs 0 0 Q (F0 m (pc + 3) ls (.int (S.1 4 5) :: rest))) : W p l e R s m args below meth c H locs 0 0 Q (F0 m pc ls (.ref (ad 4) :: rest)) := k_get C hK.1 I inT6 4 6 5 (xw_4 (cI := cI) (ad := ad) (cC := cC) (cS := cS)) rfl (by decide) rfl hl rfl hdg kk
theorem px_4_5 (C : CallFix p m c cc nL s args TT own) (hK : KX D tys adK adV A s) (I : Iv D (xw cI cC cS ad) S A s H locs) (hl : Cond.fieldLink own index RX6 "knownCall" "I" ∈ TT) {x : Int32} (hdg : decode cc pc = .ok (.putfield index, 3)) (kk : ∀ S1 : St, S1 = setI S 4 5 x → ∀ (H1 : Heap) (locs1 : List Loc), Iv D (xw cI cC cS ad) S1 A s H1 locs1 → W p l e R s m args below meth c H1 locs1 0 0 Q (F0 m (pc + 3) ls rest)) : W p l e R s m args below meth c H locs 0 0 Q (F0 m pc ls (.int x :: .ref (ad 4) :: rest)) := k_put (S1 := setI S 4 5 x) C hK.1 I inT6 tyX6 tyX6_ok nmX6 4 6 5 (xw_4 (cI := cI) (ad := ad) (cC := cC) (cS := cS)) rfl (by decide) rfl hl rfl rfl rfl (Nat.le_of_ble_eq_true rfl) rfl hdg (kk _ rfl)
theorem gx_4_6 (C : CallFix p m c cc nL s args TT own) (hK : KX D tys adK adV A s) (I : Iv D (xw cI cC cS ad) S A s H locs) (hl : Cond.fieldLink own index RX6 "knownSort" "I" ∈ TT) (hdg : decode cc pc = .ok (.getfield index, 3)) (kk : W p l e R s m args below meth c H locs 0 0 Q (F0 m (pc + 3) ls (.int (S.1 4 6) :: rest))) : W p l e R s m args below meth c H locs 0 0 Q (F0 m pc ls (.ref (ad 4) :: rest)) := k_get C hK.1 I inT6 4 6 6 (xw_4 (cI := cI) (ad := ad) (cC := cC) (cS := cS)) rfl (by decide) rfl hl rfl hdg kk
theorem px_4_6 (C : CallFix p m c cc nL s args TT own) (hK : KX D tys adK adV A s) (I : Iv D (xw cI cC cS ad) S A s H locs) (hl : Cond.fieldLink own index RX6 "knownSort" "I" ∈ TT) {x : Int32} (hdg : decode cc pc = .ok (.putfield index, 3)) (kk : ∀ S1 : St, S1 = setI S 4 6 x → ∀ (H1 : Heap) (locs1 : List Loc), Iv D (xw cI cC cS ad) S1 A s H1 locs1 → W p l e R s m args below meth c H1 locs1 0 0 Q (F0 m (pc + 3) ls rest)) : W p l e R s m args below meth c H locs 0 0 Q (F0 m pc ls (.int x :: .ref (ad 4) :: rest)) := k_put (S1 := setI S 4 6 x) C hK.1 I inT6 tyX6 tyX6_ok nmX6 4 6 6 (xw_4 (cI := cI) (ad := ad) (cC := cC) (cS := cS)) rfl (by decide) rfl hl rfl rfl rfl (Nat.le_of_ble_eq_true rfl) rfl hdg (kk _ rfl)
theorem xw_5 : (xw cI cC cS ad S)[5]? = some (ad 5, .inr (9, [.ref (ad 3), .ref (ad 4), .int (S.1 5 2), .long (S.2.1 5 3), .long (S.2.1 5 4), .long (S.2.1 5 5), .int (S.1 5 6), .int (S.1 5 7), .int (S.1 5 8)])) := rfl
theorem gx_5_0 (C : CallFix p m c cc nL s args TT own) (hK : KX D tys adK adV A s) (I : Iv D (xw cI cC cS ad) S A s H locs) (hl : Cond.fieldLink own index RX9 "plan" "LCarryUp$Plan;" ∈ TT) (hdg : decode cc pc = .ok (.getfield index, 3)) (kk : W p l e R s m args below meth c H locs 0 0 Q (F0 m (pc + 3) ls (.ref (ad 3) :: rest))) : W p l e R s m args below meth c H locs 0 0 Q (F0 m pc ls (.ref (ad 5) :: rest)) := k_get C hK.1 I inT9 5 9 0 (xw_5 (cI := cI) (ad := ad) (cC := cC) (cS := cS)) rfl (by decide) rfl hl rfl hdg kk
theorem gx_5_1 (C : CallFix p m c cc nL s args TT own) (hK : KX D tys adK adV A s) (I : Iv D (xw cI cC cS ad) S A s H locs) (hl : Cond.fieldLink own index RX9 "row" "LCarryUp$Row;" ∈ TT) (hdg : decode cc pc = .ok (.getfield index, 3)) (kk : W p l e R s m args below meth c H locs 0 0 Q (F0 m (pc + 3) ls (.ref (ad 4) :: rest))) : W p l e R s m args below meth c H locs 0 0 Q (F0 m pc ls (.ref (ad 5) :: rest)) := k_get C hK.1 I inT9 5 9 1 (xw_5 (cI := cI) (ad := ad) (cC := cC) (cS := cS)) rfl (by decide) rfl hl rfl hdg kk
theorem gx_5_2 (C : CallFix p m c cc nL s args TT own) (hK : KX D tys adK adV A s) (I : Iv D (xw cI cC cS ad) S A s H locs) (hl : Cond.fieldLink own index RX9 "full" "I" ∈ TT) (hdg : decode cc pc = .ok (.getfield index, 3)) (kk : W p l e R s m args below meth c H locs 0 0 Q (F0 m (pc + 3) ls (.int (S.1 5 2) :: rest))) : W p l e R s m args below meth c H locs 0 0 Q (F0 m pc ls (.ref (ad 5) :: rest)) := k_get C hK.1 I inT9 5 9 2 (xw_5 (cI := cI) (ad := ad) (cC := cC) (cS := cS)) rfl (by decide) rfl hl rfl hdg kk
theorem px_5_2 (C : CallFix p m c cc nL s args TT own) (hK : KX D tys adK adV A s) (I : Iv D (xw cI cC cS ad) S A s H locs) (hl : Cond.fieldLink own index RX9 "full" "I" ∈ TT) {x : Int32} (hdg : decode cc pc = .ok (.putfield index, 3)) (kk : ∀ S1 : St, S1 = setI S 5 2 x → ∀ (H1 : Heap) (locs1 : List Loc), Iv D (xw cI cC cS ad) S1 A s H1 locs1 → W p l e R s m args below meth c H1 locs1 0 0 Q (F0 m (pc + 3) ls rest)) : W p l e R s m args below meth c H locs 0 0 Q (F0 m pc ls (.int x :: .ref (ad 5) :: rest)) := k_put (S1 := setI S 5 2 x) C hK.1 I inT9 tyX9 tyX9_ok nmX9 5 9 2 (xw_5 (cI := cI) (ad := ad) (cC := cC) (cS := cS)) rfl (by decide) rfl hl rfl rfl rfl (Nat.le_of_ble_eq_true rfl) rfl hdg (kk _ rfl)
theorem gx_5_3 (C : CallFix p m c cc nL s args TT own) (hK : KX D tys adK adV A s) (I : Iv D (xw cI cC cS ad) S A s H locs) (hl : Cond.fieldLink own index RX9 "sum" "J" ∈ TT) (hdg : decode cc pc = .ok (.getfield index, 3)) (kk : W p l e R s m args below meth c H locs 0 0 Q (F0 m (pc + 3) ls (.long (S.2.1 5 3) :: rest))) : W p l e R s m args below meth c H locs 0 0 Q (F0 m pc ls (.ref (ad 5) :: rest)) := k_get C hK.1 I inT9 5 9 3 (xw_5 (cI := cI) (ad := ad) (cC := cC) (cS := cS)) rfl (by decide) rfl hl rfl hdg kk
theorem px_5_3 (C : CallFix p m c cc nL s args TT own) (hK : KX D tys adK adV A s) (I : Iv D (xw cI cC cS ad) S A s H locs) (hl : Cond.fieldLink own index RX9 "sum" "J" ∈ TT) {x : Int64} (hdg : decode cc pc = .ok (.putfield index, 3)) (kk : ∀ S1 : St, S1 = setL S 5 3 x → ∀ (H1 : Heap) (locs1 : List Loc), Iv D (xw cI cC cS ad) S1 A s H1 locs1 → W p l e R s m args below meth c H1 locs1 0 0 Q (F0 m (pc + 3) ls rest)) : W p l e R s m args below meth c H locs 0 0 Q (F0 m pc ls (.long x :: .ref (ad 5) :: rest)) := k_put (S1 := setL S 5 3 x) C hK.1 I inT9 tyX9 tyX9_ok nmX9 5 9 3 (xw_5 (cI := cI) (ad := ad) (cC := cC) (cS := cS)) rfl (by decide) rfl hl rfl rfl rfl (Nat.le_of_ble_eq_true rfl) rfl hdg (kk _ rfl)
theorem gx_5_4 (C : CallFix p m c cc nL s args TT own) (hK : KX D tys adK adV A s) (I : Iv D (xw cI cC cS ad) S A s H locs) (hl : Cond.fieldLink own index RX9 "allDone" "J" ∈ TT) (hdg : decode cc pc = .ok (.getfield index, 3)) (kk : W p l e R s m args below meth c H locs 0 0 Q (F0 m (pc + 3) ls (.long (S.2.1 5 4) :: rest))) : W p l e R s m args below meth c H locs 0 0 Q (F0 m pc ls (.ref (ad 5) :: rest)) := k_get C hK.1 I inT9 5 9 4 (xw_5 (cI := cI) (ad := ad) (cC := cC) (cS := cS)) rfl (by decide) rfl hl rfl hdg kk
theorem px_5_4 (C : CallFix p m c cc nL s args TT own) (hK : KX D tys adK adV A s) (I : Iv D (xw cI cC cS ad) S A s H locs) (hl : Cond.fieldLink own index RX9 "allDone" "J" ∈ TT) {x : Int64} (hdg : decode cc pc = .ok (.putfield index, 3)) (kk : ∀ S1 : St, S1 = setL S 5 4 x → ∀ (H1 : Heap) (locs1 : List Loc), Iv D (xw cI cC cS ad) S1 A s H1 locs1 → W p l e R s m args below meth c H1 locs1 0 0 Q (F0 m (pc + 3) ls rest)) : W p l e R s m args below meth c H locs 0 0 Q (F0 m pc ls (.long x :: .ref (ad 5) :: rest)) := k_put (S1 := setL S 5 4 x) C hK.1 I inT9 tyX9 tyX9_ok nmX9 5 9 4 (xw_5 (cI := cI) (ad := ad) (cC := cC) (cS := cS)) rfl (by decide) rfl hl rfl rfl rfl (Nat.le_of_ble_eq_true rfl) rfl hdg (kk _ rfl)
theorem gx_5_5 (C : CallFix p m c cc nL s args TT own) (hK : KX D tys adK adV A s) (I : Iv D (xw cI cC cS ad) S A s H locs) (hl : Cond.fieldLink own index RX9 "scale" "J" ∈ TT) (hdg : decode cc pc = .ok (.getfield index, 3)) (kk : W p l e R s m args below meth c H locs 0 0 Q (F0 m (pc + 3) ls (.long (S.2.1 5 5) :: rest))) : W p l e R s m args below meth c H locs 0 0 Q (F0 m pc ls (.ref (ad 5) :: rest)) := k_get C hK.1 I inT9 5 9 5 (xw_5 (cI := cI) (ad := ad) (cC := cC) (cS := cS)) rfl (by decide) rfl hl rfl hdg kk
theorem px_5_5 (C : CallFix p m c cc nL s args TT own) (hK : KX D tys adK adV A s) (I : Iv D (xw cI cC cS ad) S A s H locs) (hl : Cond.fieldLink own index RX9 "scale" "J" ∈ TT) {x : Int64} (hdg : decode cc pc = .ok (.putfield index, 3)) (kk : ∀ S1 : St, S1 = setL S 5 5 x → ∀ (H1 : Heap) (locs1 : List Loc), Iv D (xw cI cC cS ad) S1 A s H1 locs1 → W p l e R s m args below meth c H1 locs1 0 0 Q (F0 m (pc + 3) ls rest)) : W p l e R s m args below meth c H locs 0 0 Q (F0 m pc ls (.long x :: .ref (ad 5) :: rest)) := k_put (S1 := setL S 5 5 x) C hK.1 I inT9 tyX9 tyX9_ok nmX9 5 9 5 (xw_5 (cI := cI) (ad := ad) (cC := cC) (cS := cS)) rfl (by decide) rfl hl rfl rfl rfl (Nat.le_of_ble_eq_true rfl) rfl hdg (kk _ rfl)
theorem gx_5_6 (C : CallFix p m c cc nL s args TT own) (hK : KX D tys adK adV A s) (I : Iv D (xw cI cC cS ad) S A s H locs) (hl : Cond.fieldLink own index RX9 "latest" "I" ∈ TT) (hdg : decode cc pc = .ok (.getfield index, 3)) (kk : W p l e R s m args below meth c H locs 0 0 Q (F0 m (pc + 3) ls (.int (S.1 5 6) :: rest))) : W p l e R s m args below meth c H locs 0 0 Q (F0 m pc ls (.ref (ad 5) :: rest)) := k_get C hK.1 I inT9 5 9 6 (xw_5 (cI := cI) (ad := ad) (cC := cC) (cS := cS)) rfl (by decide) rfl hl rfl hdg kk
theorem px_5_6 (C : CallFix p m c cc nL s args TT own) (hK : KX D tys adK adV A s) (I : Iv D (xw cI cC cS ad) S A s H locs) (hl : Cond.fieldLink own index RX9 "latest" "I" ∈ TT) {x : Int32} (hdg : decode cc pc = .ok (.putfield index, 3)) (kk : ∀ S1 : St, S1 = setI S 5 6 x → ∀ (H1 : Heap) (locs1 : List Loc), Iv D (xw cI cC cS ad) S1 A s H1 locs1 → W p l e R s m args below meth c H1 locs1 0 0 Q (F0 m (pc + 3) ls rest)) : W p l e R s m args below meth c H locs 0 0 Q (F0 m pc ls (.int x :: .ref (ad 5) :: rest)) := k_put (S1 := setI S 5 6 x) C hK.1 I inT9 tyX9 tyX9_ok nmX9 5 9 6 (xw_5 (cI := cI) (ad := ad) (cC := cC) (cS := cS)) rfl (by decide) rfl hl rfl rfl rfl (Nat.le_of_ble_eq_true rfl) rfl hdg (kk _ rfl)
theorem gx_5_7 (C : CallFix p m c cc nL s args TT own) (hK : KX D tys adK adV A s) (I : Iv D (xw cI cC cS ad) S A s H locs) (hl : Cond.fieldLink own index RX9 "doneBits" "I" ∈ TT) (hdg : decode cc pc = .ok (.getfield index, 3)) (kk : W p l e R s m args below meth c H locs 0 0 Q (F0 m (pc + 3) ls (.int (S.1 5 7) :: rest))) : W p l e R s m args below meth c H locs 0 0 Q (F0 m pc ls (.ref (ad 5) :: rest)) := k_get C hK.1 I inT9 5 9 7 (xw_5 (cI := cI) (ad := ad) (cC := cC) (cS := cS)) rfl (by decide) rfl hl rfl hdg kk
theorem px_5_7 (C : CallFix p m c cc nL s args TT own) (hK : KX D tys adK adV A s) (I : Iv D (xw cI cC cS ad) S A s H locs) (hl : Cond.fieldLink own index RX9 "doneBits" "I" ∈ TT) {x : Int32} (hdg : decode cc pc = .ok (.putfield index, 3)) (kk : ∀ S1 : St, S1 = setI S 5 7 x → ∀ (H1 : Heap) (locs1 : List Loc), Iv D (xw cI cC cS ad) S1 A s H1 locs1 → W p l e R s m args below meth c H1 locs1 0 0 Q (F0 m (pc + 3) ls rest)) : W p l e R s m args below meth c H locs 0 0 Q (F0 m pc ls (.int x :: .ref (ad 5) :: rest)) := k_put (S1 := setI S 5 7 x) C hK.1 I inT9 tyX9 tyX9_ok nmX9 5 9 7 (xw_5 (cI := cI) (ad := ad) (cC := cC) (cS := cS)) rfl (by decide) rfl hl rfl rfl rfl (Nat.le_of_ble_eq_true rfl) rfl hdg (kk _ rfl)
theorem gx_5_8 (C : CallFix p m c cc nL s args TT own) (hK : KX D tys adK adV A s) (I : Iv D (xw cI cC cS ad) S A s H locs) (hl : Cond.fieldLink own index RX9 "bagLeft" "I" ∈ TT) (hdg : decode cc pc = .ok (.getfield index, 3)) (kk : W p l e R s m args below meth c H locs 0 0 Q (F0 m (pc + 3) ls (.int (S.1 5 8) :: rest))) : W p l e R s m args below meth c H locs 0 0 Q (F0 m pc ls (.ref (ad 5) :: rest)) := k_get C hK.1 I inT9 5 9 8 (xw_5 (cI := cI) (ad := ad) (cC := cC) (cS := cS)) rfl (by decide) rfl hl rfl hdg kk
theorem px_5_8 (C : CallFix p m c cc nL s args TT own) (hK : KX D tys adK adV A s) (I : Iv D (xw cI cC cS ad) S A s H locs) (hl : Cond.fieldLink own index RX9 "bagLeft" "I" ∈ TT) {x : Int32} (hdg : decode cc pc = .ok (.putfield index, 3)) (kk : ∀ S1 : St, S1 = setI S 5 8 x → ∀ (H1 : Heap) (locs1 : List Loc), Iv D (xw cI cC cS ad) S1 A s H1 locs1 → W p l e R s m args below meth c H1 locs1 0 0 Q (F0 m (pc + 3) ls rest)) : W p l e R s m args below meth c H locs 0 0 Q (F0 m pc ls (.int x :: .ref (ad 5) :: rest)) := k_put (S1 := setI S 5 8 x) C hK.1 I inT9 tyX9 tyX9_ok nmX9 5 9 8 (xw_5 (cI := cI) (ad := ad) (cC := cC) (cS := cS)) rfl (by decide) rfl hl rfl rfl rfl (Nat.le_of_ble_eq_true rfl) rfl hdg (kk _ rfl)
theorem xw_6 : (xw cI cC cS ad S)[6]? = some (ad 6, .inr (2, [.ref (ad 3), .ref (ad 4), .ref (ad 5), .int (S.1 6 3), .int (S.1 6 4), .long (S.2.1 6 5), .long (S.2.1 6 6)])) := rfl
theorem gx_6_0 (C : CallFix p m c cc nL s args TT own) (hK : KX D tys adK adV A s) (I : Iv D (xw cI cC cS ad) S A s H locs) (hl : Cond.fieldLink own index RX2 "plan" "LCarryUp$Plan;" ∈ TT) (hdg : decode cc pc = .ok (.getfield index, 3)) (kk : W p l e R s m args below meth c H locs 0 0 Q (F0 m (pc + 3) ls (.ref (ad 3) :: rest))) : W p l e R s m args below meth c H locs 0 0 Q (F0 m pc ls (.ref (ad 6) :: rest)) := k_get C hK.1 I inT2 6 2 0 (xw_6 (cI := cI) (ad := ad) (cC := cC) (cS := cS)) rfl (by decide) rfl hl rfl hdg kk
theorem gx_6_1 (C : CallFix p m c cc nL s args TT own) (hK : KX D tys adK adV A s) (I : Iv D (xw cI cC cS ad) S A s H locs) (hl : Cond.fieldLink own index RX2 "rows" "LCarryUp$Row;" ∈ TT) (hdg : decode cc pc = .ok (.getfield index, 3)) (kk : W p l e R s m args below meth c H locs 0 0 Q (F0 m (pc + 3) ls (.ref (ad 4) :: rest))) : W p l e R s m args below meth c H locs 0 0 Q (F0 m pc ls (.ref (ad 6) :: rest)) := k_get C hK.1 I inT2 6 2 1 (xw_6 (cI := cI) (ad := ad) (cC := cC) (cS := cS)) rfl (by decide) rfl hl rfl hdg kk
theorem gx_6_2 (C : CallFix p m c cc nL s args TT own) (hK : KX D tys adK adV A s) (I : Iv D (xw cI cC cS ad) S A s H locs) (hl : Cond.fieldLink own index RX2 "walk" "LCarryUp$Walk;" ∈ TT) (hdg : decode cc pc = .ok (.getfield index, 3)) (kk : W p l e R s m args below meth c H locs 0 0 Q (F0 m (pc + 3) ls (.ref (ad 5) :: rest))) : W p l e R s m args below meth c H locs 0 0 Q (F0 m pc ls (.ref (ad 6) :: rest)) := k_get C hK.1 I inT2 6 2 2 (xw_6 (cI := cI) (ad := ad) (cC := cC) (cS := cS)) rfl (by decide) rfl hl rfl hdg kk
theorem gx_6_3 (C : CallFix p m c cc nL s args TT own) (hK : KX D tys adK adV A s) (I : Iv D (xw cI cC cS ad) S A s H locs) (hl : Cond.fieldLink own index RX2 "bag" "I" ∈ TT) (hdg : decode cc pc = .ok (.getfield index, 3)) (kk : W p l e R s m args below meth c H locs 0 0 Q (F0 m (pc + 3) ls (.int (S.1 6 3) :: rest))) : W p l e R s m args below meth c H locs 0 0 Q (F0 m pc ls (.ref (ad 6) :: rest)) := k_get C hK.1 I inT2 6 2 3 (xw_6 (cI := cI) (ad := ad) (cC := cC) (cS := cS)) rfl (by decide) rfl hl rfl hdg kk
theorem px_6_3 (C : CallFix p m c cc nL s args TT own) (hK : KX D tys adK adV A s) (I : Iv D (xw cI cC cS ad) S A s H locs) (hl : Cond.fieldLink own index RX2 "bag" "I" ∈ TT) {x : Int32} (hdg : decode cc pc = .ok (.putfield index, 3)) (kk : ∀ S1 : St, S1 = setI S 6 3 x → ∀ (H1 : Heap) (locs1 : List Loc), Iv D (xw cI cC cS ad) S1 A s H1 locs1 → W p l e R s m args below meth c H1 locs1 0 0 Q (F0 m (pc + 3) ls rest)) : W p l e R s m args below meth c H locs 0 0 Q (F0 m pc ls (.int x :: .ref (ad 6) :: rest)) := k_put (S1 := setI S 6 3 x) C hK.1 I inT2 tyX2 tyX2_ok nmX2 6 2 3 (xw_6 (cI := cI) (ad := ad) (cC := cC) (cS := cS)) rfl (by decide) rfl hl rfl rfl rfl (Nat.le_of_ble_eq_true rfl) rfl hdg (kk _ rfl)
theorem gx_6_4 (C : CallFix p m c cc nL s args TT own) (hK : KX D tys adK adV A s) (I : Iv D (xw cI cC cS ad) S A s H locs) (hl : Cond.fieldLink own index RX2 "row" "I" ∈ TT) (hdg : decode cc pc = .ok (.getfield index, 3)) (kk : W p l e R s m args below meth c H locs 0 0 Q (F0 m (pc + 3) ls (.int (S.1 6 4) :: rest))) : W p l e R s m args below meth c H locs 0 0 Q (F0 m pc ls (.ref (ad 6) :: rest)) := k_get C hK.1 I inT2 6 2 4 (xw_6 (cI := cI) (ad := ad) (cC := cC) (cS := cS)) rfl (by decide) rfl hl rfl hdg kk
theorem px_6_4 (C : CallFix p m c cc nL s args TT own) (hK : KX D tys adK adV A s) (I : Iv D (xw cI cC cS ad) S A s H locs) (hl : Cond.fieldLink own index RX2 "row" "I" ∈ TT) {x : Int32} (hdg : decode cc pc = .ok (.putfield index, 3)) (kk : ∀ S1 : St, S1 = setI S 6 4 x → ∀ (H1 : Heap) (locs1 : List Loc), Iv D (xw cI cC cS ad) S1 A s H1 locs1 → W p l e R s m args below meth c H1 locs1 0 0 Q (F0 m (pc + 3) ls rest)) : W p l e R s m args below meth c H locs 0 0 Q (F0 m pc ls (.int x :: .ref (ad 6) :: rest)) := k_put (S1 := setI S 6 4 x) C hK.1 I inT2 tyX2 tyX2_ok nmX2 6 2 4 (xw_6 (cI := cI) (ad := ad) (cC := cC) (cS := cS)) rfl (by decide) rfl hl rfl rfl rfl (Nat.le_of_ble_eq_true rfl) rfl hdg (kk _ rfl)
theorem gx_6_5 (C : CallFix p m c cc nL s args TT own) (hK : KX D tys adK adV A s) (I : Iv D (xw cI cC cS ad) S A s H locs) (hl : Cond.fieldLink own index RX2 "sum" "J" ∈ TT) (hdg : decode cc pc = .ok (.getfield index, 3)) (kk : W p l e R s m args below meth c H locs 0 0 Q (F0 m (pc + 3) ls (.long (S.2.1 6 5) :: rest))) : W p l e R s m args below meth c H locs 0 0 Q (F0 m pc ls (.ref (ad 6) :: rest)) := k_get C hK.1 I inT2 6 2 5 (xw_6 (cI := cI) (ad := ad) (cC := cC) (cS := cS)) rfl (by decide) rfl hl rfl hdg kk
theorem px_6_5 (C : CallFix p m c cc nL s args TT own) (hK : KX D tys adK adV A s) (I : Iv D (xw cI cC cS ad) S A s H locs) (hl : Cond.fieldLink own index RX2 "sum" "J" ∈ TT) {x : Int64} (hdg : decode cc pc = .ok (.putfield index, 3)) (kk : ∀ S1 : St, S1 = setL S 6 5 x → ∀ (H1 : Heap) (locs1 : List Loc), Iv D (xw cI cC cS ad) S1 A s H1 locs1 → W p l e R s m args below meth c H1 locs1 0 0 Q (F0 m (pc + 3) ls rest)) : W p l e R s m args below meth c H locs 0 0 Q (F0 m pc ls (.long x :: .ref (ad 6) :: rest)) := k_put (S1 := setL S 6 5 x) C hK.1 I inT2 tyX2 tyX2_ok nmX2 6 2 5 (xw_6 (cI := cI) (ad := ad) (cC := cC) (cS := cS)) rfl (by decide) rfl hl rfl rfl rfl (Nat.le_of_ble_eq_true rfl) rfl hdg (kk _ rfl)
theorem gx_6_6 (C : CallFix p m c cc nL s args TT own) (hK : KX D tys adK adV A s) (I : Iv D (xw cI cC cS ad) S A s H locs) (hl : Cond.fieldLink own index RX2 "scale" "J" ∈ TT) (hdg : decode cc pc = .ok (.getfield index, 3)) (kk : W p l e R s m args below meth c H locs 0 0 Q (F0 m (pc + 3) ls (.long (S.2.1 6 6) :: rest))) : W p l e R s m args below meth c H locs 0 0 Q (F0 m pc ls (.ref (ad 6) :: rest)) := k_get C hK.1 I inT2 6 2 6 (xw_6 (cI := cI) (ad := ad) (cC := cC) (cS := cS)) rfl (by decide) rfl hl rfl hdg kk
theorem px_6_6 (C : CallFix p m c cc nL s args TT own) (hK : KX D tys adK adV A s) (I : Iv D (xw cI cC cS ad) S A s H locs) (hl : Cond.fieldLink own index RX2 "scale" "J" ∈ TT) {x : Int64} (hdg : decode cc pc = .ok (.putfield index, 3)) (kk : ∀ S1 : St, S1 = setL S 6 6 x → ∀ (H1 : Heap) (locs1 : List Loc), Iv D (xw cI cC cS ad) S1 A s H1 locs1 → W p l e R s m args below meth c H1 locs1 0 0 Q (F0 m (pc + 3) ls rest)) : W p l e R s m args below meth c H locs 0 0 Q (F0 m pc ls (.long x :: .ref (ad 6) :: rest)) := k_put (S1 := setL S 6 6 x) C hK.1 I inT2 tyX2 tyX2_ok nmX2 6 2 6 (xw_6 (cI := cI) (ad := ad) (cC := cC) (cS := cS)) rfl (by decide) rfl hl rfl rfl rfl (Nat.le_of_ble_eq_true rfl) rfl hdg (kk _ rfl)
theorem xw_7 : (xw cI cC cS ad S)[7]? = some (ad 7, .inr (3, [.ref (ad 3), .int (S.1 7 1), .long (S.2.1 7 2), .long (S.2.1 7 3)])) := rfl
theorem gx_7_0 (C : CallFix p m c cc nL s args TT own) (hK : KX D tys adK adV A s) (I : Iv D (xw cI cC cS ad) S A s H locs) (hl : Cond.fieldLink own index RX3 "plan" "LCarryUp$Plan;" ∈ TT) (hdg : decode cc pc = .ok (.getfield index, 3)) (kk : W p l e R s m args below meth c H locs 0 0 Q (F0 m (pc + 3) ls (.ref (ad 3) :: rest))) : W p l e R s m args below meth c H locs 0 0 Q (F0 m pc ls (.ref (ad 7) :: rest)) := k_get C hK.1 I inT3 7 3 0 (xw_7 (cI := cI) (ad := ad) (cC := cC) (cS := cS)) rfl (by decide) rfl hl rfl hdg kk
theorem gx_7_1 (C : CallFix p m c cc nL s args TT own) (hK : KX D tys adK adV A s) (I : Iv D (xw cI cC cS ad) S A s H locs) (hl : Cond.fieldLink own index RX3 "first" "I" ∈ TT) (hdg : decode cc pc = .ok (.getfield index, 3)) (kk : W p l e R s m args below meth c H locs 0 0 Q (F0 m (pc + 3) ls (.int (S.1 7 1) :: rest))) : W p l e R s m args below meth c H locs 0 0 Q (F0 m pc ls (.ref (ad 7) :: rest)) := k_get C hK.1 I inT3 7 3 1 (xw_7 (cI := cI) (ad := ad) (cC := cC) (cS := cS)) rfl (by decide) rfl hl rfl hdg kk
theorem px_7_1 (C : CallFix p m c cc nL s args TT own) (hK : KX D tys adK adV A s) (I : Iv D (xw cI cC cS ad) S A s H locs) (hl : Cond.fieldLink own index RX3 "first" "I" ∈ TT) {x : Int32} (hdg : decode cc pc = .ok (.putfield index, 3)) (kk : ∀ S1 : St, S1 = setI S 7 1 x → ∀ (H1 : Heap) (locs1 : List Loc), Iv D (xw cI cC cS ad) S1 A s H1 locs1 → W p l e R s m args below meth c H1 locs1 0 0 Q (F0 m (pc + 3) ls rest)) : W p l e R s m args below meth c H locs 0 0 Q (F0 m pc ls (.int x :: .ref (ad 7) :: rest)) := k_put (S1 := setI S 7 1 x) C hK.1 I inT3 tyX3 tyX3_ok nmX3 7 3 1 (xw_7 (cI := cI) (ad := ad) (cC := cC) (cS := cS)) rfl (by decide) rfl hl rfl rfl rfl (Nat.le_of_ble_eq_true rfl) rfl hdg (kk _ rfl)
theorem gx_7_2 (C : CallFix p m c cc nL s args TT own) (hK : KX D tys adK adV A s) (I : Iv D (xw cI cC cS ad) S A s H locs) (hl : Cond.fieldLink own index RX3 "worth" "J" ∈ TT) (hdg : decode cc pc = .ok (.getfield index, 3)) (kk : W p l e R s m args below meth c H locs 0 0 Q (F0 m (pc + 3) ls (.long (S.2.1 7 2) :: rest))) : W p l e R s m args below meth c H locs 0 0 Q (F0 m pc ls (.ref (ad 7) :: rest)) := k_get C hK.1 I inT3 7 3 2 (xw_7 (cI := cI) (ad := ad) (cC := cC) (cS := cS)) rfl (by decide) rfl hl rfl hdg kk
theorem px_7_2 (C : CallFix p m c cc nL s args TT own) (hK : KX D tys adK adV A s) (I : Iv D (xw cI cC cS ad) S A s H locs) (hl : Cond.fieldLink own index RX3 "worth" "J" ∈ TT) {x : Int64} (hdg : decode cc pc = .ok (.putfield index, 3)) (kk : ∀ S1 : St, S1 = setL S 7 2 x → ∀ (H1 : Heap) (locs1 : List Loc), Iv D (xw cI cC cS ad) S1 A s H1 locs1 → W p l e R s m args below meth c H1 locs1 0 0 Q (F0 m (pc + 3) ls rest)) : W p l e R s m args below meth c H locs 0 0 Q (F0 m pc ls (.long x :: .ref (ad 7) :: rest)) := k_put (S1 := setL S 7 2 x) C hK.1 I inT3 tyX3 tyX3_ok nmX3 7 3 2 (xw_7 (cI := cI) (ad := ad) (cC := cC) (cS := cS)) rfl (by decide) rfl hl rfl rfl rfl (Nat.le_of_ble_eq_true rfl) rfl hdg (kk _ rfl)
theorem gx_7_3 (C : CallFix p m c cc nL s args TT own) (hK : KX D tys adK adV A s) (I : Iv D (xw cI cC cS ad) S A s H locs) (hl : Cond.fieldLink own index RX3 "scale" "J" ∈ TT) (hdg : decode cc pc = .ok (.getfield index, 3)) (kk : W p l e R s m args below meth c H locs 0 0 Q (F0 m (pc + 3) ls (.long (S.2.1 7 3) :: rest))) : W p l e R s m args below meth c H locs 0 0 Q (F0 m pc ls (.ref (ad 7) :: rest)) := k_get C hK.1 I inT3 7 3 3 (xw_7 (cI := cI) (ad := ad) (cC := cC) (cS := cS)) rfl (by decide) rfl hl rfl hdg kk
theorem px_7_3 (C : CallFix p m c cc nL s args TT own) (hK : KX D tys adK adV A s) (I : Iv D (xw cI cC cS ad) S A s H locs) (hl : Cond.fieldLink own index RX3 "scale" "J" ∈ TT) {x : Int64} (hdg : decode cc pc = .ok (.putfield index, 3)) (kk : ∀ S1 : St, S1 = setL S 7 3 x → ∀ (H1 : Heap) (locs1 : List Loc), Iv D (xw cI cC cS ad) S1 A s H1 locs1 → W p l e R s m args below meth c H1 locs1 0 0 Q (F0 m (pc + 3) ls rest)) : W p l e R s m args below meth c H locs 0 0 Q (F0 m pc ls (.long x :: .ref (ad 7) :: rest)) := k_put (S1 := setL S 7 3 x) C hK.1 I inT3 tyX3 tyX3_ok nmX3 7 3 3 (xw_7 (cI := cI) (ad := ad) (cC := cC) (cS := cS)) rfl (by decide) rfl hl rfl rfl rfl (Nat.le_of_ble_eq_true rfl) rfl hdg (kk _ rfl)
theorem xw_8 : (xw cI cC cS ad S)[8]? = some (ad 8, .inr (0, [.ref (ad 3), .ref (ad 18), .ref (ad 19), .ref (ad 20), .int (S.1 8 4)])) := rfl
theorem gx_8_0 (C : CallFix p m c cc nL s args TT own) (hK : KX D tys adK adV A s) (I : Iv D (xw cI cC cS ad) S A s H locs) (hl : Cond.fieldLink own index RX0 "plan" "LCarryUp$Plan;" ∈ TT) (hdg : decode cc pc = .ok (.getfield index, 3)) (kk : W p l e R s m args below meth c H locs 0 0 Q (F0 m (pc + 3) ls (.ref (ad 3) :: rest))) : W p l e R s m args below meth c H locs 0 0 Q (F0 m pc ls (.ref (ad 8) :: rest)) := k_get C hK.1 I inT0 8 0 0 (xw_8 (cI := cI) (ad := ad) (cC := cC) (cS := cS)) rfl (by decide) rfl hl rfl hdg kk
theorem gx_8_1 (C : CallFix p m c cc nL s args TT own) (hK : KX D tys adK adV A s) (I : Iv D (xw cI cC cS ad) S A s H locs) (hl : Cond.fieldLink own index RX0 "alls" "[I" ∈ TT) (hdg : decode cc pc = .ok (.getfield index, 3)) (kk : W p l e R s m args below meth c H locs 0 0 Q (F0 m (pc + 3) ls (.ref (ad 18) :: rest))) : W p l e R s m args below meth c H locs 0 0 Q (F0 m pc ls (.ref (ad 8) :: rest)) := k_get C hK.1 I inT0 8 0 1 (xw_8 (cI := cI) (ad := ad) (cC := cC) (cS := cS)) rfl (by decide) rfl hl rfl hdg kk
theorem gx_8_2 (C : CallFix p m c cc nL s args TT own) (hK : KX D tys adK adV A s) (I : Iv D (xw cI cC cS ad) S A s H locs) (hl : Cond.fieldLink own index RX0 "ones" "[I" ∈ TT) (hdg : decode cc pc = .ok (.getfield index, 3)) (kk : W p l e R s m args below meth c H locs 0 0 Q (F0 m (pc + 3) ls (.ref (ad 19) :: rest))) : W p l e R s m args below meth c H locs 0 0 Q (F0 m pc ls (.ref (ad 8) :: rest)) := k_get C hK.1 I inT0 8 0 2 (xw_8 (cI := cI) (ad := ad) (cC := cC) (cS := cS)) rfl (by decide) rfl hl rfl hdg kk
theorem gx_8_3 (C : CallFix p m c cc nL s args TT own) (hK : KX D tys adK adV A s) (I : Iv D (xw cI cC cS ad) S A s H locs) (hl : Cond.fieldLink own index RX0 "bags" "[I" ∈ TT) (hdg : decode cc pc = .ok (.getfield index, 3)) (kk : W p l e R s m args below meth c H locs 0 0 Q (F0 m (pc + 3) ls (.ref (ad 20) :: rest))) : W p l e R s m args below meth c H locs 0 0 Q (F0 m pc ls (.ref (ad 8) :: rest)) := k_get C hK.1 I inT0 8 0 3 (xw_8 (cI := cI) (ad := ad) (cC := cC) (cS := cS)) rfl (by decide) rfl hl rfl hdg kk
theorem gx_8_4 (C : CallFix p m c cc nL s args TT own) (hK : KX D tys adK adV A s) (I : Iv D (xw cI cC cS ad) S A s H locs) (hl : Cond.fieldLink own index RX0 "visits" "I" ∈ TT) (hdg : decode cc pc = .ok (.getfield index, 3)) (kk : W p l e R s m args below meth c H locs 0 0 Q (F0 m (pc + 3) ls (.int (S.1 8 4) :: rest))) : W p l e R s m args below meth c H locs 0 0 Q (F0 m pc ls (.ref (ad 8) :: rest)) := k_get C hK.1 I inT0 8 0 4 (xw_8 (cI := cI) (ad := ad) (cC := cC) (cS := cS)) rfl (by decide) rfl hl rfl hdg kk
theorem px_8_4 (C : CallFix p m c cc nL s args TT own) (hK : KX D tys adK adV A s) (I : Iv D (xw cI cC cS ad) S A s H locs) (hl : Cond.fieldLink own index RX0 "visits" "I" ∈ TT) {x : Int32} (hdg : decode cc pc = .ok (.putfield index, 3)) (kk : ∀ S1 : St, S1 = setI S 8 4 x → ∀ (H1 : Heap) (locs1 : List Loc), Iv D (xw cI cC cS ad) S1 A s H1 locs1 → W p l e R s m args below meth c H1 locs1 0 0 Q (F0 m (pc + 3) ls rest)) : W p l e R s m args below meth c H locs 0 0 Q (F0 m pc ls (.int x :: .ref (ad 8) :: rest)) := k_put (S1 := setI S 8 4 x) C hK.1 I inT0 tyX0 tyX0_ok nmX0 8 0 4 (xw_8 (cI := cI) (ad := ad) (cC := cC) (cS := cS)) rfl (by decide) rfl hl rfl rfl rfl (Nat.le_of_ble_eq_true rfl) rfl hdg (kk _ rfl)
theorem mw_0 : (mw cI ad S)[0]? = some (ad 0, .inr (11, [.ref (ad 1), .int (S.1 0 1), .ref (ad 2), .int (S.1 0 3), .ref (ad 3), .ref (ad 4), .int (S.1 0 6), .int (S.1 0 7), .int (S.1 0 8), .int (S.1 0 9), .ref (ad 5), .int (S.1 0 11), .ref (ad 6), .ref (ad 7), .ref (ad 8), .ref (ad 9), .int (S.1 0 16), .int (S.1 0 17), .int (S.1 0 18), .int (S.1 0 19), .ref (ad 10), .int (S.1 0 21), .int (S.1 0 22), .long (S.2.1 0 23), .long (S.2.1 0 24), .int (S.1 0 25), .int (S.1 0 26), .int (S.1 0 27), .int (S.1 0 28), .int (S.1 0 29), .ref (ad 11)])) := rfl
theorem gm_0_0 (C : CallFix p m c cc nL s args TT own) (hK : KX D tys adK adV A s) (I : Iv D (mw cI ad) S A s H locs) (hl : Cond.fieldLink own index RX11 "text" "[I" ∈ TT) (hdg : decode cc pc = .ok (.getfield index, 3)) (kk : W p l e R s m args below meth c H locs 0 0 Q (F0 m (pc + 3) ls (.ref (ad 1) :: rest))) : W p l e R s m args below meth c H locs 0 0 Q (F0 m pc ls (.ref (ad 0) :: rest)) := k_get C hK.1 I inT11 0 11 0 (mw_0 (cI := cI) (ad := ad)) rfl (by decide) rfl hl rfl hdg kk
theorem gm_0_1 (C : CallFix p m c cc nL s args TT own) (hK : KX D tys adK adV A s) (I : Iv D (mw cI ad) S A s H locs) (hl : Cond.fieldLink own index RX11 "length" "I" ∈ TT) (hdg : decode cc pc = .ok (.getfield index, 3)) (kk : W p l e R s m args below meth c H locs 0 0 Q (F0 m (pc + 3) ls (.int (S.1 0 1) :: rest))) : W p l e R s m args below meth c H locs 0 0 Q (F0 m pc ls (.ref (ad 0) :: rest)) := k_get C hK.1 I inT11 0 11 1 (mw_0 (cI := cI) (ad := ad)) rfl (by decide) rfl hl rfl hdg kk
theorem pm_0_1 (C : CallFix p m c cc nL s args TT own) (hK : KX D tys adK adV A s) (I : Iv D (mw cI ad) S A s H locs) (hl : Cond.fieldLink own index RX11 "length" "I" ∈ TT) {x : Int32} (hdg : decode cc pc = .ok (.putfield index, 3)) (kk : ∀ S1 : St, S1 = setI S 0 1 x → ∀ (H1 : Heap) (locs1 : List Loc), Iv D (mw cI ad) S1 A s H1 locs1 → W p l e R s m args below meth c H1 locs1 0 0 Q (F0 m (pc + 3) ls rest)) : W p l e R s m args below meth c H locs 0 0 Q (F0 m pc ls (.int x :: .ref (ad 0) :: rest)) := k_put (S1 := setI S 0 1 x) C hK.1 I inT11 tyX11 tyX11_ok nmX11 0 11 1 (mw_0 (cI := cI) (ad := ad)) rfl (by decide) rfl hl rfl rfl rfl (Nat.le_of_ble_eq_true rfl) rfl hdg (kk _ rfl)
theorem gm_0_2 (C : CallFix p m c cc nL s args TT own) (hK : KX D tys adK adV A s) (I : Iv D (mw cI ad) S A s H locs) (hl : Cond.fieldLink own index RX11 "read" "[I" ∈ TT) (hdg : decode cc pc = .ok (.getfield index, 3)) (kk : W p l e R s m args below meth c H locs 0 0 Q (F0 m (pc + 3) ls (.ref (ad 2) :: rest))) : W p l e R s m args below meth c H locs 0 0 Q (F0 m pc ls (.ref (ad 0) :: rest)) := k_get C hK.1 I inT11 0 11 2 (mw_0 (cI := cI) (ad := ad)) rfl (by decide) rfl hl rfl hdg kk
theorem gm_0_3 (C : CallFix p m c cc nL s args TT own) (hK : KX D tys adK adV A s) (I : Iv D (mw cI ad) S A s H locs) (hl : Cond.fieldLink own index RX11 "readMany" "I" ∈ TT) (hdg : decode cc pc = .ok (.getfield index, 3)) (kk : W p l e R s m args below meth c H locs 0 0 Q (F0 m (pc + 3) ls (.int (S.1 0 3) :: rest))) : W p l e R s m args below meth c H locs 0 0 Q (F0 m pc ls (.ref (ad 0) :: rest)) := k_get C hK.1 I inT11 0 11 3 (mw_0 (cI := cI) (ad := ad)) rfl (by decide) rfl hl rfl hdg kk
theorem pm_0_3 (C : CallFix p m c cc nL s args TT own) (hK : KX D tys adK adV A s) (I : Iv D (mw cI ad) S A s H locs) (hl : Cond.fieldLink own index RX11 "readMany" "I" ∈ TT) {x : Int32} (hdg : decode cc pc = .ok (.putfield index, 3)) (kk : ∀ S1 : St, S1 = setI S 0 3 x → ∀ (H1 : Heap) (locs1 : List Loc), Iv D (mw cI ad) S1 A s H1 locs1 → W p l e R s m args below meth c H1 locs1 0 0 Q (F0 m (pc + 3) ls rest)) : W p l e R s m args below meth c H locs 0 0 Q (F0 m pc ls (.int x :: .ref (ad 0) :: rest)) := k_put (S1 := setI S 0 3 x) C hK.1 I inT11 tyX11 tyX11_ok nmX11 0 11 3 (mw_0 (cI := cI) (ad := ad)) rfl (by decide) rfl hl rfl rfl rfl (Nat.le_of_ble_eq_true rfl) rfl hdg (kk _ rfl)
theorem gm_0_4 (C : CallFix p m c cc nL s args TT own) (hK : KX D tys adK adV A s) (I : Iv D (mw cI ad) S A s H locs) (hl : Cond.fieldLink own index RX11 "weights" "[I" ∈ TT) (hdg : decode cc pc = .ok (.getfield index, 3)) (kk : W p l e R s m args below meth c H locs 0 0 Q (F0 m (pc + 3) ls (.ref (ad 3) :: rest))) : W p l e R s m args below meth c H locs 0 0 Q (F0 m pc ls (.ref (ad 0) :: rest)) := k_get C hK.1 I inT11 0 11 4 (mw_0 (cI := cI) (ad := ad)) rfl (by decide) rfl hl rfl hdg kk
theorem gm_0_5 (C : CallFix p m c cc nL s args TT own) (hK : KX D tys adK adV A s) (I : Iv D (mw cI ad) S A s H locs) (hl : Cond.fieldLink own index RX11 "prices" "[I" ∈ TT) (hdg : decode cc pc = .ok (.getfield index, 3)) (kk : W p l e R s m args below meth c H locs 0 0 Q (F0 m (pc + 3) ls (.ref (ad 4) :: rest))) : W p l e R s m args below meth c H locs 0 0 Q (F0 m pc ls (.ref (ad 0) :: rest)) := k_get C hK.1 I inT11 0 11 5 (mw_0 (cI := cI) (ad := ad)) rfl (by decide) rfl hl rfl hdg kk
theorem gm_0_6 (C : CallFix p m c cc nL s args TT own) (hK : KX D tys adK adV A s) (I : Iv D (mw cI ad) S A s H locs) (hl : Cond.fieldLink own index RX11 "tools" "I" ∈ TT) (hdg : decode cc pc = .ok (.getfield index, 3)) (kk : W p l e R s m args below meth c H locs 0 0 Q (F0 m (pc + 3) ls (.int (S.1 0 6) :: rest))) : W p l e R s m args below meth c H locs 0 0 Q (F0 m pc ls (.ref (ad 0) :: rest)) := k_get C hK.1 I inT11 0 11 6 (mw_0 (cI := cI) (ad := ad)) rfl (by decide) rfl hl rfl hdg kk
theorem pm_0_6 (C : CallFix p m c cc nL s args TT own) (hK : KX D tys adK adV A s) (I : Iv D (mw cI ad) S A s H locs) (hl : Cond.fieldLink own index RX11 "tools" "I" ∈ TT) {x : Int32} (hdg : decode cc pc = .ok (.putfield index, 3)) (kk : ∀ S1 : St, S1 = setI S 0 6 x → ∀ (H1 : Heap) (locs1 : List Loc), Iv D (mw cI ad) S1 A s H1 locs1 → W p l e R s m args below meth c H1 locs1 0 0 Q (F0 m (pc + 3) ls rest)) : W p l e R s m args below meth c H locs 0 0 Q (F0 m pc ls (.int x :: .ref (ad 0) :: rest)) := k_put (S1 := setI S 0 6 x) C hK.1 I inT11 tyX11 tyX11_ok nmX11 0 11 6 (mw_0 (cI := cI) (ad := ad)) rfl (by decide) rfl hl rfl rfl rfl (Nat.le_of_ble_eq_true rfl) rfl hdg (kk _ rfl)
theorem gm_0_7 (C : CallFix p m c cc nL s args TT own) (hK : KX D tys adK adV A s) (I : Iv D (mw cI ad) S A s H locs) (hl : Cond.fieldLink own index RX11 "load" "I" ∈ TT) (hdg : decode cc pc = .ok (.getfield index, 3)) (kk : W p l e R s m args below meth c H locs 0 0 Q (F0 m (pc + 3) ls (.int (S.1 0 7) :: rest))) : W p l e R s m args below meth c H locs 0 0 Q (F0 m pc ls (.ref (ad 0) :: rest)) := k_get C hK.1 I inT11 0 11 7 (mw_0 (cI := cI) (ad := ad)) rfl (by decide) rfl hl rfl hdg kk
theorem pm_0_7 (C : CallFix p m c cc nL s args TT own) (hK : KX D tys adK adV A s) (I : Iv D (mw cI ad) S A s H locs) (hl : Cond.fieldLink own index RX11 "load" "I" ∈ TT) {x : Int32} (hdg : decode cc pc = .ok (.putfield index, 3)) (kk : ∀ S1 : St, S1 = setI S 0 7 x → ∀ (H1 : Heap) (locs1 : List Loc), Iv D (mw cI ad) S1 A s H1 locs1 → W p l e R s m args below meth c H1 locs1 0 0 Q (F0 m (pc + 3) ls rest)) : W p l e R s m args below meth c H locs 0 0 Q (F0 m pc ls (.int x :: .ref (ad 0) :: rest)) := k_put (S1 := setI S 0 7 x) C hK.1 I inT11 tyX11 tyX11_ok nmX11 0 11 7 (mw_0 (cI := cI) (ad := ad)) rfl (by decide) rfl hl rfl rfl rfl (Nat.le_of_ble_eq_true rfl) rfl hdg (kk _ rfl)
theorem gm_0_8 (C : CallFix p m c cc nL s args TT own) (hK : KX D tys adK adV A s) (I : Iv D (mw cI ad) S A s H locs) (hl : Cond.fieldLink own index RX11 "purse" "I" ∈ TT) (hdg : decode cc pc = .ok (.getfield index, 3)) (kk : W p l e R s m args below meth c H locs 0 0 Q (F0 m (pc + 3) ls (.int (S.1 0 8) :: rest))) : W p l e R s m args below meth c H locs 0 0 Q (F0 m pc ls (.ref (ad 0) :: rest)) := k_get C hK.1 I inT11 0 11 8 (mw_0 (cI := cI) (ad := ad)) rfl (by decide) rfl hl rfl hdg kk
theorem pm_0_8 (C : CallFix p m c cc nL s args TT own) (hK : KX D tys adK adV A s) (I : Iv D (mw cI ad) S A s H locs) (hl : Cond.fieldLink own index RX11 "purse" "I" ∈ TT) {x : Int32} (hdg : decode cc pc = .ok (.putfield index, 3)) (kk : ∀ S1 : St, S1 = setI S 0 8 x → ∀ (H1 : Heap) (locs1 : List Loc), Iv D (mw cI ad) S1 A s H1 locs1 → W p l e R s m args below meth c H1 locs1 0 0 Q (F0 m (pc + 3) ls rest)) : W p l e R s m args below meth c H locs 0 0 Q (F0 m pc ls (.int x :: .ref (ad 0) :: rest)) := k_put (S1 := setI S 0 8 x) C hK.1 I inT11 tyX11 tyX11_ok nmX11 0 11 8 (mw_0 (cI := cI) (ad := ad)) rfl (by decide) rfl hl rfl rfl rfl (Nat.le_of_ble_eq_true rfl) rfl hdg (kk _ rfl)
theorem gm_0_9 (C : CallFix p m c cc nL s args TT own) (hK : KX D tys adK adV A s) (I : Iv D (mw cI ad) S A s H locs) (hl : Cond.fieldLink own index RX11 "begin" "I" ∈ TT) (hdg : decode cc pc = .ok (.getfield index, 3)) (kk : W p l e R s m args below meth c H locs 0 0 Q (F0 m (pc + 3) ls (.int (S.1 0 9) :: rest))) : W p l e R s m args below meth c H locs 0 0 Q (F0 m pc ls (.ref (ad 0) :: rest)) := k_get C hK.1 I inT11 0 11 9 (mw_0 (cI := cI) (ad := ad)) rfl (by decide) rfl hl rfl hdg kk
theorem pm_0_9 (C : CallFix p m c cc nL s args TT own) (hK : KX D tys adK adV A s) (I : Iv D (mw cI ad) S A s H locs) (hl : Cond.fieldLink own index RX11 "begin" "I" ∈ TT) {x : Int32} (hdg : decode cc pc = .ok (.putfield index, 3)) (kk : ∀ S1 : St, S1 = setI S 0 9 x → ∀ (H1 : Heap) (locs1 : List Loc), Iv D (mw cI ad) S1 A s H1 locs1 → W p l e R s m args below meth c H1 locs1 0 0 Q (F0 m (pc + 3) ls rest)) : W p l e R s m args below meth c H locs 0 0 Q (F0 m pc ls (.int x :: .ref (ad 0) :: rest)) := k_put (S1 := setI S 0 9 x) C hK.1 I inT11 tyX11 tyX11_ok nmX11 0 11 9 (mw_0 (cI := cI) (ad := ad)) rfl (by decide) rfl hl rfl rfl rfl (Nat.le_of_ble_eq_true rfl) rfl hdg (kk _ rfl)
theorem gm_0_10 (C : CallFix p m c cc nL s args TT own) (hK : KX D tys adK adV A s) (I : Iv D (mw cI ad) S A s H locs) (hl : Cond.fieldLink own index RX11 "ways" "[I" ∈ TT) (hdg : decode cc pc = .ok (.getfield index, 3)) (kk : W p l e R s m args below meth c H locs 0 0 Q (F0 m (pc + 3) ls (.ref (ad 5) :: rest))) : W p l e R s m args below meth c H locs 0 0 Q (F0 m pc ls (.ref (ad 0) :: rest)) := k_get C hK.1 I inT11 0 11 10 (mw_0 (cI := cI) (ad := ad)) rfl (by decide) rfl hl rfl hdg kk
theorem gm_0_11 (C : CallFix p m c cc nL s args TT own) (hK : KX D tys adK adV A s) (I : Iv D (mw cI ad) S A s H locs) (hl : Cond.fieldLink own index RX11 "toldCalls" "I" ∈ TT) (hdg : decode cc pc = .ok (.getfield index, 3)) (kk : W p l e R s m args below meth c H locs 0 0 Q (F0 m (pc + 3) ls (.int (S.1 0 11) :: rest))) : W p l e R s m args below meth c H locs 0 0 Q (F0 m pc ls (.ref (ad 0) :: rest)) := k_get C hK.1 I inT11 0 11 11 (mw_0 (cI := cI) (ad := ad)) rfl (by decide) rfl hl rfl hdg kk
theorem pm_0_11 (C : CallFix p m c cc nL s args TT own) (hK : KX D tys adK adV A s) (I : Iv D (mw cI ad) S A s H locs) (hl : Cond.fieldLink own index RX11 "toldCalls" "I" ∈ TT) {x : Int32} (hdg : decode cc pc = .ok (.putfield index, 3)) (kk : ∀ S1 : St, S1 = setI S 0 11 x → ∀ (H1 : Heap) (locs1 : List Loc), Iv D (mw cI ad) S1 A s H1 locs1 → W p l e R s m args below meth c H1 locs1 0 0 Q (F0 m (pc + 3) ls rest)) : W p l e R s m args below meth c H locs 0 0 Q (F0 m pc ls (.int x :: .ref (ad 0) :: rest)) := k_put (S1 := setI S 0 11 x) C hK.1 I inT11 tyX11 tyX11_ok nmX11 0 11 11 (mw_0 (cI := cI) (ad := ad)) rfl (by decide) rfl hl rfl rfl rfl (Nat.le_of_ble_eq_true rfl) rfl hdg (kk _ rfl)
theorem gm_0_12 (C : CallFix p m c cc nL s args TT own) (hK : KX D tys adK adV A s) (I : Iv D (mw cI ad) S A s H locs) (hl : Cond.fieldLink own index RX11 "calls" "[I" ∈ TT) (hdg : decode cc pc = .ok (.getfield index, 3)) (kk : W p l e R s m args below meth c H locs 0 0 Q (F0 m (pc + 3) ls (.ref (ad 6) :: rest))) : W p l e R s m args below meth c H locs 0 0 Q (F0 m pc ls (.ref (ad 0) :: rest)) := k_get C hK.1 I inT11 0 11 12 (mw_0 (cI := cI) (ad := ad)) rfl (by decide) rfl hl rfl hdg kk
theorem gm_0_13 (C : CallFix p m c cc nL s args TT own) (hK : KX D tys adK adV A s) (I : Iv D (mw cI ad) S A s H locs) (hl : Cond.fieldLink own index RX11 "sortMany" "[I" ∈ TT) (hdg : decode cc pc = .ok (.getfield index, 3)) (kk : W p l e R s m args below meth c H locs 0 0 Q (F0 m (pc + 3) ls (.ref (ad 7) :: rest))) : W p l e R s m args below meth c H locs 0 0 Q (F0 m pc ls (.ref (ad 0) :: rest)) := k_get C hK.1 I inT11 0 11 13 (mw_0 (cI := cI) (ad := ad)) rfl (by decide) rfl hl rfl hdg kk
theorem gm_0_14 (C : CallFix p m c cc nL s args TT own) (hK : KX D tys adK adV A s) (I : Iv D (mw cI ad) S A s H locs) (hl : Cond.fieldLink own index RX11 "sorts" "[I" ∈ TT) (hdg : decode cc pc = .ok (.getfield index, 3)) (kk : W p l e R s m args below meth c H locs 0 0 Q (F0 m (pc + 3) ls (.ref (ad 8) :: rest))) : W p l e R s m args below meth c H locs 0 0 Q (F0 m pc ls (.ref (ad 0) :: rest)) := k_get C hK.1 I inT11 0 11 14 (mw_0 (cI := cI) (ad := ad)) rfl (by decide) rfl hl rfl hdg kk
theorem gm_0_15 (C : CallFix p m c cc nL s args TT own) (hK : KX D tys adK adV A s) (I : Iv D (mw cI ad) S A s H locs) (hl : Cond.fieldLink own index RX11 "visits" "[I" ∈ TT) (hdg : decode cc pc = .ok (.getfield index, 3)) (kk : W p l e R s m args below meth c H locs 0 0 Q (F0 m (pc + 3) ls (.ref (ad 9) :: rest))) : W p l e R s m args below meth c H locs 0 0 Q (F0 m pc ls (.ref (ad 0) :: rest)) := k_get C hK.1 I inT11 0 11 15 (mw_0 (cI := cI) (ad := ad)) rfl (by decide) rfl hl rfl hdg kk
theorem gm_0_16 (C : CallFix p m c cc nL s args TT own) (hK : KX D tys adK adV A s) (I : Iv D (mw cI ad) S A s H locs) (hl : Cond.fieldLink own index RX11 "visitMany" "I" ∈ TT) (hdg : decode cc pc = .ok (.getfield index, 3)) (kk : W p l e R s m args below meth c H locs 0 0 Q (F0 m (pc + 3) ls (.int (S.1 0 16) :: rest))) : W p l e R s m args below meth c H locs 0 0 Q (F0 m pc ls (.ref (ad 0) :: rest)) := k_get C hK.1 I inT11 0 11 16 (mw_0 (cI := cI) (ad := ad)) rfl (by decide) rfl hl rfl hdg kk
theorem pm_0_16 (C : CallFix p m c cc nL s args TT own) (hK : KX D tys adK adV A s) (I : Iv D (mw cI ad) S A s H locs) (hl : Cond.fieldLink own index RX11 "visitMany" "I" ∈ TT) {x : Int32} (hdg : decode cc pc = .ok (.putfield index, 3)) (kk : ∀ S1 : St, S1 = setI S 0 16 x → ∀ (H1 : Heap) (locs1 : List Loc), Iv D (mw cI ad) S1 A s H1 locs1 → W p l e R s m args below meth c H1 locs1 0 0 Q (F0 m (pc + 3) ls rest)) : W p l e R s m args below meth c H locs 0 0 Q (F0 m pc ls (.int x :: .ref (ad 0) :: rest)) := k_put (S1 := setI S 0 16 x) C hK.1 I inT11 tyX11 tyX11_ok nmX11 0 11 16 (mw_0 (cI := cI) (ad := ad)) rfl (by decide) rfl hl rfl rfl rfl (Nat.le_of_ble_eq_true rfl) rfl hdg (kk _ rfl)
theorem gm_0_17 (C : CallFix p m c cc nL s args TT own) (hK : KX D tys adK adV A s) (I : Iv D (mw cI ad) S A s H locs) (hl : Cond.fieldLink own index RX11 "at" "I" ∈ TT) (hdg : decode cc pc = .ok (.getfield index, 3)) (kk : W p l e R s m args below meth c H locs 0 0 Q (F0 m (pc + 3) ls (.int (S.1 0 17) :: rest))) : W p l e R s m args below meth c H locs 0 0 Q (F0 m pc ls (.ref (ad 0) :: rest)) := k_get C hK.1 I inT11 0 11 17 (mw_0 (cI := cI) (ad := ad)) rfl (by decide) rfl hl rfl hdg kk
theorem pm_0_17 (C : CallFix p m c cc nL s args TT own) (hK : KX D tys adK adV A s) (I : Iv D (mw cI ad) S A s H locs) (hl : Cond.fieldLink own index RX11 "at" "I" ∈ TT) {x : Int32} (hdg : decode cc pc = .ok (.putfield index, 3)) (kk : ∀ S1 : St, S1 = setI S 0 17 x → ∀ (H1 : Heap) (locs1 : List Loc), Iv D (mw cI ad) S1 A s H1 locs1 → W p l e R s m args below meth c H1 locs1 0 0 Q (F0 m (pc + 3) ls rest)) : W p l e R s m args below meth c H locs 0 0 Q (F0 m pc ls (.int x :: .ref (ad 0) :: rest)) := k_put (S1 := setI S 0 17 x) C hK.1 I inT11 tyX11 tyX11_ok nmX11 0 11 17 (mw_0 (cI := cI) (ad := ad)) rfl (by decide) rfl hl rfl rfl rfl (Nat.le_of_ble_eq_true rfl) rfl hdg (kk _ rfl)
theorem gm_0_18 (C : CallFix p m c cc nL s args TT own) (hK : KX D tys adK adV A s) (I : Iv D (mw cI ad) S A s H locs) (hl : Cond.fieldLink own index RX11 "place" "I" ∈ TT) (hdg : decode cc pc = .ok (.getfield index, 3)) (kk : W p l e R s m args below meth c H locs 0 0 Q (F0 m (pc + 3) ls (.int (S.1 0 18) :: rest))) : W p l e R s m args below meth c H locs 0 0 Q (F0 m pc ls (.ref (ad 0) :: rest)) := k_get C hK.1 I inT11 0 11 18 (mw_0 (cI := cI) (ad := ad)) rfl (by decide) rfl hl rfl hdg kk
theorem pm_0_18 (C : CallFix p m c cc nL s args TT own) (hK : KX D tys adK adV A s) (I : Iv D (mw cI ad) S A s H locs) (hl : Cond.fieldLink own index RX11 "place" "I" ∈ TT) {x : Int32} (hdg : decode cc pc = .ok (.putfield index, 3)) (kk : ∀ S1 : St, S1 = setI S 0 18 x → ∀ (H1 : Heap) (locs1 : List Loc), Iv D (mw cI ad) S1 A s H1 locs1 → W p l e R s m args below meth c H1 locs1 0 0 Q (F0 m (pc + 3) ls rest)) : W p l e R s m args below meth c H locs 0 0 Q (F0 m pc ls (.int x :: .ref (ad 0) :: rest)) := k_put (S1 := setI S 0 18 x) C hK.1 I inT11 tyX11 tyX11_ok nmX11 0 11 18 (mw_0 (cI := cI) (ad := ad)) rfl (by decide) rfl hl rfl rfl rfl (Nat.le_of_ble_eq_true rfl) rfl hdg (kk _ rfl)
theorem gm_0_19 (C : CallFix p m c cc nL s args TT own) (hK : KX D tys adK adV A s) (I : Iv D (mw cI ad) S A s H locs) (hl : Cond.fieldLink own index RX11 "end" "I" ∈ TT) (hdg : decode cc pc = .ok (.getfield index, 3)) (kk : W p l e R s m args below meth c H locs 0 0 Q (F0 m (pc + 3) ls (.int (S.1 0 19) :: rest))) : W p l e R s m args below meth c H locs 0 0 Q (F0 m pc ls (.ref (ad 0) :: rest)) := k_get C hK.1 I inT11 0 11 19 (mw_0 (cI := cI) (ad := ad)) rfl (by decide) rfl hl rfl hdg kk
theorem pm_0_19 (C : CallFix p m c cc nL s args TT own) (hK : KX D tys adK adV A s) (I : Iv D (mw cI ad) S A s H locs) (hl : Cond.fieldLink own index RX11 "end" "I" ∈ TT) {x : Int32} (hdg : decode cc pc = .ok (.putfield index, 3)) (kk : ∀ S1 : St, S1 = setI S 0 19 x → ∀ (H1 : Heap) (locs1 : List Loc), Iv D (mw cI ad) S1 A s H1 locs1 → W p l e R s m args below meth c H1 locs1 0 0 Q (F0 m (pc + 3) ls rest)) : W p l e R s m args below meth c H locs 0 0 Q (F0 m pc ls (.int x :: .ref (ad 0) :: rest)) := k_put (S1 := setI S 0 19 x) C hK.1 I inT11 tyX11 tyX11_ok nmX11 0 11 19 (mw_0 (cI := cI) (ad := ad)) rfl (by decide) rfl hl rfl rfl rfl (Nat.le_of_ble_eq_true rfl) rfl hdg (kk _ rfl)
theorem gm_0_20 (C : CallFix p m c cc nL s args TT own) (hK : KX D tys adK adV A s) (I : Iv D (mw cI ad) S A s H locs) (hl : Cond.fieldLink own index RX11 "entries" "[I" ∈ TT) (hdg : decode cc pc = .ok (.getfield index, 3)) (kk : W p l e R s m args below meth c H locs 0 0 Q (F0 m (pc + 3) ls (.ref (ad 10) :: rest))) : W p l e R s m args below meth c H locs 0 0 Q (F0 m pc ls (.ref (ad 0) :: rest)) := k_get C hK.1 I inT11 0 11 20 (mw_0 (cI := cI) (ad := ad)) rfl (by decide) rfl hl rfl hdg kk
theorem gm_0_21 (C : CallFix p m c cc nL s args TT own) (hK : KX D tys adK adV A s) (I : Iv D (mw cI ad) S A s H locs) (hl : Cond.fieldLink own index RX11 "entryMany" "I" ∈ TT) (hdg : decode cc pc = .ok (.getfield index, 3)) (kk : W p l e R s m args below meth c H locs 0 0 Q (F0 m (pc + 3) ls (.int (S.1 0 21) :: rest))) : W p l e R s m args below meth c H locs 0 0 Q (F0 m pc ls (.ref (ad 0) :: rest)) := k_get C hK.1 I inT11 0 11 21 (mw_0 (cI := cI) (ad := ad)) rfl (by decide) rfl hl rfl hdg kk
theorem pm_0_21 (C : CallFix p m c cc nL s args TT own) (hK : KX D tys adK adV A s) (I : Iv D (mw cI ad) S A s H locs) (hl : Cond.fieldLink own index RX11 "entryMany" "I" ∈ TT) {x : Int32} (hdg : decode cc pc = .ok (.putfield index, 3)) (kk : ∀ S1 : St, S1 = setI S 0 21 x → ∀ (H1 : Heap) (locs1 : List Loc), Iv D (mw cI ad) S1 A s H1 locs1 → W p l e R s m args below meth c H1 locs1 0 0 Q (F0 m (pc + 3) ls rest)) : W p l e R s m args below meth c H locs 0 0 Q (F0 m pc ls (.int x :: .ref (ad 0) :: rest)) := k_put (S1 := setI S 0 21 x) C hK.1 I inT11 tyX11 tyX11_ok nmX11 0 11 21 (mw_0 (cI := cI) (ad := ad)) rfl (by decide) rfl hl rfl rfl rfl (Nat.le_of_ble_eq_true rfl) rfl hdg (kk _ rfl)
theorem gm_0_22 (C : CallFix p m c cc nL s args TT own) (hK : KX D tys adK adV A s) (I : Iv D (mw cI ad) S A s H locs) (hl : Cond.fieldLink own index RX11 "combos" "I" ∈ TT) (hdg : decode cc pc = .ok (.getfield index, 3)) (kk : W p l e R s m args below meth c H locs 0 0 Q (F0 m (pc + 3) ls (.int (S.1 0 22) :: rest))) : W p l e R s m args below meth c H locs 0 0 Q (F0 m pc ls (.ref (ad 0) :: rest)) := k_get C hK.1 I inT11 0 11 22 (mw_0 (cI := cI) (ad := ad)) rfl (by decide) rfl hl rfl hdg kk
theorem pm_0_22 (C : CallFix p m c cc nL s args TT own) (hK : KX D tys adK adV A s) (I : Iv D (mw cI ad) S A s H locs) (hl : Cond.fieldLink own index RX11 "combos" "I" ∈ TT) {x : Int32} (hdg : decode cc pc = .ok (.putfield index, 3)) (kk : ∀ S1 : St, S1 = setI S 0 22 x → ∀ (H1 : Heap) (locs1 : List Loc), Iv D (mw cI ad) S1 A s H1 locs1 → W p l e R s m args below meth c H1 locs1 0 0 Q (F0 m (pc + 3) ls rest)) : W p l e R s m args below meth c H locs 0 0 Q (F0 m pc ls (.int x :: .ref (ad 0) :: rest)) := k_put (S1 := setI S 0 22 x) C hK.1 I inT11 tyX11 tyX11_ok nmX11 0 11 22 (mw_0 (cI := cI) (ad := ad)) rfl (by decide) rfl hl rfl rfl rfl (Nat.le_of_ble_eq_true rfl) rfl hdg (kk _ rfl)
theorem gm_0_23 (C : CallFix p m c cc nL s args TT own) (hK : KX D tys adK adV A s) (I : Iv D (mw cI ad) S A s H locs) (hl : Cond.fieldLink own index RX11 "all" "J" ∈ TT) (hdg : decode cc pc = .ok (.getfield index, 3)) (kk : W p l e R s m args below meth c H locs 0 0 Q (F0 m (pc + 3) ls (.long (S.2.1 0 23) :: rest))) : W p l e R s m args below meth c H locs 0 0 Q (F0 m pc ls (.ref (ad 0) :: rest)) := k_get C hK.1 I inT11 0 11 23 (mw_0 (cI := cI) (ad := ad)) rfl (by decide) rfl hl rfl hdg kk
theorem pm_0_23 (C : CallFix p m c cc nL s args TT own) (hK : KX D tys adK adV A s) (I : Iv D (mw cI ad) S A s H locs) (hl : Cond.fieldLink own index RX11 "all" "J" ∈ TT) {x : Int64} (hdg : decode cc pc = .ok (.putfield index, 3)) (kk : ∀ S1 : St, S1 = setL S 0 23 x → ∀ (H1 : Heap) (locs1 : List Loc), Iv D (mw cI ad) S1 A s H1 locs1 → W p l e R s m args below meth c H1 locs1 0 0 Q (F0 m (pc + 3) ls rest)) : W p l e R s m args below meth c H locs 0 0 Q (F0 m pc ls (.long x :: .ref (ad 0) :: rest)) := k_put (S1 := setL S 0 23 x) C hK.1 I inT11 tyX11 tyX11_ok nmX11 0 11 23 (mw_0 (cI := cI) (ad := ad)) rfl (by decide) rfl hl rfl rfl rfl (Nat.le_of_ble_eq_true rfl) rfl hdg (kk _ rfl)
theorem gm_0_24 (C : CallFix p m c cc nL s args TT own) (hK : KX D tys adK adV A s) (I : Iv D (mw cI ad) S A s H locs) (hl : Cond.fieldLink own index RX11 "weight" "J" ∈ TT) (hdg : decode cc pc = .ok (.getfield index, 3)) (kk : W p l e R s m args below meth c H locs 0 0 Q (F0 m (pc + 3) ls (.long (S.2.1 0 24) :: rest))) : W p l e R s m args below meth c H locs 0 0 Q (F0 m pc ls (.ref (ad 0) :: rest)) := k_get C hK.1 I inT11 0 11 24 (mw_0 (cI := cI) (ad := ad)) rfl (by decide) rfl hl rfl hdg kk
theorem pm_0_24 (C : CallFix p m c cc nL s args TT own) (hK : KX D tys adK adV A s) (I : Iv D (mw cI ad) S A s H locs) (hl : Cond.fieldLink own index RX11 "weight" "J" ∈ TT) {x : Int64} (hdg : decode cc pc = .ok (.putfield index, 3)) (kk : ∀ S1 : St, S1 = setL S 0 24 x → ∀ (H1 : Heap) (locs1 : List Loc), Iv D (mw cI ad) S1 A s H1 locs1 → W p l e R s m args below meth c H1 locs1 0 0 Q (F0 m (pc + 3) ls rest)) : W p l e R s m args below meth c H locs 0 0 Q (F0 m pc ls (.long x :: .ref (ad 0) :: rest)) := k_put (S1 := setL S 0 24 x) C hK.1 I inT11 tyX11 tyX11_ok nmX11 0 11 24 (mw_0 (cI := cI) (ad := ad)) rfl (by decide) rfl hl rfl rfl rfl (Nat.le_of_ble_eq_true rfl) rfl hdg (kk _ rfl)
theorem gm_0_25 (C : CallFix p m c cc nL s args TT own) (hK : KX D tys adK adV A s) (I : Iv D (mw cI ad) S A s H locs) (hl : Cond.fieldLink own index RX11 "gain" "I" ∈ TT) (hdg : decode cc pc = .ok (.getfield index, 3)) (kk : W p l e R s m args below meth c H locs 0 0 Q (F0 m (pc + 3) ls (.int (S.1 0 25) :: rest))) : W p l e R s m args below meth c H locs 0 0 Q (F0 m pc ls (.ref (ad 0) :: rest)) := k_get C hK.1 I inT11 0 11 25 (mw_0 (cI := cI) (ad := ad)) rfl (by decide) rfl hl rfl hdg kk
theorem pm_0_25 (C : CallFix p m c cc nL s args TT own) (hK : KX D tys adK adV A s) (I : Iv D (mw cI ad) S A s H locs) (hl : Cond.fieldLink own index RX11 "gain" "I" ∈ TT) {x : Int32} (hdg : decode cc pc = .ok (.putfield index, 3)) (kk : ∀ S1 : St, S1 = setI S 0 25 x → ∀ (H1 : Heap) (locs1 : List Loc), Iv D (mw cI ad) S1 A s H1 locs1 → W p l e R s m args below meth c H1 locs1 0 0 Q (F0 m (pc + 3) ls rest)) : W p l e R s m args below meth c H locs 0 0 Q (F0 m pc ls (.int x :: .ref (ad 0) :: rest)) := k_put (S1 := setI S 0 25 x) C hK.1 I inT11 tyX11 tyX11_ok nmX11 0 11 25 (mw_0 (cI := cI) (ad := ad)) rfl (by decide) rfl hl rfl rfl rfl (Nat.le_of_ble_eq_true rfl) rfl hdg (kk _ rfl)
theorem gm_0_26 (C : CallFix p m c cc nL s args TT own) (hK : KX D tys adK adV A s) (I : Iv D (mw cI ad) S A s H locs) (hl : Cond.fieldLink own index RX11 "allDone" "Z" ∈ TT) (hdg : decode cc pc = .ok (.getfield index, 3)) (kk : W p l e R s m args below meth c H locs 0 0 Q (F0 m (pc + 3) ls (.int (S.1 0 26) :: rest))) : W p l e R s m args below meth c H locs 0 0 Q (F0 m pc ls (.ref (ad 0) :: rest)) := k_get C hK.1 I inT11 0 11 26 (mw_0 (cI := cI) (ad := ad)) rfl (by decide) rfl hl rfl hdg kk
theorem pm_0_26 (C : CallFix p m c cc nL s args TT own) (hK : KX D tys adK adV A s) (I : Iv D (mw cI ad) S A s H locs) (hl : Cond.fieldLink own index RX11 "allDone" "Z" ∈ TT) {x : Int32} (hz : zb x) (hdg : decode cc pc = .ok (.putfield index, 3)) (kk : ∀ S1 : St, S1 = setI S 0 26 x → ∀ (H1 : Heap) (locs1 : List Loc), Iv D (mw cI ad) S1 A s H1 locs1 → W p l e R s m args below meth c H1 locs1 0 0 Q (F0 m (pc + 3) ls rest)) : W p l e R s m args below meth c H locs 0 0 Q (F0 m pc ls (.int x :: .ref (ad 0) :: rest)) := k_put (S1 := setI S 0 26 x) C hK.1 I inT11 tyX11 tyX11_ok nmX11 0 11 26 (mw_0 (cI := cI) (ad := ad)) rfl (by decide) rfl hl rfl (zb_n hz) (zb_f hz) (Nat.le_of_ble_eq_true rfl) rfl hdg (kk _ rfl)
theorem gm_0_27 (C : CallFix p m c cc nL s args TT own) (hK : KX D tys adK adV A s) (I : Iv D (mw cI ad) S A s H locs) (hl : Cond.fieldLink own index RX11 "minute" "I" ∈ TT) (hdg : decode cc pc = .ok (.getfield index, 3)) (kk : W p l e R s m args below meth c H locs 0 0 Q (F0 m (pc + 3) ls (.int (S.1 0 27) :: rest))) : W p l e R s m args below meth c H locs 0 0 Q (F0 m pc ls (.ref (ad 0) :: rest)) := k_get C hK.1 I inT11 0 11 27 (mw_0 (cI := cI) (ad := ad)) rfl (by decide) rfl hl rfl hdg kk
theorem pm_0_27 (C : CallFix p m c cc nL s args TT own) (hK : KX D tys adK adV A s) (I : Iv D (mw cI ad) S A s H locs) (hl : Cond.fieldLink own index RX11 "minute" "I" ∈ TT) {x : Int32} (hdg : decode cc pc = .ok (.putfield index, 3)) (kk : ∀ S1 : St, S1 = setI S 0 27 x → ∀ (H1 : Heap) (locs1 : List Loc), Iv D (mw cI ad) S1 A s H1 locs1 → W p l e R s m args below meth c H1 locs1 0 0 Q (F0 m (pc + 3) ls rest)) : W p l e R s m args below meth c H locs 0 0 Q (F0 m pc ls (.int x :: .ref (ad 0) :: rest)) := k_put (S1 := setI S 0 27 x) C hK.1 I inT11 tyX11 tyX11_ok nmX11 0 11 27 (mw_0 (cI := cI) (ad := ad)) rfl (by decide) rfl hl rfl rfl rfl (Nat.le_of_ble_eq_true rfl) rfl hdg (kk _ rfl)
theorem gm_0_28 (C : CallFix p m c cc nL s args TT own) (hK : KX D tys adK adV A s) (I : Iv D (mw cI ad) S A s H locs) (hl : Cond.fieldLink own index RX11 "doneSet" "I" ∈ TT) (hdg : decode cc pc = .ok (.getfield index, 3)) (kk : W p l e R s m args below meth c H locs 0 0 Q (F0 m (pc + 3) ls (.int (S.1 0 28) :: rest))) : W p l e R s m args below meth c H locs 0 0 Q (F0 m pc ls (.ref (ad 0) :: rest)) := k_get C hK.1 I inT11 0 11 28 (mw_0 (cI := cI) (ad := ad)) rfl (by decide) rfl hl rfl hdg kk
theorem pm_0_28 (C : CallFix p m c cc nL s args TT own) (hK : KX D tys adK adV A s) (I : Iv D (mw cI ad) S A s H locs) (hl : Cond.fieldLink own index RX11 "doneSet" "I" ∈ TT) {x : Int32} (hdg : decode cc pc = .ok (.putfield index, 3)) (kk : ∀ S1 : St, S1 = setI S 0 28 x → ∀ (H1 : Heap) (locs1 : List Loc), Iv D (mw cI ad) S1 A s H1 locs1 → W p l e R s m args below meth c H1 locs1 0 0 Q (F0 m (pc + 3) ls rest)) : W p l e R s m args below meth c H locs 0 0 Q (F0 m pc ls (.int x :: .ref (ad 0) :: rest)) := k_put (S1 := setI S 0 28 x) C hK.1 I inT11 tyX11 tyX11_ok nmX11 0 11 28 (mw_0 (cI := cI) (ad := ad)) rfl (by decide) rfl hl rfl rfl rfl (Nat.le_of_ble_eq_true rfl) rfl hdg (kk _ rfl)
theorem gm_0_29 (C : CallFix p m c cc nL s args TT own) (hK : KX D tys adK adV A s) (I : Iv D (mw cI ad) S A s H locs) (hl : Cond.fieldLink own index RX11 "bagLeft" "I" ∈ TT) (hdg : decode cc pc = .ok (.getfield index, 3)) (kk : W p l e R s m args below meth c H locs 0 0 Q (F0 m (pc + 3) ls (.int (S.1 0 29) :: rest))) : W p l e R s m args below meth c H locs 0 0 Q (F0 m pc ls (.ref (ad 0) :: rest)) := k_get C hK.1 I inT11 0 11 29 (mw_0 (cI := cI) (ad := ad)) rfl (by decide) rfl hl rfl hdg kk
theorem pm_0_29 (C : CallFix p m c cc nL s args TT own) (hK : KX D tys adK adV A s) (I : Iv D (mw cI ad) S A s H locs) (hl : Cond.fieldLink own index RX11 "bagLeft" "I" ∈ TT) {x : Int32} (hdg : decode cc pc = .ok (.putfield index, 3)) (kk : ∀ S1 : St, S1 = setI S 0 29 x → ∀ (H1 : Heap) (locs1 : List Loc), Iv D (mw cI ad) S1 A s H1 locs1 → W p l e R s m args below meth c H1 locs1 0 0 Q (F0 m (pc + 3) ls rest)) : W p l e R s m args below meth c H locs 0 0 Q (F0 m pc ls (.int x :: .ref (ad 0) :: rest)) := k_put (S1 := setI S 0 29 x) C hK.1 I inT11 tyX11 tyX11_ok nmX11 0 11 29 (mw_0 (cI := cI) (ad := ad)) rfl (by decide) rfl hl rfl rfl rfl (Nat.le_of_ble_eq_true rfl) rfl hdg (kk _ rfl)
theorem gm_0_30 (C : CallFix p m c cc nL s args TT own) (hK : KX D tys adK adV A s) (I : Iv D (mw cI ad) S A s H locs) (hl : Cond.fieldLink own index RX11 "chosen" "[I" ∈ TT) (hdg : decode cc pc = .ok (.getfield index, 3)) (kk : W p l e R s m args below meth c H locs 0 0 Q (F0 m (pc + 3) ls (.ref (ad 11) :: rest))) : W p l e R s m args below meth c H locs 0 0 Q (F0 m pc ls (.ref (ad 0) :: rest)) := k_get C hK.1 I inT11 0 11 30 (mw_0 (cI := cI) (ad := ad)) rfl (by decide) rfl hl rfl hdg kk
theorem mw_1 : (mw cI ad S)[1]? = some (ad 1, .inl (cI, 200, .inl (S.1 1))) := rfl
theorem am_1 (C : CallFix p m c cc nL s args TT own) (hK : KX D (xtys cI cC cS) adK adV A s) (I : Iv D (mw cI ad) S A s H locs) {i : Int32} (hin : ixo i 200) (hdg : decode cc pc = .ok (.iaload, 1)) (kk : W p l e R s m args below meth c H locs 0 0 Q (F0 m (pc + 1) ls (.int (S.1 1 i.toNatClampNeg) :: rest))) : W p l e R s m args below meth c H locs 0 0 Q (F0 m pc ls (.int i :: .ref (ad 1) :: rest)) := k_ald C hK.1 I 1 0 (mw_1 (cI := cI) (ad := ad)) rfl hin hdg kk
theorem bm_1 (C : CallFix p m c cc nL s args TT own) (hK : KX D (xtys cI cC cS) adK adV A s) (I : Iv D (mw cI ad) S A s H locs) {i x : Int32} (hin : ixo i 200) (hdg : decode cc pc = .ok (.iastore, 1)) (kk : ∀ S1 : St, S1 = setI S 1 i.toNatClampNeg x → ∀ (H1 : Heap) (locs1 : List Loc), Iv D (mw cI ad) S1 A s H1 locs1 → W p l e R s m args below meth c H1 locs1 0 0 Q (F0 m (pc + 1) ls rest)) : W p l e R s m args below meth c H locs 0 0 Q (F0 m pc ls (.int x :: .int i :: .ref (ad 1) :: rest)) := k_ast (S1 := setI S 1 i.toNatClampNeg x) C hK.1 I 1 0 (mw_1 (cI := cI) (ad := ad)) rfl hin rfl hdg (kk _ rfl)
theorem mw_2 : (mw cI ad S)[2]? = some (ad 2, .inl (cI, 80, .inl (S.1 2))) := rfl
theorem am_2 (C : CallFix p m c cc nL s args TT own) (hK : KX D (xtys cI cC cS) adK adV A s) (I : Iv D (mw cI ad) S A s H locs) {i : Int32} (hin : ixo i 80) (hdg : decode cc pc = .ok (.iaload, 1)) (kk : W p l e R s m args below meth c H locs 0 0 Q (F0 m (pc + 1) ls (.int (S.1 2 i.toNatClampNeg) :: rest))) : W p l e R s m args below meth c H locs 0 0 Q (F0 m pc ls (.int i :: .ref (ad 2) :: rest)) := k_ald C hK.1 I 2 0 (mw_2 (cI := cI) (ad := ad)) rfl hin hdg kk
theorem bm_2 (C : CallFix p m c cc nL s args TT own) (hK : KX D (xtys cI cC cS) adK adV A s) (I : Iv D (mw cI ad) S A s H locs) {i x : Int32} (hin : ixo i 80) (hdg : decode cc pc = .ok (.iastore, 1)) (kk : ∀ S1 : St, S1 = setI S 2 i.toNatClampNeg x → ∀ (H1 : Heap) (locs1 : List Loc), Iv D (mw cI ad) S1 A s H1 locs1 → W p l e R s m args below meth c H1 locs1 0 0 Q (F0 m (pc + 1) ls rest)) : W p l e R s m args below meth c H locs 0 0 Q (F0 m pc ls (.int x :: .int i :: .ref (ad 2) :: rest)) := k_ast (S1 := setI S 2 i.toNatClampNeg x) C hK.1 I 2 0 (mw_2 (cI := cI) (ad := ad)) rfl hin rfl hdg (kk _ rfl)
theorem mw_3 : (mw cI ad S)[3]? = some (ad 3, .inl (cI, 8, .inl (S.1 3))) := rfl
theorem am_3 (C : CallFix p m c cc nL s args TT own) (hK : KX D (xtys cI cC cS) adK adV A s) (I : Iv D (mw cI ad) S A s H locs) {i : Int32} (hin : ixo i 8) (hdg : decode cc pc = .ok (.iaload, 1)) (kk : W p l e R s m args below meth c H locs 0 0 Q (F0 m (pc + 1) ls (.int (S.1 3 i.toNatClampNeg) :: rest))) : W p l e R s m args below meth c H locs 0 0 Q (F0 m pc ls (.int i :: .ref (ad 3) :: rest)) := k_ald C hK.1 I 3 0 (mw_3 (cI := cI) (ad := ad)) rfl hin hdg kk
theorem bm_3 (C : CallFix p m c cc nL s args TT own) (hK : KX D (xtys cI cC cS) adK adV A s) (I : Iv D (mw cI ad) S A s H locs) {i x : Int32} (hin : ixo i 8) (hdg : decode cc pc = .ok (.iastore, 1)) (kk : ∀ S1 : St, S1 = setI S 3 i.toNatClampNeg x → ∀ (H1 : Heap) (locs1 : List Loc), Iv D (mw cI ad) S1 A s H1 locs1 → W p l e R s m args below meth c H1 locs1 0 0 Q (F0 m (pc + 1) ls rest)) : W p l e R s m args below meth c H locs 0 0 Q (F0 m pc ls (.int x :: .int i :: .ref (ad 3) :: rest)) := k_ast (S1 := setI S 3 i.toNatClampNeg x) C hK.1 I 3 0 (mw_3 (cI := cI) (ad := ad)) rfl hin rfl hdg (kk _ rfl)
theorem mw_4 : (mw cI ad S)[4]? = some (ad 4, .inl (cI, 8, .inl (S.1 4))) := rfl
theorem am_4 (C : CallFix p m c cc nL s args TT own) (hK : KX D (xtys cI cC cS) adK adV A s) (I : Iv D (mw cI ad) S A s H locs) {i : Int32} (hin : ixo i 8) (hdg : decode cc pc = .ok (.iaload, 1)) (kk : W p l e R s m args below meth c H locs 0 0 Q (F0 m (pc + 1) ls (.int (S.1 4 i.toNatClampNeg) :: rest))) : W p l e R s m args below meth c H locs 0 0 Q (F0 m pc ls (.int i :: .ref (ad 4) :: rest)) := k_ald C hK.1 I 4 0 (mw_4 (cI := cI) (ad := ad)) rfl hin hdg kk
theorem bm_4 (C : CallFix p m c cc nL s args TT own) (hK : KX D (xtys cI cC cS) adK adV A s) (I : Iv D (mw cI ad) S A s H locs) {i x : Int32} (hin : ixo i 8) (hdg : decode cc pc = .ok (.iastore, 1)) (kk : ∀ S1 : St, S1 = setI S 4 i.toNatClampNeg x → ∀ (H1 : Heap) (locs1 : List Loc), Iv D (mw cI ad) S1 A s H1 locs1 → W p l e R s m args below meth c H1 locs1 0 0 Q (F0 m (pc + 1) ls rest)) : W p l e R s m args below meth c H locs 0 0 Q (F0 m pc ls (.int x :: .int i :: .ref (ad 4) :: rest)) := k_ast (S1 := setI S 4 i.toNatClampNeg x) C hK.1 I 4 0 (mw_4 (cI := cI) (ad := ad)) rfl hin rfl hdg (kk _ rfl)
theorem mw_5 : (mw cI ad S)[5]? = some (ad 5, .inl (cI, 36, .inl (S.1 5))) := rfl
theorem am_5 (C : CallFix p m c cc nL s args TT own) (hK : KX D (xtys cI cC cS) adK adV A s) (I : Iv D (mw cI ad) S A s H locs) {i : Int32} (hin : ixo i 36) (hdg : decode cc pc = .ok (.iaload, 1)) (kk : W p l e R s m args below meth c H locs 0 0 Q (F0 m (pc + 1) ls (.int (S.1 5 i.toNatClampNeg) :: rest))) : W p l e R s m args below meth c H locs 0 0 Q (F0 m pc ls (.int i :: .ref (ad 5) :: rest)) := k_ald C hK.1 I 5 0 (mw_5 (cI := cI) (ad := ad)) rfl hin hdg kk
theorem bm_5 (C : CallFix p m c cc nL s args TT own) (hK : KX D (xtys cI cC cS) adK adV A s) (I : Iv D (mw cI ad) S A s H locs) {i x : Int32} (hin : ixo i 36) (hdg : decode cc pc = .ok (.iastore, 1)) (kk : ∀ S1 : St, S1 = setI S 5 i.toNatClampNeg x → ∀ (H1 : Heap) (locs1 : List Loc), Iv D (mw cI ad) S1 A s H1 locs1 → W p l e R s m args below meth c H1 locs1 0 0 Q (F0 m (pc + 1) ls rest)) : W p l e R s m args below meth c H locs 0 0 Q (F0 m pc ls (.int x :: .int i :: .ref (ad 5) :: rest)) := k_ast (S1 := setI S 5 i.toNatClampNeg x) C hK.1 I 5 0 (mw_5 (cI := cI) (ad := ad)) rfl hin rfl hdg (kk _ rfl)
theorem mw_6 : (mw cI ad S)[6]? = some (ad 6, .inl (cI, 36, .inl (S.1 6))) := rfl
theorem am_6 (C : CallFix p m c cc nL s args TT own) (hK : KX D (xtys cI cC cS) adK adV A s) (I : Iv D (mw cI ad) S A s H locs) {i : Int32} (hin : ixo i 36) (hdg : decode cc pc = .ok (.iaload, 1)) (kk : W p l e R s m args below meth c H locs 0 0 Q (F0 m (pc + 1) ls (.int (S.1 6 i.toNatClampNeg) :: rest))) : W p l e R s m args below meth c H locs 0 0 Q (F0 m pc ls (.int i :: .ref (ad 6) :: rest)) := k_ald C hK.1 I 6 0 (mw_6 (cI := cI) (ad := ad)) rfl hin hdg kk
theorem bm_6 (C : CallFix p m c cc nL s args TT own) (hK : KX D (xtys cI cC cS) adK adV A s) (I : Iv D (mw cI ad) S A s H locs) {i x : Int32} (hin : ixo i 36) (hdg : decode cc pc = .ok (.iastore, 1)) (kk : ∀ S1 : St, S1 = setI S 6 i.toNatClampNeg x → ∀ (H1 : Heap) (locs1 : List Loc), Iv D (mw cI ad) S1 A s H1 locs1 → W p l e R s m args below meth c H1 locs1 0 0 Q (F0 m (pc + 1) ls rest)) : W p l e R s m args below meth c H locs 0 0 Q (F0 m pc ls (.int x :: .int i :: .ref (ad 6) :: rest)) := k_ast (S1 := setI S 6 i.toNatClampNeg x) C hK.1 I 6 0 (mw_6 (cI := cI) (ad := ad)) rfl hin rfl hdg (kk _ rfl)
theorem mw_7 : (mw cI ad S)[7]? = some (ad 7, .inl (cI, 6, .inl (S.1 7))) := rfl
theorem am_7 (C : CallFix p m c cc nL s args TT own) (hK : KX D (xtys cI cC cS) adK adV A s) (I : Iv D (mw cI ad) S A s H locs) {i : Int32} (hin : ixo i 6) (hdg : decode cc pc = .ok (.iaload, 1)) (kk : W p l e R s m args below meth c H locs 0 0 Q (F0 m (pc + 1) ls (.int (S.1 7 i.toNatClampNeg) :: rest))) : W p l e R s m args below meth c H locs 0 0 Q (F0 m pc ls (.int i :: .ref (ad 7) :: rest)) := k_ald C hK.1 I 7 0 (mw_7 (cI := cI) (ad := ad)) rfl hin hdg kk
theorem bm_7 (C : CallFix p m c cc nL s args TT own) (hK : KX D (xtys cI cC cS) adK adV A s) (I : Iv D (mw cI ad) S A s H locs) {i x : Int32} (hin : ixo i 6) (hdg : decode cc pc = .ok (.iastore, 1)) (kk : ∀ S1 : St, S1 = setI S 7 i.toNatClampNeg x → ∀ (H1 : Heap) (locs1 : List Loc), Iv D (mw cI ad) S1 A s H1 locs1 → W p l e R s m args below meth c H1 locs1 0 0 Q (F0 m (pc + 1) ls rest)) : W p l e R s m args below meth c H locs 0 0 Q (F0 m pc ls (.int x :: .int i :: .ref (ad 7) :: rest)) := k_ast (S1 := setI S 7 i.toNatClampNeg x) C hK.1 I 7 0 (mw_7 (cI := cI) (ad := ad)) rfl hin rfl hdg (kk _ rfl)
theorem mw_8 : (mw cI ad S)[8]? = some (ad 8, .inl (cI, 96, .inl (S.1 8))) := rfl
theorem am_8 (C : CallFix p m c cc nL s args TT own) (hK : KX D (xtys cI cC cS) adK adV A s) (I : Iv D (mw cI ad) S A s H locs) {i : Int32} (hin : ixo i 96) (hdg : decode cc pc = .ok (.iaload, 1)) (kk : W p l e R s m args below meth c H locs 0 0 Q (F0 m (pc + 1) ls (.int (S.1 8 i.toNatClampNeg) :: rest))) : W p l e R s m args below meth c H locs 0 0 Q (F0 m pc ls (.int i :: .ref (ad 8) :: rest)) := k_ald C hK.1 I 8 0 (mw_8 (cI := cI) (ad := ad)) rfl hin hdg kk
theorem bm_8 (C : CallFix p m c cc nL s args TT own) (hK : KX D (xtys cI cC cS) adK adV A s) (I : Iv D (mw cI ad) S A s H locs) {i x : Int32} (hin : ixo i 96) (hdg : decode cc pc = .ok (.iastore, 1)) (kk : ∀ S1 : St, S1 = setI S 8 i.toNatClampNeg x → ∀ (H1 : Heap) (locs1 : List Loc), Iv D (mw cI ad) S1 A s H1 locs1 → W p l e R s m args below meth c H1 locs1 0 0 Q (F0 m (pc + 1) ls rest)) : W p l e R s m args below meth c H locs 0 0 Q (F0 m pc ls (.int x :: .int i :: .ref (ad 8) :: rest)) := k_ast (S1 := setI S 8 i.toNatClampNeg x) C hK.1 I 8 0 (mw_8 (cI := cI) (ad := ad)) rfl hin rfl hdg (kk _ rfl)
theorem mw_9 : (mw cI ad S)[9]? = some (ad 9, .inl (cI, 48, .inl (S.1 9))) := rfl
theorem am_9 (C : CallFix p m c cc nL s args TT own) (hK : KX D (xtys cI cC cS) adK adV A s) (I : Iv D (mw cI ad) S A s H locs) {i : Int32} (hin : ixo i 48) (hdg : decode cc pc = .ok (.iaload, 1)) (kk : W p l e R s m args below meth c H locs 0 0 Q (F0 m (pc + 1) ls (.int (S.1 9 i.toNatClampNeg) :: rest))) : W p l e R s m args below meth c H locs 0 0 Q (F0 m pc ls (.int i :: .ref (ad 9) :: rest)) := k_ald C hK.1 I 9 0 (mw_9 (cI := cI) (ad := ad)) rfl hin hdg kk
theorem bm_9 (C : CallFix p m c cc nL s args TT own) (hK : KX D (xtys cI cC cS) adK adV A s) (I : Iv D (mw cI ad) S A s H locs) {i x : Int32} (hin : ixo i 48) (hdg : decode cc pc = .ok (.iastore, 1)) (kk : ∀ S1 : St, S1 = setI S 9 i.toNatClampNeg x → ∀ (H1 : Heap) (locs1 : List Loc), Iv D (mw cI ad) S1 A s H1 locs1 → W p l e R s m args below meth c H1 locs1 0 0 Q (F0 m (pc + 1) ls rest)) : W p l e R s m args below meth c H locs 0 0 Q (F0 m pc ls (.int x :: .int i :: .ref (ad 9) :: rest)) := k_ast (S1 := setI S 9 i.toNatClampNeg x) C hK.1 I 9 0 (mw_9 (cI := cI) (ad := ad)) rfl hin rfl hdg (kk _ rfl)
theorem mw_10 : (mw cI ad S)[10]? = some (ad 10, .inl (cI, 6, .inl (S.1 10))) := rfl
theorem am_10 (C : CallFix p m c cc nL s args TT own) (hK : KX D (xtys cI cC cS) adK adV A s) (I : Iv D (mw cI ad) S A s H locs) {i : Int32} (hin : ixo i 6) (hdg : decode cc pc = .ok (.iaload, 1)) (kk : W p l e R s m args below meth c H locs 0 0 Q (F0 m (pc + 1) ls (.int (S.1 10 i.toNatClampNeg) :: rest))) : W p l e R s m args below meth c H locs 0 0 Q (F0 m pc ls (.int i :: .ref (ad 10) :: rest)) := k_ald C hK.1 I 10 0 (mw_10 (cI := cI) (ad := ad)) rfl hin hdg kk
theorem bm_10 (C : CallFix p m c cc nL s args TT own) (hK : KX D (xtys cI cC cS) adK adV A s) (I : Iv D (mw cI ad) S A s H locs) {i x : Int32} (hin : ixo i 6) (hdg : decode cc pc = .ok (.iastore, 1)) (kk : ∀ S1 : St, S1 = setI S 10 i.toNatClampNeg x → ∀ (H1 : Heap) (locs1 : List Loc), Iv D (mw cI ad) S1 A s H1 locs1 → W p l e R s m args below meth c H1 locs1 0 0 Q (F0 m (pc + 1) ls rest)) : W p l e R s m args below meth c H locs 0 0 Q (F0 m pc ls (.int x :: .int i :: .ref (ad 10) :: rest)) := k_ast (S1 := setI S 10 i.toNatClampNeg x) C hK.1 I 10 0 (mw_10 (cI := cI) (ad := ad)) rfl hin rfl hdg (kk _ rfl)
theorem mw_11 : (mw cI ad S)[11]? = some (ad 11, .inl (cI, 6, .inl (S.1 11))) := rfl
theorem am_11 (C : CallFix p m c cc nL s args TT own) (hK : KX D (xtys cI cC cS) adK adV A s) (I : Iv D (mw cI ad) S A s H locs) {i : Int32} (hin : ixo i 6) (hdg : decode cc pc = .ok (.iaload, 1)) (kk : W p l e R s m args below meth c H locs 0 0 Q (F0 m (pc + 1) ls (.int (S.1 11 i.toNatClampNeg) :: rest))) : W p l e R s m args below meth c H locs 0 0 Q (F0 m pc ls (.int i :: .ref (ad 11) :: rest)) := k_ald C hK.1 I 11 0 (mw_11 (cI := cI) (ad := ad)) rfl hin hdg kk
theorem bm_11 (C : CallFix p m c cc nL s args TT own) (hK : KX D (xtys cI cC cS) adK adV A s) (I : Iv D (mw cI ad) S A s H locs) {i x : Int32} (hin : ixo i 6) (hdg : decode cc pc = .ok (.iastore, 1)) (kk : ∀ S1 : St, S1 = setI S 11 i.toNatClampNeg x → ∀ (H1 : Heap) (locs1 : List Loc), Iv D (mw cI ad) S1 A s H1 locs1 → W p l e R s m args below meth c H1 locs1 0 0 Q (F0 m (pc + 1) ls rest)) : W p l e R s m args below meth c H locs 0 0 Q (F0 m pc ls (.int x :: .int i :: .ref (ad 11) :: rest)) := k_ast (S1 := setI S 11 i.toNatClampNeg x) C hK.1 I 11 0 (mw_11 (cI := cI) (ad := ad)) rfl hin rfl hdg (kk _ rfl)
theorem xw_C : ∀ c : Fin 6, (xw cI cC cS ad S)[21 + c.val]? = some (ad (21 + c.val), .inr (1, [.ref (ad (27 + c.val)), .int (S.1 (21 + c.val) 1), .int (S.1 (21 + c.val) 2), .int (S.1 (21 + c.val) 3), .int (S.1 (21 + c.val) 4), .int (S.1 (21 + c.val) 5), .int (S.1 (21 + c.val) 6), .int (S.1 (21 + c.val) 7), .int (S.1 (21 + c.val) 8), .int (S.1 (21 + c.val) 9)]))
  | ⟨0, _⟩ => rfl
  | ⟨1, _⟩ => rfl
  | ⟨2, _⟩ => rfl
  | ⟨3, _⟩ => rfl
  | ⟨4, _⟩ => rfl
  | ⟨5, _⟩ => rfl
  | ⟨n + 6, h⟩ => absurd h (by omega)
theorem gx_C_1 (C : CallFix p m c cc nL s args TT own) (hK : KX D tys adK adV A s) (I : Iv D (xw cI cC cS ad) S A s H locs) (hl : Cond.fieldLink own index RX1 "sortCount" "I" ∈ TT) (hdg : decode cc pc = .ok (.getfield index, 3)) {q : Fin 6} (kk : W p l e R s m args below meth c H locs 0 0 Q (F0 m (pc + 3) ls (.int (S.1 (21 + q.val) 1) :: rest))) : W p l e R s m args below meth c H locs 0 0 Q (F0 m pc ls (.ref (ad (21 + q.val)) :: rest)) := k_get C hK.1 I inT1 (21 + q.val) 1 1 (xw_C (cI := cI) (cC := cC) (cS := cS) (ad := ad) q) rfl (by decide) rfl hl rfl hdg kk
theorem gxN_C_1 (C : CallFix p m c cc nL s args TT own) (hK : KX D tys adK adV A s) (I : Iv D (xw cI cC cS ad) S A s H locs) (hl : Cond.fieldLinkNest own index RX1 "sortCount" "I" host ∈ NN) (hdg : decode cc pc = .ok (.getfield index, 3)) {q : Fin 6} (kk : W p l e R s m args below meth c H locs 0 0 Q (F0 m (pc + 3) ls (.int (S.1 (21 + q.val) 1) :: rest))) : W p l e R s m args below meth c H locs 0 0 Q (F0 m pc ls (.ref (ad (21 + q.val)) :: rest)) := k_getN C hK.1 hK.2.1 I inT1 (21 + q.val) 1 1 (xw_C (cI := cI) (cC := cC) (cS := cS) (ad := ad) q) rfl (by decide) rfl hl rfl hdg kk
theorem xs_C_1 {x : Int32} : ∀ c : Fin 6, (xw cI cC cS ad S).set (21 + c.val) (ad (21 + c.val), .inr (1, ([.ref (ad (27 + c.val)), .int (S.1 (21 + c.val) 1), .int (S.1 (21 + c.val) 2), .int (S.1 (21 + c.val) 3), .int (S.1 (21 + c.val) 4), .int (S.1 (21 + c.val) 5), .int (S.1 (21 + c.val) 6), .int (S.1 (21 + c.val) 7), .int (S.1 (21 + c.val) 8), .int (S.1 (21 + c.val) 9)] : List Value).set 1 (.int x))) = xw cI cC cS ad (setI S (21 + c.val) 1 x)
  | ⟨0, _⟩ => rfl
  | ⟨1, _⟩ => rfl
  | ⟨2, _⟩ => rfl
  | ⟨3, _⟩ => rfl
  | ⟨4, _⟩ => rfl
  | ⟨5, _⟩ => rfl
  | ⟨n + 6, h⟩ => absurd h (by omega)
theorem px_C_1 (C : CallFix p m c cc nL s args TT own) (hK : KX D tys adK adV A s) (I : Iv D (xw cI cC cS ad) S A s H locs) (hl : Cond.fieldLink own index RX1 "sortCount" "I" ∈ TT) {x : Int32} (hdg : decode cc pc = .ok (.putfield index, 3)) {q : Fin 6} (kk : ∀ S1 : St, S1 = setI S (21 + q.val) 1 x → ∀ (H1 : Heap) (locs1 : List Loc), Iv D (xw cI cC cS ad) S1 A s H1 locs1 → W p l e R s m args below meth c H1 locs1 0 0 Q (F0 m (pc + 3) ls rest)) : W p l e R s m args below meth c H locs 0 0 Q (F0 m pc ls (.int x :: .ref (ad (21 + q.val)) :: rest)) := k_put (S1 := setI S (21 + q.val) 1 x) C hK.1 I inT1 tyX1 tyX1_ok nmX1 (21 + q.val) 1 1 (xw_C (cI := cI) (cC := cC) (cS := cS) (ad := ad) q) rfl (by decide) rfl hl rfl rfl rfl (Nat.le_of_ble_eq_true rfl) (xs_C_1 q) hdg (kk _ rfl)
theorem gx_C_2 (C : CallFix p m c cc nL s args TT own) (hK : KX D tys adK adV A s) (I : Iv D (xw cI cC cS ad) S A s H locs) (hl : Cond.fieldLink own index RX1 "likely" "I" ∈ TT) (hdg : decode cc pc = .ok (.getfield index, 3)) {q : Fin 6} (kk : W p l e R s m args below meth c H locs 0 0 Q (F0 m (pc + 3) ls (.int (S.1 (21 + q.val) 2) :: rest))) : W p l e R s m args below meth c H locs 0 0 Q (F0 m pc ls (.ref (ad (21 + q.val)) :: rest)) := k_get C hK.1 I inT1 (21 + q.val) 1 2 (xw_C (cI := cI) (cC := cC) (cS := cS) (ad := ad) q) rfl (by decide) rfl hl rfl hdg kk
theorem gxN_C_2 (C : CallFix p m c cc nL s args TT own) (hK : KX D tys adK adV A s) (I : Iv D (xw cI cC cS ad) S A s H locs) (hl : Cond.fieldLinkNest own index RX1 "likely" "I" host ∈ NN) (hdg : decode cc pc = .ok (.getfield index, 3)) {q : Fin 6} (kk : W p l e R s m args below meth c H locs 0 0 Q (F0 m (pc + 3) ls (.int (S.1 (21 + q.val) 2) :: rest))) : W p l e R s m args below meth c H locs 0 0 Q (F0 m pc ls (.ref (ad (21 + q.val)) :: rest)) := k_getN C hK.1 hK.2.1 I inT1 (21 + q.val) 1 2 (xw_C (cI := cI) (cC := cC) (cS := cS) (ad := ad) q) rfl (by decide) rfl hl rfl hdg kk
theorem xs_C_2 {x : Int32} : ∀ c : Fin 6, (xw cI cC cS ad S).set (21 + c.val) (ad (21 + c.val), .inr (1, ([.ref (ad (27 + c.val)), .int (S.1 (21 + c.val) 1), .int (S.1 (21 + c.val) 2), .int (S.1 (21 + c.val) 3), .int (S.1 (21 + c.val) 4), .int (S.1 (21 + c.val) 5), .int (S.1 (21 + c.val) 6), .int (S.1 (21 + c.val) 7), .int (S.1 (21 + c.val) 8), .int (S.1 (21 + c.val) 9)] : List Value).set 2 (.int x))) = xw cI cC cS ad (setI S (21 + c.val) 2 x)
  | ⟨0, _⟩ => rfl
  | ⟨1, _⟩ => rfl
  | ⟨2, _⟩ => rfl
  | ⟨3, _⟩ => rfl
  | ⟨4, _⟩ => rfl
  | ⟨5, _⟩ => rfl
  | ⟨n + 6, h⟩ => absurd h (by omega)
theorem px_C_2 (C : CallFix p m c cc nL s args TT own) (hK : KX D tys adK adV A s) (I : Iv D (xw cI cC cS ad) S A s H locs) (hl : Cond.fieldLink own index RX1 "likely" "I" ∈ TT) {x : Int32} (hdg : decode cc pc = .ok (.putfield index, 3)) {q : Fin 6} (kk : ∀ S1 : St, S1 = setI S (21 + q.val) 2 x → ∀ (H1 : Heap) (locs1 : List Loc), Iv D (xw cI cC cS ad) S1 A s H1 locs1 → W p l e R s m args below meth c H1 locs1 0 0 Q (F0 m (pc + 3) ls rest)) : W p l e R s m args below meth c H locs 0 0 Q (F0 m pc ls (.int x :: .ref (ad (21 + q.val)) :: rest)) := k_put (S1 := setI S (21 + q.val) 2 x) C hK.1 I inT1 tyX1 tyX1_ok nmX1 (21 + q.val) 1 2 (xw_C (cI := cI) (cC := cC) (cS := cS) (ad := ad) q) rfl (by decide) rfl hl rfl rfl rfl (Nat.le_of_ble_eq_true rfl) (xs_C_2 q) hdg (kk _ rfl)
theorem gx_C_3 (C : CallFix p m c cc nL s args TT own) (hK : KX D tys adK adV A s) (I : Iv D (xw cI cC cS ad) S A s H locs) (hl : Cond.fieldLink own index RX1 "told" "Z" ∈ TT) (hdg : decode cc pc = .ok (.getfield index, 3)) {q : Fin 6} (kk : W p l e R s m args below meth c H locs 0 0 Q (F0 m (pc + 3) ls (.int (S.1 (21 + q.val) 3) :: rest))) : W p l e R s m args below meth c H locs 0 0 Q (F0 m pc ls (.ref (ad (21 + q.val)) :: rest)) := k_get C hK.1 I inT1 (21 + q.val) 1 3 (xw_C (cI := cI) (cC := cC) (cS := cS) (ad := ad) q) rfl (by decide) rfl hl rfl hdg kk
theorem gxN_C_3 (C : CallFix p m c cc nL s args TT own) (hK : KX D tys adK adV A s) (I : Iv D (xw cI cC cS ad) S A s H locs) (hl : Cond.fieldLinkNest own index RX1 "told" "Z" host ∈ NN) (hdg : decode cc pc = .ok (.getfield index, 3)) {q : Fin 6} (kk : W p l e R s m args below meth c H locs 0 0 Q (F0 m (pc + 3) ls (.int (S.1 (21 + q.val) 3) :: rest))) : W p l e R s m args below meth c H locs 0 0 Q (F0 m pc ls (.ref (ad (21 + q.val)) :: rest)) := k_getN C hK.1 hK.2.1 I inT1 (21 + q.val) 1 3 (xw_C (cI := cI) (cC := cC) (cS := cS) (ad := ad) q) rfl (by decide) rfl hl rfl hdg kk
theorem xs_C_3 {x : Int32} : ∀ c : Fin 6, (xw cI cC cS ad S).set (21 + c.val) (ad (21 + c.val), .inr (1, ([.ref (ad (27 + c.val)), .int (S.1 (21 + c.val) 1), .int (S.1 (21 + c.val) 2), .int (S.1 (21 + c.val) 3), .int (S.1 (21 + c.val) 4), .int (S.1 (21 + c.val) 5), .int (S.1 (21 + c.val) 6), .int (S.1 (21 + c.val) 7), .int (S.1 (21 + c.val) 8), .int (S.1 (21 + c.val) 9)] : List Value).set 3 (.int x))) = xw cI cC cS ad (setI S (21 + c.val) 3 x)
  | ⟨0, _⟩ => rfl
  | ⟨1, _⟩ => rfl
  | ⟨2, _⟩ => rfl
  | ⟨3, _⟩ => rfl
  | ⟨4, _⟩ => rfl
  | ⟨5, _⟩ => rfl
  | ⟨n + 6, h⟩ => absurd h (by omega)
theorem px_C_3 (C : CallFix p m c cc nL s args TT own) (hK : KX D tys adK adV A s) (I : Iv D (xw cI cC cS ad) S A s H locs) (hl : Cond.fieldLink own index RX1 "told" "Z" ∈ TT) {x : Int32} (hz : zb x) (hdg : decode cc pc = .ok (.putfield index, 3)) {q : Fin 6} (kk : ∀ S1 : St, S1 = setI S (21 + q.val) 3 x → ∀ (H1 : Heap) (locs1 : List Loc), Iv D (xw cI cC cS ad) S1 A s H1 locs1 → W p l e R s m args below meth c H1 locs1 0 0 Q (F0 m (pc + 3) ls rest)) : W p l e R s m args below meth c H locs 0 0 Q (F0 m pc ls (.int x :: .ref (ad (21 + q.val)) :: rest)) := k_put (S1 := setI S (21 + q.val) 3 x) C hK.1 I inT1 tyX1 tyX1_ok nmX1 (21 + q.val) 1 3 (xw_C (cI := cI) (cC := cC) (cS := cS) (ad := ad) q) rfl (by decide) rfl hl rfl (zb_n hz) (zb_f hz) (Nat.le_of_ble_eq_true rfl) (xs_C_3 q) hdg (kk _ rfl)
theorem gx_C_4 (C : CallFix p m c cc nL s args TT own) (hK : KX D tys adK adV A s) (I : Iv D (xw cI cC cS ad) S A s H locs) (hl : Cond.fieldLink own index RX1 "place" "I" ∈ TT) (hdg : decode cc pc = .ok (.getfield index, 3)) {q : Fin 6} (kk : W p l e R s m args below meth c H locs 0 0 Q (F0 m (pc + 3) ls (.int (S.1 (21 + q.val) 4) :: rest))) : W p l e R s m args below meth c H locs 0 0 Q (F0 m pc ls (.ref (ad (21 + q.val)) :: rest)) := k_get C hK.1 I inT1 (21 + q.val) 1 4 (xw_C (cI := cI) (cC := cC) (cS := cS) (ad := ad) q) rfl (by decide) rfl hl rfl hdg kk
theorem gxN_C_4 (C : CallFix p m c cc nL s args TT own) (hK : KX D tys adK adV A s) (I : Iv D (xw cI cC cS ad) S A s H locs) (hl : Cond.fieldLinkNest own index RX1 "place" "I" host ∈ NN) (hdg : decode cc pc = .ok (.getfield index, 3)) {q : Fin 6} (kk : W p l e R s m args below meth c H locs 0 0 Q (F0 m (pc + 3) ls (.int (S.1 (21 + q.val) 4) :: rest))) : W p l e R s m args below meth c H locs 0 0 Q (F0 m pc ls (.ref (ad (21 + q.val)) :: rest)) := k_getN C hK.1 hK.2.1 I inT1 (21 + q.val) 1 4 (xw_C (cI := cI) (cC := cC) (cS := cS) (ad := ad) q) rfl (by decide) rfl hl rfl hdg kk
theorem xs_C_4 {x : Int32} : ∀ c : Fin 6, (xw cI cC cS ad S).set (21 + c.val) (ad (21 + c.val), .inr (1, ([.ref (ad (27 + c.val)), .int (S.1 (21 + c.val) 1), .int (S.1 (21 + c.val) 2), .int (S.1 (21 + c.val) 3), .int (S.1 (21 + c.val) 4), .int (S.1 (21 + c.val) 5), .int (S.1 (21 + c.val) 6), .int (S.1 (21 + c.val) 7), .int (S.1 (21 + c.val) 8), .int (S.1 (21 + c.val) 9)] : List Value).set 4 (.int x))) = xw cI cC cS ad (setI S (21 + c.val) 4 x)
  | ⟨0, _⟩ => rfl
  | ⟨1, _⟩ => rfl
  | ⟨2, _⟩ => rfl
  | ⟨3, _⟩ => rfl
  | ⟨4, _⟩ => rfl
  | ⟨5, _⟩ => rfl
  | ⟨n + 6, h⟩ => absurd h (by omega)
theorem px_C_4 (C : CallFix p m c cc nL s args TT own) (hK : KX D tys adK adV A s) (I : Iv D (xw cI cC cS ad) S A s H locs) (hl : Cond.fieldLink own index RX1 "place" "I" ∈ TT) {x : Int32} (hdg : decode cc pc = .ok (.putfield index, 3)) {q : Fin 6} (kk : ∀ S1 : St, S1 = setI S (21 + q.val) 4 x → ∀ (H1 : Heap) (locs1 : List Loc), Iv D (xw cI cC cS ad) S1 A s H1 locs1 → W p l e R s m args below meth c H1 locs1 0 0 Q (F0 m (pc + 3) ls rest)) : W p l e R s m args below meth c H locs 0 0 Q (F0 m pc ls (.int x :: .ref (ad (21 + q.val)) :: rest)) := k_put (S1 := setI S (21 + q.val) 4 x) C hK.1 I inT1 tyX1 tyX1_ok nmX1 (21 + q.val) 1 4 (xw_C (cI := cI) (cC := cC) (cS := cS) (ad := ad) q) rfl (by decide) rfl hl rfl rfl rfl (Nat.le_of_ble_eq_true rfl) (xs_C_4 q) hdg (kk _ rfl)
theorem gx_C_5 (C : CallFix p m c cc nL s args TT own) (hK : KX D tys adK adV A s) (I : Iv D (xw cI cC cS ad) S A s H locs) (hl : Cond.fieldLink own index RX1 "opens" "I" ∈ TT) (hdg : decode cc pc = .ok (.getfield index, 3)) {q : Fin 6} (kk : W p l e R s m args below meth c H locs 0 0 Q (F0 m (pc + 3) ls (.int (S.1 (21 + q.val) 5) :: rest))) : W p l e R s m args below meth c H locs 0 0 Q (F0 m pc ls (.ref (ad (21 + q.val)) :: rest)) := k_get C hK.1 I inT1 (21 + q.val) 1 5 (xw_C (cI := cI) (cC := cC) (cS := cS) (ad := ad) q) rfl (by decide) rfl hl rfl hdg kk
theorem gxN_C_5 (C : CallFix p m c cc nL s args TT own) (hK : KX D tys adK adV A s) (I : Iv D (xw cI cC cS ad) S A s H locs) (hl : Cond.fieldLinkNest own index RX1 "opens" "I" host ∈ NN) (hdg : decode cc pc = .ok (.getfield index, 3)) {q : Fin 6} (kk : W p l e R s m args below meth c H locs 0 0 Q (F0 m (pc + 3) ls (.int (S.1 (21 + q.val) 5) :: rest))) : W p l e R s m args below meth c H locs 0 0 Q (F0 m pc ls (.ref (ad (21 + q.val)) :: rest)) := k_getN C hK.1 hK.2.1 I inT1 (21 + q.val) 1 5 (xw_C (cI := cI) (cC := cC) (cS := cS) (ad := ad) q) rfl (by decide) rfl hl rfl hdg kk
theorem xs_C_5 {x : Int32} : ∀ c : Fin 6, (xw cI cC cS ad S).set (21 + c.val) (ad (21 + c.val), .inr (1, ([.ref (ad (27 + c.val)), .int (S.1 (21 + c.val) 1), .int (S.1 (21 + c.val) 2), .int (S.1 (21 + c.val) 3), .int (S.1 (21 + c.val) 4), .int (S.1 (21 + c.val) 5), .int (S.1 (21 + c.val) 6), .int (S.1 (21 + c.val) 7), .int (S.1 (21 + c.val) 8), .int (S.1 (21 + c.val) 9)] : List Value).set 5 (.int x))) = xw cI cC cS ad (setI S (21 + c.val) 5 x)
  | ⟨0, _⟩ => rfl
  | ⟨1, _⟩ => rfl
  | ⟨2, _⟩ => rfl
  | ⟨3, _⟩ => rfl
  | ⟨4, _⟩ => rfl
  | ⟨5, _⟩ => rfl
  | ⟨n + 6, h⟩ => absurd h (by omega)
theorem px_C_5 (C : CallFix p m c cc nL s args TT own) (hK : KX D tys adK adV A s) (I : Iv D (xw cI cC cS ad) S A s H locs) (hl : Cond.fieldLink own index RX1 "opens" "I" ∈ TT) {x : Int32} (hdg : decode cc pc = .ok (.putfield index, 3)) {q : Fin 6} (kk : ∀ S1 : St, S1 = setI S (21 + q.val) 5 x → ∀ (H1 : Heap) (locs1 : List Loc), Iv D (xw cI cC cS ad) S1 A s H1 locs1 → W p l e R s m args below meth c H1 locs1 0 0 Q (F0 m (pc + 3) ls rest)) : W p l e R s m args below meth c H locs 0 0 Q (F0 m pc ls (.int x :: .ref (ad (21 + q.val)) :: rest)) := k_put (S1 := setI S (21 + q.val) 5 x) C hK.1 I inT1 tyX1 tyX1_ok nmX1 (21 + q.val) 1 5 (xw_C (cI := cI) (cC := cC) (cS := cS) (ad := ad) q) rfl (by decide) rfl hl rfl rfl rfl (Nat.le_of_ble_eq_true rfl) (xs_C_5 q) hdg (kk _ rfl)
theorem gx_C_6 (C : CallFix p m c cc nL s args TT own) (hK : KX D tys adK adV A s) (I : Iv D (xw cI cC cS ad) S A s H locs) (hl : Cond.fieldLink own index RX1 "shuts" "I" ∈ TT) (hdg : decode cc pc = .ok (.getfield index, 3)) {q : Fin 6} (kk : W p l e R s m args below meth c H locs 0 0 Q (F0 m (pc + 3) ls (.int (S.1 (21 + q.val) 6) :: rest))) : W p l e R s m args below meth c H locs 0 0 Q (F0 m pc ls (.ref (ad (21 + q.val)) :: rest)) := k_get C hK.1 I inT1 (21 + q.val) 1 6 (xw_C (cI := cI) (cC := cC) (cS := cS) (ad := ad) q) rfl (by decide) rfl hl rfl hdg kk
theorem gxN_C_6 (C : CallFix p m c cc nL s args TT own) (hK : KX D tys adK adV A s) (I : Iv D (xw cI cC cS ad) S A s H locs) (hl : Cond.fieldLinkNest own index RX1 "shuts" "I" host ∈ NN) (hdg : decode cc pc = .ok (.getfield index, 3)) {q : Fin 6} (kk : W p l e R s m args below meth c H locs 0 0 Q (F0 m (pc + 3) ls (.int (S.1 (21 + q.val) 6) :: rest))) : W p l e R s m args below meth c H locs 0 0 Q (F0 m pc ls (.ref (ad (21 + q.val)) :: rest)) := k_getN C hK.1 hK.2.1 I inT1 (21 + q.val) 1 6 (xw_C (cI := cI) (cC := cC) (cS := cS) (ad := ad) q) rfl (by decide) rfl hl rfl hdg kk
theorem xs_C_6 {x : Int32} : ∀ c : Fin 6, (xw cI cC cS ad S).set (21 + c.val) (ad (21 + c.val), .inr (1, ([.ref (ad (27 + c.val)), .int (S.1 (21 + c.val) 1), .int (S.1 (21 + c.val) 2), .int (S.1 (21 + c.val) 3), .int (S.1 (21 + c.val) 4), .int (S.1 (21 + c.val) 5), .int (S.1 (21 + c.val) 6), .int (S.1 (21 + c.val) 7), .int (S.1 (21 + c.val) 8), .int (S.1 (21 + c.val) 9)] : List Value).set 6 (.int x))) = xw cI cC cS ad (setI S (21 + c.val) 6 x)
  | ⟨0, _⟩ => rfl
  | ⟨1, _⟩ => rfl
  | ⟨2, _⟩ => rfl
  | ⟨3, _⟩ => rfl
  | ⟨4, _⟩ => rfl
  | ⟨5, _⟩ => rfl
  | ⟨n + 6, h⟩ => absurd h (by omega)
theorem px_C_6 (C : CallFix p m c cc nL s args TT own) (hK : KX D tys adK adV A s) (I : Iv D (xw cI cC cS ad) S A s H locs) (hl : Cond.fieldLink own index RX1 "shuts" "I" ∈ TT) {x : Int32} (hdg : decode cc pc = .ok (.putfield index, 3)) {q : Fin 6} (kk : ∀ S1 : St, S1 = setI S (21 + q.val) 6 x → ∀ (H1 : Heap) (locs1 : List Loc), Iv D (xw cI cC cS ad) S1 A s H1 locs1 → W p l e R s m args below meth c H1 locs1 0 0 Q (F0 m (pc + 3) ls rest)) : W p l e R s m args below meth c H locs 0 0 Q (F0 m pc ls (.int x :: .ref (ad (21 + q.val)) :: rest)) := k_put (S1 := setI S (21 + q.val) 6 x) C hK.1 I inT1 tyX1 tyX1_ok nmX1 (21 + q.val) 1 6 (xw_C (cI := cI) (cC := cC) (cS := cS) (ad := ad) q) rfl (by decide) rfl hl rfl rfl rfl (Nat.le_of_ble_eq_true rfl) (xs_C_6 q) hdg (kk _ rfl)
theorem gx_C_7 (C : CallFix p m c cc nL s args TT own) (hK : KX D tys adK adV A s) (I : Iv D (xw cI cC cS ad) S A s H locs) (hl : Cond.fieldLink own index RX1 "worth" "I" ∈ TT) (hdg : decode cc pc = .ok (.getfield index, 3)) {q : Fin 6} (kk : W p l e R s m args below meth c H locs 0 0 Q (F0 m (pc + 3) ls (.int (S.1 (21 + q.val) 7) :: rest))) : W p l e R s m args below meth c H locs 0 0 Q (F0 m pc ls (.ref (ad (21 + q.val)) :: rest)) := k_get C hK.1 I inT1 (21 + q.val) 1 7 (xw_C (cI := cI) (cC := cC) (cS := cS) (ad := ad) q) rfl (by decide) rfl hl rfl hdg kk
theorem gxN_C_7 (C : CallFix p m c cc nL s args TT own) (hK : KX D tys adK adV A s) (I : Iv D (xw cI cC cS ad) S A s H locs) (hl : Cond.fieldLinkNest own index RX1 "worth" "I" host ∈ NN) (hdg : decode cc pc = .ok (.getfield index, 3)) {q : Fin 6} (kk : W p l e R s m args below meth c H locs 0 0 Q (F0 m (pc + 3) ls (.int (S.1 (21 + q.val) 7) :: rest))) : W p l e R s m args below meth c H locs 0 0 Q (F0 m pc ls (.ref (ad (21 + q.val)) :: rest)) := k_getN C hK.1 hK.2.1 I inT1 (21 + q.val) 1 7 (xw_C (cI := cI) (cC := cC) (cS := cS) (ad := ad) q) rfl (by decide) rfl hl rfl hdg kk
theorem xs_C_7 {x : Int32} : ∀ c : Fin 6, (xw cI cC cS ad S).set (21 + c.val) (ad (21 + c.val), .inr (1, ([.ref (ad (27 + c.val)), .int (S.1 (21 + c.val) 1), .int (S.1 (21 + c.val) 2), .int (S.1 (21 + c.val) 3), .int (S.1 (21 + c.val) 4), .int (S.1 (21 + c.val) 5), .int (S.1 (21 + c.val) 6), .int (S.1 (21 + c.val) 7), .int (S.1 (21 + c.val) 8), .int (S.1 (21 + c.val) 9)] : List Value).set 7 (.int x))) = xw cI cC cS ad (setI S (21 + c.val) 7 x)
  | ⟨0, _⟩ => rfl
  | ⟨1, _⟩ => rfl
  | ⟨2, _⟩ => rfl
  | ⟨3, _⟩ => rfl
  | ⟨4, _⟩ => rfl
  | ⟨5, _⟩ => rfl
  | ⟨n + 6, h⟩ => absurd h (by omega)
theorem px_C_7 (C : CallFix p m c cc nL s args TT own) (hK : KX D tys adK adV A s) (I : Iv D (xw cI cC cS ad) S A s H locs) (hl : Cond.fieldLink own index RX1 "worth" "I" ∈ TT) {x : Int32} (hdg : decode cc pc = .ok (.putfield index, 3)) {q : Fin 6} (kk : ∀ S1 : St, S1 = setI S (21 + q.val) 7 x → ∀ (H1 : Heap) (locs1 : List Loc), Iv D (xw cI cC cS ad) S1 A s H1 locs1 → W p l e R s m args below meth c H1 locs1 0 0 Q (F0 m (pc + 3) ls rest)) : W p l e R s m args below meth c H locs 0 0 Q (F0 m pc ls (.int x :: .ref (ad (21 + q.val)) :: rest)) := k_put (S1 := setI S (21 + q.val) 7 x) C hK.1 I inT1 tyX1 tyX1_ok nmX1 (21 + q.val) 1 7 (xw_C (cI := cI) (cC := cC) (cS := cS) (ad := ad) q) rfl (by decide) rfl hl rfl rfl rfl (Nat.le_of_ble_eq_true rfl) (xs_C_7 q) hdg (kk _ rfl)
theorem gx_C_8 (C : CallFix p m c cc nL s args TT own) (hK : KX D tys adK adV A s) (I : Iv D (xw cI cC cS ad) S A s H locs) (hl : Cond.fieldLink own index RX1 "again" "I" ∈ TT) (hdg : decode cc pc = .ok (.getfield index, 3)) {q : Fin 6} (kk : W p l e R s m args below meth c H locs 0 0 Q (F0 m (pc + 3) ls (.int (S.1 (21 + q.val) 8) :: rest))) : W p l e R s m args below meth c H locs 0 0 Q (F0 m pc ls (.ref (ad (21 + q.val)) :: rest)) := k_get C hK.1 I inT1 (21 + q.val) 1 8 (xw_C (cI := cI) (cC := cC) (cS := cS) (ad := ad) q) rfl (by decide) rfl hl rfl hdg kk
theorem gxN_C_8 (C : CallFix p m c cc nL s args TT own) (hK : KX D tys adK adV A s) (I : Iv D (xw cI cC cS ad) S A s H locs) (hl : Cond.fieldLinkNest own index RX1 "again" "I" host ∈ NN) (hdg : decode cc pc = .ok (.getfield index, 3)) {q : Fin 6} (kk : W p l e R s m args below meth c H locs 0 0 Q (F0 m (pc + 3) ls (.int (S.1 (21 + q.val) 8) :: rest))) : W p l e R s m args below meth c H locs 0 0 Q (F0 m pc ls (.ref (ad (21 + q.val)) :: rest)) := k_getN C hK.1 hK.2.1 I inT1 (21 + q.val) 1 8 (xw_C (cI := cI) (cC := cC) (cS := cS) (ad := ad) q) rfl (by decide) rfl hl rfl hdg kk
theorem xs_C_8 {x : Int32} : ∀ c : Fin 6, (xw cI cC cS ad S).set (21 + c.val) (ad (21 + c.val), .inr (1, ([.ref (ad (27 + c.val)), .int (S.1 (21 + c.val) 1), .int (S.1 (21 + c.val) 2), .int (S.1 (21 + c.val) 3), .int (S.1 (21 + c.val) 4), .int (S.1 (21 + c.val) 5), .int (S.1 (21 + c.val) 6), .int (S.1 (21 + c.val) 7), .int (S.1 (21 + c.val) 8), .int (S.1 (21 + c.val) 9)] : List Value).set 8 (.int x))) = xw cI cC cS ad (setI S (21 + c.val) 8 x)
  | ⟨0, _⟩ => rfl
  | ⟨1, _⟩ => rfl
  | ⟨2, _⟩ => rfl
  | ⟨3, _⟩ => rfl
  | ⟨4, _⟩ => rfl
  | ⟨5, _⟩ => rfl
  | ⟨n + 6, h⟩ => absurd h (by omega)
theorem px_C_8 (C : CallFix p m c cc nL s args TT own) (hK : KX D tys adK adV A s) (I : Iv D (xw cI cC cS ad) S A s H locs) (hl : Cond.fieldLink own index RX1 "again" "I" ∈ TT) {x : Int32} (hdg : decode cc pc = .ok (.putfield index, 3)) {q : Fin 6} (kk : ∀ S1 : St, S1 = setI S (21 + q.val) 8 x → ∀ (H1 : Heap) (locs1 : List Loc), Iv D (xw cI cC cS ad) S1 A s H1 locs1 → W p l e R s m args below meth c H1 locs1 0 0 Q (F0 m (pc + 3) ls rest)) : W p l e R s m args below meth c H locs 0 0 Q (F0 m pc ls (.int x :: .ref (ad (21 + q.val)) :: rest)) := k_put (S1 := setI S (21 + q.val) 8 x) C hK.1 I inT1 tyX1 tyX1_ok nmX1 (21 + q.val) 1 8 (xw_C (cI := cI) (cC := cC) (cS := cS) (ad := ad) q) rfl (by decide) rfl hl rfl rfl rfl (Nat.le_of_ble_eq_true rfl) (xs_C_8 q) hdg (kk _ rfl)
theorem gx_C_9 (C : CallFix p m c cc nL s args TT own) (hK : KX D tys adK adV A s) (I : Iv D (xw cI cC cS ad) S A s H locs) (hl : Cond.fieldLink own index RX1 "look" "I" ∈ TT) (hdg : decode cc pc = .ok (.getfield index, 3)) {q : Fin 6} (kk : W p l e R s m args below meth c H locs 0 0 Q (F0 m (pc + 3) ls (.int (S.1 (21 + q.val) 9) :: rest))) : W p l e R s m args below meth c H locs 0 0 Q (F0 m pc ls (.ref (ad (21 + q.val)) :: rest)) := k_get C hK.1 I inT1 (21 + q.val) 1 9 (xw_C (cI := cI) (cC := cC) (cS := cS) (ad := ad) q) rfl (by decide) rfl hl rfl hdg kk
theorem gxN_C_9 (C : CallFix p m c cc nL s args TT own) (hK : KX D tys adK adV A s) (I : Iv D (xw cI cC cS ad) S A s H locs) (hl : Cond.fieldLinkNest own index RX1 "look" "I" host ∈ NN) (hdg : decode cc pc = .ok (.getfield index, 3)) {q : Fin 6} (kk : W p l e R s m args below meth c H locs 0 0 Q (F0 m (pc + 3) ls (.int (S.1 (21 + q.val) 9) :: rest))) : W p l e R s m args below meth c H locs 0 0 Q (F0 m pc ls (.ref (ad (21 + q.val)) :: rest)) := k_getN C hK.1 hK.2.1 I inT1 (21 + q.val) 1 9 (xw_C (cI := cI) (cC := cC) (cS := cS) (ad := ad) q) rfl (by decide) rfl hl rfl hdg kk
theorem xs_C_9 {x : Int32} : ∀ c : Fin 6, (xw cI cC cS ad S).set (21 + c.val) (ad (21 + c.val), .inr (1, ([.ref (ad (27 + c.val)), .int (S.1 (21 + c.val) 1), .int (S.1 (21 + c.val) 2), .int (S.1 (21 + c.val) 3), .int (S.1 (21 + c.val) 4), .int (S.1 (21 + c.val) 5), .int (S.1 (21 + c.val) 6), .int (S.1 (21 + c.val) 7), .int (S.1 (21 + c.val) 8), .int (S.1 (21 + c.val) 9)] : List Value).set 9 (.int x))) = xw cI cC cS ad (setI S (21 + c.val) 9 x)
  | ⟨0, _⟩ => rfl
  | ⟨1, _⟩ => rfl
  | ⟨2, _⟩ => rfl
  | ⟨3, _⟩ => rfl
  | ⟨4, _⟩ => rfl
  | ⟨5, _⟩ => rfl
  | ⟨n + 6, h⟩ => absurd h (by omega)
theorem px_C_9 (C : CallFix p m c cc nL s args TT own) (hK : KX D tys adK adV A s) (I : Iv D (xw cI cC cS ad) S A s H locs) (hl : Cond.fieldLink own index RX1 "look" "I" ∈ TT) {x : Int32} (hdg : decode cc pc = .ok (.putfield index, 3)) {q : Fin 6} (kk : ∀ S1 : St, S1 = setI S (21 + q.val) 9 x → ∀ (H1 : Heap) (locs1 : List Loc), Iv D (xw cI cC cS ad) S1 A s H1 locs1 → W p l e R s m args below meth c H1 locs1 0 0 Q (F0 m (pc + 3) ls rest)) : W p l e R s m args below meth c H locs 0 0 Q (F0 m pc ls (.int x :: .ref (ad (21 + q.val)) :: rest)) := k_put (S1 := setI S (21 + q.val) 9 x) C hK.1 I inT1 tyX1 tyX1_ok nmX1 (21 + q.val) 1 9 (xw_C (cI := cI) (cC := cC) (cS := cS) (ad := ad) q) rfl (by decide) rfl hl rfl rfl rfl (Nat.le_of_ble_eq_true rfl) (xs_C_9 q) hdg (kk _ rfl)
theorem xw_S : ∀ c : Fin 24, (xw cI cC cS ad S)[33 + c.val]? = some (ad (33 + c.val), .inr (7, [.int (S.1 (33 + c.val) 0), .int (S.1 (33 + c.val) 1), .int (S.1 (33 + c.val) 2), .int (S.1 (33 + c.val) 3)]))
  | ⟨0, _⟩ => rfl
  | ⟨1, _⟩ => rfl
  | ⟨2, _⟩ => rfl
  | ⟨3, _⟩ => rfl
  | ⟨4, _⟩ => rfl
  | ⟨5, _⟩ => rfl
  | ⟨6, _⟩ => rfl
  | ⟨7, _⟩ => rfl
  | ⟨8, _⟩ => rfl
  | ⟨9, _⟩ => rfl
  | ⟨10, _⟩ => rfl
  | ⟨11, _⟩ => rfl
  | ⟨12, _⟩ => rfl
  | ⟨13, _⟩ => rfl
  | ⟨14, _⟩ => rfl
  | ⟨15, _⟩ => rfl
  | ⟨16, _⟩ => rfl
  | ⟨17, _⟩ => rfl
  | ⟨18, _⟩ => rfl
  | ⟨19, _⟩ => rfl
  | ⟨20, _⟩ => rfl
  | ⟨21, _⟩ => rfl
  | ⟨22, _⟩ => rfl
  | ⟨23, _⟩ => rfl
  | ⟨n + 24, h⟩ => absurd h (by omega)
theorem gx_S_0 (C : CallFix p m c cc nL s args TT own) (hK : KX D tys adK adV A s) (I : Iv D (xw cI cC cS ad) S A s H locs) (hl : Cond.fieldLink own index RX7 "likely" "I" ∈ TT) (hdg : decode cc pc = .ok (.getfield index, 3)) {q : Fin 24} (kk : W p l e R s m args below meth c H locs 0 0 Q (F0 m (pc + 3) ls (.int (S.1 (33 + q.val) 0) :: rest))) : W p l e R s m args below meth c H locs 0 0 Q (F0 m pc ls (.ref (ad (33 + q.val)) :: rest)) := k_get C hK.1 I inT7 (33 + q.val) 7 0 (xw_S (cI := cI) (cC := cC) (cS := cS) (ad := ad) q) rfl (by decide) rfl hl rfl hdg kk
theorem gxN_S_0 (C : CallFix p m c cc nL s args TT own) (hK : KX D tys adK adV A s) (I : Iv D (xw cI cC cS ad) S A s H locs) (hl : Cond.fieldLinkNest own index RX7 "likely" "I" host ∈ NN) (hdg : decode cc pc = .ok (.getfield index, 3)) {q : Fin 24} (kk : W p l e R s m args below meth c H locs 0 0 Q (F0 m (pc + 3) ls (.int (S.1 (33 + q.val) 0) :: rest))) : W p l e R s m args below meth c H locs 0 0 Q (F0 m pc ls (.ref (ad (33 + q.val)) :: rest)) := k_getN C hK.1 hK.2.1 I inT7 (33 + q.val) 7 0 (xw_S (cI := cI) (cC := cC) (cS := cS) (ad := ad) q) rfl (by decide) rfl hl rfl hdg kk
theorem xs_S_0 {x : Int32} : ∀ c : Fin 24, (xw cI cC cS ad S).set (33 + c.val) (ad (33 + c.val), .inr (7, ([.int (S.1 (33 + c.val) 0), .int (S.1 (33 + c.val) 1), .int (S.1 (33 + c.val) 2), .int (S.1 (33 + c.val) 3)] : List Value).set 0 (.int x))) = xw cI cC cS ad (setI S (33 + c.val) 0 x)
  | ⟨0, _⟩ => rfl
  | ⟨1, _⟩ => rfl
  | ⟨2, _⟩ => rfl
  | ⟨3, _⟩ => rfl
  | ⟨4, _⟩ => rfl
  | ⟨5, _⟩ => rfl
  | ⟨6, _⟩ => rfl
  | ⟨7, _⟩ => rfl
  | ⟨8, _⟩ => rfl
  | ⟨9, _⟩ => rfl
  | ⟨10, _⟩ => rfl
  | ⟨11, _⟩ => rfl
  | ⟨12, _⟩ => rfl
  | ⟨13, _⟩ => rfl
  | ⟨14, _⟩ => rfl
  | ⟨15, _⟩ => rfl
  | ⟨16, _⟩ => rfl
  | ⟨17, _⟩ => rfl
  | ⟨18, _⟩ => rfl
  | ⟨19, _⟩ => rfl
  | ⟨20, _⟩ => rfl
  | ⟨21, _⟩ => rfl
  | ⟨22, _⟩ => rfl
  | ⟨23, _⟩ => rfl
  | ⟨n + 24, h⟩ => absurd h (by omega)
theorem px_S_0 (C : CallFix p m c cc nL s args TT own) (hK : KX D tys adK adV A s) (I : Iv D (xw cI cC cS ad) S A s H locs) (hl : Cond.fieldLink own index RX7 "likely" "I" ∈ TT) {x : Int32} (hdg : decode cc pc = .ok (.putfield index, 3)) {q : Fin 24} (kk : ∀ S1 : St, S1 = setI S (33 + q.val) 0 x → ∀ (H1 : Heap) (locs1 : List Loc), Iv D (xw cI cC cS ad) S1 A s H1 locs1 → W p l e R s m args below meth c H1 locs1 0 0 Q (F0 m (pc + 3) ls rest)) : W p l e R s m args below meth c H locs 0 0 Q (F0 m pc ls (.int x :: .ref (ad (33 + q.val)) :: rest)) := k_put (S1 := setI S (33 + q.val) 0 x) C hK.1 I inT7 tyX7 tyX7_ok nmX7 (33 + q.val) 7 0 (xw_S (cI := cI) (cC := cC) (cS := cS) (ad := ad) q) rfl (by decide) rfl hl rfl rfl rfl (Nat.le_of_ble_eq_true rfl) (xs_S_0 q) hdg (kk _ rfl)
theorem gx_S_1 (C : CallFix p m c cc nL s args TT own) (hK : KX D tys adK adV A s) (I : Iv D (xw cI cC cS ad) S A s H locs) (hl : Cond.fieldLink own index RX7 "minutes" "I" ∈ TT) (hdg : decode cc pc = .ok (.getfield index, 3)) {q : Fin 24} (kk : W p l e R s m args below meth c H locs 0 0 Q (F0 m (pc + 3) ls (.int (S.1 (33 + q.val) 1) :: rest))) : W p l e R s m args below meth c H locs 0 0 Q (F0 m pc ls (.ref (ad (33 + q.val)) :: rest)) := k_get C hK.1 I inT7 (33 + q.val) 7 1 (xw_S (cI := cI) (cC := cC) (cS := cS) (ad := ad) q) rfl (by decide) rfl hl rfl hdg kk
theorem gxN_S_1 (C : CallFix p m c cc nL s args TT own) (hK : KX D tys adK adV A s) (I : Iv D (xw cI cC cS ad) S A s H locs) (hl : Cond.fieldLinkNest own index RX7 "minutes" "I" host ∈ NN) (hdg : decode cc pc = .ok (.getfield index, 3)) {q : Fin 24} (kk : W p l e R s m args below meth c H locs 0 0 Q (F0 m (pc + 3) ls (.int (S.1 (33 + q.val) 1) :: rest))) : W p l e R s m args below meth c H locs 0 0 Q (F0 m pc ls (.ref (ad (33 + q.val)) :: rest)) := k_getN C hK.1 hK.2.1 I inT7 (33 + q.val) 7 1 (xw_S (cI := cI) (cC := cC) (cS := cS) (ad := ad) q) rfl (by decide) rfl hl rfl hdg kk
theorem xs_S_1 {x : Int32} : ∀ c : Fin 24, (xw cI cC cS ad S).set (33 + c.val) (ad (33 + c.val), .inr (7, ([.int (S.1 (33 + c.val) 0), .int (S.1 (33 + c.val) 1), .int (S.1 (33 + c.val) 2), .int (S.1 (33 + c.val) 3)] : List Value).set 1 (.int x))) = xw cI cC cS ad (setI S (33 + c.val) 1 x)
  | ⟨0, _⟩ => rfl
  | ⟨1, _⟩ => rfl
  | ⟨2, _⟩ => rfl
  | ⟨3, _⟩ => rfl
  | ⟨4, _⟩ => rfl
  | ⟨5, _⟩ => rfl
  | ⟨6, _⟩ => rfl
  | ⟨7, _⟩ => rfl
  | ⟨8, _⟩ => rfl
  | ⟨9, _⟩ => rfl
  | ⟨10, _⟩ => rfl
  | ⟨11, _⟩ => rfl
  | ⟨12, _⟩ => rfl
  | ⟨13, _⟩ => rfl
  | ⟨14, _⟩ => rfl
  | ⟨15, _⟩ => rfl
  | ⟨16, _⟩ => rfl
  | ⟨17, _⟩ => rfl
  | ⟨18, _⟩ => rfl
  | ⟨19, _⟩ => rfl
  | ⟨20, _⟩ => rfl
  | ⟨21, _⟩ => rfl
  | ⟨22, _⟩ => rfl
  | ⟨23, _⟩ => rfl
  | ⟨n + 24, h⟩ => absurd h (by omega)
theorem px_S_1 (C : CallFix p m c cc nL s args TT own) (hK : KX D tys adK adV A s) (I : Iv D (xw cI cC cS ad) S A s H locs) (hl : Cond.fieldLink own index RX7 "minutes" "I" ∈ TT) {x : Int32} (hdg : decode cc pc = .ok (.putfield index, 3)) {q : Fin 24} (kk : ∀ S1 : St, S1 = setI S (33 + q.val) 1 x → ∀ (H1 : Heap) (locs1 : List Loc), Iv D (xw cI cC cS ad) S1 A s H1 locs1 → W p l e R s m args below meth c H1 locs1 0 0 Q (F0 m (pc + 3) ls rest)) : W p l e R s m args below meth c H locs 0 0 Q (F0 m pc ls (.int x :: .ref (ad (33 + q.val)) :: rest)) := k_put (S1 := setI S (33 + q.val) 1 x) C hK.1 I inT7 tyX7 tyX7_ok nmX7 (33 + q.val) 7 1 (xw_S (cI := cI) (cC := cC) (cS := cS) (ad := ad) q) rfl (by decide) rfl hl rfl rfl rfl (Nat.le_of_ble_eq_true rfl) (xs_S_1 q) hdg (kk _ rfl)
theorem gx_S_2 (C : CallFix p m c cc nL s args TT own) (hK : KX D tys adK adV A s) (I : Iv D (xw cI cC cS ad) S A s H locs) (hl : Cond.fieldLink own index RX7 "all" "I" ∈ TT) (hdg : decode cc pc = .ok (.getfield index, 3)) {q : Fin 24} (kk : W p l e R s m args below meth c H locs 0 0 Q (F0 m (pc + 3) ls (.int (S.1 (33 + q.val) 2) :: rest))) : W p l e R s m args below meth c H locs 0 0 Q (F0 m pc ls (.ref (ad (33 + q.val)) :: rest)) := k_get C hK.1 I inT7 (33 + q.val) 7 2 (xw_S (cI := cI) (cC := cC) (cS := cS) (ad := ad) q) rfl (by decide) rfl hl rfl hdg kk
theorem gxN_S_2 (C : CallFix p m c cc nL s args TT own) (hK : KX D tys adK adV A s) (I : Iv D (xw cI cC cS ad) S A s H locs) (hl : Cond.fieldLinkNest own index RX7 "all" "I" host ∈ NN) (hdg : decode cc pc = .ok (.getfield index, 3)) {q : Fin 24} (kk : W p l e R s m args below meth c H locs 0 0 Q (F0 m (pc + 3) ls (.int (S.1 (33 + q.val) 2) :: rest))) : W p l e R s m args below meth c H locs 0 0 Q (F0 m pc ls (.ref (ad (33 + q.val)) :: rest)) := k_getN C hK.1 hK.2.1 I inT7 (33 + q.val) 7 2 (xw_S (cI := cI) (cC := cC) (cS := cS) (ad := ad) q) rfl (by decide) rfl hl rfl hdg kk
theorem xs_S_2 {x : Int32} : ∀ c : Fin 24, (xw cI cC cS ad S).set (33 + c.val) (ad (33 + c.val), .inr (7, ([.int (S.1 (33 + c.val) 0), .int (S.1 (33 + c.val) 1), .int (S.1 (33 + c.val) 2), .int (S.1 (33 + c.val) 3)] : List Value).set 2 (.int x))) = xw cI cC cS ad (setI S (33 + c.val) 2 x)
  | ⟨0, _⟩ => rfl
  | ⟨1, _⟩ => rfl
  | ⟨2, _⟩ => rfl
  | ⟨3, _⟩ => rfl
  | ⟨4, _⟩ => rfl
  | ⟨5, _⟩ => rfl
  | ⟨6, _⟩ => rfl
  | ⟨7, _⟩ => rfl
  | ⟨8, _⟩ => rfl
  | ⟨9, _⟩ => rfl
  | ⟨10, _⟩ => rfl
  | ⟨11, _⟩ => rfl
  | ⟨12, _⟩ => rfl
  | ⟨13, _⟩ => rfl
  | ⟨14, _⟩ => rfl
  | ⟨15, _⟩ => rfl
  | ⟨16, _⟩ => rfl
  | ⟨17, _⟩ => rfl
  | ⟨18, _⟩ => rfl
  | ⟨19, _⟩ => rfl
  | ⟨20, _⟩ => rfl
  | ⟨21, _⟩ => rfl
  | ⟨22, _⟩ => rfl
  | ⟨23, _⟩ => rfl
  | ⟨n + 24, h⟩ => absurd h (by omega)
theorem px_S_2 (C : CallFix p m c cc nL s args TT own) (hK : KX D tys adK adV A s) (I : Iv D (xw cI cC cS ad) S A s H locs) (hl : Cond.fieldLink own index RX7 "all" "I" ∈ TT) {x : Int32} (hdg : decode cc pc = .ok (.putfield index, 3)) {q : Fin 24} (kk : ∀ S1 : St, S1 = setI S (33 + q.val) 2 x → ∀ (H1 : Heap) (locs1 : List Loc), Iv D (xw cI cC cS ad) S1 A s H1 locs1 → W p l e R s m args below meth c H1 locs1 0 0 Q (F0 m (pc + 3) ls rest)) : W p l e R s m args below meth c H locs 0 0 Q (F0 m pc ls (.int x :: .ref (ad (33 + q.val)) :: rest)) := k_put (S1 := setI S (33 + q.val) 2 x) C hK.1 I inT7 tyX7 tyX7_ok nmX7 (33 + q.val) 7 2 (xw_S (cI := cI) (cC := cC) (cS := cS) (ad := ad) q) rfl (by decide) rfl hl rfl rfl rfl (Nat.le_of_ble_eq_true rfl) (xs_S_2 q) hdg (kk _ rfl)
theorem gx_S_3 (C : CallFix p m c cc nL s args TT own) (hK : KX D tys adK adV A s) (I : Iv D (xw cI cC cS ad) S A s H locs) (hl : Cond.fieldLink own index RX7 "one" "I" ∈ TT) (hdg : decode cc pc = .ok (.getfield index, 3)) {q : Fin 24} (kk : W p l e R s m args below meth c H locs 0 0 Q (F0 m (pc + 3) ls (.int (S.1 (33 + q.val) 3) :: rest))) : W p l e R s m args below meth c H locs 0 0 Q (F0 m pc ls (.ref (ad (33 + q.val)) :: rest)) := k_get C hK.1 I inT7 (33 + q.val) 7 3 (xw_S (cI := cI) (cC := cC) (cS := cS) (ad := ad) q) rfl (by decide) rfl hl rfl hdg kk
theorem gxN_S_3 (C : CallFix p m c cc nL s args TT own) (hK : KX D tys adK adV A s) (I : Iv D (xw cI cC cS ad) S A s H locs) (hl : Cond.fieldLinkNest own index RX7 "one" "I" host ∈ NN) (hdg : decode cc pc = .ok (.getfield index, 3)) {q : Fin 24} (kk : W p l e R s m args below meth c H locs 0 0 Q (F0 m (pc + 3) ls (.int (S.1 (33 + q.val) 3) :: rest))) : W p l e R s m args below meth c H locs 0 0 Q (F0 m pc ls (.ref (ad (33 + q.val)) :: rest)) := k_getN C hK.1 hK.2.1 I inT7 (33 + q.val) 7 3 (xw_S (cI := cI) (cC := cC) (cS := cS) (ad := ad) q) rfl (by decide) rfl hl rfl hdg kk
theorem xs_S_3 {x : Int32} : ∀ c : Fin 24, (xw cI cC cS ad S).set (33 + c.val) (ad (33 + c.val), .inr (7, ([.int (S.1 (33 + c.val) 0), .int (S.1 (33 + c.val) 1), .int (S.1 (33 + c.val) 2), .int (S.1 (33 + c.val) 3)] : List Value).set 3 (.int x))) = xw cI cC cS ad (setI S (33 + c.val) 3 x)
  | ⟨0, _⟩ => rfl
  | ⟨1, _⟩ => rfl
  | ⟨2, _⟩ => rfl
  | ⟨3, _⟩ => rfl
  | ⟨4, _⟩ => rfl
  | ⟨5, _⟩ => rfl
  | ⟨6, _⟩ => rfl
  | ⟨7, _⟩ => rfl
  | ⟨8, _⟩ => rfl
  | ⟨9, _⟩ => rfl
  | ⟨10, _⟩ => rfl
  | ⟨11, _⟩ => rfl
  | ⟨12, _⟩ => rfl
  | ⟨13, _⟩ => rfl
  | ⟨14, _⟩ => rfl
  | ⟨15, _⟩ => rfl
  | ⟨16, _⟩ => rfl
  | ⟨17, _⟩ => rfl
  | ⟨18, _⟩ => rfl
  | ⟨19, _⟩ => rfl
  | ⟨20, _⟩ => rfl
  | ⟨21, _⟩ => rfl
  | ⟨22, _⟩ => rfl
  | ⟨23, _⟩ => rfl
  | ⟨n + 24, h⟩ => absurd h (by omega)
theorem px_S_3 (C : CallFix p m c cc nL s args TT own) (hK : KX D tys adK adV A s) (I : Iv D (xw cI cC cS ad) S A s H locs) (hl : Cond.fieldLink own index RX7 "one" "I" ∈ TT) {x : Int32} (hdg : decode cc pc = .ok (.putfield index, 3)) {q : Fin 24} (kk : ∀ S1 : St, S1 = setI S (33 + q.val) 3 x → ∀ (H1 : Heap) (locs1 : List Loc), Iv D (xw cI cC cS ad) S1 A s H1 locs1 → W p l e R s m args below meth c H1 locs1 0 0 Q (F0 m (pc + 3) ls rest)) : W p l e R s m args below meth c H locs 0 0 Q (F0 m pc ls (.int x :: .ref (ad (33 + q.val)) :: rest)) := k_put (S1 := setI S (33 + q.val) 3 x) C hK.1 I inT7 tyX7 tyX7_ok nmX7 (33 + q.val) 7 3 (xw_S (cI := cI) (cC := cC) (cS := cS) (ad := ad) q) rfl (by decide) rfl hl rfl rfl rfl (Nat.le_of_ble_eq_true rfl) (xs_S_3 q) hdg (kk _ rfl)
theorem gx_C_0 (C : CallFix p m c cc nL s args TT own) (hK : KX D tys adK adV A s) (I : Iv D (xw cI cC cS ad) S A s H locs) (hl : Cond.fieldLink own index RX1 "sorts" "[LCarryUp$Sort;" ∈ TT) (hdg : decode cc pc = .ok (.getfield index, 3)) {q : Fin 6} (kk : W p l e R s m args below meth c H locs 0 0 Q (F0 m (pc + 3) ls (.ref (ad (27 + q.val)) :: rest))) : W p l e R s m args below meth c H locs 0 0 Q (F0 m pc ls (.ref (ad (21 + q.val)) :: rest)) := k_get C hK.1 I inT1 (21 + q.val) 1 0 (xw_C (cI := cI) (cC := cC) (cS := cS) (ad := ad) q) rfl (by decide) rfl hl rfl hdg kk
def alen : Nat → Nat := fun k => match k with
  | 0 => 200
  | 1 => 80
  | 2 => 8
  | 3 => 8
  | 4 => 36
  | 5 => 6
  | 6 => 6
  | 7 => 16
  | 8 => 16
  | 9 => 16
  | _ => 0
theorem xw_A : ∀ c : Fin 10, (xw cI cC cS ad S)[11 + c.val]? = some (ad (11 + c.val), .inl (cI, alen c.val, .inl (S.1 (11 + c.val))))
  | ⟨0, _⟩ => rfl
  | ⟨1, _⟩ => rfl
  | ⟨2, _⟩ => rfl
  | ⟨3, _⟩ => rfl
  | ⟨4, _⟩ => rfl
  | ⟨5, _⟩ => rfl
  | ⟨6, _⟩ => rfl
  | ⟨7, _⟩ => rfl
  | ⟨8, _⟩ => rfl
  | ⟨9, _⟩ => rfl
  | ⟨n + 10, h⟩ => absurd h (by omega)
theorem xs_A {i : Nat} {x : Int32} : ∀ c : Fin 10, (xw cI cC cS ad S).set (11 + c.val) (ad (11 + c.val), .inl (cI, alen c.val, .inl (upd (S.1 (11 + c.val)) i x))) = xw cI cC cS ad (setI S (11 + c.val) i x)
  | ⟨0, _⟩ => rfl
  | ⟨1, _⟩ => rfl
  | ⟨2, _⟩ => rfl
  | ⟨3, _⟩ => rfl
  | ⟨4, _⟩ => rfl
  | ⟨5, _⟩ => rfl
  | ⟨6, _⟩ => rfl
  | ⟨7, _⟩ => rfl
  | ⟨8, _⟩ => rfl
  | ⟨9, _⟩ => rfl
  | ⟨n + 10, h⟩ => absurd h (by omega)
theorem ax_A (C : CallFix p m c cc nL s args TT own) (hK : KX D (xtys cI cC cS) adK adV A s) (I : Iv D (xw cI cC cS ad) S A s H locs) {q : Fin 10} {i : Int32} (hin : ixo i (alen q.val)) (hdg : decode cc pc = .ok (.iaload, 1)) (kk : W p l e R s m args below meth c H locs 0 0 Q (F0 m (pc + 1) ls (.int (S.1 (11 + q.val) i.toNatClampNeg) :: rest))) : W p l e R s m args below meth c H locs 0 0 Q (F0 m pc ls (.int i :: .ref (ad (11 + q.val)) :: rest)) := k_ald C hK.1 I (11 + q.val) 0 (xw_A (cI := cI) (cC := cC) (cS := cS) (ad := ad) q) rfl hin hdg kk
theorem bx_A (C : CallFix p m c cc nL s args TT own) (hK : KX D (xtys cI cC cS) adK adV A s) (I : Iv D (xw cI cC cS ad) S A s H locs) {q : Fin 10} {i x : Int32} (hin : ixo i (alen q.val)) (hdg : decode cc pc = .ok (.iastore, 1)) (kk : ∀ S1 : St, S1 = setI S (11 + q.val) i.toNatClampNeg x → ∀ (H1 : Heap) (locs1 : List Loc), Iv D (xw cI cC cS ad) S1 A s H1 locs1 → W p l e R s m args below meth c H1 locs1 0 0 Q (F0 m (pc + 1) ls rest)) : W p l e R s m args below meth c H locs 0 0 Q (F0 m pc ls (.int x :: .int i :: .ref (ad (11 + q.val)) :: rest)) := k_ast (S1 := setI S (11 + q.val) i.toNatClampNeg x) C hK.1 I (11 + q.val) 0 (xw_A (cI := cI) (cC := cC) (cS := cS) (ad := ad) q) rfl hin (xs_A q) hdg (kk _ rfl)
theorem lx_A (C : CallFix p m c cc nL s args TT own) (hK : KX D (xtys cI cC cS) adK adV A s) (I : Iv D (xw cI cC cS ad) S A s H locs) {q : Fin 10} (hdg : decode cc pc = .ok (.arraylength, 1)) (kk : W p l e R s m args below meth c H locs 0 0 Q (F0 m (pc + 1) ls (.int (nI (alen q.val)) :: rest))) : W p l e R s m args below meth c H locs 0 0 Q (F0 m pc ls (.ref (ad (11 + q.val)) :: rest)) := va_alen C.1 C.2.1 hK.1 I.1 (11 + q.val) 0 (xw_A (cI := cI) (cC := cC) (cS := cS) (ad := ad) q) (ty := .int) rfl rfl hdg kk
theorem lx_9 (C : CallFix p m c cc nL s args TT own) (hK : KX D (xtys cI cC cS) adK adV A s) (I : Iv D (xw cI cC cS ad) S A s H locs) (hdg : decode cc pc = .ok (.arraylength, 1)) (kk : W p l e R s m args below meth c H locs 0 0 Q (F0 m (pc + 1) ls (.int 6 :: rest))) : W p l e R s m args below meth c H locs 0 0 Q (F0 m pc ls (.ref (ad 9) :: rest)) := va_alen C.1 C.2.1 hK.1 I.1 9 1 (ws := xw cI cC cS ad S) rfl (ty := .object "CarryUp$Call") rfl rfl hdg kk
theorem lx_10 (C : CallFix p m c cc nL s args TT own) (hK : KX D (xtys cI cC cS) adK adV A s) (I : Iv D (xw cI cC cS ad) S A s H locs) (hdg : decode cc pc = .ok (.arraylength, 1)) (kk : W p l e R s m args below meth c H locs 0 0 Q (F0 m (pc + 1) ls (.int 6 :: rest))) : W p l e R s m args below meth c H locs 0 0 Q (F0 m pc ls (.ref (ad 10) :: rest)) := va_alen C.1 C.2.1 hK.1 I.1 10 1 (ws := xw cI cC cS ad S) rfl (ty := .object "CarryUp$Call") rfl rfl hdg kk
theorem xw_R : ∀ c : Fin 6, (xw cI cC cS ad S)[27 + c.val]? = some (ad (27 + c.val), .inl (cS, 4, .inr (.inr (.inr (.inr (fun j => if j < 4 then some (ad (33 + (4 * c.val + j))) else none))))))
  | ⟨0, _⟩ => rfl
  | ⟨1, _⟩ => rfl
  | ⟨2, _⟩ => rfl
  | ⟨3, _⟩ => rfl
  | ⟨4, _⟩ => rfl
  | ⟨5, _⟩ => rfl
  | ⟨n + 6, h⟩ => absurd h (by omega)
theorem lx_R (C : CallFix p m c cc nL s args TT own) (hK : KX D (xtys cI cC cS) adK adV A s) (I : Iv D (xw cI cC cS ad) S A s H locs) {q : Fin 6} (hdg : decode cc pc = .ok (.arraylength, 1)) (kk : W p l e R s m args below meth c H locs 0 0 Q (F0 m (pc + 1) ls (.int 4 :: rest))) : W p l e R s m args below meth c H locs 0 0 Q (F0 m pc ls (.ref (ad (27 + q.val)) :: rest)) := va_alen C.1 C.2.1 hK.1 I.1 (27 + q.val) 2 (xw_R (cI := cI) (cC := cC) (cS := cS) (ad := ad) q) (ty := .object "CarryUp$Sort") rfl rfl hdg kk
/-- a call out of the plan's row -/
theorem ax_9 (C : CallFix p m c cc nL s args TT own) (hK : KX D (xtys cI cC cS) adK adV A s) (I : Iv D (xw cI cC cS ad) S A s H locs) {i : Int32} {q : Fin 6} (hi : fin6 i = some q) (hdg : decode cc pc = .ok (.aaload, 1)) (kk : W p l e R s m args below meth c H locs 0 0 Q (F0 m (pc + 1) ls (.ref (ad (21 + q.val)) :: rest))) : W p l e R s m args below meth c H locs 0 0 Q (F0 m pc ls (.int i :: .ref (ad 9) :: rest)) := by
  obtain ⟨h1, h2⟩ := fin6_ex hi
  refine va_aldq C.1 C.2.1 hK.1 I.1 9 1 (ws := xw cI cC cS ad S) rfl (C := "CarryUp$Call") rfl h1 hdg ?_
  rw [← h2, if_pos q.isLt]
  exact kk
/-- a sort out of a call's row -/
theorem ax_R (C : CallFix p m c cc nL s args TT own) (hK : KX D (xtys cI cC cS) adK adV A s) (I : Iv D (xw cI cC cS ad) S A s H locs) {i : Int32} {z : Fin 6} {q : Fin 24} (hi : finS z i = some q) (hdg : decode cc pc = .ok (.aaload, 1)) (kk : W p l e R s m args below meth c H locs 0 0 Q (F0 m (pc + 1) ls (.ref (ad (33 + q.val)) :: rest))) : W p l e R s m args below meth c H locs 0 0 Q (F0 m pc ls (.int i :: .ref (ad (27 + z.val)) :: rest)) := by
  obtain ⟨h1, h2⟩ := finS_ex hi
  refine va_aldq C.1 C.2.1 hK.1 I.1 (27 + z.val) 2 (xw_R (cI := cI) (cC := cC) (cS := cS) (ad := ad) z) (C := "CarryUp$Sort") rfl h1 hdg ?_
  rw [if_pos (ix_lt h1), ← h2]
  exact kk
/-- a reference to a call, or to a sort, or none -/
def rC (ad : Nat → Nat) (o : Option (Fin 6)) : Value := va_rf (o.map fun c => ad (21 + c.val))
def rS (ad : Nat → Nat) (o : Option (Fin 24)) : Value := va_rf (o.map fun c => ad (33 + c.val))
/-- the row's own calls -/
theorem ax_10 (C : CallFix p m c cc nL s args TT own) (hK : KX D (xtys cI cC cS) adK adV A s) (I : Iv D (xw cI cC cS ad) S A s H locs) {i : Int32} (hin : ixo i 6) (hdg : decode cc pc = .ok (.aaload, 1)) (kk : W p l e R s m args below meth c H locs 0 0 Q (F0 m (pc + 1) ls (rC ad (S.2.2 i.toNatClampNeg) :: rest))) : W p l e R s m args below meth c H locs 0 0 Q (F0 m pc ls (.int i :: .ref (ad 10) :: rest)) :=
  va_aldq C.1 C.2.1 hK.1 I.1 10 1 (ws := xw cI cC cS ad S) rfl (C := "CarryUp$Call") rfl hin hdg kk
theorem xs_10 {i : Nat} {v : Option (Fin 6)} : (xw cI cC cS ad S).set 10 (ad 10, .inl (cC, 6, .inr (.inr (.inr (.inr (va_up (fun i => (S.2.2 i).map (fun c => ad (21 + c.val))) i (v.map fun c => ad (21 + c.val)))))))) = xw cI cC cS ad (setR S i v) := by
  have e : va_up (fun i => (S.2.2 i).map (fun c => ad (21 + c.val))) i (v.map fun c => ad (21 + c.val)) = fun j => ((setR S i v).2.2 j).map (fun c => ad (21 + c.val)) := by
    funext j
    by_cases h : j = i
    · subst h; simp [va_up, setR]
    · simp [va_up, setR, h]
  rw [e]
  rfl
theorem bx_10 (C : CallFix p m c cc nL s args TT own) (hK : KX D (xtys cI cC cS) adK adV A s) (I : Iv D (xw cI cC cS ad) S A s H locs) {i : Int32} {v : Option (Fin 6)} (hin : ixo i 6) (hdg : decode cc pc = .ok (.aastore, 1)) (kk : ∀ S1 : St, S1 = setR S i.toNatClampNeg v → ∀ (H1 : Heap) (locs1 : List Loc), Iv D (xw cI cC cS ad) S1 A s H1 locs1 → W p l e R s m args below meth c H1 locs1 0 0 Q (F0 m (pc + 1) ls rest)) : W p l e R s m args below meth c H locs 0 0 Q (F0 m pc ls (rC ad v :: .int i :: .ref (ad 10) :: rest)) := by
  obtain ⟨hP, hD, hS⟩ := I
  cases v with
  | none =>
    refine va_astqN C.1 C.2.1 hK.1 hP hD hS 10 1 rfl (C := "CarryUp$Call") rfl hin hdg (fun H1 locs1 h1 h2 h3 => kk _ rfl H1 locs1 ⟨?_, ?_, h3⟩)
    · have := xs_10 (cI := cI) (cC := cC) (cS := cS) (ad := ad) (S := S) (i := i.toNatClampNeg) (v := none); rw [← this]; exact h1
    · have := xs_10 (cI := cI) (cC := cC) (cS := cS) (ad := ad) (S := S) (i := i.toNatClampNeg) (v := none); rw [← this]; exact h2
  | some q =>
    refine va_astq C.1 C.2.1 hK.1 hP hD hS 10 1 (21 + q.val) 1 rfl (r := (RX1, TX1, 10)) rfl (xw_C (cI := cI) (cC := cC) (cS := cS) (ad := ad) q) rfl hin hdg (fun H1 locs1 h1 h2 h3 => kk _ rfl H1 locs1 ⟨?_, ?_, h3⟩)
    · have := xs_10 (cI := cI) (cC := cC) (cS := cS) (ad := ad) (S := S) (i := i.toNatClampNeg) (v := some q); rw [← this]; exact h1
    · have := xs_10 (cI := cI) (cC := cC) (cS := cS) (ad := ad) (S := S) (i := i.toNatClampNeg) (v := some q); rw [← this]; exact h2
theorem cat_rC {ad : Nat → Nat} {o : Option (Fin 6)} : (rC ad o).category = 1 := by cases o <;> rfl
theorem cat_rS {ad : Nat → Nat} {o : Option (Fin 24)} : (rS ad o).category = 1 := by cases o <;> rfl
end KX
end
section
theorem cn_J6_265 : Cond.constant RJ6 265 (1431655765) ∈ TT := tt_of 941 (by decide +kernel) rfl
theorem cn_J6_266 : Cond.constant RJ6 266 (858993459) ∈ TT := tt_of 942 (by decide +kernel) rfl
theorem cn_J6_267 : Cond.constant RJ6 267 (252645135) ∈ TT := tt_of 943 (by decide +kernel) rfl
theorem dJ6_bitCount_0f7a4_0 : decode cJ6_bitCount_0f7a4 0 = .ok (.iload_n 0, 1) := by decide +kernel
theorem dJ6_bitCount_0f7a4_1 : decode cJ6_bitCount_0f7a4 1 = .ok (.iload_n 0, 1) := by decide +kernel
theorem dJ6_bitCount_0f7a4_2 : decode cJ6_bitCount_0f7a4 2 = .ok (.iconst 1, 1) := by decide +kernel
theorem dJ6_bitCount_0f7a4_3 : decode cJ6_bitCount_0f7a4 3 = .ok (.iushr, 1) := by decide +kernel
theorem dJ6_bitCount_0f7a4_4 : decode cJ6_bitCount_0f7a4 4 = .ok (.ldc_w 265, 3) := by decide +kernel
theorem dJ6_bitCount_0f7a4_7 : decode cJ6_bitCount_0f7a4 7 = .ok (.iand, 1) := by decide +kernel
theorem dJ6_bitCount_0f7a4_8 : decode cJ6_bitCount_0f7a4 8 = .ok (.isub, 1) := by decide +kernel
theorem dJ6_bitCount_0f7a4_9 : decode cJ6_bitCount_0f7a4 9 = .ok (.istore_n 0, 1) := by decide +kernel
theorem dJ6_bitCount_0f7a4_10 : decode cJ6_bitCount_0f7a4 10 = .ok (.iload_n 0, 1) := by decide +kernel
theorem dJ6_bitCount_0f7a4_11 : decode cJ6_bitCount_0f7a4 11 = .ok (.ldc_w 266, 3) := by decide +kernel
theorem dJ6_bitCount_0f7a4_14 : decode cJ6_bitCount_0f7a4 14 = .ok (.iand, 1) := by decide +kernel
theorem dJ6_bitCount_0f7a4_15 : decode cJ6_bitCount_0f7a4 15 = .ok (.iload_n 0, 1) := by decide +kernel
theorem dJ6_bitCount_0f7a4_16 : decode cJ6_bitCount_0f7a4 16 = .ok (.iconst 2, 1) := by decide +kernel
theorem dJ6_bitCount_0f7a4_17 : decode cJ6_bitCount_0f7a4 17 = .ok (.iushr, 1) := by decide +kernel
theorem dJ6_bitCount_0f7a4_18 : decode cJ6_bitCount_0f7a4 18 = .ok (.ldc_w 266, 3) := by decide +kernel
theorem dJ6_bitCount_0f7a4_21 : decode cJ6_bitCount_0f7a4 21 = .ok (.iand, 1) := by decide +kernel
theorem dJ6_bitCount_0f7a4_22 : decode cJ6_bitCount_0f7a4 22 = .ok (.iadd, 1) := by decide +kernel
theorem dJ6_bitCount_0f7a4_23 : decode cJ6_bitCount_0f7a4 23 = .ok (.istore_n 0, 1) := by decide +kernel
theorem dJ6_bitCount_0f7a4_24 : decode cJ6_bitCount_0f7a4 24 = .ok (.iload_n 0, 1) := by decide +kernel
theorem dJ6_bitCount_0f7a4_25 : decode cJ6_bitCount_0f7a4 25 = .ok (.iload_n 0, 1) := by decide +kernel
theorem dJ6_bitCount_0f7a4_26 : decode cJ6_bitCount_0f7a4 26 = .ok (.iconst 4, 1) := by decide +kernel
theorem dJ6_bitCount_0f7a4_27 : decode cJ6_bitCount_0f7a4 27 = .ok (.iushr, 1) := by decide +kernel
theorem dJ6_bitCount_0f7a4_28 : decode cJ6_bitCount_0f7a4 28 = .ok (.iadd, 1) := by decide +kernel
theorem dJ6_bitCount_0f7a4_29 : decode cJ6_bitCount_0f7a4 29 = .ok (.ldc_w 267, 3) := by decide +kernel
theorem dJ6_bitCount_0f7a4_32 : decode cJ6_bitCount_0f7a4 32 = .ok (.iand, 1) := by decide +kernel
theorem dJ6_bitCount_0f7a4_33 : decode cJ6_bitCount_0f7a4 33 = .ok (.istore_n 0, 1) := by decide +kernel
theorem dJ6_bitCount_0f7a4_34 : decode cJ6_bitCount_0f7a4 34 = .ok (.iload_n 0, 1) := by decide +kernel
theorem dJ6_bitCount_0f7a4_35 : decode cJ6_bitCount_0f7a4 35 = .ok (.iload_n 0, 1) := by decide +kernel
theorem dJ6_bitCount_0f7a4_36 : decode cJ6_bitCount_0f7a4 36 = .ok (.bipush 8, 2) := by decide +kernel
theorem dJ6_bitCount_0f7a4_38 : decode cJ6_bitCount_0f7a4 38 = .ok (.iushr, 1) := by decide +kernel
theorem dJ6_bitCount_0f7a4_39 : decode cJ6_bitCount_0f7a4 39 = .ok (.iadd, 1) := by decide +kernel
theorem dJ6_bitCount_0f7a4_40 : decode cJ6_bitCount_0f7a4 40 = .ok (.istore_n 0, 1) := by decide +kernel
theorem dJ6_bitCount_0f7a4_41 : decode cJ6_bitCount_0f7a4 41 = .ok (.iload_n 0, 1) := by decide +kernel
theorem dJ6_bitCount_0f7a4_42 : decode cJ6_bitCount_0f7a4 42 = .ok (.iload_n 0, 1) := by decide +kernel
theorem dJ6_bitCount_0f7a4_43 : decode cJ6_bitCount_0f7a4 43 = .ok (.bipush 16, 2) := by decide +kernel
theorem dJ6_bitCount_0f7a4_45 : decode cJ6_bitCount_0f7a4 45 = .ok (.iushr, 1) := by decide +kernel
theorem dJ6_bitCount_0f7a4_46 : decode cJ6_bitCount_0f7a4 46 = .ok (.iadd, 1) := by decide +kernel
theorem dJ6_bitCount_0f7a4_47 : decode cJ6_bitCount_0f7a4 47 = .ok (.istore_n 0, 1) := by decide +kernel
theorem dJ6_bitCount_0f7a4_48 : decode cJ6_bitCount_0f7a4 48 = .ok (.iload_n 0, 1) := by decide +kernel
theorem dJ6_bitCount_0f7a4_49 : decode cJ6_bitCount_0f7a4 49 = .ok (.bipush 63, 2) := by decide +kernel
theorem dJ6_bitCount_0f7a4_51 : decode cJ6_bitCount_0f7a4 51 = .ok (.iand, 1) := by decide +kernel
theorem dJ6_bitCount_0f7a4_52 : decode cJ6_bitCount_0f7a4 52 = .ok (.ireturn, 1) := by decide +kernel
def f_J6_bitCount_0f7a4 (S : St) (x0 : Int32) : Option (Int32 × St) :=
  bnd ((x0 - ((((x0).toUInt32 >>> ((1 : Int32).toUInt32 &&& Int32.toUInt32 31)).toInt32) &&& 1431655765)) : Int32) fun v1 =>
  bnd (((v1 &&& 858993459) + ((((v1).toUInt32 >>> ((2 : Int32).toUInt32 &&& Int32.toUInt32 31)).toInt32) &&& 858993459)) : Int32) fun v2 =>
  bnd (((v2 + (((v2).toUInt32 >>> ((4 : Int32).toUInt32 &&& Int32.toUInt32 31)).toInt32)) &&& 252645135) : Int32) fun v3 =>
  bnd ((v3 + (((v3).toUInt32 >>> ((8 : Int32).toUInt32 &&& Int32.toUInt32 31)).toInt32)) : Int32) fun v4 =>
  bnd ((v4 + (((v4).toUInt32 >>> ((16 : Int32).toUInt32 &&& Int32.toUInt32 31)).toInt32)) : Int32) fun v5 =>
  some ((v5 &&& 63), S)
set_option maxHeartbeats 4000000 in
set_option maxRecDepth 100000 in
theorem c_J6_bitCount_0f7a4 {l : Launch} {D : va_G} {cI cC cS : ClassId} {ad adK adV : Nat → Nat} {S S1 : St} {x0 : Int32} {r : Int32} (h : f_J6_bitCount_0f7a4 S x0 = some (r, S1)) : Kt l D (xw cI cC cS ad) (KX D (xtys cI cC cS) adK adV) yJ6_bitCount_0f7a4 cJ6_bitCount_0f7a4 1 (some .int) 0 0 [.int x0] S (some (.int r)) S1 := by
  refine k_ent (ins := .ireturn) (st := [.int r]) (by decide +kernel) (Nat.le_of_ble_eq_true rfl) ret_i ?_
  intro p e s m args below meth c A Q C hK I hA hq ls hl
  have C : CallFix p m c cJ6_bitCount_0f7a4 1 s args TT RJ6 := C
  have hx := C.1
  have hb := C.2.1
  have kx := kx_ok D (xtys cI cC cS) adK adV
  have hl : lv_has ls 1 [(0, .int x0)] := hl
  unfold f_J6_bitCount_0f7a4 at h
  refine lv_iload_n hx hb dJ6_bitCount_0f7a4_0 rfl (lv_at hl 0 rfl) ?_
  refine lv_iload_n hx hb dJ6_bitCount_0f7a4_1 rfl (lv_at hl 0 rfl) ?_
  refine lv_iconst (v := 1) hx hb dJ6_bitCount_0f7a4_2 (by decide) ?_
  refine lv_iushr hx hb dJ6_bitCount_0f7a4_3 rfl ?_
  refine lv_ldcw (v := 1431655765) hx hb C.2.2.2.1 (C.2.2.2.2 _ cn_J6_265) dJ6_bitCount_0f7a4_4 ?_
  refine lv_iand hx hb dJ6_bitCount_0f7a4_7 ?_
  refine lv_isub hx hb dJ6_bitCount_0f7a4_8 ?_
  refine lv_topi (fun v1 ev1 => ?_)
  have h := bnd_at ev1 h
  clear ev1
  refine lv_istore_n (lv' := [(0, .int v1)]) hx hb dJ6_bitCount_0f7a4_9 rfl hl (by decide) rfl (fun ls hl => ?_)
  refine lv_iload_n hx hb dJ6_bitCount_0f7a4_10 rfl (lv_at hl 0 rfl) ?_
  refine lv_ldcw (v := 858993459) hx hb C.2.2.2.1 (C.2.2.2.2 _ cn_J6_266) dJ6_bitCount_0f7a4_11 ?_
  refine lv_iand hx hb dJ6_bitCount_0f7a4_14 ?_
  refine lv_iload_n hx hb dJ6_bitCount_0f7a4_15 rfl (lv_at hl 0 rfl) ?_
  refine lv_iconst (v := 2) hx hb dJ6_bitCount_0f7a4_16 (by decide) ?_
  refine lv_iushr hx hb dJ6_bitCount_0f7a4_17 rfl ?_
  refine lv_ldcw (v := 858993459) hx hb C.2.2.2.1 (C.2.2.2.2 _ cn_J6_266) dJ6_bitCount_0f7a4_18 ?_
  refine lv_iand hx hb dJ6_bitCount_0f7a4_21 ?_
  refine lv_iadd hx hb dJ6_bitCount_0f7a4_22 ?_
  refine lv_topi (fun v2 ev2 => ?_)
  have h := bnd_at ev2 h
  clear ev2
  refine lv_istore_n (lv' := [(0, .int v2)]) hx hb dJ6_bitCount_0f7a4_23 rfl hl (by decide) rfl (fun ls hl => ?_)
  refine lv_iload_n hx hb dJ6_bitCount_0f7a4_24 rfl (lv_at hl 0 rfl) ?_
  refine lv_iload_n hx hb dJ6_bitCount_0f7a4_25 rfl (lv_at hl 0 rfl) ?_
  refine lv_iconst (v := 4) hx hb dJ6_bitCount_0f7a4_26 (by decide) ?_
  refine lv_iushr hx hb dJ6_bitCount_0f7a4_27 rfl ?_
  refine lv_iadd hx hb dJ6_bitCount_0f7a4_28 ?_
  refine lv_ldcw (v := 252645135) hx hb C.2.2.2.1 (C.2.2.2.2 _ cn_J6_267) dJ6_bitCount_0f7a4_29 ?_
  refine lv_iand hx hb dJ6_bitCount_0f7a4_32 ?_
  refine lv_topi (fun v3 ev3 => ?_)
  have h := bnd_at ev3 h
  clear ev3
  refine lv_istore_n (lv' := [(0, .int v3)]) hx hb dJ6_bitCount_0f7a4_33 rfl hl (by decide) rfl (fun ls hl => ?_)
  refine lv_iload_n hx hb dJ6_bitCount_0f7a4_34 rfl (lv_at hl 0 rfl) ?_
  refine lv_iload_n hx hb dJ6_bitCount_0f7a4_35 rfl (lv_at hl 0 rfl) ?_
  refine lv_bipush (v := 8) hx hb dJ6_bitCount_0f7a4_36 (by decide) ?_
  refine lv_iushr hx hb dJ6_bitCount_0f7a4_38 rfl ?_
  refine lv_iadd hx hb dJ6_bitCount_0f7a4_39 ?_
  refine lv_topi (fun v4 ev4 => ?_)
  have h := bnd_at ev4 h
  clear ev4
  refine lv_istore_n (lv' := [(0, .int v4)]) hx hb dJ6_bitCount_0f7a4_40 rfl hl (by decide) rfl (fun ls hl => ?_)
  refine lv_iload_n hx hb dJ6_bitCount_0f7a4_41 rfl (lv_at hl 0 rfl) ?_
  refine lv_iload_n hx hb dJ6_bitCount_0f7a4_42 rfl (lv_at hl 0 rfl) ?_
  refine lv_bipush (v := 16) hx hb dJ6_bitCount_0f7a4_43 (by decide) ?_
  refine lv_iushr hx hb dJ6_bitCount_0f7a4_45 rfl ?_
  refine lv_iadd hx hb dJ6_bitCount_0f7a4_46 ?_
  refine lv_topi (fun v5 ev5 => ?_)
  have h := bnd_at ev5 h
  clear ev5
  refine lv_istore_n (lv' := [(0, .int v5)]) hx hb dJ6_bitCount_0f7a4_47 rfl hl (by decide) rfl (fun ls hl => ?_)
  refine lv_iload_n hx hb dJ6_bitCount_0f7a4_48 rfl (lv_at hl 0 rfl) ?_
  refine lv_bipush (v := 63) hx hb dJ6_bitCount_0f7a4_49 (by decide) ?_
  refine lv_iand hx hb dJ6_bitCount_0f7a4_51 ?_
  exact rt_i hq h I dJ6_bitCount_0f7a4_52
theorem dX10_within_0 : decode cX10_within 0 = .ok (.iload_n 0, 1) := by decide +kernel
theorem dX10_within_1 : decode cX10_within 1 = .ok (.iload_n 1, 1) := by decide +kernel
theorem dX10_within_2 : decode cX10_within 2 = .ok (.if_icmp .lt 12, 3) := by decide +kernel
theorem dX10_within_5 : decode cX10_within 5 = .ok (.iload_n 0, 1) := by decide +kernel
theorem dX10_within_6 : decode cX10_within 6 = .ok (.iload_n 2, 1) := by decide +kernel
theorem dX10_within_7 : decode cX10_within 7 = .ok (.if_icmp .gt 7, 3) := by decide +kernel
theorem dX10_within_10 : decode cX10_within 10 = .ok (.iconst 1, 1) := by decide +kernel
theorem dX10_within_11 : decode cX10_within 11 = .ok (.goto 4, 3) := by decide +kernel
theorem dX10_within_14 : decode cX10_within 14 = .ok (.iconst 0, 1) := by decide +kernel
theorem dX10_within_15 : decode cX10_within 15 = .ok (.ireturn, 1) := by decide +kernel
def f_X10_within (S : St) (x0 : Int32) (x1 : Int32) (x2 : Int32) : Option (Int32 × St) :=
  if x0 < x1 then (
    some (0, S)
  ) else (
    if x2 < x0 then (
      some (0, S)
    ) else (
      some (1, S)
    )
  )
set_option maxHeartbeats 4000000 in
set_option maxRecDepth 100000 in
theorem c_X10_within {l : Launch} {D : va_G} {cI cC cS : ClassId} {ad adK adV : Nat → Nat} {S S1 : St} {x0 : Int32} {x1 : Int32} {x2 : Int32} {r : Int32} (h : f_X10_within S x0 x1 x2 = some (r, S1)) : Kt l D (xw cI cC cS ad) (KX D (xtys cI cC cS) adK adV) yX10_within cX10_within 3 (some .boolean) 0 0 [.int x0, .int x1, .int x2] S (some (.int r)) S1 := by
  refine k_entz (by decide +kernel) (Nat.le_of_ble_eq_true rfl) ?_
  intro p e s m args below meth c A Q C hK I hA hq ls hl
  have C : CallFix p m c cX10_within 3 s args TT RX10 := C
  have hx := C.1
  have hb := C.2.1
  have kx := kx_ok D (xtys cI cC cS) adK adV
  have hl : lv_has ls 3 [(0, .int x0), (1, .int x1), (2, .int x2)] := hl
  unfold f_X10_within at h
  refine lv_iload_n hx hb dX10_within_0 rfl (lv_at hl 0 rfl) ?_
  refine lv_iload_n hx hb dX10_within_1 rfl (lv_at hl 1 rfl) ?_
  refine lv_icmp_lt (tgt := 14) hx hb dX10_within_2 (by decide) (fun c1 => ?_) (fun c1 => ?_)
  · have h := ite_t c1 h
    refine lv_iconst (v := 0) hx hb dX10_within_14 (by decide) ?_
    exact rt_z (Or.inl rfl) hq h I dX10_within_15
  · have h := ite_n c1 h
    refine lv_iload_n hx hb dX10_within_5 rfl (lv_at hl 0 rfl) ?_
    refine lv_iload_n hx hb dX10_within_6 rfl (lv_at hl 2 rfl) ?_
    refine lv_icmp_gt (tgt := 14) hx hb dX10_within_7 (by decide) (fun c2 => ?_) (fun c2 => ?_)
    · have h := ite_t c2 h
      refine lv_iconst (v := 0) hx hb dX10_within_14 (by decide) ?_
      exact rt_z (Or.inl rfl) hq h I dX10_within_15
    · have h := ite_n c2 h
      refine lv_iconst (v := 1) hx hb dX10_within_10 (by decide) ?_
      refine lv_goto (tgt := 15) hx hb dX10_within_11 (by decide) ?_
      exact rt_z (Or.inr rfl) hq h I dX10_within_15
theorem lk_X10_94 : Cond.methodLink RX10 94 yX10_within ∈ TT := tt_of 635 (by decide +kernel) rfl
theorem ms_X10_within : MS yX10_within cX10_within 3 (some .boolean) 3 := ⟨tt_of 419 (by decide +kernel) rfl, tt_of 418 (by decide +kernel) rfl, tt_of 65 (by decide +kernel) rfl, ⟨by decide +kernel, by decide +kernel, by decide +kernel⟩⟩
theorem dX10_isBag_0 : decode cX10_isBag 0 = .ok (.iload_n 0, 1) := by decide +kernel
theorem dX10_isBag_1 : decode cX10_isBag 1 = .ok (.iconst 0, 1) := by decide +kernel
theorem dX10_isBag_2 : decode cX10_isBag 2 = .ok (.sipush 255, 3) := by decide +kernel
theorem dX10_isBag_5 : decode cX10_isBag 5 = .ok (.invokestatic 94, 3) := by decide +kernel
theorem dX10_isBag_8 : decode cX10_isBag 8 = .ok (.ireturn, 1) := by decide +kernel
def f_X10_isBag (S : St) (x0 : Int32) : Option (Int32 × St) :=
  obd2 (f_X10_within S x0 0 255) fun r1 S1 =>
  chk (zb r1) <|
  some (r1, S1)
set_option maxHeartbeats 4000000 in
set_option maxRecDepth 100000 in
theorem c_X10_isBag {l : Launch} {D : va_G} {cI cC cS : ClassId} {ad adK adV : Nat → Nat} {S S1 : St} {x0 : Int32} {r : Int32} (h : f_X10_isBag S x0 = some (r, S1)) : Kt l D (xw cI cC cS ad) (KX D (xtys cI cC cS) adK adV) yX10_isBag cX10_isBag 1 (some .boolean) 1 22 [.int x0] S (some (.int r)) S1 := by
  refine k_entz (by decide +kernel) (Nat.le_of_ble_eq_true rfl) ?_
  intro p e s m args below meth c A Q C hK I hA hq ls hl
  have C : CallFix p m c cX10_isBag 1 s args TT RX10 := C
  have hx := C.1
  have hb := C.2.1
  have kx := kx_ok D (xtys cI cC cS) adK adV
  have hl : lv_has ls 1 [(0, .int x0)] := hl
  unfold f_X10_isBag at h
  refine lv_iload_n hx hb dX10_isBag_0 rfl (lv_at hl 0 rfl) ?_
  refine lv_iconst (v := 0) hx hb dX10_isBag_1 (by decide) ?_
  refine lv_sipush (v := 255) hx hb dX10_isBag_2 (by decide) ?_
  obtain ⟨r1, S1, e1, h⟩ := obd2_ex h
  refine k_S (As := [.int x0, .int 0, .int 255]) (rest := []) (st1 := [.int r1]) C kx hK I hA (c_X10_within e1) ⟨Nat.le_of_ble_eq_true rfl, Nat.le_of_ble_eq_true rfl⟩ ms_X10_within lk_X10_94 rfl hl.1 rfl (Nat.le_of_ble_eq_true rfl) dX10_isBag_5 rfl (fun H locs I => ?_)
  obtain ⟨hz, h⟩ := chk_ex h
  exact rt_z hz hq h I dX10_isBag_8
theorem dX10_isPart_0 : decode cX10_isPart 0 = .ok (.iload_n 0, 1) := by decide +kernel
theorem dX10_isPart_1 : decode cX10_isPart 1 = .ok (.iconst 0, 1) := by decide +kernel
theorem dX10_isPart_2 : decode cX10_isPart 2 = .ok (.iconst 1, 1) := by decide +kernel
theorem dX10_isPart_3 : decode cX10_isPart 3 = .ok (.invokestatic 94, 3) := by decide +kernel
theorem dX10_isPart_6 : decode cX10_isPart 6 = .ok (.ireturn, 1) := by decide +kernel
def f_X10_isPart (S : St) (x0 : Int32) : Option (Int32 × St) :=
  obd2 (f_X10_within S x0 0 1) fun r1 S1 =>
  chk (zb r1) <|
  some (r1, S1)
set_option maxHeartbeats 4000000 in
set_option maxRecDepth 100000 in
theorem c_X10_isPart {l : Launch} {D : va_G} {cI cC cS : ClassId} {ad adK adV : Nat → Nat} {S S1 : St} {x0 : Int32} {r : Int32} (h : f_X10_isPart S x0 = some (r, S1)) : Kt l D (xw cI cC cS ad) (KX D (xtys cI cC cS) adK adV) yX10_isPart cX10_isPart 1 (some .boolean) 1 22 [.int x0] S (some (.int r)) S1 := by
  refine k_entz (by decide +kernel) (Nat.le_of_ble_eq_true rfl) ?_
  intro p e s m args below meth c A Q C hK I hA hq ls hl
  have C : CallFix p m c cX10_isPart 1 s args TT RX10 := C
  have hx := C.1
  have hb := C.2.1
  have kx := kx_ok D (xtys cI cC cS) adK adV
  have hl : lv_has ls 1 [(0, .int x0)] := hl
  unfold f_X10_isPart at h
  refine lv_iload_n hx hb dX10_isPart_0 rfl (lv_at hl 0 rfl) ?_
  refine lv_iconst (v := 0) hx hb dX10_isPart_1 (by decide) ?_
  refine lv_iconst (v := 1) hx hb dX10_isPart_2 (by decide) ?_
  obtain ⟨r1, S1, e1, h⟩ := obd2_ex h
  refine k_S (As := [.int x0, .int 0, .int 1]) (rest := []) (st1 := [.int r1]) C kx hK I hA (c_X10_within e1) ⟨Nat.le_of_ble_eq_true rfl, Nat.le_of_ble_eq_true rfl⟩ ms_X10_within lk_X10_94 rfl hl.1 rfl (Nat.le_of_ble_eq_true rfl) dX10_isPart_3 rfl (fun H locs I => ?_)
  obtain ⟨hz, h⟩ := chk_ex h
  exact rt_z hz hq h I dX10_isPart_6
theorem dX10_at_0 : decode cX10_at 0 = .ok (.aload_n 0, 1) := by decide +kernel
theorem dX10_at_1 : decode cX10_at 1 = .ok (.ifnull 19, 3) := by decide +kernel
theorem dX10_at_4 : decode cX10_at 4 = .ok (.iload_n 1, 1) := by decide +kernel
theorem dX10_at_5 : decode cX10_at 5 = .ok (.ifCond .lt 15, 3) := by decide +kernel
theorem dX10_at_8 : decode cX10_at 8 = .ok (.iload_n 1, 1) := by decide +kernel
theorem dX10_at_9 : decode cX10_at 9 = .ok (.aload_n 0, 1) := by decide +kernel
theorem dX10_at_10 : decode cX10_at 10 = .ok (.arraylength, 1) := by decide +kernel
theorem dX10_at_11 : decode cX10_at 11 = .ok (.if_icmp .ge 9, 3) := by decide +kernel
theorem dX10_at_14 : decode cX10_at 14 = .ok (.aload_n 0, 1) := by decide +kernel
theorem dX10_at_15 : decode cX10_at 15 = .ok (.iload_n 1, 1) := by decide +kernel
theorem dX10_at_16 : decode cX10_at 16 = .ok (.iaload, 1) := by decide +kernel
theorem dX10_at_17 : decode cX10_at 17 = .ok (.goto 4, 3) := by decide +kernel
theorem dX10_at_20 : decode cX10_at 20 = .ok (.iconst 0, 1) := by decide +kernel
theorem dX10_at_21 : decode cX10_at 21 = .ok (.ireturn, 1) := by decide +kernel
def f_X10_at (S : St) (x0 : Fin 10) (x1 : Int32) : Option (Int32 × St) :=
  if x1 < 0 then (
    some (0, S)
  ) else (
    if (nI (alen x0.val)) ≤ x1 then (
      some (0, S)
    ) else (
      chk (ixo x1 (alen x0.val)) <|
      some ((S.1 (11 + x0.val) (x1).toNatClampNeg), S)
    )
  )
set_option maxHeartbeats 4000000 in
set_option maxRecDepth 100000 in
theorem c_X10_at {l : Launch} {D : va_G} {cI cC cS : ClassId} {ad adK adV : Nat → Nat} {S S1 : St} {x0 : Fin 10} {x1 : Int32} {r : Int32} (h : f_X10_at S x0 x1 = some (r, S1)) : Kt l D (xw cI cC cS ad) (KX D (xtys cI cC cS) adK adV) yX10_at cX10_at 2 (some .int) 0 0 [.ref (ad (11 + x0.val)), .int x1] S (some (.int r)) S1 := by
  refine k_ent (ins := .ireturn) (st := [.int r]) (by decide +kernel) (Nat.le_of_ble_eq_true rfl) ret_i ?_
  intro p e s m args below meth c A Q C hK I hA hq ls hl
  have C : CallFix p m c cX10_at 2 s args TT RX10 := C
  have hx := C.1
  have hb := C.2.1
  have kx := kx_ok D (xtys cI cC cS) adK adV
  have hl : lv_has ls 2 [(0, .ref (ad (11 + x0.val))), (1, .int x1)] := hl
  unfold f_X10_at at h
  refine lv_aload_n hx hb dX10_at_0 rfl (lv_at hl 0 rfl) ?_
  refine lv_ifnull hx hb dX10_at_1 ?_
  refine lv_iload_n hx hb dX10_at_4 rfl (lv_at hl 1 rfl) ?_
  refine lv_if_lt (tgt := 20) hx hb dX10_at_5 (by decide) (fun c1 => ?_) (fun c1 => ?_)
  · have h := ite_t c1 h
    refine lv_iconst (v := 0) hx hb dX10_at_20 (by decide) ?_
    exact rt_i hq h I dX10_at_21
  · have h := ite_n c1 h
    refine lv_iload_n hx hb dX10_at_8 rfl (lv_at hl 1 rfl) ?_
    refine lv_aload_n hx hb dX10_at_9 rfl (lv_at hl 0 rfl) ?_
    refine lx_A C hK I dX10_at_10 ?_
    refine lv_icmp_ge (tgt := 20) hx hb dX10_at_11 (by decide) (fun c2 => ?_) (fun c2 => ?_)
    · have h := ite_t c2 h
      refine lv_iconst (v := 0) hx hb dX10_at_20 (by decide) ?_
      exact rt_i hq h I dX10_at_21
    · have h := ite_n c2 h
      refine lv_aload_n hx hb dX10_at_14 rfl (lv_at hl 0 rfl) ?_
      refine lv_iload_n hx hb dX10_at_15 rfl (lv_at hl 1 rfl) ?_
      obtain ⟨hv3, h⟩ := chk_ex h
      refine ax_A (q := x0) C hK I hv3 dX10_at_16 ?_
      refine lv_goto (tgt := 21) hx hb dX10_at_17 (by decide) ?_
      exact rt_i hq h I dX10_at_21
theorem dX10_put_0 : decode cX10_put 0 = .ok (.aload_n 0, 1) := by decide +kernel
theorem dX10_put_1 : decode cX10_put 1 = .ok (.ifnull 17, 3) := by decide +kernel
theorem dX10_put_4 : decode cX10_put 4 = .ok (.iload_n 1, 1) := by decide +kernel
theorem dX10_put_5 : decode cX10_put 5 = .ok (.ifCond .lt 13, 3) := by decide +kernel
theorem dX10_put_8 : decode cX10_put 8 = .ok (.iload_n 1, 1) := by decide +kernel
theorem dX10_put_9 : decode cX10_put 9 = .ok (.aload_n 0, 1) := by decide +kernel
theorem dX10_put_10 : decode cX10_put 10 = .ok (.arraylength, 1) := by decide +kernel
theorem dX10_put_11 : decode cX10_put 11 = .ok (.if_icmp .ge 7, 3) := by decide +kernel
theorem dX10_put_14 : decode cX10_put 14 = .ok (.aload_n 0, 1) := by decide +kernel
theorem dX10_put_15 : decode cX10_put 15 = .ok (.iload_n 1, 1) := by decide +kernel
theorem dX10_put_16 : decode cX10_put 16 = .ok (.iload_n 2, 1) := by decide +kernel
theorem dX10_put_17 : decode cX10_put 17 = .ok (.iastore, 1) := by decide +kernel
theorem dX10_put_18 : decode cX10_put 18 = .ok (.return_, 1) := by decide +kernel
def f_X10_put (S : St) (x0 : Fin 10) (x1 : Int32) (x2 : Int32) : Option St :=
  if x1 < 0 then (
    some S
  ) else (
    if (nI (alen x0.val)) ≤ x1 then (
      some S
    ) else (
      chk (ixo x1 (alen x0.val)) <|
      bnd (setI S (11 + x0.val) (x1).toNatClampNeg x2) fun S4 =>
      some S4
    )
  )
set_option maxHeartbeats 4000000 in
set_option maxRecDepth 100000 in
theorem c_X10_put {l : Launch} {D : va_G} {cI cC cS : ClassId} {ad adK adV : Nat → Nat} {S S1 : St} {x0 : Fin 10} {x1 : Int32} {x2 : Int32} (h : f_X10_put S x0 x1 x2 = some S1) : Kt l D (xw cI cC cS ad) (KX D (xtys cI cC cS) adK adV) yX10_put cX10_put 3 none 0 0 [.ref (ad (11 + x0.val)), .int x1, .int x2] S (none) S1 := by
  refine k_ent (ins := .return_) (st := []) (by decide +kernel) (Nat.le_of_ble_eq_true rfl) ret_v ?_
  intro p e s m args below meth c A Q C hK I hA hq ls hl
  have C : CallFix p m c cX10_put 3 s args TT RX10 := C
  have hx := C.1
  have hb := C.2.1
  have kx := kx_ok D (xtys cI cC cS) adK adV
  have hl : lv_has ls 3 [(0, .ref (ad (11 + x0.val))), (1, .int x1), (2, .int x2)] := hl
  unfold f_X10_put at h
  refine lv_aload_n hx hb dX10_put_0 rfl (lv_at hl 0 rfl) ?_
  refine lv_ifnull hx hb dX10_put_1 ?_
  refine lv_iload_n hx hb dX10_put_4 rfl (lv_at hl 1 rfl) ?_
  refine lv_if_lt (tgt := 18) hx hb dX10_put_5 (by decide) (fun c1 => ?_) (fun c1 => ?_)
  · have h := ite_t c1 h
    exact rt_v hq h I dX10_put_18
  · have h := ite_n c1 h
    refine lv_iload_n hx hb dX10_put_8 rfl (lv_at hl 1 rfl) ?_
    refine lv_aload_n hx hb dX10_put_9 rfl (lv_at hl 0 rfl) ?_
    refine lx_A C hK I dX10_put_10 ?_
    refine lv_icmp_ge (tgt := 18) hx hb dX10_put_11 (by decide) (fun c2 => ?_) (fun c2 => ?_)
    · have h := ite_t c2 h
      exact rt_v hq h I dX10_put_18
    · have h := ite_n c2 h
      refine lv_aload_n hx hb dX10_put_14 rfl (lv_at hl 0 rfl) ?_
      refine lv_iload_n hx hb dX10_put_15 rfl (lv_at hl 1 rfl) ?_
      refine lv_iload_n hx hb dX10_put_16 rfl (lv_at hl 2 rfl) ?_
      obtain ⟨hv3, h⟩ := chk_ex h
      refine bx_A (q := x0) C hK I hv3 dX10_put_17 (fun S4 eS4 H locs I => ?_)
      have h := bnd_at eS4 h
      clear eS4
      exact rt_v hq h I dX10_put_18
theorem lk_X10_305 : Cond.methodLink RX10 305 yJ9_abs_067f4 ∈ TT := tt_of 737 (by decide +kernel) rfl
theorem ms_J9_abs_067f4 : MS yJ9_abs_067f4 cJ9_abs_067f4 2 (some .long) 1 := ⟨tt_of 739 (by decide +kernel) rfl, tt_of 738 (by decide +kernel) rfl, tt_of 77 (by decide +kernel) rfl, ⟨by decide +kernel, by decide +kernel, by decide +kernel⟩⟩
theorem dX10_lowest_0 : decode cX10_lowest 0 = .ok (.lload_n 0, 1) := by decide +kernel
theorem dX10_lowest_1 : decode cX10_lowest 1 = .ok (.invokestatic 305, 3) := by decide +kernel
theorem dX10_lowest_4 : decode cX10_lowest 4 = .ok (.lstore 5, 2) := by decide +kernel
theorem dX10_lowest_6 : decode cX10_lowest 6 = .ok (.lload_n 2, 1) := by decide +kernel
theorem dX10_lowest_7 : decode cX10_lowest 7 = .ok (.invokestatic 305, 3) := by decide +kernel
theorem dX10_lowest_10 : decode cX10_lowest 10 = .ok (.lstore 7, 2) := by decide +kernel
theorem dX10_lowest_12 : decode cX10_lowest 12 = .ok (.iconst 0, 1) := by decide +kernel
theorem dX10_lowest_13 : decode cX10_lowest 13 = .ok (.istore 9, 2) := by decide +kernel
theorem dX10_lowest_15 : decode cX10_lowest 15 = .ok (.iload 9, 2) := by decide +kernel
theorem dX10_lowest_17 : decode cX10_lowest 17 = .ok (.bipush 100, 2) := by decide +kernel
theorem dX10_lowest_19 : decode cX10_lowest 19 = .ok (.if_icmp .ge 31, 3) := by decide +kernel
theorem dX10_lowest_22 : decode cX10_lowest 22 = .ok (.lload 7, 2) := by decide +kernel
theorem dX10_lowest_24 : decode cX10_lowest 24 = .ok (.lconst 0, 1) := by decide +kernel
theorem dX10_lowest_25 : decode cX10_lowest 25 = .ok (.lcmp, 1) := by decide +kernel
theorem dX10_lowest_26 : decode cX10_lowest 26 = .ok (.ifCond .eq 24, 3) := by decide +kernel
theorem dX10_lowest_29 : decode cX10_lowest 29 = .ok (.lload 5, 2) := by decide +kernel
theorem dX10_lowest_31 : decode cX10_lowest 31 = .ok (.lload 7, 2) := by decide +kernel
theorem dX10_lowest_33 : decode cX10_lowest 33 = .ok (.lrem, 1) := by decide +kernel
theorem dX10_lowest_34 : decode cX10_lowest 34 = .ok (.lstore 10, 2) := by decide +kernel
theorem dX10_lowest_36 : decode cX10_lowest 36 = .ok (.lload 7, 2) := by decide +kernel
theorem dX10_lowest_38 : decode cX10_lowest 38 = .ok (.lstore 5, 2) := by decide +kernel
theorem dX10_lowest_40 : decode cX10_lowest 40 = .ok (.lload 10, 2) := by decide +kernel
theorem dX10_lowest_42 : decode cX10_lowest 42 = .ok (.lstore 7, 2) := by decide +kernel
theorem dX10_lowest_44 : decode cX10_lowest 44 = .ok (.iinc 9 1, 3) := by decide +kernel
theorem dX10_lowest_47 : decode cX10_lowest 47 = .ok (.goto (-32), 3) := by decide +kernel
theorem dX10_lowest_50 : decode cX10_lowest 50 = .ok (.lload 5, 2) := by decide +kernel
theorem dX10_lowest_52 : decode cX10_lowest 52 = .ok (.lconst 0, 1) := by decide +kernel
theorem dX10_lowest_53 : decode cX10_lowest 53 = .ok (.lcmp, 1) := by decide +kernel
theorem dX10_lowest_54 : decode cX10_lowest 54 = .ok (.ifCond .ne 5, 3) := by decide +kernel
theorem dX10_lowest_57 : decode cX10_lowest 57 = .ok (.lconst 0, 1) := by decide +kernel
theorem dX10_lowest_58 : decode cX10_lowest 58 = .ok (.lreturn, 1) := by decide +kernel
theorem dX10_lowest_59 : decode cX10_lowest 59 = .ok (.iload 4, 2) := by decide +kernel
theorem dX10_lowest_61 : decode cX10_lowest 61 = .ok (.ifCond .ne 10, 3) := by decide +kernel
theorem dX10_lowest_64 : decode cX10_lowest 64 = .ok (.lload_n 0, 1) := by decide +kernel
theorem dX10_lowest_65 : decode cX10_lowest 65 = .ok (.lload 5, 2) := by decide +kernel
theorem dX10_lowest_67 : decode cX10_lowest 67 = .ok (.ldiv, 1) := by decide +kernel
theorem dX10_lowest_68 : decode cX10_lowest 68 = .ok (.goto 7, 3) := by decide +kernel
theorem dX10_lowest_71 : decode cX10_lowest 71 = .ok (.lload_n 2, 1) := by decide +kernel
theorem dX10_lowest_72 : decode cX10_lowest 72 = .ok (.lload 5, 2) := by decide +kernel
theorem dX10_lowest_74 : decode cX10_lowest 74 = .ok (.ldiv, 1) := by decide +kernel
theorem dX10_lowest_75 : decode cX10_lowest 75 = .ok (.lreturn, 1) := by decide +kernel
def f_X10_lowest_50 (S : St) (x0 : Int64) (x2 : Int64) (x4 : Int32) (x5 : Int64) : Option (Int64 × St) :=
  if (lg_cmp x5 (0)) = 0 then (
    some ((0), S)
  ) else (
    if x4 = 0 then (
      chk (¬ x5 = 0) <|
      some ((x0 / x5), S)
    ) else (
      chk (¬ x5 = 0) <|
      some ((x2 / x5), S)
    )
  )
def f_X10_lowest_15 (k_15 : St → Int64 → Int64 → Int32 → Int64 → Int64 → Int32 → Option (Int64 × St)) (S : St) (x0 : Int64) (x2 : Int64) (x4 : Int32) (x5 : Int64) (x7 : Int64) (x9 : Int32) : Option (Int64 × St) :=
  if 100 ≤ x9 then (
    f_X10_lowest_50 S x0 x2 x4 x5
  ) else (
    if (lg_cmp x7 (0)) = 0 then (
      f_X10_lowest_50 S x0 x2 x4 x5
    ) else (
      chk (¬ x7 = 0) <|
      bnd ((x5 - x5 / x7 * x7) : Int64) fun v8 =>
      bnd (x9 + 1 : Int32) fun v9 =>
      k_15 S x0 x2 x4 x7 v8 v9
    )
  )
def l_X10_lowest_15 : Nat → St → Int64 → Int64 → Int32 → Int64 → Int64 → Int32 → Option (Int64 × St)
  | 0, _, _, _, _, _, _, _ => none
  | fu + 1, S, x0, x2, x4, x5, x7, x9 => f_X10_lowest_15 (l_X10_lowest_15 fu) S x0 x2 x4 x5 x7 x9
def f_X10_lowest (S : St) (x0 : Int64) (x2 : Int64) (x4 : Int32) : Option (Int64 × St) :=
  bnd (if 0 < x0 then x0 else -x0 : Int64) fun v10 =>
  bnd (if 0 < x2 then x2 else -x2 : Int64) fun v11 =>
  l_X10_lowest_15 FU S x0 x2 x4 v10 v11 0
set_option maxHeartbeats 4000000 in
set_option maxRecDepth 100000 in
theorem c_X10_lowest {l : Launch} {D : va_G} {cI cC cS : ClassId} {ad adK adV : Nat → Nat} {S S1 : St} {x0 : Int64} {x2 : Int64} {x4 : Int32} {r : Int64} (h : f_X10_lowest S x0 x2 x4 = some (r, S1)) : Kt l D (xw cI cC cS ad) (KX D (xtys cI cC cS) adK adV) yX10_lowest cX10_lowest 12 (some .long) 1 23 [.long x0, .long x2, .int x4] S (some (.long r)) S1 := by
  refine k_ent (ins := .lreturn) (st := [.long r]) (by decide +kernel) (Nat.le_of_ble_eq_true rfl) ret_l ?_
  intro p e s m args below meth c A Q C hK I hA hq ls hl
  have C : CallFix p m c cX10_lowest 12 s args TT RX10 := C
  have hx := C.1
  have hb := C.2.1
  have kx := kx_ok D (xtys cI cC cS) adK adV
  have hl : lv_has ls 12 [(0, .long x0), (2, .long x2), (4, .int x4)] := hl
  have J_50 : ∀ (S : St) (x0 : Int64) (x2 : Int64) (x4 : Int32) (x5 : Int64), f_X10_lowest_50  S x0 x2 x4 x5 = some (r, S1) → ∀ (H : Heap) (locs : List Loc) (ls : Array Slot), Iv D (xw cI cC cS ad) S A s H locs → lv_has ls 12 [(0, .long x0), (2, .long x2), (4, .int x4), (5, .long x5)] → W p l e ({ frames := 1, cells := 0, slots := 0, locals := 23 } : Room) s m args below meth c H locs 0 0 Q (F0 m 50 ls []) := by
    intro  S x0 x2 x4 x5 h H locs ls I hl
    unfold f_X10_lowest_50 at h
    refine lv_lload hx hb dX10_lowest_50 (lv_at hl 3 rfl) ?_
    refine lv_lconst (v := (0)) hx hb dX10_lowest_52 (by decide) ?_
    refine W.lcmp hx hb dX10_lowest_53 ?_
    refine lv_if_ne (tgt := 59) hx hb dX10_lowest_54 (by decide) (fun c1 => ?_) (fun c1 => ?_)
    · have h := ite_n c1 h
      refine lv_iload hx hb dX10_lowest_59 (lv_at hl 2 rfl) ?_
      refine lv_if_ne (tgt := 71) hx hb dX10_lowest_61 (by decide) (fun c2 => ?_) (fun c2 => ?_)
      · have h := ite_n c2 h
        refine lv_lload_n hx hb dX10_lowest_71 rfl (lv_at hl 1 rfl) ?_
        refine lv_lload hx hb dX10_lowest_72 (lv_at hl 3 rfl) ?_
        obtain ⟨hv3, h⟩ := chk_ex h
        refine lv_ldiv hx hb dX10_lowest_74 hv3 ?_
        exact rt_l hq h I dX10_lowest_75
      · have h := ite_t c2 h
        refine lv_lload_n hx hb dX10_lowest_64 rfl (lv_at hl 0 rfl) ?_
        refine lv_lload hx hb dX10_lowest_65 (lv_at hl 3 rfl) ?_
        obtain ⟨hv4, h⟩ := chk_ex h
        refine lv_ldiv hx hb dX10_lowest_67 hv4 ?_
        refine lv_goto (tgt := 75) hx hb dX10_lowest_68 (by decide) ?_
        exact rt_l hq h I dX10_lowest_75
    · have h := ite_t c1 h
      refine lv_lconst (v := (0)) hx hb dX10_lowest_57 (by decide) ?_
      exact rt_l hq h I dX10_lowest_58
  have B_15 : ∀ (k_15 : St → Int64 → Int64 → Int32 → Int64 → Int64 → Int32 → Option (Int64 × St)) (hk_15 : ∀ (S : St) (x0 : Int64) (x2 : Int64) (x4 : Int32) (x5 : Int64) (x7 : Int64) (x9 : Int32), k_15 S x0 x2 x4 x5 x7 x9 = some (r, S1) → ∀ (H : Heap) (locs : List Loc) (ls : Array Slot), Iv D (xw cI cC cS ad) S A s H locs → lv_has ls 12 [(0, .long x0), (2, .long x2), (4, .int x4), (5, .long x5), (7, .long x7), (9, .int x9)] → W p l e ({ frames := 1, cells := 0, slots := 0, locals := 23 } : Room) s m args below meth c H locs 0 0 Q (F0 m 15 ls [])) (S : St) (x0 : Int64) (x2 : Int64) (x4 : Int32) (x5 : Int64) (x7 : Int64) (x9 : Int32), f_X10_lowest_15 k_15 S x0 x2 x4 x5 x7 x9 = some (r, S1) → ∀ (H : Heap) (locs : List Loc) (ls : Array Slot), Iv D (xw cI cC cS ad) S A s H locs → lv_has ls 12 [(0, .long x0), (2, .long x2), (4, .int x4), (5, .long x5), (7, .long x7), (9, .int x9)] → W p l e ({ frames := 1, cells := 0, slots := 0, locals := 23 } : Room) s m args below meth c H locs 0 0 Q (F0 m 15 ls []) := by
    intro k_15 hk_15 S x0 x2 x4 x5 x7 x9 h H locs ls I hl
    unfold f_X10_lowest_15 at h
    refine lv_iload hx hb dX10_lowest_15 (lv_at hl 5 rfl) ?_
    refine lv_bipush (v := 100) hx hb dX10_lowest_17 (by decide) ?_
    refine lv_icmp_ge (tgt := 50) hx hb dX10_lowest_19 (by decide) (fun c5 => ?_) (fun c5 => ?_)
    · have h := ite_t c5 h
      exact J_50 _ _ _ _ _ h _ _ _ I (lv_sub hl [0, 1, 2, 3] rfl)
    · have h := ite_n c5 h
      refine lv_lload hx hb dX10_lowest_22 (lv_at hl 4 rfl) ?_
      refine lv_lconst (v := (0)) hx hb dX10_lowest_24 (by decide) ?_
      refine W.lcmp hx hb dX10_lowest_25 ?_
      refine lv_if_eq (tgt := 50) hx hb dX10_lowest_26 (by decide) (fun c6 => ?_) (fun c6 => ?_)
      · have h := ite_t c6 h
        exact J_50 _ _ _ _ _ h _ _ _ I (lv_sub hl [0, 1, 2, 3] rfl)
      · have h := ite_n c6 h
        refine lv_lload hx hb dX10_lowest_29 (lv_at hl 3 rfl) ?_
        refine lv_lload hx hb dX10_lowest_31 (lv_at hl 4 rfl) ?_
        obtain ⟨hv7, h⟩ := chk_ex h
        refine lv_lrem hx hb dX10_lowest_33 hv7 ?_
        refine lv_topl (fun v8 ev8 => ?_)
        have h := bnd_at ev8 h
        clear ev8
        refine lv_lstore (lv' := [(10, .long v8), (0, .long x0), (2, .long x2), (4, .int x4), (5, .long x5), (7, .long x7), (9, .int x9)]) hx hb dX10_lowest_34 hl (by decide) rfl (fun ls hl => ?_)
        refine lv_lload hx hb dX10_lowest_36 (lv_at hl 5 rfl) ?_
        refine lv_lstore (lv' := [(5, .long x7), (10, .long v8), (0, .long x0), (2, .long x2), (4, .int x4), (7, .long x7), (9, .int x9)]) hx hb dX10_lowest_38 hl (by decide) rfl (fun ls hl => ?_)
        refine lv_lload hx hb dX10_lowest_40 (lv_at hl 1 rfl) ?_
        refine lv_lstore (lv' := [(7, .long v8), (5, .long x7), (10, .long v8), (0, .long x0), (2, .long x2), (4, .int x4), (9, .int x9)]) hx hb dX10_lowest_42 hl (by decide) rfl (fun ls hl => ?_)
        obtain ⟨v9, ev9⟩ : ∃ y : Int32, y = x9 + 1 := ⟨_, rfl⟩
        have h := bnd_at ev9 h
        refine lv_iinc (v := v9) (lv' := [(9, .int v9), (7, .long v8), (5, .long x7), (10, .long v8), (0, .long x0), (2, .long x2), (4, .int x4)]) hx hb dX10_lowest_44 hl (k := 6) rfl (by rw [ev9]; rfl) (by decide) rfl (fun ls hl => ?_)
        clear ev9
        refine lv_goto (tgt := 15) hx hb dX10_lowest_47 (by decide) ?_
        exact hk_15 _ _ _ _ _ _ _ h _ _ _ I (lv_sub hl [4, 5, 6, 2, 1, 0] rfl)
  have J_15 : ∀ (fu : Nat) (S : St) (x0 : Int64) (x2 : Int64) (x4 : Int32) (x5 : Int64) (x7 : Int64) (x9 : Int32), l_X10_lowest_15  fu S x0 x2 x4 x5 x7 x9 = some (r, S1) → ∀ (H : Heap) (locs : List Loc) (ls : Array Slot), Iv D (xw cI cC cS ad) S A s H locs → lv_has ls 12 [(0, .long x0), (2, .long x2), (4, .int x4), (5, .long x5), (7, .long x7), (9, .int x9)] → W p l e ({ frames := 1, cells := 0, slots := 0, locals := 23 } : Room) s m args below meth c H locs 0 0 Q (F0 m 15 ls []) := by
    intro fu
    induction fu with
    | zero => intro S x0 x2 x4 x5 x7 x9 h; cases h
    | succ fu ih => intro S x0 x2 x4 x5 x7 x9 h; exact B_15 (l_X10_lowest_15 fu) ih S x0 x2 x4 x5 x7 x9 h
  unfold f_X10_lowest at h
  refine lv_lload_n hx hb dX10_lowest_0 rfl (lv_at hl 0 rfl) ?_
  refine va_mabs_long hx hb (C.2.2.1.trans hl.1.symm) C.2.2.2.1 (C.2.2.2.2 _ lk_X10_305) (C.2.2.2.2 _ ms_J9_abs_067f4.2.1) (C.2.2.2.2 _ ms_J9_abs_067f4.2.2.1) (C.2.2.2.2 _ ms_J9_abs_067f4.1) (Nat.le_of_ble_eq_true rfl) (Nat.le_of_ble_eq_true rfl) (Nat.zero_le _) (Nat.zero_le _) dX10_lowest_1 ?_
  refine lv_topl (fun v10 ev10 => ?_)
  have h := bnd_at ev10 h
  clear ev10
  refine lv_lstore (lv' := [(5, .long v10), (0, .long x0), (2, .long x2), (4, .int x4)]) hx hb dX10_lowest_4 hl (by decide) rfl (fun ls hl => ?_)
  refine lv_lload_n hx hb dX10_lowest_6 rfl (lv_at hl 2 rfl) ?_
  refine va_mabs_long hx hb (C.2.2.1.trans hl.1.symm) C.2.2.2.1 (C.2.2.2.2 _ lk_X10_305) (C.2.2.2.2 _ ms_J9_abs_067f4.2.1) (C.2.2.2.2 _ ms_J9_abs_067f4.2.2.1) (C.2.2.2.2 _ ms_J9_abs_067f4.1) (Nat.le_of_ble_eq_true rfl) (Nat.le_of_ble_eq_true rfl) (Nat.zero_le _) (Nat.zero_le _) dX10_lowest_7 ?_
  refine lv_topl (fun v11 ev11 => ?_)
  have h := bnd_at ev11 h
  clear ev11
  refine lv_lstore (lv' := [(7, .long v11), (5, .long v10), (0, .long x0), (2, .long x2), (4, .int x4)]) hx hb dX10_lowest_10 hl (by decide) rfl (fun ls hl => ?_)
  refine lv_iconst (v := 0) hx hb dX10_lowest_12 (by decide) ?_
  refine lv_istore (lv' := [(9, .int 0), (7, .long v11), (5, .long v10), (0, .long x0), (2, .long x2), (4, .int x4)]) hx hb dX10_lowest_13 hl (by decide) rfl (fun ls hl => ?_)
  exact J_15 _ _ _ _ _ _ _ _ h _ _ _ I (lv_sub hl [3, 4, 5, 2, 1, 0] rfl)
theorem dX2_rowOf_0 : decode cX2_rowOf 0 = .ok (.iconst 0, 1) := by decide +kernel
theorem dX2_rowOf_1 : decode cX2_rowOf 1 = .ok (.istore_n 2, 1) := by decide +kernel
theorem dX2_rowOf_2 : decode cX2_rowOf 2 = .ok (.iload_n 0, 1) := by decide +kernel
theorem dX2_rowOf_3 : decode cX2_rowOf 3 = .ok (.istore_n 3, 1) := by decide +kernel
theorem dX2_rowOf_4 : decode cX2_rowOf 4 = .ok (.iconst 0, 1) := by decide +kernel
theorem dX2_rowOf_5 : decode cX2_rowOf 5 = .ok (.istore 4, 2) := by decide +kernel
theorem dX2_rowOf_7 : decode cX2_rowOf 7 = .ok (.iload 4, 2) := by decide +kernel
theorem dX2_rowOf_9 : decode cX2_rowOf 9 = .ok (.iload_n 1, 1) := by decide +kernel
theorem dX2_rowOf_10 : decode cX2_rowOf 10 = .ok (.if_icmp .ge 23, 3) := by decide +kernel
theorem dX2_rowOf_13 : decode cX2_rowOf 13 = .ok (.iload_n 2, 1) := by decide +kernel
theorem dX2_rowOf_14 : decode cX2_rowOf 14 = .ok (.iconst 4, 1) := by decide +kernel
theorem dX2_rowOf_15 : decode cX2_rowOf 15 = .ok (.ishl, 1) := by decide +kernel
theorem dX2_rowOf_16 : decode cX2_rowOf 16 = .ok (.iload_n 3, 1) := by decide +kernel
theorem dX2_rowOf_17 : decode cX2_rowOf 17 = .ok (.bipush 6, 2) := by decide +kernel
theorem dX2_rowOf_19 : decode cX2_rowOf 19 = .ok (.irem, 1) := by decide +kernel
theorem dX2_rowOf_20 : decode cX2_rowOf 20 = .ok (.ior, 1) := by decide +kernel
theorem dX2_rowOf_21 : decode cX2_rowOf 21 = .ok (.istore_n 2, 1) := by decide +kernel
theorem dX2_rowOf_22 : decode cX2_rowOf 22 = .ok (.iload_n 3, 1) := by decide +kernel
theorem dX2_rowOf_23 : decode cX2_rowOf 23 = .ok (.bipush 6, 2) := by decide +kernel
theorem dX2_rowOf_25 : decode cX2_rowOf 25 = .ok (.idiv, 1) := by decide +kernel
theorem dX2_rowOf_26 : decode cX2_rowOf 26 = .ok (.istore_n 3, 1) := by decide +kernel
theorem dX2_rowOf_27 : decode cX2_rowOf 27 = .ok (.iinc 4 1, 3) := by decide +kernel
theorem dX2_rowOf_30 : decode cX2_rowOf 30 = .ok (.goto (-23), 3) := by decide +kernel
theorem dX2_rowOf_33 : decode cX2_rowOf 33 = .ok (.iload_n 2, 1) := by decide +kernel
theorem dX2_rowOf_34 : decode cX2_rowOf 34 = .ok (.ireturn, 1) := by decide +kernel
def f_X2_rowOf_7 (k_7 : St → Int32 → Int32 → Int32 → Int32 → Option (Int32 × St)) (S : St) (x1 : Int32) (x2 : Int32) (x3 : Int32) (x4 : Int32) : Option (Int32 × St) :=
  if x1 ≤ x4 then (
    some (x2, S)
  ) else (
    bnd (((x2 <<< (4 &&& 31)) ||| (x3 - x3 / 6 * 6)) : Int32) fun v2 =>
    bnd ((x3 / 6) : Int32) fun v3 =>
    bnd (x4 + 1 : Int32) fun v4 =>
    k_7 S x1 v2 v3 v4
  )
def l_X2_rowOf_7 : Nat → St → Int32 → Int32 → Int32 → Int32 → Option (Int32 × St)
  | 0, _, _, _, _, _ => none
  | fu + 1, S, x1, x2, x3, x4 => f_X2_rowOf_7 (l_X2_rowOf_7 fu) S x1 x2 x3 x4
def f_X2_rowOf (S : St) (x0 : Int32) (x1 : Int32) : Option (Int32 × St) :=
  l_X2_rowOf_7 FU S x1 0 x0 0
set_option maxHeartbeats 4000000 in
set_option maxRecDepth 100000 in
theorem c_X2_rowOf {l : Launch} {D : va_G} {cI cC cS : ClassId} {ad adK adV : Nat → Nat} {S S1 : St} {x0 : Int32} {x1 : Int32} {r : Int32} (h : f_X2_rowOf S x0 x1 = some (r, S1)) : Kt l D (xw cI cC cS ad) (KX D (xtys cI cC cS) adK adV) yX2_rowOf cX2_rowOf 5 (some .int) 0 0 [.int x0, .int x1] S (some (.int r)) S1 := by
  refine k_ent (ins := .ireturn) (st := [.int r]) (by decide +kernel) (Nat.le_of_ble_eq_true rfl) ret_i ?_
  intro p e s m args below meth c A Q C hK I hA hq ls hl
  have C : CallFix p m c cX2_rowOf 5 s args TT RX2 := C
  have hx := C.1
  have hb := C.2.1
  have kx := kx_ok D (xtys cI cC cS) adK adV
  have hl : lv_has ls 5 [(0, .int x0), (1, .int x1)] := hl
  have B_7 : ∀ (k_7 : St → Int32 → Int32 → Int32 → Int32 → Option (Int32 × St)) (hk_7 : ∀ (S : St) (x1 : Int32) (x2 : Int32) (x3 : Int32) (x4 : Int32), k_7 S x1 x2 x3 x4 = some (r, S1) → ∀ (H : Heap) (locs : List Loc) (ls : Array Slot), Iv D (xw cI cC cS ad) S A s H locs → lv_has ls 5 [(1, .int x1), (2, .int x2), (3, .int x3), (4, .int x4)] → W p l e ({ frames := 0, cells := 0, slots := 0, locals := 0 } : Room) s m args below meth c H locs 0 0 Q (F0 m 7 ls [])) (S : St) (x1 : Int32) (x2 : Int32) (x3 : Int32) (x4 : Int32), f_X2_rowOf_7 k_7 S x1 x2 x3 x4 = some (r, S1) → ∀ (H : Heap) (locs : List Loc) (ls : Array Slot), Iv D (xw cI cC cS ad) S A s H locs → lv_has ls 5 [(1, .int x1), (2, .int x2), (3, .int x3), (4, .int x4)] → W p l e ({ frames := 0, cells := 0, slots := 0, locals := 0 } : Room) s m args below meth c H locs 0 0 Q (F0 m 7 ls []) := by
    intro k_7 hk_7 S x1 x2 x3 x4 h H locs ls I hl
    unfold f_X2_rowOf_7 at h
    refine lv_iload hx hb dX2_rowOf_7 (lv_at hl 3 rfl) ?_
    refine lv_iload_n hx hb dX2_rowOf_9 rfl (lv_at hl 0 rfl) ?_
    refine lv_icmp_ge (tgt := 33) hx hb dX2_rowOf_10 (by decide) (fun c1 => ?_) (fun c1 => ?_)
    · have h := ite_t c1 h
      refine lv_iload_n hx hb dX2_rowOf_33 rfl (lv_at hl 1 rfl) ?_
      exact rt_i hq h I dX2_rowOf_34
    · have h := ite_n c1 h
      refine lv_iload_n hx hb dX2_rowOf_13 rfl (lv_at hl 1 rfl) ?_
      refine lv_iconst (v := 4) hx hb dX2_rowOf_14 (by decide) ?_
      refine lv_ishl hx hb dX2_rowOf_15 ?_
      refine lv_iload_n hx hb dX2_rowOf_16 rfl (lv_at hl 2 rfl) ?_
      refine lv_bipush (v := 6) hx hb dX2_rowOf_17 (by decide) ?_
      refine lv_irem hx hb dX2_rowOf_19 (by decide) ?_
      refine lv_ior hx hb dX2_rowOf_20 ?_
      refine lv_topi (fun v2 ev2 => ?_)
      have h := bnd_at ev2 h
      clear ev2
      refine lv_istore_n (lv' := [(2, .int v2), (1, .int x1), (3, .int x3), (4, .int x4)]) hx hb dX2_rowOf_21 rfl hl (by decide) rfl (fun ls hl => ?_)
      refine lv_iload_n hx hb dX2_rowOf_22 rfl (lv_at hl 2 rfl) ?_
      refine lv_bipush (v := 6) hx hb dX2_rowOf_23 (by decide) ?_
      refine lv_idiv hx hb dX2_rowOf_25 (by decide) ?_
      refine lv_topi (fun v3 ev3 => ?_)
      have h := bnd_at ev3 h
      clear ev3
      refine lv_istore_n (lv' := [(3, .int v3), (2, .int v2), (1, .int x1), (4, .int x4)]) hx hb dX2_rowOf_26 rfl hl (by decide) rfl (fun ls hl => ?_)
      obtain ⟨v4, ev4⟩ : ∃ y : Int32, y = x4 + 1 := ⟨_, rfl⟩
      have h := bnd_at ev4 h
      refine lv_iinc (v := v4) (lv' := [(4, .int v4), (3, .int v3), (2, .int v2), (1, .int x1)]) hx hb dX2_rowOf_27 hl (k := 3) rfl (by rw [ev4]; rfl) (by decide) rfl (fun ls hl => ?_)
      clear ev4
      refine lv_goto (tgt := 7) hx hb dX2_rowOf_30 (by decide) ?_
      exact hk_7 _ _ _ _ _ h _ _ _ I (lv_sub hl [3, 2, 1, 0] rfl)
  have J_7 : ∀ (fu : Nat) (S : St) (x1 : Int32) (x2 : Int32) (x3 : Int32) (x4 : Int32), l_X2_rowOf_7  fu S x1 x2 x3 x4 = some (r, S1) → ∀ (H : Heap) (locs : List Loc) (ls : Array Slot), Iv D (xw cI cC cS ad) S A s H locs → lv_has ls 5 [(1, .int x1), (2, .int x2), (3, .int x3), (4, .int x4)] → W p l e ({ frames := 0, cells := 0, slots := 0, locals := 0 } : Room) s m args below meth c H locs 0 0 Q (F0 m 7 ls []) := by
    intro fu
    induction fu with
    | zero => intro S x1 x2 x3 x4 h; cases h
    | succ fu ih => intro S x1 x2 x3 x4 h; exact B_7 (l_X2_rowOf_7 fu) ih S x1 x2 x3 x4 h
  unfold f_X2_rowOf at h
  refine lv_iconst (v := 0) hx hb dX2_rowOf_0 (by decide) ?_
  refine lv_istore_n (lv' := [(2, .int 0), (0, .int x0), (1, .int x1)]) hx hb dX2_rowOf_1 rfl hl (by decide) rfl (fun ls hl => ?_)
  refine lv_iload_n hx hb dX2_rowOf_2 rfl (lv_at hl 1 rfl) ?_
  refine lv_istore_n (lv' := [(3, .int x0), (2, .int 0), (0, .int x0), (1, .int x1)]) hx hb dX2_rowOf_3 rfl hl (by decide) rfl (fun ls hl => ?_)
  refine lv_iconst (v := 0) hx hb dX2_rowOf_4 (by decide) ?_
  refine lv_istore (lv' := [(4, .int 0), (3, .int x0), (2, .int 0), (0, .int x0), (1, .int x1)]) hx hb dX2_rowOf_5 hl (by decide) rfl (fun ls hl => ?_)
  exact J_7 _ _ _ _ _ _ h _ _ _ I (lv_sub hl [4, 2, 1, 0] rfl)
theorem fl_X7_9 : Cond.fieldLink RX7 9 RX7 "likely" "I" ∈ TT := tt_of 153 (by decide +kernel) rfl
theorem fl_X7_15 : Cond.fieldLink RX7 15 RX7 "minutes" "I" ∈ TT := tt_of 159 (by decide +kernel) rfl
theorem fl_X7_18 : Cond.fieldLink RX7 18 RX7 "all" "I" ∈ TT := tt_of 163 (by decide +kernel) rfl
theorem fl_X7_21 : Cond.fieldLink RX7 21 RX7 "one" "I" ∈ TT := tt_of 168 (by decide +kernel) rfl
theorem dX7_tell_0 : decode cX7_tell 0 = .ok (.aload_n 0, 1) := by decide +kernel
theorem dX7_tell_1 : decode cX7_tell 1 = .ok (.iload_n 1, 1) := by decide +kernel
theorem dX7_tell_2 : decode cX7_tell 2 = .ok (.putfield 9, 3) := by decide +kernel
theorem dX7_tell_5 : decode cX7_tell 5 = .ok (.aload_n 0, 1) := by decide +kernel
theorem dX7_tell_6 : decode cX7_tell 6 = .ok (.iload_n 2, 1) := by decide +kernel
theorem dX7_tell_7 : decode cX7_tell 7 = .ok (.putfield 15, 3) := by decide +kernel
theorem dX7_tell_10 : decode cX7_tell 10 = .ok (.aload_n 0, 1) := by decide +kernel
theorem dX7_tell_11 : decode cX7_tell 11 = .ok (.iload_n 3, 1) := by decide +kernel
theorem dX7_tell_12 : decode cX7_tell 12 = .ok (.putfield 18, 3) := by decide +kernel
theorem dX7_tell_15 : decode cX7_tell 15 = .ok (.aload_n 0, 1) := by decide +kernel
theorem dX7_tell_16 : decode cX7_tell 16 = .ok (.iload 4, 2) := by decide +kernel
theorem dX7_tell_18 : decode cX7_tell 18 = .ok (.putfield 21, 3) := by decide +kernel
theorem dX7_tell_21 : decode cX7_tell 21 = .ok (.return_, 1) := by decide +kernel
def f_X7_tell (S : St) (x0 : Fin 24) (x1 : Int32) (x2 : Int32) (x3 : Int32) (x4 : Int32) : Option St :=
  bnd (setI S (33 + x0.val) 0 x1) fun S1 =>
  bnd (setI S1 (33 + x0.val) 1 x2) fun S2 =>
  bnd (setI S2 (33 + x0.val) 2 x3) fun S3 =>
  bnd (setI S3 (33 + x0.val) 3 x4) fun S4 =>
  some S4
set_option maxHeartbeats 4000000 in
set_option maxRecDepth 100000 in
theorem c_X7_tell {l : Launch} {D : va_G} {cI cC cS : ClassId} {ad adK adV : Nat → Nat} {S S1 : St} {x0 : Fin 24} {x1 : Int32} {x2 : Int32} {x3 : Int32} {x4 : Int32} (h : f_X7_tell S x0 x1 x2 x3 x4 = some S1) : Kt l D (xw cI cC cS ad) (KX D (xtys cI cC cS) adK adV) yX7_tell cX7_tell 5 none 0 0 [.ref (ad (33 + x0.val)), .int x1, .int x2, .int x3, .int x4] S (none) S1 := by
  refine k_ent (ins := .return_) (st := []) (by decide +kernel) (Nat.le_of_ble_eq_true rfl) ret_v ?_
  intro p e s m args below meth c A Q C hK I hA hq ls hl
  have C : CallFix p m c cX7_tell 5 s args TT RX7 := C
  have hx := C.1
  have hb := C.2.1
  have kx := kx_ok D (xtys cI cC cS) adK adV
  have hl : lv_has ls 5 [(0, .ref (ad (33 + x0.val))), (1, .int x1), (2, .int x2), (3, .int x3), (4, .int x4)] := hl
  unfold f_X7_tell at h
  refine lv_aload_n hx hb dX7_tell_0 rfl (lv_at hl 0 rfl) ?_
  refine lv_iload_n hx hb dX7_tell_1 rfl (lv_at hl 1 rfl) ?_
  refine px_S_0 C hK I fl_X7_9 dX7_tell_2 (fun S1 eS1 H locs I => ?_)
  have h := bnd_at eS1 h
  clear eS1
  refine lv_aload_n hx hb dX7_tell_5 rfl (lv_at hl 0 rfl) ?_
  refine lv_iload_n hx hb dX7_tell_6 rfl (lv_at hl 2 rfl) ?_
  refine px_S_1 C hK I fl_X7_15 dX7_tell_7 (fun S2 eS2 H locs I => ?_)
  have h := bnd_at eS2 h
  clear eS2
  refine lv_aload_n hx hb dX7_tell_10 rfl (lv_at hl 0 rfl) ?_
  refine lv_iload_n hx hb dX7_tell_11 rfl (lv_at hl 3 rfl) ?_
  refine px_S_2 C hK I fl_X7_18 dX7_tell_12 (fun S3 eS3 H locs I => ?_)
  have h := bnd_at eS3 h
  clear eS3
  refine lv_aload_n hx hb dX7_tell_15 rfl (lv_at hl 0 rfl) ?_
  refine lv_iload hx hb dX7_tell_16 (lv_at hl 4 rfl) ?_
  refine px_S_3 C hK I fl_X7_21 dX7_tell_18 (fun S4 eS4 H locs I => ?_)
  have h := bnd_at eS4 h
  clear eS4
  exact rt_v hq h I dX7_tell_21
theorem dX7_isDone_0 : decode cX7_isDone 0 = .ok (.iload_n 1, 1) := by decide +kernel
theorem dX7_isDone_1 : decode cX7_isDone 1 = .ok (.iload_n 0, 1) := by decide +kernel
theorem dX7_isDone_2 : decode cX7_isDone 2 = .ok (.iconst (-1), 1) := by decide +kernel
theorem dX7_isDone_3 : decode cX7_isDone 3 = .ok (.ixor, 1) := by decide +kernel
theorem dX7_isDone_4 : decode cX7_isDone 4 = .ok (.iand, 1) := by decide +kernel
theorem dX7_isDone_5 : decode cX7_isDone 5 = .ok (.ifCond .ne 17, 3) := by decide +kernel
theorem dX7_isDone_8 : decode cX7_isDone 8 = .ok (.iload_n 2, 1) := by decide +kernel
theorem dX7_isDone_9 : decode cX7_isDone 9 = .ok (.ifCond .eq 9, 3) := by decide +kernel
theorem dX7_isDone_12 : decode cX7_isDone 12 = .ok (.iload_n 2, 1) := by decide +kernel
theorem dX7_isDone_13 : decode cX7_isDone 13 = .ok (.iload_n 0, 1) := by decide +kernel
theorem dX7_isDone_14 : decode cX7_isDone 14 = .ok (.iand, 1) := by decide +kernel
theorem dX7_isDone_15 : decode cX7_isDone 15 = .ok (.ifCond .eq 7, 3) := by decide +kernel
theorem dX7_isDone_18 : decode cX7_isDone 18 = .ok (.iconst 1, 1) := by decide +kernel
theorem dX7_isDone_19 : decode cX7_isDone 19 = .ok (.goto 4, 3) := by decide +kernel
theorem dX7_isDone_22 : decode cX7_isDone 22 = .ok (.iconst 0, 1) := by decide +kernel
theorem dX7_isDone_23 : decode cX7_isDone 23 = .ok (.ireturn, 1) := by decide +kernel
def f_X7_isDone_18 (S : St)  : Option (Int32 × St) :=
  some (1, S)
def f_X7_isDone (S : St) (x0 : Int32) (x1 : Int32) (x2 : Int32) : Option (Int32 × St) :=
  if (x1 &&& (x0 ^^^ (-1))) = 0 then (
    if x2 = 0 then (
      f_X7_isDone_18 S 
    ) else (
      if (x2 &&& x0) = 0 then (
        some (0, S)
      ) else (
        f_X7_isDone_18 S 
      )
    )
  ) else (
    some (0, S)
  )
set_option maxHeartbeats 4000000 in
set_option maxRecDepth 100000 in
theorem c_X7_isDone {l : Launch} {D : va_G} {cI cC cS : ClassId} {ad adK adV : Nat → Nat} {S S1 : St} {x0 : Int32} {x1 : Int32} {x2 : Int32} {r : Int32} (h : f_X7_isDone S x0 x1 x2 = some (r, S1)) : Kt l D (xw cI cC cS ad) (KX D (xtys cI cC cS) adK adV) yX7_isDone cX7_isDone 3 (some .boolean) 0 0 [.int x0, .int x1, .int x2] S (some (.int r)) S1 := by
  refine k_entz (by decide +kernel) (Nat.le_of_ble_eq_true rfl) ?_
  intro p e s m args below meth c A Q C hK I hA hq ls hl
  have C : CallFix p m c cX7_isDone 3 s args TT RX7 := C
  have hx := C.1
  have hb := C.2.1
  have kx := kx_ok D (xtys cI cC cS) adK adV
  have hl : lv_has ls 3 [(0, .int x0), (1, .int x1), (2, .int x2)] := hl
  have J_18 : ∀ (S : St) , f_X7_isDone_18  S  = some (r, S1) → ∀ (H : Heap) (locs : List Loc) (ls : Array Slot), Iv D (xw cI cC cS ad) S A s H locs → lv_has ls 3 [] → W p l e ({ frames := 0, cells := 0, slots := 0, locals := 0 } : Room) s m args below meth c H locs 0 0 Q (F0 m 18 ls []) := by
    intro  S  h H locs ls I hl
    unfold f_X7_isDone_18 at h
    refine lv_iconst (v := 1) hx hb dX7_isDone_18 (by decide) ?_
    refine lv_goto (tgt := 23) hx hb dX7_isDone_19 (by decide) ?_
    exact rt_z (Or.inr rfl) hq h I dX7_isDone_23
  unfold f_X7_isDone at h
  refine lv_iload_n hx hb dX7_isDone_0 rfl (lv_at hl 1 rfl) ?_
  refine lv_iload_n hx hb dX7_isDone_1 rfl (lv_at hl 0 rfl) ?_
  refine lv_iconst (v := (-1)) hx hb dX7_isDone_2 (by decide) ?_
  refine lv_ixor hx hb dX7_isDone_3 ?_
  refine lv_iand hx hb dX7_isDone_4 ?_
  refine lv_if_ne (tgt := 22) hx hb dX7_isDone_5 (by decide) (fun c1 => ?_) (fun c1 => ?_)
  · have h := ite_n c1 h
    refine lv_iconst (v := 0) hx hb dX7_isDone_22 (by decide) ?_
    exact rt_z (Or.inl rfl) hq h I dX7_isDone_23
  · have h := ite_t c1 h
    refine lv_iload_n hx hb dX7_isDone_8 rfl (lv_at hl 2 rfl) ?_
    refine lv_if_eq (tgt := 18) hx hb dX7_isDone_9 (by decide) (fun c2 => ?_) (fun c2 => ?_)
    · have h := ite_t c2 h
      exact J_18 _  h _ _ _ I (lv_sub hl [] rfl)
    · have h := ite_n c2 h
      refine lv_iload_n hx hb dX7_isDone_12 rfl (lv_at hl 2 rfl) ?_
      refine lv_iload_n hx hb dX7_isDone_13 rfl (lv_at hl 0 rfl) ?_
      refine lv_iand hx hb dX7_isDone_14 ?_
      refine lv_if_eq (tgt := 22) hx hb dX7_isDone_15 (by decide) (fun c3 => ?_) (fun c3 => ?_)
      · have h := ite_t c3 h
        refine lv_iconst (v := 0) hx hb dX7_isDone_22 (by decide) ?_
        exact rt_z (Or.inl rfl) hq h I dX7_isDone_23
      · have h := ite_n c3 h
        exact J_18 _  h _ _ _ I (lv_sub hl [] rfl)
theorem lk_X7_24 : Cond.methodLink RX7 24 yX7_isDone ∈ TT := tt_of 709 (by decide +kernel) rfl
theorem ms_X7_isDone : MS yX7_isDone cX7_isDone 3 (some .boolean) 3 := ⟨tt_of 711 (by decide +kernel) rfl, tt_of 710 (by decide +kernel) rfl, tt_of 70 (by decide +kernel) rfl, ⟨by decide +kernel, by decide +kernel, by decide +kernel⟩⟩
theorem dX7_left_0 : decode cX7_left 0 = .ok (.iload_n 1, 1) := by decide +kernel
theorem dX7_left_1 : decode cX7_left 1 = .ok (.aload_n 0, 1) := by decide +kernel
theorem dX7_left_2 : decode cX7_left 2 = .ok (.getfield 18, 3) := by decide +kernel
theorem dX7_left_5 : decode cX7_left 5 = .ok (.aload_n 0, 1) := by decide +kernel
theorem dX7_left_6 : decode cX7_left 6 = .ok (.getfield 21, 3) := by decide +kernel
theorem dX7_left_9 : decode cX7_left 9 = .ok (.invokestatic 24, 3) := by decide +kernel
theorem dX7_left_12 : decode cX7_left 12 = .ok (.ifCond .ne 5, 3) := by decide +kernel
theorem dX7_left_15 : decode cX7_left 15 = .ok (.iconst (-1), 1) := by decide +kernel
theorem dX7_left_16 : decode cX7_left 16 = .ok (.ireturn, 1) := by decide +kernel
theorem dX7_left_17 : decode cX7_left 17 = .ok (.aload_n 0, 1) := by decide +kernel
theorem dX7_left_18 : decode cX7_left 18 = .ok (.getfield 21, 3) := by decide +kernel
theorem dX7_left_21 : decode cX7_left 21 = .ok (.iload_n 1, 1) := by decide +kernel
theorem dX7_left_22 : decode cX7_left 22 = .ok (.iand, 1) := by decide +kernel
theorem dX7_left_23 : decode cX7_left 23 = .ok (.aload_n 0, 1) := by decide +kernel
theorem dX7_left_24 : decode cX7_left 24 = .ok (.getfield 21, 3) := by decide +kernel
theorem dX7_left_27 : decode cX7_left 27 = .ok (.iload_n 1, 1) := by decide +kernel
theorem dX7_left_28 : decode cX7_left 28 = .ok (.iand, 1) := by decide +kernel
theorem dX7_left_29 : decode cX7_left 29 = .ok (.ineg, 1) := by decide +kernel
theorem dX7_left_30 : decode cX7_left 30 = .ok (.iand, 1) := by decide +kernel
theorem dX7_left_31 : decode cX7_left 31 = .ok (.istore_n 3, 1) := by decide +kernel
theorem dX7_left_32 : decode cX7_left 32 = .ok (.iload_n 1, 1) := by decide +kernel
theorem dX7_left_33 : decode cX7_left 33 = .ok (.aload_n 0, 1) := by decide +kernel
theorem dX7_left_34 : decode cX7_left 34 = .ok (.getfield 18, 3) := by decide +kernel
theorem dX7_left_37 : decode cX7_left 37 = .ok (.iload_n 3, 1) := by decide +kernel
theorem dX7_left_38 : decode cX7_left 38 = .ok (.ior, 1) := by decide +kernel
theorem dX7_left_39 : decode cX7_left 39 = .ok (.iload_n 2, 1) := by decide +kernel
theorem dX7_left_40 : decode cX7_left 40 = .ok (.iconst (-1), 1) := by decide +kernel
theorem dX7_left_41 : decode cX7_left 41 = .ok (.ixor, 1) := by decide +kernel
theorem dX7_left_42 : decode cX7_left 42 = .ok (.iand, 1) := by decide +kernel
theorem dX7_left_43 : decode cX7_left 43 = .ok (.iconst (-1), 1) := by decide +kernel
theorem dX7_left_44 : decode cX7_left 44 = .ok (.ixor, 1) := by decide +kernel
theorem dX7_left_45 : decode cX7_left 45 = .ok (.iand, 1) := by decide +kernel
theorem dX7_left_46 : decode cX7_left 46 = .ok (.ireturn, 1) := by decide +kernel
def f_X7_left (S : St) (x0 : Fin 24) (x1 : Int32) (x2 : Int32) : Option (Int32 × St) :=
  obd2 (f_X7_isDone S x1 (S.1 (33 + x0.val) 2) (S.1 (33 + x0.val) 3)) fun r1 S1 =>
  if r1 = 0 then (
    some ((-1), S1)
  ) else (
    bnd ((((S1.1 (33 + x0.val) 3) &&& x1) &&& (-((S1.1 (33 + x0.val) 3) &&& x1))) : Int32) fun v3 =>
    some ((x1 &&& ((((S1.1 (33 + x0.val) 2) ||| v3) &&& (x2 ^^^ (-1))) ^^^ (-1))), S1)
  )
set_option maxHeartbeats 4000000 in
set_option maxRecDepth 100000 in
theorem c_X7_left {l : Launch} {D : va_G} {cI cC cS : ClassId} {ad adK adV : Nat → Nat} {S S1 : St} {x0 : Fin 24} {x1 : Int32} {x2 : Int32} {r : Int32} (h : f_X7_left S x0 x1 x2 = some (r, S1)) : Kt l D (xw cI cC cS ad) (KX D (xtys cI cC cS) adK adV) yX7_left cX7_left 4 (some .int) 1 22 [.ref (ad (33 + x0.val)), .int x1, .int x2] S (some (.int r)) S1 := by
  refine k_ent (ins := .ireturn) (st := [.int r]) (by decide +kernel) (Nat.le_of_ble_eq_true rfl) ret_i ?_
  intro p e s m args below meth c A Q C hK I hA hq ls hl
  have C : CallFix p m c cX7_left 4 s args TT RX7 := C
  have hx := C.1
  have hb := C.2.1
  have kx := kx_ok D (xtys cI cC cS) adK adV
  have hl : lv_has ls 4 [(0, .ref (ad (33 + x0.val))), (1, .int x1), (2, .int x2)] := hl
  unfold f_X7_left at h
  refine lv_iload_n hx hb dX7_left_0 rfl (lv_at hl 1 rfl) ?_
  refine lv_aload_n hx hb dX7_left_1 rfl (lv_at hl 0 rfl) ?_
  refine gx_S_2 C hK I fl_X7_18 dX7_left_2 ?_
  refine lv_aload_n hx hb dX7_left_5 rfl (lv_at hl 0 rfl) ?_
  refine gx_S_3 C hK I fl_X7_21 dX7_left_6 ?_
  obtain ⟨r1, S1, e1, h⟩ := obd2_ex h
  refine k_S (As := [.int x1, .int (S.1 (33 + x0.val) 2), .int (S.1 (33 + x0.val) 3)]) (rest := []) (st1 := [.int r1]) C kx hK I hA (c_X7_isDone e1) ⟨Nat.le_of_ble_eq_true rfl, Nat.le_of_ble_eq_true rfl⟩ ms_X7_isDone lk_X7_24 rfl hl.1 rfl (Nat.le_of_ble_eq_true rfl) dX7_left_9 rfl (fun H locs I => ?_)
  refine lv_if_ne (tgt := 17) hx hb dX7_left_12 (by decide) (fun c2 => ?_) (fun c2 => ?_)
  · have h := ite_n c2 h
    refine lv_aload_n hx hb dX7_left_17 rfl (lv_at hl 0 rfl) ?_
    refine gx_S_3 C hK I fl_X7_21 dX7_left_18 ?_
    refine lv_iload_n hx hb dX7_left_21 rfl (lv_at hl 1 rfl) ?_
    refine lv_iand hx hb dX7_left_22 ?_
    refine lv_aload_n hx hb dX7_left_23 rfl (lv_at hl 0 rfl) ?_
    refine gx_S_3 C hK I fl_X7_21 dX7_left_24 ?_
    refine lv_iload_n hx hb dX7_left_27 rfl (lv_at hl 1 rfl) ?_
    refine lv_iand hx hb dX7_left_28 ?_
    refine lv_ineg hx hb dX7_left_29 ?_
    refine lv_iand hx hb dX7_left_30 ?_
    refine lv_topi (fun v3 ev3 => ?_)
    have h := bnd_at ev3 h
    clear ev3
    refine lv_istore_n (lv' := [(3, .int v3), (0, .ref (ad (33 + x0.val))), (1, .int x1), (2, .int x2)]) hx hb dX7_left_31 rfl hl (by decide) rfl (fun ls hl => ?_)
    refine lv_iload_n hx hb dX7_left_32 rfl (lv_at hl 2 rfl) ?_
    refine lv_aload_n hx hb dX7_left_33 rfl (lv_at hl 1 rfl) ?_
    refine gx_S_2 C hK I fl_X7_18 dX7_left_34 ?_
    refine lv_iload_n hx hb dX7_left_37 rfl (lv_at hl 0 rfl) ?_
    refine lv_ior hx hb dX7_left_38 ?_
    refine lv_iload_n hx hb dX7_left_39 rfl (lv_at hl 3 rfl) ?_
    refine lv_iconst (v := (-1)) hx hb dX7_left_40 (by decide) ?_
    refine lv_ixor hx hb dX7_left_41 ?_
    refine lv_iand hx hb dX7_left_42 ?_
    refine lv_iconst (v := (-1)) hx hb dX7_left_43 (by decide) ?_
    refine lv_ixor hx hb dX7_left_44 ?_
    refine lv_iand hx hb dX7_left_45 ?_
    exact rt_i hq h I dX7_left_46
  · have h := ite_t c2 h
    refine lv_iconst (v := (-1)) hx hb dX7_left_15 (by decide) ?_
    exact rt_i hq h I dX7_left_16
theorem dX7_wanted_0 : decode cX7_wanted 0 = .ok (.aload_n 0, 1) := by decide +kernel
theorem dX7_wanted_1 : decode cX7_wanted 1 = .ok (.getfield 18, 3) := by decide +kernel
theorem dX7_wanted_4 : decode cX7_wanted 4 = .ok (.aload_n 0, 1) := by decide +kernel
theorem dX7_wanted_5 : decode cX7_wanted 5 = .ok (.getfield 21, 3) := by decide +kernel
theorem dX7_wanted_8 : decode cX7_wanted 8 = .ok (.ior, 1) := by decide +kernel
theorem dX7_wanted_9 : decode cX7_wanted 9 = .ok (.ireturn, 1) := by decide +kernel
def f_X7_wanted (S : St) (x0 : Fin 24) : Option (Int32 × St) :=
  some (((S.1 (33 + x0.val) 2) ||| (S.1 (33 + x0.val) 3)), S)
set_option maxHeartbeats 4000000 in
set_option maxRecDepth 100000 in
theorem c_X7_wanted {l : Launch} {D : va_G} {cI cC cS : ClassId} {ad adK adV : Nat → Nat} {S S1 : St} {x0 : Fin 24} {r : Int32} (h : f_X7_wanted S x0 = some (r, S1)) : Kt l D (xw cI cC cS ad) (KX D (xtys cI cC cS) adK adV) yX7_wanted cX7_wanted 1 (some .int) 0 0 [.ref (ad (33 + x0.val))] S (some (.int r)) S1 := by
  refine k_ent (ins := .ireturn) (st := [.int r]) (by decide +kernel) (Nat.le_of_ble_eq_true rfl) ret_i ?_
  intro p e s m args below meth c A Q C hK I hA hq ls hl
  have C : CallFix p m c cX7_wanted 1 s args TT RX7 := C
  have hx := C.1
  have hb := C.2.1
  have kx := kx_ok D (xtys cI cC cS) adK adV
  have hl : lv_has ls 1 [(0, .ref (ad (33 + x0.val)))] := hl
  unfold f_X7_wanted at h
  refine lv_aload_n hx hb dX7_wanted_0 rfl (lv_at hl 0 rfl) ?_
  refine gx_S_2 C hK I fl_X7_18 dX7_wanted_1 ?_
  refine lv_aload_n hx hb dX7_wanted_4 rfl (lv_at hl 0 rfl) ?_
  refine gx_S_3 C hK I fl_X7_21 dX7_wanted_5 ?_
  refine lv_ior hx hb dX7_wanted_8 ?_
  exact rt_i hq h I dX7_wanted_9
end
