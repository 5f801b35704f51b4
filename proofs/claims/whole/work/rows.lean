section
-- ===== PART A: goes FIRST, ahead of the names: the tables' words, and 'selects' of the private methods out of them =====
/-- a private method of a class that the tables say can be made, by its rows of tables_1 -/
def lw_okq (q : MethodName × Nat) : Prop := (q.1.cls ≠ "java/lang/invoke/MethodHandle" ∧ q.1.cls ≠ "java/lang/invoke/VarHandle") ∧ Cond.instantiable q.1.cls q.2 ∈ tables_1 ∧ Cond.privateMethod q.1 ∈ tables_1 ∧ Cond.instanceMethod q.1 ∈ tables_1
theorem lw_p0 : lw_okq (⟨"RateOffice", "appendBytes", "(I)V"⟩, 16) := ⟨⟨by decide +kernel, by decide +kernel⟩, List.mem_of_getElem? (i := 21) (by decide +kernel), List.mem_of_getElem? (i := 344) (by decide +kernel), List.mem_of_getElem? (i := 345) (by decide +kernel)⟩
theorem lw_p1 : lw_okq (⟨"RateOffice", "remember", "()V"⟩, 16) := ⟨⟨by decide +kernel, by decide +kernel⟩, List.mem_of_getElem? (i := 21) (by decide +kernel), List.mem_of_getElem? (i := 549) (by decide +kernel), List.mem_of_getElem? (i := 550) (by decide +kernel)⟩
theorem lw_p2 : lw_okq (⟨"RateOffice", "historyIndex", "(I)I"⟩, 16) := ⟨⟨by decide +kernel, by decide +kernel⟩, List.mem_of_getElem? (i := 21) (by decide +kernel), List.mem_of_getElem? (i := 553) (by decide +kernel), List.mem_of_getElem? (i := 554) (by decide +kernel)⟩
theorem lw_p3 : lw_okq (⟨"RateOffice", "misfitIfJoined", "(III)J"⟩, 16) := ⟨⟨by decide +kernel, by decide +kernel⟩, List.mem_of_getElem? (i := 21) (by decide +kernel), List.mem_of_getElem? (i := 929) (by decide +kernel), List.mem_of_getElem? (i := 930) (by decide +kernel)⟩
theorem lw_p4 : lw_okq (⟨"java/lang/Throwable", "fillInStackTrace", "(I)Ljava/lang/Throwable;"⟩, 6) := ⟨⟨by decide +kernel, by decide +kernel⟩, List.mem_of_getElem? (i := 1040) (by decide +kernel), List.mem_of_getElem? (i := 1038) (by decide +kernel), List.mem_of_getElem? (i := 1039) (by decide +kernel)⟩
theorem lw_p5 : lw_okq (⟨"RateOfficeModel", "freshText", "()V"⟩, 30) := ⟨⟨by decide +kernel, by decide +kernel⟩, List.mem_of_getElem? (i := 1088) (by decide +kernel), List.mem_of_getElem? (i := 1094) (by decide +kernel), List.mem_of_getElem? (i := 1095) (by decide +kernel)⟩
theorem lw_p6 : lw_okq (⟨"RateOfficeModel", "reads", "(II)V"⟩, 30) := ⟨⟨by decide +kernel, by decide +kernel⟩, List.mem_of_getElem? (i := 1088) (by decide +kernel), List.mem_of_getElem? (i := 1098) (by decide +kernel), List.mem_of_getElem? (i := 1099) (by decide +kernel)⟩
theorem lw_p7 : lw_okq (⟨"RateOfficeModel", "takeText", "()V"⟩, 30) := ⟨⟨by decide +kernel, by decide +kernel⟩, List.mem_of_getElem? (i := 1088) (by decide +kernel), List.mem_of_getElem? (i := 1102) (by decide +kernel), List.mem_of_getElem? (i := 1103) (by decide +kernel)⟩
theorem lw_p8 : lw_okq (⟨"RateOfficeModel", "reading", "(I)I"⟩, 30) := ⟨⟨by decide +kernel, by decide +kernel⟩, List.mem_of_getElem? (i := 1088) (by decide +kernel), List.mem_of_getElem? (i := 1106) (by decide +kernel), List.mem_of_getElem? (i := 1107) (by decide +kernel)⟩
theorem lw_p9 : lw_okq (⟨"RateOfficeModel", "begins", "()V"⟩, 30) := ⟨⟨by decide +kernel, by decide +kernel⟩, List.mem_of_getElem? (i := 1088) (by decide +kernel), List.mem_of_getElem? (i := 1110) (by decide +kernel), List.mem_of_getElem? (i := 1111) (by decide +kernel)⟩
theorem lw_p10 : lw_okq (⟨"RateOfficeModel", "factors", "()I"⟩, 30) := ⟨⟨by decide +kernel, by decide +kernel⟩, List.mem_of_getElem? (i := 1088) (by decide +kernel), List.mem_of_getElem? (i := 1114) (by decide +kernel), List.mem_of_getElem? (i := 1115) (by decide +kernel)⟩
theorem lw_p11 : lw_okq (⟨"RateOfficeModel", "readText", "(I)V"⟩, 30) := ⟨⟨by decide +kernel, by decide +kernel⟩, List.mem_of_getElem? (i := 1088) (by decide +kernel), List.mem_of_getElem? (i := 1222) (by decide +kernel), List.mem_of_getElem? (i := 1223) (by decide +kernel)⟩
theorem lw_p12 : lw_okq (⟨"RateOfficeModel", "token", "()V"⟩, 30) := ⟨⟨by decide +kernel, by decide +kernel⟩, List.mem_of_getElem? (i := 1088) (by decide +kernel), List.mem_of_getElem? (i := 1226) (by decide +kernel), List.mem_of_getElem? (i := 1227) (by decide +kernel)⟩
theorem lw_p13 : lw_okq (⟨"RateOfficeModel", "here", "()I"⟩, 30) := ⟨⟨by decide +kernel, by decide +kernel⟩, List.mem_of_getElem? (i := 1088) (by decide +kernel), List.mem_of_getElem? (i := 1230) (by decide +kernel), List.mem_of_getElem? (i := 1231) (by decide +kernel)⟩
theorem lw_p14 : lw_okq (⟨"RateOfficeModel", "wordHere", "()I"⟩, 30) := ⟨⟨by decide +kernel, by decide +kernel⟩, List.mem_of_getElem? (i := 1088) (by decide +kernel), List.mem_of_getElem? (i := 1237) (by decide +kernel), List.mem_of_getElem? (i := 1238) (by decide +kernel)⟩
theorem lw_p15 : lw_okq (⟨"RateOfficeModel", "nameHere", "()V"⟩, 30) := ⟨⟨by decide +kernel, by decide +kernel⟩, List.mem_of_getElem? (i := 1088) (by decide +kernel), List.mem_of_getElem? (i := 1244) (by decide +kernel), List.mem_of_getElem? (i := 1245) (by decide +kernel)⟩
def lw_privs_1 : List (MethodName × Nat) := [(⟨"RateOffice", "appendBytes", "(I)V"⟩, 16), (⟨"RateOffice", "remember", "()V"⟩, 16), (⟨"RateOffice", "historyIndex", "(I)I"⟩, 16), (⟨"RateOffice", "misfitIfJoined", "(III)J"⟩, 16), (⟨"java/lang/Throwable", "fillInStackTrace", "(I)Ljava/lang/Throwable;"⟩, 6), (⟨"RateOfficeModel", "freshText", "()V"⟩, 30), (⟨"RateOfficeModel", "reads", "(II)V"⟩, 30), (⟨"RateOfficeModel", "takeText", "()V"⟩, 30), (⟨"RateOfficeModel", "reading", "(I)I"⟩, 30), (⟨"RateOfficeModel", "begins", "()V"⟩, 30), (⟨"RateOfficeModel", "factors", "()I"⟩, 30), (⟨"RateOfficeModel", "readText", "(I)V"⟩, 30), (⟨"RateOfficeModel", "token", "()V"⟩, 30), (⟨"RateOfficeModel", "here", "()I"⟩, 30), (⟨"RateOfficeModel", "wordHere", "()I"⟩, 30), (⟨"RateOfficeModel", "nameHere", "()V"⟩, 30)]
theorem lw_r1 : ∀ q ∈ lw_privs_1, lw_okq q := List.forall_mem_cons.mpr ⟨lw_p0, List.forall_mem_cons.mpr ⟨lw_p1, List.forall_mem_cons.mpr ⟨lw_p2, List.forall_mem_cons.mpr ⟨lw_p3, List.forall_mem_cons.mpr ⟨lw_p4, List.forall_mem_cons.mpr ⟨lw_p5, List.forall_mem_cons.mpr ⟨lw_p6, List.forall_mem_cons.mpr ⟨lw_p7, List.forall_mem_cons.mpr ⟨lw_p8, List.forall_mem_cons.mpr ⟨lw_p9, List.forall_mem_cons.mpr ⟨lw_p10, List.forall_mem_cons.mpr ⟨lw_p11, List.forall_mem_cons.mpr ⟨lw_p12, List.forall_mem_cons.mpr ⟨lw_p13, List.forall_mem_cons.mpr ⟨lw_p14, List.forall_mem_cons.mpr ⟨lw_p15, fun _ h => absurd h List.not_mem_nil⟩⟩⟩⟩⟩⟩⟩⟩⟩⟩⟩⟩⟩⟩⟩⟩
theorem lw_p16 : lw_okq (⟨"RateOfficeModel", "readLine", "()V"⟩, 30) := ⟨⟨by decide +kernel, by decide +kernel⟩, List.mem_of_getElem? (i := 1088) (by decide +kernel), List.mem_of_getElem? (i := 1252) (by decide +kernel), List.mem_of_getElem? (i := 1253) (by decide +kernel)⟩
theorem lw_p17 : lw_okq (⟨"RateOfficeModel", "wrong", "(I)V"⟩, 30) := ⟨⟨by decide +kernel, by decide +kernel⟩, List.mem_of_getElem? (i := 1088) (by decide +kernel), List.mem_of_getElem? (i := 1256) (by decide +kernel), List.mem_of_getElem? (i := 1257) (by decide +kernel)⟩
theorem lw_p18 : lw_okq (⟨"RateOfficeModel", "readOnce", "(III)V"⟩, 30) := ⟨⟨by decide +kernel, by decide +kernel⟩, List.mem_of_getElem? (i := 1088) (by decide +kernel), List.mem_of_getElem? (i := 1260) (by decide +kernel), List.mem_of_getElem? (i := 1261) (by decide +kernel)⟩
theorem lw_p19 : lw_okq (⟨"RateOfficeModel", "goOn", "()V"⟩, 30) := ⟨⟨by decide +kernel, by decide +kernel⟩, List.mem_of_getElem? (i := 1088) (by decide +kernel), List.mem_of_getElem? (i := 1264) (by decide +kernel), List.mem_of_getElem? (i := 1265) (by decide +kernel)⟩
theorem lw_p20 : lw_okq (⟨"RateOfficeModel", "numeral", "(II)I"⟩, 30) := ⟨⟨by decide +kernel, by decide +kernel⟩, List.mem_of_getElem? (i := 1088) (by decide +kernel), List.mem_of_getElem? (i := 1268) (by decide +kernel), List.mem_of_getElem? (i := 1269) (by decide +kernel)⟩
theorem lw_p21 : lw_okq (⟨"RateOfficeModel", "readFleet", "()V"⟩, 30) := ⟨⟨by decide +kernel, by decide +kernel⟩, List.mem_of_getElem? (i := 1088) (by decide +kernel), List.mem_of_getElem? (i := 1272) (by decide +kernel), List.mem_of_getElem? (i := 1273) (by decide +kernel)⟩
theorem lw_p22 : lw_okq (⟨"RateOfficeModel", "readFactor", "()V"⟩, 30) := ⟨⟨by decide +kernel, by decide +kernel⟩, List.mem_of_getElem? (i := 1088) (by decide +kernel), List.mem_of_getElem? (i := 1276) (by decide +kernel), List.mem_of_getElem? (i := 1277) (by decide +kernel)⟩
theorem lw_p23 : lw_okq (⟨"RateOfficeModel", "namedAt", "(III)I"⟩, 30) := ⟨⟨by decide +kernel, by decide +kernel⟩, List.mem_of_getElem? (i := 1088) (by decide +kernel), List.mem_of_getElem? (i := 1280) (by decide +kernel), List.mem_of_getElem? (i := 1281) (by decide +kernel)⟩
theorem lw_p24 : lw_okq (⟨"RateOfficeModel", "readBand", "()V"⟩, 30) := ⟨⟨by decide +kernel, by decide +kernel⟩, List.mem_of_getElem? (i := 1088) (by decide +kernel), List.mem_of_getElem? (i := 1285) (by decide +kernel), List.mem_of_getElem? (i := 1286) (by decide +kernel)⟩
theorem lw_p25 : lw_okq (⟨"RateOfficeModel", "factorHere", "()I"⟩, 30) := ⟨⟨by decide +kernel, by decide +kernel⟩, List.mem_of_getElem? (i := 1088) (by decide +kernel), List.mem_of_getElem? (i := 1289) (by decide +kernel), List.mem_of_getElem? (i := 1290) (by decide +kernel)⟩
theorem lw_p26 : lw_okq (⟨"RateOfficeModel", "readJoin", "()V"⟩, 30) := ⟨⟨by decide +kernel, by decide +kernel⟩, List.mem_of_getElem? (i := 1088) (by decide +kernel), List.mem_of_getElem? (i := 1293) (by decide +kernel), List.mem_of_getElem? (i := 1294) (by decide +kernel)⟩
theorem lw_p27 : lw_okq (⟨"RateOfficeModel", "readRisk", "()V"⟩, 30) := ⟨⟨by decide +kernel, by decide +kernel⟩, List.mem_of_getElem? (i := 1088) (by decide +kernel), List.mem_of_getElem? (i := 1297) (by decide +kernel), List.mem_of_getElem? (i := 1298) (by decide +kernel)⟩
theorem lw_p28 : lw_okq (⟨"RateOfficeModel", "many", "()I"⟩, 30) := ⟨⟨by decide +kernel, by decide +kernel⟩, List.mem_of_getElem? (i := 1088) (by decide +kernel), List.mem_of_getElem? (i := 1320) (by decide +kernel), List.mem_of_getElem? (i := 1321) (by decide +kernel)⟩
theorem lw_p29 : lw_okq (⟨"RateOfficeModel", "isFactor", "(I)Z"⟩, 30) := ⟨⟨by decide +kernel, by decide +kernel⟩, List.mem_of_getElem? (i := 1088) (by decide +kernel), List.mem_of_getElem? (i := 1332) (by decide +kernel), List.mem_of_getElem? (i := 1333) (by decide +kernel)⟩
theorem lw_p30 : lw_okq (⟨"RateOfficeModel", "remembers", "()V"⟩, 30) := ⟨⟨by decide +kernel, by decide +kernel⟩, List.mem_of_getElem? (i := 1088) (by decide +kernel), List.mem_of_getElem? (i := 1336) (by decide +kernel), List.mem_of_getElem? (i := 1337) (by decide +kernel)⟩
theorem lw_p31 : lw_okq (⟨"RateOfficeModel", "turns", "(I)I"⟩, 30) := ⟨⟨by decide +kernel, by decide +kernel⟩, List.mem_of_getElem? (i := 1088) (by decide +kernel), List.mem_of_getElem? (i := 1340) (by decide +kernel), List.mem_of_getElem? (i := 1341) (by decide +kernel)⟩
def lw_privs_2 : List (MethodName × Nat) := [(⟨"RateOfficeModel", "readLine", "()V"⟩, 30), (⟨"RateOfficeModel", "wrong", "(I)V"⟩, 30), (⟨"RateOfficeModel", "readOnce", "(III)V"⟩, 30), (⟨"RateOfficeModel", "goOn", "()V"⟩, 30), (⟨"RateOfficeModel", "numeral", "(II)I"⟩, 30), (⟨"RateOfficeModel", "readFleet", "()V"⟩, 30), (⟨"RateOfficeModel", "readFactor", "()V"⟩, 30), (⟨"RateOfficeModel", "namedAt", "(III)I"⟩, 30), (⟨"RateOfficeModel", "readBand", "()V"⟩, 30), (⟨"RateOfficeModel", "factorHere", "()I"⟩, 30), (⟨"RateOfficeModel", "readJoin", "()V"⟩, 30), (⟨"RateOfficeModel", "readRisk", "()V"⟩, 30), (⟨"RateOfficeModel", "many", "()I"⟩, 30), (⟨"RateOfficeModel", "isFactor", "(I)Z"⟩, 30), (⟨"RateOfficeModel", "remembers", "()V"⟩, 30), (⟨"RateOfficeModel", "turns", "(I)I"⟩, 30)]
theorem lw_r2 : ∀ q ∈ lw_privs_2, lw_okq q := List.forall_mem_cons.mpr ⟨lw_p16, List.forall_mem_cons.mpr ⟨lw_p17, List.forall_mem_cons.mpr ⟨lw_p18, List.forall_mem_cons.mpr ⟨lw_p19, List.forall_mem_cons.mpr ⟨lw_p20, List.forall_mem_cons.mpr ⟨lw_p21, List.forall_mem_cons.mpr ⟨lw_p22, List.forall_mem_cons.mpr ⟨lw_p23, List.forall_mem_cons.mpr ⟨lw_p24, List.forall_mem_cons.mpr ⟨lw_p25, List.forall_mem_cons.mpr ⟨lw_p26, List.forall_mem_cons.mpr ⟨lw_p27, List.forall_mem_cons.mpr ⟨lw_p28, List.forall_mem_cons.mpr ⟨lw_p29, List.forall_mem_cons.mpr ⟨lw_p30, List.forall_mem_cons.mpr ⟨lw_p31, fun _ h => absurd h List.not_mem_nil⟩⟩⟩⟩⟩⟩⟩⟩⟩⟩⟩⟩⟩⟩⟩⟩
theorem lw_p32 : lw_okq (⟨"RateOfficeModel", "firstOf", "(II)I"⟩, 30) := ⟨⟨by decide +kernel, by decide +kernel⟩, List.mem_of_getElem? (i := 1088) (by decide +kernel), List.mem_of_getElem? (i := 1344) (by decide +kernel), List.mem_of_getElem? (i := 1345) (by decide +kernel)⟩
theorem lw_p33 : lw_okq (⟨"RateOfficeModel", "isJoined", "(II)Z"⟩, 30) := ⟨⟨by decide +kernel, by decide +kernel⟩, List.mem_of_getElem? (i := 1088) (by decide +kernel), List.mem_of_getElem? (i := 1348) (by decide +kernel), List.mem_of_getElem? (i := 1349) (by decide +kernel)⟩
theorem lw_p34 : lw_okq (⟨"RateOfficeModel", "risksOf", "(II)I"⟩, 30) := ⟨⟨by decide +kernel, by decide +kernel⟩, List.mem_of_getElem? (i := 1088) (by decide +kernel), List.mem_of_getElem? (i := 1352) (by decide +kernel), List.mem_of_getElem? (i := 1353) (by decide +kernel)⟩
theorem lw_p35 : lw_okq (⟨"RateOfficeModel", "isOf", "(III)Z"⟩, 30) := ⟨⟨by decide +kernel, by decide +kernel⟩, List.mem_of_getElem? (i := 1088) (by decide +kernel), List.mem_of_getElem? (i := 1356) (by decide +kernel), List.mem_of_getElem? (i := 1357) (by decide +kernel)⟩
theorem lw_p36 : lw_okq (⟨"RateOfficeModel", "premiumsOf", "(II)J"⟩, 30) := ⟨⟨by decide +kernel, by decide +kernel⟩, List.mem_of_getElem? (i := 1088) (by decide +kernel), List.mem_of_getElem? (i := 1360) (by decide +kernel), List.mem_of_getElem? (i := 1361) (by decide +kernel)⟩
theorem lw_p37 : lw_okq (⟨"RateOfficeModel", "premiumOf", "(I)J"⟩, 30) := ⟨⟨by decide +kernel, by decide +kernel⟩, List.mem_of_getElem? (i := 1088) (by decide +kernel), List.mem_of_getElem? (i := 1364) (by decide +kernel), List.mem_of_getElem? (i := 1365) (by decide +kernel)⟩
theorem lw_p38 : lw_okq (⟨"RateOfficeModel", "premiumBy", "(II)J"⟩, 30) := ⟨⟨by decide +kernel, by decide +kernel⟩, List.mem_of_getElem? (i := 1088) (by decide +kernel), List.mem_of_getElem? (i := 1368) (by decide +kernel), List.mem_of_getElem? (i := 1369) (by decide +kernel)⟩
theorem lw_p39 : lw_okq (⟨"RateOfficeModel", "premiumBehind", "(III)J"⟩, 30) := ⟨⟨by decide +kernel, by decide +kernel⟩, List.mem_of_getElem? (i := 1088) (by decide +kernel), List.mem_of_getElem? (i := 1372) (by decide +kernel), List.mem_of_getElem? (i := 1373) (by decide +kernel)⟩
theorem lw_p40 : lw_okq (⟨"RateOfficeModel", "relativityOf", "(II)I"⟩, 30) := ⟨⟨by decide +kernel, by decide +kernel⟩, List.mem_of_getElem? (i := 1088) (by decide +kernel), List.mem_of_getElem? (i := 1376) (by decide +kernel), List.mem_of_getElem? (i := 1377) (by decide +kernel)⟩
theorem lw_p41 : lw_okq (⟨"RateOfficeModel", "sumOf", "(III)J"⟩, 30) := ⟨⟨by decide +kernel, by decide +kernel⟩, List.mem_of_getElem? (i := 1088) (by decide +kernel), List.mem_of_getElem? (i := 1382) (by decide +kernel), List.mem_of_getElem? (i := 1383) (by decide +kernel)⟩
theorem lw_p42 : lw_okq (⟨"RateOfficeModel", "trusted", "(IIII)I"⟩, 30) := ⟨⟨by decide +kernel, by decide +kernel⟩, List.mem_of_getElem? (i := 1088) (by decide +kernel), List.mem_of_getElem? (i := 1389) (by decide +kernel), List.mem_of_getElem? (i := 1390) (by decide +kernel)⟩
theorem lw_p43 : lw_okq (⟨"RateOfficeModel", "relates", "(III)V"⟩, 30) := ⟨⟨by decide +kernel, by decide +kernel⟩, List.mem_of_getElem? (i := 1088) (by decide +kernel), List.mem_of_getElem? (i := 1393) (by decide +kernel), List.mem_of_getElem? (i := 1394) (by decide +kernel)⟩
theorem lw_p44 : lw_okq (⟨"RateOfficeModel", "lastOf", "(II)I"⟩, 30) := ⟨⟨by decide +kernel, by decide +kernel⟩, List.mem_of_getElem? (i := 1088) (by decide +kernel), List.mem_of_getElem? (i := 1397) (by decide +kernel), List.mem_of_getElem? (i := 1398) (by decide +kernel)⟩
theorem lw_p45 : lw_okq (⟨"RateOfficeModel", "rounds", "(II)V"⟩, 30) := ⟨⟨by decide +kernel, by decide +kernel⟩, List.mem_of_getElem? (i := 1088) (by decide +kernel), List.mem_of_getElem? (i := 1405) (by decide +kernel), List.mem_of_getElem? (i := 1406) (by decide +kernel)⟩
theorem lw_p46 : lw_okq (⟨"RateOfficeModel", "unbalancedNow", "()I"⟩, 30) := ⟨⟨by decide +kernel, by decide +kernel⟩, List.mem_of_getElem? (i := 1088) (by decide +kernel), List.mem_of_getElem? (i := 1409) (by decide +kernel), List.mem_of_getElem? (i := 1410) (by decide +kernel)⟩
theorem lw_p47 : lw_okq (⟨"RateOfficeModel", "balances", "(II)Z"⟩, 30) := ⟨⟨by decide +kernel, by decide +kernel⟩, List.mem_of_getElem? (i := 1088) (by decide +kernel), List.mem_of_getElem? (i := 1413) (by decide +kernel), List.mem_of_getElem? (i := 1414) (by decide +kernel)⟩
def lw_privs_3 : List (MethodName × Nat) := [(⟨"RateOfficeModel", "firstOf", "(II)I"⟩, 30), (⟨"RateOfficeModel", "isJoined", "(II)Z"⟩, 30), (⟨"RateOfficeModel", "risksOf", "(II)I"⟩, 30), (⟨"RateOfficeModel", "isOf", "(III)Z"⟩, 30), (⟨"RateOfficeModel", "premiumsOf", "(II)J"⟩, 30), (⟨"RateOfficeModel", "premiumOf", "(I)J"⟩, 30), (⟨"RateOfficeModel", "premiumBy", "(II)J"⟩, 30), (⟨"RateOfficeModel", "premiumBehind", "(III)J"⟩, 30), (⟨"RateOfficeModel", "relativityOf", "(II)I"⟩, 30), (⟨"RateOfficeModel", "sumOf", "(III)J"⟩, 30), (⟨"RateOfficeModel", "trusted", "(IIII)I"⟩, 30), (⟨"RateOfficeModel", "relates", "(III)V"⟩, 30), (⟨"RateOfficeModel", "lastOf", "(II)I"⟩, 30), (⟨"RateOfficeModel", "rounds", "(II)V"⟩, 30), (⟨"RateOfficeModel", "unbalancedNow", "()I"⟩, 30), (⟨"RateOfficeModel", "balances", "(II)Z"⟩, 30)]
theorem lw_r3 : ∀ q ∈ lw_privs_3, lw_okq q := List.forall_mem_cons.mpr ⟨lw_p32, List.forall_mem_cons.mpr ⟨lw_p33, List.forall_mem_cons.mpr ⟨lw_p34, List.forall_mem_cons.mpr ⟨lw_p35, List.forall_mem_cons.mpr ⟨lw_p36, List.forall_mem_cons.mpr ⟨lw_p37, List.forall_mem_cons.mpr ⟨lw_p38, List.forall_mem_cons.mpr ⟨lw_p39, List.forall_mem_cons.mpr ⟨lw_p40, List.forall_mem_cons.mpr ⟨lw_p41, List.forall_mem_cons.mpr ⟨lw_p42, List.forall_mem_cons.mpr ⟨lw_p43, List.forall_mem_cons.mpr ⟨lw_p44, List.forall_mem_cons.mpr ⟨lw_p45, List.forall_mem_cons.mpr ⟨lw_p46, List.forall_mem_cons.mpr ⟨lw_p47, fun _ h => absurd h List.not_mem_nil⟩⟩⟩⟩⟩⟩⟩⟩⟩⟩⟩⟩⟩⟩⟩⟩
theorem lw_p48 : lw_okq (⟨"RateOfficeModel", "rebases", "()V"⟩, 30) := ⟨⟨by decide +kernel, by decide +kernel⟩, List.mem_of_getElem? (i := 1088) (by decide +kernel), List.mem_of_getElem? (i := 1424) (by decide +kernel), List.mem_of_getElem? (i := 1425) (by decide +kernel)⟩
theorem lw_p49 : lw_okq (⟨"RateOfficeModel", "paid", "()J"⟩, 30) := ⟨⟨by decide +kernel, by decide +kernel⟩, List.mem_of_getElem? (i := 1088) (by decide +kernel), List.mem_of_getElem? (i := 1428) (by decide +kernel), List.mem_of_getElem? (i := 1429) (by decide +kernel)⟩
theorem lw_p50 : lw_okq (⟨"RateOfficeModel", "allOf", "(I)J"⟩, 30) := ⟨⟨by decide +kernel, by decide +kernel⟩, List.mem_of_getElem? (i := 1088) (by decide +kernel), List.mem_of_getElem? (i := 1432) (by decide +kernel), List.mem_of_getElem? (i := 1433) (by decide +kernel)⟩
theorem lw_p51 : lw_okq (⟨"RateOfficeModel", "levels", "()V"⟩, 30) := ⟨⟨by decide +kernel, by decide +kernel⟩, List.mem_of_getElem? (i := 1088) (by decide +kernel), List.mem_of_getElem? (i := 1441) (by decide +kernel), List.mem_of_getElem? (i := 1442) (by decide +kernel)⟩
theorem lw_p52 : lw_okq (⟨"RateOfficeModel", "isLevel", "(II)Z"⟩, 30) := ⟨⟨by decide +kernel, by decide +kernel⟩, List.mem_of_getElem? (i := 1088) (by decide +kernel), List.mem_of_getElem? (i := 1449) (by decide +kernel), List.mem_of_getElem? (i := 1450) (by decide +kernel)⟩
theorem lw_p53 : lw_okq (⟨"RateOfficeModel", "isRisk", "(I)Z"⟩, 30) := ⟨⟨by decide +kernel, by decide +kernel⟩, List.mem_of_getElem? (i := 1088) (by decide +kernel), List.mem_of_getElem? (i := 1457) (by decide +kernel), List.mem_of_getElem? (i := 1458) (by decide +kernel)⟩
theorem lw_p54 : lw_okq (⟨"RateOfficeModel", "laysLevels", "(I)Z"⟩, 30) := ⟨⟨by decide +kernel, by decide +kernel⟩, List.mem_of_getElem? (i := 1088) (by decide +kernel), List.mem_of_getElem? (i := 1465) (by decide +kernel), List.mem_of_getElem? (i := 1466) (by decide +kernel)⟩
theorem lw_p55 : lw_okq (⟨"RateOfficeModel", "goes", "(I)V"⟩, 30) := ⟨⟨by decide +kernel, by decide +kernel⟩, List.mem_of_getElem? (i := 1088) (by decide +kernel), List.mem_of_getElem? (i := 1473) (by decide +kernel), List.mem_of_getElem? (i := 1474) (by decide +kernel)⟩
theorem lw_p56 : lw_okq (⟨"RateOfficeModel", "joins", "(II)V"⟩, 30) := ⟨⟨by decide +kernel, by decide +kernel⟩, List.mem_of_getElem? (i := 1088) (by decide +kernel), List.mem_of_getElem? (i := 1481) (by decide +kernel), List.mem_of_getElem? (i := 1482) (by decide +kernel)⟩
theorem lw_p57 : lw_okq (⟨"RateOfficeModel", "classesOf", "(I)I"⟩, 30) := ⟨⟨by decide +kernel, by decide +kernel⟩, List.mem_of_getElem? (i := 1088) (by decide +kernel), List.mem_of_getElem? (i := 1501) (by decide +kernel), List.mem_of_getElem? (i := 1502) (by decide +kernel)⟩
theorem lw_p58 : lw_okq (⟨"RateOfficeModel", "farthestOff", "(I)I"⟩, 30) := ⟨⟨by decide +kernel, by decide +kernel⟩, List.mem_of_getElem? (i := 1088) (by decide +kernel), List.mem_of_getElem? (i := 1505) (by decide +kernel), List.mem_of_getElem? (i := 1506) (by decide +kernel)⟩
theorem lw_p59 : lw_okq (⟨"RateOfficeModel", "byNow", "()I"⟩, 30) := ⟨⟨by decide +kernel, by decide +kernel⟩, List.mem_of_getElem? (i := 1088) (by decide +kernel), List.mem_of_getElem? (i := 1549) (by decide +kernel), List.mem_of_getElem? (i := 1550) (by decide +kernel)⟩
theorem lw_p60 : lw_okq (⟨"RateOfficeModel", "offBalanceNow", "()I"⟩, 30) := ⟨⟨by decide +kernel, by decide +kernel⟩, List.mem_of_getElem? (i := 1088) (by decide +kernel), List.mem_of_getElem? (i := 1553) (by decide +kernel), List.mem_of_getElem? (i := 1554) (by decide +kernel)⟩
theorem lw_p61 : lw_okq (⟨"RateOfficeModel", "allCapped", "(I)J"⟩, 30) := ⟨⟨by decide +kernel, by decide +kernel⟩, List.mem_of_getElem? (i := 1088) (by decide +kernel), List.mem_of_getElem? (i := 1557) (by decide +kernel), List.mem_of_getElem? (i := 1558) (by decide +kernel)⟩
theorem lw_p62 : lw_okq (⟨"RateOfficeModel", "cappedBy", "(II)J"⟩, 30) := ⟨⟨by decide +kernel, by decide +kernel⟩, List.mem_of_getElem? (i := 1088) (by decide +kernel), List.mem_of_getElem? (i := 1561) (by decide +kernel), List.mem_of_getElem? (i := 1562) (by decide +kernel)⟩
theorem lw_p63 : lw_okq (⟨"RateOfficeModel", "rawBy", "(II)J"⟩, 30) := ⟨⟨by decide +kernel, by decide +kernel⟩, List.mem_of_getElem? (i := 1088) (by decide +kernel), List.mem_of_getElem? (i := 1565) (by decide +kernel), List.mem_of_getElem? (i := 1566) (by decide +kernel)⟩
def lw_privs_4 : List (MethodName × Nat) := [(⟨"RateOfficeModel", "rebases", "()V"⟩, 30), (⟨"RateOfficeModel", "paid", "()J"⟩, 30), (⟨"RateOfficeModel", "allOf", "(I)J"⟩, 30), (⟨"RateOfficeModel", "levels", "()V"⟩, 30), (⟨"RateOfficeModel", "isLevel", "(II)Z"⟩, 30), (⟨"RateOfficeModel", "isRisk", "(I)Z"⟩, 30), (⟨"RateOfficeModel", "laysLevels", "(I)Z"⟩, 30), (⟨"RateOfficeModel", "goes", "(I)V"⟩, 30), (⟨"RateOfficeModel", "joins", "(II)V"⟩, 30), (⟨"RateOfficeModel", "classesOf", "(I)I"⟩, 30), (⟨"RateOfficeModel", "farthestOff", "(I)I"⟩, 30), (⟨"RateOfficeModel", "byNow", "()I"⟩, 30), (⟨"RateOfficeModel", "offBalanceNow", "()I"⟩, 30), (⟨"RateOfficeModel", "allCapped", "(I)J"⟩, 30), (⟨"RateOfficeModel", "cappedBy", "(II)J"⟩, 30), (⟨"RateOfficeModel", "rawBy", "(II)J"⟩, 30)]
theorem lw_r4 : ∀ q ∈ lw_privs_4, lw_okq q := List.forall_mem_cons.mpr ⟨lw_p48, List.forall_mem_cons.mpr ⟨lw_p49, List.forall_mem_cons.mpr ⟨lw_p50, List.forall_mem_cons.mpr ⟨lw_p51, List.forall_mem_cons.mpr ⟨lw_p52, List.forall_mem_cons.mpr ⟨lw_p53, List.forall_mem_cons.mpr ⟨lw_p54, List.forall_mem_cons.mpr ⟨lw_p55, List.forall_mem_cons.mpr ⟨lw_p56, List.forall_mem_cons.mpr ⟨lw_p57, List.forall_mem_cons.mpr ⟨lw_p58, List.forall_mem_cons.mpr ⟨lw_p59, List.forall_mem_cons.mpr ⟨lw_p60, List.forall_mem_cons.mpr ⟨lw_p61, List.forall_mem_cons.mpr ⟨lw_p62, List.forall_mem_cons.mpr ⟨lw_p63, fun _ h => absurd h List.not_mem_nil⟩⟩⟩⟩⟩⟩⟩⟩⟩⟩⟩⟩⟩⟩⟩⟩
theorem lw_p64 : lw_okq (⟨"RateOfficeModel", "lowerEnd", "(I)J"⟩, 30) := ⟨⟨by decide +kernel, by decide +kernel⟩, List.mem_of_getElem? (i := 1088) (by decide +kernel), List.mem_of_getElem? (i := 1569) (by decide +kernel), List.mem_of_getElem? (i := 1570) (by decide +kernel)⟩
theorem lw_p65 : lw_okq (⟨"RateOfficeModel", "upperEnd", "(I)J"⟩, 30) := ⟨⟨by decide +kernel, by decide +kernel⟩, List.mem_of_getElem? (i := 1088) (by decide +kernel), List.mem_of_getElem? (i := 1573) (by decide +kernel), List.mem_of_getElem? (i := 1574) (by decide +kernel)⟩
theorem lw_p66 : lw_okq (⟨"RateOfficeModel", "changeBy", "(II)J"⟩, 30) := ⟨⟨by decide +kernel, by decide +kernel⟩, List.mem_of_getElem? (i := 1088) (by decide +kernel), List.mem_of_getElem? (i := 1577) (by decide +kernel), List.mem_of_getElem? (i := 1578) (by decide +kernel)⟩
theorem lw_p67 : lw_okq (⟨"RateOfficeModel", "misfit", "()J"⟩, 30) := ⟨⟨by decide +kernel, by decide +kernel⟩, List.mem_of_getElem? (i := 1088) (by decide +kernel), List.mem_of_getElem? (i := 1585) (by decide +kernel), List.mem_of_getElem? (i := 1586) (by decide +kernel)⟩
theorem lw_p68 : lw_okq (⟨"RateOfficeModel", "goesAside", "()V"⟩, 30) := ⟨⟨by decide +kernel, by decide +kernel⟩, List.mem_of_getElem? (i := 1088) (by decide +kernel), List.mem_of_getElem? (i := 1613) (by decide +kernel), List.mem_of_getElem? (i := 1614) (by decide +kernel)⟩
theorem lw_p69 : lw_okq (⟨"RateOfficeModel", "comesBack", "()V"⟩, 30) := ⟨⟨by decide +kernel, by decide +kernel⟩, List.mem_of_getElem? (i := 1088) (by decide +kernel), List.mem_of_getElem? (i := 1617) (by decide +kernel), List.mem_of_getElem? (i := 1618) (by decide +kernel)⟩
theorem lw_p70 : lw_okq (⟨"RateOfficeModel", "isMet", "(I)Z"⟩, 30) := ⟨⟨by decide +kernel, by decide +kernel⟩, List.mem_of_getElem? (i := 1088) (by decide +kernel), List.mem_of_getElem? (i := 1648) (by decide +kernel), List.mem_of_getElem? (i := 1649) (by decide +kernel)⟩
theorem lw_p71 : lw_okq (⟨"RateOfficeModel", "draw", "(I)I"⟩, 30) := ⟨⟨by decide +kernel, by decide +kernel⟩, List.mem_of_getElem? (i := 1088) (by decide +kernel), List.mem_of_getElem? (i := 1656) (by decide +kernel), List.mem_of_getElem? (i := 1657) (by decide +kernel)⟩
theorem lw_p72 : lw_okq (⟨"RateOfficeModel", "classes", "(Z)I"⟩, 30) := ⟨⟨by decide +kernel, by decide +kernel⟩, List.mem_of_getElem? (i := 1088) (by decide +kernel), List.mem_of_getElem? (i := 1666) (by decide +kernel), List.mem_of_getElem? (i := 1667) (by decide +kernel)⟩
def lw_privs_5 : List (MethodName × Nat) := [(⟨"RateOfficeModel", "lowerEnd", "(I)J"⟩, 30), (⟨"RateOfficeModel", "upperEnd", "(I)J"⟩, 30), (⟨"RateOfficeModel", "changeBy", "(II)J"⟩, 30), (⟨"RateOfficeModel", "misfit", "()J"⟩, 30), (⟨"RateOfficeModel", "goesAside", "()V"⟩, 30), (⟨"RateOfficeModel", "comesBack", "()V"⟩, 30), (⟨"RateOfficeModel", "isMet", "(I)Z"⟩, 30), (⟨"RateOfficeModel", "draw", "(I)I"⟩, 30), (⟨"RateOfficeModel", "classes", "(Z)I"⟩, 30)]
theorem lw_r5 : ∀ q ∈ lw_privs_5, lw_okq q := List.forall_mem_cons.mpr ⟨lw_p64, List.forall_mem_cons.mpr ⟨lw_p65, List.forall_mem_cons.mpr ⟨lw_p66, List.forall_mem_cons.mpr ⟨lw_p67, List.forall_mem_cons.mpr ⟨lw_p68, List.forall_mem_cons.mpr ⟨lw_p69, List.forall_mem_cons.mpr ⟨lw_p70, List.forall_mem_cons.mpr ⟨lw_p71, List.forall_mem_cons.mpr ⟨lw_p72, fun _ h => absurd h List.not_mem_nil⟩⟩⟩⟩⟩⟩⟩⟩⟩
def lw_privs : List (MethodName × Nat) := lw_privs_1 ++ (lw_privs_2 ++ (lw_privs_3 ++ (lw_privs_4 ++ (lw_privs_5))))
def lw_tbl : List Cond := k2_sels lw_privs ++ tables_1
theorem lw_privs_ok : ∀ q ∈ lw_privs, lw_okq q := by
  show ∀ q ∈ lw_privs_1 ++ (lw_privs_2 ++ (lw_privs_3 ++ (lw_privs_4 ++ (lw_privs_5)))), lw_okq q
  exact List.forall_mem_append.mpr ⟨lw_r1, List.forall_mem_append.mpr ⟨lw_r2, List.forall_mem_append.mpr ⟨lw_r3, List.forall_mem_append.mpr ⟨lw_r4, lw_r5⟩⟩⟩⟩
end
section
def RX0 : String := "RateOffice$Book"
def TX0 : u_T := fun k => match k with
  | 0 => ("RateOffice$Book", "riskCount", "I", false)
  | 1 => ("RateOffice$Book", "base", "I", false)
  | 2 => ("RateOffice$Book", "capRate", "I", false)
  | 3 => ("RateOffice$Book", "trustWeight", "I", false)
  | 4 => ("RateOffice$Book", "fleetSize", "I", false)
  | 5 => ("RateOffice$Book", "fleetOff", "I", false)
  | 6 => ("RateOffice$Book", "joinBits", "I", false)
  | 7 => ("RateOffice$Book", "exposures", "[I", true)
  | 8 => ("RateOffice$Book", "claimsOf", "[I", true)
  | 9 => ("RateOffice$Book", "olds", "[I", true)
  | 10 => ("RateOffice$Book", "levelsOf", "[I", true)
  | _ => ("RateOffice$Book", "relativities", "[I", true)
def tyX0 : Nat → FieldType := fun k => match k with
  | 0 => .int
  | 1 => .int
  | 2 => .int
  | 3 => .int
  | 4 => .int
  | 5 => .int
  | 6 => .int
  | 7 => .array .int
  | 8 => .array .int
  | 9 => .array .int
  | 10 => .array .int
  | _ => .array .int
abbrev wsX00 : List Cond := u_ws RX0 TX0 12
theorem nmX0 : ∀ a, a < 12 → ∀ b, b < 12 → a ≠ b → (TX0 a).2.1 ≠ (TX0 b).2.1 := by decide +kernel
theorem tyX0_ok : ∀ k, k < 12 → parseFieldDescriptor (TX0 k).2.2.1 = some (tyX0 k) := by decide +kernel
abbrev cX0_init : ByteArray := prog_2_method_1_code
def yX0_init : MethodName := ⟨RX0, "<init>", "()V"⟩
abbrev cX0_clear : ByteArray := prog_2_method_2_code
def yX0_clear : MethodName := ⟨RX0, "clear", "()V"⟩
abbrev cX0_copyFrom : ByteArray := prog_2_method_3_code
def yX0_copyFrom : MethodName := ⟨RX0, "copyFrom", "(LRateOffice$Book;)V"⟩
abbrev cX0_hasRisk : ByteArray := prog_2_method_4_code
def yX0_hasRisk : MethodName := ⟨RX0, "hasRisk", "(I)Z"⟩
abbrev cX0_addRisk : ByteArray := prog_2_method_5_code
def yX0_addRisk : MethodName := ⟨RX0, "addRisk", "(IIII)V"⟩
abbrev cX0_removeRisk : ByteArray := prog_2_method_6_code
def yX0_removeRisk : MethodName := ⟨RX0, "removeRisk", "(I)V"⟩
abbrev cX0_isJoined : ByteArray := prog_2_method_7_code
def yX0_isJoined : MethodName := ⟨RX0, "isJoined", "(II)Z"⟩
abbrev cX0_startsClass : ByteArray := prog_2_method_8_code
def yX0_startsClass : MethodName := ⟨RX0, "startsClass", "(II)Z"⟩
abbrev cX0_firstOf : ByteArray := prog_2_method_9_code
def yX0_firstOf : MethodName := ⟨RX0, "firstOf", "(II)I"⟩
abbrev cX0_lastOf : ByteArray := prog_2_method_10_code
def yX0_lastOf : MethodName := ⟨RX0, "lastOf", "(II)I"⟩
abbrev cX0_setClass : ByteArray := prog_2_method_11_code
def yX0_setClass : MethodName := ⟨RX0, "setClass", "(III)V"⟩
abbrev cX0_setAll : ByteArray := prog_2_method_12_code
def yX0_setAll : MethodName := ⟨RX0, "setAll", "(II)V"⟩
abbrev cX0_joinToNext : ByteArray := prog_2_method_13_code
def yX0_joinToNext : MethodName := ⟨RX0, "joinToNext", "(II)V"⟩
abbrev cX0_mark : ByteArray := prog_2_method_14_code
def yX0_mark : MethodName := ⟨RX0, "mark", "(II)V"⟩
abbrev cX0_part : ByteArray := prog_2_method_15_code
def yX0_part : MethodName := ⟨RX0, "part", "(II)V"⟩
abbrev cX0_sumOf : ByteArray := prog_2_method_16_code
def yX0_sumOf : MethodName := ⟨RX0, "sumOf", "([I)J"⟩
abbrev cX0_countFleets : ByteArray := prog_2_method_17_code
def yX0_countFleets : MethodName := ⟨RX0, "countFleets", "()I"⟩
abbrev cX0_countKinds : ByteArray := prog_2_method_18_code
def yX0_countKinds : MethodName := ⟨RX0, "countKinds", "()I"⟩
abbrev cX0_isFirstOfKind : ByteArray := prog_2_method_19_code
def yX0_isFirstOfKind : MethodName := ⟨RX0, "isFirstOfKind", "(I)Z"⟩
abbrev cX0_drawClaims : ByteArray := prog_2_method_20_code
def yX0_drawClaims : MethodName := ⟨RX0, "drawClaims", "(III)V"⟩
abbrev cX0_numberBehind : ByteArray := prog_2_method_21_code
def yX0_numberBehind : MethodName := ⟨RX0, "numberBehind", "(J)J"⟩
abbrev cX0_drawn : ByteArray := prog_2_method_22_code
def yX0_drawn : MethodName := ⟨RX0, "drawn", "(JI)I"⟩
def RX1 : String := "RateOffice$Capping"
def TX1 : u_T := fun k => match k with
  | 0 => ("RateOffice$Capping", "fit", "LRateOffice$Fit;", true)
  | 1 => ("RateOffice$Capping", "book", "LRateOffice$Book;", true)
  | 2 => ("RateOffice$Capping", "cappedOnes", "[J", true)
  | 3 => ("RateOffice$Capping", "offBalanceFound", "I", false)
  | _ => ("RateOffice$Capping", "scale", "I", false)
def tyX1 : Nat → FieldType := fun k => match k with
  | 0 => .object "RateOffice$Fit"
  | 1 => .object "RateOffice$Book"
  | 2 => .array .long
  | 3 => .int
  | _ => .int
abbrev wsX10 : List Cond := u_ws RX1 TX1 5
theorem nmX1 : ∀ a, a < 5 → ∀ b, b < 5 → a ≠ b → (TX1 a).2.1 ≠ (TX1 b).2.1 := by decide +kernel
theorem tyX1_ok : ∀ k, k < 5 → parseFieldDescriptor (TX1 k).2.2.1 = some (tyX1 k) := by decide +kernel
abbrev cX1_init : ByteArray := prog_3_method_1_code
def yX1_init : MethodName := ⟨RX1, "<init>", "(LRateOffice$Fit;)V"⟩
abbrev cX1_settle : ByteArray := prog_3_method_2_code
def yX1_settle : MethodName := ⟨RX1, "settle", "()V"⟩
abbrev cX1_scaled : ByteArray := prog_3_method_3_code
def yX1_scaled : MethodName := ⟨RX1, "scaled", "(II)J"⟩
abbrev cX1_leeway : ByteArray := prog_3_method_4_code
def yX1_leeway : MethodName := ⟨RX1, "leeway", "(II)J"⟩
abbrev cX1_cappedBy : ByteArray := prog_3_method_5_code
def yX1_cappedBy : MethodName := ⟨RX1, "cappedBy", "(III)J"⟩
abbrev cX1_sumBy : ByteArray := prog_3_method_6_code
def yX1_sumBy : MethodName := ⟨RX1, "sumBy", "(II)J"⟩
abbrev cX1_searchOffBalance : ByteArray := prog_3_method_7_code
def yX1_searchOffBalance : MethodName := ⟨RX1, "searchOffBalance", "()I"⟩
abbrev cX1_searchCap : ByteArray := prog_3_method_8_code
def yX1_searchCap : MethodName := ⟨RX1, "searchCap", "()I"⟩
abbrev cX1_sumCapped : ByteArray := prog_3_method_9_code
def yX1_sumCapped : MethodName := ⟨RX1, "sumCapped", "()J"⟩
abbrev cX1_changeOf : ByteArray := prog_3_method_10_code
def yX1_changeOf : MethodName := ⟨RX1, "changeOf", "(I)J"⟩
abbrev cX1_isChanged : ByteArray := prog_3_method_11_code
def yX1_isChanged : MethodName := ⟨RX1, "isChanged", "(II)Z"⟩
abbrev cX1_rankOf : ByteArray := prog_3_method_12_code
def yX1_rankOf : MethodName := ⟨RX1, "rankOf", "(I)I"⟩
def RX2 : String := "RateOffice$Fit"
def TX2 : u_T := fun k => match k with
  | 0 => ("RateOffice$Fit", "plan", "LRateOffice$Plan;", true)
  | 1 => ("RateOffice$Fit", "book", "LRateOffice$Book;", true)
  | 2 => ("RateOffice$Fit", "premiums", "[J", true)
  | 3 => ("RateOffice$Fit", "claimSums", "[J", true)
  | 4 => ("RateOffice$Fit", "premiumSums", "[J", true)
  | 5 => ("RateOffice$Fit", "exposureSums", "[J", true)
  | _ => ("RateOffice$Fit", "riskSums", "[I", true)
def tyX2 : Nat → FieldType := fun k => match k with
  | 0 => .object "RateOffice$Plan"
  | 1 => .object "RateOffice$Book"
  | 2 => .array .long
  | 3 => .array .long
  | 4 => .array .long
  | 5 => .array .long
  | _ => .array .int
abbrev wsX20 : List Cond := u_ws RX2 TX2 7
theorem nmX2 : ∀ a, a < 7 → ∀ b, b < 7 → a ≠ b → (TX2 a).2.1 ≠ (TX2 b).2.1 := by decide +kernel
theorem tyX2_ok : ∀ k, k < 7 → parseFieldDescriptor (TX2 k).2.2.1 = some (tyX2 k) := by decide +kernel
abbrev cX2_init : ByteArray := prog_4_method_1_code
def yX2_init : MethodName := ⟨RX2, "<init>", "(LRateOffice$Plan;LRateOffice$Book;)V"⟩
abbrev cX2_behindFactors : ByteArray := prog_4_method_2_code
def yX2_behindFactors : MethodName := ⟨RX2, "behindFactors", "(III)J"⟩
abbrev cX2_premiumFor : ByteArray := prog_4_method_3_code
def yX2_premiumFor : MethodName := ⟨RX2, "premiumFor", "(II)J"⟩
abbrev cX2_premiumOf : ByteArray := prog_4_method_4_code
def yX2_premiumOf : MethodName := ⟨RX2, "premiumOf", "(I)J"⟩
abbrev cX2_price : ByteArray := prog_4_method_5_code
def yX2_price : MethodName := ⟨RX2, "price", "()V"⟩
abbrev cX2_sumPaid : ByteArray := prog_4_method_6_code
def yX2_sumPaid : MethodName := ⟨RX2, "sumPaid", "()J"⟩
abbrev cX2_measure : ByteArray := prog_4_method_7_code
def yX2_measure : MethodName := ⟨RX2, "measure", "(I)V"⟩
abbrev cX2_gather : ByteArray := prog_4_method_8_code
def yX2_gather : MethodName := ⟨RX2, "gather", "(I)V"⟩
abbrev cX2_addToLower : ByteArray := prog_4_method_9_code
def yX2_addToLower : MethodName := ⟨RX2, "addToLower", "(I)V"⟩
abbrev cX2_differsBy : ByteArray := prog_4_method_10_code
def yX2_differsBy : MethodName := ⟨RX2, "differsBy", "(I)J"⟩
abbrev cX2_balances : ByteArray := prog_4_method_11_code
def yX2_balances : MethodName := ⟨RX2, "balances", "(II)Z"⟩
abbrev cX2_isOff : ByteArray := prog_4_method_12_code
def yX2_isOff : MethodName := ⟨RX2, "isOff", "(II)Z"⟩
abbrev cX2_isFilledClass : ByteArray := prog_4_method_13_code
def yX2_isFilledClass : MethodName := ⟨RX2, "isFilledClass", "(II)Z"⟩
abbrev cX2_countUnbalanced : ByteArray := prog_4_method_14_code
def yX2_countUnbalanced : MethodName := ⟨RX2, "countUnbalanced", "()I"⟩
abbrev cX2_sumMisfit : ByteArray := prog_4_method_15_code
def yX2_sumMisfit : MethodName := ⟨RX2, "sumMisfit", "()J"⟩
abbrev cX2_worstSlot : ByteArray := prog_4_method_16_code
def yX2_worstSlot : MethodName := ⟨RX2, "worstSlot", "()I"⟩
abbrev cX2_farthestOff : ByteArray := prog_4_method_17_code
def yX2_farthestOff : MethodName := ⟨RX2, "farthestOff", "(I)I"⟩
abbrev cX2_countClasses : ByteArray := prog_4_method_18_code
def yX2_countClasses : MethodName := ⟨RX2, "countClasses", "(I)I"⟩
abbrev cX2_countAllClasses : ByteArray := prog_4_method_19_code
def yX2_countAllClasses : MethodName := ⟨RX2, "countAllClasses", "(Z)I"⟩
abbrev cX2_countAt : ByteArray := prog_4_method_20_code
def yX2_countAt : MethodName := ⟨RX2, "countAt", "(II)I"⟩
abbrev cX2_turnOnce : ByteArray := prog_4_method_21_code
def yX2_turnOnce : MethodName := ⟨RX2, "turnOnce", "(I)I"⟩
abbrev cX2_turned : ByteArray := prog_4_method_22_code
def yX2_turned : MethodName := ⟨RX2, "turned", "(II)I"⟩
abbrev cX2_playRounds : ByteArray := prog_4_method_23_code
def yX2_playRounds : MethodName := ⟨RX2, "playRounds", "(II)Z"⟩
abbrev cX2_roundsTillBalance : ByteArray := prog_4_method_24_code
def yX2_roundsTillBalance : MethodName := ⟨RX2, "roundsTillBalance", "(I)I"⟩
abbrev cX2_rebaseBook : ByteArray := prog_4_method_25_code
def yX2_rebaseBook : MethodName := ⟨RX2, "rebaseBook", "()V"⟩
abbrev cX2_levelBook : ByteArray := prog_4_method_26_code
def yX2_levelBook : MethodName := ⟨RX2, "levelBook", "()V"⟩
abbrev cX2_widestClass : ByteArray := prog_4_method_27_code
def yX2_widestClass : MethodName := ⟨RX2, "widestClass", "(I)I"⟩
abbrev cX2_divideRelativities : ByteArray := prog_4_method_28_code
def yX2_divideRelativities : MethodName := ⟨RX2, "divideRelativities", "(II)V"⟩
def RX3 : String := "RateOffice$Plan"
def TX3 : u_T := fun k => match k with
  | 0 => ("RateOffice$Plan", "factorCount", "I", false)
  | 1 => ("RateOffice$Plan", "bound", "I", false)
  | 2 => ("RateOffice$Plan", "seed", "I", false)
  | 3 => ("RateOffice$Plan", "names", "[I", true)
  | 4 => ("RateOffice$Plan", "levelCounts", "[I", true)
  | 5 => ("RateOffice$Plan", "lows", "[I", true)
  | _ => ("RateOffice$Plan", "highs", "[I", true)
def tyX3 : Nat → FieldType := fun k => match k with
  | 0 => .int
  | 1 => .int
  | 2 => .int
  | 3 => .array .int
  | 4 => .array .int
  | 5 => .array .int
  | _ => .array .int
abbrev wsX30 : List Cond := u_ws RX3 TX3 7
theorem nmX3 : ∀ a, a < 7 → ∀ b, b < 7 → a ≠ b → (TX3 a).2.1 ≠ (TX3 b).2.1 := by decide +kernel
theorem tyX3_ok : ∀ k, k < 7 → parseFieldDescriptor (TX3 k).2.2.1 = some (tyX3 k) := by decide +kernel
abbrev cX3_init : ByteArray := prog_5_method_1_code
def yX3_init : MethodName := ⟨RX3, "<init>", "()V"⟩
abbrev cX3_clear : ByteArray := prog_5_method_2_code
def yX3_clear : MethodName := ⟨RX3, "clear", "()V"⟩
abbrev cX3_copyFrom : ByteArray := prog_5_method_3_code
def yX3_copyFrom : MethodName := ⟨RX3, "copyFrom", "(LRateOffice$Plan;)V"⟩
abbrev cX3_addFactor : ByteArray := prog_5_method_4_code
def yX3_addFactor : MethodName := ⟨RX3, "addFactor", "(II)V"⟩
abbrev cX3_find : ByteArray := prog_5_method_5_code
def yX3_find : MethodName := ⟨RX3, "find", "(I)I"⟩
abbrev cX3_hasFactor : ByteArray := prog_5_method_6_code
def yX3_hasFactor : MethodName := ⟨RX3, "hasFactor", "(I)Z"⟩
abbrev cX3_hasLevel : ByteArray := prog_5_method_7_code
def yX3_hasLevel : MethodName := ⟨RX3, "hasLevel", "(II)Z"⟩
abbrev cX3_hasLevels : ByteArray := prog_5_method_8_code
def yX3_hasLevels : MethodName := ⟨RX3, "hasLevels", "(I)Z"⟩
abbrev cX3_countKinds : ByteArray := prog_5_method_9_code
def yX3_countKinds : MethodName := ⟨RX3, "countKinds", "()I"⟩
def RX4 : String := "RateOffice$Reader"
def TX4 : u_T := fun k => match k with
  | 0 => ("RateOffice$Reader", "tokens", "LRateOffice$Tokens;", true)
  | 1 => ("RateOffice$Reader", "plan", "LRateOffice$Plan;", true)
  | 2 => ("RateOffice$Reader", "book", "LRateOffice$Book;", true)
  | 3 => ("RateOffice$Reader", "next", "I", false)
  | 4 => ("RateOffice$Reader", "kind", "I", false)
  | 5 => ("RateOffice$Reader", "value", "I", false)
  | 6 => ("RateOffice$Reader", "place", "I", false)
  | 7 => ("RateOffice$Reader", "wordsTold", "I", false)
  | 8 => ("RateOffice$Reader", "bandsTold", "I", false)
  | 9 => ("RateOffice$Reader", "faultKind", "I", false)
  | _ => ("RateOffice$Reader", "faultPlace", "I", false)
def tyX4 : Nat → FieldType := fun k => match k with
  | 0 => .object "RateOffice$Tokens"
  | 1 => .object "RateOffice$Plan"
  | 2 => .object "RateOffice$Book"
  | 3 => .int
  | 4 => .int
  | 5 => .int
  | 6 => .int
  | 7 => .int
  | 8 => .int
  | 9 => .int
  | _ => .int
abbrev wsX40 : List Cond := u_ws RX4 TX4 11
theorem nmX4 : ∀ a, a < 11 → ∀ b, b < 11 → a ≠ b → (TX4 a).2.1 ≠ (TX4 b).2.1 := by decide +kernel
theorem tyX4_ok : ∀ k, k < 11 → parseFieldDescriptor (TX4 k).2.2.1 = some (tyX4 k) := by decide +kernel
abbrev cX4_init : ByteArray := prog_6_method_1_code
def yX4_init : MethodName := ⟨RX4, "<init>", "()V"⟩
abbrev cX4_readText : ByteArray := prog_6_method_2_code
def yX4_readText : MethodName := ⟨RX4, "readText", "([BI)I"⟩
abbrev cX4_advance : ByteArray := prog_6_method_3_code
def yX4_advance : MethodName := ⟨RX4, "advance", "()V"⟩
abbrev cX4_fail : ByteArray := prog_6_method_4_code
def yX4_fail : MethodName := ⟨RX4, "fail", "(I)V"⟩
abbrev cX4_readLine : ByteArray := prog_6_method_5_code
def yX4_readLine : MethodName := ⟨RX4, "readLine", "()V"⟩
abbrev cX4_takeStop : ByteArray := prog_6_method_6_code
def yX4_takeStop : MethodName := ⟨RX4, "takeStop", "()V"⟩
abbrev cX4_takeNumber : ByteArray := prog_6_method_7_code
def yX4_takeNumber : MethodName := ⟨RX4, "takeNumber", "(II)I"⟩
abbrev cX4_factorHere : ByteArray := prog_6_method_8_code
def yX4_factorHere : MethodName := ⟨RX4, "factorHere", "()I"⟩
abbrev cX4_readFactor : ByteArray := prog_6_method_9_code
def yX4_readFactor : MethodName := ⟨RX4, "readFactor", "()V"⟩
abbrev cX4_readBand : ByteArray := prog_6_method_10_code
def yX4_readBand : MethodName := ⟨RX4, "readBand", "()V"⟩
abbrev cX4_readJoin : ByteArray := prog_6_method_11_code
def yX4_readJoin : MethodName := ⟨RX4, "readJoin", "()V"⟩
abbrev cX4_readRisk : ByteArray := prog_6_method_12_code
def yX4_readRisk : MethodName := ⟨RX4, "readRisk", "()V"⟩
abbrev cX4_readSetting : ByteArray := prog_6_method_13_code
def yX4_readSetting : MethodName := ⟨RX4, "readSetting", "(I)V"⟩
def RX5 : String := "RateOffice$Tokens"
def TX5 : u_T := fun k => match k with
  | 0 => ("RateOffice$Tokens", "kinds", "[I", true)
  | 1 => ("RateOffice$Tokens", "values", "[I", true)
  | 2 => ("RateOffice$Tokens", "places", "[I", true)
  | 3 => ("RateOffice$Tokens", "size", "I", false)
  | _ => ("RateOffice$Tokens", "at", "I", false)
def tyX5 : Nat → FieldType := fun k => match k with
  | 0 => .array .int
  | 1 => .array .int
  | 2 => .array .int
  | 3 => .int
  | _ => .int
abbrev wsX50 : List Cond := u_ws RX5 TX5 5
theorem nmX5 : ∀ a, a < 5 → ∀ b, b < 5 → a ≠ b → (TX5 a).2.1 ≠ (TX5 b).2.1 := by decide +kernel
theorem tyX5_ok : ∀ k, k < 5 → parseFieldDescriptor (TX5 k).2.2.1 = some (tyX5 k) := by decide +kernel
abbrev cX5_init : ByteArray := prog_7_method_1_code
def yX5_init : MethodName := ⟨RX5, "<init>", "()V"⟩
abbrev cX5_scan : ByteArray := prog_7_method_2_code
def yX5_scan : MethodName := ⟨RX5, "scan", "([BI)V"⟩
abbrev cX5_put : ByteArray := prog_7_method_3_code
def yX5_put : MethodName := ⟨RX5, "put", "(III)V"⟩
abbrev cX5_scanWord : ByteArray := prog_7_method_4_code
def yX5_scanWord : MethodName := ⟨RX5, "scanWord", "([BI)V"⟩
abbrev cX5_scanNumber : ByteArray := prog_7_method_5_code
def yX5_scanNumber : MethodName := ⟨RX5, "scanNumber", "([BI)V"⟩
abbrev cX5_isLetter : ByteArray := prog_7_method_6_code
def yX5_isLetter : MethodName := ⟨RX5, "isLetter", "(I)Z"⟩
abbrev cX5_isDigit : ByteArray := prog_7_method_7_code
def yX5_isDigit : MethodName := ⟨RX5, "isDigit", "(I)Z"⟩
abbrev cX5_letterBits : ByteArray := prog_7_method_8_code
def yX5_letterBits : MethodName := ⟨RX5, "letterBits", "(II)I"⟩
abbrev cX5_wordNumber : ByteArray := prog_7_method_9_code
def yX5_wordNumber : MethodName := ⟨RX5, "wordNumber", "(I)I"⟩
def RX6 : String := "RateOffice"
def TX6 : u_T := fun k => match k with
  | 0 => ("RateOffice", "tape", "[B", true)
  | 1 => ("RateOffice", "tapeLength", "I", false)
  | 2 => ("RateOffice", "faultKind", "I", false)
  | 3 => ("RateOffice", "faultPlace", "I", false)
  | 4 => ("RateOffice", "plan", "LRateOffice$Plan;", true)
  | 5 => ("RateOffice", "book", "LRateOffice$Book;", true)
  | 6 => ("RateOffice", "live", "LRateOffice$Fit;", true)
  | 7 => ("RateOffice", "capping", "LRateOffice$Capping;", true)
  | 8 => ("RateOffice", "trialBook", "LRateOffice$Book;", true)
  | 9 => ("RateOffice", "trial", "LRateOffice$Fit;", true)
  | 10 => ("RateOffice", "reader", "LRateOffice$Reader;", true)
  | 11 => ("RateOffice", "image", "LRateOffice$Book;", true)
  | 12 => ("RateOffice", "hasImage", "Z", false)
  | 13 => ("RateOffice", "history", "[LRateOffice$Book;", true)
  | 14 => ("RateOffice", "oldest", "I", false)
  | _ => ("RateOffice", "undoCount", "I", false)
def tyX6 : Nat → FieldType := fun k => match k with
  | 0 => .array .byte
  | 1 => .int
  | 2 => .int
  | 3 => .int
  | 4 => .object "RateOffice$Plan"
  | 5 => .object "RateOffice$Book"
  | 6 => .object "RateOffice$Fit"
  | 7 => .object "RateOffice$Capping"
  | 8 => .object "RateOffice$Book"
  | 9 => .object "RateOffice$Fit"
  | 10 => .object "RateOffice$Reader"
  | 11 => .object "RateOffice$Book"
  | 12 => .boolean
  | 13 => .array (.object "RateOffice$Book")
  | 14 => .int
  | _ => .int
abbrev wsX60 : List Cond := u_ws RX6 TX6 16
theorem nmX6 : ∀ a, a < 16 → ∀ b, b < 16 → a ≠ b → (TX6 a).2.1 ≠ (TX6 b).2.1 := by decide +kernel
theorem tyX6_ok : ∀ k, k < 16 → parseFieldDescriptor (TX6 k).2.2.1 = some (tyX6 k) := by decide +kernel
abbrev cX6_init : ByteArray := prog_1_method_1_code
def yX6_init : MethodName := ⟨RX6, "<init>", "()V"⟩
abbrev cX6_feed : ByteArray := prog_1_method_2_code
def yX6_feed : MethodName := ⟨RX6, "feed", "(IIIII)I"⟩
abbrev cX6_appendBytes : ByteArray := prog_1_method_3_code
def yX6_appendBytes : MethodName := ⟨RX6, "appendBytes", "(I)V"⟩
abbrev cX6_text : ByteArray := prog_1_method_4_code
def yX6_text : MethodName := ⟨RX6, "text", "(I)I"⟩
abbrev cX6_fault : ByteArray := prog_1_method_5_code
def yX6_fault : MethodName := ⟨RX6, "fault", "(I)I"⟩
abbrev cX6_named : ByteArray := prog_1_method_6_code
def yX6_named : MethodName := ⟨RX6, "named", "(I)I"⟩
abbrev cX6_turn : ByteArray := prog_1_method_7_code
def yX6_turn : MethodName := ⟨RX6, "turn", "(I)I"⟩
abbrev cX6_round : ByteArray := prog_1_method_8_code
def yX6_round : MethodName := ⟨RX6, "round", "(I)I"⟩
abbrev cX6_rebase : ByteArray := prog_1_method_9_code
def yX6_rebase : MethodName := ⟨RX6, "rebase", "()I"⟩
abbrev cX6_level : ByteArray := prog_1_method_10_code
def yX6_level : MethodName := ⟨RX6, "level", "()I"⟩
abbrev cX6_relativity : ByteArray := prog_1_method_11_code
def yX6_relativity : MethodName := ⟨RX6, "relativity", "(III)I"⟩
abbrev cX6_claims : ByteArray := prog_1_method_12_code
def yX6_claims : MethodName := ⟨RX6, "claims", "(II)I"⟩
abbrev cX6_risk : ByteArray := prog_1_method_13_code
def yX6_risk : MethodName := ⟨RX6, "risk", "(IIII)I"⟩
abbrev cX6_drop : ByteArray := prog_1_method_14_code
def yX6_drop : MethodName := ⟨RX6, "drop", "(I)I"⟩
abbrev cX6_join : ByteArray := prog_1_method_15_code
def yX6_join : MethodName := ⟨RX6, "join", "(II)I"⟩
abbrev cX6_cap : ByteArray := prog_1_method_16_code
def yX6_cap : MethodName := ⟨RX6, "cap", "(I)I"⟩
abbrev cX6_trust : ByteArray := prog_1_method_17_code
def yX6_trust : MethodName := ⟨RX6, "trust", "(I)I"⟩
abbrev cX6_fleet : ByteArray := prog_1_method_18_code
def yX6_fleet : MethodName := ⟨RX6, "fleet", "(II)I"⟩
abbrev cX6_factor : ByteArray := prog_1_method_19_code
def yX6_factor : MethodName := ⟨RX6, "factor", "(II)I"⟩
abbrev cX6_margin : ByteArray := prog_1_method_20_code
def yX6_margin : MethodName := ⟨RX6, "margin", "(III)J"⟩
abbrev cX6_of : ByteArray := prog_1_method_21_code
def yX6_of : MethodName := ⟨RX6, "of", "(II)J"⟩
abbrev cX6_all : ByteArray := prog_1_method_22_code
def yX6_all : MethodName := ⟨RX6, "all", "(I)J"⟩
abbrev cX6_fitted : ByteArray := prog_1_method_23_code
def yX6_fitted : MethodName := ⟨RX6, "fitted", "(I)I"⟩
abbrev cX6_unbalanced : ByteArray := prog_1_method_24_code
def yX6_unbalanced : MethodName := ⟨RX6, "unbalanced", "()I"⟩
abbrev cX6_offBalance : ByteArray := prog_1_method_25_code
def yX6_offBalance : MethodName := ⟨RX6, "offBalance", "()I"⟩
abbrev cX6_changes : ByteArray := prog_1_method_26_code
def yX6_changes : MethodName := ⟨RX6, "changes", "(I)I"⟩
abbrev cX6_share : ByteArray := prog_1_method_27_code
def yX6_share : MethodName := ⟨RX6, "share", "(II)I"⟩
abbrev cX6_atEnd : ByteArray := prog_1_method_28_code
def yX6_atEnd : MethodName := ⟨RX6, "atEnd", "(II)I"⟩
abbrev cX6_mostOff : ByteArray := prog_1_method_29_code
def yX6_mostOff : MethodName := ⟨RX6, "mostOff", "()I"⟩
abbrev cX6_step : ByteArray := prog_1_method_30_code
def yX6_step : MethodName := ⟨RX6, "step", "(II)J"⟩
abbrev cX6_swing : ByteArray := prog_1_method_31_code
def yX6_swing : MethodName := ⟨RX6, "swing", "(III)I"⟩
abbrev cX6_ratio : ByteArray := prog_1_method_32_code
def yX6_ratio : MethodName := ⟨RX6, "ratio", "(II)J"⟩
abbrev cX6_worst : ByteArray := prog_1_method_33_code
def yX6_worst : MethodName := ⟨RX6, "worst", "()I"⟩
abbrev cX6_hardest : ByteArray := prog_1_method_34_code
def yX6_hardest : MethodName := ⟨RX6, "hardest", "(I)I"⟩
abbrev cX6_ranked : ByteArray := prog_1_method_35_code
def yX6_ranked : MethodName := ⟨RX6, "ranked", "(I)I"⟩
abbrev cX6_leastCap : ByteArray := prog_1_method_36_code
def yX6_leastCap : MethodName := ⟨RX6, "leastCap", "()I"⟩
abbrev cX6_withoutFactor : ByteArray := prog_1_method_37_code
def yX6_withoutFactor : MethodName := ⟨RX6, "withoutFactor", "(II)J"⟩
abbrev cX6_bestJoin : ByteArray := prog_1_method_38_code
def yX6_bestJoin : MethodName := ⟨RX6, "bestJoin", "(II)I"⟩
abbrev cX6_misfitIfJoined : ByteArray := prog_1_method_39_code
def yX6_misfitIfJoined : MethodName := ⟨RX6, "misfitIfJoined", "(III)J"⟩
abbrev cX6_withoutRisk : ByteArray := prog_1_method_40_code
def yX6_withoutRisk : MethodName := ⟨RX6, "withoutRisk", "(II)I"⟩
abbrev cX6_quote : ByteArray := prog_1_method_41_code
def yX6_quote : MethodName := ⟨RX6, "quote", "(II)J"⟩
abbrev cX6_kinds : ByteArray := prog_1_method_42_code
def yX6_kinds : MethodName := ⟨RX6, "kinds", "(I)I"⟩
abbrev cX6_chance : ByteArray := prog_1_method_43_code
def yX6_chance : MethodName := ⟨RX6, "chance", "(IIIII)J"⟩
abbrev cX6_undo : ByteArray := prog_1_method_44_code
def yX6_undo : MethodName := ⟨RX6, "undo", "()I"⟩
abbrev cX6_keep : ByteArray := prog_1_method_45_code
def yX6_keep : MethodName := ⟨RX6, "keep", "()I"⟩
abbrev cX6_back : ByteArray := prog_1_method_46_code
def yX6_back : MethodName := ⟨RX6, "back", "()I"⟩
abbrev cX6_count : ByteArray := prog_1_method_47_code
def yX6_count : MethodName := ⟨RX6, "count", "(I)I"⟩
abbrev cX6_remember : ByteArray := prog_1_method_48_code
def yX6_remember : MethodName := ⟨RX6, "remember", "()V"⟩
abbrev cX6_historyIndex : ByteArray := prog_1_method_49_code
def yX6_historyIndex : MethodName := ⟨RX6, "historyIndex", "(I)I"⟩
abbrev cX6_within : ByteArray := prog_1_method_50_code
def yX6_within : MethodName := ⟨RX6, "within", "(III)Z"⟩
abbrev cX6_clamp : ByteArray := prog_1_method_51_code
def yX6_clamp : MethodName := ⟨RX6, "clamp", "(JII)I"⟩
abbrev cX6_slotShift : ByteArray := prog_1_method_52_code
def yX6_slotShift : MethodName := ⟨RX6, "slotShift", "(I)I"⟩
abbrev cX6_slot : ByteArray := prog_1_method_53_code
def yX6_slot : MethodName := ⟨RX6, "slot", "(II)I"⟩
abbrev cX6_levelIn : ByteArray := prog_1_method_54_code
def yX6_levelIn : MethodName := ⟨RX6, "levelIn", "(II)I"⟩
def RX7 : String := "RateOfficeModel"
def TX7 : u_T := fun k => match k with
  | 0 => ("RateOfficeModel", "thrown", "I", false)
  | 1 => ("RateOfficeModel", "tape", "[I", true)
  | 2 => ("RateOfficeModel", "taped", "I", false)
  | 3 => ("RateOfficeModel", "number", "[I", true)
  | 4 => ("RateOfficeModel", "isTold", "[Z", true)
  | 5 => ("RateOfficeModel", "name", "[I", true)
  | 6 => ("RateOfficeModel", "levels", "[I", true)
  | 7 => ("RateOfficeModel", "low", "[I", true)
  | 8 => ("RateOfficeModel", "high", "[I", true)
  | 9 => ("RateOfficeModel", "hasBand", "[Z", true)
  | 10 => ("RateOfficeModel", "joinTold", "[I", true)
  | 11 => ("RateOfficeModel", "read", "[I", true)
  | 12 => ("RateOfficeModel", "lines", "I", false)
  | 13 => ("RateOfficeModel", "size", "I", false)
  | 14 => ("RateOfficeModel", "at", "I", false)
  | 15 => ("RateOfficeModel", "place", "I", false)
  | 16 => ("RateOfficeModel", "sort", "I", false)
  | 17 => ("RateOfficeModel", "value", "I", false)
  | 18 => ("RateOfficeModel", "fault", "I", false)
  | 19 => ("RateOfficeModel", "faultPlace", "I", false)
  | 20 => ("RateOfficeModel", "lastFault", "I", false)
  | 21 => ("RateOfficeModel", "lastPlace", "I", false)
  | 22 => ("RateOfficeModel", "s", "[I", true)
  | 23 => ("RateOfficeModel", "aside", "[I", true)
  | 24 => ("RateOfficeModel", "image", "[I", true)
  | 25 => ("RateOfficeModel", "pasts", "[I", true)
  | 26 => ("RateOfficeModel", "undoable", "I", false)
  | 27 => ("RateOfficeModel", "hasImage", "Z", false)
  | 28 => ("RateOfficeModel", "levelNow", "[I", true)
  | _ => ("RateOfficeModel", "drawn", "I", false)
def tyX7 : Nat → FieldType := fun k => match k with
  | 0 => .int
  | 1 => .array .int
  | 2 => .int
  | 3 => .array .int
  | 4 => .array .boolean
  | 5 => .array .int
  | 6 => .array .int
  | 7 => .array .int
  | 8 => .array .int
  | 9 => .array .boolean
  | 10 => .array .int
  | 11 => .array .int
  | 12 => .int
  | 13 => .int
  | 14 => .int
  | 15 => .int
  | 16 => .int
  | 17 => .int
  | 18 => .int
  | 19 => .int
  | 20 => .int
  | 21 => .int
  | 22 => .array .int
  | 23 => .array .int
  | 24 => .array .int
  | 25 => .array .int
  | 26 => .int
  | 27 => .boolean
  | 28 => .array .int
  | _ => .int
abbrev wsX70 : List Cond := u_ws RX7 TX7 30
theorem nmX7 : ∀ a, a < 30 → ∀ b, b < 30 → a ≠ b → (TX7 a).2.1 ≠ (TX7 b).2.1 := by decide +kernel
theorem tyX7_ok : ∀ k, k < 30 → parseFieldDescriptor (TX7 k).2.2.1 = some (tyX7 k) := by decide +kernel
abbrev cX7_init : ByteArray := prog_9_method_1_code
def yX7_init : MethodName := ⟨RX7, "<init>", "()V"⟩
abbrev cX7_thrown : ByteArray := prog_9_method_2_code
def yX7_thrown : MethodName := ⟨RX7, "thrown", "()I"⟩
abbrev cX7_feed : ByteArray := prog_9_method_3_code
def yX7_feed : MethodName := ⟨RX7, "feed", "(IIIII)I"⟩
abbrev cX7_here : ByteArray := prog_9_method_4_code
def yX7_here : MethodName := ⟨RX7, "here", "()I"⟩
abbrev cX7_isSmall : ByteArray := prog_9_method_5_code
def yX7_isSmall : MethodName := ⟨RX7, "isSmall", "(I)Z"⟩
abbrev cX7_isDigit : ByteArray := prog_9_method_6_code
def yX7_isDigit : MethodName := ⟨RX7, "isDigit", "(I)Z"⟩
abbrev cX7_token : ByteArray := prog_9_method_7_code
def yX7_token : MethodName := ⟨RX7, "token", "()V"⟩
abbrev cX7_wordHere : ByteArray := prog_9_method_8_code
def yX7_wordHere : MethodName := ⟨RX7, "wordHere", "()I"⟩
abbrev cX7_nameHere : ByteArray := prog_9_method_9_code
def yX7_nameHere : MethodName := ⟨RX7, "nameHere", "()V"⟩
abbrev cX7_wrong : ByteArray := prog_9_method_10_code
def yX7_wrong : MethodName := ⟨RX7, "wrong", "(I)V"⟩
abbrev cX7_goOn : ByteArray := prog_9_method_11_code
def yX7_goOn : MethodName := ⟨RX7, "goOn", "()V"⟩
abbrev cX7_numeral : ByteArray := prog_9_method_12_code
def yX7_numeral : MethodName := ⟨RX7, "numeral", "(II)I"⟩
abbrev cX7_reading : ByteArray := prog_9_method_13_code
def yX7_reading : MethodName := ⟨RX7, "reading", "(I)I"⟩
abbrev cX7_reads : ByteArray := prog_9_method_14_code
def yX7_reads : MethodName := ⟨RX7, "reads", "(II)V"⟩
abbrev cX7_readOnce : ByteArray := prog_9_method_15_code
def yX7_readOnce : MethodName := ⟨RX7, "readOnce", "(III)V"⟩
abbrev cX7_namedAt : ByteArray := prog_9_method_16_code
def yX7_namedAt : MethodName := ⟨RX7, "namedAt", "(III)I"⟩
abbrev cX7_readFactor : ByteArray := prog_9_method_17_code
def yX7_readFactor : MethodName := ⟨RX7, "readFactor", "()V"⟩
abbrev cX7_factorHere : ByteArray := prog_9_method_18_code
def yX7_factorHere : MethodName := ⟨RX7, "factorHere", "()I"⟩
abbrev cX7_readBand : ByteArray := prog_9_method_19_code
def yX7_readBand : MethodName := ⟨RX7, "readBand", "()V"⟩
abbrev cX7_readJoin : ByteArray := prog_9_method_20_code
def yX7_readJoin : MethodName := ⟨RX7, "readJoin", "()V"⟩
abbrev cX7_readRisk : ByteArray := prog_9_method_21_code
def yX7_readRisk : MethodName := ⟨RX7, "readRisk", "()V"⟩
abbrev cX7_readFleet : ByteArray := prog_9_method_22_code
def yX7_readFleet : MethodName := ⟨RX7, "readFleet", "()V"⟩
abbrev cX7_readLine : ByteArray := prog_9_method_23_code
def yX7_readLine : MethodName := ⟨RX7, "readLine", "()V"⟩
abbrev cX7_freshText : ByteArray := prog_9_method_24_code
def yX7_freshText : MethodName := ⟨RX7, "freshText", "()V"⟩
abbrev cX7_readText : ByteArray := prog_9_method_25_code
def yX7_readText : MethodName := ⟨RX7, "readText", "(I)V"⟩
abbrev cX7_takeText : ByteArray := prog_9_method_26_code
def yX7_takeText : MethodName := ⟨RX7, "takeText", "()V"⟩
abbrev cX7_text : ByteArray := prog_9_method_27_code
def yX7_text : MethodName := ⟨RX7, "text", "(I)I"⟩
abbrev cX7_fault : ByteArray := prog_9_method_28_code
def yX7_fault : MethodName := ⟨RX7, "fault", "(I)I"⟩
abbrev cX7_factors : ByteArray := prog_9_method_29_code
def yX7_factors : MethodName := ⟨RX7, "factors", "()I"⟩
abbrev cX7_named : ByteArray := prog_9_method_30_code
def yX7_named : MethodName := ⟨RX7, "named", "(I)I"⟩
abbrev cX7_copies : ByteArray := prog_9_method_31_code
def yX7_copies : MethodName := ⟨RX7, "copies", "([II[II)V"⟩
abbrev cX7_begins : ByteArray := prog_9_method_32_code
def yX7_begins : MethodName := ⟨RX7, "begins", "()V"⟩
abbrev cX7_remembers : ByteArray := prog_9_method_33_code
def yX7_remembers : MethodName := ⟨RX7, "remembers", "()V"⟩
abbrev cX7_undo : ByteArray := prog_9_method_34_code
def yX7_undo : MethodName := ⟨RX7, "undo", "()I"⟩
abbrev cX7_keep : ByteArray := prog_9_method_35_code
def yX7_keep : MethodName := ⟨RX7, "keep", "()I"⟩
abbrev cX7_back : ByteArray := prog_9_method_36_code
def yX7_back : MethodName := ⟨RX7, "back", "()I"⟩
abbrev cX7_many : ByteArray := prog_9_method_37_code
def yX7_many : MethodName := ⟨RX7, "many", "()I"⟩
abbrev cX7_isFactor : ByteArray := prog_9_method_38_code
def yX7_isFactor : MethodName := ⟨RX7, "isFactor", "(I)Z"⟩
abbrev cX7_isLevel : ByteArray := prog_9_method_39_code
def yX7_isLevel : MethodName := ⟨RX7, "isLevel", "(II)Z"⟩
abbrev cX7_isRisk : ByteArray := prog_9_method_40_code
def yX7_isRisk : MethodName := ⟨RX7, "isRisk", "(I)Z"⟩
abbrev cX7_isJoined : ByteArray := prog_9_method_41_code
def yX7_isJoined : MethodName := ⟨RX7, "isJoined", "(II)Z"⟩
abbrev cX7_firstOf : ByteArray := prog_9_method_42_code
def yX7_firstOf : MethodName := ⟨RX7, "firstOf", "(II)I"⟩
abbrev cX7_lastOf : ByteArray := prog_9_method_43_code
def yX7_lastOf : MethodName := ⟨RX7, "lastOf", "(II)I"⟩
abbrev cX7_relativityOf : ByteArray := prog_9_method_44_code
def yX7_relativityOf : MethodName := ⟨RX7, "relativityOf", "(II)I"⟩
abbrev cX7_relates : ByteArray := prog_9_method_45_code
def yX7_relates : MethodName := ⟨RX7, "relates", "(III)V"⟩
abbrev cX7_within : ByteArray := prog_9_method_46_code
def yX7_within : MethodName := ⟨RX7, "within", "(JJJ)J"⟩
abbrev cX7_premiumBy : ByteArray := prog_9_method_47_code
def yX7_premiumBy : MethodName := ⟨RX7, "premiumBy", "(II)J"⟩
abbrev cX7_premiumBehind : ByteArray := prog_9_method_48_code
def yX7_premiumBehind : MethodName := ⟨RX7, "premiumBehind", "(III)J"⟩
abbrev cX7_premiumOf : ByteArray := prog_9_method_49_code
def yX7_premiumOf : MethodName := ⟨RX7, "premiumOf", "(I)J"⟩
abbrev cX7_isOf : ByteArray := prog_9_method_50_code
def yX7_isOf : MethodName := ⟨RX7, "isOf", "(III)Z"⟩
abbrev cX7_risksOf : ByteArray := prog_9_method_51_code
def yX7_risksOf : MethodName := ⟨RX7, "risksOf", "(II)I"⟩
abbrev cX7_sumOf : ByteArray := prog_9_method_52_code
def yX7_sumOf : MethodName := ⟨RX7, "sumOf", "(III)J"⟩
abbrev cX7_premiumsOf : ByteArray := prog_9_method_53_code
def yX7_premiumsOf : MethodName := ⟨RX7, "premiumsOf", "(II)J"⟩
abbrev cX7_without : ByteArray := prog_9_method_54_code
def yX7_without : MethodName := ⟨RX7, "without", "(J)J"⟩
abbrev cX7_balances : ByteArray := prog_9_method_55_code
def yX7_balances : MethodName := ⟨RX7, "balances", "(II)Z"⟩
abbrev cX7_unbalancedNow : ByteArray := prog_9_method_56_code
def yX7_unbalancedNow : MethodName := ⟨RX7, "unbalancedNow", "()I"⟩
abbrev cX7_misfit : ByteArray := prog_9_method_57_code
def yX7_misfit : MethodName := ⟨RX7, "misfit", "()J"⟩
abbrev cX7_trusted : ByteArray := prog_9_method_58_code
def yX7_trusted : MethodName := ⟨RX7, "trusted", "(IIII)I"⟩
abbrev cX7_turns : ByteArray := prog_9_method_59_code
def yX7_turns : MethodName := ⟨RX7, "turns", "(I)I"⟩
abbrev cX7_rounds : ByteArray := prog_9_method_60_code
def yX7_rounds : MethodName := ⟨RX7, "rounds", "(II)V"⟩
abbrev cX7_paid : ByteArray := prog_9_method_61_code
def yX7_paid : MethodName := ⟨RX7, "paid", "()J"⟩
abbrev cX7_allOf : ByteArray := prog_9_method_62_code
def yX7_allOf : MethodName := ⟨RX7, "allOf", "(I)J"⟩
abbrev cX7_rebases : ByteArray := prog_9_method_63_code
def yX7_rebases : MethodName := ⟨RX7, "rebases", "()V"⟩
abbrev cX7_levels : ByteArray := prog_9_method_64_code
def yX7_levels : MethodName := ⟨RX7, "levels", "()V"⟩
abbrev cX7_turn : ByteArray := prog_9_method_65_code
def yX7_turn : MethodName := ⟨RX7, "turn", "(I)I"⟩
abbrev cX7_round : ByteArray := prog_9_method_66_code
def yX7_round : MethodName := ⟨RX7, "round", "(I)I"⟩
abbrev cX7_rebase : ByteArray := prog_9_method_67_code
def yX7_rebase : MethodName := ⟨RX7, "rebase", "()I"⟩
abbrev cX7_level : ByteArray := prog_9_method_68_code
def yX7_level : MethodName := ⟨RX7, "level", "()I"⟩
abbrev cX7_relativity : ByteArray := prog_9_method_69_code
def yX7_relativity : MethodName := ⟨RX7, "relativity", "(III)I"⟩
abbrev cX7_claims : ByteArray := prog_9_method_70_code
def yX7_claims : MethodName := ⟨RX7, "claims", "(II)I"⟩
abbrev cX7_laysLevels : ByteArray := prog_9_method_71_code
def yX7_laysLevels : MethodName := ⟨RX7, "laysLevels", "(I)Z"⟩
abbrev cX7_risk : ByteArray := prog_9_method_72_code
def yX7_risk : MethodName := ⟨RX7, "risk", "(IIII)I"⟩
abbrev cX7_goes : ByteArray := prog_9_method_73_code
def yX7_goes : MethodName := ⟨RX7, "goes", "(I)V"⟩
abbrev cX7_drop : ByteArray := prog_9_method_74_code
def yX7_drop : MethodName := ⟨RX7, "drop", "(I)I"⟩
abbrev cX7_joins : ByteArray := prog_9_method_75_code
def yX7_joins : MethodName := ⟨RX7, "joins", "(II)V"⟩
abbrev cX7_join : ByteArray := prog_9_method_76_code
def yX7_join : MethodName := ⟨RX7, "join", "(II)I"⟩
abbrev cX7_cap : ByteArray := prog_9_method_77_code
def yX7_cap : MethodName := ⟨RX7, "cap", "(I)I"⟩
abbrev cX7_trust : ByteArray := prog_9_method_78_code
def yX7_trust : MethodName := ⟨RX7, "trust", "(I)I"⟩
abbrev cX7_fleet : ByteArray := prog_9_method_79_code
def yX7_fleet : MethodName := ⟨RX7, "fleet", "(II)I"⟩
abbrev cX7_classesOf : ByteArray := prog_9_method_80_code
def yX7_classesOf : MethodName := ⟨RX7, "classesOf", "(I)I"⟩
abbrev cX7_farthestOff : ByteArray := prog_9_method_81_code
def yX7_farthestOff : MethodName := ⟨RX7, "farthestOff", "(I)I"⟩
abbrev cX7_factor : ByteArray := prog_9_method_82_code
def yX7_factor : MethodName := ⟨RX7, "factor", "(II)I"⟩
abbrev cX7_margin : ByteArray := prog_9_method_83_code
def yX7_margin : MethodName := ⟨RX7, "margin", "(III)J"⟩
abbrev cX7_step : ByteArray := prog_9_method_84_code
def yX7_step : MethodName := ⟨RX7, "step", "(II)J"⟩
abbrev cX7_swing : ByteArray := prog_9_method_85_code
def yX7_swing : MethodName := ⟨RX7, "swing", "(III)I"⟩
abbrev cX7_ratio : ByteArray := prog_9_method_86_code
def yX7_ratio : MethodName := ⟨RX7, "ratio", "(II)J"⟩
abbrev cX7_share : ByteArray := prog_9_method_87_code
def yX7_share : MethodName := ⟨RX7, "share", "(II)I"⟩
abbrev cX7_atEnd : ByteArray := prog_9_method_88_code
def yX7_atEnd : MethodName := ⟨RX7, "atEnd", "(II)I"⟩
abbrev cX7_mostOff : ByteArray := prog_9_method_89_code
def yX7_mostOff : MethodName := ⟨RX7, "mostOff", "()I"⟩
abbrev cX7_worst : ByteArray := prog_9_method_90_code
def yX7_worst : MethodName := ⟨RX7, "worst", "()I"⟩
abbrev cX7_lowerEnd : ByteArray := prog_9_method_91_code
def yX7_lowerEnd : MethodName := ⟨RX7, "lowerEnd", "(I)J"⟩
abbrev cX7_upperEnd : ByteArray := prog_9_method_92_code
def yX7_upperEnd : MethodName := ⟨RX7, "upperEnd", "(I)J"⟩
abbrev cX7_rawBy : ByteArray := prog_9_method_93_code
def yX7_rawBy : MethodName := ⟨RX7, "rawBy", "(II)J"⟩
abbrev cX7_cappedBy : ByteArray := prog_9_method_94_code
def yX7_cappedBy : MethodName := ⟨RX7, "cappedBy", "(II)J"⟩
abbrev cX7_allCapped : ByteArray := prog_9_method_95_code
def yX7_allCapped : MethodName := ⟨RX7, "allCapped", "(I)J"⟩
abbrev cX7_offBalanceNow : ByteArray := prog_9_method_96_code
def yX7_offBalanceNow : MethodName := ⟨RX7, "offBalanceNow", "()I"⟩
abbrev cX7_byNow : ByteArray := prog_9_method_97_code
def yX7_byNow : MethodName := ⟨RX7, "byNow", "()I"⟩
abbrev cX7_changeBy : ByteArray := prog_9_method_98_code
def yX7_changeBy : MethodName := ⟨RX7, "changeBy", "(II)J"⟩
abbrev cX7_of : ByteArray := prog_9_method_99_code
def yX7_of : MethodName := ⟨RX7, "of", "(II)J"⟩
abbrev cX7_all : ByteArray := prog_9_method_100_code
def yX7_all : MethodName := ⟨RX7, "all", "(I)J"⟩
abbrev cX7_offBalance : ByteArray := prog_9_method_101_code
def yX7_offBalance : MethodName := ⟨RX7, "offBalance", "()I"⟩
abbrev cX7_changes : ByteArray := prog_9_method_102_code
def yX7_changes : MethodName := ⟨RX7, "changes", "(I)I"⟩
abbrev cX7_hardest : ByteArray := prog_9_method_103_code
def yX7_hardest : MethodName := ⟨RX7, "hardest", "(I)I"⟩
abbrev cX7_ranked : ByteArray := prog_9_method_104_code
def yX7_ranked : MethodName := ⟨RX7, "ranked", "(I)I"⟩
abbrev cX7_goesAside : ByteArray := prog_9_method_105_code
def yX7_goesAside : MethodName := ⟨RX7, "goesAside", "()V"⟩
abbrev cX7_comesBack : ByteArray := prog_9_method_106_code
def yX7_comesBack : MethodName := ⟨RX7, "comesBack", "()V"⟩
abbrev cX7_leastCap : ByteArray := prog_9_method_107_code
def yX7_leastCap : MethodName := ⟨RX7, "leastCap", "()I"⟩
abbrev cX7_fitted : ByteArray := prog_9_method_108_code
def yX7_fitted : MethodName := ⟨RX7, "fitted", "(I)I"⟩
abbrev cX7_unbalanced : ByteArray := prog_9_method_109_code
def yX7_unbalanced : MethodName := ⟨RX7, "unbalanced", "()I"⟩
abbrev cX7_isRounds : ByteArray := prog_9_method_110_code
def yX7_isRounds : MethodName := ⟨RX7, "isRounds", "(I)Z"⟩
abbrev cX7_withoutFactor : ByteArray := prog_9_method_111_code
def yX7_withoutFactor : MethodName := ⟨RX7, "withoutFactor", "(II)J"⟩
abbrev cX7_bestJoin : ByteArray := prog_9_method_112_code
def yX7_bestJoin : MethodName := ⟨RX7, "bestJoin", "(II)I"⟩
abbrev cX7_withoutRisk : ByteArray := prog_9_method_113_code
def yX7_withoutRisk : MethodName := ⟨RX7, "withoutRisk", "(II)I"⟩
abbrev cX7_quote : ByteArray := prog_9_method_114_code
def yX7_quote : MethodName := ⟨RX7, "quote", "(II)J"⟩
abbrev cX7_isMet : ByteArray := prog_9_method_115_code
def yX7_isMet : MethodName := ⟨RX7, "isMet", "(I)Z"⟩
abbrev cX7_kinds : ByteArray := prog_9_method_116_code
def yX7_kinds : MethodName := ⟨RX7, "kinds", "(I)I"⟩
abbrev cX7_draw : ByteArray := prog_9_method_117_code
def yX7_draw : MethodName := ⟨RX7, "draw", "(I)I"⟩
abbrev cX7_chance : ByteArray := prog_9_method_118_code
def yX7_chance : MethodName := ⟨RX7, "chance", "(IIIII)J"⟩
abbrev cX7_classes : ByteArray := prog_9_method_119_code
def yX7_classes : MethodName := ⟨RX7, "classes", "(Z)I"⟩
abbrev cX7_count : ByteArray := prog_9_method_120_code
def yX7_count : MethodName := ⟨RX7, "count", "(I)I"⟩
def RJx145de : String := "java/io/Serializable"
def TJx145de : u_T := fun k => match k with
  | _ => ("", "", "", false)
def tyJx145de : Nat → FieldType := fun k => match k with
  | _ => .int
abbrev wsJx145de0 : List Cond := u_ws RJx145de TJx145de 0
theorem nmJx145de : ∀ a, a < 0 → ∀ b, b < 0 → a ≠ b → (TJx145de a).2.1 ≠ (TJx145de b).2.1 := by decide +kernel
theorem tyJx145de_ok : ∀ k, k < 0 → parseFieldDescriptor (TJx145de k).2.2.1 = some (tyJx145de k) := by decide +kernel
def RJx9f9b0 : String := "java/lang/CharSequence"
def TJx9f9b0 : u_T := fun k => match k with
  | _ => ("", "", "", false)
def tyJx9f9b0 : Nat → FieldType := fun k => match k with
  | _ => .int
abbrev wsJx9f9b00 : List Cond := u_ws RJx9f9b0 TJx9f9b0 0
theorem nmJx9f9b0 : ∀ a, a < 0 → ∀ b, b < 0 → a ≠ b → (TJx9f9b0 a).2.1 ≠ (TJx9f9b0 b).2.1 := by decide +kernel
theorem tyJx9f9b0_ok : ∀ k, k < 0 → parseFieldDescriptor (TJx9f9b0 k).2.2.1 = some (tyJx9f9b0 k) := by decide +kernel
def RJxb160c : String := "java/lang/Comparable"
def TJxb160c : u_T := fun k => match k with
  | _ => ("", "", "", false)
def tyJxb160c : Nat → FieldType := fun k => match k with
  | _ => .int
abbrev wsJxb160c0 : List Cond := u_ws RJxb160c TJxb160c 0
theorem nmJxb160c : ∀ a, a < 0 → ∀ b, b < 0 → a ≠ b → (TJxb160c a).2.1 ≠ (TJxb160c b).2.1 := by decide +kernel
theorem tyJxb160c_ok : ∀ k, k < 0 → parseFieldDescriptor (TJxb160c k).2.2.1 = some (tyJxb160c k) := by decide +kernel
def RJ9 : String := "java/lang/Math"
def TJ9 : u_T := fun k => match k with
  | _ => ("", "", "", false)
def tyJ9 : Nat → FieldType := fun k => match k with
  | _ => .int
abbrev wsJ90 : List Cond := u_ws RJ9 TJ9 0
theorem nmJ9 : ∀ a, a < 0 → ∀ b, b < 0 → a ≠ b → (TJ9 a).2.1 ≠ (TJ9 b).2.1 := by decide +kernel
theorem tyJ9_ok : ∀ k, k < 0 → parseFieldDescriptor (TJ9 k).2.2.1 = some (tyJ9 k) := by decide +kernel
abbrev cJ9_floorDiv_f86c9 : ByteArray := prog_15_method_49_code
def yJ9_floorDiv_f86c9 : MethodName := ⟨RJ9, "floorDiv", "(JJ)J"⟩
abbrev cJ9_abs_067f4 : ByteArray := prog_15_method_61_code
def yJ9_abs_067f4 : MethodName := ⟨RJ9, "abs", "(J)J"⟩
abbrev cJ9_max_7cf53 : ByteArray := prog_15_method_65_code
def yJ9_max_7cf53 : MethodName := ⟨RJ9, "max", "(II)I"⟩
abbrev cJ9_max_f86c9 : ByteArray := prog_15_method_66_code
def yJ9_max_f86c9 : MethodName := ⟨RJ9, "max", "(JJ)J"⟩
abbrev cJ9_min_7cf53 : ByteArray := prog_15_method_69_code
def yJ9_min_7cf53 : MethodName := ⟨RJ9, "min", "(II)I"⟩
abbrev cJ9_min_f86c9 : ByteArray := prog_15_method_70_code
def yJ9_min_f86c9 : MethodName := ⟨RJ9, "min", "(JJ)J"⟩
def RJ0 : String := "java/lang/String"
def TJ0 : u_T := fun k => match k with
  | _ => ("", "", "", false)
def tyJ0 : Nat → FieldType := fun k => match k with
  | _ => .int
abbrev wsJ00 : List Cond := u_ws RJ0 TJ0 0
theorem nmJ0 : ∀ a, a < 0 → ∀ b, b < 0 → a ≠ b → (TJ0 a).2.1 ≠ (TJ0 b).2.1 := by decide +kernel
theorem tyJ0_ok : ∀ k, k < 0 → parseFieldDescriptor (TJ0 k).2.2.1 = some (tyJ0 k) := by decide +kernel
abbrev cJ0_length_8abf5 : ByteArray := prog_17_method_54_code
def yJ0_length_8abf5 : MethodName := ⟨RJ0, "length", "()I"⟩
abbrev cJ0_charAt_5068e : ByteArray := prog_17_method_56_code
def yJ0_charAt_5068e : MethodName := ⟨RJ0, "charAt", "(I)C"⟩
abbrev cJ0_coder_7d493 : ByteArray := prog_17_method_152_code
def yJ0_coder_7d493 : MethodName := ⟨RJ0, "coder", "()B"⟩
abbrev cJ0_isLatin1_aae02 : ByteArray := prog_17_method_154_code
def yJ0_isLatin1_aae02 : MethodName := ⟨RJ0, "isLatin1", "()Z"⟩
abbrev cJ0_checkIndex_df160 : ByteArray := prog_17_method_155_code
def yJ0_checkIndex_df160 : MethodName := ⟨RJ0, "checkIndex", "(II)V"⟩
def RJ1 : String := "java/lang/StringLatin1"
def TJ1 : u_T := fun k => match k with
  | _ => ("", "", "", false)
def tyJ1 : Nat → FieldType := fun k => match k with
  | _ => .int
abbrev wsJ10 : List Cond := u_ws RJ1 TJ1 0
theorem nmJ1 : ∀ a, a < 0 → ∀ b, b < 0 → a ≠ b → (TJ1 a).2.1 ≠ (TJ1 b).2.1 := by decide +kernel
theorem tyJ1_ok : ∀ k, k < 0 → parseFieldDescriptor (TJ1 k).2.2.1 = some (tyJ1 k) := by decide +kernel
abbrev cJ1_charAt_3b067 : ByteArray := prog_18_method_2_code
def yJ1_charAt_3b067 : MethodName := ⟨RJ1, "charAt", "([BI)C"⟩
def RJ2 : String := "java/lang/StringUTF16"
def TJ2 : u_T := fun k => match k with
  | _ => ("", "", "", false)
def tyJ2 : Nat → FieldType := fun k => match k with
  | _ => .int
abbrev wsJ20 : List Cond := u_ws RJ2 TJ2 0
theorem nmJ2 : ∀ a, a < 0 → ∀ b, b < 0 → a ≠ b → (TJ2 a).2.1 ≠ (TJ2 b).2.1 := by decide +kernel
theorem tyJ2_ok : ∀ k, k < 0 → parseFieldDescriptor (TJ2 k).2.2.1 = some (tyJ2 k) := by decide +kernel
abbrev cJ2_getChar_3b067 : ByteArray := prog_19_method_5_code
def yJ2_getChar_3b067 : MethodName := ⟨RJ2, "getChar", "([BI)C"⟩
abbrev cJ2_length_9d52b : ByteArray := prog_19_method_6_code
def yJ2_length_9d52b : MethodName := ⟨RJ2, "length", "([B)I"⟩
abbrev cJ2_charAt_3b067 : ByteArray := prog_19_method_83_code
def yJ2_charAt_3b067 : MethodName := ⟨RJ2, "charAt", "([BI)C"⟩
abbrev cJ2_checkIndex_2214a : ByteArray := prog_19_method_91_code
def yJ2_checkIndex_2214a : MethodName := ⟨RJ2, "checkIndex", "(I[B)V"⟩
def RJ10 : String := "java/lang/System"
def TJ10 : u_T := fun k => match k with
  | _ => ("", "", "", false)
def tyJ10 : Nat → FieldType := fun k => match k with
  | _ => .int
abbrev wsJ100 : List Cond := u_ws RJ10 TJ10 0
theorem nmJ10 : ∀ a, a < 0 → ∀ b, b < 0 → a ≠ b → (TJ10 a).2.1 ≠ (TJ10 b).2.1 := by decide +kernel
theorem tyJ10_ok : ∀ k, k < 0 → parseFieldDescriptor (TJ10 k).2.2.1 = some (tyJ10 k) := by decide +kernel
def RJxfd54e : String := "java/lang/constant/Constable"
def TJxfd54e : u_T := fun k => match k with
  | _ => ("", "", "", false)
def tyJxfd54e : Nat → FieldType := fun k => match k with
  | _ => .int
abbrev wsJxfd54e0 : List Cond := u_ws RJxfd54e TJxfd54e 0
theorem nmJxfd54e : ∀ a, a < 0 → ∀ b, b < 0 → a ≠ b → (TJxfd54e a).2.1 ≠ (TJxfd54e b).2.1 := by decide +kernel
theorem tyJxfd54e_ok : ∀ k, k < 0 → parseFieldDescriptor (TJxfd54e k).2.2.1 = some (tyJxfd54e k) := by decide +kernel
def RJx3cf43 : String := "java/lang/constant/ConstantDesc"
def TJx3cf43 : u_T := fun k => match k with
  | _ => ("", "", "", false)
def tyJx3cf43 : Nat → FieldType := fun k => match k with
  | _ => .int
abbrev wsJx3cf430 : List Cond := u_ws RJx3cf43 TJx3cf43 0
theorem nmJx3cf43 : ∀ a, a < 0 → ∀ b, b < 0 → a ≠ b → (TJx3cf43 a).2.1 ≠ (TJx3cf43 b).2.1 := by decide +kernel
theorem tyJx3cf43_ok : ∀ k, k < 0 → parseFieldDescriptor (TJx3cf43 k).2.2.1 = some (tyJx3cf43 k) := by decide +kernel
def RJ3 : String := "jdk/internal/util/Preconditions"
def TJ3 : u_T := fun k => match k with
  | _ => ("", "", "", false)
def tyJ3 : Nat → FieldType := fun k => match k with
  | _ => .int
abbrev wsJ30 : List Cond := u_ws RJ3 TJ3 0
theorem nmJ3 : ∀ a, a < 0 → ∀ b, b < 0 → a ≠ b → (TJ3 a).2.1 ≠ (TJ3 b).2.1 := by decide +kernel
theorem tyJ3_ok : ∀ k, k < 0 → parseFieldDescriptor (TJ3 k).2.2.1 = some (tyJ3 k) := by decide +kernel
abbrev cJ3_checkIndex_8e157 : ByteArray := prog_25_method_11_code
def yJ3_checkIndex_8e157 : MethodName := ⟨RJ3, "checkIndex", "(IILjava/util/function/BiFunction;)I"⟩
def RL : String := "RateOfficeLaw"
abbrev cL_factor : ByteArray := method_3_code
def yL_factor : MethodName := ⟨RL, "factor", "(LRateOffice;II[J)I"⟩
abbrev cL_law : ByteArray := code
def yL_law : MethodName := ⟨RL, "law", "([I)Z"⟩
abbrev vwCl : List vw_C := [(RX0, TX0, 12), (RX1, TX1, 5), (RX2, TX2, 7), (RX3, TX3, 7), (RX4, TX4, 11), (RX5, TX5, 5), (RX6, TX6, 16), (RX7, TX7, 30)]
end
section
/-! THE SMALL MACHINE: values are whole numbers (Int), a cell is named by a role and a number; the heap is what the cells hold. -/
abbrev mV : Type := Int ⊕ Int ⊕ (Nat × Int)
abbrev mH : Type := Nat → Int → Int → Int
abbrev mI (x : Int) : mV := Sum.inl x
abbrev mJ (x : Int) : mV := Sum.inr (Sum.inl x)
abbrev mR (r : Nat) (i : Int) : mV := Sum.inr (Sum.inr (r, i))
/-- a place of the locals of which nothing is known -/
abbrev mU : mV := Sum.inr (Sum.inr (0, 0))
abbrev mInR (x : Int) : Prop := -2147483648 ≤ x ∧ x < 2147483648
abbrev mInL (x : Int) : Prop := -9223372036854775808 ≤ x ∧ x < 9223372036854775808
def mIv (ad : Nat → Int → Nat) : mV → Value
  | .inl x => .int (Int32.ofInt x)
  | .inr (.inl x) => .long (Int64.ofInt x)
  | .inr (.inr q) => .ref (ad q.1 q.2)
def mSet (h : mH) (r : Nat) (i k v : Int) : mH := fun r' i' k' => if r' = r ∧ i' = i ∧ k' = k then v else h r' i' k'
/-- fields of an object: none: a number; some: where it points -/
abbrev mFd : Type := Option (Nat × (Int → Int))
/-- what a role is: a row (kind 0 byte, 1 int, 2 long, 3 boolean, 4 of Books; its length), or an object (its number in vwCl, its fields) -/
def mT (r : Nat) : (Nat × Nat) ⊕ (Nat × List mFd) := match r with
  | 1 => .inr (0, [none, none, none, none, none, none, none, some (2, fun i => i), some (3, fun i => i), some (4, fun i => i), some (5, fun i => i), some (6, fun i => i)])
  | 2 => .inl (1, 40)
  | 3 => .inl (1, 40)
  | 4 => .inl (1, 40)
  | 5 => .inl (1, 40)
  | 6 => .inl (1, 32)
  | 7 => .inr (3, [none, none, none, some (8, fun i => i), some (9, fun i => i), some (10, fun i => i), some (11, fun i => i)])
  | 8 => .inl (1, 4)
  | 9 => .inl (1, 4)
  | 10 => .inl (1, 4)
  | 11 => .inl (1, 4)
  | 12 => .inr (2, [some (7, fun _ => 0), some (1, fun i => i), some (13, fun i => i), some (14, fun i => i), some (15, fun i => i), some (16, fun i => i), some (17, fun i => i)])
  | 13 => .inl (2, 40)
  | 14 => .inl (2, 32)
  | 15 => .inl (2, 32)
  | 16 => .inl (2, 32)
  | 17 => .inl (1, 32)
  | 18 => .inr (1, [some (12, fun _ => 0), some (1, fun _ => 0), some (19, fun i => i), none, none])
  | 19 => .inl (2, 40)
  | 20 => .inr (5, [some (21, fun i => i), some (22, fun i => i), some (23, fun i => i), none, none])
  | 21 => .inl (1, 901)
  | 22 => .inl (1, 901)
  | 23 => .inl (1, 901)
  | 24 => .inr (4, [some (20, fun _ => 0), some (7, fun _ => 1), some (1, fun _ => 2), none, none, none, none, none, none, none, none])
  | 25 => .inr (6, [some (26, fun _ => 0), none, none, none, some (7, fun _ => 0), some (1, fun _ => 0), some (12, fun _ => 0), some (18, fun _ => 0), some (1, fun _ => 1), some (12, fun _ => 1), some (24, fun _ => 0), some (1, fun _ => 3), none, some (27, fun _ => 0), none, none])
  | 26 => .inl (0, 900)
  | 27 => .inl (4, 20)
  | 30 => .inr (7, [none, some (31, fun _ => 0), none, some (32, fun _ => 0), some (33, fun _ => 0), some (34, fun _ => 0), some (35, fun _ => 0), some (36, fun _ => 0), some (37, fun _ => 0), some (38, fun _ => 0), some (39, fun _ => 0), some (40, fun _ => 0), none, none, none, none, none, none, none, none, none, none, some (41, fun _ => 0), some (42, fun _ => 0), some (43, fun _ => 0), some (44, fun _ => 0), none, none, some (45, fun _ => 0), none])
  | 31 => .inl (1, 900)
  | 32 => .inl (1, 18)
  | 33 => .inl (3, 6)
  | 34 => .inl (1, 8)
  | 35 => .inl (1, 8)
  | 36 => .inl (1, 8)
  | 37 => .inl (1, 8)
  | 38 => .inl (3, 8)
  | 39 => .inl (1, 8)
  | 40 => .inl (1, 280)
  | 41 => .inl (1, 314)
  | 42 => .inl (1, 314)
  | 43 => .inl (1, 314)
  | 44 => .inl (1, 6280)
  | 45 => .inl (1, 4)
  | 46 => .inl (2, 1)
  | _ => .inl (1, 0)
def mFs (ad : Nat → Int → Nat) (h : mH) (r : Nat) (i : Int) (fs : List mFd) : List Value := fs.mapIdx (fun k d => match d with
  | none => .int (Int32.ofInt (h r i (k : Int)))
  | some q => .ref (ad q.1 (q.2 i)))
def mRow (ad : Nat → Int → Nat) (h : mH) (r : Nat) (i : Int) (k n : Nat) : vp_A := match k with
  | 2 => (n, .inr (.inl (fun j => Int64.ofInt (h r i (j : Int)))))
  | 4 => (n, .inr (.inr (.inr (.inr (fun j => some (ad 1 (4 + (j : Int))))))))
  | _ => (n, .inl (fun j => Int32.ofInt (h r i (j : Int))))
def mEnt (cA : Nat → ClassId) (ad : Nat → Int → Nat) (h : mH) (q : Nat × Int) : va_E := match mT q.1 with
  | .inl a => .inl (cA a.1, mRow ad h q.1 q.2 a.1 a.2)
  | .inr o => .inr (o.1, mFs ad h q.1 q.2 o.2)
/-- the world of the cells ids, holding h -/
def mW (cA : Nat → ClassId) (ad : Nat → Int → Nat) (ids : List (Nat × Int)) (h : mH) : va_W := ids.map (fun q => (ad q.1 q.2, mEnt cA ad h q))
def mTys (cA : Nat → ClassId) : List (ClassId × FieldType) := [(cA 0, .byte), (cA 1, .int), (cA 2, .long), (cA 3, .boolean), (cA 4, .object "RateOffice$Book")]
/-- where a field or a row of Books points is a cell of the world, too -/
def mClosed (ids : List (Nat × Int)) : Prop :=
  (∀ (r : Nat) (i : Int) (ci : Nat) (fs : List mFd) (k : Nat) (q : Nat × (Int → Int)), (r, i) ∈ ids → mT r = .inr (ci, fs) → fs[k]? = some (some q) → (q.1, q.2 i) ∈ ids) ∧
  ∀ (r : Nat) (i : Int) (n : Nat), (r, i) ∈ ids → mT r = .inl (4, n) → ∀ k : Int, 0 ≤ k → k < n → ((1, 4 + k) : Nat × Int) ∈ ids
def mVal (ids : List (Nat × Int)) : mV → Prop
  | .inl _ => True
  | .inr (.inl _) => True
  | .inr (.inr q) => 1 ≤ q.1 → q.1 < 50 → q ∈ ids
def mVs (ids : List (Nat × Int)) (l : List mV) : Prop := ∀ v ∈ l, mVal ids v
theorem mVs.cons {ids : List (Nat × Int)} {v : mV} {l : List mV} (h : mVal ids v) (h2 : mVs ids l) : mVs ids (v :: l) := fun w hw => (List.mem_cons.mp hw).elim (fun e => e ▸ h) (h2 w)
theorem mVs.tl {ids : List (Nat × Int)} {v : mV} {l : List mV} (h : mVs ids (v :: l)) : mVs ids l := fun w hw => h w (List.mem_cons_of_mem _ hw)
theorem mVs.hd {ids : List (Nat × Int)} {v : mV} {l : List mV} (h : mVs ids (v :: l)) : mVal ids v := h v List.mem_cons_self
theorem mVs.app {ids : List (Nat × Int)} {l l2 : List mV} (h : mVs ids (l ++ l2)) : mVs ids l ∧ mVs ids l2 := ⟨fun w hw => h w (List.mem_append_left _ hw), fun w hw => h w (List.mem_append_right _ hw)⟩
/-- the good words of the tables -/
def mTbl : List Cond := lw_tbl.filter goodWord
theorem mTbl_of {w : Cond} (i : Nat) (h : lw_tbl[i]? = some w) (hg : goodWord w = true) : w ∈ mTbl := List.mem_filter.mpr ⟨List.mem_of_getElem? h, hg⟩
theorem mTbl_good {ws : List Cond} (h : ∀ w ∈ ws, w ∈ mTbl) : GoodIn mTbl ws := fun w hw => ⟨h w hw, good_of_word (List.mem_filter.mp (h w hw)).2⟩
/-- a method: name, code, places of locals, what it returns, how deep its calls go -/
abbrev mMs : Type := MethodName × ByteArray × Nat × Option FieldType × Nat
abbrev mRoom (d : Nat) : Room := { frames := d, cells := 0, slots := 0, locals := 40 * d }
def mWs (M : mMs) : List Cond := Cond.code M.1 M.2.1 M.2.2.1 M.2.2.2.1 :: mTbl
/-- private methods that are called out of the nest -/
def mNst : List (String × Nat × MethodName × String) := [("RateOffice$Book", 62, ⟨"RateOffice", "slot", "(II)I"⟩, "RateOffice"), ("RateOffice$Reader", 152, ⟨"RateOffice", "slotShift", "(I)I"⟩, "RateOffice"), ("RateOffice$Fit", 88, ⟨"RateOffice", "slot", "(II)I"⟩, "RateOffice"), ("RateOffice$Fit", 92, ⟨"RateOffice", "levelIn", "(II)I"⟩, "RateOffice"), ("RateOffice$Fit", 145, ⟨"RateOffice", "clamp", "(JII)I"⟩, "RateOffice"), ("RateOffice$Plan", 48, ⟨"RateOffice", "slotShift", "(I)I"⟩, "RateOffice"), ("RateOffice$Plan", 52, ⟨"RateOffice", "levelIn", "(II)I"⟩, "RateOffice"), ("RateOffice", 57, ⟨"RateOffice$Reader", "<init>", "()V"⟩, "RateOffice"), ("RateOffice$Reader", 11, ⟨"RateOffice$Tokens", "<init>", "()V"⟩, "RateOffice")]
def mNests (U : State) : Prop := ∀ q ∈ mNst, va_Nw (.methodLinkNest q.1 q.2.1 q.2.2.1 q.2.2.2) U
theorem mNests.warm {s U : State} (hW : s.WarmedH U.vm) (h : mNests s) : mNests U := fun q hq => va_Nw.warmM hW (h q hq)
theorem mNests.same {s U : State} (e : s.vm = U.vm) (h : mNests s) : mNests U := fun q hq => va_Nw.same rfl e (h q hq)
/-- the two texts of words, as bytes -/
def mTx0 : String := "factor band join risk base bound cap trust fleet seed "
def mTx1 : String := "base bound cap seed trust fleet factor band join risk "
def mBy0 : List Int32 := [102, 97, 99, 116, 111, 114, 32, 98, 97, 110, 100, 32, 106, 111, 105, 110, 32, 114, 105, 115, 107, 32, 98, 97, 115, 101, 32, 98, 111, 117, 110, 100, 32, 99, 97, 112, 32, 116, 114, 117, 115, 116, 32, 102, 108, 101, 101, 116, 32, 115, 101, 101, 100, 32]
def mBy1 : List Int32 := [98, 97, 115, 101, 32, 98, 111, 117, 110, 100, 32, 99, 97, 112, 32, 115, 101, 101, 100, 32, 116, 114, 117, 115, 116, 32, 102, 108, 101, 101, 116, 32, 102, 97, 99, 116, 111, 114, 32, 98, 97, 110, 100, 32, 106, 111, 105, 110, 32, 114, 105, 115, 107, 32]
def mStr (ad : Nat → Int → Nat) (A : Nat → Prop) (U : State) (H : Heap) : Prop :=
  vk_R "RateOffice$Tokens" 63 mTx0 (ad 60 0) U ∧ vk_R "RateOfficeModel" 108 mTx1 (ad 60 1) U ∧ ∃ adV : Nat → Nat, vk_S 2 [54, 54] [mBy0, mBy1] (fun i => ad 60 (i : Int)) adV A U H
theorem mStr.warm {ad : Nat → Int → Nat} {A : Nat → Prop} {s U : State} {H : Heap} (hW : s.WarmedH U.vm) (h : mStr ad A s H) : mStr ad A U H := by
  obtain ⟨h1, h2, adV, h3⟩ := h
  exact ⟨h1.warm hW, h2.warm hW, adV, h3.moved hW.alike⟩
theorem mStr.same {ad : Nat → Int → Nat} {A : Nat → Prop} {s U : State} {H : Heap} (e : U.vm = s.vm) (h : mStr ad A s H) : mStr ad A U H := by
  obtain ⟨h1, h2, adV, h3⟩ := h
  exact ⟨h1.same e, h2.same e, adV, h3.moved (by rw [e]; exact Vm.Alike.refl _)⟩
theorem mStr.kept {ad : Nat → Int → Nat} {A : Nat → Prop} {s : State} {H H1 : Heap} (hq : ∀ a : Nat, a < H.size → ¬ A a → H1[a]? = H[a]?) (h : mStr ad A s H) : mStr ad A s H1 := by
  obtain ⟨h1, h2, adV, h3⟩ := h
  exact ⟨h1, h2, adV, h3.kept hq⟩
theorem mStr.narrow {ad : Nat → Int → Nat} {A B : Nat → Prop} {s : State} {H : Heap} (hAB : ∀ q, B q → A q) (h : mStr ad A s H) : mStr ad B s H := by
  obtain ⟨h1, h2, adV, h3⟩ := h
  exact ⟨h1, h2, adV, h3.narrow hAB⟩
/-- what the tables say of a state, beside the good words -/
def mFx (D : va_G) (cA : Nat → ClassId) (ad : Nat → Int → Nat) (A : Nat → Prop) (U : State) (H : Heap) : Prop := va_K D vwCl (mTys cA) U ∧ mNests U ∧ mStr ad A U H
/-- a walk's surroundings: the machine; the method; the world; what may change, room that is used, the end that is wanted -/
abbrev mG : Type := (Program × Launch × Env × Room × State) × (MethodId × Array Value × List Frame × Method × Code) × (va_G × (Nat → ClassId) × (Nat → Int → Nat) × List (Nat × Int)) × ((Nat → Prop) × Nat × Nat × (State → Prop))
abbrev mGs (G : mG) : State := G.1.2.2.2.2
abbrev mGD (G : mG) : va_G := G.2.2.1.1
abbrev mGc (G : mG) : Nat → ClassId := G.2.2.1.2.1
abbrev mGad (G : mG) : Nat → Int → Nat := G.2.2.1.2.2.1
abbrev mGids (G : mG) : List (Nat × Int) := G.2.2.1.2.2.2
abbrev mGA (G : mG) : Nat → Prop := G.2.2.2.1
abbrev mGW (G : mG) (H : Heap) (locs : List Loc) (g : JFrame) : Prop :=
  W G.1.1 G.1.2.1 G.1.2.2.1 G.1.2.2.2.1 (mGs G) G.2.1.1 G.2.1.2.1 G.2.1.2.2.1 G.2.1.2.2.2.1 G.2.1.2.2.2.2 H locs G.2.2.2.2.1 G.2.2.2.2.2.1 G.2.2.2.2.2.2 g
abbrev mGF (G : mG) (pc : Nat) (ls : Array Slot) (st : List mV) : JFrame := F0 G.2.1.1 pc ls (st.map (mIv (mGad G)))
/-- what a walk of M stands on -/
def mOk (G : mG) (M : mMs) : Prop :=
  (G.1.1.tables.exec = Jvm.exec ∧ G.2.1.2.2.2.2.code = M.2.1 ∧ G.2.1.2.2.2.2.maxLocals = M.2.2.1 ∧ (mGs G).vm.findClass M.1.cls = some G.2.1.1.cls ∧ ∀ w ∈ mTbl, w.before G.2.1.2.1 (mGs G) = true) ∧
  (G.2.1.2.2.2.1.sig.returnType = M.2.2.2.1 ∧ G.2.1.2.2.2.1.locks = false) ∧
  mFx (mGD G) (mGc G) (mGad G) (mGA G) (mGs G) (mGs G).heap ∧ mClosed (mGids G) ∧ (∀ h : mH, va_D (mGA G) (mW (mGc G) (mGad G) (mGids G) h)) ∧ (∀ q, (mGs G).heap.size ≤ q → mGA G q) ∧
  (M.2.2.2.2 ≤ G.1.2.2.2.1.frames ∧ 40 * M.2.2.2.2 ≤ G.1.2.2.2.1.locals ∧ G.2.2.2.2.1 ≤ G.1.2.2.2.1.cells ∧ G.2.2.2.2.2.1 ≤ G.1.2.2.2.1.slots)
def mLs (ad : Nat → Int → Nat) (nL : Nat) (L : List mV) (ls : Array Slot) : Prop := ls.size = nL ∧ lv_wf ls ∧ ∀ (i : Nat) (v : mV), L[i]? = some v → v ≠ mU → ls[i]? = some (.val (mIv ad v))
/-- from pc on, with locals L, stack st, heap h, the method M comes to its end, in surroundings with F -/
def At (F : mG → Prop) (M : mMs) (pc : Nat) (L st : List mV) (h : mH) : Prop :=
  ∀ G : mG, F G → mOk G M → ∀ (H : Heap) (locs : List Loc) (ls : Array Slot), va_P (mGD G) vwCl (mW (mGc G) (mGad G) (mGids G) h) H → va_S (mGA G) (mGs G).heap H locs → mLs (mGad G) M.2.2.1 L ls → mVs (mGids G) L → mVs (mGids G) st → mGW G H locs (mGF G pc ls st)
/-- a method's end -/
def mVo (ids : List (Nat × Int)) (r : Option mV) : Prop := ∀ v, r = some v → mVal ids v
def mQ (D : va_G) (cA : Nat → ClassId) (ad : Nat → Int → Nat) (ids : List (Nat × Int)) (K : Option mV → mH → Prop) (A : Nat → Prop) : Array Value → State → Outcome → State → Prop := fun _ st o t =>
  ∃ (r : Option mV) (h : mH), o = .returned (r.map (mIv ad)) ∧ K r h ∧ mVo ids r ∧ va_P D vwCl (mW cA ad ids h) t.heap ∧ va_F A st t
def mPre (D : va_G) (cA : Nat → ClassId) (ad : Nat → Int → Nat) (ids : List (Nat × Int)) (sz : Nat) (h : mH) (U : State) : Prop :=
  U.heap.size = sz ∧ va_P D vwCl (mW cA ad ids h) U.heap ∧ va_D (fun _ => True) (mW cA ad ids h) ∧ mFx D cA ad (va_A (mW cA ad ids h) sz) U U.heap
/-- M, called with the values as on the heap h, returns with K -/
def Ok (M : mMs) (as : List mV) (h : mH) (K : Option mV → mH → Prop) : Prop :=
  ∀ (l : Launch) (D : va_G) (cA : Nat → ClassId) (ad : Nat → Int → Nat) (ids : List (Nat × Int)) (sz : Nat), mClosed ids → mVs ids as →
    Met l M.1 (mWs M) (mRoom M.2.2.2.2) (va_Pc (as.map (mIv ad)) (mPre D cA ad ids sz h)) (mQ D cA ad ids K (va_A (mW cA ad ids h) sz)) 0 0 (va_A (mW cA ad ids h) sz)
def OkI (M : mMs) (as : List mV) (h : mH) (K : Int → mH → Prop) : Prop := Ok M as h (fun r h => ∃ x, r = some (mI x) ∧ K x h)
def OkJ (M : mMs) (as : List mV) (h : mH) (K : Int → mH → Prop) : Prop := Ok M as h (fun r h => ∃ x, r = some (mJ x) ∧ K x h)
def OkV (M : mMs) (as : List mV) (h : mH) (K : mH → Prop) : Prop := Ok M as h (fun r h => r = none ∧ K h)
/-- the surroundings of a method that is to end with K -/
def mPost (K : Option mV → mH → Prop) (G : mG) : Prop := G.2.2.2.2.2.2 = MQ G.2.1.2.2.1 (mQ (mGD G) (mGc G) (mGad G) (mGids G) K (mGA G)) G.2.1.2.1 (mGs G) 0 0 (mGA G) ∧ G.2.2.2.2.1 = 0 ∧ G.2.2.2.2.2.1 = 0
/-- the locals at a method's entry -/
def mEl : List mV → List mV
  | [] => []
  | .inr (.inl x) :: l => mJ x :: mU :: mEl l
  | v :: l => v :: mEl l
end
section
/-! rows of the small machine: numbers -/
theorem o32 {x : Int} (h : mInR x) : (Int32.ofInt x).toInt = x := Int32.toInt_ofInt_of_le (by omega) (by omega)
theorem o64 {x : Int} (h : mInL x) : (Int64.ofInt x).toInt = x := Int64.toInt_ofInt_of_le (by omega) (by omega)
theorem o32_add (x y : Int) : Int32.ofInt x + Int32.ofInt y = Int32.ofInt (x + y) := by
  apply Int32.toBitVec.inj; simp [BitVec.ofInt_add]
theorem o32_mul (x y : Int) : Int32.ofInt x * Int32.ofInt y = Int32.ofInt (x * y) := by
  apply Int32.toBitVec.inj; simp [BitVec.ofInt_mul]
theorem o32_neg (x : Int) : -Int32.ofInt x = Int32.ofInt (-x) := Int32.neg_ofInt
theorem o32_sub (x y : Int) : Int32.ofInt x - Int32.ofInt y = Int32.ofInt (x - y) := by
  rw [Int32.sub_eq_add_neg, o32_neg, o32_add]; rfl
theorem o64_add (x y : Int) : Int64.ofInt x + Int64.ofInt y = Int64.ofInt (x + y) := by
  apply Int64.toBitVec.inj; simp [BitVec.ofInt_add]
theorem o64_mul (x y : Int) : Int64.ofInt x * Int64.ofInt y = Int64.ofInt (x * y) := by
  apply Int64.toBitVec.inj; simp [BitVec.ofInt_mul]
theorem o64_neg (x : Int) : -Int64.ofInt x = Int64.ofInt (-x) := Int64.neg_ofInt
theorem o64_sub (x y : Int) : Int64.ofInt x - Int64.ofInt y = Int64.ofInt (x - y) := by
  rw [Int64.sub_eq_add_neg, o64_neg, o64_add]; rfl
theorem o32_lt {x y : Int} (hx : mInR x) (hy : mInR y) : Int32.ofInt x < Int32.ofInt y ↔ x < y := by rw [Int32.lt_iff_toInt_lt, o32 hx, o32 hy]
theorem o32_le {x y : Int} (hx : mInR x) (hy : mInR y) : Int32.ofInt x ≤ Int32.ofInt y ↔ x ≤ y := by rw [Int32.le_iff_toInt_le, o32 hx, o32 hy]
theorem o32_eq {x y : Int} (hx : mInR x) (hy : mInR y) : Int32.ofInt x = Int32.ofInt y ↔ x = y := by rw [← Int32.toInt_inj, o32 hx, o32 hy]
theorem o64_lt {x y : Int} (hx : mInL x) (hy : mInL y) : Int64.ofInt x < Int64.ofInt y ↔ x < y := by rw [Int64.lt_iff_toInt_lt, o64 hx, o64 hy]
theorem o64_eq {x y : Int} (hx : mInL x) (hy : mInL y) : Int64.ofInt x = Int64.ofInt y ↔ x = y := by rw [← Int64.toInt_inj, o64 hx, o64 hy]
theorem o32_div {x y : Int} (hx : mInR x) (hy : mInR y) : Int32.ofInt x / Int32.ofInt y = Int32.ofInt (x.tdiv y) := by
  rw [← Int32.toInt_inj, Int32.toInt_div, o32 hx, o32 hy, Int32.toInt_ofInt]
theorem o64_div {x y : Int} (hx : mInL x) (hy : mInL y) : Int64.ofInt x / Int64.ofInt y = Int64.ofInt (x.tdiv y) := by
  rw [← Int64.toInt_inj, Int64.toInt_div, o64 hx, o64 hy, Int64.toInt_ofInt]
theorem o32_l {x : Int} (h : mInR x) : (Int32.ofInt x).toInt64 = Int64.ofInt x := by rw [← Int64.ofInt_int32ToInt, o32 h]
theorem o64_i (x : Int) : (Int64.ofInt x).toInt32 = Int32.ofInt x := Int64.toInt32_ofInt
theorem o32_0 {x : Int} (h : mInR x) : Int32.ofInt x = 0 ↔ x = 0 := o32_eq h (y := 0) (by decide)
theorem o32_clamp {x : Int} (h0 : 0 ≤ x) (h1 : x < 2147483648) : (Int32.ofInt x).toNatClampNeg = x.toNat := Int32.toNatClampNeg_ofInt_of_le (by omega) (by omega)
theorem o32_in {x : Int} {n : Nat} (h0 : 0 ≤ x) (h1 : x < n) (hn : n < 2147483648) : vp_in (Int32.ofInt x) n := by
  rintro (h | h)
  · rw [show (0 : Int32) = Int32.ofInt 0 from rfl, o32_lt (by omega) (by omega)] at h
    omega
  · rw [o32_clamp h0 (by omega)] at h
    omega
/-- bits -/
def mAnd (x y : Int) : Int := (Int32.ofInt x &&& Int32.ofInt y).toInt
def mOr (x y : Int) : Int := (Int32.ofInt x ||| Int32.ofInt y).toInt
def mXor (x y : Int) : Int := (Int32.ofInt x ^^^ Int32.ofInt y).toInt
def mShl (x y : Int) : Int := (Int32.ofInt x <<< (Int32.ofInt y &&& 31)).toInt
def mShr (x y : Int) : Int := (Int32.ofInt x >>> (Int32.ofInt y &&& 31)).toInt
def mAndL (x y : Int) : Int := (Int64.ofInt x &&& Int64.ofInt y).toInt
def mShrL (x y : Int) : Int := (Int64.ofInt x >>> ((Int32.ofInt y).toInt64 &&& 63)).toInt
def mI2b (x : Int) : Int := ((Int32.ofInt x).toInt8.toInt32).toInt
/-! locals -/
theorem mLs.get {ad : Nat → Int → Nat} {nL : Nat} {L : List mV} {ls : Array Slot} (h : mLs ad nL L ls) {i : Nat} {v : mV} (hv : L[i]? = some v) (hu : v ≠ mU) : ls[i]? = some (.val (mIv ad v)) := h.2.2 i v hv hu
def mLof (ad : Nat → Int → Nat) (L : List mV) : List (Nat × Value) := (List.range L.length).filterMap (fun i => match L[i]? with
  | some v => if v = mU then none else some (i, mIv ad v)
  | none => none)
theorem mLof_mem {ad : Nat → Int → Nat} {L : List mV} {q : Nat × Value} : q ∈ mLof ad L ↔ ∃ v, L[q.1]? = some v ∧ v ≠ mU ∧ q.2 = mIv ad v := by
  unfold mLof
  rw [List.mem_filterMap]
  constructor
  · rintro ⟨i, -, h⟩
    cases hL : L[i]? with
    | none => rw [hL] at h; cases h
    | some v =>
      rw [hL] at h
      dsimp only at h
      by_cases hu : v = mU
      · rw [if_pos hu] at h; cases h
      · rw [if_neg hu] at h
        cases h
        exact ⟨v, hL, hu, rfl⟩
  · rintro ⟨v, h1, h2, h3⟩
    refine ⟨q.1, List.mem_range.mpr (List.getElem?_eq_some_iff.mp h1).1, ?_⟩
    rw [h1]
    dsimp only
    rw [if_neg h2, ← h3]
theorem mLs.has {ad : Nat → Int → Nat} {nL : Nat} {L : List mV} {ls : Array Slot} (h : mLs ad nL L ls) : lv_has ls nL (mLof ad L) := by
  refine ⟨h.1, h.2.1, fun q hq => ?_⟩
  obtain ⟨v, h1, h2, h3⟩ := mLof_mem.mp hq
  rw [h3]
  exact h.2.2 _ v h1 h2
/-- a value of one place is stored -/
def mSt1 : List mV → Nat → mV → List mV
  | [], _, _ => []
  | _ :: L, 0, v => v :: L
  | .inr (.inl _) :: L, 1, v => mU :: mSt1 L 0 v
  | w :: L, n + 1, v => w :: mSt1 L n v
/-- a value of two places is stored -/
def mSt2 : List mV → Nat → mV → List mV
  | [], _, _ => []
  | [_], 0, v => [v]
  | _ :: _ :: L, 0, v => v :: mU :: L
  | .inr (.inl _) :: L, 1, v => mU :: mSt2 L 0 v
  | w :: L, n + 1, v => w :: mSt2 L n v
theorem mSt1_get : ∀ (L : List mV) (i : Nat) (v : mV) (j : Nat) (w : mV), (mSt1 L i v)[j]? = some w → w ≠ mU → (j = i ∧ w = v) ∨ (j ≠ i ∧ L[j]? = some w ∧ ¬ (j + 1 = i ∧ ∃ x, w = mJ x))
  | [], i, v, j, w, h, _ => by simp [mSt1] at h
  | u :: L, 0, v, j, w, h, hu => by
    cases j with
    | zero => simp [mSt1] at h; exact Or.inl ⟨rfl, h.symm⟩
    | succ j => simp [mSt1] at h; exact Or.inr ⟨by omega, by simpa using h, by omega⟩
  | u :: L, 1, v, j, w, h, hu => by
    rcases u with x | x | q
    · cases j with
      | zero => simp [mSt1] at h; exact Or.inr ⟨by omega, by simpa using h, fun ⟨_, y, e⟩ => by rw [e] at h; cases h⟩
      | succ j =>
        simp [mSt1] at h
        rcases mSt1_get L 0 v j w h hu with ⟨a, b⟩ | ⟨a, b, c⟩
        · exact Or.inl ⟨by omega, b⟩
        · exact Or.inr ⟨by omega, by simpa using b, by omega⟩
    · cases j with
      | zero => simp [mSt1] at h; exact absurd h.symm hu
      | succ j =>
        simp [mSt1] at h
        rcases mSt1_get L 0 v j w h hu with ⟨a, b⟩ | ⟨a, b, c⟩
        · exact Or.inl ⟨by omega, b⟩
        · exact Or.inr ⟨by omega, by simpa using b, by omega⟩
    · cases j with
      | zero => simp [mSt1] at h; exact Or.inr ⟨by omega, by simpa using h, fun ⟨_, y, e⟩ => by rw [e] at h; cases h⟩
      | succ j =>
        simp [mSt1] at h
        rcases mSt1_get L 0 v j w h hu with ⟨a, b⟩ | ⟨a, b, c⟩
        · exact Or.inl ⟨by omega, b⟩
        · exact Or.inr ⟨by omega, by simpa using b, by omega⟩
  | u :: L, n + 2, v, j, w, h, hu => by
    cases j with
    | zero => simp [mSt1] at h; exact Or.inr ⟨by omega, by simpa using h, by omega⟩
    | succ j =>
      simp [mSt1] at h
      rcases mSt1_get L (n + 1) v j w h hu with ⟨a, b⟩ | ⟨a, b, c⟩
      · exact Or.inl ⟨by omega, b⟩
      · exact Or.inr ⟨by omega, by simpa using b, fun ⟨e, z⟩ => c ⟨by omega, z⟩⟩
theorem mSt2_get : ∀ (L : List mV) (i : Nat) (v : mV) (j : Nat) (w : mV), (mSt2 L i v)[j]? = some w → w ≠ mU → (j = i ∧ w = v) ∨ (j ≠ i ∧ j ≠ i + 1 ∧ L[j]? = some w ∧ ¬ (j + 1 = i ∧ ∃ x, w = mJ x))
  | [], i, v, j, w, h, _ => by simp [mSt2] at h
  | [u], 0, v, j, w, h, hu => by
    cases j with
    | zero => simp [mSt2] at h; exact Or.inl ⟨rfl, h.symm⟩
    | succ j => simp [mSt2] at h
  | u :: u2 :: L, 0, v, j, w, h, hu => by
    match j with
    | 0 => simp [mSt2] at h; exact Or.inl ⟨rfl, h.symm⟩
    | 1 => simp [mSt2] at h; exact absurd h.symm hu
    | j + 2 => simp [mSt2] at h; exact Or.inr ⟨by omega, by omega, by simpa using h, by omega⟩
  | u :: L, 1, v, j, w, h, hu => by
    rcases u with x | x | q
    · cases j with
      | zero => simp [mSt2] at h; exact Or.inr ⟨by omega, by omega, by simpa using h, fun ⟨_, y, e⟩ => by rw [e] at h; cases h⟩
      | succ j =>
        simp [mSt2] at h
        rcases mSt2_get L 0 v j w h hu with ⟨a, b⟩ | ⟨a, a2, b, c⟩
        · exact Or.inl ⟨by omega, b⟩
        · exact Or.inr ⟨by omega, by omega, by simpa using b, by omega⟩
    · cases j with
      | zero => simp [mSt2] at h; exact absurd h.symm hu
      | succ j =>
        simp [mSt2] at h
        rcases mSt2_get L 0 v j w h hu with ⟨a, b⟩ | ⟨a, a2, b, c⟩
        · exact Or.inl ⟨by omega, b⟩
        · exact Or.inr ⟨by omega, by omega, by simpa using b, by omega⟩
    · cases j with
      | zero => simp [mSt2] at h; exact Or.inr ⟨by omega, by omega, by simpa using h, fun ⟨_, y, e⟩ => by rw [e] at h; cases h⟩
      | succ j =>
        simp [mSt2] at h
        rcases mSt2_get L 0 v j w h hu with ⟨a, b⟩ | ⟨a, a2, b, c⟩
        · exact Or.inl ⟨by omega, b⟩
        · exact Or.inr ⟨by omega, by omega, by simpa using b, by omega⟩
  | u :: L, n + 2, v, j, w, h, hu => by
    cases j with
    | zero => simp [mSt2] at h; exact Or.inr ⟨by omega, by omega, by simpa using h, by omega⟩
    | succ j =>
      simp [mSt2] at h
      rcases mSt2_get L (n + 1) v j w h hu with ⟨a, b⟩ | ⟨a, a2, b, c⟩
      · exact Or.inl ⟨by omega, b⟩
      · exact Or.inr ⟨by omega, by omega, by simpa using b, fun ⟨e, z⟩ => c ⟨by omega, z⟩⟩
theorem mIv_cat {ad : Nat → Int → Nat} {v : mV} (h : (mIv ad v).category = 2) : ∃ x, v = mJ x := by
  rcases v with x | x | q
  · simp [mIv, Value.category] at h
  · exact ⟨x, rfl⟩
  · simp [mIv, Value.category] at h
theorem mLs.st1 {ad : Nat → Int → Nat} {nL : Nat} {L : List mV} {ls : Array Slot} {i : Nat} {v : mV} {w : Value} (hw : w = mIv ad v) (h : lv_has ls nL ((i, w) :: (mLof ad L).filter (fun q => !(q.1 == i) && !(q.1 + 1 == i && q.2.category == 2)))) : mLs ad nL (mSt1 L i v) ls := by
  refine ⟨h.1, h.2.1, fun j u hj hu => ?_⟩
  rcases mSt1_get L i v j u hj hu with ⟨a, b⟩ | ⟨a, b, c⟩
  · rw [a, b, ← hw]
    exact h.2.2 (i, w) List.mem_cons_self
  · refine h.2.2 (j, mIv ad u) (List.mem_cons_of_mem _ (List.mem_filter.mpr ⟨mLof_mem.mpr ⟨u, b, hu, rfl⟩, ?_⟩))
    simp only [Bool.and_eq_true, Bool.not_eq_true', beq_eq_false_iff_ne, ne_eq, Bool.and_eq_false_iff]
    refine ⟨a, ?_⟩
    by_cases e : j + 1 = i
    · exact Or.inr fun z => c ⟨e, mIv_cat z⟩
    · exact Or.inl e
theorem mLs.st2 {ad : Nat → Int → Nat} {nL : Nat} {L : List mV} {ls : Array Slot} {i : Nat} {v : mV} {w : Value} (hw : w = mIv ad v) (h : lv_has ls nL ((i, w) :: (mLof ad L).filter (fun q => !(q.1 == i) && (!(q.1 == i + 1) && !(q.1 + 1 == i && q.2.category == 2))))) : mLs ad nL (mSt2 L i v) ls := by
  refine ⟨h.1, h.2.1, fun j u hj hu => ?_⟩
  rcases mSt2_get L i v j u hj hu with ⟨a, b⟩ | ⟨a, a2, b, c⟩
  · rw [a, b, ← hw]
    exact h.2.2 (i, w) List.mem_cons_self
  · refine h.2.2 (j, mIv ad u) (List.mem_cons_of_mem _ (List.mem_filter.mpr ⟨mLof_mem.mpr ⟨u, b, hu, rfl⟩, ?_⟩))
    simp only [Bool.and_eq_true, Bool.not_eq_true', beq_eq_false_iff_ne, ne_eq, Bool.and_eq_false_iff]
    refine ⟨a, a2, ?_⟩
    by_cases e : j + 1 = i
    · exact Or.inr fun z => c ⟨e, mIv_cat z⟩
    · exact Or.inl e
theorem mVs.of_get {ids : List (Nat × Int)} {l l2 : List mV} (h : mVs ids l) {v : mV} (hv : mVal ids v) (h2 : ∀ (j : Nat) (w : mV), l2[j]? = some w → w ≠ mU → w = v ∨ ∃ i : Nat, l[i]? = some w) : mVs ids l2 := by
  intro w hw
  obtain ⟨j, hj⟩ := List.getElem?_of_mem hw
  by_cases hu : w = mU
  · subst hu
    intro h1 _
    exact absurd h1 (by decide)
  · rcases h2 j w hj hu with e | ⟨i, hi⟩
    · exact e ▸ hv
    · exact h w (List.mem_of_getElem? hi)
theorem mVs.st1 {ids : List (Nat × Int)} {L : List mV} (h : mVs ids L) {v : mV} (hv : mVal ids v) (i : Nat) : mVs ids (mSt1 L i v) := h.of_get hv fun j w hj hu => (mSt1_get L i v j w hj hu).elim (fun z => Or.inl z.2) (fun z => Or.inr ⟨j, z.2.1⟩)
theorem mVs.st2 {ids : List (Nat × Int)} {L : List mV} (h : mVs ids L) {v : mV} (hv : mVal ids v) (i : Nat) : mVs ids (mSt2 L i v) := h.of_get hv fun j w hj hu => (mSt2_get L i v j w hj hu).elim (fun z => Or.inl z.2) (fun z => Or.inr ⟨j, z.2.2.1⟩)
end
section
/-! one row an instruction -/
/-- at pc stands this instruction, n bytes long; pc' is behind it -/
abbrev mDc (M : mMs) (pc : Nat) (ins : Instr) (n pc' : Nat) : Prop := decode M.2.1 pc = .ok (ins, n) ∧ pc + n = pc'
abbrev mDq (M : mMs) (q : Nat × Instr × Nat × Nat) : Prop := mDc M q.1 q.2.1 q.2.2.1 q.2.2.2
theorem dT {M : mMs} {tab : List (Nat × Instr × Nat × Nat)} (h : ∀ q ∈ tab, mDq M q) (i : Nat) {pc n pc' : Nat} {ins : Instr} (hq : tab[i]? = some (pc, ins, n, pc')) : mDc M pc ins n pc' := h (pc, ins, n, pc') (List.mem_of_getElem? hq)
section MMR
variable {F : mG → Prop} {M : mMs} {pc : Nat} {L st : List mV} {h : mH}
theorem mw_iconst {n : Int} {pc' : Nat} (hd : mDc M pc (.iconst n) 1 pc') (k : At F M pc' L (mI n :: st) h) : At F M pc L st h := by
  obtain ⟨hd, rfl⟩ := hd
  intro G hF V H locs ls hP hS hL v1 v2
  exact lv_iconst V.1.1 V.1.2.1 hd rfl (k G hF V H locs ls hP hS hL v1 (mVs.cons trivial v2))
theorem mw_bipush {n : Int} (hn : -128 ≤ n ∧ n ≤ 127) {pc' : Nat} (hd : mDc M pc (.bipush n) 2 pc') (k : At F M pc' L (mI n :: st) h) : At F M pc L st h := by
  obtain ⟨hd, rfl⟩ := hd
  intro G hF V H locs ls hP hS hL v1 v2
  exact lv_bipush V.1.1 V.1.2.1 hd (Int8.toInt32_ofInt hn.1 hn.2) (k G hF V H locs ls hP hS hL v1 (mVs.cons trivial v2))
theorem mw_sipush {n : Int} (hn : -32768 ≤ n ∧ n ≤ 32767) {pc' : Nat} (hd : mDc M pc (.sipush n) 3 pc') (k : At F M pc' L (mI n :: st) h) : At F M pc L st h := by
  obtain ⟨hd, rfl⟩ := hd
  intro G hF V H locs ls hP hS hL v1 v2
  exact lv_sipush V.1.1 V.1.2.1 hd (Int16.toInt32_ofInt hn.1 hn.2) (k G hF V H locs ls hP hS hL v1 (mVs.cons trivial v2))
theorem mw_lconst {n : Fin 2} {pc' : Nat} (hd : mDc M pc (.lconst n) 1 pc') (k : At F M pc' L (mJ (n.val : Int) :: st) h) : At F M pc L st h := by
  obtain ⟨hd, rfl⟩ := hd
  intro G hF V H locs ls hP hS hL v1 v2
  exact lv_lconst V.1.1 V.1.2.1 hd (Int64.ofInt_eq_ofNat (n := n.val)).symm (k G hF V H locs ls hP hS hL v1 (mVs.cons trivial v2))
theorem mw_ldc {i : Nat} {x : Int} (hw : Cond.constant M.1.cls i (Int32.ofInt x) ∈ mTbl) {pc' : Nat} (hd : mDc M pc (.ldc i) 2 pc') (k : At F M pc' L (mI x :: st) h) : At F M pc L st h := by
  obtain ⟨hd, rfl⟩ := hd
  intro G hF V H locs ls hP hS hL v1 v2
  exact lv_ldc V.1.1 V.1.2.1 V.1.2.2.2.1 (V.1.2.2.2.2 _ hw) hd (k G hF V H locs ls hP hS hL v1 (mVs.cons trivial v2))
theorem mw_ldcw {i : Nat} {x : Int} (hw : Cond.constant M.1.cls i (Int32.ofInt x) ∈ mTbl) {pc' : Nat} (hd : mDc M pc (.ldc_w i) 3 pc') (k : At F M pc' L (mI x :: st) h) : At F M pc L st h := by
  obtain ⟨hd, rfl⟩ := hd
  intro G hF V H locs ls hP hS hL v1 v2
  exact lv_ldcw V.1.1 V.1.2.1 V.1.2.2.2.1 (V.1.2.2.2.2 _ hw) hd (k G hF V H locs ls hP hS hL v1 (mVs.cons trivial v2))
theorem mw_ldc2 {i : Nat} {x : Int} (hw : Cond.constantLong M.1.cls i (Int64.ofInt x) ∈ mTbl) {pc' : Nat} (hd : mDc M pc (.ldc2_w i) 3 pc') (k : At F M pc' L (mJ x :: st) h) : At F M pc L st h := by
  obtain ⟨hd, rfl⟩ := hd
  intro G hF V H locs ls hP hS hL v1 v2
  exact lv_ldc2 V.1.1 V.1.2.1 V.1.2.2.2.1 (V.1.2.2.2.2 _ hw) hd (k G hF V H locs ls hP hS hL v1 (mVs.cons trivial v2))
theorem mw_iload_n {n : Fin 4} {x : Int} {pc' : Nat} (hd : mDc M pc (.iload_n n) 1 pc') (hv : L[n.val]? = some (mI x)) (k : At F M pc' L (mI x :: st) h) : At F M pc L st h := by
  obtain ⟨hd, rfl⟩ := hd
  intro G hF V H locs ls hP hS hL v1 v2
  exact lv_iload_n V.1.1 V.1.2.1 hd rfl (hL.get hv (by intro z; cases z)) (k G hF V H locs ls hP hS hL v1 (mVs.cons trivial v2))
theorem mw_iload {i : Nat} {x : Int} {pc' : Nat} (hd : mDc M pc (.iload i) 2 pc') (hv : L[i]? = some (mI x)) (k : At F M pc' L (mI x :: st) h) : At F M pc L st h := by
  obtain ⟨hd, rfl⟩ := hd
  intro G hF V H locs ls hP hS hL v1 v2
  exact lv_iload V.1.1 V.1.2.1 hd (hL.get hv (by intro z; cases z)) (k G hF V H locs ls hP hS hL v1 (mVs.cons trivial v2))
theorem mw_lload_n {n : Fin 4} {x : Int} {pc' : Nat} (hd : mDc M pc (.lload_n n) 1 pc') (hv : L[n.val]? = some (mJ x)) (k : At F M pc' L (mJ x :: st) h) : At F M pc L st h := by
  obtain ⟨hd, rfl⟩ := hd
  intro G hF V H locs ls hP hS hL v1 v2
  exact lv_lload_n V.1.1 V.1.2.1 hd rfl (hL.get hv (by intro z; cases z)) (k G hF V H locs ls hP hS hL v1 (mVs.cons trivial v2))
theorem mw_lload {i : Nat} {x : Int} {pc' : Nat} (hd : mDc M pc (.lload i) 2 pc') (hv : L[i]? = some (mJ x)) (k : At F M pc' L (mJ x :: st) h) : At F M pc L st h := by
  obtain ⟨hd, rfl⟩ := hd
  intro G hF V H locs ls hP hS hL v1 v2
  exact lv_lload V.1.1 V.1.2.1 hd (hL.get hv (by intro z; cases z)) (k G hF V H locs ls hP hS hL v1 (mVs.cons trivial v2))
theorem mw_aload_n {n : Fin 4} {r : Nat} {i : Int} {pc' : Nat} (hd : mDc M pc (.aload_n n) 1 pc') (hv : L[n.val]? = some (mR r i)) (hr : r ≠ 0) (k : At F M pc' L (mR r i :: st) h) : At F M pc L st h := by
  obtain ⟨hd, rfl⟩ := hd
  intro G hF V H locs ls hP hS hL v1 v2
  exact lv_aload_n V.1.1 V.1.2.1 hd rfl (hL.get hv (by intro z; cases z; exact hr rfl)) (k G hF V H locs ls hP hS hL v1 (mVs.cons (v1 _ (List.mem_of_getElem? hv)) v2))
theorem mw_aload {j r : Nat} {i : Int} {pc' : Nat} (hd : mDc M pc (.aload j) 2 pc') (hv : L[j]? = some (mR r i)) (hr : r ≠ 0) (k : At F M pc' L (mR r i :: st) h) : At F M pc L st h := by
  obtain ⟨hd, rfl⟩ := hd
  intro G hF V H locs ls hP hS hL v1 v2
  exact lv_aload V.1.1 V.1.2.1 hd (hL.get hv (by intro z; cases z; exact hr rfl)) (k G hF V H locs ls hP hS hL v1 (mVs.cons (v1 _ (List.mem_of_getElem? hv)) v2))
theorem mw_istore_n {n : Fin 4} {x : Int} {pc' : Nat} (hd : mDc M pc (.istore_n n) 1 pc') (hn : n.val < M.2.2.1) (k : At F M pc' (mSt1 L n.val (mI x)) st h) : At F M pc L (mI x :: st) h := by
  obtain ⟨hd, rfl⟩ := hd
  intro G hF V H locs ls hP hS hL v1 v2
  exact lv_istore_n V.1.1 V.1.2.1 hd rfl hL.has hn rfl (fun ls hl => k G hF V H locs ls hP hS (mLs.st1 rfl hl) (mVs.st1 (v := mI x) v1 trivial _) v2.tl)
theorem mw_istore {i : Nat} {x : Int} {pc' : Nat} (hd : mDc M pc (.istore i) 2 pc') (hn : i < M.2.2.1) (k : At F M pc' (mSt1 L i (mI x)) st h) : At F M pc L (mI x :: st) h := by
  obtain ⟨hd, rfl⟩ := hd
  intro G hF V H locs ls hP hS hL v1 v2
  exact lv_istore V.1.1 V.1.2.1 hd hL.has hn rfl (fun ls hl => k G hF V H locs ls hP hS (mLs.st1 rfl hl) (mVs.st1 (v := mI x) v1 trivial _) v2.tl)
theorem mw_lstore_n {n : Fin 4} {x : Int} {pc' : Nat} (hd : mDc M pc (.lstore_n n) 1 pc') (hn : n.val + 1 < M.2.2.1) (k : At F M pc' (mSt2 L n.val (mJ x)) st h) : At F M pc L (mJ x :: st) h := by
  obtain ⟨hd, rfl⟩ := hd
  intro G hF V H locs ls hP hS hL v1 v2
  exact lv_lstore_n V.1.1 V.1.2.1 hd rfl hL.has hn rfl (fun ls hl => k G hF V H locs ls hP hS (mLs.st2 rfl hl) (mVs.st2 (v := mJ x) v1 trivial _) v2.tl)
theorem mw_lstore {i : Nat} {x : Int} {pc' : Nat} (hd : mDc M pc (.lstore i) 2 pc') (hn : i + 1 < M.2.2.1) (k : At F M pc' (mSt2 L i (mJ x)) st h) : At F M pc L (mJ x :: st) h := by
  obtain ⟨hd, rfl⟩ := hd
  intro G hF V H locs ls hP hS hL v1 v2
  exact lv_lstore V.1.1 V.1.2.1 hd hL.has hn rfl (fun ls hl => k G hF V H locs ls hP hS (mLs.st2 rfl hl) (mVs.st2 (v := mJ x) v1 trivial _) v2.tl)
theorem mw_iinc {i : Nat} {n x : Int} {pc' : Nat} (hd : mDc M pc (.iinc i n) 3 pc') (hv : L[i]? = some (mI x)) (hn : i < M.2.2.1) (k : At F M pc' (mSt1 L i (mI (x + n))) st h) : At F M pc L st h := by
  obtain ⟨hd, rfl⟩ := hd
  intro G hF V H locs ls hP hS hL v1 v2
  obtain ⟨j, hj⟩ := List.getElem?_of_mem ((mLof_mem (ad := mGad G) (q := (i, .int (Int32.ofInt x)))).mpr ⟨mI x, hv, (by intro z; cases z), rfl⟩)
  exact lv_iinc V.1.1 V.1.2.1 hd hL.has hj (o32_add x n) hn rfl (fun ls hl => k G hF V H locs ls hP hS (mLs.st1 rfl hl) (mVs.st1 (v := mI (x + n)) v1 trivial _) v2)
theorem mw_iadd {x y : Int} {pc' : Nat} (hd : mDc M pc (.iadd) 1 pc') (k : At F M pc' L (mI (x + y) :: st) h) : At F M pc L (mI y :: mI x :: st) h := by
  obtain ⟨hd, rfl⟩ := hd
  intro G hF V H locs ls hP hS hL v1 v2
  have k := k G hF V H locs ls hP hS hL v1 (mVs.cons trivial v2.tl.tl)
  refine lv_iadd V.1.1 V.1.2.1 hd ?_
  rw [o32_add]
  exact k
theorem mw_isub {x y : Int} {pc' : Nat} (hd : mDc M pc (.isub) 1 pc') (k : At F M pc' L (mI (x - y) :: st) h) : At F M pc L (mI y :: mI x :: st) h := by
  obtain ⟨hd, rfl⟩ := hd
  intro G hF V H locs ls hP hS hL v1 v2
  have k := k G hF V H locs ls hP hS hL v1 (mVs.cons trivial v2.tl.tl)
  refine lv_isub V.1.1 V.1.2.1 hd ?_
  rw [o32_sub]
  exact k
theorem mw_imul {x y : Int} {pc' : Nat} (hd : mDc M pc (.imul) 1 pc') (k : At F M pc' L (mI (x * y) :: st) h) : At F M pc L (mI y :: mI x :: st) h := by
  obtain ⟨hd, rfl⟩ := hd
  intro G hF V H locs ls hP hS hL v1 v2
  have k := k G hF V H locs ls hP hS hL v1 (mVs.cons trivial v2.tl.tl)
  refine lv_imul V.1.1 V.1.2.1 hd ?_
  rw [o32_mul]
  exact k
theorem mw_ladd {x y : Int} {pc' : Nat} (hd : mDc M pc (.ladd) 1 pc') (k : At F M pc' L (mJ (x + y) :: st) h) : At F M pc L (mJ y :: mJ x :: st) h := by
  obtain ⟨hd, rfl⟩ := hd
  intro G hF V H locs ls hP hS hL v1 v2
  have k := k G hF V H locs ls hP hS hL v1 (mVs.cons trivial v2.tl.tl)
  refine lv_ladd V.1.1 V.1.2.1 hd ?_
  rw [o64_add]
  exact k
theorem mw_lsub {x y : Int} {pc' : Nat} (hd : mDc M pc (.lsub) 1 pc') (k : At F M pc' L (mJ (x - y) :: st) h) : At F M pc L (mJ y :: mJ x :: st) h := by
  obtain ⟨hd, rfl⟩ := hd
  intro G hF V H locs ls hP hS hL v1 v2
  have k := k G hF V H locs ls hP hS hL v1 (mVs.cons trivial v2.tl.tl)
  refine lv_lsub V.1.1 V.1.2.1 hd ?_
  rw [o64_sub]
  exact k
theorem mw_lmul {x y : Int} {pc' : Nat} (hd : mDc M pc (.lmul) 1 pc') (k : At F M pc' L (mJ (x * y) :: st) h) : At F M pc L (mJ y :: mJ x :: st) h := by
  obtain ⟨hd, rfl⟩ := hd
  intro G hF V H locs ls hP hS hL v1 v2
  have k := k G hF V H locs ls hP hS hL v1 (mVs.cons trivial v2.tl.tl)
  refine lv_lmul V.1.1 V.1.2.1 hd ?_
  rw [o64_mul]
  exact k
theorem mw_iand {x y : Int} {pc' : Nat} (hd : mDc M pc (.iand) 1 pc') (k : At F M pc' L (mI (mAnd x y) :: st) h) : At F M pc L (mI y :: mI x :: st) h := by
  obtain ⟨hd, rfl⟩ := hd
  intro G hF V H locs ls hP hS hL v1 v2
  have k := k G hF V H locs ls hP hS hL v1 (mVs.cons trivial v2.tl.tl)
  refine lv_iand V.1.1 V.1.2.1 hd ?_
  rw [← Int32.ofInt_toInt (Int32.ofInt x &&& Int32.ofInt y)]
  exact k
theorem mw_ior {x y : Int} {pc' : Nat} (hd : mDc M pc (.ior) 1 pc') (k : At F M pc' L (mI (mOr x y) :: st) h) : At F M pc L (mI y :: mI x :: st) h := by
  obtain ⟨hd, rfl⟩ := hd
  intro G hF V H locs ls hP hS hL v1 v2
  have k := k G hF V H locs ls hP hS hL v1 (mVs.cons trivial v2.tl.tl)
  refine lv_ior V.1.1 V.1.2.1 hd ?_
  rw [← Int32.ofInt_toInt (Int32.ofInt x ||| Int32.ofInt y)]
  exact k
theorem mw_ixor {x y : Int} {pc' : Nat} (hd : mDc M pc (.ixor) 1 pc') (k : At F M pc' L (mI (mXor x y) :: st) h) : At F M pc L (mI y :: mI x :: st) h := by
  obtain ⟨hd, rfl⟩ := hd
  intro G hF V H locs ls hP hS hL v1 v2
  have k := k G hF V H locs ls hP hS hL v1 (mVs.cons trivial v2.tl.tl)
  refine lv_ixor V.1.1 V.1.2.1 hd ?_
  rw [← Int32.ofInt_toInt (Int32.ofInt x ^^^ Int32.ofInt y)]
  exact k
theorem mw_ishl {x y : Int} {pc' : Nat} (hd : mDc M pc (.ishl) 1 pc') (k : At F M pc' L (mI (mShl x y) :: st) h) : At F M pc L (mI y :: mI x :: st) h := by
  obtain ⟨hd, rfl⟩ := hd
  intro G hF V H locs ls hP hS hL v1 v2
  have k := k G hF V H locs ls hP hS hL v1 (mVs.cons trivial v2.tl.tl)
  refine lv_ishl V.1.1 V.1.2.1 hd ?_
  rw [← Int32.ofInt_toInt (Int32.ofInt x <<< (Int32.ofInt y &&& 31))]
  exact k
theorem mw_ishr {x y : Int} {pc' : Nat} (hd : mDc M pc (.ishr) 1 pc') (k : At F M pc' L (mI (mShr x y) :: st) h) : At F M pc L (mI y :: mI x :: st) h := by
  obtain ⟨hd, rfl⟩ := hd
  intro G hF V H locs ls hP hS hL v1 v2
  have k := k G hF V H locs ls hP hS hL v1 (mVs.cons trivial v2.tl.tl)
  refine lv_ishr V.1.1 V.1.2.1 hd ?_
  rw [← Int32.ofInt_toInt (Int32.ofInt x >>> (Int32.ofInt y &&& 31))]
  exact k
theorem mw_land {x y : Int} {pc' : Nat} (hd : mDc M pc (.land) 1 pc') (k : At F M pc' L (mJ (mAndL x y) :: st) h) : At F M pc L (mJ y :: mJ x :: st) h := by
  obtain ⟨hd, rfl⟩ := hd
  intro G hF V H locs ls hP hS hL v1 v2
  have k := k G hF V H locs ls hP hS hL v1 (mVs.cons trivial v2.tl.tl)
  refine lv_land V.1.1 V.1.2.1 hd ?_
  rw [← Int64.ofInt_toInt (Int64.ofInt x &&& Int64.ofInt y)]
  exact k
theorem mw_lshr {x y : Int} {pc' : Nat} (hd : mDc M pc (.lshr) 1 pc') (k : At F M pc' L (mJ (mShrL x y) :: st) h) : At F M pc L (mI y :: mJ x :: st) h := by
  obtain ⟨hd, rfl⟩ := hd
  intro G hF V H locs ls hP hS hL v1 v2
  exact lv_lshr V.1.1 V.1.2.1 hd (Int64.ofInt_toInt _).symm (k G hF V H locs ls hP hS hL v1 (mVs.cons trivial v2.tl.tl))
theorem mw_lneg {x : Int} {pc' : Nat} (hd : mDc M pc (.lneg) 1 pc') (k : At F M pc' L (mJ (-x) :: st) h) : At F M pc L (mJ x :: st) h := by
  obtain ⟨hd, rfl⟩ := hd
  intro G hF V H locs ls hP hS hL v1 v2
  have k := k G hF V H locs ls hP hS hL v1 (mVs.cons trivial v2.tl)
  refine lv_lneg V.1.1 V.1.2.1 hd ?_
  rw [o64_neg]
  exact k
theorem mw_idiv {x y : Int} {pc' : Nat} (hd : mDc M pc (.idiv) 1 pc') (hc : mInR x ∧ mInR y ∧ y ≠ 0) (k : At F M pc' L (mI (x.tdiv y) :: st) h) : At F M pc L (mI y :: mI x :: st) h := by
  obtain ⟨hd, rfl⟩ := hd
  intro G hF V H locs ls hP hS hL v1 v2
  have k := k G hF V H locs ls hP hS hL v1 (mVs.cons trivial v2.tl.tl)
  refine lv_idiv V.1.1 V.1.2.1 hd (fun z => hc.2.2 ((o32_eq hc.2.1 (y := 0) (by decide)).mp z)) ?_
  rw [o32_div hc.1 hc.2.1]
  exact k
theorem mw_ldiv {x y : Int} {pc' : Nat} (hd : mDc M pc (.ldiv) 1 pc') (hc : mInL x ∧ mInL y ∧ y ≠ 0) (k : At F M pc' L (mJ (x.tdiv y) :: st) h) : At F M pc L (mJ y :: mJ x :: st) h := by
  obtain ⟨hd, rfl⟩ := hd
  intro G hF V H locs ls hP hS hL v1 v2
  have k := k G hF V H locs ls hP hS hL v1 (mVs.cons trivial v2.tl.tl)
  refine lv_ldiv V.1.1 V.1.2.1 hd (fun z => hc.2.2 ((o64_eq hc.2.1 (y := 0) (by decide)).mp z)) ?_
  rw [o64_div hc.1 hc.2.1]
  exact k
theorem mw_irem {x y : Int} {pc' : Nat} (hd : mDc M pc (.irem) 1 pc') (hc : mInR x ∧ mInR y ∧ y ≠ 0) (k : At F M pc' L (mI (x.tmod y) :: st) h) : At F M pc L (mI y :: mI x :: st) h := by
  obtain ⟨hd, rfl⟩ := hd
  intro G hF V H locs ls hP hS hL v1 v2
  have k := k G hF V H locs ls hP hS hL v1 (mVs.cons trivial v2.tl.tl)
  refine lv_irem V.1.1 V.1.2.1 hd (fun z => hc.2.2 ((o32_eq hc.2.1 (y := 0) (by decide)).mp z)) ?_
  rw [o32_div hc.1 hc.2.1, o32_mul, o32_sub, show x - x.tdiv y * y = x.tmod y from by rw [Int.tmod_def, Int.mul_comm]]
  exact k
theorem mw_lrem {x y : Int} {pc' : Nat} (hd : mDc M pc (.lrem) 1 pc') (hc : mInL x ∧ mInL y ∧ y ≠ 0) (k : At F M pc' L (mJ (x.tmod y) :: st) h) : At F M pc L (mJ y :: mJ x :: st) h := by
  obtain ⟨hd, rfl⟩ := hd
  intro G hF V H locs ls hP hS hL v1 v2
  have k := k G hF V H locs ls hP hS hL v1 (mVs.cons trivial v2.tl.tl)
  refine lv_lrem V.1.1 V.1.2.1 hd (fun z => hc.2.2 ((o64_eq hc.2.1 (y := 0) (by decide)).mp z)) ?_
  rw [o64_div hc.1 hc.2.1, o64_mul, o64_sub, show x - x.tdiv y * y = x.tmod y from by rw [Int.tmod_def, Int.mul_comm]]
  exact k
theorem mw_i2l {x : Int} {pc' : Nat} (hd : mDc M pc (.i2l) 1 pc') (hc : mInR x) (k : At F M pc' L (mJ x :: st) h) : At F M pc L (mI x :: st) h := by
  obtain ⟨hd, rfl⟩ := hd
  intro G hF V H locs ls hP hS hL v1 v2
  exact lv_i2l V.1.1 V.1.2.1 hd (o32_l hc) (k G hF V H locs ls hP hS hL v1 (mVs.cons trivial v2.tl))
theorem mw_l2i {x : Int} {pc' : Nat} (hd : mDc M pc (.l2i) 1 pc') (k : At F M pc' L (mI x :: st) h) : At F M pc L (mJ x :: st) h := by
  obtain ⟨hd, rfl⟩ := hd
  intro G hF V H locs ls hP hS hL v1 v2
  exact lv_l2i V.1.1 V.1.2.1 hd (o64_i x) (k G hF V H locs ls hP hS hL v1 (mVs.cons trivial v2.tl))
theorem mw_i2b {x : Int} {pc' : Nat} (hd : mDc M pc (.i2b) 1 pc') (k : At F M pc' L (mI (mI2b x) :: st) h) : At F M pc L (mI x :: st) h := by
  obtain ⟨hd, rfl⟩ := hd
  intro G hF V H locs ls hP hS hL v1 v2
  exact lv_i2b V.1.1 V.1.2.1 hd (Int32.ofInt_toInt _).symm (k G hF V H locs ls hP hS hL v1 (mVs.cons trivial v2.tl))
theorem mIv_c1 {ad : Nat → Int → Nat} {v : mV} (hc : ∀ x, v ≠ mJ x) : (mIv ad v).category = 1 := by
  rcases v with x | x | q
  · rfl
  · exact absurd rfl (hc x)
  · rfl
theorem mw_dup {v : mV} {pc' : Nat} (hd : mDc M pc (.dup) 1 pc') (hc : ∀ x, v ≠ mJ x) (k : At F M pc' L (v :: v :: st) h) : At F M pc L (v :: st) h := by
  obtain ⟨hd, rfl⟩ := hd
  intro G hF V H locs ls hP hS hL v1 v2
  exact lv_dup V.1.1 V.1.2.1 hd (mIv_c1 hc) (k G hF V H locs ls hP hS hL v1 (mVs.cons v2.hd v2))
theorem mw_pop {v : mV} {pc' : Nat} (hd : mDc M pc (.pop) 1 pc') (hc : ∀ x, v ≠ mJ x) (k : At F M pc' L st h) : At F M pc L (v :: st) h := by
  obtain ⟨hd, rfl⟩ := hd
  intro G hF V H locs ls hP hS hL v1 v2
  exact lv_pop V.1.1 V.1.2.1 hd (mIv_c1 hc) (k G hF V H locs ls hP hS hL v1 v2.tl)
theorem mw_dup2 {v u : mV} {pc' : Nat} (hd : mDc M pc (.dup2) 1 pc') (hc : ∀ x, v ≠ mJ x) (hc2 : ∀ x, u ≠ mJ x) (k : At F M pc' L (v :: u :: v :: u :: st) h) : At F M pc L (v :: u :: st) h := by
  obtain ⟨hd, rfl⟩ := hd
  intro G hF V H locs ls hP hS hL v1 v2
  exact lv_dup2_11 V.1.1 V.1.2.1 hd (mIv_c1 hc) (mIv_c1 hc2) (k G hF V H locs ls hP hS hL v1 (mVs.cons v2.hd (mVs.cons v2.tl.hd v2)))
theorem mw_dup_x1 {v u : mV} {pc' : Nat} (hd : mDc M pc (.dup_x1) 1 pc') (hc : ∀ x, v ≠ mJ x) (hc2 : ∀ x, u ≠ mJ x) (k : At F M pc' L (v :: u :: v :: st) h) : At F M pc L (v :: u :: st) h := by
  obtain ⟨hd, rfl⟩ := hd
  intro G hF V H locs ls hP hS hL v1 v2
  exact lv_dup_x1 V.1.1 V.1.2.1 hd (mIv_c1 hc) (mIv_c1 hc2) (k G hF V H locs ls hP hS hL v1 (mVs.cons v2.hd (mVs.cons v2.tl.hd (mVs.cons v2.hd v2.tl.tl))))
theorem mw_goto {off : Int} (tgt : Nat) {pc' : Nat} (hd : mDc M pc (.goto off) 3 pc') (ht : (pc : Int) + off = (tgt : Int)) (k : At F M tgt L st h) : At F M pc L st h := by
  obtain ⟨hd, rfl⟩ := hd
  intro G hF V H locs ls hP hS hL v1 v2
  exact lv_goto V.1.1 V.1.2.1 hd ht (k G hF V H locs ls hP hS hL v1 v2)
theorem mw_if_eq {x off : Int} (tgt : Nat) {pc' : Nat} (hd : mDc M pc (.ifCond .eq off) 3 pc') (ht : (pc : Int) + off = (tgt : Int)) (hc : mInR x) (kt : x = 0 → At F M tgt L st h) (kf : ¬ x = 0 → At F M pc' L st h) : At F M pc L (mI x :: st) h := by
  obtain ⟨hd, rfl⟩ := hd
  intro G hF V H locs ls hP hS hL v1 v2
  exact lv_if_eq V.1.1 V.1.2.1 hd ht (fun z => kt ((o32_eq hc (y := 0) (by decide)).mp z) G hF V H locs ls hP hS hL v1 v2.tl) (fun z => kf ((fun y9 => z ((o32_eq hc (y := 0) (by decide)).mpr y9))) G hF V H locs ls hP hS hL v1 v2.tl)
theorem mw_icmp_eq {x y off : Int} (tgt : Nat) {pc' : Nat} (hd : mDc M pc (.if_icmp .eq off) 3 pc') (ht : (pc : Int) + off = (tgt : Int)) (hc : mInR x ∧ mInR y) (kt : x = y → At F M tgt L st h) (kf : ¬ x = y → At F M pc' L st h) : At F M pc L (mI y :: mI x :: st) h := by
  obtain ⟨hd, rfl⟩ := hd
  intro G hF V H locs ls hP hS hL v1 v2
  exact lv_icmp_eq V.1.1 V.1.2.1 hd ht (fun z => kt ((o32_eq hc.1 hc.2).mp z) G hF V H locs ls hP hS hL v1 v2.tl.tl) (fun z => kf ((fun y9 => z ((o32_eq hc.1 hc.2).mpr y9))) G hF V H locs ls hP hS hL v1 v2.tl.tl)
theorem mw_if_ne {x off : Int} (tgt : Nat) {pc' : Nat} (hd : mDc M pc (.ifCond .ne off) 3 pc') (ht : (pc : Int) + off = (tgt : Int)) (hc : mInR x) (kt : ¬ x = 0 → At F M tgt L st h) (kf : x = 0 → At F M pc' L st h) : At F M pc L (mI x :: st) h := by
  obtain ⟨hd, rfl⟩ := hd
  intro G hF V H locs ls hP hS hL v1 v2
  exact lv_if_ne V.1.1 V.1.2.1 hd ht (fun z => kt ((fun y9 => z ((o32_eq hc (y := 0) (by decide)).mpr y9))) G hF V H locs ls hP hS hL v1 v2.tl) (fun z => kf ((o32_eq hc (y := 0) (by decide)).mp z) G hF V H locs ls hP hS hL v1 v2.tl)
theorem mw_icmp_ne {x y off : Int} (tgt : Nat) {pc' : Nat} (hd : mDc M pc (.if_icmp .ne off) 3 pc') (ht : (pc : Int) + off = (tgt : Int)) (hc : mInR x ∧ mInR y) (kt : ¬ x = y → At F M tgt L st h) (kf : x = y → At F M pc' L st h) : At F M pc L (mI y :: mI x :: st) h := by
  obtain ⟨hd, rfl⟩ := hd
  intro G hF V H locs ls hP hS hL v1 v2
  exact lv_icmp_ne V.1.1 V.1.2.1 hd ht (fun z => kt ((fun y9 => z ((o32_eq hc.1 hc.2).mpr y9))) G hF V H locs ls hP hS hL v1 v2.tl.tl) (fun z => kf ((o32_eq hc.1 hc.2).mp z) G hF V H locs ls hP hS hL v1 v2.tl.tl)
theorem mw_if_lt {x off : Int} (tgt : Nat) {pc' : Nat} (hd : mDc M pc (.ifCond .lt off) 3 pc') (ht : (pc : Int) + off = (tgt : Int)) (hc : mInR x) (kt : x < 0 → At F M tgt L st h) (kf : ¬ x < 0 → At F M pc' L st h) : At F M pc L (mI x :: st) h := by
  obtain ⟨hd, rfl⟩ := hd
  intro G hF V H locs ls hP hS hL v1 v2
  exact lv_if_lt V.1.1 V.1.2.1 hd ht (fun z => kt ((o32_lt hc (y := 0) (by decide)).mp z) G hF V H locs ls hP hS hL v1 v2.tl) (fun z => kf ((fun y9 => z ((o32_lt hc (y := 0) (by decide)).mpr y9))) G hF V H locs ls hP hS hL v1 v2.tl)
theorem mw_icmp_lt {x y off : Int} (tgt : Nat) {pc' : Nat} (hd : mDc M pc (.if_icmp .lt off) 3 pc') (ht : (pc : Int) + off = (tgt : Int)) (hc : mInR x ∧ mInR y) (kt : x < y → At F M tgt L st h) (kf : ¬ x < y → At F M pc' L st h) : At F M pc L (mI y :: mI x :: st) h := by
  obtain ⟨hd, rfl⟩ := hd
  intro G hF V H locs ls hP hS hL v1 v2
  exact lv_icmp_lt V.1.1 V.1.2.1 hd ht (fun z => kt ((o32_lt hc.1 hc.2).mp z) G hF V H locs ls hP hS hL v1 v2.tl.tl) (fun z => kf ((fun y9 => z ((o32_lt hc.1 hc.2).mpr y9))) G hF V H locs ls hP hS hL v1 v2.tl.tl)
theorem mw_if_ge {x off : Int} (tgt : Nat) {pc' : Nat} (hd : mDc M pc (.ifCond .ge off) 3 pc') (ht : (pc : Int) + off = (tgt : Int)) (hc : mInR x) (kt : 0 ≤ x → At F M tgt L st h) (kf : ¬ 0 ≤ x → At F M pc' L st h) : At F M pc L (mI x :: st) h := by
  obtain ⟨hd, rfl⟩ := hd
  intro G hF V H locs ls hP hS hL v1 v2
  exact lv_if_ge V.1.1 V.1.2.1 hd ht (fun z => kt ((o32_le (x := 0) (by decide) hc).mp z) G hF V H locs ls hP hS hL v1 v2.tl) (fun z => kf ((fun y9 => z ((o32_le (x := 0) (by decide) hc).mpr y9))) G hF V H locs ls hP hS hL v1 v2.tl)
theorem mw_icmp_ge {x y off : Int} (tgt : Nat) {pc' : Nat} (hd : mDc M pc (.if_icmp .ge off) 3 pc') (ht : (pc : Int) + off = (tgt : Int)) (hc : mInR x ∧ mInR y) (kt : y ≤ x → At F M tgt L st h) (kf : ¬ y ≤ x → At F M pc' L st h) : At F M pc L (mI y :: mI x :: st) h := by
  obtain ⟨hd, rfl⟩ := hd
  intro G hF V H locs ls hP hS hL v1 v2
  exact lv_icmp_ge V.1.1 V.1.2.1 hd ht (fun z => kt ((o32_le hc.2 hc.1).mp z) G hF V H locs ls hP hS hL v1 v2.tl.tl) (fun z => kf ((fun y9 => z ((o32_le hc.2 hc.1).mpr y9))) G hF V H locs ls hP hS hL v1 v2.tl.tl)
theorem mw_if_gt {x off : Int} (tgt : Nat) {pc' : Nat} (hd : mDc M pc (.ifCond .gt off) 3 pc') (ht : (pc : Int) + off = (tgt : Int)) (hc : mInR x) (kt : 0 < x → At F M tgt L st h) (kf : ¬ 0 < x → At F M pc' L st h) : At F M pc L (mI x :: st) h := by
  obtain ⟨hd, rfl⟩ := hd
  intro G hF V H locs ls hP hS hL v1 v2
  exact lv_if_gt V.1.1 V.1.2.1 hd ht (fun z => kt ((o32_lt (x := 0) (by decide) hc).mp z) G hF V H locs ls hP hS hL v1 v2.tl) (fun z => kf ((fun y9 => z ((o32_lt (x := 0) (by decide) hc).mpr y9))) G hF V H locs ls hP hS hL v1 v2.tl)
theorem mw_icmp_gt {x y off : Int} (tgt : Nat) {pc' : Nat} (hd : mDc M pc (.if_icmp .gt off) 3 pc') (ht : (pc : Int) + off = (tgt : Int)) (hc : mInR x ∧ mInR y) (kt : y < x → At F M tgt L st h) (kf : ¬ y < x → At F M pc' L st h) : At F M pc L (mI y :: mI x :: st) h := by
  obtain ⟨hd, rfl⟩ := hd
  intro G hF V H locs ls hP hS hL v1 v2
  exact lv_icmp_gt V.1.1 V.1.2.1 hd ht (fun z => kt ((o32_lt hc.2 hc.1).mp z) G hF V H locs ls hP hS hL v1 v2.tl.tl) (fun z => kf ((fun y9 => z ((o32_lt hc.2 hc.1).mpr y9))) G hF V H locs ls hP hS hL v1 v2.tl.tl)
theorem mw_if_le {x off : Int} (tgt : Nat) {pc' : Nat} (hd : mDc M pc (.ifCond .le off) 3 pc') (ht : (pc : Int) + off = (tgt : Int)) (hc : mInR x) (kt : x ≤ 0 → At F M tgt L st h) (kf : ¬ x ≤ 0 → At F M pc' L st h) : At F M pc L (mI x :: st) h := by
  obtain ⟨hd, rfl⟩ := hd
  intro G hF V H locs ls hP hS hL v1 v2
  exact lv_if_le V.1.1 V.1.2.1 hd ht (fun z => kt ((o32_le hc (y := 0) (by decide)).mp z) G hF V H locs ls hP hS hL v1 v2.tl) (fun z => kf ((fun y9 => z ((o32_le hc (y := 0) (by decide)).mpr y9))) G hF V H locs ls hP hS hL v1 v2.tl)
theorem mw_icmp_le {x y off : Int} (tgt : Nat) {pc' : Nat} (hd : mDc M pc (.if_icmp .le off) 3 pc') (ht : (pc : Int) + off = (tgt : Int)) (hc : mInR x ∧ mInR y) (kt : x ≤ y → At F M tgt L st h) (kf : ¬ x ≤ y → At F M pc' L st h) : At F M pc L (mI y :: mI x :: st) h := by
  obtain ⟨hd, rfl⟩ := hd
  intro G hF V H locs ls hP hS hL v1 v2
  exact lv_icmp_le V.1.1 V.1.2.1 hd ht (fun z => kt ((o32_le hc.1 hc.2).mp z) G hF V H locs ls hP hS hL v1 v2.tl.tl) (fun z => kf ((fun y9 => z ((o32_le hc.1 hc.2).mpr y9))) G hF V H locs ls hP hS hL v1 v2.tl.tl)
end MMR
end
section
/-! rows of the small machine: comparisons of longs, cells, ends, calls -/
section MMC
variable {F : mG → Prop} {M : mMs} {pc : Nat} {L st : List mV} {h : mH}
theorem mw_lif_lt {x y off : Int} {pc1 pc' : Nat} (tgt : Nat) (hd : mDc M pc (.lcmp) 1 pc1) (hd2 : mDc M pc1 (.ifCond .lt off) 3 pc') (ht : (pc1 : Int) + off = (tgt : Int)) (hc : mInL x ∧ mInL y) (kt : x < y → At F M tgt L st h) (kf : ¬ x < y → At F M pc' L st h) : At F M pc L (mJ y :: mJ x :: st) h := by
  obtain ⟨hd, rfl⟩ := hd
  obtain ⟨hd2, rfl⟩ := hd2
  intro G hF V H locs ls hP hS hL v1 v2
  exact W.lcmp V.1.1 V.1.2.1 hd (lv_if_lt V.1.1 V.1.2.1 hd2 ht (fun z => kt ((o64_lt hc.1 hc.2).mp ((lg_cmp_lt _ _).mp z)) G hF V H locs ls hP hS hL v1 v2.tl.tl) (fun z => kf (fun z2 => z ((lg_cmp_lt _ _).mpr ((o64_lt hc.1 hc.2).mpr z2))) G hF V H locs ls hP hS hL v1 v2.tl.tl))
theorem mw_lif_ge {x y off : Int} {pc1 pc' : Nat} (tgt : Nat) (hd : mDc M pc (.lcmp) 1 pc1) (hd2 : mDc M pc1 (.ifCond .ge off) 3 pc') (ht : (pc1 : Int) + off = (tgt : Int)) (hc : mInL x ∧ mInL y) (kt : y ≤ x → At F M tgt L st h) (kf : ¬ y ≤ x → At F M pc' L st h) : At F M pc L (mJ y :: mJ x :: st) h := by
  obtain ⟨hd, rfl⟩ := hd
  obtain ⟨hd2, rfl⟩ := hd2
  intro G hF V H locs ls hP hS hL v1 v2
  have e : Int64.ofInt y ≤ Int64.ofInt x ↔ y ≤ x := by rw [Int64.le_iff_toInt_le, o64 hc.1, o64 hc.2]
  exact W.lcmp V.1.1 V.1.2.1 hd (lv_if_ge V.1.1 V.1.2.1 hd2 ht (fun z => kt (e.mp ((lg_cmp_ge _ _).mp z)) G hF V H locs ls hP hS hL v1 v2.tl.tl) (fun z => kf (fun z2 => z ((lg_cmp_ge _ _).mpr (e.mpr z2))) G hF V H locs ls hP hS hL v1 v2.tl.tl))
theorem mw_lif_gt {x y off : Int} {pc1 pc' : Nat} (tgt : Nat) (hd : mDc M pc (.lcmp) 1 pc1) (hd2 : mDc M pc1 (.ifCond .gt off) 3 pc') (ht : (pc1 : Int) + off = (tgt : Int)) (hc : mInL x ∧ mInL y) (kt : y < x → At F M tgt L st h) (kf : ¬ y < x → At F M pc' L st h) : At F M pc L (mJ y :: mJ x :: st) h := by
  obtain ⟨hd, rfl⟩ := hd
  obtain ⟨hd2, rfl⟩ := hd2
  intro G hF V H locs ls hP hS hL v1 v2
  exact W.lcmp V.1.1 V.1.2.1 hd (lv_if_gt V.1.1 V.1.2.1 hd2 ht (fun z => kt ((o64_lt hc.2 hc.1).mp ((lg_cmp_gt _ _).mp z)) G hF V H locs ls hP hS hL v1 v2.tl.tl) (fun z => kf (fun z2 => z ((lg_cmp_gt _ _).mpr ((o64_lt hc.2 hc.1).mpr z2))) G hF V H locs ls hP hS hL v1 v2.tl.tl))
theorem mw_lif_le {x y off : Int} {pc1 pc' : Nat} (tgt : Nat) (hd : mDc M pc (.lcmp) 1 pc1) (hd2 : mDc M pc1 (.ifCond .le off) 3 pc') (ht : (pc1 : Int) + off = (tgt : Int)) (hc : mInL x ∧ mInL y) (kt : x ≤ y → At F M tgt L st h) (kf : ¬ x ≤ y → At F M pc' L st h) : At F M pc L (mJ y :: mJ x :: st) h := by
  obtain ⟨hd, rfl⟩ := hd
  obtain ⟨hd2, rfl⟩ := hd2
  intro G hF V H locs ls hP hS hL v1 v2
  have e : Int64.ofInt x ≤ Int64.ofInt y ↔ x ≤ y := by rw [Int64.le_iff_toInt_le, o64 hc.1, o64 hc.2]
  exact W.lcmp V.1.1 V.1.2.1 hd (lv_if_le V.1.1 V.1.2.1 hd2 ht (fun z => kt (e.mp ((lg_cmp_le _ _).mp z)) G hF V H locs ls hP hS hL v1 v2.tl.tl) (fun z => kf (fun z2 => z ((lg_cmp_le _ _).mpr (e.mpr z2))) G hF V H locs ls hP hS hL v1 v2.tl.tl))
theorem mw_lif_eq {x y off : Int} {pc1 pc' : Nat} (tgt : Nat) (hd : mDc M pc (.lcmp) 1 pc1) (hd2 : mDc M pc1 (.ifCond .eq off) 3 pc') (ht : (pc1 : Int) + off = (tgt : Int)) (hc : mInL x ∧ mInL y) (kt : x = y → At F M tgt L st h) (kf : ¬ x = y → At F M pc' L st h) : At F M pc L (mJ y :: mJ x :: st) h := by
  obtain ⟨hd, rfl⟩ := hd
  obtain ⟨hd2, rfl⟩ := hd2
  intro G hF V H locs ls hP hS hL v1 v2
  exact W.lcmp V.1.1 V.1.2.1 hd (lv_if_eq V.1.1 V.1.2.1 hd2 ht (fun z => kt ((o64_eq hc.1 hc.2).mp ((lg_cmp_eq _ _).mp z)) G hF V H locs ls hP hS hL v1 v2.tl.tl) (fun z => kf (fun z2 => z ((lg_cmp_eq _ _).mpr ((o64_eq hc.1 hc.2).mpr z2))) G hF V H locs ls hP hS hL v1 v2.tl.tl))
theorem mw_lif_ne {x y off : Int} {pc1 pc' : Nat} (tgt : Nat) (hd : mDc M pc (.lcmp) 1 pc1) (hd2 : mDc M pc1 (.ifCond .ne off) 3 pc') (ht : (pc1 : Int) + off = (tgt : Int)) (hc : mInL x ∧ mInL y) (kt : ¬ x = y → At F M tgt L st h) (kf : x = y → At F M pc' L st h) : At F M pc L (mJ y :: mJ x :: st) h := by
  obtain ⟨hd, rfl⟩ := hd
  obtain ⟨hd2, rfl⟩ := hd2
  intro G hF V H locs ls hP hS hL v1 v2
  exact W.lcmp V.1.1 V.1.2.1 hd (lv_if_ne V.1.1 V.1.2.1 hd2 ht (fun z => kt (fun z2 => z ((lg_cmp_eq _ _).mpr ((o64_eq hc.1 hc.2).mpr z2))) G hF V H locs ls hP hS hL v1 v2.tl.tl) (fun z => kf ((o64_eq hc.1 hc.2).mp ((lg_cmp_eq _ _).mp z)) G hF V H locs ls hP hS hL v1 v2.tl.tl))
theorem mw_tableIn {x : Int} {dflt lo hi off : Int} {offs : Array Int} {len : Nat} {pc' : Nat} (tgt : Nat) (hd : mDc M pc (.tableswitch dflt lo hi offs) len pc') (hx : mInR x) (h1 : lo ≤ x) (h2 : x ≤ hi) (ho : offs[(x - lo).toNat]? = some off) (ht : (pc : Int) + off = (tgt : Int)) (k : At F M tgt L st h) : At F M pc L (mI x :: st) h := by
  obtain ⟨hd, -⟩ := hd
  intro G hF V H locs ls hP hS hL v1 v2
  exact lv_tableIn V.1.1 V.1.2.1 hd (by rw [o32 hx]; omega) (by rw [o32 hx]; omega) (by rw [o32 hx]; exact ho) ht (k G hF V H locs ls hP hS hL v1 v2.tl)
theorem mw_tableOut {x : Int} {dflt lo hi : Int} {offs : Array Int} {len : Nat} {pc' : Nat} (tgt : Nat) (hd : mDc M pc (.tableswitch dflt lo hi offs) len pc') (hx : mInR x) (h1 : x < lo ∨ hi < x) (ht : (pc : Int) + dflt = (tgt : Int)) (k : At F M tgt L st h) : At F M pc L (mI x :: st) h := by
  obtain ⟨hd, -⟩ := hd
  intro G hF V H locs ls hP hS hL v1 v2
  exact lv_tableOut V.1.1 V.1.2.1 hd (by rw [o32 hx]; exact h1) ht (k G hF V H locs ls hP hS hL v1 v2.tl)
/-! the world -/
theorem mW_at {cA : Nat → ClassId} {ad : Nat → Int → Nat} {ids : List (Nat × Int)} {p : Nat} {q : Nat × Int} (hp : ids[p]? = some q) (h : mH) : (mW cA ad ids h)[p]? = some (ad q.1 q.2, mEnt cA ad h q) := by
  unfold mW
  rw [List.getElem?_map, hp]
  rfl
theorem mEnt_inr {cA : Nat → ClassId} {ad : Nat → Int → Nat} {h : mH} {r : Nat} {i : Int} {ci : Nat} {fs : List mFd} (ho : mT r = .inr (ci, fs)) : mEnt cA ad h (r, i) = .inr (ci, mFs ad h r i fs) := by
  unfold mEnt
  dsimp only
  rw [ho]
theorem mEnt_inl {cA : Nat → ClassId} {ad : Nat → Int → Nat} {h : mH} {r : Nat} {i : Int} {k n : Nat} (ho : mT r = .inl (k, n)) : mEnt cA ad h (r, i) = .inl (cA k, mRow ad h r i k n) := by
  unfold mEnt
  dsimp only
  rw [ho]
theorem mEnt_off {cA : Nat → ClassId} {ad : Nat → Int → Nat} {h h2 : mH} {q : Nat × Int} (e : ∀ k, h2 q.1 q.2 k = h q.1 q.2 k) : mEnt cA ad h2 q = mEnt cA ad h q := by
  have e : h2 q.1 q.2 = h q.1 q.2 := funext e
  unfold mEnt mFs mRow
  rw [e]
theorem mW_set {cA : Nat → ClassId} {ad : Nat → Int → Nat} {ids : List (Nat × Int)} {A : Nat → Prop} {p : Nat} {q : Nat × Int} (hp : ids[p]? = some q) {h h2 : mH} {e : va_E} (hD : va_D A (mW cA ad ids h)) (h1 : mEnt cA ad h2 q = e) (ho : ∀ q2 : Nat × Int, q2 ≠ q → ∀ k, h2 q2.1 q2.2 k = h q2.1 q2.2 k) : (mW cA ad ids h).set p (ad q.1 q.2, e) = mW cA ad ids h2 := by
  have hl : p < ids.length := (List.getElem?_eq_some_iff.mp hp).1
  apply List.ext_getElem?
  intro j
  by_cases hj : j = p
  · subst hj
    rw [List.getElem?_set_self (by unfold mW; rw [List.length_map]; exact hl), mW_at hp, h1]
  · rw [List.getElem?_set_ne (Ne.symm hj)]
    cases hjq : ids[j]? with
    | none =>
      unfold mW
      rw [List.getElem?_map, List.getElem?_map, hjq]
      rfl
    | some q2 =>
      rw [mW_at hjq, mW_at hjq]
      have hne : q2 ≠ q := fun z => hj (hD.1 j p _ _ (mW_at hjq h) (mW_at hp h) (by rw [z]))
      rw [mEnt_off (ho q2 hne)]
theorem mIds_at {ids : List (Nat × Int)} {q : Nat × Int} (h : q ∈ ids) : ∃ p : Nat, ids[p]? = some q := List.getElem?_of_mem h
/-- the tables' words of a number of vwCl -/
theorem mLay : ∀ (ci : Nat) (q : vw_C), vwCl[ci]? = some q → ∀ w ∈ u_ws q.1 q.2.1 q.2.2, w ∈ mTbl := by
  intro ci q hq
  have key : ∀ q ∈ vwCl, ∀ w ∈ u_ws q.1 q.2.1 q.2.2, w ∈ mTbl := by
    have h1 : ∀ q ∈ vwCl, ∀ w ∈ u_ws q.1 q.2.1 q.2.2, w ∈ lw_tbl ∧ goodWord w = true := by decide +kernel
    exact fun q hq w hw => List.mem_filter.mpr (h1 q hq w hw)
  exact key q (List.mem_of_getElem? hq)
theorem mNm : ∀ (ci : Nat) (q : vw_C), vwCl[ci]? = some q → ∀ a, a < q.2.2 → ∀ b, b < q.2.2 → a ≠ b → (q.2.1 a).2.1 ≠ (q.2.1 b).2.1 := by
  intro ci q hq
  have key : ∀ q ∈ vwCl, ∀ a, a < q.2.2 → ∀ b, b < q.2.2 → a ≠ b → (q.2.1 a).2.1 ≠ (q.2.1 b).2.1 := by
    simp only [vwCl, List.forall_mem_cons]
    exact ⟨nmX0, nmX1, nmX2, nmX3, nmX4, nmX5, nmX6, nmX7, fun _ h => absurd h List.not_mem_nil⟩
  exact key q (List.mem_of_getElem? hq)
theorem mTyk : ∀ (ci : Nat) (q : vw_C), vwCl[ci]? = some q → ∃ ty : Nat → FieldType, ∀ k, k < q.2.2 → parseFieldDescriptor (q.2.1 k).2.2.1 = some (ty k) := by
  intro ci q hq
  have key : ∀ q ∈ vwCl, ∃ ty : Nat → FieldType, ∀ k, k < q.2.2 → parseFieldDescriptor (q.2.1 k).2.2.1 = some (ty k) := by
    simp only [vwCl, List.forall_mem_cons]
    exact ⟨⟨_, tyX0_ok⟩, ⟨_, tyX1_ok⟩, ⟨_, tyX2_ok⟩, ⟨_, tyX3_ok⟩, ⟨_, tyX4_ok⟩, ⟨_, tyX5_ok⟩, ⟨_, tyX6_ok⟩, ⟨_, tyX7_ok⟩, fun _ h => absurd h List.not_mem_nil⟩
  exact key q (List.mem_of_getElem? hq)
end MMC
end
section
/-! rows of the small machine: fields and rows of numbers -/
/-- field k of the objects of role r, as the method's own names it: what it holds -/
def mFl (own : String) (idx r k : Nat) (d : mFd) : Prop := ∃ (ci : Nat) (fs : List mFd) (q : vw_C), mT r = .inr (ci, fs) ∧ (1 ≤ r ∧ r < 50) ∧ vwCl[ci]? = some q ∧ k < q.2.2 ∧ fs[k]? = some d ∧ Cond.fieldLink own idx (q.2.1 k).1 (q.2.1 k).2.1 (q.2.1 k).2.2.1 ∈ mTbl
/-- it can be written: a number of this type -/
def mFp (own : String) (idx r k : Nat) (ty : FieldType) : Prop := ∃ (ci : Nat) (fs : List mFd) (q : vw_C), mT r = .inr (ci, fs) ∧ (1 ≤ r ∧ r < 50) ∧ vwCl[ci]? = some q ∧ k < q.2.2 ∧ fs[k]? = some none ∧ Cond.fieldLink own idx (q.2.1 k).1 (q.2.1 k).2.1 (q.2.1 k).2.2.1 ∈ mTbl ∧ (q.2.1 k).2.2.2 = false ∧ parseFieldDescriptor (q.2.1 k).2.2.1 = some ty
/-- the rows of role r: their kind, their length -/
def mRo (r k : Nat) (n : Int) : Prop := ∃ m : Nat, mT r = .inl (k, m) ∧ (m : Int) = n ∧ (1 ≤ r ∧ r < 50) ∧ n < 2147483648
theorem mFs_get {ad : Nat → Int → Nat} {h : mH} {r : Nat} {i : Int} {fs : List mFd} {k : Nat} (hf : fs[k]? = some none) : (mFs ad h r i fs)[k]? = some (.int (Int32.ofInt (h r i (k : Int)))) := by
  unfold mFs
  rw [List.getElem?_mapIdx, hf]
  rfl
theorem mFs_getR {ad : Nat → Int → Nat} {h : mH} {r : Nat} {i : Int} {fs : List mFd} {k : Nat} {q : Nat × (Int → Int)} (hf : fs[k]? = some (some q)) : (mFs ad h r i fs)[k]? = some (.ref (ad q.1 (q.2 i))) := by
  unfold mFs
  rw [List.getElem?_mapIdx, hf]
  rfl
theorem mFs_len {ad : Nat → Int → Nat} {h : mH} {r : Nat} {i : Int} {fs : List mFd} : (mFs ad h r i fs).length = fs.length := by
  unfold mFs
  rw [List.length_mapIdx]
theorem mFs_set {ad : Nat → Int → Nat} {h : mH} {r : Nat} {i : Int} {fs : List mFd} {k : Nat} (hf : fs[k]? = some none) (v : Int) : (mFs ad h r i fs).set k (.int (Int32.ofInt v)) = mFs ad (mSet h r i (k : Int) v) r i fs := by
  have hl : k < fs.length := (List.getElem?_eq_some_iff.mp hf).1
  apply List.ext_getElem?
  intro j
  by_cases hj : j = k
  · subst hj
    rw [List.getElem?_set_self (by rw [mFs_len]; exact hl), mFs_get hf]
    simp [mSet]
  · rw [List.getElem?_set_ne (Ne.symm hj)]
    cases hjf : fs[j]? with
    | none =>
      unfold mFs
      rw [List.getElem?_mapIdx, List.getElem?_mapIdx, hjf]
      rfl
    | some d =>
      cases d with
      | none =>
        rw [mFs_get hjf, mFs_get hjf]
        have : ¬ (j : Int) = (k : Int) := by omega
        simp [mSet, this]
      | some q => rw [mFs_getR hjf, mFs_getR hjf]
theorem mSet_off {h : mH} {r : Nat} {i k v : Int} (q2 : Nat × Int) (hq : q2 ≠ (r, i)) (k2 : Int) : mSet h r i k v q2.1 q2.2 k2 = h q2.1 q2.2 k2 := by
  unfold mSet
  rw [if_neg]
  rintro ⟨a, b, -⟩
  exact hq (Prod.ext a b)
section MMH
variable {F : mG → Prop} {M : mMs} {pc : Nat} {L st : List mV} {h : mH}
theorem mw_getI {idx r k pc' : Nat} {i : Int} (hl : mFl M.1.cls idx r k none) (hd : mDc M pc (.getfield idx) 3 pc') (kk : At F M pc' L (mI (h r i (k : Int)) :: st) h) : At F M pc L (mR r i :: st) h := by
  obtain ⟨hd, rfl⟩ := hd
  intro G hF V H locs ls hP hS hL v1 v2
  obtain ⟨ci, fs, q, h1, h2, h3, h4, h5, h6⟩ := hl
  obtain ⟨p, hp⟩ := mIds_at (v2.hd h2.1 h2.2)
  have he := mW_at (cA := mGc G) (ad := mGad G) hp h
  rw [mEnt_inr h1] at he
  exact va_get V.1.1 V.1.2.1 V.1.2.2.2.2 (mLay ci q h3) V.1.2.2.2.1 V.2.2.1.1 hP p he h3 k h4 (V.1.2.2.2.2 _ h6) (fun _ z => z) (mFs_get h5) hd (kk G hF V H locs ls hP hS hL v1 (mVs.cons trivial v2.tl))
theorem mw_getR {idx r k pc' r' : Nat} {g : Int → Int} {i : Int} (hl : mFl M.1.cls idx r k (some (r', g))) (hd : mDc M pc (.getfield idx) 3 pc') (kk : At F M pc' L (mR r' (g i) :: st) h) : At F M pc L (mR r i :: st) h := by
  obtain ⟨hd, rfl⟩ := hd
  intro G hF V H locs ls hP hS hL v1 v2
  obtain ⟨ci, fs, q, h1, h2, h3, h4, h5, h6⟩ := hl
  have hm := v2.hd h2.1 h2.2
  obtain ⟨p, hp⟩ := mIds_at hm
  have he := mW_at (cA := mGc G) (ad := mGad G) hp h
  rw [mEnt_inr h1] at he
  exact va_get V.1.1 V.1.2.1 V.1.2.2.2.2 (mLay ci q h3) V.1.2.2.2.1 V.2.2.1.1 hP p he h3 k h4 (V.1.2.2.2.2 _ h6) (fun _ z => z) (mFs_getR h5) hd (kk G hF V H locs ls hP hS hL v1 (mVs.cons (v := mR r' (g i)) (fun _ _ => V.2.2.2.1.1 r i ci fs k (r', g) hm h1 h5) v2.tl))
theorem mw_put0 {idx r k pc' : Nat} {i x : Int} {ty : FieldType} (hl : mFp M.1.cls idx r k ty) (hn : narrow ty (.int (Int32.ofInt x)) = .int (Int32.ofInt x)) (hfit : fits ty (.int (Int32.ofInt x)) = true) (hd : mDc M pc (.putfield idx) 3 pc') (kk : At F M pc' L st (mSet h r i (k : Int) x)) : At F M pc L (mI x :: mR r i :: st) h := by
  obtain ⟨hd, rfl⟩ := hd
  intro G hF V H locs ls hP hS hL v1 v2
  obtain ⟨ci, fs, q, h1, h2, h3, h4, h5, h6, h7, h8⟩ := hl
  obtain ⟨p, hp⟩ := mIds_at (v2.tl.hd h2.1 h2.2)
  have he := mW_at (cA := mGc G) (ad := mGad G) hp h
  rw [mEnt_inr h1] at he
  obtain ⟨ty0, hty⟩ := mTyk ci q h3
  have hD := V.2.2.2.2.1 h
  refine va_put (v := .int (Int32.ofInt x)) V.1.1 V.1.2.1 V.1.2.2.2.2 (mLay ci q h3) ty0 hty (mNm ci q h3) V.1.2.2.2.1 V.2.2.1.1 hP hD hS p he h3 k h4 (V.1.2.2.2.2 _ h6) (fun _ z => z) h7 h8 hn hfit (by rw [mFs_len]; exact (List.getElem?_eq_some_iff.mp h5).1) hd (fun H1 locs1 hP1 hD1 hS1 => ?_)
  rw [mFs_set h5 x, mW_set hp hD (h2 := mSet h r i (k : Int) x) (mEnt_inr h1) (fun q2 hq2 k2 => mSet_off q2 hq2 k2)] at hP1
  exact kk G hF V H1 locs1 ls hP1 hS1 hL v1 v2.tl.tl
theorem mw_putI {idx r k pc' : Nat} {i x : Int} (hl : mFp M.1.cls idx r k .int) (hd : mDc M pc (.putfield idx) 3 pc') (kk : At F M pc' L st (mSet h r i (k : Int) x)) : At F M pc L (mI x :: mR r i :: st) h := mw_put0 hl rfl rfl hd kk
theorem mw_putZ {idx r k pc' : Nat} {i x : Int} (hl : mFp M.1.cls idx r k .boolean) (hd : mDc M pc (.putfield idx) 3 pc') (hc : x = 0 ∨ x = 1) (kk : At F M pc' L st (mSet h r i (k : Int) x)) : At F M pc L (mI x :: mR r i :: st) h :=
  mw_put0 hl (by rcases hc with rfl | rfl <;> decide) (by rcases hc with rfl | rfl <;> decide) hd kk
theorem mRow_i {ad : Nat → Int → Nat} {h : mH} {r : Nat} {i : Int} {k n : Nat} (hk : k ≠ 2 ∧ k ≠ 4) : mRow ad h r i k n = (n, .inl (fun j => Int32.ofInt (h r i (j : Int)))) := by
  unfold mRow
  match k, hk with
  | 0, _ => rfl
  | 1, _ => rfl
  | 2, hk => exact absurd rfl hk.1
  | 3, _ => rfl
  | 4, hk => exact absurd rfl hk.2
  | k + 5, _ => rfl
theorem mw_iaload {r pc' : Nat} {i x n : Int} (hr : mRo r 1 n) (hd : mDc M pc (.iaload) 1 pc') (hc : 0 ≤ x ∧ x < n) (kk : At F M pc' L (mI (h r i x) :: st) h) : At F M pc L (mI x :: mR r i :: st) h := by
  obtain ⟨hd, rfl⟩ := hd
  obtain ⟨m, h1, rfl, h2, h3⟩ := hr
  intro G hF V H locs ls hP hS hL v1 v2
  obtain ⟨p, hp⟩ := mIds_at (v2.tl.hd h2.1 h2.2)
  have he := mW_at (cA := mGc G) (ad := mGad G) hp h
  rw [mEnt_inl h1, mRow_i (by decide)] at he
  refine va_iald V.1.1 V.1.2.1 V.2.2.1.1 hP p 1 he rfl (o32_in hc.1 hc.2 (by omega)) hd ?_
  have e : ((Int32.ofInt x).toNatClampNeg : Int) = x := by rw [o32_clamp hc.1 (by omega)]; omega
  rw [e]
  exact kk G hF V H locs ls hP hS hL v1 (mVs.cons trivial v2.tl.tl)
theorem mw_laload {r pc' : Nat} {i x n : Int} (hr : mRo r 2 n) (hd : mDc M pc (.laload) 1 pc') (hc : 0 ≤ x ∧ x < n) (kk : At F M pc' L (mJ (h r i x) :: st) h) : At F M pc L (mI x :: mR r i :: st) h := by
  obtain ⟨hd, rfl⟩ := hd
  obtain ⟨m, h1, rfl, h2, h3⟩ := hr
  intro G hF V H locs ls hP hS hL v1 v2
  obtain ⟨p, hp⟩ := mIds_at (v2.tl.hd h2.1 h2.2)
  have he := mW_at (cA := mGc G) (ad := mGad G) hp h
  rw [mEnt_inl h1] at he
  refine va_lald V.1.1 V.1.2.1 V.2.2.1.1 hP p 2 he rfl (o32_in hc.1 hc.2 (by omega)) hd ?_
  have e : ((Int32.ofInt x).toNatClampNeg : Int) = x := by rw [o32_clamp hc.1 (by omega)]; omega
  rw [e]
  exact kk G hF V H locs ls hP hS hL v1 (mVs.cons trivial v2.tl.tl)
theorem mw_baload {r pc' : Nat} {i x n : Int} (hr : mRo r 0 n) (hd : mDc M pc (.baload) 1 pc') (hc : 0 ≤ x ∧ x < n) (kk : At F M pc' L (mI (h r i x) :: st) h) : At F M pc L (mI x :: mR r i :: st) h := by
  obtain ⟨hd, rfl⟩ := hd
  obtain ⟨m, h1, rfl, h2, h3⟩ := hr
  intro G hF V H locs ls hP hS hL v1 v2
  obtain ⟨p, hp⟩ := mIds_at (v2.tl.hd h2.1 h2.2)
  have he := mW_at (cA := mGc G) (ad := mGad G) hp h
  rw [mEnt_inl h1, mRow_i (by decide)] at he
  refine va_bald V.1.1 V.1.2.1 V.2.2.1.1 hP p 0 he rfl (o32_in hc.1 hc.2 (by omega)) hd ?_
  have e : ((Int32.ofInt x).toNatClampNeg : Int) = x := by rw [o32_clamp hc.1 (by omega)]; omega
  rw [e]
  exact kk G hF V H locs ls hP hS hL v1 (mVs.cons trivial v2.tl.tl)
theorem mw_zaload {r pc' : Nat} {i x n : Int} (hr : mRo r 3 n) (hd : mDc M pc (.baload) 1 pc') (hc : 0 ≤ x ∧ x < n) (kk : At F M pc' L (mI (h r i x) :: st) h) : At F M pc L (mI x :: mR r i :: st) h := by
  obtain ⟨hd, rfl⟩ := hd
  obtain ⟨m, h1, rfl, h2, h3⟩ := hr
  intro G hF V H locs ls hP hS hL v1 v2
  obtain ⟨p, hp⟩ := mIds_at (v2.tl.hd h2.1 h2.2)
  have he := mW_at (cA := mGc G) (ad := mGad G) hp h
  rw [mEnt_inl h1, mRow_i (by decide)] at he
  refine va_zald V.1.1 V.1.2.1 V.2.2.1.1 hP p 3 he rfl (o32_in hc.1 hc.2 (by omega)) hd ?_
  have e : ((Int32.ofInt x).toNatClampNeg : Int) = x := by rw [o32_clamp hc.1 (by omega)]; omega
  rw [e]
  exact kk G hF V H locs ls hP hS hL v1 (mVs.cons trivial v2.tl.tl)
theorem mw_aaload {r pc' : Nat} {i x n : Int} (hr : mRo r 4 n) (hd : mDc M pc (.aaload) 1 pc') (hc : 0 ≤ x ∧ x < n) (kk : At F M pc' L (mR 1 (4 + x) :: st) h) : At F M pc L (mI x :: mR r i :: st) h := by
  obtain ⟨hd, rfl⟩ := hd
  obtain ⟨m, h1, rfl, h2, h3⟩ := hr
  intro G hF V H locs ls hP hS hL v1 v2
  have hm := v2.tl.hd h2.1 h2.2
  obtain ⟨p, hp⟩ := mIds_at hm
  have he := mW_at (cA := mGc G) (ad := mGad G) hp h
  rw [mEnt_inl h1] at he
  refine va_aldq V.1.1 V.1.2.1 V.2.2.1.1 hP p 4 he rfl (o32_in hc.1 hc.2 (by omega)) hd ?_
  have e : ((Int32.ofInt x).toNatClampNeg : Int) = x := by rw [o32_clamp hc.1 (by omega)]; omega
  rw [e]
  exact kk G hF V H locs ls hP hS hL v1 (mVs.cons (v := mR 1 (4 + x)) (fun _ _ => V.2.2.2.1.2 r i m hm h1 x hc.1 hc.2) v2.tl.tl)
theorem mUpd_i {h : mH} {r : Nat} {i x v : Int} (h0 : 0 ≤ x) (h1 : x < 2147483648) : upd (fun j : Nat => Int32.ofInt (h r i (j : Int))) (Int32.ofInt x).toNatClampNeg (Int32.ofInt v) = fun j : Nat => Int32.ofInt (mSet h r i x v r i (j : Int)) := by
  funext j
  rw [o32_clamp h0 h1]
  unfold upd mSet
  by_cases e : j = x.toNat
  · rw [if_pos e, if_pos ⟨rfl, rfl, by omega⟩]
  · rw [if_neg e, if_neg (fun z => e (by have := z.2.2; omega))]
theorem mUpd_l {h : mH} {r : Nat} {i x v : Int} (h0 : 0 ≤ x) (h1 : x < 2147483648) : vp_updL (fun j : Nat => Int64.ofInt (h r i (j : Int))) (Int32.ofInt x).toNatClampNeg (Int64.ofInt v) = fun j : Nat => Int64.ofInt (mSet h r i x v r i (j : Int)) := by
  funext j
  rw [o32_clamp h0 h1]
  unfold vp_updL mSet
  by_cases e : j = x.toNat
  · rw [if_pos e, if_pos ⟨rfl, rfl, by omega⟩]
  · rw [if_neg e, if_neg (fun z => e (by have := z.2.2; omega))]
theorem mw_iastore {r pc' : Nat} {i x v n : Int} (hr : mRo r 1 n) (hd : mDc M pc (.iastore) 1 pc') (hc : 0 ≤ x ∧ x < n) (kk : At F M pc' L st (mSet h r i x v)) : At F M pc L (mI v :: mI x :: mR r i :: st) h := by
  obtain ⟨hd, rfl⟩ := hd
  obtain ⟨m, h1, rfl, h2, h3⟩ := hr
  intro G hF V H locs ls hP hS hL v1 v2
  obtain ⟨p, hp⟩ := mIds_at (v2.tl.tl.hd h2.1 h2.2)
  have he := mW_at (cA := mGc G) (ad := mGad G) hp h
  rw [mEnt_inl h1, mRow_i (by decide)] at he
  have hD := V.2.2.2.2.1 h
  refine va_iast V.1.1 V.1.2.1 V.2.2.1.1 hP hD hS p 1 he rfl (o32_in hc.1 hc.2 (by omega)) hd (fun H1 locs1 hP1 hD1 hS1 => ?_)
  rw [mUpd_i hc.1 (by omega), ← mRow_i (ad := mGad G) (k := 1) (by decide), mW_set hp hD (h2 := mSet h r i x v) (mEnt_inl h1) (fun q2 hq2 k2 => mSet_off q2 hq2 k2)] at hP1
  exact kk G hF V H1 locs1 ls hP1 hS1 hL v1 v2.tl.tl.tl
theorem mw_lastore {r pc' : Nat} {i x v n : Int} (hr : mRo r 2 n) (hd : mDc M pc (.lastore) 1 pc') (hc : 0 ≤ x ∧ x < n) (kk : At F M pc' L st (mSet h r i x v)) : At F M pc L (mJ v :: mI x :: mR r i :: st) h := by
  obtain ⟨hd, rfl⟩ := hd
  obtain ⟨m, h1, rfl, h2, h3⟩ := hr
  intro G hF V H locs ls hP hS hL v1 v2
  obtain ⟨p, hp⟩ := mIds_at (v2.tl.tl.hd h2.1 h2.2)
  have he := mW_at (cA := mGc G) (ad := mGad G) hp h
  rw [mEnt_inl h1] at he
  have hD := V.2.2.2.2.1 h
  refine va_last V.1.1 V.1.2.1 V.2.2.1.1 hP hD hS p 2 he rfl (o32_in hc.1 hc.2 (by omega)) hd (fun H1 locs1 hP1 hD1 hS1 => ?_)
  rw [mUpd_l hc.1 (by omega)] at hP1
  have hP1 : va_P (mGD G) vwCl ((mW (mGc G) (mGad G) (mGids G) h).set p (mGad G r i, Sum.inl (mGc G 2, mRow (mGad G) (mSet h r i x v) r i 2 m))) H1 := hP1
  rw [mW_set hp hD (h2 := mSet h r i x v) (mEnt_inl h1) (fun q2 hq2 k2 => mSet_off q2 hq2 k2)] at hP1
  exact kk G hF V H1 locs1 ls hP1 hS1 hL v1 v2.tl.tl.tl
theorem mw_bastore {r pc' : Nat} {i x v n : Int} (hr : mRo r 0 n) (hd : mDc M pc (.bastore) 1 pc') (hc : (0 ≤ x ∧ x < n) ∧ mI2b v = v) (kk : At F M pc' L st (mSet h r i x v)) : At F M pc L (mI v :: mI x :: mR r i :: st) h := by
  obtain ⟨hd, rfl⟩ := hd
  obtain ⟨m, h1, rfl, h2, h3⟩ := hr
  obtain ⟨hc, hb⟩ := hc
  have hb : vp_nar .byte (Int32.ofInt v) = Int32.ofInt v := by
    rw [vp_nar_byte]
    have := congrArg Int32.ofInt hb
    unfold mI2b at this
    rwa [Int32.ofInt_toInt] at this
  intro G hF V H locs ls hP hS hL v1 v2
  obtain ⟨p, hp⟩ := mIds_at (v2.tl.tl.hd h2.1 h2.2)
  have he := mW_at (cA := mGc G) (ad := mGad G) hp h
  rw [mEnt_inl h1, mRow_i (by decide)] at he
  have hD := V.2.2.2.2.1 h
  refine va_bast V.1.1 V.1.2.1 V.2.2.1.1 hP hD hS p 0 he rfl (o32_in hc.1 hc.2 (by omega)) hd (fun H1 locs1 hP1 hD1 hS1 => ?_)
  rw [hb, mUpd_i hc.1 (by omega), ← mRow_i (ad := mGad G) (k := 0) (by decide), mW_set hp hD (h2 := mSet h r i x v) (mEnt_inl h1) (fun q2 hq2 k2 => mSet_off q2 hq2 k2)] at hP1
  exact kk G hF V H1 locs1 ls hP1 hS1 hL v1 v2.tl.tl.tl
theorem mw_zastore {r pc' : Nat} {i x v n : Int} (hr : mRo r 3 n) (hd : mDc M pc (.bastore) 1 pc') (hc : (0 ≤ x ∧ x < n) ∧ (v = 0 ∨ v = 1)) (kk : At F M pc' L st (mSet h r i x v)) : At F M pc L (mI v :: mI x :: mR r i :: st) h := by
  obtain ⟨hd, rfl⟩ := hd
  obtain ⟨m, h1, rfl, h2, h3⟩ := hr
  obtain ⟨hc, hb⟩ := hc
  have hb : vp_nar .boolean (Int32.ofInt v) = Int32.ofInt v := by rcases hb with rfl | rfl <;> decide
  intro G hF V H locs ls hP hS hL v1 v2
  obtain ⟨p, hp⟩ := mIds_at (v2.tl.tl.hd h2.1 h2.2)
  have he := mW_at (cA := mGc G) (ad := mGad G) hp h
  rw [mEnt_inl h1, mRow_i (by decide)] at he
  have hD := V.2.2.2.2.1 h
  refine va_zast V.1.1 V.1.2.1 V.2.2.1.1 hP hD hS p 3 he rfl (o32_in hc.1 hc.2 (by omega)) hd (fun H1 locs1 hP1 hD1 hS1 => ?_)
  rw [hb, mUpd_i hc.1 (by omega), ← mRow_i (ad := mGad G) (k := 3) (by decide), mW_set hp hD (h2 := mSet h r i x v) (mEnt_inl h1) (fun q2 hq2 k2 => mSet_off q2 hq2 k2)] at hP1
  exact kk G hF V H1 locs1 ls hP1 hS1 hL v1 v2.tl.tl.tl
theorem mw_alen {r k pc' : Nat} {i n : Int} (hr : mRo r k n) (hk : k < 5) (hd : mDc M pc (.arraylength) 1 pc') (kk : At F M pc' L (mI n :: st) h) : At F M pc L (mR r i :: st) h := by
  obtain ⟨hd, rfl⟩ := hd
  obtain ⟨m, h1, rfl, h2, h3⟩ := hr
  intro G hF V H locs ls hP hS hL v1 v2
  obtain ⟨p, hp⟩ := mIds_at (v2.hd h2.1 h2.2)
  have he := mW_at (cA := mGc G) (ad := mGad G) hp h
  rw [mEnt_inl h1] at he
  have hm : (mRow (mGad G) h r i k m).1 = m := by unfold mRow; split <;> rfl
  have ht : ∃ ty, (mTys (mGc G))[k]? = some (mGc G k, ty) := by
    match k, hk with
    | 0, _ => exact ⟨_, rfl⟩
    | 1, _ => exact ⟨_, rfl⟩
    | 2, _ => exact ⟨_, rfl⟩
    | 3, _ => exact ⟨_, rfl⟩
    | 4, _ => exact ⟨_, rfl⟩
  obtain ⟨ty, ht⟩ := ht
  exact va_alen V.1.1 V.1.2.1 V.2.2.1.1 hP p k he ht (v := Int32.ofInt m) (by rw [hm]; exact Int32.ofInt_eq_ofNat.symm) hd (kk G hF V H locs ls hP hS hL v1 (mVs.cons trivial v2.tl))
end MMH
end
section
/-! rows of the small machine: a method's entry and its ends; calls -/
theorem mD_any {cA : Nat → ClassId} {ad : Nat → Int → Nat} {ids : List (Nat × Int)} {A : Nat → Prop} {h : mH} (hD : va_D A (mW cA ad ids h)) (h2 : mH) : va_D A (mW cA ad ids h2) := by
  have key : ∀ (k : Nat) (q : Nat × va_E), (mW cA ad ids h2)[k]? = some q → ∃ q0 : Nat × va_E, (mW cA ad ids h)[k]? = some q0 ∧ q0.1 = q.1 := by
    intro k q hk
    cases hi : ids[k]? with
    | none =>
      unfold mW at hk
      rw [List.getElem?_map, hi] at hk
      cases hk
    | some z =>
      rw [mW_at hi] at hk
      cases hk
      exact ⟨_, mW_at hi h, rfl⟩
  refine ⟨fun i j x y hi hj hxy => ?_, fun k q hk => ?_⟩
  · obtain ⟨x0, h1, e1⟩ := key i x hi
    obtain ⟨y0, h3, e3⟩ := key j y hj
    exact hD.1 i j x0 y0 h1 h3 (e1.trans (hxy.trans e3.symm))
  · obtain ⟨q0, h1, e1⟩ := key k q hk
    rw [← e1]
    exact hD.2 k q0 h1
theorem mEl_args (ad : Nat → Int → Nat) : ∀ (as : List mV) (n i : Nat) (v : mV), (mEl as)[i]? = some v → v ≠ mU → (n + i, mIv ad v) ∈ lv_args n (as.map (mIv ad))
  | [], n, i, v, h, _ => by simp [mEl] at h
  | .inl x :: l, n, i, v, h, hu => by
    cases i with
    | zero =>
      simp [mEl] at h
      subst h
      exact List.mem_cons_self
    | succ i =>
      simp [mEl] at h
      have := mEl_args ad l (n + 1) i v h hu
      rw [show n + (i + 1) = n + 1 + i by omega]
      exact List.mem_cons_of_mem _ this
  | .inr (.inl x) :: l, n, i, v, h, hu => by
    match i with
    | 0 =>
      simp [mEl] at h
      subst h
      exact List.mem_cons_self
    | 1 =>
      simp [mEl] at h
      exact absurd h.symm hu
    | i + 2 =>
      simp [mEl] at h
      have := mEl_args ad l (n + 2) i v h hu
      rw [show n + (i + 2) = n + 2 + i by omega]
      exact List.mem_cons_of_mem _ this
  | .inr (.inr q) :: l, n, i, v, h, hu => by
    cases i with
    | zero =>
      simp [mEl] at h
      subst h
      exact List.mem_cons_self
    | succ i =>
      simp [mEl] at h
      have := mEl_args ad l (n + 1) i v h hu
      rw [show n + (i + 1) = n + 1 + i by omega]
      exact List.mem_cons_of_mem _ this
theorem mEl_len (ad : Nat → Int → Nat) : ∀ as : List mV, (lg_sl (as.map (mIv ad))).length = (mEl as).length
  | [] => rfl
  | .inl x :: l => by
    show ([Slot.val (.int (Int32.ofInt x))] ++ lg_sl (l.map (mIv ad))).length = (mI x :: mEl l).length
    rw [List.length_append, mEl_len ad l, List.length_cons, List.length_cons, List.length_nil]
    omega
  | .inr (.inl x) :: l => by
    show ([Slot.val (.long (Int64.ofInt x)), Slot.second] ++ lg_sl (l.map (mIv ad))).length = (mJ x :: mU :: mEl l).length
    rw [List.length_append, mEl_len ad l]
    simp only [List.length_cons, List.length_nil]
    omega
  | .inr (.inr q) :: l => by
    show ([Slot.val (.ref (ad q.1 q.2))] ++ lg_sl (l.map (mIv ad))).length = (mR q.1 q.2 :: mEl l).length
    rw [List.length_append, mEl_len ad l, List.length_cons, List.length_cons, List.length_nil]
    omega
theorem mVs.el {ids : List (Nat × Int)} : ∀ {as : List mV}, mVs ids as → mVs ids (mEl as)
  | [], _ => fun _ h => by cases h
  | .inl x :: l, h => mVs.cons trivial (mVs.el h.tl)
  | .inr (.inl x) :: l, h => mVs.cons (v := mJ x) trivial (mVs.cons (v := mU) (fun z => absurd z (by decide)) (mVs.el h.tl))
  | .inr (.inr q) :: l, h => mVs.cons h.hd (mVs.el h.tl)
/-- a method's contract out of a walk from its entry -/
theorem Ok.of {M : mMs} {as : List mV} {h : mH} {K : Option mV → mH → Prop} (hp : plainFor M.1 = true) {n : Nat} (hn : (mEl as).length + n = M.2.2.1) (hat : At (mPost K) M 0 (mEl as ++ List.replicate n mU) [] h) : Ok M as h K := by
  intro l D cA ad ids sz hC hv
  refine va_MetF (cc := M.2.1) (maxL := M.2.2.1) (ret := M.2.2.2.1) (ws' := mTbl) hp rfl ?_
  intro p e s m args below meth c s₁ B hml hv'
  obtain ⟨rfl, hsz, hP, hD0, hFx⟩ := hv'
  subst hsz
  have hts := atoms_spec (ws := mWs M) B.pre
  have hD := hD0.self (sz := s.heap.size)
  have hl := lv_entry (as.map (mIv ad)) (n := M.2.2.1) (by rw [mEl_len]; omega)
  rw [lg_entry_eq]
  generalize (lg_sl (as.map (mIv ad)) ++ List.replicate (M.2.2.1 - (lg_sl (as.map (mIv ad))).length) Slot.unset).toArray = ls at hl ⊢
  refine hat ((p, l, e, (headSpec (mWs M) (mRoom M.2.2.2.2)).room, s), (m, (as.map (mIv ad)).toArray, below, meth, c), (D, cA, ad, ids), (va_A (mW cA ad ids h) s.heap.size, 0, 0, MQ below (mQ D cA ad ids K (va_A (mW cA ad ids h) s.heap.size)) (as.map (mIv ad)).toArray s 0 0 (va_A (mW cA ad ids h) s.heap.size)))
    ⟨rfl, rfl, rfl⟩ ⟨⟨B.exec, B.bytes, hml, findClass_of_methodNamed B.named, fun w hw => hts w (List.mem_cons_of_mem _ hw)⟩, ⟨B.returns, B.notSynchronized⟩, hFx, hC, fun h2 => mD_any hD h2, fun q hq => Or.inr hq, ⟨Nat.le_refl _, Nat.le_refl _, Nat.zero_le _, Nat.zero_le _⟩⟩
    s.heap [] ls hP va_S.rf ⟨hl.1, hl.2.1, fun i v hi hu => ?_⟩ (fun w hw => ?_) (fun _ z => by cases z)
  · by_cases hlt : i < (mEl as).length
    · rw [List.getElem?_append_left hlt] at hi
      have := hl.2.2 _ (mEl_args ad as 0 i v hi hu)
      simpa using this
    · rw [List.getElem?_append_right (by omega)] at hi
      exact absurd (List.eq_of_mem_replicate (List.mem_of_getElem? hi)) hu
  · rcases List.mem_append.mp hw with z | z
    · exact hv.el w z
    · rw [List.eq_of_mem_replicate z]
      exact fun z => absurd z (by decide)
theorem Ok.mono {M : mMs} {as : List mV} {h : mH} {K K2 : Option mV → mH → Prop} (hk : Ok M as h K) (hkk : ∀ r h, K r h → K2 r h) : Ok M as h K2 := by
  intro l D cA ad ids sz hC hv p e ha hc hk' s m args below hf happ hP hK
  obtain ⟨t, o, h1, h2, h3, ⟨r, h', e1, e2, e3⟩, e4⟩ := hk l D cA ad ids sz hC hv p e ha hc hk' s m args below hf happ hP hK
  exact ⟨t, o, h1, h2, h3, ⟨r, h', e1, hkk r h' e2, e3⟩, e4⟩
section MME
variable {M : mMs} {pc : Nat} {L : List mV} {h : mH} {K : Option mV → mH → Prop}
theorem mw_iret {x : Int} {pc' : Nat} (hr : M.2.2.2.1 = some .int) (hd : mDc M pc (.ireturn) 1 pc') (k : K (some (mI x)) h) : At (mPost K) M pc L [mI x] h := by
  obtain ⟨hd, rfl⟩ := hd
  rintro G ⟨hQ, hc, hs⟩ V H locs ls hP hS hL v1 v2
  have hlocks : G.2.1.2.2.2.1.locks = false := V.2.1.2
  show W _ _ _ _ _ _ _ _ _ _ _ _ _ _ _ _
  rw [hQ, hc, hs]
  exact W.iret V.1.1 V.1.2.1 (V.2.1.1.trans hr) (fun t ht hW => ⟨some (mI x), h, rfl, k, (fun v e => by cases e; trivial), by rw [ht]; exact hP, hS.F ht⟩) hS.2.2 hd hlocks
theorem mw_zret {x : Int} {pc' : Nat} (hr : M.2.2.2.1 = some .boolean) (hd : mDc M pc (.ireturn) 1 pc') (hx : x = 0 ∨ x = 1) (k : K (some (mI x)) h) : At (mPost K) M pc L [mI x] h := by
  obtain ⟨hd, rfl⟩ := hd
  rintro G ⟨hQ, hc, hs⟩ V H locs ls hP hS hL v1 v2
  have hlocks : G.2.1.2.2.2.1.locks = false := V.2.1.2
  show W _ _ _ _ _ _ _ _ _ _ _ _ _ _ _ _
  rw [hQ, hc, hs]
  exact W.zret V.1.1 V.1.2.1 (V.2.1.1.trans hr) (by rcases hx with rfl | rfl <;> decide) (fun t ht hW => ⟨some (mI x), h, rfl, k, (fun v e => by cases e; trivial), by rw [ht]; exact hP, hS.F ht⟩) hS.2.2 hd hlocks
theorem mw_lret {x : Int} {pc' : Nat} (hr : M.2.2.2.1 = some .long) (hd : mDc M pc (.lreturn) 1 pc') (k : K (some (mJ x)) h) : At (mPost K) M pc L [mJ x] h := by
  obtain ⟨hd, rfl⟩ := hd
  rintro G ⟨hQ, hc, hs⟩ V H locs ls hP hS hL v1 v2
  have hlocks : G.2.1.2.2.2.1.locks = false := V.2.1.2
  show W _ _ _ _ _ _ _ _ _ _ _ _ _ _ _ _
  rw [hQ, hc, hs]
  exact W.lret V.1.1 V.1.2.1 (V.2.1.1.trans hr) (fun t ht hW => ⟨some (mJ x), h, rfl, k, (fun v e => by cases e; trivial), by rw [ht]; exact hP, hS.F ht⟩) hS.2.2 hd hlocks
theorem mw_vret {pc' : Nat} (hr : M.2.2.2.1 = none) (hd : mDc M pc (.return_) 1 pc') (k : K none h) : At (mPost K) M pc L [] h := by
  obtain ⟨hd, rfl⟩ := hd
  rintro G ⟨hQ, hc, hs⟩ V H locs ls hP hS hL v1 v2
  have hlocks : G.2.1.2.2.2.1.locks = false := V.2.1.2
  show W _ _ _ _ _ _ _ _ _ _ _ _ _ _ _ _
  rw [hQ, hc, hs]
  exact W.vret V.1.1 V.1.2.1 (V.2.1.1.trans hr) (fun t ht hW => ⟨none, h, rfl, k, (fun v e => by cases e), by rw [ht]; exact hP, hS.F ht⟩) hS.2.2 hd hlocks
end MME
def mCat : List mV → Nat
  | [] => 0
  | .inr (.inl _) :: l => 2 + mCat l
  | _ :: l => 1 + mCat l
theorem mCat_sum (ad : Nat → Int → Nat) : ∀ l : List mV, ((l.map (mIv ad)).map fun v => v.category).sum = mCat l
  | [] => rfl
  | .inl x :: l => by rw [List.map_cons, List.map_cons, List.sum_cons, mCat_sum ad l]; rfl
  | .inr (.inl x) :: l => by rw [List.map_cons, List.map_cons, List.sum_cons, mCat_sum ad l]; rfl
  | .inr (.inr q) :: l => by rw [List.map_cons, List.map_cons, List.sum_cons, mCat_sum ad l]; rfl
theorem mFree {G : mG} {M : mMs} (V : mOk G M) {h : mH} {H : Heap} {locs : List Loc} (hS : va_S (mGA G) (mGs G).heap H locs) : ∀ q, va_A (mW (mGc G) (mGad G) (mGids G) h) H.size q → mGA G q := by
  rintro q (⟨k, e, z⟩ | z)
  · exact (V.2.2.2.2.1 h).2 k (q, e) z
  · exact V.2.2.2.2.2.1 q (Nat.le_trans hS.1 z)
theorem mFx_at {G : mG} {M : mMs} (V : mOk G M) {h : mH} {H : Heap} {locs : List Loc} (hP : va_P (mGD G) vwCl (mW (mGc G) (mGad G) (mGids G) h) H) (hS : va_S (mGA G) (mGs G).heap H locs) {U : State} (hU : U.heap = H) (hW : (mGs G).WarmedH U.vm) : mPre (mGD G) (mGc G) (mGad G) (mGids G) H.size h U := by
  obtain ⟨f1, f2, f3⟩ := V.2.2.1
  refine ⟨by rw [hU], by rw [hU]; exact hP, (V.2.2.2.2.1 h).weaken (fun _ _ _ _ => trivial), f1.moved hW.alike, f2.warm hW, ?_⟩
  rw [hU]
  exact ((f3.kept hS.2.1).narrow (mFree V hS)).warm hW
theorem mBlind {av : List Value} {D : va_G} {cA : Nat → ClassId} {ad : Nat → Int → Nat} {ids : List (Nat × Int)} {sz : Nat} {h : mH} : FrameBlind (va_Pc av (mPre D cA ad ids sz h)) := by
  rintro a U g mk ⟨q0, q1, qP, qD, qK, qN, qS⟩
  exact ⟨q0, q1, qP, qD, qK.moved (u := U) (U := U.calling g mk a) (Vm.Alike.refl U.vm), qN.same rfl, qS.same rfl⟩
section MMF
variable {F : mG → Prop} {M : mMs} {pc : Nat} {L st : List mV} {h : mH}
theorem mRun_go {G : mG} (hF : F G) (V : mOk G M) {K : Option mV → mH → Prop} {a : Array Value} {H : Heap} {locs : List Loc} {ls : Array Slot} {st0 : List Value}
    (hr : va_Run G.1.1 G.1.2.1 G.1.2.2.1 G.1.2.2.2.1 (mGs G) G.2.1.1 G.2.1.2.1 G.2.1.2.2.1 G.2.1.2.2.2.1 G.2.1.2.2.2.2 H locs G.2.2.2.2.1 G.2.2.2.2.2.1 0 0 (F0 G.2.1.1 pc ls st0) (st.map (mIv (mGad G))) (mQ (mGD G) (mGc G) (mGad G) (mGids G) K (va_A (mW (mGc G) (mGad G) (mGids G) h) H.size) a) (va_A (mW (mGc G) (mGad G) (mGids G) h) H.size))
    (hS : va_S (mGA G) (mGs G).heap H locs) (hL : mLs (mGad G) M.2.2.1 L ls) (v1 : mVs (mGids G) L) (v2 : mVs (mGids G) st)
    (k : ∀ r h2, K r h2 → At F M (pc + 3) L (r.toList ++ st) h2) : mGW G H locs (F0 G.2.1.1 pc ls st0) := by
  intro T hT X
  obtain ⟨v, s0, t, T', L', h0, X', hL', e1, e2, ⟨r, h2, hv, hK, hvo, hP', hF'⟩, go⟩ := hr T hT X
  have hv : v = r.map (mIv (mGad G)) := by injection hv
  subst hv
  have hfr := mFree (h := h) V hS
  have hsz : H.size ≤ t.heap.size := by rw [← h0]; exact hF'.1
  have hS' : va_S (mGA G) (mGs G).heap T'.heap (locs ++ L') := by
    refine ⟨by rw [e1]; exact Nat.le_trans hS.1 hsz, fun q h1 h3 => ?_, fun q hq => ?_⟩
    · rw [e1, hF'.2 q (by rw [h0]; exact Nat.lt_of_lt_of_le h1 hS.1) (fun z => h3 (hfr q z)), h0]
      exact hS.2.1 q h1 h3
    · rcases List.mem_append.mp hq with z | z
      · exact hS.2.2 q z
      · exact hfr _ (hL' q z)
  have kk := k r h2 hK G hF V T'.heap (locs ++ L') ls (by rw [e1]; exact hP') hS' hL v1 (by
    intro w hw
    rcases List.mem_append.mp hw with z | z
    · cases r with
      | none => cases z
      | some u =>
        rcases List.mem_cons.mp z with e | e
        · rw [e]; exact hvo u rfl
        · cases e
    · exact v2 w z)
  obtain ⟨t2, a1, b1⟩ := kk T' rfl X'
  refine ⟨t2, go t2 ?_, b1⟩
  cases r with
  | none => exact a1
  | some u => exact a1
/-- a method of the objects of role r, with n numbers behind the object -/
def mMv (M' : mMs) (r n : Nat) : Prop := ∃ (ci : Nat) (fs : List mFd) (q : vw_C), mT r = .inr (ci, fs) ∧ (1 ≤ r ∧ r < 50) ∧ vwCl[ci]? = some q ∧ M'.1.cls = q.1 ∧ Cond.instanceMethod M'.1 ∈ mTbl ∧ Cond.selects q.1 M'.1 M'.1 ∈ mTbl ∧ Cond.initialized q.1 ∈ mTbl ∧ Cond.code M'.1 M'.2.1 M'.2.2.1 M'.2.2.2.1 ∈ mTbl ∧ (M'.1.cls ≠ "java/lang/invoke/MethodHandle" ∧ M'.1.cls ≠ "java/lang/invoke/VarHandle" ∧ (parseMethodDescriptor M'.1.desc).map (fun d => d.parameters.length) = some n) ∧ M'.2.2.1 ≤ 21
/-- a static method -/
def mMt (M' : mMs) (n : Nat) : Prop := Cond.static M'.1 ∈ mTbl ∧ Cond.initialized M'.1.cls ∈ mTbl ∧ Cond.code M'.1 M'.2.1 M'.2.2.1 M'.2.2.2.1 ∈ mTbl ∧ (M'.1.cls ≠ "java/lang/invoke/MethodHandle" ∧ M'.1.cls ≠ "java/lang/invoke/VarHandle" ∧ (parseMethodDescriptor M'.1.desc).map (fun d => d.parameters.length) = some n) ∧ M'.2.2.1 ≤ 21
theorem mw_callV {M' : mMs} {idx r n pc' : Nat} {i : Int} {as : List mV} {K : Option mV → mH → Prop} (hm : mMv M' r n) (hl : Cond.methodLink M.1.cls idx M'.1 ∈ mTbl) (hdep : M'.2.2.2.2 + 1 ≤ M.2.2.2.2) (hd : mDc M pc (.invokevirtual idx) 3 pc') (hn : as.length = n) (hst : Nat.ble (mCat st) 8 = true) (ok : Ok M' (mR r i :: as) h K) (k : ∀ r h2, K r h2 → At F M pc' L (r.toList ++ st) h2) : At F M pc L (as.reverse ++ mR r i :: st) h := by
  obtain ⟨hd, rfl⟩ := hd
  obtain ⟨ci, fs, q, h1, h2, h3, h4, w1, w2, w3, w4, hx, hnl⟩ := hm
  intro G hF V H locs ls hP hS hL v1 v2
  have v2b := v2.app.2
  obtain ⟨p, hp⟩ := mIds_at (v2b.hd h2.1 h2.2)
  have he := mW_at (cA := mGc G) (ad := mGad G) hp h
  rw [mEnt_inr h1] at he
  have hvs : mVs (mGids G) (mR r i :: as) := mVs.cons v2b.hd (fun w hw => v2 w (List.mem_append_left _ (List.mem_reverse.mpr hw)))
  have hgood : GoodIn mTbl (wsV M.1.cls idx q.1 M'.1 (mWs M')) := mTbl_good (by
    intro w hw
    unfold wsV mWs at hw
    simp only [List.cons_append, List.nil_append, List.mem_cons] at hw
    rcases hw with rfl | rfl | rfl | rfl | rfl | hw
    · exact hl
    · exact w1
    · exact w2
    · exact w3
    · exact w4
    · exact hw)
  refine mRun_go hF V (va_runV (As := as.map (mIv (mGad G))) (rest := st.map (mIv (mGad G))) (b := mGad G r i) V.1 (ok G.1.2.1 (mGD G) (mGc G) (mGad G) (mGids G) H.size V.2.2.2.1 hvs)
    (cwV n V.1.2.2.2.2 hgood rfl rfl rfl ⟨h4, hx⟩ ⟨Nat.le_trans hdep V.2.2.2.2.2.2.1, ?_⟩)
    ⟨mBlind, va_recv V.2.2.1.1 hP h3 he, fun U hU hW => ⟨rfl, mFx_at V hP hS hU hW⟩⟩ rfl (by rw [List.length_map]; exact hn) hL.1 ?_ (lv_room (by rw [mCat_sum]; exact Nat.le_of_ble_eq_true hst)) hd ⟨V.2.2.2.2.2.2.2.2.1, V.2.2.2.2.2.2.2.2.2⟩) hS hL v1 v2b.tl k
  · have := V.2.2.2.2.2.2.2.1
    show 8 + (M'.2.2.1 + 11) + 40 * M'.2.2.2.2 ≤ _
    omega
  · show (as.reverse ++ mR r i :: st).map (mIv (mGad G)) = _
    rw [List.map_append, List.map_reverse]
    rfl
theorem mw_callS {M' : mMs} {idx n pc' : Nat} {as : List mV} {K : Option mV → mH → Prop} (hm : mMt M' n) (hl : Cond.methodLink M.1.cls idx M'.1 ∈ mTbl) (hdep : M'.2.2.2.2 + 1 ≤ M.2.2.2.2) (hd : mDc M pc (.invokestatic idx) 3 pc') (hn : as.length = n) (hst : Nat.ble (mCat st) 8 = true) (ok : Ok M' as h K) (k : ∀ r h2, K r h2 → At F M pc' L (r.toList ++ st) h2) : At F M pc L (as.reverse ++ st) h := by
  obtain ⟨hd, rfl⟩ := hd
  obtain ⟨w1, w2, w3, hx, hnl⟩ := hm
  intro G hF V H locs ls hP hS hL v1 v2
  have v2b := v2.app.2
  have hvs : mVs (mGids G) as := fun w hw => v2 w (List.mem_append_left _ (List.mem_reverse.mpr hw))
  have hgood : GoodIn mTbl (va_wsS M.1.cls idx M'.1 (mWs M')) := mTbl_good (by
    intro w hw
    unfold va_wsS mWs at hw
    simp only [List.cons_append, List.nil_append, List.mem_cons] at hw
    rcases hw with rfl | rfl | rfl | rfl | hw
    · exact hl
    · exact w1
    · exact w2
    · exact w3
    · exact hw)
  refine mRun_go hF V (va_runS (As := as.map (mIv (mGad G))) (rest := st.map (mIv (mGad G))) V.1 (ok G.1.2.1 (mGD G) (mGc G) (mGad G) (mGids G) H.size V.2.2.2.1 hvs)
    (va_cwS n V.1.2.2.2.2 hgood rfl rfl rfl hx ⟨Nat.le_trans hdep V.2.2.2.2.2.2.1, ?_⟩)
    ⟨mBlind, fun U hU hW => ⟨rfl, mFx_at V hP hS hU hW⟩⟩ rfl (by rw [List.length_map]; exact hn) hL.1 ?_ (lv_room (by rw [mCat_sum]; exact Nat.le_of_ble_eq_true hst)) hd ⟨V.2.2.2.2.2.2.2.2.1, V.2.2.2.2.2.2.2.2.2⟩) hS hL v1 v2b k
  · have := V.2.2.2.2.2.2.2.1
    show 8 + (M'.2.2.1 + 11) + 40 * M'.2.2.2.2 ≤ _
    omega
  · show (as.reverse ++ st).map (mIv (mGad G)) = _
    rw [List.map_append, List.map_reverse]
/-- a private static method of the nest -/
theorem mw_callN {M' : mMs} {idx n pc' : Nat} {host : String} {as : List mV} {K : Option mV → mH → Prop} (hm : mMt M' n) (hl : (M.1.cls, idx, M'.1, host) ∈ mNst) (hdep : M'.2.2.2.2 + 1 ≤ M.2.2.2.2) (hd : mDc M pc (.invokestatic idx) 3 pc') (hn : as.length = n) (hst : Nat.ble (mCat st) 8 = true) (ok : Ok M' as h K) (k : ∀ r h2, K r h2 → At F M pc' L (r.toList ++ st) h2) : At F M pc L (as.reverse ++ st) h := by
  obtain ⟨hd, rfl⟩ := hd
  obtain ⟨w1, w2, w3, hx, hnl⟩ := hm
  intro G hF V H locs ls hP hS hL v1 v2
  have v2b := v2.app.2
  have hvs : mVs (mGids G) as := fun w hw => v2 w (List.mem_append_left _ (List.mem_reverse.mpr hw))
  have hgood : GoodIn mTbl (mWs M') := mTbl_good (by
    intro w hw
    rcases List.mem_cons.mp hw with rfl | hw
    · exact w3
    · exact hw)
  refine mRun_go hF V (va_runSN (As := as.map (mIv (mGad G))) (rest := st.map (mIv (mGad G))) V.1 (ok G.1.2.1 (mGD G) (mGc G) (mGad G) (mGids G) H.size V.2.2.2.1 hvs)
    ⟨va_cnB n V.1.2.2.2.2 hgood rfl rfl rfl (V.2.2.1.2.1 _ hl) (V.1.2.2.2.2 _ w2) hx ⟨Nat.le_trans hdep V.2.2.2.2.2.2.1, ?_⟩, V.1.2.2.2.2 _ w1, trivial⟩
    ⟨mBlind, fun U hU hW => ⟨rfl, mFx_at V hP hS hU hW⟩⟩ rfl (by rw [List.length_map]; exact hn) hL.1 ?_ (lv_room (by rw [mCat_sum]; exact Nat.le_of_ble_eq_true hst)) hd ⟨V.2.2.2.2.2.2.2.2.1, V.2.2.2.2.2.2.2.2.2⟩) hS hL v1 v2b k
  · have := V.2.2.2.2.2.2.2.1
    show 8 + (M'.2.2.1 + 11) + 40 * M'.2.2.2.2 ≤ _
    omega
  · show (as.reverse ++ st).map (mIv (mGad G)) = _
    rw [List.map_append, List.map_reverse]
end MMF
end
section
/-! rows of the small machine: calls by what they return; Math; arraycopy -/
def mAbs (x : Int) : Int := if x < 0 then -x else x
/-- places sp .. of row q become places dp .. of row q2 -/
def mCpy (h : mH) (r : Nat) (i : Int) (sp : Int) (r2 : Nat) (i2 : Int) (dp n : Int) : mH := fun r' i' k' => if r' = r2 ∧ i' = i2 ∧ dp ≤ k' ∧ k' < dp + n then h r i (sp + (k' - dp)) else h r' i' k'
section MML
variable {F : mG → Prop} {M : mMs} {pc : Nat} {L st : List mV} {h : mH}
theorem mw_callVI {M' : mMs} {idx r n pc' : Nat} {i : Int} {as : List mV} {K : Int → mH → Prop} (hm : mMv M' r n) (hl : Cond.methodLink M.1.cls idx M'.1 ∈ mTbl) (hdep : M'.2.2.2.2 + 1 ≤ M.2.2.2.2) (hd : mDc M pc (.invokevirtual idx) 3 pc') (hn : as.length = n) (hst : Nat.ble (mCat st) 8 = true) (ok : OkI M' (mR r i :: as) h K) (k : ∀ x h2, K x h2 → At F M pc' L (mI x :: st) h2) : At F M pc L (as.reverse ++ mR r i :: st) h :=
  mw_callV hm hl hdep hd hn hst ok (by rintro r h2 ⟨x, rfl, z⟩; exact k x h2 z)
theorem mw_callVJ {M' : mMs} {idx r n pc' : Nat} {i : Int} {as : List mV} {K : Int → mH → Prop} (hm : mMv M' r n) (hl : Cond.methodLink M.1.cls idx M'.1 ∈ mTbl) (hdep : M'.2.2.2.2 + 1 ≤ M.2.2.2.2) (hd : mDc M pc (.invokevirtual idx) 3 pc') (hn : as.length = n) (hst : Nat.ble (mCat st) 8 = true) (ok : OkJ M' (mR r i :: as) h K) (k : ∀ x h2, K x h2 → At F M pc' L (mJ x :: st) h2) : At F M pc L (as.reverse ++ mR r i :: st) h :=
  mw_callV hm hl hdep hd hn hst ok (by rintro r h2 ⟨x, rfl, z⟩; exact k x h2 z)
theorem mw_callVV {M' : mMs} {idx r n pc' : Nat} {i : Int} {as : List mV} {K : mH → Prop} (hm : mMv M' r n) (hl : Cond.methodLink M.1.cls idx M'.1 ∈ mTbl) (hdep : M'.2.2.2.2 + 1 ≤ M.2.2.2.2) (hd : mDc M pc (.invokevirtual idx) 3 pc') (hn : as.length = n) (hst : Nat.ble (mCat st) 8 = true) (ok : OkV M' (mR r i :: as) h K) (k : ∀ h2, K h2 → At F M pc' L st h2) : At F M pc L (as.reverse ++ mR r i :: st) h :=
  mw_callV hm hl hdep hd hn hst ok (by rintro r h2 ⟨rfl, z⟩; exact k h2 z)
theorem mw_callSI {M' : mMs} {idx n pc' : Nat} {as : List mV} {K : Int → mH → Prop} (hm : mMt M' n) (hl : Cond.methodLink M.1.cls idx M'.1 ∈ mTbl) (hdep : M'.2.2.2.2 + 1 ≤ M.2.2.2.2) (hd : mDc M pc (.invokestatic idx) 3 pc') (hn : as.length = n) (hst : Nat.ble (mCat st) 8 = true) (ok : OkI M' as h K) (k : ∀ x h2, K x h2 → At F M pc' L (mI x :: st) h2) : At F M pc L (as.reverse ++ st) h :=
  mw_callS hm hl hdep hd hn hst ok (by rintro r h2 ⟨x, rfl, z⟩; exact k x h2 z)
theorem mw_callSJ {M' : mMs} {idx n pc' : Nat} {as : List mV} {K : Int → mH → Prop} (hm : mMt M' n) (hl : Cond.methodLink M.1.cls idx M'.1 ∈ mTbl) (hdep : M'.2.2.2.2 + 1 ≤ M.2.2.2.2) (hd : mDc M pc (.invokestatic idx) 3 pc') (hn : as.length = n) (hst : Nat.ble (mCat st) 8 = true) (ok : OkJ M' as h K) (k : ∀ x h2, K x h2 → At F M pc' L (mJ x :: st) h2) : At F M pc L (as.reverse ++ st) h :=
  mw_callS hm hl hdep hd hn hst ok (by rintro r h2 ⟨x, rfl, z⟩; exact k x h2 z)
theorem mw_callSV {M' : mMs} {idx n pc' : Nat} {as : List mV} {K : mH → Prop} (hm : mMt M' n) (hl : Cond.methodLink M.1.cls idx M'.1 ∈ mTbl) (hdep : M'.2.2.2.2 + 1 ≤ M.2.2.2.2) (hd : mDc M pc (.invokestatic idx) 3 pc') (hn : as.length = n) (hst : Nat.ble (mCat st) 8 = true) (ok : OkV M' as h K) (k : ∀ h2, K h2 → At F M pc' L st h2) : At F M pc L (as.reverse ++ st) h :=
  mw_callS hm hl hdep hd hn hst ok (by rintro r h2 ⟨rfl, z⟩; exact k h2 z)
theorem mw_callNI {M' : mMs} {idx n pc' : Nat} {host : String} {as : List mV} {K : Int → mH → Prop} (hm : mMt M' n) (hl : (M.1.cls, idx, M'.1, host) ∈ mNst) (hdep : M'.2.2.2.2 + 1 ≤ M.2.2.2.2) (hd : mDc M pc (.invokestatic idx) 3 pc') (hn : as.length = n) (hst : Nat.ble (mCat st) 8 = true) (ok : OkI M' as h K) (k : ∀ x h2, K x h2 → At F M pc' L (mI x :: st) h2) : At F M pc L (as.reverse ++ st) h :=
  mw_callN hm hl hdep hd hn hst ok (by rintro r h2 ⟨x, rfl, z⟩; exact k x h2 z)
/-- a static member of Math, as the kit has it -/
def mMw (own : String) (idx : Nat) (y : MethodName) (cc : ByteArray) (n : Nat) (ty : FieldType) : Prop := Cond.methodLink own idx y ∈ mTbl ∧ Cond.static y ∈ mTbl ∧ Cond.initialized "java/lang/Math" ∈ mTbl ∧ Cond.code y cc n (some ty) ∈ mTbl
theorem mw_maxL {idx pc' : Nat} {x y : Int} (hw : mMw M.1.cls idx Lib.MathLoose.max_long.x Lib.MathLoose.max_long.code 4 .long) (hdep : 1 ≤ M.2.2.2.2) (hd : mDc M pc (.invokestatic idx) 3 pc') (hst : Nat.ble (mCat st) 8 = true) (hc : mInL x ∧ mInL y) (k : At F M pc' L (mJ (max x y) :: st) h) : At F M pc L (mJ y :: mJ x :: st) h := by
  obtain ⟨hd, rfl⟩ := hd
  obtain ⟨w1, w2, w3, w4⟩ := hw
  intro G hF V H locs ls hP hS hL v1 v2
  have hr := V.2.2.2.2.2.2
  have hst := Nat.le_of_ble_eq_true hst
  refine va_mmax_long V.1.1 V.1.2.1 (V.1.2.2.1.trans hL.1.symm) V.1.2.2.2.1 (V.1.2.2.2.2 _ w1) (V.1.2.2.2.2 _ w2) (V.1.2.2.2.2 _ w3) (V.1.2.2.2.2 _ w4) (Nat.le_trans hdep hr.1) (by show ((st.map (mIv (mGad G))).map fun v => v.category).sum + 15 ≤ _; rw [mCat_sum]; have := hr.2.1; omega) hr.2.2.1 hr.2.2.2 hd ?_
  rw [show (if Int64.ofInt y < Int64.ofInt x then Int64.ofInt x else Int64.ofInt y) = Int64.ofInt (max x y) by
    by_cases z : y < x
    · rw [if_pos ((o64_lt hc.2 hc.1).mpr z), Int.max_eq_left (by omega)]
    · rw [if_neg (fun w => z ((o64_lt hc.2 hc.1).mp w)), Int.max_eq_right (by omega)]]
  exact k G hF V H locs ls hP hS hL v1 (mVs.cons trivial v2.tl.tl)
theorem mw_minL {idx pc' : Nat} {x y : Int} (hw : mMw M.1.cls idx Lib.MathLoose.min_long.x Lib.MathLoose.min_long.code 4 .long) (hdep : 1 ≤ M.2.2.2.2) (hd : mDc M pc (.invokestatic idx) 3 pc') (hst : Nat.ble (mCat st) 8 = true) (hc : mInL x ∧ mInL y) (k : At F M pc' L (mJ (min x y) :: st) h) : At F M pc L (mJ y :: mJ x :: st) h := by
  obtain ⟨hd, rfl⟩ := hd
  obtain ⟨w1, w2, w3, w4⟩ := hw
  intro G hF V H locs ls hP hS hL v1 v2
  have hr := V.2.2.2.2.2.2
  have hst := Nat.le_of_ble_eq_true hst
  refine va_mmin_long V.1.1 V.1.2.1 (V.1.2.2.1.trans hL.1.symm) V.1.2.2.2.1 (V.1.2.2.2.2 _ w1) (V.1.2.2.2.2 _ w2) (V.1.2.2.2.2 _ w3) (V.1.2.2.2.2 _ w4) (Nat.le_trans hdep hr.1) (by show ((st.map (mIv (mGad G))).map fun v => v.category).sum + 15 ≤ _; rw [mCat_sum]; have := hr.2.1; omega) hr.2.2.1 hr.2.2.2 hd ?_
  rw [show (if Int64.ofInt y < Int64.ofInt x then Int64.ofInt y else Int64.ofInt x) = Int64.ofInt (min x y) by
    by_cases z : y < x
    · rw [if_pos ((o64_lt hc.2 hc.1).mpr z), Int.min_eq_right (by omega)]
    · rw [if_neg (fun w => z ((o64_lt hc.2 hc.1).mp w)), Int.min_eq_left (by omega)]]
  exact k G hF V H locs ls hP hS hL v1 (mVs.cons trivial v2.tl.tl)
theorem mw_absL {idx pc' : Nat} {x : Int} (hw : mMw M.1.cls idx Lib.MathLoose.abs_long.x Lib.MathLoose.abs_long.code 2 .long) (hdep : 1 ≤ M.2.2.2.2) (hd : mDc M pc (.invokestatic idx) 3 pc') (hst : Nat.ble (mCat st) 8 = true) (hc : mInL x) (k : At F M pc' L (mJ (mAbs x) :: st) h) : At F M pc L (mJ x :: st) h := by
  obtain ⟨hd, rfl⟩ := hd
  obtain ⟨w1, w2, w3, w4⟩ := hw
  intro G hF V H locs ls hP hS hL v1 v2
  have hr := V.2.2.2.2.2.2
  have hst := Nat.le_of_ble_eq_true hst
  refine va_mabs_long V.1.1 V.1.2.1 (V.1.2.2.1.trans hL.1.symm) V.1.2.2.2.1 (V.1.2.2.2.2 _ w1) (V.1.2.2.2.2 _ w2) (V.1.2.2.2.2 _ w3) (V.1.2.2.2.2 _ w4) (Nat.le_trans hdep hr.1) (by show ((st.map (mIv (mGad G))).map fun v => v.category).sum + 13 ≤ _; rw [mCat_sum]; have := hr.2.1; omega) hr.2.2.1 hr.2.2.2 hd ?_
  have z0 : (0 : Int64) < Int64.ofInt x ↔ 0 < x := o64_lt (x := 0) (by decide) hc
  rw [show (if 0 < Int64.ofInt x then Int64.ofInt x else -Int64.ofInt x) = Int64.ofInt (mAbs x) by
    unfold mAbs
    by_cases z : 0 < x
    · rw [if_pos (z0.mpr z), if_neg (by omega)]
    · rw [if_neg (fun w => z (z0.mp w)), o64_neg]
      by_cases z2 : x < 0
      · rw [if_pos z2]
      · rw [if_neg z2, show x = 0 by omega]; rfl]
  exact k G hF V H locs ls hP hS hL v1 (mVs.cons trivial v2.tl)
theorem mw_maxI {idx pc' : Nat} {x y : Int} (hw : mMw M.1.cls idx Lib.Math.max.name Lib.Math.max.code 2 .int) (hdep : 1 ≤ M.2.2.2.2) (hd : mDc M pc (.invokestatic idx) 3 pc') (hst : Nat.ble (mCat st) 8 = true) (hc : mInR x ∧ mInR y) (k : At F M pc' L (mI (max x y) :: st) h) : At F M pc L (mI y :: mI x :: st) h := by
  obtain ⟨hd, rfl⟩ := hd
  obtain ⟨w1, w2, w3, w4⟩ := hw
  intro G hF V H locs ls hP hS hL v1 v2
  have hr := V.2.2.2.2.2.2
  have hst := Nat.le_of_ble_eq_true hst
  refine va_mmax V.1.1 V.1.2.1 (V.1.2.2.1.trans hL.1.symm) V.1.2.2.2.1 (V.1.2.2.2.2 _ w1) (V.1.2.2.2.2 _ w2) (V.1.2.2.2.2 _ w3) (V.1.2.2.2.2 _ w4) (Nat.le_trans hdep hr.1) (by show ((st.map (mIv (mGad G))).map fun v => v.category).sum + 13 ≤ _; rw [mCat_sum]; have := hr.2.1; omega) hr.2.2.1 hr.2.2.2 hd ?_
  rw [show (if Int32.ofInt x < Int32.ofInt y then Int32.ofInt y else Int32.ofInt x) = Int32.ofInt (max x y) by
    by_cases z : x < y
    · rw [if_pos ((o32_lt hc.1 hc.2).mpr z), Int.max_eq_right (by omega)]
    · rw [if_neg (fun w => z ((o32_lt hc.1 hc.2).mp w)), Int.max_eq_left (by omega)]]
  exact k G hF V H locs ls hP hS hL v1 (mVs.cons trivial v2.tl.tl)
theorem mw_minI {idx pc' : Nat} {x y : Int} (hw : mMw M.1.cls idx Lib.Math.min.name Lib.Math.min.code 2 .int) (hdep : 1 ≤ M.2.2.2.2) (hd : mDc M pc (.invokestatic idx) 3 pc') (hst : Nat.ble (mCat st) 8 = true) (hc : mInR x ∧ mInR y) (k : At F M pc' L (mI (min x y) :: st) h) : At F M pc L (mI y :: mI x :: st) h := by
  obtain ⟨hd, rfl⟩ := hd
  obtain ⟨w1, w2, w3, w4⟩ := hw
  intro G hF V H locs ls hP hS hL v1 v2
  have hr := V.2.2.2.2.2.2
  have hst := Nat.le_of_ble_eq_true hst
  refine va_mmin V.1.1 V.1.2.1 (V.1.2.2.1.trans hL.1.symm) V.1.2.2.2.1 (V.1.2.2.2.2 _ w1) (V.1.2.2.2.2 _ w2) (V.1.2.2.2.2 _ w3) (V.1.2.2.2.2 _ w4) (Nat.le_trans hdep hr.1) (by show ((st.map (mIv (mGad G))).map fun v => v.category).sum + 13 ≤ _; rw [mCat_sum]; have := hr.2.1; omega) hr.2.2.1 hr.2.2.2 hd ?_
  rw [show (if Int32.ofInt y < Int32.ofInt x then Int32.ofInt y else Int32.ofInt x) = Int32.ofInt (min x y) by
    by_cases z : y < x
    · rw [if_pos ((o32_lt hc.2 hc.1).mpr z), Int.min_eq_right (by omega)]
    · rw [if_neg (fun w => z ((o32_lt hc.2 hc.1).mp w)), Int.min_eq_left (by omega)]]
  exact k G hF V H locs ls hP hS hL v1 (mVs.cons trivial v2.tl.tl)
/-- arraycopy between two rows of ints -/
theorem mw_copyI {idx r r2 pc' : Nat} {i i2 sp dp n m1 m2 : Int} (hw : Cond.methodLink M.1.cls idx arraycopyName ∈ mTbl ∧ Cond.native arraycopyName ∈ mTbl ∧ Cond.static arraycopyName ∈ mTbl ∧ Cond.initialized "java/lang/System" ∈ mTbl) (hdep : 1 ≤ M.2.2.2.2) (h1 : mRo r 1 m1) (h2 : mRo r2 1 m2) (hd : mDc M pc (.invokestatic idx) 3 pc') (hst : Nat.ble (mCat st) 8 = true) (hc : 0 ≤ sp ∧ 0 ≤ dp ∧ 0 ≤ n ∧ sp + n ≤ m1 ∧ dp + n ≤ m2) (k : At F M pc' L st (mCpy h r i sp r2 i2 dp n)) : At F M pc L (mI n :: mI dp :: mR r2 i2 :: mI sp :: mR r i :: st) h := by
  obtain ⟨hd, rfl⟩ := hd
  obtain ⟨w1, w2, w3, w4⟩ := hw
  obtain ⟨a1, b1, rfl, c1, d1⟩ := h1
  obtain ⟨a2, b2, rfl, c2, d2⟩ := h2
  intro G hF V H locs ls hP hS hL v1 v2
  have hr := V.2.2.2.2.2.2
  have hst := Nat.le_of_ble_eq_true hst
  obtain ⟨p1, hp1⟩ := mIds_at (v2.tl.tl.tl.tl.hd c1.1 c1.2)
  obtain ⟨p2, hp2⟩ := mIds_at (v2.tl.tl.hd c2.1 c2.2)
  have he1 := mW_at (cA := mGc G) (ad := mGad G) hp1 h
  rw [mEnt_inl b1, mRow_i (by decide)] at he1
  have he2 := mW_at (cA := mGc G) (ad := mGad G) hp2 h
  rw [mEnt_inl b2, mRow_i (by decide)] at he2
  have hD := V.2.2.2.2.1 h
  have nn : ∀ z : Int, 0 ≤ z → z < 2147483648 → ¬ Int32.ofInt z < 0 := fun z h0 h1 w => by
    have := (o32_lt (x := z) (y := 0) (by omega) (by decide)).mp w
    omega
  refine va_copyi V.1.1 V.1.2.1 (V.1.2.2.1.trans hL.1.symm) V.1.2.2.2.1 (V.1.2.2.2.2 _ w1) (V.1.2.2.2.2 _ w2) (V.1.2.2.2.2 _ w3) (V.1.2.2.2.2 _ w4) V.2.2.1.1 hP hD hS p1 p2 1 1 he1 he2 rfl rfl rfl (nn sp hc.1 (by omega)) (nn dp hc.2.1 (by omega)) (nn n hc.2.2.1 (by omega)) (by rw [o32_clamp hc.1 (by omega), o32_clamp hc.2.2.1 (by omega)]; omega) (by rw [o32_clamp hc.2.1 (by omega), o32_clamp hc.2.2.1 (by omega)]; omega) (fun _ _ => rfl) (Nat.le_trans hdep hr.1) (by show ((st.map (mIv (mGad G))).map fun v => v.category).sum + 18 ≤ _; rw [mCat_sum]; have := hr.2.1; omega) hd (fun H1 locs1 hP1 hD1 hS1 => ?_)
  rw [o32_clamp hc.1 (by omega), o32_clamp hc.2.1 (by omega), o32_clamp hc.2.2.1 (by omega)] at hP1
  have e : va_cpy (fun j : Nat => Int32.ofInt (h r i (j : Int))) (fun j : Nat => Int32.ofInt (h r2 i2 (j : Int))) sp.toNat dp.toNat n.toNat = fun j : Nat => Int32.ofInt (mCpy h r i sp r2 i2 dp n r2 i2 (j : Int)) := by
    funext j
    unfold va_cpy mCpy
    by_cases z : dp.toNat ≤ j ∧ j < dp.toNat + n.toNat
    · rw [if_pos z, if_pos ⟨rfl, rfl, by omega, by omega⟩]
      show Int32.ofInt (h r i ((sp.toNat + (j - dp.toNat) : Nat) : Int)) = _
      rw [show ((sp.toNat + (j - dp.toNat) : Nat) : Int) = sp + ((j : Int) - dp) by omega]
    · rw [if_neg z, if_neg (fun w => z ⟨by omega, by omega⟩)]
  rw [e, ← mRow_i (ad := mGad G) (k := 1) (by decide), mW_set hp2 hD (h2 := mCpy h r i sp r2 i2 dp n) (mEnt_inl b2) (fun q2 hq2 k2 => by
    unfold mCpy
    rw [if_neg]
    rintro ⟨x, y, -⟩
    exact hq2 (Prod.ext x y))] at hP1
  exact k G hF V H1 locs1 ls hP1 hS1 hL v1 v2.tl.tl.tl.tl.tl
end MML
end
