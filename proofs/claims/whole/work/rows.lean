section
-- ===== PART A: goes FIRST, ahead of the names: the tables' words, and 'selects' of the private methods out of them =====
/-- a private method of a class that the tables say can be made, by its rows of tables_1 -/
def lw_okq (q : MethodName × Nat) : Prop := (q.1.cls ≠ "java/lang/invoke/MethodHandle" ∧ q.1.cls ≠ "java/lang/invoke/VarHandle") ∧ Cond.instantiable q.1.cls q.2 ∈ tables_1 ∧ Cond.privateMethod q.1 ∈ tables_1 ∧ Cond.instanceMethod q.1 ∈ tables_1
theorem lw_p0 : lw_okq (⟨"RateOffice", "appendBytes", "(I)V"⟩, 16) := ⟨⟨by decide +kernel, by decide +kernel⟩, List.mem_of_getElem? (i := 21) (by decide +kernel), List.mem_of_getElem? (i := 344) (by decide +kernel), List.mem_of_getElem? (i := 345) (by decide +kernel)⟩
theorem lw_p1 : lw_okq (⟨"RateOffice", "remember", "()V"⟩, 16) := ⟨⟨by decide +kernel, by decide +kernel⟩, List.mem_of_getElem? (i := 21) (by decide +kernel), List.mem_of_getElem? (i := 549) (by decide +kernel), List.mem_of_getElem? (i := 550) (by decide +kernel)⟩
theorem lw_p2 : lw_okq (⟨"RateOffice", "historyIndex", "(I)I"⟩, 16) := ⟨⟨by decide +kernel, by decide +kernel⟩, List.mem_of_getElem? (i := 21) (by decide +kernel), List.mem_of_getElem? (i := 553) (by decide +kernel), List.mem_of_getElem? (i := 554) (by decide +kernel)⟩
theorem lw_p3 : lw_okq (⟨"RateOffice", "misfitIfJoined", "(III)J"⟩, 16) := ⟨⟨by decide +kernel, by decide +kernel⟩, List.mem_of_getElem? (i := 21) (by decide +kernel), List.mem_of_getElem? (i := 929) (by decide +kernel), List.mem_of_getElem? (i := 930) (by decide +kernel)⟩
theorem lw_p4 : lw_okq (⟨"java/lang/Throwable", "fillInStackTrace", "(I)Ljava/lang/Throwable;"⟩, 6) := ⟨⟨by decide +kernel, by decide +kernel⟩, List.mem_of_getElem? (i := 1040) (by decide +kernel), List.mem_of_getElem? (i := 1038) (by decide +kernel), List.mem_of_getElem? (i := 1039) (by decide +kernel)⟩
theorem lw_p5 : lw_okq (⟨"RateOfficeModel", "freshText", "()V"⟩, 30) := ⟨⟨by decide +kernel, by decide +kernel⟩, List.mem_of_getElem? (i := 1088) (by decide +kernel), List.mem_of_getElem? (i := 1094) (by decide +kernel), List.mem_of_getElem? (i := 1095) (by decide +kernel)⟩
theorem lw_p6 : lw_okq (⟨"RateOfficeModel", "reads", "(II)V"⟩, 30) := ⟨⟨by decide +kernel, by decide +kernel⟩, List.mem_of_getElem? (i := 1088) (by decide +kernel), List.mem_of_getElem? (i := 1098) (by decide +kernel), List.mem_of_getElem? (i := 1099) (by decide +kernel)⟩
theorem lw_p7 : lw_okq (⟨"RateOfficeModel", "takeText", "()V"⟩, 30) := ⟨⟨by decide +kernel, by decide +kernel⟩, List.mem_of_getElem? (i := 1088) (by decide +kernel), List.mem_of_getElem? (i := 1102) (by decide +kernel), List.mem_of_getElem? (i := 1103) (by decide +kernel)⟩
theorem lw_p8 : lw_okq (⟨"RateOfficeModel", "reading", "(I)I"⟩, 30) := ⟨⟨by decide +kernel, by decide +kernel⟩, List.mem_of_getElem? (i := 1088) (by decide +kernel), List.mem_of_getElem? (i := 1106) (by decide +kernel), List.mem_of_getElem? (i := 1107) (by decide +kernel)⟩
theorem lw_p9 : lw_okq (⟨"RateOfficeModel", "begins", "()V"⟩, 30) := ⟨⟨by decide +kernel, by decide +kernel⟩, List.mem_of_getElem? (i := 1088) (by decide +kernel), List.mem_of_getElem? (i := 1110) (by decide +kernel), List.mem_of_getElem? (i := 1111) (by decide +kernel)⟩
theorem lw_p10 : lw_okq (⟨"RateOfficeModel", "factors", "()I"⟩, 30) := ⟨⟨by decide +kernel, by decide +kernel⟩, List.mem_of_getElem? (i := 1088) (by decide +kernel), List.mem_of_getElem? (i := 1114) (by decide +kernel), List.mem_of_getElem? (i := 1115) (by decide +kernel)⟩
theorem lw_p11 : lw_okq (⟨"RateOfficeModel", "readText", "(I)V"⟩, 30) := ⟨⟨by decide +kernel, by decide +kernel⟩, List.mem_of_getElem? (i := 1088) (by decide +kernel), List.mem_of_getElem? (i := 1222) (by decide +kernel), List.mem_of_getElem? (i := 1223) (by decide +kernel)⟩
theorem lw_p12 : lw_okq (⟨"RateOfficeModel", "token", "()V"⟩, 30) := ⟨⟨by decide +kernel, by decide +kernel⟩, List.mem_of_getElem? (i := 1088) (by decide +kernel), List.mem_of_getElem? (i := 1226) (by decide +kernel), List.mem_of_getElem? (i := 1227) (by decide +kernel)⟩
theorem lw_p13 : lw_okq (⟨"RateOfficeModel", "here", "()I"⟩, 30) := ⟨⟨by decide +kernel, by decide +kernel⟩, List.mem_of_getElem? (i := 1088) (by decide +kernel), List.mem_of_getElem? (i := 1230) (by decide +kernel), List.mem_of_getElem? (i := 1231) (by decide +kernel)⟩
theorem lw_p14 : lw_okq (⟨"RateOfficeModel", "wordHere", "()I"⟩, 30) := ⟨⟨by decide +kernel, by decide +kernel⟩, List.mem_of_getElem? (i := 1088) (by decide +kernel), List.mem_of_getElem? (i := 1237) (by decide +kernel), List.mem_of_getElem? (i := 1238) (by decide +kernel)⟩
theorem lw_p15 : lw_okq (⟨"RateOfficeModel", "nameHere", "()V"⟩, 30) := ⟨⟨by decide +kernel, by decide +kernel⟩, List.mem_of_getElem? (i := 1088) (by decide +kernel), List.mem_of_getElem? (i := 1244) (by decide +kernel), List.mem_of_getElem? (i := 1245) (by decide +kernel)⟩
def lw_privs_1 : List (MethodName × Nat) := [(⟨"RateOffice", "appendBytes", "(I)V"⟩, 16), (⟨"RateOffice", "remember", "()V"⟩, 16), (⟨"RateOffice", "historyIndex", "(I)I"⟩, 16), (⟨"RateOffice", "misfitIfJoined", "(III)J"⟩, 16), (⟨"java/lang/Throwable", "fillInStackTrace", "(I)Ljava/lang/Throwable;"⟩, 6), (⟨"RateOfficeModel", "freshText", "()V"⟩, 30), (⟨"RateOfficeModel", "reads", "(II)V"⟩, 30), (⟨"RateOfficeModel", "takeText", "()V"⟩, 30), (⟨"RateOfficeModel", "reading", "(I)I"⟩, 30), (⟨"RateOfficeModel", "begins", "()V"⟩, 30), (⟨"RateOfficeModel", "factors", "()I"⟩, 30), (⟨"RateOfficeModel", "readText", "(I)V"⟩, 30), (⟨"RateOfficeModel", "token", "()V"⟩, 30), (⟨"RateOfficeModel", "here", "()I"⟩, 30), (⟨"RateOfficeModel", "wordHere", "()I"⟩, 30), (⟨"RateOfficeModel", "nameHere", "()V"⟩, 30)]
theorem lw_r1 : ∀ q ∈ lw_privs_1, lw_okq q := List.forall_mem_cons.mpr ⟨lw_p0, List.forall_mem_cons.mpr ⟨lw_p1, List.forall_mem_cons.mpr ⟨lw_p2, List.forall_mem_cons.mpr ⟨lw_p3, List.forall_mem_cons.mpr ⟨lw_p4, List.forall_mem_cons.mpr ⟨lw_p5, List.forall_mem_cons.mpr ⟨lw_p6, List.forall_mem_cons.mpr ⟨lw_p7, List.forall_mem_cons.mpr ⟨lw_p8, List.forall_mem_cons.mpr ⟨lw_p9, List.forall_mem_cons.mpr ⟨lw_p10, List.forall_mem_cons.mpr ⟨lw_p11, List.forall_mem_cons.mpr ⟨lw_p12, List.forall_mem_cons.mpr ⟨lw_p13, List.forall_mem_cons.mpr ⟨lw_p14, List.forall_mem_cons.mpr ⟨lw_p15, fun _ h => absurd h List.not_mem_nil⟩⟩⟩⟩⟩⟩⟩⟩⟩⟩⟩⟩⟩⟩⟩⟩
theorem lw_p16 : lw_okq (⟨"RateOfficeModel", "readLine", "()V"⟩, 30) := ⟨⟨by decide +kernel, by decide +kernel⟩, List.mem_of_getElem? (i := 1088) (by decide +kernel), List.mem_of_getElem? (i := 1252) (by decide +kernel), List.mem_of_getElem? (i := 1253) (by decide +kernel)⟩
theorem lw_p17 : lw_okq (⟨"RateOfficeModel", "wrong", "(I)V"⟩, 30) := ⟨⟨by decide +kernel, by decide +kernel⟩, List.mem_of_getElem? (i := 1088) (by decide +kernel), List.mem_of_getElem? (i := 1256) (by decide +kernel), List.mem_of_getElem? (i := 1257) (by decide +kernel)⟩
theorem lw_p18 : lw_okq (⟨"RateOfficeModel", "readOnce", "(III)V"⟩, 30) := ⟨⟨by decide +kernel, by decide +kernel⟩, List.mem_of_getElem? (i := 1088) (by decide +kernel), List.mem_of_getElem? (i := 1260) (by decide +kernel), List.mem_of_getElem? (i := 1261) (by decide +kernel)⟩
theorem lw_p19 : lw_okq (⟨"RateOfficeModel", "goOn", "()V"⟩, 30) := ⟨⟨by decide +kernel, by decide +kernel⟩, List.mem_of_getElem? (i := 1088) (by decide +kernel), List.mem_of_getElem? (i := 1264) (by decide +kernel), List.mem_of_getElem? (i := 1265) (by decide +kernel)⟩
theorem lw_p20 : lw_okq (⟨"RateOfficeModel", "numeral", "(II)I"⟩, 30) := ⟨⟨by decide +kernel, by decide +kernel⟩, List.mem_of_getElem? (i := 1088) (by decide +kernel), List.mem_of_getElem? (i := 1268) (by decide +kernel), List.mem_of_getElem? (i := 1269) (by decide +kernel)⟩
theorem lw_p21 : lw_okq (⟨"RateOfficeModel", "readFleet", "()V"⟩, 30) := ⟨⟨by decide +kernel, by decide +kernel⟩, List.mem_of_getElem? (i := 1088) (by decide +kernel), List.mem_of_getElem? (i := 1272) (by decide +kernel), List.mem_of_getElem? (i := 1273) (by decide +kernel)⟩
theorem lw_p22 : lw_okq (⟨"RateOfficeModel", "readFactor", "()V"⟩, 30) := ⟨⟨by decide +kernel, by decide +kernel⟩, List.mem_of_getElem? (i := 1088) (by decide +kernel), List.mem_of_getElem? (i := 1276) (by decide +kernel), List.mem_of_getElem? (i := 1277) (by decide +kernel)⟩
theorem lw_p23 : lw_okq (⟨"RateOfficeModel", "namedAt", "(III)I"⟩, 30) := ⟨⟨by decide +kernel, by decide +kernel⟩, List.mem_of_getElem? (i := 1088) (by decide +kernel), List.mem_of_getElem? (i := 1280) (by decide +kernel), List.mem_of_getElem? (i := 1281) (by decide +kernel)⟩
theorem lw_p24 : lw_okq (⟨"RateOfficeModel", "readBand", "()V"⟩, 30) := ⟨⟨by decide +kernel, by decide +kernel⟩, List.mem_of_getElem? (i := 1088) (by decide +kernel), List.mem_of_getElem? (i := 1285) (by decide +kernel), List.mem_of_getElem? (i := 1286) (by decide +kernel)⟩
theorem lw_p25 : lw_okq (⟨"RateOfficeModel", "factorHere", "()I"⟩, 30) := ⟨⟨by decide +kernel, by decide +kernel⟩, List.mem_of_getElem? (i := 1088) (by decide +kernel), List.mem_of_getElem? (i := 1289) (by decide +kernel), List.mem_of_getElem? (i := 1290) (by decide +kernel)⟩
theorem lw_p26 : lw_okq (⟨"RateOfficeModel", "readJoin", "()V"⟩, 30) := ⟨⟨by decide +kernel, by decide +kernel⟩, List.mem_of_getElem? (i := 1088) (by decide +kernel), List.mem_of_getElem? (i := 1293) (by decide +kernel), List.mem_of_getElem? (i := 1294) (by decide +kernel)⟩
theorem lw_p27 : lw_okq (⟨"RateOfficeModel", "readRisk", "()V"⟩, 30) := ⟨⟨by decide +kernel, by decide +kernel⟩, List.mem_of_getElem? (i := 1088) (by decide +kernel), List.mem_of_getElem? (i := 1297) (by decide +kernel), List.mem_of_getElem? (i := 1298) (by decide +kernel)⟩
theorem lw_p28 : lw_okq (⟨"RateOfficeModel", "many", "()I"⟩, 30) := ⟨⟨by decide +kernel, by decide +kernel⟩, List.mem_of_getElem? (i := 1088) (by decide +kernel), List.mem_of_getElem? (i := 1320) (by decide +kernel), List.mem_of_getElem? (i := 1321) (by decide +kernel)⟩
theorem lw_p29 : lw_okq (⟨"RateOfficeModel", "isFactor", "(I)Z"⟩, 30) := ⟨⟨by decide +kernel, by decide +kernel⟩, List.mem_of_getElem? (i := 1088) (by decide +kernel), List.mem_of_getElem? (i := 1332) (by decide +kernel), List.mem_of_getElem? (i := 1333) (by decide +kernel)⟩
theorem lw_p30 : lw_okq (⟨"RateOfficeModel", "remembers", "()V"⟩, 30) := ⟨⟨by decide +kernel, by decide +kernel⟩, List.mem_of_getElem? (i := 1088) (by decide +kernel), List.mem_of_getElem? (i := 1336) (by decide +kernel), List.mem_of_getElem? (i := 1337) (by decide +kernel)⟩
theorem lw_p31 : lw_okq (⟨"RateOfficeModel", "turns", "(I)I"⟩, 30) := ⟨⟨by decide +kernel, by decide +kernel⟩, List.mem_of_getElem? (i := 1088) (by decide +kernel), List.mem_of_getElem? (i := 1340) (by decide +kernel), List.mem_of_getElem? (i := 1341) (by decide +kernel)⟩
def lw_privs_2 : List (MethodName × Nat) := [(⟨"RateOfficeModel", "readLine", "()V"⟩, 30), (⟨"RateOfficeModel", "wrong", "(I)V"⟩, 30), (⟨"RateOfficeModel", "readOnce", "(III)V"⟩, 30), (⟨"RateOfficeModel", "goOn", "()V"⟩, 30), (⟨"RateOfficeModel", "numeral", "(II)I"⟩, 30), (⟨"RateOfficeModel", "readFleet", "()V"⟩, 30), (⟨"RateOfficeModel", "readFactor", "()V"⟩, 30), (⟨"RateOfficeModel", "namedAt", "(III)I"⟩, 30), (⟨"RateOfficeModel", "readBand", "()V"⟩, 30), (⟨"RateOfficeModel", "factorHere", "()I"⟩, 30), (⟨"RateOfficeModel", "readJoin", "()V"⟩, 30), (⟨"RateOfficeModel", "readRisk", "()V"⟩, 30), (⟨"RateOfficeModel", "many", "()I"⟩, 30), (⟨"RateOfficeModel", "isFactor", "(I)Z"⟩, 30), (⟨"RateOfficeModel", "remembers", "()V"⟩, 30), (⟨"RateOfficeModel", "turns", "(I)I"⟩, 30)]
theorem lw_r2 : ∀ q ∈ lw_privs_2, lw_okq q := List.forall_mem_cons.mpr ⟨lw_p16, List.forall_mem_cons.mpr ⟨lw_p17, List.forall_mem_cons.mpr ⟨lw_p18, List.forall_mem_cons.mpr ⟨lw_p19, List.forall_mem_cons.mpr ⟨lw_p20, List.forall_mem_cons.mpr ⟨lw_p21, List.forall_mem_cons.mpr ⟨lw_p22, List.forall_mem_cons.mpr ⟨lw_p23, List.forall_mem_cons.mpr ⟨lw_p24, List.forall_mem_cons.mpr ⟨lw_p25, List.forall_mem_cons.mpr ⟨lw_p26, List.forall_mem_cons.mpr ⟨lw_p27, List.forall_mem_cons.mpr ⟨lw_p28, List.forall_mem_cons.mpr ⟨lw_p29, List.forall_mem_cons.mpr ⟨lw_p30, List.forall_mem_cons.mpr ⟨lw_p31, fun _ h => absurd h List.not_mem_nil⟩⟩⟩⟩⟩⟩⟩⟩⟩⟩⟩⟩⟩⟩⟩⟩
theorem lw_p32 : lw_okq (⟨"RateOfficeModel", "firstOf", "(II)I"⟩, 30) := ⟨⟨by decide +kernel, by decide +kernel⟩, List.mem_of_getElem? (i := 1088) (by decide +kernel), List.mem_of_getElem? (i := 1344) (by decide +kernel), List.mem_of_getElem? (i := 1345) (by decide +kernel)⟩
theorem lw_p33 : lw_okq (⟨"RateOfficeModel", "isJoined", "(II)Z"⟩, 30) := ⟨⟨by decide +kernel, by decide +kernel⟩, List.mem_of_getElem? (i := 1088) (by decide +kernel), List.mem_of_getElem? (i := 1348) (by decide +kernel), List.mem_of_getElem? (i := 1349) (by decide +kernel)⟩
theorem lw_p34 : lw_okq (⟨"RateOfficeModel", "risksOf", "(II)I"⟩, 30) := ⟨⟨by decide +kernel, by decide +kernel⟩, List.mem_of_getElem? (i := 1088) (by decide +kernel), List.mem_of_getElem? (i := 1352) (by decide +kernel), List.mem_of_getElem? (i := 1353) (by decide +kernel)⟩
theorem lw_p35 : lw_okq (⟨"RateOfficeModel", "isOf", "(III)Z"⟩, 30) := ⟨⟨by decide +kernel, by decide +kernel⟩, List.mem_of_getElem? (i := 1088) (by decide +kernel), List.mem_of_getElem? (i := 1356) (by decide +kernel), List.mem_of_getElem? (i := 1357) (by decide +kernel)⟩
theorem lw_p36 : lw_okq (⟨"RateOfficeModel", "premiumsOf", "(II)J"⟩, 30) := ⟨⟨by decide +kernel, by decide +kernel⟩, List.mem_of_getElem? (i := 1088) (by decide +kernel), List.mem_of_getElem? (i := 1360) (by decide +kernel), List.mem_of_getElem? (i := 1361) (by decide +kernel)⟩
theorem lw_p37 : lw_okq (⟨"RateOfficeModel", "premiumOf", "(I)J"⟩, 30) := ⟨⟨by decide +kernel, by decide +kernel⟩, List.mem_of_getElem? (i := 1088) (by decide +kernel), List.mem_of_getElem? (i := 1364) (by decide +kernel), List.mem_of_getElem? (i := 1365) (by decide +kernel)⟩
theorem lw_p38 : lw_okq (⟨"RateOfficeModel", "premiumBy", "(II)J"⟩, 30) := ⟨⟨by decide +kernel, by decide +kernel⟩, List.mem_of_getElem? (i := 1088) (by decide +kernel), List.mem_of_getElem? (i := 1368) (by decide +kernel), List.mem_of_getElem? (i := 1369) (by decide +kernel)⟩
theorem lw_p39 : lw_okq (⟨"RateOfficeModel", "premiumBehind", "(III)J"⟩, 30) := ⟨⟨by decide +kernel, by decide +kernel⟩, List.mem_of_getElem? (i := 1088) (by decide +kernel), List.mem_of_getElem? (i := 1372) (by decide +kernel), List.mem_of_getElem? (i := 1373) (by decide +kernel)⟩
theorem lw_p40 : lw_okq (⟨"RateOfficeModel", "relativityOf", "(II)I"⟩, 30) := ⟨⟨by decide +kernel, by decide +kernel⟩, List.mem_of_getElem? (i := 1088) (by decide +kernel), List.mem_of_getElem? (i := 1376) (by decide +kernel), List.mem_of_getElem? (i := 1377) (by decide +kernel)⟩
theorem lw_p41 : lw_okq (⟨"RateOfficeModel", "sumOf", "(III)J"⟩, 30) := ⟨⟨by decide +kernel, by decide +kernel⟩, List.mem_of_getElem? (i := 1088) (by decide +kernel), List.mem_of_getElem? (i := 1382) (by decide +kernel), List.mem_of_getElem? (i := 1383) (by decide +kernel)⟩
theorem lw_p42 : lw_okq (⟨"RateOfficeModel", "trusted", "(IIII)I"⟩, 30) := ⟨⟨by decide +kernel, by decide +kernel⟩, List.mem_of_getElem? (i := 1088) (by decide +kernel), List.mem_of_getElem? (i := 1389) (by decide +kernel), List.mem_of_getElem? (i := 1390) (by decide +kernel)⟩
theorem lw_p43 : lw_okq (⟨"RateOfficeModel", "relates", "(III)V"⟩, 30) := ⟨⟨by decide +kernel, by decide +kernel⟩, List.mem_of_getElem? (i := 1088) (by decide +kernel), List.mem_of_getElem? (i := 1393) (by decide +kernel), List.mem_of_getElem? (i := 1394) (by decide +kernel)⟩
theorem lw_p44 : lw_okq (⟨"RateOfficeModel", "lastOf", "(II)I"⟩, 30) := ⟨⟨by decide +kernel, by decide +kernel⟩, List.mem_of_getElem? (i := 1088) (by decide +kernel), List.mem_of_getElem? (i := 1397) (by decide +kernel), List.mem_of_getElem? (i := 1398) (by decide +kernel)⟩
theorem lw_p45 : lw_okq (⟨"RateOfficeModel", "rounds", "(II)V"⟩, 30) := ⟨⟨by decide +kernel, by decide +kernel⟩, List.mem_of_getElem? (i := 1088) (by decide +kernel), List.mem_of_getElem? (i := 1405) (by decide +kernel), List.mem_of_getElem? (i := 1406) (by decide +kernel)⟩
theorem lw_p46 : lw_okq (⟨"RateOfficeModel", "unbalancedNow", "()I"⟩, 30) := ⟨⟨by decide +kernel, by decide +kernel⟩, List.mem_of_getElem? (i := 1088) (by decide +kernel), List.mem_of_getElem? (i := 1409) (by decide +kernel), List.mem_of_getElem? (i := 1410) (by decide +kernel)⟩
theorem lw_p47 : lw_okq (⟨"RateOfficeModel", "balances", "(II)Z"⟩, 30) := ⟨⟨by decide +kernel, by decide +kernel⟩, List.mem_of_getElem? (i := 1088) (by decide +kernel), List.mem_of_getElem? (i := 1413) (by decide +kernel), List.mem_of_getElem? (i := 1414) (by decide +kernel)⟩
def lw_privs_3 : List (MethodName × Nat) := [(⟨"RateOfficeModel", "firstOf", "(II)I"⟩, 30), (⟨"RateOfficeModel", "isJoined", "(II)Z"⟩, 30), (⟨"RateOfficeModel", "risksOf", "(II)I"⟩, 30), (⟨"RateOfficeModel", "isOf", "(III)Z"⟩, 30), (⟨"RateOfficeModel", "premiumsOf", "(II)J"⟩, 30), (⟨"RateOfficeModel", "premiumOf", "(I)J"⟩, 30), (⟨"RateOfficeModel", "premiumBy", "(II)J"⟩, 30), (⟨"RateOfficeModel", "premiumBehind", "(III)J"⟩, 30), (⟨"RateOfficeModel", "relativityOf", "(II)I"⟩, 30), (⟨"RateOfficeModel", "sumOf", "(III)J"⟩, 30), (⟨"RateOfficeModel", "trusted", "(IIII)I"⟩, 30), (⟨"RateOfficeModel", "relates", "(III)V"⟩, 30), (⟨"RateOfficeModel", "lastOf", "(II)I"⟩, 30), (⟨"RateOfficeModel", "rounds", "(II)V"⟩, 30), (⟨"RateOfficeModel", "unbalancedNow", "()I"⟩, 30), (⟨"RateOfficeModel", "balances", "(II)Z"⟩, 30)]
theorem lw_r3 : ∀ q ∈ lw_privs_3, lw_okq q := List.forall_mem_cons.mpr ⟨lw_p32, List.forall_mem_cons.mpr ⟨lw_p33, List.forall_mem_cons.mpr ⟨lw_p34, List.forall_mem_cons.mpr ⟨lw_p35, List.forall_mem_cons.mpr ⟨lw_p36, List.forall_mem_cons.mpr ⟨lw_p37, List.forall_mem_cons.mpr ⟨lw_p38, List.forall_mem_cons.mpr ⟨lw_p39, List.forall_mem_cons.mpr ⟨lw_p40, List.forall_mem_cons.mpr ⟨lw_p41, List.forall_mem_cons.mpr ⟨lw_p42, List.forall_mem_cons.mpr ⟨lw_p43, List.forall_mem_cons.mpr ⟨lw_p44, List.forall_mem_cons.mpr ⟨lw_p45, List.forall_mem_cons.mpr ⟨lw_p46, List.forall_mem_cons.mpr ⟨lw_p47, fun _ h => absurd h List.not_mem_nil⟩⟩⟩⟩⟩⟩⟩⟩⟩⟩⟩⟩⟩⟩⟩⟩
theorem lw_p48 : lw_okq (⟨"RateOfficeModel", "rebases", "()V"⟩, 30) := ⟨⟨by decide +kernel, by decide +kernel⟩, List.mem_of_getElem? (i := 1088) (by decide +kernel), List.mem_of_getElem? (i := 1424) (by decide +kernel), List.mem_of_getElem? (i := 1425) (by decide +kernel)⟩
theorem lw_p49 : lw_okq (⟨"RateOfficeModel", "paid", "()J"⟩, 30) := ⟨⟨by decide +kernel, by decide +kernel⟩, List.mem_of_getElem? (i := 1088) (by decide +kernel), List.mem_of_getElem? (i := 1428) (by decide +kernel), List.mem_of_getElem? (i := 1429) (by decide +kernel)⟩
theorem lw_p50 : lw_okq (⟨"RateOfficeModel", "allOf", "(I)J"⟩, 30) := ⟨⟨by decide +kernel, by decide +kernel⟩, List.mem_of_getElem? (i := 1088) (by decide +kernel), List.mem_of_getElem? (i := 1432) (by decide +kernel), List.mem_of_getElem? (i := 1433) (by decide +kernel)⟩
theorem lw_p51 : lw_okq (⟨"RateOfficeModel", "levels", "()V"⟩, 30) := ⟨⟨by decide +kernel, by decide +kernel⟩, List.mem_of_getElem? (i := 1088) (by decide +kernel), List.mem_of_getElem? (i := 1441) (by decide +kernel), List.mem_of_getElem? (i := 1442) (by decide +kernel)⟩
theorem lw_p52 : lw_okq (⟨"RateOfficeModel", "isLevel", "(II)Z"⟩, 30) := ⟨⟨by decide +kernel, by decide +kernel⟩, List.mem_of_getElem? (i := 1088) (by decide +kernel), List.mem_of_getElem? (i := 1449) (by decide +kernel), List.mem_of_getElem? (i := 1450) (by decide +kernel)⟩
theorem lw_p53 : lw_okq (⟨"RateOfficeModel", "isRisk", "(I)Z"⟩, 30) := ⟨⟨by decide +kernel, by decide +kernel⟩, List.mem_of_getElem? (i := 1088) (by decide +kernel), List.mem_of_getElem? (i := 1457) (by decide +kernel), List.mem_of_getElem? (i := 1458) (by decide +kernel)⟩
theorem lw_p54 : lw_okq (⟨"RateOfficeModel", "laysLevels", "(I)Z"⟩, 30) := ⟨⟨by decide +kernel, by decide +kernel⟩, List.mem_of_getElem? (i := 1088) (by decide +kernel), List.mem_of_getElem? (i := 1465) (by decide +kernel), List.mem_of_getElem? (i := 1466) (by decide +kernel)⟩
theorem lw_p55 : lw_okq (⟨"RateOfficeModel", "goes", "(I)V"⟩, 30) := ⟨⟨by decide +kernel, by decide +kernel⟩, List.mem_of_getElem? (i := 1088) (by decide +kernel), List.mem_of_getElem? (i := 1473) (by decide +kernel), List.mem_of_getElem? (i := 1474) (by decide +kernel)⟩
theorem lw_p56 : lw_okq (⟨"RateOfficeModel", "joins", "(II)V"⟩, 30) := ⟨⟨by decide +kernel, by decide +kernel⟩, List.mem_of_getElem? (i := 1088) (by decide +kernel), List.mem_of_getElem? (i := 1481) (by decide +kernel), List.mem_of_getElem? (i := 1482) (by decide +kernel)⟩
theorem lw_p57 : lw_okq (⟨"RateOfficeModel", "classesOf", "(I)I"⟩, 30) := ⟨⟨by decide +kernel, by decide +kernel⟩, List.mem_of_getElem? (i := 1088) (by decide +kernel), List.mem_of_getElem? (i := 1501) (by decide +kernel), List.mem_of_getElem? (i := 1502) (by decide +kernel)⟩
theorem lw_p58 : lw_okq (⟨"RateOfficeModel", "farthestOff", "(I)I"⟩, 30) := ⟨⟨by decide +kernel, by decide +kernel⟩, List.mem_of_getElem? (i := 1088) (by decide +kernel), List.mem_of_getElem? (i := 1505) (by decide +kernel), List.mem_of_getElem? (i := 1506) (by decide +kernel)⟩
theorem lw_p59 : lw_okq (⟨"RateOfficeModel", "byNow", "()I"⟩, 30) := ⟨⟨by decide +kernel, by decide +kernel⟩, List.mem_of_getElem? (i := 1088) (by decide +kernel), List.mem_of_getElem? (i := 1549) (by decide +kernel), List.mem_of_getElem? (i := 1550) (by decide +kernel)⟩
theorem lw_p60 : lw_okq (⟨"RateOfficeModel", "offBalanceNow", "()I"⟩, 30) := ⟨⟨by decide +kernel, by decide +kernel⟩, List.mem_of_getElem? (i := 1088) (by decide +kernel), List.mem_of_getElem? (i := 1553) (by decide +kernel), List.mem_of_getElem? (i := 1554) (by decide +kernel)⟩
theorem lw_p61 : lw_okq (⟨"RateOfficeModel", "allCapped", "(I)J"⟩, 30) := ⟨⟨by decide +kernel, by decide +kernel⟩, List.mem_of_getElem? (i := 1088) (by decide +kernel), List.mem_of_getElem? (i := 1557) (by decide +kernel), List.mem_of_getElem? (i := 1558) (by decide +kernel)⟩
theorem lw_p62 : lw_okq (⟨"RateOfficeModel", "cappedBy", "(II)J"⟩, 30) := ⟨⟨by decide +kernel, by decide +kernel⟩, List.mem_of_getElem? (i := 1088) (by decide +kernel), List.mem_of_getElem? (i := 1561) (by decide +kernel), List.mem_of_getElem? (i := 1562) (by decide +kernel)⟩
theorem lw_p63 : lw_okq (⟨"RateOfficeModel", "rawBy", "(II)J"⟩, 30) := ⟨⟨by decide +kernel, by decide +kernel⟩, List.mem_of_getElem? (i := 1088) (by decide +kernel), List.mem_of_getElem? (i := 1565) (by decide +kernel), List.mem_of_getElem? (i := 1566) (by decide +kernel)⟩
def lw_privs_4 : List (MethodName × Nat) := [(⟨"RateOfficeModel", "rebases", "()V"⟩, 30), (⟨"RateOfficeModel", "paid", "()J"⟩, 30), (⟨"RateOfficeModel", "allOf", "(I)J"⟩, 30), (⟨"RateOfficeModel", "levels", "()V"⟩, 30), (⟨"RateOfficeModel", "isLevel", "(II)Z"⟩, 30), (⟨"RateOfficeModel", "isRisk", "(I)Z"⟩, 30), (⟨"RateOfficeModel", "laysLevels", "(I)Z"⟩, 30), (⟨"RateOfficeModel", "goes", "(I)V"⟩, 30), (⟨"RateOfficeModel", "joins", "(II)V"⟩, 30), (⟨"RateOfficeModel", "classesOf", "(I)I"⟩, 30), (⟨"RateOfficeModel", "farthestOff", "(I)I"⟩, 30), (⟨"RateOfficeModel", "byNow", "()I"⟩, 30), (⟨"RateOfficeModel", "offBalanceNow", "()I"⟩, 30), (⟨"RateOfficeModel", "allCapped", "(I)J"⟩, 30), (⟨"RateOfficeModel", "cappedBy", "(II)J"⟩, 30), (⟨"RateOfficeModel", "rawBy", "(II)J"⟩, 30)]
theorem lw_r4 : ∀ q ∈ lw_privs_4, lw_okq q := List.forall_mem_cons.mpr ⟨lw_p48, List.forall_mem_cons.mpr ⟨lw_p49, List.forall_mem_cons.mpr ⟨lw_p50, List.forall_mem_cons.mpr ⟨lw_p51, List.forall_mem_cons.mpr ⟨lw_p52, List.forall_mem_cons.mpr ⟨lw_p53, List.forall_mem_cons.mpr ⟨lw_p54, List.forall_mem_cons.mpr ⟨lw_p55, List.forall_mem_cons.mpr ⟨lw_p56, List.forall_mem_cons.mpr ⟨lw_p57, List.forall_mem_cons.mpr ⟨lw_p58, List.forall_mem_cons.mpr ⟨lw_p59, List.forall_mem_cons.mpr ⟨lw_p60, List.forall_mem_cons.mpr ⟨lw_p61, List.forall_mem_cons.mpr ⟨lw_p62, List.forall_mem_cons.mpr ⟨lw_p63, fun _ h => absurd h List.not_mem_nil⟩⟩⟩⟩⟩⟩⟩⟩⟩⟩⟩⟩⟩⟩⟩⟩
theorem lw_p64 : lw_okq (⟨"RateOfficeModel", "lowerEnd", "(I)J"⟩, 30) := ⟨⟨by decide +kernel, by decide +kernel⟩, List.mem_of_getElem? (i := 1088) (by decide +kernel), List.mem_of_getElem? (i := 1569) (by decide +kernel), List.mem_of_getElem? (i := 1570) (by decide +kernel)⟩
theorem lw_p65 : lw_okq (⟨"RateOfficeModel", "upperEnd", "(I)J"⟩, 30) := ⟨⟨by decide +kernel, by decide +kernel⟩, List.mem_of_getElem? (i := 1088) (by decide +kernel), List.mem_of_getElem? (i := 1573) (by decide +kernel), List.mem_of_getElem? (i := 1574) (by decide +kernel)⟩
theorem lw_p66 : lw_okq (⟨"RateOfficeModel", "changeBy", "(II)J"⟩, 30) := ⟨⟨by decide +kernel, by decide +kernel⟩, List.mem_of_getElem? (i := 1088) (by decide +kernel), List.mem_of_getElem? (i := 1577) (by decide +kernel), List.mem_of_getElem? (i := 1578) (by decide +kernel)⟩
theorem lw_p67 : lw_okq (⟨"RateOfficeModel", "misfit", "()J"⟩, 30) := ⟨⟨by decide +kernel, by decide +kernel⟩, List.mem_of_getElem? (i := 1088) (by decide +kernel), List.mem_of_getElem? (i := 1585) (by decide +kernel), List.mem_of_getElem? (i := 1586) (by decide +kernel)⟩
theorem lw_p68 : lw_okq (⟨"RateOfficeModel", "goesAside", "()V"⟩, 30) := ⟨⟨by decide +kernel, by decide +kernel⟩, List.mem_of_getElem? (i := 1088) (by decide +kernel), List.mem_of_getElem? (i := 1613) (by decide +kernel), List.mem_of_getElem? (i := 1614) (by decide +kernel)⟩
theorem lw_p69 : lw_okq (⟨"RateOfficeModel", "comesBack", "()V"⟩, 30) := ⟨⟨by decide +kernel, by decide +kernel⟩, List.mem_of_getElem? (i := 1088) (by decide +kernel), List.mem_of_getElem? (i := 1617) (by decide +kernel), List.mem_of_getElem? (i := 1618) (by decide +kernel)⟩
theorem lw_p70 : lw_okq (⟨"RateOfficeModel", "isMet", "(I)Z"⟩, 30) := ⟨⟨by decide +kernel, by decide +kernel⟩, List.mem_of_getElem? (i := 1088) (by decide +kernel), List.mem_of_getElem? (i := 1648) (by decide +kernel), List.mem_of_getElem? (i := 1649) (by decide +kernel)⟩
theorem lw_p71 : lw_okq (⟨"RateOfficeModel", "draw", "(I)I"⟩, 30) := ⟨⟨by decide +kernel, by decide +kernel⟩, List.mem_of_getElem? (i := 1088) (by decide +kernel), List.mem_of_getElem? (i := 1656) (by decide +kernel), List.mem_of_getElem? (i := 1657) (by decide +kernel)⟩
theorem lw_p72 : lw_okq (⟨"RateOfficeModel", "classes", "(Z)I"⟩, 30) := ⟨⟨by decide +kernel, by decide +kernel⟩, List.mem_of_getElem? (i := 1088) (by decide +kernel), List.mem_of_getElem? (i := 1666) (by decide +kernel), List.mem_of_getElem? (i := 1667) (by decide +kernel)⟩
def lw_privs_5 : List (MethodName × Nat) := [(⟨"RateOfficeModel", "lowerEnd", "(I)J"⟩, 30), (⟨"RateOfficeModel", "upperEnd", "(I)J"⟩, 30), (⟨"RateOfficeModel", "changeBy", "(II)J"⟩, 30), (⟨"RateOfficeModel", "misfit", "()J"⟩, 30), (⟨"RateOfficeModel", "goesAside", "()V"⟩, 30), (⟨"RateOfficeModel", "comesBack", "()V"⟩, 30), (⟨"RateOfficeModel", "isMet", "(I)Z"⟩, 30), (⟨"RateOfficeModel", "draw", "(I)I"⟩, 30), (⟨"RateOfficeModel", "classes", "(Z)I"⟩, 30)]
theorem lw_r5 : ∀ q ∈ lw_privs_5, lw_okq q := List.forall_mem_cons.mpr ⟨lw_p64, List.forall_mem_cons.mpr ⟨lw_p65, List.forall_mem_cons.mpr ⟨lw_p66, List.forall_mem_cons.mpr ⟨lw_p67, List.forall_mem_cons.mpr ⟨lw_p68, List.forall_mem_cons.mpr ⟨lw_p69, List.forall_mem_cons.mpr ⟨lw_p70, List.forall_mem_cons.mpr ⟨lw_p71, List.forall_mem_cons.mpr ⟨lw_p72, fun _ h => absurd h List.not_mem_nil⟩⟩⟩⟩⟩⟩⟩⟩⟩
def lw_privs : List (MethodName × Nat) := lw_privs_1 ++ (lw_privs_2 ++ (lw_privs_3 ++ (lw_privs_4 ++ (lw_privs_5))))
def lw_tbl : List Cond := k2_sels lw_privs ++ tables_1
theorem lw_privs_ok : ∀ q ∈ lw_privs, lw_okq q := by
  show ∀ q ∈ lw_privs_1 ++ (lw_privs_2 ++ (lw_privs_3 ++ (lw_privs_4 ++ (lw_privs_5)))), lw_okq q
  exact List.forall_mem_append.mpr ⟨lw_r1, List.forall_mem_append.mpr ⟨lw_r2, List.forall_mem_append.mpr ⟨lw_r3, List.forall_mem_append.mpr ⟨lw_r4, lw_r5⟩⟩⟩⟩
end
section
def RX0 : String := "RateOffice$Book"
def TX0 : u_T := fun k => match k with
  | 0 => ("RateOffice$Book", "riskCount", "I", false)
  | 1 => ("RateOffice$Book", "base", "I", false)
  | 2 => ("RateOffice$Book", "capRate", "I", false)
  | 3 => ("RateOffice$Book", "trustWeight", "I", false)
  | 4 => ("RateOffice$Book", "fleetSize", "I", false)
  | 5 => ("RateOffice$Book", "fleetOff", "I", false)
  | 6 => ("RateOffice$Book", "joinBits", "I", false)
  | 7 => ("RateOffice$Book", "exposures", "[I", true)
  | 8 => ("RateOffice$Book", "claimsOf", "[I", true)
  | 9 => ("RateOffice$Book", "olds", "[I", true)
  | 10 => ("RateOffice$Book", "levelsOf", "[I", true)
  | _ => ("RateOffice$Book", "relativities", "[I", true)
def tyX0 : Nat → FieldType := fun k => match k with
  | 0 => .int
  | 1 => .int
  | 2 => .int
  | 3 => .int
  | 4 => .int
  | 5 => .int
  | 6 => .int
  | 7 => .array .int
  | 8 => .array .int
  | 9 => .array .int
  | 10 => .array .int
  | _ => .array .int
abbrev wsX00 : List Cond := u_ws RX0 TX0 12
theorem nmX0 : ∀ a, a < 12 → ∀ b, b < 12 → a ≠ b → (TX0 a).2.1 ≠ (TX0 b).2.1 := by decide +kernel
theorem tyX0_ok : ∀ k, k < 12 → parseFieldDescriptor (TX0 k).2.2.1 = some (tyX0 k) := by decide +kernel
abbrev cX0_init : ByteArray := prog_2_method_1_code
def yX0_init : MethodName := ⟨RX0, "<init>", "()V"⟩
abbrev cX0_clear : ByteArray := prog_2_method_2_code
def yX0_clear : MethodName := ⟨RX0, "clear", "()V"⟩
abbrev cX0_copyFrom : ByteArray := prog_2_method_3_code
def yX0_copyFrom : MethodName := ⟨RX0, "copyFrom", "(LRateOffice$Book;)V"⟩
abbrev cX0_hasRisk : ByteArray := prog_2_method_4_code
def yX0_hasRisk : MethodName := ⟨RX0, "hasRisk", "(I)Z"⟩
abbrev cX0_addRisk : ByteArray := prog_2_method_5_code
def yX0_addRisk : MethodName := ⟨RX0, "addRisk", "(IIII)V"⟩
abbrev cX0_removeRisk : ByteArray := prog_2_method_6_code
def yX0_removeRisk : MethodName := ⟨RX0, "removeRisk", "(I)V"⟩
abbrev cX0_isJoined : ByteArray := prog_2_method_7_code
def yX0_isJoined : MethodName := ⟨RX0, "isJoined", "(II)Z"⟩
abbrev cX0_startsClass : ByteArray := prog_2_method_8_code
def yX0_startsClass : MethodName := ⟨RX0, "startsClass", "(II)Z"⟩
abbrev cX0_firstOf : ByteArray := prog_2_method_9_code
def yX0_firstOf : MethodName := ⟨RX0, "firstOf", "(II)I"⟩
abbrev cX0_lastOf : ByteArray := prog_2_method_10_code
def yX0_lastOf : MethodName := ⟨RX0, "lastOf", "(II)I"⟩
abbrev cX0_setClass : ByteArray := prog_2_method_11_code
def yX0_setClass : MethodName := ⟨RX0, "setClass", "(III)V"⟩
abbrev cX0_setAll : ByteArray := prog_2_method_12_code
def yX0_setAll : MethodName := ⟨RX0, "setAll", "(II)V"⟩
abbrev cX0_joinToNext : ByteArray := prog_2_method_13_code
def yX0_joinToNext : MethodName := ⟨RX0, "joinToNext", "(II)V"⟩
abbrev cX0_mark : ByteArray := prog_2_method_14_code
def yX0_mark : MethodName := ⟨RX0, "mark", "(II)V"⟩
abbrev cX0_part : ByteArray := prog_2_method_15_code
def yX0_part : MethodName := ⟨RX0, "part", "(II)V"⟩
abbrev cX0_sumOf : ByteArray := prog_2_method_16_code
def yX0_sumOf : MethodName := ⟨RX0, "sumOf", "([I)J"⟩
abbrev cX0_countFleets : ByteArray := prog_2_method_17_code
def yX0_countFleets : MethodName := ⟨RX0, "countFleets", "()I"⟩
abbrev cX0_countKinds : ByteArray := prog_2_method_18_code
def yX0_countKinds : MethodName := ⟨RX0, "countKinds", "()I"⟩
abbrev cX0_isFirstOfKind : ByteArray := prog_2_method_19_code
def yX0_isFirstOfKind : MethodName := ⟨RX0, "isFirstOfKind", "(I)Z"⟩
abbrev cX0_drawClaims : ByteArray := prog_2_method_20_code
def yX0_drawClaims : MethodName := ⟨RX0, "drawClaims", "(III)V"⟩
abbrev cX0_numberBehind : ByteArray := prog_2_method_21_code
def yX0_numberBehind : MethodName := ⟨RX0, "numberBehind", "(J)J"⟩
abbrev cX0_drawn : ByteArray := prog_2_method_22_code
def yX0_drawn : MethodName := ⟨RX0, "drawn", "(JI)I"⟩
def RX1 : String := "RateOffice$Capping"
def TX1 : u_T := fun k => match k with
  | 0 => ("RateOffice$Capping", "fit", "LRateOffice$Fit;", true)
  | 1 => ("RateOffice$Capping", "book", "LRateOffice$Book;", true)
  | 2 => ("RateOffice$Capping", "cappedOnes", "[J", true)
  | 3 => ("RateOffice$Capping", "offBalanceFound", "I", false)
  | _ => ("RateOffice$Capping", "scale", "I", false)
def tyX1 : Nat → FieldType := fun k => match k with
  | 0 => .object "RateOffice$Fit"
  | 1 => .object "RateOffice$Book"
  | 2 => .array .long
  | 3 => .int
  | _ => .int
abbrev wsX10 : List Cond := u_ws RX1 TX1 5
theorem nmX1 : ∀ a, a < 5 → ∀ b, b < 5 → a ≠ b → (TX1 a).2.1 ≠ (TX1 b).2.1 := by decide +kernel
theorem tyX1_ok : ∀ k, k < 5 → parseFieldDescriptor (TX1 k).2.2.1 = some (tyX1 k) := by decide +kernel
abbrev cX1_init : ByteArray := prog_3_method_1_code
def yX1_init : MethodName := ⟨RX1, "<init>", "(LRateOffice$Fit;)V"⟩
abbrev cX1_settle : ByteArray := prog_3_method_2_code
def yX1_settle : MethodName := ⟨RX1, "settle", "()V"⟩
abbrev cX1_scaled : ByteArray := prog_3_method_3_code
def yX1_scaled : MethodName := ⟨RX1, "scaled", "(II)J"⟩
abbrev cX1_leeway : ByteArray := prog_3_method_4_code
def yX1_leeway : MethodName := ⟨RX1, "leeway", "(II)J"⟩
abbrev cX1_cappedBy : ByteArray := prog_3_method_5_code
def yX1_cappedBy : MethodName := ⟨RX1, "cappedBy", "(III)J"⟩
abbrev cX1_sumBy : ByteArray := prog_3_method_6_code
def yX1_sumBy : MethodName := ⟨RX1, "sumBy", "(II)J"⟩
abbrev cX1_searchOffBalance : ByteArray := prog_3_method_7_code
def yX1_searchOffBalance : MethodName := ⟨RX1, "searchOffBalance", "()I"⟩
abbrev cX1_searchCap : ByteArray := prog_3_method_8_code
def yX1_searchCap : MethodName := ⟨RX1, "searchCap", "()I"⟩
abbrev cX1_sumCapped : ByteArray := prog_3_method_9_code
def yX1_sumCapped : MethodName := ⟨RX1, "sumCapped", "()J"⟩
abbrev cX1_changeOf : ByteArray := prog_3_method_10_code
def yX1_changeOf : MethodName := ⟨RX1, "changeOf", "(I)J"⟩
abbrev cX1_isChanged : ByteArray := prog_3_method_11_code
def yX1_isChanged : MethodName := ⟨RX1, "isChanged", "(II)Z"⟩
abbrev cX1_rankOf : ByteArray := prog_3_method_12_code
def yX1_rankOf : MethodName := ⟨RX1, "rankOf", "(I)I"⟩
def RX2 : String := "RateOffice$Fit"
def TX2 : u_T := fun k => match k with
  | 0 => ("RateOffice$Fit", "plan", "LRateOffice$Plan;", true)
  | 1 => ("RateOffice$Fit", "book", "LRateOffice$Book;", true)
  | 2 => ("RateOffice$Fit", "premiums", "[J", true)
  | 3 => ("RateOffice$Fit", "claimSums", "[J", true)
  | 4 => ("RateOffice$Fit", "premiumSums", "[J", true)
  | 5 => ("RateOffice$Fit", "exposureSums", "[J", true)
  | _ => ("RateOffice$Fit", "riskSums", "[I", true)
def tyX2 : Nat → FieldType := fun k => match k with
  | 0 => .object "RateOffice$Plan"
  | 1 => .object "RateOffice$Book"
  | 2 => .array .long
  | 3 => .array .long
  | 4 => .array .long
  | 5 => .array .long
  | _ => .array .int
abbrev wsX20 : List Cond := u_ws RX2 TX2 7
theorem nmX2 : ∀ a, a < 7 → ∀ b, b < 7 → a ≠ b → (TX2 a).2.1 ≠ (TX2 b).2.1 := by decide +kernel
theorem tyX2_ok : ∀ k, k < 7 → parseFieldDescriptor (TX2 k).2.2.1 = some (tyX2 k) := by decide +kernel
abbrev cX2_init : ByteArray := prog_4_method_1_code
def yX2_init : MethodName := ⟨RX2, "<init>", "(LRateOffice$Plan;LRateOffice$Book;)V"⟩
abbrev cX2_behindFactors : ByteArray := prog_4_method_2_code
def yX2_behindFactors : MethodName := ⟨RX2, "behindFactors", "(III)J"⟩
abbrev cX2_premiumFor : ByteArray := prog_4_method_3_code
def yX2_premiumFor : MethodName := ⟨RX2, "premiumFor", "(II)J"⟩
abbrev cX2_premiumOf : ByteArray := prog_4_method_4_code
def yX2_premiumOf : MethodName := ⟨RX2, "premiumOf", "(I)J"⟩
abbrev cX2_price : ByteArray := prog_4_method_5_code
def yX2_price : MethodName := ⟨RX2, "price", "()V"⟩
abbrev cX2_sumPaid : ByteArray := prog_4_method_6_code
def yX2_sumPaid : MethodName := ⟨RX2, "sumPaid", "()J"⟩
abbrev cX2_measure : ByteArray := prog_4_method_7_code
def yX2_measure : MethodName := ⟨RX2, "measure", "(I)V"⟩
abbrev cX2_gather : ByteArray := prog_4_method_8_code
def yX2_gather : MethodName := ⟨RX2, "gather", "(I)V"⟩
abbrev cX2_addToLower : ByteArray := prog_4_method_9_code
def yX2_addToLower : MethodName := ⟨RX2, "addToLower", "(I)V"⟩
abbrev cX2_differsBy : ByteArray := prog_4_method_10_code
def yX2_differsBy : MethodName := ⟨RX2, "differsBy", "(I)J"⟩
abbrev cX2_balances : ByteArray := prog_4_method_11_code
def yX2_balances : MethodName := ⟨RX2, "balances", "(II)Z"⟩
abbrev cX2_isOff : ByteArray := prog_4_method_12_code
def yX2_isOff : MethodName := ⟨RX2, "isOff", "(II)Z"⟩
abbrev cX2_isFilledClass : ByteArray := prog_4_method_13_code
def yX2_isFilledClass : MethodName := ⟨RX2, "isFilledClass", "(II)Z"⟩
abbrev cX2_countUnbalanced : ByteArray := prog_4_method_14_code
def yX2_countUnbalanced : MethodName := ⟨RX2, "countUnbalanced", "()I"⟩
abbrev cX2_sumMisfit : ByteArray := prog_4_method_15_code
def yX2_sumMisfit : MethodName := ⟨RX2, "sumMisfit", "()J"⟩
abbrev cX2_worstSlot : ByteArray := prog_4_method_16_code
def yX2_worstSlot : MethodName := ⟨RX2, "worstSlot", "()I"⟩
abbrev cX2_farthestOff : ByteArray := prog_4_method_17_code
def yX2_farthestOff : MethodName := ⟨RX2, "farthestOff", "(I)I"⟩
abbrev cX2_countClasses : ByteArray := prog_4_method_18_code
def yX2_countClasses : MethodName := ⟨RX2, "countClasses", "(I)I"⟩
abbrev cX2_countAllClasses : ByteArray := prog_4_method_19_code
def yX2_countAllClasses : MethodName := ⟨RX2, "countAllClasses", "(Z)I"⟩
abbrev cX2_countAt : ByteArray := prog_4_method_20_code
def yX2_countAt : MethodName := ⟨RX2, "countAt", "(II)I"⟩
abbrev cX2_turnOnce : ByteArray := prog_4_method_21_code
def yX2_turnOnce : MethodName := ⟨RX2, "turnOnce", "(I)I"⟩
abbrev cX2_turned : ByteArray := prog_4_method_22_code
def yX2_turned : MethodName := ⟨RX2, "turned", "(II)I"⟩
abbrev cX2_playRounds : ByteArray := prog_4_method_23_code
def yX2_playRounds : MethodName := ⟨RX2, "playRounds", "(II)Z"⟩
abbrev cX2_roundsTillBalance : ByteArray := prog_4_method_24_code
def yX2_roundsTillBalance : MethodName := ⟨RX2, "roundsTillBalance", "(I)I"⟩
abbrev cX2_rebaseBook : ByteArray := prog_4_method_25_code
def yX2_rebaseBook : MethodName := ⟨RX2, "rebaseBook", "()V"⟩
abbrev cX2_levelBook : ByteArray := prog_4_method_26_code
def yX2_levelBook : MethodName := ⟨RX2, "levelBook", "()V"⟩
abbrev cX2_widestClass : ByteArray := prog_4_method_27_code
def yX2_widestClass : MethodName := ⟨RX2, "widestClass", "(I)I"⟩
abbrev cX2_divideRelativities : ByteArray := prog_4_method_28_code
def yX2_divideRelativities : MethodName := ⟨RX2, "divideRelativities", "(II)V"⟩
def RX3 : String := "RateOffice$Plan"
def TX3 : u_T := fun k => match k with
  | 0 => ("RateOffice$Plan", "factorCount", "I", false)
  | 1 => ("RateOffice$Plan", "bound", "I", false)
  | 2 => ("RateOffice$Plan", "seed", "I", false)
  | 3 => ("RateOffice$Plan", "names", "[I", true)
  | 4 => ("RateOffice$Plan", "levelCounts", "[I", true)
  | 5 => ("RateOffice$Plan", "lows", "[I", true)
  | _ => ("RateOffice$Plan", "highs", "[I", true)
def tyX3 : Nat → FieldType := fun k => match k with
  | 0 => .int
  | 1 => .int
  | 2 => .int
  | 3 => .array .int
  | 4 => .array .int
  | 5 => .array .int
  | _ => .array .int
abbrev wsX30 : List Cond := u_ws RX3 TX3 7
theorem nmX3 : ∀ a, a < 7 → ∀ b, b < 7 → a ≠ b → (TX3 a).2.1 ≠ (TX3 b).2.1 := by decide +kernel
theorem tyX3_ok : ∀ k, k < 7 → parseFieldDescriptor (TX3 k).2.2.1 = some (tyX3 k) := by decide +kernel
abbrev cX3_init : ByteArray := prog_5_method_1_code
def yX3_init : MethodName := ⟨RX3, "<init>", "()V"⟩
abbrev cX3_clear : ByteArray := prog_5_method_2_code
def yX3_clear : MethodName := ⟨RX3, "clear", "()V"⟩
abbrev cX3_copyFrom : ByteArray := prog_5_method_3_code
def yX3_copyFrom : MethodName := ⟨RX3, "copyFrom", "(LRateOffice$Plan;)V"⟩
abbrev cX3_addFactor : ByteArray := prog_5_method_4_code
def yX3_addFactor : MethodName := ⟨RX3, "addFactor", "(II)V"⟩
abbrev cX3_find : ByteArray := prog_5_method_5_code
def yX3_find : MethodName := ⟨RX3, "find", "(I)I"⟩
abbrev cX3_hasFactor : ByteArray := prog_5_method_6_code
def yX3_hasFactor : MethodName := ⟨RX3, "hasFactor", "(I)Z"⟩
abbrev cX3_hasLevel : ByteArray := prog_5_method_7_code
def yX3_hasLevel : MethodName := ⟨RX3, "hasLevel", "(II)Z"⟩
abbrev cX3_hasLevels : ByteArray := prog_5_method_8_code
def yX3_hasLevels : MethodName := ⟨RX3, "hasLevels", "(I)Z"⟩
abbrev cX3_countKinds : ByteArray := prog_5_method_9_code
def yX3_countKinds : MethodName := ⟨RX3, "countKinds", "()I"⟩
def RX4 : String := "RateOffice$Reader"
def TX4 : u_T := fun k => match k with
  | 0 => ("RateOffice$Reader", "tokens", "LRateOffice$Tokens;", true)
  | 1 => ("RateOffice$Reader", "plan", "LRateOffice$Plan;", true)
  | 2 => ("RateOffice$Reader", "book", "LRateOffice$Book;", true)
  | 3 => ("RateOffice$Reader", "next", "I", false)
  | 4 => ("RateOffice$Reader", "kind", "I", false)
  | 5 => ("RateOffice$Reader", "value", "I", false)
  | 6 => ("RateOffice$Reader", "place", "I", false)
  | 7 => ("RateOffice$Reader", "wordsTold", "I", false)
  | 8 => ("RateOffice$Reader", "bandsTold", "I", false)
  | 9 => ("RateOffice$Reader", "faultKind", "I", false)
  | _ => ("RateOffice$Reader", "faultPlace", "I", false)
def tyX4 : Nat → FieldType := fun k => match k with
  | 0 => .object "RateOffice$Tokens"
  | 1 => .object "RateOffice$Plan"
  | 2 => .object "RateOffice$Book"
  | 3 => .int
  | 4 => .int
  | 5 => .int
  | 6 => .int
  | 7 => .int
  | 8 => .int
  | 9 => .int
  | _ => .int
abbrev wsX40 : List Cond := u_ws RX4 TX4 11
theorem nmX4 : ∀ a, a < 11 → ∀ b, b < 11 → a ≠ b → (TX4 a).2.1 ≠ (TX4 b).2.1 := by decide +kernel
theorem tyX4_ok : ∀ k, k < 11 → parseFieldDescriptor (TX4 k).2.2.1 = some (tyX4 k) := by decide +kernel
abbrev cX4_init : ByteArray := prog_6_method_1_code
def yX4_init : MethodName := ⟨RX4, "<init>", "()V"⟩
abbrev cX4_readText : ByteArray := prog_6_method_2_code
def yX4_readText : MethodName := ⟨RX4, "readText", "([BI)I"⟩
abbrev cX4_advance : ByteArray := prog_6_method_3_code
def yX4_advance : MethodName := ⟨RX4, "advance", "()V"⟩
abbrev cX4_fail : ByteArray := prog_6_method_4_code
def yX4_fail : MethodName := ⟨RX4, "fail", "(I)V"⟩
abbrev cX4_readLine : ByteArray := prog_6_method_5_code
def yX4_readLine : MethodName := ⟨RX4, "readLine", "()V"⟩
abbrev cX4_takeStop : ByteArray := prog_6_method_6_code
def yX4_takeStop : MethodName := ⟨RX4, "takeStop", "()V"⟩
abbrev cX4_takeNumber : ByteArray := prog_6_method_7_code
def yX4_takeNumber : MethodName := ⟨RX4, "takeNumber", "(II)I"⟩
abbrev cX4_factorHere : ByteArray := prog_6_method_8_code
def yX4_factorHere : MethodName := ⟨RX4, "factorHere", "()I"⟩
abbrev cX4_readFactor : ByteArray := prog_6_method_9_code
def yX4_readFactor : MethodName := ⟨RX4, "readFactor", "()V"⟩
abbrev cX4_readBand : ByteArray := prog_6_method_10_code
def yX4_readBand : MethodName := ⟨RX4, "readBand", "()V"⟩
abbrev cX4_readJoin : ByteArray := prog_6_method_11_code
def yX4_readJoin : MethodName := ⟨RX4, "readJoin", "()V"⟩
abbrev cX4_readRisk : ByteArray := prog_6_method_12_code
def yX4_readRisk : MethodName := ⟨RX4, "readRisk", "()V"⟩
abbrev cX4_readSetting : ByteArray := prog_6_method_13_code
def yX4_readSetting : MethodName := ⟨RX4, "readSetting", "(I)V"⟩
def RX5 : String := "RateOffice$Tokens"
def TX5 : u_T := fun k => match k with
  | 0 => ("RateOffice$Tokens", "kinds", "[I", true)
  | 1 => ("RateOffice$Tokens", "values", "[I", true)
  | 2 => ("RateOffice$Tokens", "places", "[I", true)
  | 3 => ("RateOffice$Tokens", "size", "I", false)
  | _ => ("RateOffice$Tokens", "at", "I", false)
def tyX5 : Nat → FieldType := fun k => match k with
  | 0 => .array .int
  | 1 => .array .int
  | 2 => .array .int
  | 3 => .int
  | _ => .int
abbrev wsX50 : List Cond := u_ws RX5 TX5 5
theorem nmX5 : ∀ a, a < 5 → ∀ b, b < 5 → a ≠ b → (TX5 a).2.1 ≠ (TX5 b).2.1 := by decide +kernel
theorem tyX5_ok : ∀ k, k < 5 → parseFieldDescriptor (TX5 k).2.2.1 = some (tyX5 k) := by decide +kernel
abbrev cX5_init : ByteArray := prog_7_method_1_code
def yX5_init : MethodName := ⟨RX5, "<init>", "()V"⟩
abbrev cX5_scan : ByteArray := prog_7_method_2_code
def yX5_scan : MethodName := ⟨RX5, "scan", "([BI)V"⟩
abbrev cX5_put : ByteArray := prog_7_method_3_code
def yX5_put : MethodName := ⟨RX5, "put", "(III)V"⟩
abbrev cX5_scanWord : ByteArray := prog_7_method_4_code
def yX5_scanWord : MethodName := ⟨RX5, "scanWord", "([BI)V"⟩
abbrev cX5_scanNumber : ByteArray := prog_7_method_5_code
def yX5_scanNumber : MethodName := ⟨RX5, "scanNumber", "([BI)V"⟩
abbrev cX5_isLetter : ByteArray := prog_7_method_6_code
def yX5_isLetter : MethodName := ⟨RX5, "isLetter", "(I)Z"⟩
abbrev cX5_isDigit : ByteArray := prog_7_method_7_code
def yX5_isDigit : MethodName := ⟨RX5, "isDigit", "(I)Z"⟩
abbrev cX5_letterBits : ByteArray := prog_7_method_8_code
def yX5_letterBits : MethodName := ⟨RX5, "letterBits", "(II)I"⟩
abbrev cX5_wordNumber : ByteArray := prog_7_method_9_code
def yX5_wordNumber : MethodName := ⟨RX5, "wordNumber", "(I)I"⟩
def RX6 : String := "RateOffice"
def TX6 : u_T := fun k => match k with
  | 0 => ("RateOffice", "tape", "[B", true)
  | 1 => ("RateOffice", "tapeLength", "I", false)
  | 2 => ("RateOffice", "faultKind", "I", false)
  | 3 => ("RateOffice", "faultPlace", "I", false)
  | 4 => ("RateOffice", "plan", "LRateOffice$Plan;", true)
  | 5 => ("RateOffice", "book", "LRateOffice$Book;", true)
  | 6 => ("RateOffice", "live", "LRateOffice$Fit;", true)
  | 7 => ("RateOffice", "capping", "LRateOffice$Capping;", true)
  | 8 => ("RateOffice", "trialBook", "LRateOffice$Book;", true)
  | 9 => ("RateOffice", "trial", "LRateOffice$Fit;", true)
  | 10 => ("RateOffice", "reader", "LRateOffice$Reader;", true)
  | 11 => ("RateOffice", "image", "LRateOffice$Book;", true)
  | 12 => ("RateOffice", "hasImage", "Z", false)
  | 13 => ("RateOffice", "history", "[LRateOffice$Book;", true)
  | 14 => ("RateOffice", "oldest", "I", false)
  | _ => ("RateOffice", "undoCount", "I", false)
def tyX6 : Nat → FieldType := fun k => match k with
  | 0 => .array .byte
  | 1 => .int
  | 2 => .int
  | 3 => .int
  | 4 => .object "RateOffice$Plan"
  | 5 => .object "RateOffice$Book"
  | 6 => .object "RateOffice$Fit"
  | 7 => .object "RateOffice$Capping"
  | 8 => .object "RateOffice$Book"
  | 9 => .object "RateOffice$Fit"
  | 10 => .object "RateOffice$Reader"
  | 11 => .object "RateOffice$Book"
  | 12 => .boolean
  | 13 => .array (.object "RateOffice$Book")
  | 14 => .int
  | _ => .int
abbrev wsX60 : List Cond := u_ws RX6 TX6 16
theorem nmX6 : ∀ a, a < 16 → ∀ b, b < 16 → a ≠ b → (TX6 a).2.1 ≠ (TX6 b).2.1 := by decide +kernel
theorem tyX6_ok : ∀ k, k < 16 → parseFieldDescriptor (TX6 k).2.2.1 = some (tyX6 k) := by decide +kernel
abbrev cX6_init : ByteArray := prog_1_method_1_code
def yX6_init : MethodName := ⟨RX6, "<init>", "()V"⟩
abbrev cX6_feed : ByteArray := prog_1_method_2_code
def yX6_feed : MethodName := ⟨RX6, "feed", "(IIIII)I"⟩
abbrev cX6_appendBytes : ByteArray := prog_1_method_3_code
def yX6_appendBytes : MethodName := ⟨RX6, "appendBytes", "(I)V"⟩
abbrev cX6_text : ByteArray := prog_1_method_4_code
def yX6_text : MethodName := ⟨RX6, "text", "(I)I"⟩
abbrev cX6_fault : ByteArray := prog_1_method_5_code
def yX6_fault : MethodName := ⟨RX6, "fault", "(I)I"⟩
abbrev cX6_named : ByteArray := prog_1_method_6_code
def yX6_named : MethodName := ⟨RX6, "named", "(I)I"⟩
abbrev cX6_turn : ByteArray := prog_1_method_7_code
def yX6_turn : MethodName := ⟨RX6, "turn", "(I)I"⟩
abbrev cX6_round : ByteArray := prog_1_method_8_code
def yX6_round : MethodName := ⟨RX6, "round", "(I)I"⟩
abbrev cX6_rebase : ByteArray := prog_1_method_9_code
def yX6_rebase : MethodName := ⟨RX6, "rebase", "()I"⟩
abbrev cX6_level : ByteArray := prog_1_method_10_code
def yX6_level : MethodName := ⟨RX6, "level", "()I"⟩
abbrev cX6_relativity : ByteArray := prog_1_method_11_code
def yX6_relativity : MethodName := ⟨RX6, "relativity", "(III)I"⟩
abbrev cX6_claims : ByteArray := prog_1_method_12_code
def yX6_claims : MethodName := ⟨RX6, "claims", "(II)I"⟩
abbrev cX6_risk : ByteArray := prog_1_method_13_code
def yX6_risk : MethodName := ⟨RX6, "risk", "(IIII)I"⟩
abbrev cX6_drop : ByteArray := prog_1_method_14_code
def yX6_drop : MethodName := ⟨RX6, "drop", "(I)I"⟩
abbrev cX6_join : ByteArray := prog_1_method_15_code
def yX6_join : MethodName := ⟨RX6, "join", "(II)I"⟩
abbrev cX6_cap : ByteArray := prog_1_method_16_code
def yX6_cap : MethodName := ⟨RX6, "cap", "(I)I"⟩
abbrev cX6_trust : ByteArray := prog_1_method_17_code
def yX6_trust : MethodName := ⟨RX6, "trust", "(I)I"⟩
abbrev cX6_fleet : ByteArray := prog_1_method_18_code
def yX6_fleet : MethodName := ⟨RX6, "fleet", "(II)I"⟩
abbrev cX6_factor : ByteArray := prog_1_method_19_code
def yX6_factor : MethodName := ⟨RX6, "factor", "(II)I"⟩
abbrev cX6_margin : ByteArray := prog_1_method_20_code
def yX6_margin : MethodName := ⟨RX6, "margin", "(III)J"⟩
abbrev cX6_of : ByteArray := prog_1_method_21_code
def yX6_of : MethodName := ⟨RX6, "of", "(II)J"⟩
abbrev cX6_all : ByteArray := prog_1_method_22_code
def yX6_all : MethodName := ⟨RX6, "all", "(I)J"⟩
abbrev cX6_fitted : ByteArray := prog_1_method_23_code
def yX6_fitted : MethodName := ⟨RX6, "fitted", "(I)I"⟩
abbrev cX6_unbalanced : ByteArray := prog_1_method_24_code
def yX6_unbalanced : MethodName := ⟨RX6, "unbalanced", "()I"⟩
abbrev cX6_offBalance : ByteArray := prog_1_method_25_code
def yX6_offBalance : MethodName := ⟨RX6, "offBalance", "()I"⟩
abbrev cX6_changes : ByteArray := prog_1_method_26_code
def yX6_changes : MethodName := ⟨RX6, "changes", "(I)I"⟩
abbrev cX6_share : ByteArray := prog_1_method_27_code
def yX6_share : MethodName := ⟨RX6, "share", "(II)I"⟩
abbrev cX6_atEnd : ByteArray := prog_1_method_28_code
def yX6_atEnd : MethodName := ⟨RX6, "atEnd", "(II)I"⟩
abbrev cX6_mostOff : ByteArray := prog_1_method_29_code
def yX6_mostOff : MethodName := ⟨RX6, "mostOff", "()I"⟩
abbrev cX6_step : ByteArray := prog_1_method_30_code
def yX6_step : MethodName := ⟨RX6, "step", "(II)J"⟩
abbrev cX6_swing : ByteArray := prog_1_method_31_code
def yX6_swing : MethodName := ⟨RX6, "swing", "(III)I"⟩
abbrev cX6_ratio : ByteArray := prog_1_method_32_code
def yX6_ratio : MethodName := ⟨RX6, "ratio", "(II)J"⟩
abbrev cX6_worst : ByteArray := prog_1_method_33_code
def yX6_worst : MethodName := ⟨RX6, "worst", "()I"⟩
abbrev cX6_hardest : ByteArray := prog_1_method_34_code
def yX6_hardest : MethodName := ⟨RX6, "hardest", "(I)I"⟩
abbrev cX6_ranked : ByteArray := prog_1_method_35_code
def yX6_ranked : MethodName := ⟨RX6, "ranked", "(I)I"⟩
abbrev cX6_leastCap : ByteArray := prog_1_method_36_code
def yX6_leastCap : MethodName := ⟨RX6, "leastCap", "()I"⟩
abbrev cX6_withoutFactor : ByteArray := prog_1_method_37_code
def yX6_withoutFactor : MethodName := ⟨RX6, "withoutFactor", "(II)J"⟩
abbrev cX6_bestJoin : ByteArray := prog_1_method_38_code
def yX6_bestJoin : MethodName := ⟨RX6, "bestJoin", "(II)I"⟩
abbrev cX6_misfitIfJoined : ByteArray := prog_1_method_39_code
def yX6_misfitIfJoined : MethodName := ⟨RX6, "misfitIfJoined", "(III)J"⟩
abbrev cX6_withoutRisk : ByteArray := prog_1_method_40_code
def yX6_withoutRisk : MethodName := ⟨RX6, "withoutRisk", "(II)I"⟩
abbrev cX6_quote : ByteArray := prog_1_method_41_code
def yX6_quote : MethodName := ⟨RX6, "quote", "(II)J"⟩
abbrev cX6_kinds : ByteArray := prog_1_method_42_code
def yX6_kinds : MethodName := ⟨RX6, "kinds", "(I)I"⟩
abbrev cX6_chance : ByteArray := prog_1_method_43_code
def yX6_chance : MethodName := ⟨RX6, "chance", "(IIIII)J"⟩
abbrev cX6_undo : ByteArray := prog_1_method_44_code
def yX6_undo : MethodName := ⟨RX6, "undo", "()I"⟩
abbrev cX6_keep : ByteArray := prog_1_method_45_code
def yX6_keep : MethodName := ⟨RX6, "keep", "()I"⟩
abbrev cX6_back : ByteArray := prog_1_method_46_code
def yX6_back : MethodName := ⟨RX6, "back", "()I"⟩
abbrev cX6_count : ByteArray := prog_1_method_47_code
def yX6_count : MethodName := ⟨RX6, "count", "(I)I"⟩
abbrev cX6_remember : ByteArray := prog_1_method_48_code
def yX6_remember : MethodName := ⟨RX6, "remember", "()V"⟩
abbrev cX6_historyIndex : ByteArray := prog_1_method_49_code
def yX6_historyIndex : MethodName := ⟨RX6, "historyIndex", "(I)I"⟩
abbrev cX6_within : ByteArray := prog_1_method_50_code
def yX6_within : MethodName := ⟨RX6, "within", "(III)Z"⟩
abbrev cX6_clamp : ByteArray := prog_1_method_51_code
def yX6_clamp : MethodName := ⟨RX6, "clamp", "(JII)I"⟩
abbrev cX6_slotShift : ByteArray := prog_1_method_52_code
def yX6_slotShift : MethodName := ⟨RX6, "slotShift", "(I)I"⟩
abbrev cX6_slot : ByteArray := prog_1_method_53_code
def yX6_slot : MethodName := ⟨RX6, "slot", "(II)I"⟩
abbrev cX6_levelIn : ByteArray := prog_1_method_54_code
def yX6_levelIn : MethodName := ⟨RX6, "levelIn", "(II)I"⟩
def RX7 : String := "RateOfficeModel"
def TX7 : u_T := fun k => match k with
  | 0 => ("RateOfficeModel", "thrown", "I", false)
  | 1 => ("RateOfficeModel", "tape", "[I", true)
  | 2 => ("RateOfficeModel", "taped", "I", false)
  | 3 => ("RateOfficeModel", "number", "[I", true)
  | 4 => ("RateOfficeModel", "isTold", "[Z", true)
  | 5 => ("RateOfficeModel", "name", "[I", true)
  | 6 => ("RateOfficeModel", "levels", "[I", true)
  | 7 => ("RateOfficeModel", "low", "[I", true)
  | 8 => ("RateOfficeModel", "high", "[I", true)
  | 9 => ("RateOfficeModel", "hasBand", "[Z", true)
  | 10 => ("RateOfficeModel", "joinTold", "[I", true)
  | 11 => ("RateOfficeModel", "read", "[I", true)
  | 12 => ("RateOfficeModel", "lines", "I", false)
  | 13 => ("RateOfficeModel", "size", "I", false)
  | 14 => ("RateOfficeModel", "at", "I", false)
  | 15 => ("RateOfficeModel", "place", "I", false)
  | 16 => ("RateOfficeModel", "sort", "I", false)
  | 17 => ("RateOfficeModel", "value", "I", false)
  | 18 => ("RateOfficeModel", "fault", "I", false)
  | 19 => ("RateOfficeModel", "faultPlace", "I", false)
  | 20 => ("RateOfficeModel", "lastFault", "I", false)
  | 21 => ("RateOfficeModel", "lastPlace", "I", false)
  | 22 => ("RateOfficeModel", "s", "[I", true)
  | 23 => ("RateOfficeModel", "aside", "[I", true)
  | 24 => ("RateOfficeModel", "image", "[I", true)
  | 25 => ("RateOfficeModel", "pasts", "[I", true)
  | 26 => ("RateOfficeModel", "undoable", "I", false)
  | 27 => ("RateOfficeModel", "hasImage", "Z", false)
  | 28 => ("RateOfficeModel", "levelNow", "[I", true)
  | _ => ("RateOfficeModel", "drawn", "I", false)
def tyX7 : Nat → FieldType := fun k => match k with
  | 0 => .int
  | 1 => .array .int
  | 2 => .int
  | 3 => .array .int
  | 4 => .array .boolean
  | 5 => .array .int
  | 6 => .array .int
  | 7 => .array .int
  | 8 => .array .int
  | 9 => .array .boolean
  | 10 => .array .int
  | 11 => .array .int
  | 12 => .int
  | 13 => .int
  | 14 => .int
  | 15 => .int
  | 16 => .int
  | 17 => .int
  | 18 => .int
  | 19 => .int
  | 20 => .int
  | 21 => .int
  | 22 => .array .int
  | 23 => .array .int
  | 24 => .array .int
  | 25 => .array .int
  | 26 => .int
  | 27 => .boolean
  | 28 => .array .int
  | _ => .int
abbrev wsX70 : List Cond := u_ws RX7 TX7 30
theorem nmX7 : ∀ a, a < 30 → ∀ b, b < 30 → a ≠ b → (TX7 a).2.1 ≠ (TX7 b).2.1 := by decide +kernel
theorem tyX7_ok : ∀ k, k < 30 → parseFieldDescriptor (TX7 k).2.2.1 = some (tyX7 k) := by decide +kernel
abbrev cX7_init : ByteArray := prog_9_method_1_code
def yX7_init : MethodName := ⟨RX7, "<init>", "()V"⟩
abbrev cX7_thrown : ByteArray := prog_9_method_2_code
def yX7_thrown : MethodName := ⟨RX7, "thrown", "()I"⟩
abbrev cX7_feed : ByteArray := prog_9_method_3_code
def yX7_feed : MethodName := ⟨RX7, "feed", "(IIIII)I"⟩
abbrev cX7_here : ByteArray := prog_9_method_4_code
def yX7_here : MethodName := ⟨RX7, "here", "()I"⟩
abbrev cX7_isSmall : ByteArray := prog_9_method_5_code
def yX7_isSmall : MethodName := ⟨RX7, "isSmall", "(I)Z"⟩
abbrev cX7_isDigit : ByteArray := prog_9_method_6_code
def yX7_isDigit : MethodName := ⟨RX7, "isDigit", "(I)Z"⟩
abbrev cX7_token : ByteArray := prog_9_method_7_code
def yX7_token : MethodName := ⟨RX7, "token", "()V"⟩
abbrev cX7_wordHere : ByteArray := prog_9_method_8_code
def yX7_wordHere : MethodName := ⟨RX7, "wordHere", "()I"⟩
abbrev cX7_nameHere : ByteArray := prog_9_method_9_code
def yX7_nameHere : MethodName := ⟨RX7, "nameHere", "()V"⟩
abbrev cX7_wrong : ByteArray := prog_9_method_10_code
def yX7_wrong : MethodName := ⟨RX7, "wrong", "(I)V"⟩
abbrev cX7_goOn : ByteArray := prog_9_method_11_code
def yX7_goOn : MethodName := ⟨RX7, "goOn", "()V"⟩
abbrev cX7_numeral : ByteArray := prog_9_method_12_code
def yX7_numeral : MethodName := ⟨RX7, "numeral", "(II)I"⟩
abbrev cX7_reading : ByteArray := prog_9_method_13_code
def yX7_reading : MethodName := ⟨RX7, "reading", "(I)I"⟩
abbrev cX7_reads : ByteArray := prog_9_method_14_code
def yX7_reads : MethodName := ⟨RX7, "reads", "(II)V"⟩
abbrev cX7_readOnce : ByteArray := prog_9_method_15_code
def yX7_readOnce : MethodName := ⟨RX7, "readOnce", "(III)V"⟩
abbrev cX7_namedAt : ByteArray := prog_9_method_16_code
def yX7_namedAt : MethodName := ⟨RX7, "namedAt", "(III)I"⟩
abbrev cX7_readFactor : ByteArray := prog_9_method_17_code
def yX7_readFactor : MethodName := ⟨RX7, "readFactor", "()V"⟩
abbrev cX7_factorHere : ByteArray := prog_9_method_18_code
def yX7_factorHere : MethodName := ⟨RX7, "factorHere", "()I"⟩
abbrev cX7_readBand : ByteArray := prog_9_method_19_code
def yX7_readBand : MethodName := ⟨RX7, "readBand", "()V"⟩
abbrev cX7_readJoin : ByteArray := prog_9_method_20_code
def yX7_readJoin : MethodName := ⟨RX7, "readJoin", "()V"⟩
abbrev cX7_readRisk : ByteArray := prog_9_method_21_code
def yX7_readRisk : MethodName := ⟨RX7, "readRisk", "()V"⟩
abbrev cX7_readFleet : ByteArray := prog_9_method_22_code
def yX7_readFleet : MethodName := ⟨RX7, "readFleet", "()V"⟩
abbrev cX7_readLine : ByteArray := prog_9_method_23_code
def yX7_readLine : MethodName := ⟨RX7, "readLine", "()V"⟩
abbrev cX7_freshText : ByteArray := prog_9_method_24_code
def yX7_freshText : MethodName := ⟨RX7, "freshText", "()V"⟩
abbrev cX7_readText : ByteArray := prog_9_method_25_code
def yX7_readText : MethodName := ⟨RX7, "readText", "(I)V"⟩
abbrev cX7_takeText : ByteArray := prog_9_method_26_code
def yX7_takeText : MethodName := ⟨RX7, "takeText", "()V"⟩
abbrev cX7_text : ByteArray := prog_9_method_27_code
def yX7_text : MethodName := ⟨RX7, "text", "(I)I"⟩
abbrev cX7_fault : ByteArray := prog_9_method_28_code
def yX7_fault : MethodName := ⟨RX7, "fault", "(I)I"⟩
abbrev cX7_factors : ByteArray := prog_9_method_29_code
def yX7_factors : MethodName := ⟨RX7, "factors", "()I"⟩
abbrev cX7_named : ByteArray := prog_9_method_30_code
def yX7_named : MethodName := ⟨RX7, "named", "(I)I"⟩
abbrev cX7_copies : ByteArray := prog_9_method_31_code
def yX7_copies : MethodName := ⟨RX7, "copies", "([II[II)V"⟩
abbrev cX7_begins : ByteArray := prog_9_method_32_code
def yX7_begins : MethodName := ⟨RX7, "begins", "()V"⟩
abbrev cX7_remembers : ByteArray := prog_9_method_33_code
def yX7_remembers : MethodName := ⟨RX7, "remembers", "()V"⟩
abbrev cX7_undo : ByteArray := prog_9_method_34_code
def yX7_undo : MethodName := ⟨RX7, "undo", "()I"⟩
abbrev cX7_keep : ByteArray := prog_9_method_35_code
def yX7_keep : MethodName := ⟨RX7, "keep", "()I"⟩
abbrev cX7_back : ByteArray := prog_9_method_36_code
def yX7_back : MethodName := ⟨RX7, "back", "()I"⟩
abbrev cX7_many : ByteArray := prog_9_method_37_code
def yX7_many : MethodName := ⟨RX7, "many", "()I"⟩
abbrev cX7_isFactor : ByteArray := prog_9_method_38_code
def yX7_isFactor : MethodName := ⟨RX7, "isFactor", "(I)Z"⟩
abbrev cX7_isLevel : ByteArray := prog_9_method_39_code
def yX7_isLevel : MethodName := ⟨RX7, "isLevel", "(II)Z"⟩
abbrev cX7_isRisk : ByteArray := prog_9_method_40_code
def yX7_isRisk : MethodName := ⟨RX7, "isRisk", "(I)Z"⟩
abbrev cX7_isJoined : ByteArray := prog_9_method_41_code
def yX7_isJoined : MethodName := ⟨RX7, "isJoined", "(II)Z"⟩
abbrev cX7_firstOf : ByteArray := prog_9_method_42_code
def yX7_firstOf : MethodName := ⟨RX7, "firstOf", "(II)I"⟩
abbrev cX7_lastOf : ByteArray := prog_9_method_43_code
def yX7_lastOf : MethodName := ⟨RX7, "lastOf", "(II)I"⟩
abbrev cX7_relativityOf : ByteArray := prog_9_method_44_code
def yX7_relativityOf : MethodName := ⟨RX7, "relativityOf", "(II)I"⟩
abbrev cX7_relates : ByteArray := prog_9_method_45_code
def yX7_relates : MethodName := ⟨RX7, "relates", "(III)V"⟩
abbrev cX7_within : ByteArray := prog_9_method_46_code
def yX7_within : MethodName := ⟨RX7, "within", "(JJJ)J"⟩
abbrev cX7_premiumBy : ByteArray := prog_9_method_47_code
def yX7_premiumBy : MethodName := ⟨RX7, "premiumBy", "(II)J"⟩
abbrev cX7_premiumBehind : ByteArray := prog_9_method_48_code
def yX7_premiumBehind : MethodName := ⟨RX7, "premiumBehind", "(III)J"⟩
abbrev cX7_premiumOf : ByteArray := prog_9_method_49_code
def yX7_premiumOf : MethodName := ⟨RX7, "premiumOf", "(I)J"⟩
abbrev cX7_isOf : ByteArray := prog_9_method_50_code
def yX7_isOf : MethodName := ⟨RX7, "isOf", "(III)Z"⟩
abbrev cX7_risksOf : ByteArray := prog_9_method_51_code
def yX7_risksOf : MethodName := ⟨RX7, "risksOf", "(II)I"⟩
abbrev cX7_sumOf : ByteArray := prog_9_method_52_code
def yX7_sumOf : MethodName := ⟨RX7, "sumOf", "(III)J"⟩
abbrev cX7_premiumsOf : ByteArray := prog_9_method_53_code
def yX7_premiumsOf : MethodName := ⟨RX7, "premiumsOf", "(II)J"⟩
abbrev cX7_without : ByteArray := prog_9_method_54_code
def yX7_without : MethodName := ⟨RX7, "without", "(J)J"⟩
abbrev cX7_balances : ByteArray := prog_9_method_55_code
def yX7_balances : MethodName := ⟨RX7, "balances", "(II)Z"⟩
abbrev cX7_unbalancedNow : ByteArray := prog_9_method_56_code
def yX7_unbalancedNow : MethodName := ⟨RX7, "unbalancedNow", "()I"⟩
abbrev cX7_misfit : ByteArray := prog_9_method_57_code
def yX7_misfit : MethodName := ⟨RX7, "misfit", "()J"⟩
abbrev cX7_trusted : ByteArray := prog_9_method_58_code
def yX7_trusted : MethodName := ⟨RX7, "trusted", "(IIII)I"⟩
abbrev cX7_turns : ByteArray := prog_9_method_59_code
def yX7_turns : MethodName := ⟨RX7, "turns", "(I)I"⟩
abbrev cX7_rounds : ByteArray := prog_9_method_60_code
def yX7_rounds : MethodName := ⟨RX7, "rounds", "(II)V"⟩
abbrev cX7_paid : ByteArray := prog_9_method_61_code
def yX7_paid : MethodName := ⟨RX7, "paid", "()J"⟩
abbrev cX7_allOf : ByteArray := prog_9_method_62_code
def yX7_allOf : MethodName := ⟨RX7, "allOf", "(I)J"⟩
abbrev cX7_rebases : ByteArray := prog_9_method_63_code
def yX7_rebases : MethodName := ⟨RX7, "rebases", "()V"⟩
abbrev cX7_levels : ByteArray := prog_9_method_64_code
def yX7_levels : MethodName := ⟨RX7, "levels", "()V"⟩
abbrev cX7_turn : ByteArray := prog_9_method_65_code
def yX7_turn : MethodName := ⟨RX7, "turn", "(I)I"⟩
abbrev cX7_round : ByteArray := prog_9_method_66_code
def yX7_round : MethodName := ⟨RX7, "round", "(I)I"⟩
abbrev cX7_rebase : ByteArray := prog_9_method_67_code
def yX7_rebase : MethodName := ⟨RX7, "rebase", "()I"⟩
abbrev cX7_level : ByteArray := prog_9_method_68_code
def yX7_level : MethodName := ⟨RX7, "level", "()I"⟩
abbrev cX7_relativity : ByteArray := prog_9_method_69_code
def yX7_relativity : MethodName := ⟨RX7, "relativity", "(III)I"⟩
abbrev cX7_claims : ByteArray := prog_9_method_70_code
def yX7_claims : MethodName := ⟨RX7, "claims", "(II)I"⟩
abbrev cX7_laysLevels : ByteArray := prog_9_method_71_code
def yX7_laysLevels : MethodName := ⟨RX7, "laysLevels", "(I)Z"⟩
abbrev cX7_risk : ByteArray := prog_9_method_72_code
def yX7_risk : MethodName := ⟨RX7, "risk", "(IIII)I"⟩
abbrev cX7_goes : ByteArray := prog_9_method_73_code
def yX7_goes : MethodName := ⟨RX7, "goes", "(I)V"⟩
abbrev cX7_drop : ByteArray := prog_9_method_74_code
def yX7_drop : MethodName := ⟨RX7, "drop", "(I)I"⟩
abbrev cX7_joins : ByteArray := prog_9_method_75_code
def yX7_joins : MethodName := ⟨RX7, "joins", "(II)V"⟩
abbrev cX7_join : ByteArray := prog_9_method_76_code
def yX7_join : MethodName := ⟨RX7, "join", "(II)I"⟩
abbrev cX7_cap : ByteArray := prog_9_method_77_code
def yX7_cap : MethodName := ⟨RX7, "cap", "(I)I"⟩
abbrev cX7_trust : ByteArray := prog_9_method_78_code
def yX7_trust : MethodName := ⟨RX7, "trust", "(I)I"⟩
abbrev cX7_fleet : ByteArray := prog_9_method_79_code
def yX7_fleet : MethodName := ⟨RX7, "fleet", "(II)I"⟩
abbrev cX7_classesOf : ByteArray := prog_9_method_80_code
def yX7_classesOf : MethodName := ⟨RX7, "classesOf", "(I)I"⟩
abbrev cX7_farthestOff : ByteArray := prog_9_method_81_code
def yX7_farthestOff : MethodName := ⟨RX7, "farthestOff", "(I)I"⟩
abbrev cX7_factor : ByteArray := prog_9_method_82_code
def yX7_factor : MethodName := ⟨RX7, "factor", "(II)I"⟩
abbrev cX7_margin : ByteArray := prog_9_method_83_code
def yX7_margin : MethodName := ⟨RX7, "margin", "(III)J"⟩
abbrev cX7_step : ByteArray := prog_9_method_84_code
def yX7_step : MethodName := ⟨RX7, "step", "(II)J"⟩
abbrev cX7_swing : ByteArray := prog_9_method_85_code
def yX7_swing : MethodName := ⟨RX7, "swing", "(III)I"⟩
abbrev cX7_ratio : ByteArray := prog_9_method_86_code
def yX7_ratio : MethodName := ⟨RX7, "ratio", "(II)J"⟩
abbrev cX7_share : ByteArray := prog_9_method_87_code
def yX7_share : MethodName := ⟨RX7, "share", "(II)I"⟩
abbrev cX7_atEnd : ByteArray := prog_9_method_88_code
def yX7_atEnd : MethodName := ⟨RX7, "atEnd", "(II)I"⟩
abbrev cX7_mostOff : ByteArray := prog_9_method_89_code
def yX7_mostOff : MethodName := ⟨RX7, "mostOff", "()I"⟩
abbrev cX7_worst : ByteArray := prog_9_method_90_code
def yX7_worst : MethodName := ⟨RX7, "worst", "()I"⟩
abbrev cX7_lowerEnd : ByteArray := prog_9_method_91_code
def yX7_lowerEnd : MethodName := ⟨RX7, "lowerEnd", "(I)J"⟩
abbrev cX7_upperEnd : ByteArray := prog_9_method_92_code
def yX7_upperEnd : MethodName := ⟨RX7, "upperEnd", "(I)J"⟩
abbrev cX7_rawBy : ByteArray := prog_9_method_93_code
def yX7_rawBy : MethodName := ⟨RX7, "rawBy", "(II)J"⟩
abbrev cX7_cappedBy : ByteArray := prog_9_method_94_code
def yX7_cappedBy : MethodName := ⟨RX7, "cappedBy", "(II)J"⟩
abbrev cX7_allCapped : ByteArray := prog_9_method_95_code
def yX7_allCapped : MethodName := ⟨RX7, "allCapped", "(I)J"⟩
abbrev cX7_offBalanceNow : ByteArray := prog_9_method_96_code
def yX7_offBalanceNow : MethodName := ⟨RX7, "offBalanceNow", "()I"⟩
abbrev cX7_byNow : ByteArray := prog_9_method_97_code
def yX7_byNow : MethodName := ⟨RX7, "byNow", "()I"⟩
abbrev cX7_changeBy : ByteArray := prog_9_method_98_code
def yX7_changeBy : MethodName := ⟨RX7, "changeBy", "(II)J"⟩
abbrev cX7_of : ByteArray := prog_9_method_99_code
def yX7_of : MethodName := ⟨RX7, "of", "(II)J"⟩
abbrev cX7_all : ByteArray := prog_9_method_100_code
def yX7_all : MethodName := ⟨RX7, "all", "(I)J"⟩
abbrev cX7_offBalance : ByteArray := prog_9_method_101_code
def yX7_offBalance : MethodName := ⟨RX7, "offBalance", "()I"⟩
abbrev cX7_changes : ByteArray := prog_9_method_102_code
def yX7_changes : MethodName := ⟨RX7, "changes", "(I)I"⟩
abbrev cX7_hardest : ByteArray := prog_9_method_103_code
def yX7_hardest : MethodName := ⟨RX7, "hardest", "(I)I"⟩
abbrev cX7_ranked : ByteArray := prog_9_method_104_code
def yX7_ranked : MethodName := ⟨RX7, "ranked", "(I)I"⟩
abbrev cX7_goesAside : ByteArray := prog_9_method_105_code
def yX7_goesAside : MethodName := ⟨RX7, "goesAside", "()V"⟩
abbrev cX7_comesBack : ByteArray := prog_9_method_106_code
def yX7_comesBack : MethodName := ⟨RX7, "comesBack", "()V"⟩
abbrev cX7_leastCap : ByteArray := prog_9_method_107_code
def yX7_leastCap : MethodName := ⟨RX7, "leastCap", "()I"⟩
abbrev cX7_fitted : ByteArray := prog_9_method_108_code
def yX7_fitted : MethodName := ⟨RX7, "fitted", "(I)I"⟩
abbrev cX7_unbalanced : ByteArray := prog_9_method_109_code
def yX7_unbalanced : MethodName := ⟨RX7, "unbalanced", "()I"⟩
abbrev cX7_isRounds : ByteArray := prog_9_method_110_code
def yX7_isRounds : MethodName := ⟨RX7, "isRounds", "(I)Z"⟩
abbrev cX7_withoutFactor : ByteArray := prog_9_method_111_code
def yX7_withoutFactor : MethodName := ⟨RX7, "withoutFactor", "(II)J"⟩
abbrev cX7_bestJoin : ByteArray := prog_9_method_112_code
def yX7_bestJoin : MethodName := ⟨RX7, "bestJoin", "(II)I"⟩
abbrev cX7_withoutRisk : ByteArray := prog_9_method_113_code
def yX7_withoutRisk : MethodName := ⟨RX7, "withoutRisk", "(II)I"⟩
abbrev cX7_quote : ByteArray := prog_9_method_114_code
def yX7_quote : MethodName := ⟨RX7, "quote", "(II)J"⟩
abbrev cX7_isMet : ByteArray := prog_9_method_115_code
def yX7_isMet : MethodName := ⟨RX7, "isMet", "(I)Z"⟩
abbrev cX7_kinds : ByteArray := prog_9_method_116_code
def yX7_kinds : MethodName := ⟨RX7, "kinds", "(I)I"⟩
abbrev cX7_draw : ByteArray := prog_9_method_117_code
def yX7_draw : MethodName := ⟨RX7, "draw", "(I)I"⟩
abbrev cX7_chance : ByteArray := prog_9_method_118_code
def yX7_chance : MethodName := ⟨RX7, "chance", "(IIIII)J"⟩
abbrev cX7_classes : ByteArray := prog_9_method_119_code
def yX7_classes : MethodName := ⟨RX7, "classes", "(Z)I"⟩
abbrev cX7_count : ByteArray := prog_9_method_120_code
def yX7_count : MethodName := ⟨RX7, "count", "(I)I"⟩
def RJx145de : String := "java/io/Serializable"
def TJx145de : u_T := fun k => match k with
  | _ => ("", "", "", false)
def tyJx145de : Nat → FieldType := fun k => match k with
  | _ => .int
abbrev wsJx145de0 : List Cond := u_ws RJx145de TJx145de 0
theorem nmJx145de : ∀ a, a < 0 → ∀ b, b < 0 → a ≠ b → (TJx145de a).2.1 ≠ (TJx145de b).2.1 := by decide +kernel
theorem tyJx145de_ok : ∀ k, k < 0 → parseFieldDescriptor (TJx145de k).2.2.1 = some (tyJx145de k) := by decide +kernel
def RJx9f9b0 : String := "java/lang/CharSequence"
def TJx9f9b0 : u_T := fun k => match k with
  | _ => ("", "", "", false)
def tyJx9f9b0 : Nat → FieldType := fun k => match k with
  | _ => .int
abbrev wsJx9f9b00 : List Cond := u_ws RJx9f9b0 TJx9f9b0 0
theorem nmJx9f9b0 : ∀ a, a < 0 → ∀ b, b < 0 → a ≠ b → (TJx9f9b0 a).2.1 ≠ (TJx9f9b0 b).2.1 := by decide +kernel
theorem tyJx9f9b0_ok : ∀ k, k < 0 → parseFieldDescriptor (TJx9f9b0 k).2.2.1 = some (tyJx9f9b0 k) := by decide +kernel
def RJxb160c : String := "java/lang/Comparable"
def TJxb160c : u_T := fun k => match k with
  | _ => ("", "", "", false)
def tyJxb160c : Nat → FieldType := fun k => match k with
  | _ => .int
abbrev wsJxb160c0 : List Cond := u_ws RJxb160c TJxb160c 0
theorem nmJxb160c : ∀ a, a < 0 → ∀ b, b < 0 → a ≠ b → (TJxb160c a).2.1 ≠ (TJxb160c b).2.1 := by decide +kernel
theorem tyJxb160c_ok : ∀ k, k < 0 → parseFieldDescriptor (TJxb160c k).2.2.1 = some (tyJxb160c k) := by decide +kernel
def RJ9 : String := "java/lang/Math"
def TJ9 : u_T := fun k => match k with
  | _ => ("", "", "", false)
def tyJ9 : Nat → FieldType := fun k => match k with
  | _ => .int
abbrev wsJ90 : List Cond := u_ws RJ9 TJ9 0
theorem nmJ9 : ∀ a, a < 0 → ∀ b, b < 0 → a ≠ b → (TJ9 a).2.1 ≠ (TJ9 b).2.1 := by decide +kernel
theorem tyJ9_ok : ∀ k, k < 0 → parseFieldDescriptor (TJ9 k).2.2.1 = some (tyJ9 k) := by decide +kernel
abbrev cJ9_floorDiv_f86c9 : ByteArray := prog_15_method_49_code
def yJ9_floorDiv_f86c9 : MethodName := ⟨RJ9, "floorDiv", "(JJ)J"⟩
abbrev cJ9_abs_067f4 : ByteArray := prog_15_method_61_code
def yJ9_abs_067f4 : MethodName := ⟨RJ9, "abs", "(J)J"⟩
abbrev cJ9_max_7cf53 : ByteArray := prog_15_method_65_code
def yJ9_max_7cf53 : MethodName := ⟨RJ9, "max", "(II)I"⟩
abbrev cJ9_max_f86c9 : ByteArray := prog_15_method_66_code
def yJ9_max_f86c9 : MethodName := ⟨RJ9, "max", "(JJ)J"⟩
abbrev cJ9_min_7cf53 : ByteArray := prog_15_method_69_code
def yJ9_min_7cf53 : MethodName := ⟨RJ9, "min", "(II)I"⟩
abbrev cJ9_min_f86c9 : ByteArray := prog_15_method_70_code
def yJ9_min_f86c9 : MethodName := ⟨RJ9, "min", "(JJ)J"⟩
def RJ0 : String := "java/lang/String"
def TJ0 : u_T := fun k => match k with
  | _ => ("", "", "", false)
def tyJ0 : Nat → FieldType := fun k => match k with
  | _ => .int
abbrev wsJ00 : List Cond := u_ws RJ0 TJ0 0
theorem nmJ0 : ∀ a, a < 0 → ∀ b, b < 0 → a ≠ b → (TJ0 a).2.1 ≠ (TJ0 b).2.1 := by decide +kernel
theorem tyJ0_ok : ∀ k, k < 0 → parseFieldDescriptor (TJ0 k).2.2.1 = some (tyJ0 k) := by decide +kernel
abbrev cJ0_length_8abf5 : ByteArray := prog_17_method_54_code
def yJ0_length_8abf5 : MethodName := ⟨RJ0, "length", "()I"⟩
abbrev cJ0_charAt_5068e : ByteArray := prog_17_method_56_code
def yJ0_charAt_5068e : MethodName := ⟨RJ0, "charAt", "(I)C"⟩
abbrev cJ0_coder_7d493 : ByteArray := prog_17_method_152_code
def yJ0_coder_7d493 : MethodName := ⟨RJ0, "coder", "()B"⟩
abbrev cJ0_isLatin1_aae02 : ByteArray := prog_17_method_154_code
def yJ0_isLatin1_aae02 : MethodName := ⟨RJ0, "isLatin1", "()Z"⟩
abbrev cJ0_checkIndex_df160 : ByteArray := prog_17_method_155_code
def yJ0_checkIndex_df160 : MethodName := ⟨RJ0, "checkIndex", "(II)V"⟩
def RJ1 : String := "java/lang/StringLatin1"
def TJ1 : u_T := fun k => match k with
  | _ => ("", "", "", false)
def tyJ1 : Nat → FieldType := fun k => match k with
  | _ => .int
abbrev wsJ10 : List Cond := u_ws RJ1 TJ1 0
theorem nmJ1 : ∀ a, a < 0 → ∀ b, b < 0 → a ≠ b → (TJ1 a).2.1 ≠ (TJ1 b).2.1 := by decide +kernel
theorem tyJ1_ok : ∀ k, k < 0 → parseFieldDescriptor (TJ1 k).2.2.1 = some (tyJ1 k) := by decide +kernel
abbrev cJ1_charAt_3b067 : ByteArray := prog_18_method_2_code
def yJ1_charAt_3b067 : MethodName := ⟨RJ1, "charAt", "([BI)C"⟩
def RJ2 : String := "java/lang/StringUTF16"
def TJ2 : u_T := fun k => match k with
  | _ => ("", "", "", false)
def tyJ2 : Nat → FieldType := fun k => match k with
  | _ => .int
abbrev wsJ20 : List Cond := u_ws RJ2 TJ2 0
theorem nmJ2 : ∀ a, a < 0 → ∀ b, b < 0 → a ≠ b → (TJ2 a).2.1 ≠ (TJ2 b).2.1 := by decide +kernel
theorem tyJ2_ok : ∀ k, k < 0 → parseFieldDescriptor (TJ2 k).2.2.1 = some (tyJ2 k) := by decide +kernel
abbrev cJ2_getChar_3b067 : ByteArray := prog_19_method_5_code
def yJ2_getChar_3b067 : MethodName := ⟨RJ2, "getChar", "([BI)C"⟩
abbrev cJ2_length_9d52b : ByteArray := prog_19_method_6_code
def yJ2_length_9d52b : MethodName := ⟨RJ2, "length", "([B)I"⟩
abbrev cJ2_charAt_3b067 : ByteArray := prog_19_method_83_code
def yJ2_charAt_3b067 : MethodName := ⟨RJ2, "charAt", "([BI)C"⟩
abbrev cJ2_checkIndex_2214a : ByteArray := prog_19_method_91_code
def yJ2_checkIndex_2214a : MethodName := ⟨RJ2, "checkIndex", "(I[B)V"⟩
def RJ10 : String := "java/lang/System"
def TJ10 : u_T := fun k => match k with
  | _ => ("", "", "", false)
def tyJ10 : Nat → FieldType := fun k => match k with
  | _ => .int
abbrev wsJ100 : List Cond := u_ws RJ10 TJ10 0
theorem nmJ10 : ∀ a, a < 0 → ∀ b, b < 0 → a ≠ b → (TJ10 a).2.1 ≠ (TJ10 b).2.1 := by decide +kernel
theorem tyJ10_ok : ∀ k, k < 0 → parseFieldDescriptor (TJ10 k).2.2.1 = some (tyJ10 k) := by decide +kernel
def RJxfd54e : String := "java/lang/constant/Constable"
def TJxfd54e : u_T := fun k => match k with
  | _ => ("", "", "", false)
def tyJxfd54e : Nat → FieldType := fun k => match k with
  | _ => .int
abbrev wsJxfd54e0 : List Cond := u_ws RJxfd54e TJxfd54e 0
theorem nmJxfd54e : ∀ a, a < 0 → ∀ b, b < 0 → a ≠ b → (TJxfd54e a).2.1 ≠ (TJxfd54e b).2.1 := by decide +kernel
theorem tyJxfd54e_ok : ∀ k, k < 0 → parseFieldDescriptor (TJxfd54e k).2.2.1 = some (tyJxfd54e k) := by decide +kernel
def RJx3cf43 : String := "java/lang/constant/ConstantDesc"
def TJx3cf43 : u_T := fun k => match k with
  | _ => ("", "", "", false)
def tyJx3cf43 : Nat → FieldType := fun k => match k with
  | _ => .int
abbrev wsJx3cf430 : List Cond := u_ws RJx3cf43 TJx3cf43 0
theorem nmJx3cf43 : ∀ a, a < 0 → ∀ b, b < 0 → a ≠ b → (TJx3cf43 a).2.1 ≠ (TJx3cf43 b).2.1 := by decide +kernel
theorem tyJx3cf43_ok : ∀ k, k < 0 → parseFieldDescriptor (TJx3cf43 k).2.2.1 = some (tyJx3cf43 k) := by decide +kernel
def RJ3 : String := "jdk/internal/util/Preconditions"
def TJ3 : u_T := fun k => match k with
  | _ => ("", "", "", false)
def tyJ3 : Nat → FieldType := fun k => match k with
  | _ => .int
abbrev wsJ30 : List Cond := u_ws RJ3 TJ3 0
theorem nmJ3 : ∀ a, a < 0 → ∀ b, b < 0 → a ≠ b → (TJ3 a).2.1 ≠ (TJ3 b).2.1 := by decide +kernel
theorem tyJ3_ok : ∀ k, k < 0 → parseFieldDescriptor (TJ3 k).2.2.1 = some (tyJ3 k) := by decide +kernel
abbrev cJ3_checkIndex_8e157 : ByteArray := prog_25_method_11_code
def yJ3_checkIndex_8e157 : MethodName := ⟨RJ3, "checkIndex", "(IILjava/util/function/BiFunction;)I"⟩
def RL : String := "RateOfficeLaw"
abbrev cL_factor : ByteArray := method_3_code
def yL_factor : MethodName := ⟨RL, "factor", "(LRateOffice;II[J)I"⟩
abbrev cL_law : ByteArray := code
def yL_law : MethodName := ⟨RL, "law", "([I)Z"⟩
abbrev vwCl : List vw_C := [(RX0, TX0, 12), (RX1, TX1, 5), (RX2, TX2, 7), (RX3, TX3, 7), (RX4, TX4, 11), (RX5, TX5, 5), (RX6, TX6, 16), (RX7, TX7, 30)]
end
section
/-! THE SMALL MACHINE: values are whole numbers (Int), a cell is named by a role and a number; the heap is what the cells hold. -/
abbrev mV : Type := Int ⊕ Int ⊕ (Nat × Int)
abbrev mH : Type := Nat → Int → Int → Int
abbrev mI (x : Int) : mV := Sum.inl x
abbrev mJ (x : Int) : mV := Sum.inr (Sum.inl x)
abbrev mR (r : Nat) (i : Int) : mV := Sum.inr (Sum.inr (r, i))
/-- a place of the locals of which nothing is known -/
abbrev mU : mV := Sum.inr (Sum.inr (0, 0))
abbrev mInR (x : Int) : Prop := -2147483648 ≤ x ∧ x < 2147483648
abbrev mInL (x : Int) : Prop := -9223372036854775808 ≤ x ∧ x < 9223372036854775808
def mIv (ad : Nat → Int → Nat) : mV → Value
  | .inl x => .int (Int32.ofInt x)
  | .inr (.inl x) => .long (Int64.ofInt x)
  | .inr (.inr q) => .ref (ad q.1 q.2)
def mSet (h : mH) (r : Nat) (i k v : Int) : mH := fun r' i' k' => if r' = r ∧ i' = i ∧ k' = k then v else h r' i' k'
/-- fields of an object: none: a number; some: where it points -/
abbrev mFd : Type := Option (Nat × (Int → Int))
/-- what a role is: a row (kind 0 byte, 1 int, 2 long, 3 boolean, 4 of Books; its length), or an object (its number in vwCl, its fields) -/
def mT (r : Nat) : (Nat × Nat) ⊕ (Nat × List mFd) := match r with
  | 1 => .inr (0, [none, none, none, none, none, none, none, some (2, fun i => i), some (3, fun i => i), some (4, fun i => i), some (5, fun i => i), some (6, fun i => i)])
  | 2 => .inl (1, 40)
  | 3 => .inl (1, 40)
  | 4 => .inl (1, 40)
  | 5 => .inl (1, 40)
  | 6 => .inl (1, 32)
  | 7 => .inr (3, [none, none, none, some (8, fun i => i), some (9, fun i => i), some (10, fun i => i), some (11, fun i => i)])
  | 8 => .inl (1, 4)
  | 9 => .inl (1, 4)
  | 10 => .inl (1, 4)
  | 11 => .inl (1, 4)
  | 12 => .inr (2, [some (7, fun _ => 0), some (1, fun i => i), some (13, fun i => i), some (14, fun i => i), some (15, fun i => i), some (16, fun i => i), some (17, fun i => i)])
  | 13 => .inl (2, 40)
  | 14 => .inl (2, 32)
  | 15 => .inl (2, 32)
  | 16 => .inl (2, 32)
  | 17 => .inl (1, 32)
  | 18 => .inr (1, [some (12, fun _ => 0), some (1, fun _ => 0), some (19, fun i => i), none, none])
  | 19 => .inl (2, 40)
  | 20 => .inr (5, [some (21, fun i => i), some (22, fun i => i), some (23, fun i => i), none, none])
  | 21 => .inl (1, 901)
  | 22 => .inl (1, 901)
  | 23 => .inl (1, 901)
  | 24 => .inr (4, [some (20, fun _ => 0), some (7, fun _ => 1), some (1, fun _ => 2), none, none, none, none, none, none, none, none])
  | 25 => .inr (6, [some (26, fun _ => 0), none, none, none, some (7, fun _ => 0), some (1, fun _ => 0), some (12, fun _ => 0), some (18, fun _ => 0), some (1, fun _ => 1), some (12, fun _ => 1), some (24, fun _ => 0), some (1, fun _ => 3), none, some (27, fun _ => 0), none, none])
  | 26 => .inl (0, 900)
  | 27 => .inl (4, 20)
  | 30 => .inr (7, [none, some (31, fun _ => 0), none, some (32, fun _ => 0), some (33, fun _ => 0), some (34, fun _ => 0), some (35, fun _ => 0), some (36, fun _ => 0), some (37, fun _ => 0), some (38, fun _ => 0), some (39, fun _ => 0), some (40, fun _ => 0), none, none, none, none, none, none, none, none, none, none, some (41, fun _ => 0), some (42, fun _ => 0), some (43, fun _ => 0), some (44, fun _ => 0), none, none, some (45, fun _ => 0), none])
  | 31 => .inl (1, 900)
  | 32 => .inl (1, 18)
  | 33 => .inl (3, 6)
  | 34 => .inl (1, 8)
  | 35 => .inl (1, 8)
  | 36 => .inl (1, 8)
  | 37 => .inl (1, 8)
  | 38 => .inl (3, 8)
  | 39 => .inl (1, 8)
  | 40 => .inl (1, 280)
  | 41 => .inl (1, 314)
  | 42 => .inl (1, 314)
  | 43 => .inl (1, 314)
  | 44 => .inl (1, 6280)
  | 45 => .inl (1, 4)
  | 46 => .inl (2, 1)
  | _ => .inl (1, 0)
def mFs (ad : Nat → Int → Nat) (h : mH) (r : Nat) (i : Int) (fs : List mFd) : List Value := fs.mapIdx (fun k d => match d with
  | none => .int (Int32.ofInt (h r i (k : Int)))
  | some q => .ref (ad q.1 (q.2 i)))
def mRow (ad : Nat → Int → Nat) (h : mH) (r : Nat) (i : Int) (k n : Nat) : vp_A := match k with
  | 2 => (n, .inr (.inl (fun j => Int64.ofInt (h r i (j : Int)))))
  | 4 => (n, .inr (.inr (.inr (.inr (fun j => some (ad 1 (4 + (j : Int))))))))
  | _ => (n, .inl (fun j => Int32.ofInt (h r i (j : Int))))
def mEnt (cA : Nat → ClassId) (ad : Nat → Int → Nat) (h : mH) (q : Nat × Int) : va_E := match mT q.1 with
  | .inl a => .inl (cA a.1, mRow ad h q.1 q.2 a.1 a.2)
  | .inr o => .inr (o.1, mFs ad h q.1 q.2 o.2)
/-- the world of the cells ids, holding h -/
def mW (cA : Nat → ClassId) (ad : Nat → Int → Nat) (ids : List (Nat × Int)) (h : mH) : va_W := ids.map (fun q => (ad q.1 q.2, mEnt cA ad h q))
def mTys (cA : Nat → ClassId) : List (ClassId × FieldType) := [(cA 0, .byte), (cA 1, .int), (cA 2, .long), (cA 3, .boolean), (cA 4, .object "RateOffice$Book")]
/-- where a field or a row of Books points is a cell of the world, too -/
def mClosed (ids : List (Nat × Int)) : Prop :=
  (∀ (r : Nat) (i : Int) (ci : Nat) (fs : List mFd) (k : Nat) (q : Nat × (Int → Int)), (r, i) ∈ ids → mT r = .inr (ci, fs) → fs[k]? = some (some q) → (q.1, q.2 i) ∈ ids) ∧
  ∀ (r : Nat) (i : Int) (n : Nat), (r, i) ∈ ids → mT r = .inl (4, n) → ∀ k : Int, 0 ≤ k → k < n → ((1, 4 + k) : Nat × Int) ∈ ids
def mVal (ids : List (Nat × Int)) : mV → Prop
  | .inl _ => True
  | .inr (.inl _) => True
  | .inr (.inr q) => 1 ≤ q.1 → q.1 < 50 → q ∈ ids
def mVs (ids : List (Nat × Int)) (l : List mV) : Prop := ∀ v ∈ l, mVal ids v
theorem mVs.cons {ids : List (Nat × Int)} {v : mV} {l : List mV} (h : mVal ids v) (h2 : mVs ids l) : mVs ids (v :: l) := fun w hw => (List.mem_cons.mp hw).elim (fun e => e ▸ h) (h2 w)
theorem mVs.tl {ids : List (Nat × Int)} {v : mV} {l : List mV} (h : mVs ids (v :: l)) : mVs ids l := fun w hw => h w (List.mem_cons_of_mem _ hw)
theorem mVs.hd {ids : List (Nat × Int)} {v : mV} {l : List mV} (h : mVs ids (v :: l)) : mVal ids v := h v List.mem_cons_self
theorem mVs.app {ids : List (Nat × Int)} {l l2 : List mV} (h : mVs ids (l ++ l2)) : mVs ids l ∧ mVs ids l2 := ⟨fun w hw => h w (List.mem_append_left _ hw), fun w hw => h w (List.mem_append_right _ hw)⟩
/-- the good words of the tables -/
def mTbl : List Cond := lw_tbl.filter goodWord
theorem mTbl_of {w : Cond} (i : Nat) (h : lw_tbl[i]? = some w) (hg : goodWord w = true) : w ∈ mTbl := List.mem_filter.mpr ⟨List.mem_of_getElem? h, hg⟩
theorem mTbl_good {ws : List Cond} (h : ∀ w ∈ ws, w ∈ mTbl) : GoodIn mTbl ws := fun w hw => ⟨h w hw, good_of_word (List.mem_filter.mp (h w hw)).2⟩
/-- a method: name, code, places of locals, what it returns, how deep its calls go -/
abbrev mMs : Type := MethodName × ByteArray × Nat × Option FieldType × Nat
abbrev mRoom (d : Nat) : Room := { frames := d, cells := 0, slots := 0, locals := 40 * d }
def mWs (M : mMs) : List Cond := Cond.code M.1 M.2.1 M.2.2.1 M.2.2.2.1 :: mTbl
/-- private methods that are called out of the nest -/
def mNst : List (String × Nat × MethodName × String) := [("RateOffice$Book", 62, ⟨"RateOffice", "slot", "(II)I"⟩, "RateOffice"), ("RateOffice$Reader", 152, ⟨"RateOffice", "slotShift", "(I)I"⟩, "RateOffice"), ("RateOffice$Fit", 88, ⟨"RateOffice", "slot", "(II)I"⟩, "RateOffice"), ("RateOffice$Fit", 92, ⟨"RateOffice", "levelIn", "(II)I"⟩, "RateOffice"), ("RateOffice$Fit", 145, ⟨"RateOffice", "clamp", "(JII)I"⟩, "RateOffice"), ("RateOffice$Plan", 48, ⟨"RateOffice", "slotShift", "(I)I"⟩, "RateOffice"), ("RateOffice$Plan", 52, ⟨"RateOffice", "levelIn", "(II)I"⟩, "RateOffice"), ("RateOffice", 57, ⟨"RateOffice$Reader", "<init>", "()V"⟩, "RateOffice"), ("RateOffice$Reader", 11, ⟨"RateOffice$Tokens", "<init>", "()V"⟩, "RateOffice")]
def mNests (U : State) : Prop := ∀ q ∈ mNst, va_Nw (.methodLinkNest q.1 q.2.1 q.2.2.1 q.2.2.2) U
theorem mNests.warm {s U : State} (hW : s.WarmedH U.vm) (h : mNests s) : mNests U := fun q hq => va_Nw.warmM hW (h q hq)
theorem mNests.same {s U : State} (e : s.vm = U.vm) (h : mNests s) : mNests U := fun q hq => va_Nw.same rfl e (h q hq)
/-- the two texts of words, as bytes -/
def mTx0 : String := "factor band join risk base bound cap trust fleet seed "
def mTx1 : String := "base bound cap seed trust fleet factor band join risk "
def mBy0 : List Int32 := [102, 97, 99, 116, 111, 114, 32, 98, 97, 110, 100, 32, 106, 111, 105, 110, 32, 114, 105, 115, 107, 32, 98, 97, 115, 101, 32, 98, 111, 117, 110, 100, 32, 99, 97, 112, 32, 116, 114, 117, 115, 116, 32, 102, 108, 101, 101, 116, 32, 115, 101, 101, 100, 32]
def mBy1 : List Int32 := [98, 97, 115, 101, 32, 98, 111, 117, 110, 100, 32, 99, 97, 112, 32, 115, 101, 101, 100, 32, 116, 114, 117, 115, 116, 32, 102, 108, 101, 101, 116, 32, 102, 97, 99, 116, 111, 114, 32, 98, 97, 110, 100, 32, 106, 111, 105, 110, 32, 114, 105, 115, 107, 32]
def mStr (ad : Nat → Int → Nat) (A : Nat → Prop) (U : State) (H : Heap) : Prop :=
  vk_R "RateOffice$Tokens" 63 mTx0 (ad 60 0) U ∧ vk_R "RateOfficeModel" 108 mTx1 (ad 60 1) U ∧ ∃ adV : Nat → Nat, vk_S 2 [54, 54] [mBy0, mBy1] (fun i => ad 60 (i : Int)) adV A U H
theorem mStr.warm {ad : Nat → Int → Nat} {A : Nat → Prop} {s U : State} {H : Heap} (hW : s.WarmedH U.vm) (h : mStr ad A s H) : mStr ad A U H := by
  obtain ⟨h1, h2, adV, h3⟩ := h
  exact ⟨h1.warm hW, h2.warm hW, adV, h3.moved hW.alike⟩
theorem mStr.same {ad : Nat → Int → Nat} {A : Nat → Prop} {s U : State} {H : Heap} (e : U.vm = s.vm) (h : mStr ad A s H) : mStr ad A U H := by
  obtain ⟨h1, h2, adV, h3⟩ := h
  exact ⟨h1.same e, h2.same e, adV, h3.moved (by rw [e]; exact Vm.Alike.refl _)⟩
theorem mStr.kept {ad : Nat → Int → Nat} {A : Nat → Prop} {s : State} {H H1 : Heap} (hq : ∀ a : Nat, a < H.size → ¬ A a → H1[a]? = H[a]?) (h : mStr ad A s H) : mStr ad A s H1 := by
  obtain ⟨h1, h2, adV, h3⟩ := h
  exact ⟨h1, h2, adV, h3.kept hq⟩
theorem mStr.narrow {ad : Nat → Int → Nat} {A B : Nat → Prop} {s : State} {H : Heap} (hAB : ∀ q, B q → A q) (h : mStr ad A s H) : mStr ad B s H := by
  obtain ⟨h1, h2, adV, h3⟩ := h
  exact ⟨h1, h2, adV, h3.narrow hAB⟩
/-- what the tables say of a state, beside the good words -/
def mFx (D : va_G) (cA : Nat → ClassId) (ad : Nat → Int → Nat) (A : Nat → Prop) (U : State) (H : Heap) : Prop := va_K D vwCl (mTys cA) U ∧ mNests U ∧ mStr ad A U H
/-- a walk's surroundings: the machine; the method; the world; what may change, room that is used, the end that is wanted -/
abbrev mG : Type := (Program × Launch × Env × Room × State) × (MethodId × Array Value × List Frame × Method × Code) × (va_G × (Nat → ClassId) × (Nat → Int → Nat) × List (Nat × Int)) × ((Nat → Prop) × Nat × Nat × (State → Prop))
abbrev mGs (G : mG) : State := G.1.2.2.2.2
abbrev mGD (G : mG) : va_G := G.2.2.1.1
abbrev mGc (G : mG) : Nat → ClassId := G.2.2.1.2.1
abbrev mGad (G : mG) : Nat → Int → Nat := G.2.2.1.2.2.1
abbrev mGids (G : mG) : List (Nat × Int) := G.2.2.1.2.2.2
abbrev mGA (G : mG) : Nat → Prop := G.2.2.2.1
abbrev mGW (G : mG) (H : Heap) (locs : List Loc) (g : JFrame) : Prop :=
  W G.1.1 G.1.2.1 G.1.2.2.1 G.1.2.2.2.1 (mGs G) G.2.1.1 G.2.1.2.1 G.2.1.2.2.1 G.2.1.2.2.2.1 G.2.1.2.2.2.2 H locs G.2.2.2.2.1 G.2.2.2.2.2.1 G.2.2.2.2.2.2 g
abbrev mGF (G : mG) (pc : Nat) (ls : Array Slot) (st : List mV) : JFrame := F0 G.2.1.1 pc ls (st.map (mIv (mGad G)))
/-- what a walk of M stands on -/
def mOk (G : mG) (M : mMs) : Prop :=
  (G.1.1.tables.exec = Jvm.exec ∧ G.2.1.2.2.2.2.code = M.2.1 ∧ G.2.1.2.2.2.2.maxLocals = M.2.2.1 ∧ (mGs G).vm.findClass M.1.cls = some G.2.1.1.cls ∧ ∀ w ∈ mTbl, w.before G.2.1.2.1 (mGs G) = true) ∧
  (G.2.1.2.2.2.1.sig.returnType = M.2.2.2.1 ∧ G.2.1.2.2.2.1.locks = false) ∧
  mFx (mGD G) (mGc G) (mGad G) (mGA G) (mGs G) (mGs G).heap ∧ mClosed (mGids G) ∧ (∀ h : mH, va_D (mGA G) (mW (mGc G) (mGad G) (mGids G) h)) ∧ (∀ q, (mGs G).heap.size ≤ q → mGA G q) ∧
  (M.2.2.2.2 ≤ G.1.2.2.2.1.frames ∧ 40 * M.2.2.2.2 ≤ G.1.2.2.2.1.locals ∧ G.2.2.2.2.1 ≤ G.1.2.2.2.1.cells ∧ G.2.2.2.2.2.1 ≤ G.1.2.2.2.1.slots)
def mLs (ad : Nat → Int → Nat) (nL : Nat) (L : List mV) (ls : Array Slot) : Prop := ls.size = nL ∧ lv_wf ls ∧ ∀ (i : Nat) (v : mV), L[i]? = some v → v ≠ mU → ls[i]? = some (.val (mIv ad v))
/-- from pc on, with locals L, stack st, heap h, the method M comes to its end, in surroundings with F -/
def At (F : mG → Prop) (M : mMs) (pc : Nat) (L st : List mV) (h : mH) : Prop :=
  ∀ G : mG, F G → mOk G M → ∀ (H : Heap) (locs : List Loc) (ls : Array Slot), va_P (mGD G) vwCl (mW (mGc G) (mGad G) (mGids G) h) H → va_S (mGA G) (mGs G).heap H locs → mLs (mGad G) M.2.2.1 L ls → mVs (mGids G) L → mVs (mGids G) st → mGW G H locs (mGF G pc ls st)
/-- a method's end -/
def mVo (ids : List (Nat × Int)) (r : Option mV) : Prop := ∀ v, r = some v → mVal ids v
def mQ (D : va_G) (cA : Nat → ClassId) (ad : Nat → Int → Nat) (ids : List (Nat × Int)) (K : Option mV → mH → Prop) (A : Nat → Prop) : Array Value → State → Outcome → State → Prop := fun _ st o t =>
  ∃ (r : Option mV) (h : mH), o = .returned (r.map (mIv ad)) ∧ K r h ∧ mVo ids r ∧ va_P D vwCl (mW cA ad ids h) t.heap ∧ va_F A st t
def mPre (D : va_G) (cA : Nat → ClassId) (ad : Nat → Int → Nat) (ids : List (Nat × Int)) (sz : Nat) (h : mH) (U : State) : Prop :=
  U.heap.size = sz ∧ va_P D vwCl (mW cA ad ids h) U.heap ∧ va_D (fun _ => True) (mW cA ad ids h) ∧ mFx D cA ad (va_A (mW cA ad ids h) sz) U U.heap
/-- M, called with the values as on the heap h, returns with K -/
def Ok (M : mMs) (as : List mV) (h : mH) (K : Option mV → mH → Prop) : Prop :=
  ∀ (l : Launch) (D : va_G) (cA : Nat → ClassId) (ad : Nat → Int → Nat) (ids : List (Nat × Int)) (sz : Nat), mClosed ids → mVs ids as →
    Met l M.1 (mWs M) (mRoom M.2.2.2.2) (va_Pc (as.map (mIv ad)) (mPre D cA ad ids sz h)) (mQ D cA ad ids K (va_A (mW cA ad ids h) sz)) 0 0 (va_A (mW cA ad ids h) sz)
def OkI (M : mMs) (as : List mV) (h : mH) (K : Int → mH → Prop) : Prop := Ok M as h (fun r h => ∃ x, r = some (mI x) ∧ K x h)
def OkJ (M : mMs) (as : List mV) (h : mH) (K : Int → mH → Prop) : Prop := Ok M as h (fun r h => ∃ x, r = some (mJ x) ∧ K x h)
def OkV (M : mMs) (as : List mV) (h : mH) (K : mH → Prop) : Prop := Ok M as h (fun r h => r = none ∧ K h)
/-- the surroundings of a method that is to end with K -/
def mPost (K : Option mV → mH → Prop) (G : mG) : Prop := G.2.2.2.2.2.2 = MQ G.2.1.2.2.1 (mQ (mGD G) (mGc G) (mGad G) (mGids G) K (mGA G)) G.2.1.2.1 (mGs G) 0 0 (mGA G) ∧ G.2.2.2.2.1 = 0 ∧ G.2.2.2.2.2.1 = 0
/-- the locals at a method's entry -/
def mEl : List mV → List mV
  | [] => []
  | .inr (.inl x) :: l => mJ x :: mU :: mEl l
  | v :: l => v :: mEl l
end
section
/-! rows of the small machine: numbers -/
theorem o32 {x : Int} (h : mInR x) : (Int32.ofInt x).toInt = x := Int32.toInt_ofInt_of_le (by omega) (by omega)
theorem o64 {x : Int} (h : mInL x) : (Int64.ofInt x).toInt = x := Int64.toInt_ofInt_of_le (by omega) (by omega)
theorem o32_add (x y : Int) : Int32.ofInt x + Int32.ofInt y = Int32.ofInt (x + y) := by
  apply Int32.toBitVec.inj; simp [BitVec.ofInt_add]
theorem o32_mul (x y : Int) : Int32.ofInt x * Int32.ofInt y = Int32.ofInt (x * y) := by
  apply Int32.toBitVec.inj; simp [BitVec.ofInt_mul]
theorem o32_neg (x : Int) : -Int32.ofInt x = Int32.ofInt (-x) := Int32.neg_ofInt
theorem o32_sub (x y : Int) : Int32.ofInt x - Int32.ofInt y = Int32.ofInt (x - y) := by
  rw [Int32.sub_eq_add_neg, o32_neg, o32_add]; rfl
theorem o64_add (x y : Int) : Int64.ofInt x + Int64.ofInt y = Int64.ofInt (x + y) := by
  apply Int64.toBitVec.inj; simp [BitVec.ofInt_add]
theorem o64_mul (x y : Int) : Int64.ofInt x * Int64.ofInt y = Int64.ofInt (x * y) := by
  apply Int64.toBitVec.inj; simp [BitVec.ofInt_mul]
theorem o64_neg (x : Int) : -Int64.ofInt x = Int64.ofInt (-x) := Int64.neg_ofInt
theorem o64_sub (x y : Int) : Int64.ofInt x - Int64.ofInt y = Int64.ofInt (x - y) := by
  rw [Int64.sub_eq_add_neg, o64_neg, o64_add]; rfl
theorem o32_lt {x y : Int} (hx : mInR x) (hy : mInR y) : Int32.ofInt x < Int32.ofInt y ↔ x < y := by rw [Int32.lt_iff_toInt_lt, o32 hx, o32 hy]
theorem o32_le {x y : Int} (hx : mInR x) (hy : mInR y) : Int32.ofInt x ≤ Int32.ofInt y ↔ x ≤ y := by rw [Int32.le_iff_toInt_le, o32 hx, o32 hy]
theorem o32_eq {x y : Int} (hx : mInR x) (hy : mInR y) : Int32.ofInt x = Int32.ofInt y ↔ x = y := by rw [← Int32.toInt_inj, o32 hx, o32 hy]
theorem o64_lt {x y : Int} (hx : mInL x) (hy : mInL y) : Int64.ofInt x < Int64.ofInt y ↔ x < y := by rw [Int64.lt_iff_toInt_lt, o64 hx, o64 hy]
theorem o64_eq {x y : Int} (hx : mInL x) (hy : mInL y) : Int64.ofInt x = Int64.ofInt y ↔ x = y := by rw [← Int64.toInt_inj, o64 hx, o64 hy]
theorem o32_div {x y : Int} (hx : mInR x) (hy : mInR y) : Int32.ofInt x / Int32.ofInt y = Int32.ofInt (x.tdiv y) := by
  rw [← Int32.toInt_inj, Int32.toInt_div, o32 hx, o32 hy, Int32.toInt_ofInt]
theorem o64_div {x y : Int} (hx : mInL x) (hy : mInL y) : Int64.ofInt x / Int64.ofInt y = Int64.ofInt (x.tdiv y) := by
  rw [← Int64.toInt_inj, Int64.toInt_div, o64 hx, o64 hy, Int64.toInt_ofInt]
theorem o32_l {x : Int} (h : mInR x) : (Int32.ofInt x).toInt64 = Int64.ofInt x := by rw [← Int64.ofInt_int32ToInt, o32 h]
theorem o64_i (x : Int) : (Int64.ofInt x).toInt32 = Int32.ofInt x := Int64.toInt32_ofInt
theorem o32_0 {x : Int} (h : mInR x) : Int32.ofInt x = 0 ↔ x = 0 := o32_eq h (y := 0) (by decide)
theorem o32_clamp {x : Int} (h0 : 0 ≤ x) (h1 : x < 2147483648) : (Int32.ofInt x).toNatClampNeg = x.toNat := Int32.toNatClampNeg_ofInt_of_le (by omega) (by omega)
theorem o32_in {x : Int} {n : Nat} (h0 : 0 ≤ x) (h1 : x < n) (hn : n < 2147483648) : vp_in (Int32.ofInt x) n := by
  rintro (h | h)
  · rw [show (0 : Int32) = Int32.ofInt 0 from rfl, o32_lt (by omega) (by omega)] at h
    omega
  · rw [o32_clamp h0 (by omega)] at h
    omega
/-- bits -/
def mAnd (x y : Int) : Int := (Int32.ofInt x &&& Int32.ofInt y).toInt
def mOr (x y : Int) : Int := (Int32.ofInt x ||| Int32.ofInt y).toInt
def mXor (x y : Int) : Int := (Int32.ofInt x ^^^ Int32.ofInt y).toInt
def mShl (x y : Int) : Int := (Int32.ofInt x <<< (Int32.ofInt y &&& 31)).toInt
def mShr (x y : Int) : Int := (Int32.ofInt x >>> (Int32.ofInt y &&& 31)).toInt
def mAndL (x y : Int) : Int := (Int64.ofInt x &&& Int64.ofInt y).toInt
def mShrL (x y : Int) : Int := (Int64.ofInt x >>> ((Int32.ofInt y).toInt64 &&& 63)).toInt
def mI2b (x : Int) : Int := ((Int32.ofInt x).toInt8.toInt32).toInt
/-! locals -/
theorem mLs.get {ad : Nat → Int → Nat} {nL : Nat} {L : List mV} {ls : Array Slot} (h : mLs ad nL L ls) {i : Nat} {v : mV} (hv : L[i]? = some v) (hu : v ≠ mU) : ls[i]? = some (.val (mIv ad v)) := h.2.2 i v hv hu
def mLof (ad : Nat → Int → Nat) (L : List mV) : List (Nat × Value) := (List.range L.length).filterMap (fun i => match L[i]? with
  | some v => if v = mU then none else some (i, mIv ad v)
  | none => none)
theorem mLof_mem {ad : Nat → Int → Nat} {L : List mV} {q : Nat × Value} : q ∈ mLof ad L ↔ ∃ v, L[q.1]? = some v ∧ v ≠ mU ∧ q.2 = mIv ad v := by
  unfold mLof
  rw [List.mem_filterMap]
  constructor
  · rintro ⟨i, -, h⟩
    cases hL : L[i]? with
    | none => rw [hL] at h; cases h
    | some v =>
      rw [hL] at h
      dsimp only at h
      by_cases hu : v = mU
      · rw [if_pos hu] at h; cases h
      · rw [if_neg hu] at h
        cases h
        exact ⟨v, hL, hu, rfl⟩
  · rintro ⟨v, h1, h2, h3⟩
    refine ⟨q.1, List.mem_range.mpr (List.getElem?_eq_some_iff.mp h1).1, ?_⟩
    rw [h1]
    dsimp only
    rw [if_neg h2, ← h3]
theorem mLs.has {ad : Nat → Int → Nat} {nL : Nat} {L : List mV} {ls : Array Slot} (h : mLs ad nL L ls) : lv_has ls nL (mLof ad L) := by
  refine ⟨h.1, h.2.1, fun q hq => ?_⟩
  obtain ⟨v, h1, h2, h3⟩ := mLof_mem.mp hq
  rw [h3]
  exact h.2.2 _ v h1 h2
/-- a value of one place is stored -/
def mSt1 : List mV → Nat → mV → List mV
  | [], _, _ => []
  | _ :: L, 0, v => v :: L
  | .inr (.inl _) :: L, 1, v => mU :: mSt1 L 0 v
  | w :: L, n + 1, v => w :: mSt1 L n v
/-- a value of two places is stored -/
def mSt2 : List mV → Nat → mV → List mV
  | [], _, _ => []
  | [_], 0, v => [v]
  | _ :: _ :: L, 0, v => v :: mU :: L
  | .inr (.inl _) :: L, 1, v => mU :: mSt2 L 0 v
  | w :: L, n + 1, v => w :: mSt2 L n v
theorem mSt1_get : ∀ (L : List mV) (i : Nat) (v : mV) (j : Nat) (w : mV), (mSt1 L i v)[j]? = some w → w ≠ mU → (j = i ∧ w = v) ∨ (j ≠ i ∧ L[j]? = some w ∧ ¬ (j + 1 = i ∧ ∃ x, w = mJ x))
  | [], i, v, j, w, h, _ => by simp [mSt1] at h
  | u :: L, 0, v, j, w, h, hu => by
    cases j with
    | zero => simp [mSt1] at h; exact Or.inl ⟨rfl, h.symm⟩
    | succ j => simp [mSt1] at h; exact Or.inr ⟨by omega, by simpa using h, by omega⟩
  | u :: L, 1, v, j, w, h, hu => by
    rcases u with x | x | q
    · cases j with
      | zero => simp [mSt1] at h; exact Or.inr ⟨by omega, by simpa using h, fun ⟨_, y, e⟩ => by rw [e] at h; cases h⟩
      | succ j =>
        simp [mSt1] at h
        rcases mSt1_get L 0 v j w h hu with ⟨a, b⟩ | ⟨a, b, c⟩
        · exact Or.inl ⟨by omega, b⟩
        · exact Or.inr ⟨by omega, by simpa using b, by omega⟩
    · cases j with
      | zero => simp [mSt1] at h; exact absurd h.symm hu
      | succ j =>
        simp [mSt1] at h
        rcases mSt1_get L 0 v j w h hu with ⟨a, b⟩ | ⟨a, b, c⟩
        · exact Or.inl ⟨by omega, b⟩
        · exact Or.inr ⟨by omega, by simpa using b, by omega⟩
    · cases j with
      | zero => simp [mSt1] at h; exact Or.inr ⟨by omega, by simpa using h, fun ⟨_, y, e⟩ => by rw [e] at h; cases h⟩
      | succ j =>
        simp [mSt1] at h
        rcases mSt1_get L 0 v j w h hu with ⟨a, b⟩ | ⟨a, b, c⟩
        · exact Or.inl ⟨by omega, b⟩
        · exact Or.inr ⟨by omega, by simpa using b, by omega⟩
  | u :: L, n + 2, v, j, w, h, hu => by
    cases j with
    | zero => simp [mSt1] at h; exact Or.inr ⟨by omega, by simpa using h, by omega⟩
    | succ j =>
      simp [mSt1] at h
      rcases mSt1_get L (n + 1) v j w h hu with ⟨a, b⟩ | ⟨a, b, c⟩
      · exact Or.inl ⟨by omega, b⟩
      · exact Or.inr ⟨by omega, by simpa using b, fun ⟨e, z⟩ => c ⟨by omega, z⟩⟩
theorem mSt2_get : ∀ (L : List mV) (i : Nat) (v : mV) (j : Nat) (w : mV), (mSt2 L i v)[j]? = some w → w ≠ mU → (j = i ∧ w = v) ∨ (j ≠ i ∧ j ≠ i + 1 ∧ L[j]? = some w ∧ ¬ (j + 1 = i ∧ ∃ x, w = mJ x))
  | [], i, v, j, w, h, _ => by simp [mSt2] at h
  | [u], 0, v, j, w, h, hu => by
    cases j with
    | zero => simp [mSt2] at h; exact Or.inl ⟨rfl, h.symm⟩
    | succ j => simp [mSt2] at h
  | u :: u2 :: L, 0, v, j, w, h, hu => by
    match j with
    | 0 => simp [mSt2] at h; exact Or.inl ⟨rfl, h.symm⟩
    | 1 => simp [mSt2] at h; exact absurd h.symm hu
    | j + 2 => simp [mSt2] at h; exact Or.inr ⟨by omega, by omega, by simpa using h, by omega⟩
  | u :: L, 1, v, j, w, h, hu => by
    rcases u with x | x | q
    · cases j with
      | zero => simp [mSt2] at h; exact Or.inr ⟨by omega, by omega, by simpa using h, fun ⟨_, y, e⟩ => by rw [e] at h; cases h⟩
      | succ j =>
        simp [mSt2] at h
        rcases mSt2_get L 0 v j w h hu with ⟨a, b⟩ | ⟨a, a2, b, c⟩
        · exact Or.inl ⟨by omega, b⟩
        · exact Or.inr ⟨by omega, by omega, by simpa using b, by omega⟩
    · cases j with
      | zero => simp [mSt2] at h; exact absurd h.symm hu
      | succ j =>
        simp [mSt2] at h
        rcases mSt2_get L 0 v j w h hu with ⟨a, b⟩ | ⟨a, a2, b, c⟩
        · exact Or.inl ⟨by omega, b⟩
        · exact Or.inr ⟨by omega, by omega, by simpa using b, by omega⟩
    · cases j with
      | zero => simp [mSt2] at h; exact Or.inr ⟨by omega, by omega, by simpa using h, fun ⟨_, y, e⟩ => by rw [e] at h; cases h⟩
      | succ j =>
        simp [mSt2] at h
        rcases mSt2_get L 0 v j w h hu with ⟨a, b⟩ | ⟨a, a2, b, c⟩
        · exact Or.inl ⟨by omega, b⟩
        · exact Or.inr ⟨by omega, by omega, by simpa using b, by omega⟩
  | u :: L, n + 2, v, j, w, h, hu => by
    cases j with
    | zero => simp [mSt2] at h; exact Or.inr ⟨by omega, by omega, by simpa using h, by omega⟩
    | succ j =>
      simp [mSt2] at h
      rcases mSt2_get L (n + 1) v j w h hu with ⟨a, b⟩ | ⟨a, a2, b, c⟩
      · exact Or.inl ⟨by omega, b⟩
      · exact Or.inr ⟨by omega, by omega, by simpa using b, fun ⟨e, z⟩ => c ⟨by omega, z⟩⟩
theorem mIv_cat {ad : Nat → Int → Nat} {v : mV} (h : (mIv ad v).category = 2) : ∃ x, v = mJ x := by
  rcases v with x | x | q
  · simp [mIv, Value.category] at h
  · exact ⟨x, rfl⟩
  · simp [mIv, Value.category] at h
theorem mLs.st1 {ad : Nat → Int → Nat} {nL : Nat} {L : List mV} {ls : Array Slot} {i : Nat} {v : mV} {w : Value} (hw : w = mIv ad v) (h : lv_has ls nL ((i, w) :: (mLof ad L).filter (fun q => !(q.1 == i) && !(q.1 + 1 == i && q.2.category == 2)))) : mLs ad nL (mSt1 L i v) ls := by
  refine ⟨h.1, h.2.1, fun j u hj hu => ?_⟩
  rcases mSt1_get L i v j u hj hu with ⟨a, b⟩ | ⟨a, b, c⟩
  · rw [a, b, ← hw]
    exact h.2.2 (i, w) List.mem_cons_self
  · refine h.2.2 (j, mIv ad u) (List.mem_cons_of_mem _ (List.mem_filter.mpr ⟨mLof_mem.mpr ⟨u, b, hu, rfl⟩, ?_⟩))
    simp only [Bool.and_eq_true, Bool.not_eq_true', beq_eq_false_iff_ne, ne_eq, Bool.and_eq_false_iff]
    refine ⟨a, ?_⟩
    by_cases e : j + 1 = i
    · exact Or.inr fun z => c ⟨e, mIv_cat z⟩
    · exact Or.inl e
theorem mLs.st2 {ad : Nat → Int → Nat} {nL : Nat} {L : List mV} {ls : Array Slot} {i : Nat} {v : mV} {w : Value} (hw : w = mIv ad v) (h : lv_has ls nL ((i, w) :: (mLof ad L).filter (fun q => !(q.1 == i) && (!(q.1 == i + 1) && !(q.1 + 1 == i && q.2.category == 2))))) : mLs ad nL (mSt2 L i v) ls := by
  refine ⟨h.1, h.2.1, fun j u hj hu => ?_⟩
  rcases mSt2_get L i v j u hj hu with ⟨a, b⟩ | ⟨a, a2, b, c⟩
  · rw [a, b, ← hw]
    exact h.2.2 (i, w) List.mem_cons_self
  · refine h.2.2 (j, mIv ad u) (List.mem_cons_of_mem _ (List.mem_filter.mpr ⟨mLof_mem.mpr ⟨u, b, hu, rfl⟩, ?_⟩))
    simp only [Bool.and_eq_true, Bool.not_eq_true', beq_eq_false_iff_ne, ne_eq, Bool.and_eq_false_iff]
    refine ⟨a, a2, ?_⟩
    by_cases e : j + 1 = i
    · exact Or.inr fun z => c ⟨e, mIv_cat z⟩
    · exact Or.inl e
theorem mVs.of_get {ids : List (Nat × Int)} {l l2 : List mV} (h : mVs ids l) {v : mV} (hv : mVal ids v) (h2 : ∀ (j : Nat) (w : mV), l2[j]? = some w → w ≠ mU → w = v ∨ ∃ i : Nat, l[i]? = some w) : mVs ids l2 := by
  intro w hw
  obtain ⟨j, hj⟩ := List.getElem?_of_mem hw
  by_cases hu : w = mU
  · subst hu
    intro h1 _
    exact absurd h1 (by decide)
  · rcases h2 j w hj hu with e | ⟨i, hi⟩
    · exact e ▸ hv
    · exact h w (List.mem_of_getElem? hi)
theorem mVs.st1 {ids : List (Nat × Int)} {L : List mV} (h : mVs ids L) {v : mV} (hv : mVal ids v) (i : Nat) : mVs ids (mSt1 L i v) := h.of_get hv fun j w hj hu => (mSt1_get L i v j w hj hu).elim (fun z => Or.inl z.2) (fun z => Or.inr ⟨j, z.2.1⟩)
theorem mVs.st2 {ids : List (Nat × Int)} {L : List mV} (h : mVs ids L) {v : mV} (hv : mVal ids v) (i : Nat) : mVs ids (mSt2 L i v) := h.of_get hv fun j w hj hu => (mSt2_get L i v j w hj hu).elim (fun z => Or.inl z.2) (fun z => Or.inr ⟨j, z.2.2.1⟩)
end
section
/-! one row an instruction -/
/-- at pc stands this instruction, n bytes long; pc' is behind it -/
abbrev mDc (M : mMs) (pc : Nat) (ins : Instr) (n pc' : Nat) : Prop := decode M.2.1 pc = .ok (ins, n) ∧ pc + n = pc'
abbrev mDq (M : mMs) (q : Nat × Instr × Nat × Nat) : Prop := mDc M q.1 q.2.1 q.2.2.1 q.2.2.2
theorem dT {M : mMs} {tab : List (Nat × Instr × Nat × Nat)} (h : ∀ q ∈ tab, mDq M q) (i : Nat) {pc n pc' : Nat} {ins : Instr} (hq : tab[i]? = some (pc, ins, n, pc')) : mDc M pc ins n pc' := h (pc, ins, n, pc') (List.mem_of_getElem? hq)
section MMR
variable {F : mG → Prop} {M : mMs} {pc : Nat} {L st : List mV} {h : mH}
theorem mw_iconst {n : Int} {pc' : Nat} (hd : mDc M pc (.iconst n) 1 pc') (k : At F M pc' L (mI n :: st) h) : At F M pc L st h := by
  obtain ⟨hd, rfl⟩ := hd
  intro G hF V H locs ls hP hS hL v1 v2
  exact lv_iconst V.1.1 V.1.2.1 hd rfl (k G hF V H locs ls hP hS hL v1 (mVs.cons trivial v2))
theorem mw_bipush {n : Int} (hn : -128 ≤ n ∧ n ≤ 127) {pc' : Nat} (hd : mDc M pc (.bipush n) 2 pc') (k : At F M pc' L (mI n :: st) h) : At F M pc L st h := by
  obtain ⟨hd, rfl⟩ := hd
  intro G hF V H locs ls hP hS hL v1 v2
  exact lv_bipush V.1.1 V.1.2.1 hd (Int8.toInt32_ofInt hn.1 hn.2) (k G hF V H locs ls hP hS hL v1 (mVs.cons trivial v2))
theorem mw_sipush {n : Int} (hn : -32768 ≤ n ∧ n ≤ 32767) {pc' : Nat} (hd : mDc M pc (.sipush n) 3 pc') (k : At F M pc' L (mI n :: st) h) : At F M pc L st h := by
  obtain ⟨hd, rfl⟩ := hd
  intro G hF V H locs ls hP hS hL v1 v2
  exact lv_sipush V.1.1 V.1.2.1 hd (Int16.toInt32_ofInt hn.1 hn.2) (k G hF V H locs ls hP hS hL v1 (mVs.cons trivial v2))
theorem mw_lconst {n : Fin 2} {pc' : Nat} (hd : mDc M pc (.lconst n) 1 pc') (k : At F M pc' L (mJ (n.val : Int) :: st) h) : At F M pc L st h := by
  obtain ⟨hd, rfl⟩ := hd
  intro G hF V H locs ls hP hS hL v1 v2
  exact lv_lconst V.1.1 V.1.2.1 hd (Int64.ofInt_eq_ofNat (n := n.val)).symm (k G hF V H locs ls hP hS hL v1 (mVs.cons trivial v2))
theorem mw_ldc {i : Nat} {x : Int} (hw : Cond.constant M.1.cls i (Int32.ofInt x) ∈ mTbl) {pc' : Nat} (hd : mDc M pc (.ldc i) 2 pc') (k : At F M pc' L (mI x :: st) h) : At F M pc L st h := by
  obtain ⟨hd, rfl⟩ := hd
  intro G hF V H locs ls hP hS hL v1 v2
  exact lv_ldc V.1.1 V.1.2.1 V.1.2.2.2.1 (V.1.2.2.2.2 _ hw) hd (k G hF V H locs ls hP hS hL v1 (mVs.cons trivial v2))
theorem mw_ldcw {i : Nat} {x : Int} (hw : Cond.constant M.1.cls i (Int32.ofInt x) ∈ mTbl) {pc' : Nat} (hd : mDc M pc (.ldc_w i) 3 pc') (k : At F M pc' L (mI x :: st) h) : At F M pc L st h := by
  obtain ⟨hd, rfl⟩ := hd
  intro G hF V H locs ls hP hS hL v1 v2
  exact lv_ldcw V.1.1 V.1.2.1 V.1.2.2.2.1 (V.1.2.2.2.2 _ hw) hd (k G hF V H locs ls hP hS hL v1 (mVs.cons trivial v2))
theorem mw_ldc2 {i : Nat} {x : Int} (hw : Cond.constantLong M.1.cls i (Int64.ofInt x) ∈ mTbl) {pc' : Nat} (hd : mDc M pc (.ldc2_w i) 3 pc') (k : At F M pc' L (mJ x :: st) h) : At F M pc L st h := by
  obtain ⟨hd, rfl⟩ := hd
  intro G hF V H locs ls hP hS hL v1 v2
  exact lv_ldc2 V.1.1 V.1.2.1 V.1.2.2.2.1 (V.1.2.2.2.2 _ hw) hd (k G hF V H locs ls hP hS hL v1 (mVs.cons trivial v2))
theorem mw_iload_n {n : Fin 4} {x : Int} {pc' : Nat} (hd : mDc M pc (.iload_n n) 1 pc') (hv : L[n.val]? = some (mI x)) (k : At F M pc' L (mI x :: st) h) : At F M pc L st h := by
  obtain ⟨hd, rfl⟩ := hd
  intro G hF V H locs ls hP hS hL v1 v2
  exact lv_iload_n V.1.1 V.1.2.1 hd rfl (hL.get hv (by intro z; cases z)) (k G hF V H locs ls hP hS hL v1 (mVs.cons trivial v2))
theorem mw_iload {i : Nat} {x : Int} {pc' : Nat} (hd : mDc M pc (.iload i) 2 pc') (hv : L[i]? = some (mI x)) (k : At F M pc' L (mI x :: st) h) : At F M pc L st h := by
  obtain ⟨hd, rfl⟩ := hd
  intro G hF V H locs ls hP hS hL v1 v2
  exact lv_iload V.1.1 V.1.2.1 hd (hL.get hv (by intro z; cases z)) (k G hF V H locs ls hP hS hL v1 (mVs.cons trivial v2))
theorem mw_lload_n {n : Fin 4} {x : Int} {pc' : Nat} (hd : mDc M pc (.lload_n n) 1 pc') (hv : L[n.val]? = some (mJ x)) (k : At F M pc' L (mJ x :: st) h) : At F M pc L st h := by
  obtain ⟨hd, rfl⟩ := hd
  intro G hF V H locs ls hP hS hL v1 v2
  exact lv_lload_n V.1.1 V.1.2.1 hd rfl (hL.get hv (by intro z; cases z)) (k G hF V H locs ls hP hS hL v1 (mVs.cons trivial v2))
theorem mw_lload {i : Nat} {x : Int} {pc' : Nat} (hd : mDc M pc (.lload i) 2 pc') (hv : L[i]? = some (mJ x)) (k : At F M pc' L (mJ x :: st) h) : At F M pc L st h := by
  obtain ⟨hd, rfl⟩ := hd
  intro G hF V H locs ls hP hS hL v1 v2
  exact lv_lload V.1.1 V.1.2.1 hd (hL.get hv (by intro z; cases z)) (k G hF V H locs ls hP hS hL v1 (mVs.cons trivial v2))
theorem mw_aload_n {n : Fin 4} {r : Nat} {i : Int} {pc' : Nat} (hd : mDc M pc (.aload_n n) 1 pc') (hv : L[n.val]? = some (mR r i)) (hr : r ≠ 0) (k : At F M pc' L (mR r i :: st) h) : At F M pc L st h := by
  obtain ⟨hd, rfl⟩ := hd
  intro G hF V H locs ls hP hS hL v1 v2
  exact lv_aload_n V.1.1 V.1.2.1 hd rfl (hL.get hv (by intro z; cases z; exact hr rfl)) (k G hF V H locs ls hP hS hL v1 (mVs.cons (v1 _ (List.mem_of_getElem? hv)) v2))
theorem mw_aload {j r : Nat} {i : Int} {pc' : Nat} (hd : mDc M pc (.aload j) 2 pc') (hv : L[j]? = some (mR r i)) (hr : r ≠ 0) (k : At F M pc' L (mR r i :: st) h) : At F M pc L st h := by
  obtain ⟨hd, rfl⟩ := hd
  intro G hF V H locs ls hP hS hL v1 v2
  exact lv_aload V.1.1 V.1.2.1 hd (hL.get hv (by intro z; cases z; exact hr rfl)) (k G hF V H locs ls hP hS hL v1 (mVs.cons (v1 _ (List.mem_of_getElem? hv)) v2))
theorem mw_istore_n {n : Fin 4} {x : Int} {pc' : Nat} (hd : mDc M pc (.istore_n n) 1 pc') (hn : n.val < M.2.2.1) (k : At F M pc' (mSt1 L n.val (mI x)) st h) : At F M pc L (mI x :: st) h := by
  obtain ⟨hd, rfl⟩ := hd
  intro G hF V H locs ls hP hS hL v1 v2
  exact lv_istore_n V.1.1 V.1.2.1 hd rfl hL.has hn rfl (fun ls hl => k G hF V H locs ls hP hS (mLs.st1 rfl hl) (mVs.st1 (v := mI x) v1 trivial _) v2.tl)
theorem mw_istore {i : Nat} {x : Int} {pc' : Nat} (hd : mDc M pc (.istore i) 2 pc') (hn : i < M.2.2.1) (k : At F M pc' (mSt1 L i (mI x)) st h) : At F M pc L (mI x :: st) h := by
  obtain ⟨hd, rfl⟩ := hd
  intro G hF V H locs ls hP hS hL v1 v2
  exact lv_istore V.1.1 V.1.2.1 hd hL.has hn rfl (fun ls hl => k G hF V H locs ls hP hS (mLs.st1 rfl hl) (mVs.st1 (v := mI x) v1 trivial _) v2.tl)
theorem mw_lstore_n {n : Fin 4} {x : Int} {pc' : Nat} (hd : mDc M pc (.lstore_n n) 1 pc') (hn : n.val + 1 < M.2.2.1) (k : At F M pc' (mSt2 L n.val (mJ x)) st h) : At F M pc L (mJ x :: st) h := by
  obtain ⟨hd, rfl⟩ := hd
  intro G hF V H locs ls hP hS hL v1 v2
  exact lv_lstore_n V.1.1 V.1.2.1 hd rfl hL.has hn rfl (fun ls hl => k G hF V H locs ls hP hS (mLs.st2 rfl hl) (mVs.st2 (v := mJ x) v1 trivial _) v2.tl)
theorem mw_lstore {i : Nat} {x : Int} {pc' : Nat} (hd : mDc M pc (.lstore i) 2 pc') (hn : i + 1 < M.2.2.1) (k : At F M pc' (mSt2 L i (mJ x)) st h) : At F M pc L (mJ x :: st) h := by
  obtain ⟨hd, rfl⟩ := hd
  intro G hF V H locs ls hP hS hL v1 v2
  exact lv_lstore V.1.1 V.1.2.1 hd hL.has hn rfl (fun ls hl => k G hF V H locs ls hP hS (mLs.st2 rfl hl) (mVs.st2 (v := mJ x) v1 trivial _) v2.tl)
theorem mw_iinc {i : Nat} {n x : Int} {pc' : Nat} (hd : mDc M pc (.iinc i n) 3 pc') (hv : L[i]? = some (mI x)) (hn : i < M.2.2.1) (k : At F M pc' (mSt1 L i (mI (x + n))) st h) : At F M pc L st h := by
  obtain ⟨hd, rfl⟩ := hd
  intro G hF V H locs ls hP hS hL v1 v2
  obtain ⟨j, hj⟩ := List.getElem?_of_mem ((mLof_mem (ad := mGad G) (q := (i, .int (Int32.ofInt x)))).mpr ⟨mI x, hv, (by intro z; cases z), rfl⟩)
  exact lv_iinc V.1.1 V.1.2.1 hd hL.has hj (o32_add x n) hn rfl (fun ls hl => k G hF V H locs ls hP hS (mLs.st1 rfl hl) (mVs.st1 (v := mI (x + n)) v1 trivial _) v2)
theorem mw_iadd {x y : Int} {pc' : Nat} (hd : mDc M pc (.iadd) 1 pc') (k : At F M pc' L (mI (x + y) :: st) h) : At F M pc L (mI y :: mI x :: st) h := by
  obtain ⟨hd, rfl⟩ := hd
  intro G hF V H locs ls hP hS hL v1 v2
  have k := k G hF V H locs ls hP hS hL v1 (mVs.cons trivial v2.tl.tl)
  refine lv_iadd V.1.1 V.1.2.1 hd ?_
  rw [o32_add]
  exact k
theorem mw_isub {x y : Int} {pc' : Nat} (hd : mDc M pc (.isub) 1 pc') (k : At F M pc' L (mI (x - y) :: st) h) : At F M pc L (mI y :: mI x :: st) h := by
  obtain ⟨hd, rfl⟩ := hd
  intro G hF V H locs ls hP hS hL v1 v2
  have k := k G hF V H locs ls hP hS hL v1 (mVs.cons trivial v2.tl.tl)
  refine lv_isub V.1.1 V.1.2.1 hd ?_
  rw [o32_sub]
  exact k
theorem mw_imul {x y : Int} {pc' : Nat} (hd : mDc M pc (.imul) 1 pc') (k : At F M pc' L (mI (x * y) :: st) h) : At F M pc L (mI y :: mI x :: st) h := by
  obtain ⟨hd, rfl⟩ := hd
  intro G hF V H locs ls hP hS hL v1 v2
  have k := k G hF V H locs ls hP hS hL v1 (mVs.cons trivial v2.tl.tl)
  refine lv_imul V.1.1 V.1.2.1 hd ?_
  rw [o32_mul]
  exact k
theorem mw_ladd {x y : Int} {pc' : Nat} (hd : mDc M pc (.ladd) 1 pc') (k : At F M pc' L (mJ (x + y) :: st) h) : At F M pc L (mJ y :: mJ x :: st) h := by
  obtain ⟨hd, rfl⟩ := hd
  intro G hF V H locs ls hP hS hL v1 v2
  have k := k G hF V H locs ls hP hS hL v1 (mVs.cons trivial v2.tl.tl)
  refine lv_ladd V.1.1 V.1.2.1 hd ?_
  rw [o64_add]
  exact k
theorem mw_lsub {x y : Int} {pc' : Nat} (hd : mDc M pc (.lsub) 1 pc') (k : At F M pc' L (mJ (x - y) :: st) h) : At F M pc L (mJ y :: mJ x :: st) h := by
  obtain ⟨hd, rfl⟩ := hd
  intro G hF V H locs ls hP hS hL v1 v2
  have k := k G hF V H locs ls hP hS hL v1 (mVs.cons trivial v2.tl.tl)
  refine lv_lsub V.1.1 V.1.2.1 hd ?_
  rw [o64_sub]
  exact k
theorem mw_lmul {x y : Int} {pc' : Nat} (hd : mDc M pc (.lmul) 1 pc') (k : At F M pc' L (mJ (x * y) :: st) h) : At F M pc L (mJ y :: mJ x :: st) h := by
  obtain ⟨hd, rfl⟩ := hd
  intro G hF V H locs ls hP hS hL v1 v2
  have k := k G hF V H locs ls hP hS hL v1 (mVs.cons trivial v2.tl.tl)
  refine lv_lmul V.1.1 V.1.2.1 hd ?_
  rw [o64_mul]
  exact k
theorem mw_iand {x y : Int} {pc' : Nat} (hd : mDc M pc (.iand) 1 pc') (k : At F M pc' L (mI (mAnd x y) :: st) h) : At F M pc L (mI y :: mI x :: st) h := by
  obtain ⟨hd, rfl⟩ := hd
  intro G hF V H locs ls hP hS hL v1 v2
  have k := k G hF V H locs ls hP hS hL v1 (mVs.cons trivial v2.tl.tl)
  refine lv_iand V.1.1 V.1.2.1 hd ?_
  rw [← Int32.ofInt_toInt (Int32.ofInt x &&& Int32.ofInt y)]
  exact k
theorem mw_ior {x y : Int} {pc' : Nat} (hd : mDc M pc (.ior) 1 pc') (k : At F M pc' L (mI (mOr x y) :: st) h) : At F M pc L (mI y :: mI x :: st) h := by
  obtain ⟨hd, rfl⟩ := hd
  intro G hF V H locs ls hP hS hL v1 v2
  have k := k G hF V H locs ls hP hS hL v1 (mVs.cons trivial v2.tl.tl)
  refine lv_ior V.1.1 V.1.2.1 hd ?_
  rw [← Int32.ofInt_toInt (Int32.ofInt x ||| Int32.ofInt y)]
  exact k
theorem mw_ixor {x y : Int} {pc' : Nat} (hd : mDc M pc (.ixor) 1 pc') (k : At F M pc' L (mI (mXor x y) :: st) h) : At F M pc L (mI y :: mI x :: st) h := by
  obtain ⟨hd, rfl⟩ := hd
  intro G hF V H locs ls hP hS hL v1 v2
  have k := k G hF V H locs ls hP hS hL v1 (mVs.cons trivial v2.tl.tl)
  refine lv_ixor V.1.1 V.1.2.1 hd ?_
  rw [← Int32.ofInt_toInt (Int32.ofInt x ^^^ Int32.ofInt y)]
  exact k
theorem mw_ishl {x y : Int} {pc' : Nat} (hd : mDc M pc (.ishl) 1 pc') (k : At F M pc' L (mI (mShl x y) :: st) h) : At F M pc L (mI y :: mI x :: st) h := by
  obtain ⟨hd, rfl⟩ := hd
  intro G hF V H locs ls hP hS hL v1 v2
  have k := k G hF V H locs ls hP hS hL v1 (mVs.cons trivial v2.tl.tl)
  refine lv_ishl V.1.1 V.1.2.1 hd ?_
  rw [← Int32.ofInt_toInt (Int32.ofInt x <<< (Int32.ofInt y &&& 31))]
  exact k
theorem mw_ishr {x y : Int} {pc' : Nat} (hd : mDc M pc (.ishr) 1 pc') (k : At F M pc' L (mI (mShr x y) :: st) h) : At F M pc L (mI y :: mI x :: st) h := by
  obtain ⟨hd, rfl⟩ := hd
  intro G hF V H locs ls hP hS hL v1 v2
  have k := k G hF V H locs ls hP hS hL v1 (mVs.cons trivial v2.tl.tl)
  refine lv_ishr V.1.1 V.1.2.1 hd ?_
  rw [← Int32.ofInt_toInt (Int32.ofInt x >>> (Int32.ofInt y &&& 31))]
  exact k
theorem mw_land {x y : Int} {pc' : Nat} (hd : mDc M pc (.land) 1 pc') (k : At F M pc' L (mJ (mAndL x y) :: st) h) : At F M pc L (mJ y :: mJ x :: st) h := by
  obtain ⟨hd, rfl⟩ := hd
  intro G hF V H locs ls hP hS hL v1 v2
  have k := k G hF V H locs ls hP hS hL v1 (mVs.cons trivial v2.tl.tl)
  refine lv_land V.1.1 V.1.2.1 hd ?_
  rw [← Int64.ofInt_toInt (Int64.ofInt x &&& Int64.ofInt y)]
  exact k
theorem mw_lshr {x y : Int} {pc' : Nat} (hd : mDc M pc (.lshr) 1 pc') (k : At F M pc' L (mJ (mShrL x y) :: st) h) : At F M pc L (mI y :: mJ x :: st) h := by
  obtain ⟨hd, rfl⟩ := hd
  intro G hF V H locs ls hP hS hL v1 v2
  exact lv_lshr V.1.1 V.1.2.1 hd (Int64.ofInt_toInt _).symm (k G hF V H locs ls hP hS hL v1 (mVs.cons trivial v2.tl.tl))
theorem mw_lneg {x : Int} {pc' : Nat} (hd : mDc M pc (.lneg) 1 pc') (k : At F M pc' L (mJ (-x) :: st) h) : At F M pc L (mJ x :: st) h := by
  obtain ⟨hd, rfl⟩ := hd
  intro G hF V H locs ls hP hS hL v1 v2
  have k := k G hF V H locs ls hP hS hL v1 (mVs.cons trivial v2.tl)
  refine lv_lneg V.1.1 V.1.2.1 hd ?_
  rw [o64_neg]
  exact k
theorem mw_idiv {x y : Int} {pc' : Nat} (hd : mDc M pc (.idiv) 1 pc') (hc : mInR x ∧ mInR y ∧ y ≠ 0) (k : At F M pc' L (mI (x.tdiv y) :: st) h) : At F M pc L (mI y :: mI x :: st) h := by
  obtain ⟨hd, rfl⟩ := hd
  intro G hF V H locs ls hP hS hL v1 v2
  have k := k G hF V H locs ls hP hS hL v1 (mVs.cons trivial v2.tl.tl)
  refine lv_idiv V.1.1 V.1.2.1 hd (fun z => hc.2.2 ((o32_eq hc.2.1 (y := 0) (by decide)).mp z)) ?_
  rw [o32_div hc.1 hc.2.1]
  exact k
theorem mw_ldiv {x y : Int} {pc' : Nat} (hd : mDc M pc (.ldiv) 1 pc') (hc : mInL x ∧ mInL y ∧ y ≠ 0) (k : At F M pc' L (mJ (x.tdiv y) :: st) h) : At F M pc L (mJ y :: mJ x :: st) h := by
  obtain ⟨hd, rfl⟩ := hd
  intro G hF V H locs ls hP hS hL v1 v2
  have k := k G hF V H locs ls hP hS hL v1 (mVs.cons trivial v2.tl.tl)
  refine lv_ldiv V.1.1 V.1.2.1 hd (fun z => hc.2.2 ((o64_eq hc.2.1 (y := 0) (by decide)).mp z)) ?_
  rw [o64_div hc.1 hc.2.1]
  exact k
theorem mw_irem {x y : Int} {pc' : Nat} (hd : mDc M pc (.irem) 1 pc') (hc : mInR x ∧ mInR y ∧ y ≠ 0) (k : At F M pc' L (mI (x.tmod y) :: st) h) : At F M pc L (mI y :: mI x :: st) h := by
  obtain ⟨hd, rfl⟩ := hd
  intro G hF V H locs ls hP hS hL v1 v2
  have k := k G hF V H locs ls hP hS hL v1 (mVs.cons trivial v2.tl.tl)
  refine lv_irem V.1.1 V.1.2.1 hd (fun z => hc.2.2 ((o32_eq hc.2.1 (y := 0) (by decide)).mp z)) ?_
  rw [o32_div hc.1 hc.2.1, o32_mul, o32_sub, show x - x.tdiv y * y = x.tmod y from by rw [Int.tmod_def, Int.mul_comm]]
  exact k
theorem mw_lrem {x y : Int} {pc' : Nat} (hd : mDc M pc (.lrem) 1 pc') (hc : mInL x ∧ mInL y ∧ y ≠ 0) (k : At F M pc' L (mJ (x.tmod y) :: st) h) : At F M pc L (mJ y :: mJ x :: st) h := by
  obtain ⟨hd, rfl⟩ := hd
  intro G hF V H locs ls hP hS hL v1 v2
  have k := k G hF V H locs ls hP hS hL v1 (mVs.cons trivial v2.tl.tl)
  refine lv_lrem V.1.1 V.1.2.1 hd (fun z => hc.2.2 ((o64_eq hc.2.1 (y := 0) (by decide)).mp z)) ?_
  rw [o64_div hc.1 hc.2.1, o64_mul, o64_sub, show x - x.tdiv y * y = x.tmod y from by rw [Int.tmod_def, Int.mul_comm]]
  exact k
theorem mw_i2l {x : Int} {pc' : Nat} (hd : mDc M pc (.i2l) 1 pc') (hc : mInR x) (k : At F M pc' L (mJ x :: st) h) : At F M pc L (mI x :: st) h := by
  obtain ⟨hd, rfl⟩ := hd
  intro G hF V H locs ls hP hS hL v1 v2
  exact lv_i2l V.1.1 V.1.2.1 hd (o32_l hc) (k G hF V H locs ls hP hS hL v1 (mVs.cons trivial v2.tl))
theorem mw_l2i {x : Int} {pc' : Nat} (hd : mDc M pc (.l2i) 1 pc') (k : At F M pc' L (mI x :: st) h) : At F M pc L (mJ x :: st) h := by
  obtain ⟨hd, rfl⟩ := hd
  intro G hF V H locs ls hP hS hL v1 v2
  exact lv_l2i V.1.1 V.1.2.1 hd (o64_i x) (k G hF V H locs ls hP hS hL v1 (mVs.cons trivial v2.tl))
theorem mw_i2b {x : Int} {pc' : Nat} (hd : mDc M pc (.i2b) 1 pc') (k : At F M pc' L (mI (mI2b x) :: st) h) : At F M pc L (mI x :: st) h := by
  obtain ⟨hd, rfl⟩ := hd
  intro G hF V H locs ls hP hS hL v1 v2
  exact lv_i2b V.1.1 V.1.2.1 hd (Int32.ofInt_toInt _).symm (k G hF V H locs ls hP hS hL v1 (mVs.cons trivial v2.tl))
theorem mIv_c1 {ad : Nat → Int → Nat} {v : mV} (hc : ∀ x, v ≠ mJ x) : (mIv ad v).category = 1 := by
  rcases v with x | x | q
  · rfl
  · exact absurd rfl (hc x)
  · rfl
theorem mw_dup {v : mV} {pc' : Nat} (hd : mDc M pc (.dup) 1 pc') (hc : ∀ x, v ≠ mJ x) (k : At F M pc' L (v :: v :: st) h) : At F M pc L (v :: st) h := by
  obtain ⟨hd, rfl⟩ := hd
  intro G hF V H locs ls hP hS hL v1 v2
  exact lv_dup V.1.1 V.1.2.1 hd (mIv_c1 hc) (k G hF V H locs ls hP hS hL v1 (mVs.cons v2.hd v2))
theorem mw_pop {v : mV} {pc' : Nat} (hd : mDc M pc (.pop) 1 pc') (hc : ∀ x, v ≠ mJ x) (k : At F M pc' L st h) : At F M pc L (v :: st) h := by
  obtain ⟨hd, rfl⟩ := hd
  intro G hF V H locs ls hP hS hL v1 v2
  exact lv_pop V.1.1 V.1.2.1 hd (mIv_c1 hc) (k G hF V H locs ls hP hS hL v1 v2.tl)
theorem mw_dup2 {v u : mV} {pc' : Nat} (hd : mDc M pc (.dup2) 1 pc') (hc : ∀ x, v ≠ mJ x) (hc2 : ∀ x, u ≠ mJ x) (k : At F M pc' L (v :: u :: v :: u :: st) h) : At F M pc L (v :: u :: st) h := by
  obtain ⟨hd, rfl⟩ := hd
  intro G hF V H locs ls hP hS hL v1 v2
  exact lv_dup2_11 V.1.1 V.1.2.1 hd (mIv_c1 hc) (mIv_c1 hc2) (k G hF V H locs ls hP hS hL v1 (mVs.cons v2.hd (mVs.cons v2.tl.hd v2)))
theorem mw_dup_x1 {v u : mV} {pc' : Nat} (hd : mDc M pc (.dup_x1) 1 pc') (hc : ∀ x, v ≠ mJ x) (hc2 : ∀ x, u ≠ mJ x) (k : At F M pc' L (v :: u :: v :: st) h) : At F M pc L (v :: u :: st) h := by
  obtain ⟨hd, rfl⟩ := hd
  intro G hF V H locs ls hP hS hL v1 v2
  exact lv_dup_x1 V.1.1 V.1.2.1 hd (mIv_c1 hc) (mIv_c1 hc2) (k G hF V H locs ls hP hS hL v1 (mVs.cons v2.hd (mVs.cons v2.tl.hd (mVs.cons v2.hd v2.tl.tl))))
theorem mw_goto {off : Int} (tgt : Nat) {pc' : Nat} (hd : mDc M pc (.goto off) 3 pc') (ht : (pc : Int) + off = (tgt : Int)) (k : At F M tgt L st h) : At F M pc L st h := by
  obtain ⟨hd, rfl⟩ := hd
  intro G hF V H locs ls hP hS hL v1 v2
  exact lv_goto V.1.1 V.1.2.1 hd ht (k G hF V H locs ls hP hS hL v1 v2)
theorem mw_if_eq {x off : Int} (tgt : Nat) {pc' : Nat} (hd : mDc M pc (.ifCond .eq off) 3 pc') (ht : (pc : Int) + off = (tgt : Int)) (hc : mInR x) (kt : x = 0 → At F M tgt L st h) (kf : ¬ x = 0 → At F M pc' L st h) : At F M pc L (mI x :: st) h := by
  obtain ⟨hd, rfl⟩ := hd
  intro G hF V H locs ls hP hS hL v1 v2
  exact lv_if_eq V.1.1 V.1.2.1 hd ht (fun z => kt ((o32_eq hc (y := 0) (by decide)).mp z) G hF V H locs ls hP hS hL v1 v2.tl) (fun z => kf ((fun y9 => z ((o32_eq hc (y := 0) (by decide)).mpr y9))) G hF V H locs ls hP hS hL v1 v2.tl)
theorem mw_icmp_eq {x y off : Int} (tgt : Nat) {pc' : Nat} (hd : mDc M pc (.if_icmp .eq off) 3 pc') (ht : (pc : Int) + off = (tgt : Int)) (hc : mInR x ∧ mInR y) (kt : x = y → At F M tgt L st h) (kf : ¬ x = y → At F M pc' L st h) : At F M pc L (mI y :: mI x :: st) h := by
  obtain ⟨hd, rfl⟩ := hd
  intro G hF V H locs ls hP hS hL v1 v2
  exact lv_icmp_eq V.1.1 V.1.2.1 hd ht (fun z => kt ((o32_eq hc.1 hc.2).mp z) G hF V H locs ls hP hS hL v1 v2.tl.tl) (fun z => kf ((fun y9 => z ((o32_eq hc.1 hc.2).mpr y9))) G hF V H locs ls hP hS hL v1 v2.tl.tl)
theorem mw_if_ne {x off : Int} (tgt : Nat) {pc' : Nat} (hd : mDc M pc (.ifCond .ne off) 3 pc') (ht : (pc : Int) + off = (tgt : Int)) (hc : mInR x) (kt : ¬ x = 0 → At F M tgt L st h) (kf : x = 0 → At F M pc' L st h) : At F M pc L (mI x :: st) h := by
  obtain ⟨hd, rfl⟩ := hd
  intro G hF V H locs ls hP hS hL v1 v2
  exact lv_if_ne V.1.1 V.1.2.1 hd ht (fun z => kt ((fun y9 => z ((o32_eq hc (y := 0) (by decide)).mpr y9))) G hF V H locs ls hP hS hL v1 v2.tl) (fun z => kf ((o32_eq hc (y := 0) (by decide)).mp z) G hF V H locs ls hP hS hL v1 v2.tl)
theorem mw_icmp_ne {x y off : Int} (tgt : Nat) {pc' : Nat} (hd : mDc M pc (.if_icmp .ne off) 3 pc') (ht : (pc : Int) + off = (tgt : Int)) (hc : mInR x ∧ mInR y) (kt : ¬ x = y → At F M tgt L st h) (kf : x = y → At F M pc' L st h) : At F M pc L (mI y :: mI x :: st) h := by
  obtain ⟨hd, rfl⟩ := hd
  intro G hF V H locs ls hP hS hL v1 v2
  exact lv_icmp_ne V.1.1 V.1.2.1 hd ht (fun z => kt ((fun y9 => z ((o32_eq hc.1 hc.2).mpr y9))) G hF V H locs ls hP hS hL v1 v2.tl.tl) (fun z => kf ((o32_eq hc.1 hc.2).mp z) G hF V H locs ls hP hS hL v1 v2.tl.tl)
theorem mw_if_lt {x off : Int} (tgt : Nat) {pc' : Nat} (hd : mDc M pc (.ifCond .lt off) 3 pc') (ht : (pc : Int) + off = (tgt : Int)) (hc : mInR x) (kt : x < 0 → At F M tgt L st h) (kf : ¬ x < 0 → At F M pc' L st h) : At F M pc L (mI x :: st) h := by
  obtain ⟨hd, rfl⟩ := hd
  intro G hF V H locs ls hP hS hL v1 v2
  exact lv_if_lt V.1.1 V.1.2.1 hd ht (fun z => kt ((o32_lt hc (y := 0) (by decide)).mp z) G hF V H locs ls hP hS hL v1 v2.tl) (fun z => kf ((fun y9 => z ((o32_lt hc (y := 0) (by decide)).mpr y9))) G hF V H locs ls hP hS hL v1 v2.tl)
theorem mw_icmp_lt {x y off : Int} (tgt : Nat) {pc' : Nat} (hd : mDc M pc (.if_icmp .lt off) 3 pc') (ht : (pc : Int) + off = (tgt : Int)) (hc : mInR x ∧ mInR y) (kt : x < y → At F M tgt L st h) (kf : ¬ x < y → At F M pc' L st h) : At F M pc L (mI y :: mI x :: st) h := by
  obtain ⟨hd, rfl⟩ := hd
  intro G hF V H locs ls hP hS hL v1 v2
  exact lv_icmp_lt V.1.1 V.1.2.1 hd ht (fun z => kt ((o32_lt hc.1 hc.2).mp z) G hF V H locs ls hP hS hL v1 v2.tl.tl) (fun z => kf ((fun y9 => z ((o32_lt hc.1 hc.2).mpr y9))) G hF V H locs ls hP hS hL v1 v2.tl.tl)
theorem mw_if_ge {x off : Int} (tgt : Nat) {pc' : Nat} (hd : mDc M pc (.ifCond .ge off) 3 pc') (ht : (pc : Int) + off = (tgt : Int)) (hc : mInR x) (kt : 0 ≤ x → At F M tgt L st h) (kf : ¬ 0 ≤ x → At F M pc' L st h) : At F M pc L (mI x :: st) h := by
  obtain ⟨hd, rfl⟩ := hd
  intro G hF V H locs ls hP hS hL v1 v2
  exact lv_if_ge V.1.1 V.1.2.1 hd ht (fun z => kt ((o32_le (x := 0) (by decide) hc).mp z) G hF V H locs ls hP hS hL v1 v2.tl) (fun z => kf ((fun y9 => z ((o32_le (x := 0) (by decide) hc).mpr y9))) G hF V H locs ls hP hS hL v1 v2.tl)
theorem mw_icmp_ge {x y off : Int} (tgt : Nat) {pc' : Nat} (hd : mDc M pc (.if_icmp .ge off) 3 pc') (ht : (pc : Int) + off = (tgt : Int)) (hc : mInR x ∧ mInR y) (kt : y ≤ x → At F M tgt L st h) (kf : ¬ y ≤ x → At F M pc' L st h) : At F M pc L (mI y :: mI x :: st) h := by
  obtain ⟨hd, rfl⟩ := hd
  intro G hF V H locs ls hP hS hL v1 v2
  exact lv_icmp_ge V.1.1 V.1.2.1 hd ht (fun z => kt ((o32_le hc.2 hc.1).mp z) G hF V H locs ls hP hS hL v1 v2.tl.tl) (fun z => kf ((fun y9 => z ((o32_le hc.2 hc.1).mpr y9))) G hF V H locs ls hP hS hL v1 v2.tl.tl)
theorem mw_if_gt {x off : Int} (tgt : Nat) {pc' : Nat} (hd : mDc M pc (.ifCond .gt off) 3 pc') (ht : (pc : Int) + off = (tgt : Int)) (hc : mInR x) (kt : 0 < x → At F M tgt L st h) (kf : ¬ 0 < x → At F M pc' L st h) : At F M pc L (mI x :: st) h := by
  obtain ⟨hd, rfl⟩ := hd
  intro G hF V H locs ls hP hS hL v1 v2
  exact lv_if_gt V.1.1 V.1.2.1 hd ht (fun z => kt ((o32_lt (x := 0) (by decide) hc).mp z) G hF V H locs ls hP hS hL v1 v2.tl) (fun z => kf ((fun y9 => z ((o32_lt (x := 0) (by decide) hc).mpr y9))) G hF V H locs ls hP hS hL v1 v2.tl)
theorem mw_icmp_gt {x y off : Int} (tgt : Nat) {pc' : Nat} (hd : mDc M pc (.if_icmp .gt off) 3 pc') (ht : (pc : Int) + off = (tgt : Int)) (hc : mInR x ∧ mInR y) (kt : y < x → At F M tgt L st h) (kf : ¬ y < x → At F M pc' L st h) : At F M pc L (mI y :: mI x :: st) h := by
  obtain ⟨hd, rfl⟩ := hd
  intro G hF V H locs ls hP hS hL v1 v2
  exact lv_icmp_gt V.1.1 V.1.2.1 hd ht (fun z => kt ((o32_lt hc.2 hc.1).mp z) G hF V H locs ls hP hS hL v1 v2.tl.tl) (fun z => kf ((fun y9 => z ((o32_lt hc.2 hc.1).mpr y9))) G hF V H locs ls hP hS hL v1 v2.tl.tl)
theorem mw_if_le {x off : Int} (tgt : Nat) {pc' : Nat} (hd : mDc M pc (.ifCond .le off) 3 pc') (ht : (pc : Int) + off = (tgt : Int)) (hc : mInR x) (kt : x ≤ 0 → At F M tgt L st h) (kf : ¬ x ≤ 0 → At F M pc' L st h) : At F M pc L (mI x :: st) h := by
  obtain ⟨hd, rfl⟩ := hd
  intro G hF V H locs ls hP hS hL v1 v2
  exact lv_if_le V.1.1 V.1.2.1 hd ht (fun z => kt ((o32_le hc (y := 0) (by decide)).mp z) G hF V H locs ls hP hS hL v1 v2.tl) (fun z => kf ((fun y9 => z ((o32_le hc (y := 0) (by decide)).mpr y9))) G hF V H locs ls hP hS hL v1 v2.tl)
theorem mw_icmp_le {x y off : Int} (tgt : Nat) {pc' : Nat} (hd : mDc M pc (.if_icmp .le off) 3 pc') (ht : (pc : Int) + off = (tgt : Int)) (hc : mInR x ∧ mInR y) (kt : x ≤ y → At F M tgt L st h) (kf : ¬ x ≤ y → At F M pc' L st h) : At F M pc L (mI y :: mI x :: st) h := by
  obtain ⟨hd, rfl⟩ := hd
  intro G hF V H locs ls hP hS hL v1 v2
  exact lv_icmp_le V.1.1 V.1.2.1 hd ht (fun z => kt ((o32_le hc.1 hc.2).mp z) G hF V H locs ls hP hS hL v1 v2.tl.tl) (fun z => kf ((fun y9 => z ((o32_le hc.1 hc.2).mpr y9))) G hF V H locs ls hP hS hL v1 v2.tl.tl)
end MMR
end
section
/-! rows of the small machine: comparisons of longs, cells, ends, calls -/
section MMC
variable {F : mG → Prop} {M : mMs} {pc : Nat} {L st : List mV} {h : mH}
theorem mw_lif_lt {x y off : Int} {pc1 pc' : Nat} (tgt : Nat) (hd : mDc M pc (.lcmp) 1 pc1) (hd2 : mDc M pc1 (.ifCond .lt off) 3 pc') (ht : (pc1 : Int) + off = (tgt : Int)) (hc : mInL x ∧ mInL y) (kt : x < y → At F M tgt L st h) (kf : ¬ x < y → At F M pc' L st h) : At F M pc L (mJ y :: mJ x :: st) h := by
  obtain ⟨hd, rfl⟩ := hd
  obtain ⟨hd2, rfl⟩ := hd2
  intro G hF V H locs ls hP hS hL v1 v2
  exact W.lcmp V.1.1 V.1.2.1 hd (lv_if_lt V.1.1 V.1.2.1 hd2 ht (fun z => kt ((o64_lt hc.1 hc.2).mp ((lg_cmp_lt _ _).mp z)) G hF V H locs ls hP hS hL v1 v2.tl.tl) (fun z => kf (fun z2 => z ((lg_cmp_lt _ _).mpr ((o64_lt hc.1 hc.2).mpr z2))) G hF V H locs ls hP hS hL v1 v2.tl.tl))
theorem mw_lif_ge {x y off : Int} {pc1 pc' : Nat} (tgt : Nat) (hd : mDc M pc (.lcmp) 1 pc1) (hd2 : mDc M pc1 (.ifCond .ge off) 3 pc') (ht : (pc1 : Int) + off = (tgt : Int)) (hc : mInL x ∧ mInL y) (kt : y ≤ x → At F M tgt L st h) (kf : ¬ y ≤ x → At F M pc' L st h) : At F M pc L (mJ y :: mJ x :: st) h := by
  obtain ⟨hd, rfl⟩ := hd
  obtain ⟨hd2, rfl⟩ := hd2
  intro G hF V H locs ls hP hS hL v1 v2
  have e : Int64.ofInt y ≤ Int64.ofInt x ↔ y ≤ x := by rw [Int64.le_iff_toInt_le, o64 hc.1, o64 hc.2]
  exact W.lcmp V.1.1 V.1.2.1 hd (lv_if_ge V.1.1 V.1.2.1 hd2 ht (fun z => kt (e.mp ((lg_cmp_ge _ _).mp z)) G hF V H locs ls hP hS hL v1 v2.tl.tl) (fun z => kf (fun z2 => z ((lg_cmp_ge _ _).mpr (e.mpr z2))) G hF V H locs ls hP hS hL v1 v2.tl.tl))
theorem mw_lif_gt {x y off : Int} {pc1 pc' : Nat} (tgt : Nat) (hd : mDc M pc (.lcmp) 1 pc1) (hd2 : mDc M pc1 (.ifCond .gt off) 3 pc') (ht : (pc1 : Int) + off = (tgt : Int)) (hc : mInL x ∧ mInL y) (kt : y < x → At F M tgt L st h) (kf : ¬ y < x → At F M pc' L st h) : At F M pc L (mJ y :: mJ x :: st) h := by
  obtain ⟨hd, rfl⟩ := hd
  obtain ⟨hd2, rfl⟩ := hd2
  intro G hF V H locs ls hP hS hL v1 v2
  exact W.lcmp V.1.1 V.1.2.1 hd (lv_if_gt V.1.1 V.1.2.1 hd2 ht (fun z => kt ((o64_lt hc.2 hc.1).mp ((lg_cmp_gt _ _).mp z)) G hF V H locs ls hP hS hL v1 v2.tl.tl) (fun z => kf (fun z2 => z ((lg_cmp_gt _ _).mpr ((o64_lt hc.2 hc.1).mpr z2))) G hF V H locs ls hP hS hL v1 v2.tl.tl))
theorem mw_lif_le {x y off : Int} {pc1 pc' : Nat} (tgt : Nat) (hd : mDc M pc (.lcmp) 1 pc1) (hd2 : mDc M pc1 (.ifCond .le off) 3 pc') (ht : (pc1 : Int) + off = (tgt : Int)) (hc : mInL x ∧ mInL y) (kt : x ≤ y → At F M tgt L st h) (kf : ¬ x ≤ y → At F M pc' L st h) : At F M pc L (mJ y :: mJ x :: st) h := by
  obtain ⟨hd, rfl⟩ := hd
  obtain ⟨hd2, rfl⟩ := hd2
  intro G hF V H locs ls hP hS hL v1 v2
  have e : Int64.ofInt x ≤ Int64.ofInt y ↔ x ≤ y := by rw [Int64.le_iff_toInt_le, o64 hc.1, o64 hc.2]
  exact W.lcmp V.1.1 V.1.2.1 hd (lv_if_le V.1.1 V.1.2.1 hd2 ht (fun z => kt (e.mp ((lg_cmp_le _ _).mp z)) G hF V H locs ls hP hS hL v1 v2.tl.tl) (fun z => kf (fun z2 => z ((lg_cmp_le _ _).mpr (e.mpr z2))) G hF V H locs ls hP hS hL v1 v2.tl.tl))
theorem mw_lif_eq {x y off : Int} {pc1 pc' : Nat} (tgt : Nat) (hd : mDc M pc (.lcmp) 1 pc1) (hd2 : mDc M pc1 (.ifCond .eq off) 3 pc') (ht : (pc1 : Int) + off = (tgt : Int)) (hc : mInL x ∧ mInL y) (kt : x = y → At F M tgt L st h) (kf : ¬ x = y → At F M pc' L st h) : At F M pc L (mJ y :: mJ x :: st) h := by
  obtain ⟨hd, rfl⟩ := hd
  obtain ⟨hd2, rfl⟩ := hd2
  intro G hF V H locs ls hP hS hL v1 v2
  exact W.lcmp V.1.1 V.1.2.1 hd (lv_if_eq V.1.1 V.1.2.1 hd2 ht (fun z => kt ((o64_eq hc.1 hc.2).mp ((lg_cmp_eq _ _).mp z)) G hF V H locs ls hP hS hL v1 v2.tl.tl) (fun z => kf (fun z2 => z ((lg_cmp_eq _ _).mpr ((o64_eq hc.1 hc.2).mpr z2))) G hF V H locs ls hP hS hL v1 v2.tl.tl))
theorem mw_lif_ne {x y off : Int} {pc1 pc' : Nat} (tgt : Nat) (hd : mDc M pc (.lcmp) 1 pc1) (hd2 : mDc M pc1 (.ifCond .ne off) 3 pc') (ht : (pc1 : Int) + off = (tgt : Int)) (hc : mInL x ∧ mInL y) (kt : ¬ x = y → At F M tgt L st h) (kf : x = y → At F M pc' L st h) : At F M pc L (mJ y :: mJ x :: st) h := by
  obtain ⟨hd, rfl⟩ := hd
  obtain ⟨hd2, rfl⟩ := hd2
  intro G hF V H locs ls hP hS hL v1 v2
  exact W.lcmp V.1.1 V.1.2.1 hd (lv_if_ne V.1.1 V.1.2.1 hd2 ht (fun z => kt (fun z2 => z ((lg_cmp_eq _ _).mpr ((o64_eq hc.1 hc.2).mpr z2))) G hF V H locs ls hP hS hL v1 v2.tl.tl) (fun z => kf ((o64_eq hc.1 hc.2).mp ((lg_cmp_eq _ _).mp z)) G hF V H locs ls hP hS hL v1 v2.tl.tl))
theorem mw_tableIn {x : Int} {dflt lo hi off : Int} {offs : Array Int} {len : Nat} {pc' : Nat} (tgt : Nat) (hd : mDc M pc (.tableswitch dflt lo hi offs) len pc') (hx : mInR x) (h1 : lo ≤ x) (h2 : x ≤ hi) (ho : offs[(x - lo).toNat]? = some off) (ht : (pc : Int) + off = (tgt : Int)) (k : At F M tgt L st h) : At F M pc L (mI x :: st) h := by
  obtain ⟨hd, -⟩ := hd
  intro G hF V H locs ls hP hS hL v1 v2
  exact lv_tableIn V.1.1 V.1.2.1 hd (by rw [o32 hx]; omega) (by rw [o32 hx]; omega) (by rw [o32 hx]; exact ho) ht (k G hF V H locs ls hP hS hL v1 v2.tl)
theorem mw_tableOut {x : Int} {dflt lo hi : Int} {offs : Array Int} {len : Nat} {pc' : Nat} (tgt : Nat) (hd : mDc M pc (.tableswitch dflt lo hi offs) len pc') (hx : mInR x) (h1 : x < lo ∨ hi < x) (ht : (pc : Int) + dflt = (tgt : Int)) (k : At F M tgt L st h) : At F M pc L (mI x :: st) h := by
  obtain ⟨hd, -⟩ := hd
  intro G hF V H locs ls hP hS hL v1 v2
  exact lv_tableOut V.1.1 V.1.2.1 hd (by rw [o32 hx]; exact h1) ht (k G hF V H locs ls hP hS hL v1 v2.tl)
/-! the world -/
theorem mW_at {cA : Nat → ClassId} {ad : Nat → Int → Nat} {ids : List (Nat × Int)} {p : Nat} {q : Nat × Int} (hp : ids[p]? = some q) (h : mH) : (mW cA ad ids h)[p]? = some (ad q.1 q.2, mEnt cA ad h q) := by
  unfold mW
  rw [List.getElem?_map, hp]
  rfl
theorem mEnt_inr {cA : Nat → ClassId} {ad : Nat → Int → Nat} {h : mH} {r : Nat} {i : Int} {ci : Nat} {fs : List mFd} (ho : mT r = .inr (ci, fs)) : mEnt cA ad h (r, i) = .inr (ci, mFs ad h r i fs) := by
  unfold mEnt
  dsimp only
  rw [ho]
theorem mEnt_inl {cA : Nat → ClassId} {ad : Nat → Int → Nat} {h : mH} {r : Nat} {i : Int} {k n : Nat} (ho : mT r = .inl (k, n)) : mEnt cA ad h (r, i) = .inl (cA k, mRow ad h r i k n) := by
  unfold mEnt
  dsimp only
  rw [ho]
theorem mEnt_off {cA : Nat → ClassId} {ad : Nat → Int → Nat} {h h2 : mH} {q : Nat × Int} (e : ∀ k, h2 q.1 q.2 k = h q.1 q.2 k) : mEnt cA ad h2 q = mEnt cA ad h q := by
  have e : h2 q.1 q.2 = h q.1 q.2 := funext e
  unfold mEnt mFs mRow
  rw [e]
theorem mW_set {cA : Nat → ClassId} {ad : Nat → Int → Nat} {ids : List (Nat × Int)} {A : Nat → Prop} {p : Nat} {q : Nat × Int} (hp : ids[p]? = some q) {h h2 : mH} {e : va_E} (hD : va_D A (mW cA ad ids h)) (h1 : mEnt cA ad h2 q = e) (ho : ∀ q2 : Nat × Int, q2 ≠ q → ∀ k, h2 q2.1 q2.2 k = h q2.1 q2.2 k) : (mW cA ad ids h).set p (ad q.1 q.2, e) = mW cA ad ids h2 := by
  have hl : p < ids.length := (List.getElem?_eq_some_iff.mp hp).1
  apply List.ext_getElem?
  intro j
  by_cases hj : j = p
  · subst hj
    rw [List.getElem?_set_self (by unfold mW; rw [List.length_map]; exact hl), mW_at hp, h1]
  · rw [List.getElem?_set_ne (Ne.symm hj)]
    cases hjq : ids[j]? with
    | none =>
      unfold mW
      rw [List.getElem?_map, List.getElem?_map, hjq]
      rfl
    | some q2 =>
      rw [mW_at hjq, mW_at hjq]
      have hne : q2 ≠ q := fun z => hj (hD.1 j p _ _ (mW_at hjq h) (mW_at hp h) (by rw [z]))
      rw [mEnt_off (ho q2 hne)]
theorem mIds_at {ids : List (Nat × Int)} {q : Nat × Int} (h : q ∈ ids) : ∃ p : Nat, ids[p]? = some q := List.getElem?_of_mem h
/-- the tables' words of a number of vwCl -/
theorem mLay : ∀ (ci : Nat) (q : vw_C), vwCl[ci]? = some q → ∀ w ∈ u_ws q.1 q.2.1 q.2.2, w ∈ mTbl := by
  intro ci q hq
  have key : ∀ q ∈ vwCl, ∀ w ∈ u_ws q.1 q.2.1 q.2.2, w ∈ mTbl := by
    have h1 : ∀ q ∈ vwCl, ∀ w ∈ u_ws q.1 q.2.1 q.2.2, w ∈ lw_tbl ∧ goodWord w = true := by decide +kernel
    exact fun q hq w hw => List.mem_filter.mpr (h1 q hq w hw)
  exact key q (List.mem_of_getElem? hq)
theorem mNm : ∀ (ci : Nat) (q : vw_C), vwCl[ci]? = some q → ∀ a, a < q.2.2 → ∀ b, b < q.2.2 → a ≠ b → (q.2.1 a).2.1 ≠ (q.2.1 b).2.1 := by
  intro ci q hq
  have key : ∀ q ∈ vwCl, ∀ a, a < q.2.2 → ∀ b, b < q.2.2 → a ≠ b → (q.2.1 a).2.1 ≠ (q.2.1 b).2.1 := by
    simp only [vwCl, List.forall_mem_cons]
    exact ⟨nmX0, nmX1, nmX2, nmX3, nmX4, nmX5, nmX6, nmX7, fun _ h => absurd h List.not_mem_nil⟩
  exact key q (List.mem_of_getElem? hq)
theorem mTyk : ∀ (ci : Nat) (q : vw_C), vwCl[ci]? = some q → ∃ ty : Nat → FieldType, ∀ k, k < q.2.2 → parseFieldDescriptor (q.2.1 k).2.2.1 = some (ty k) := by
  intro ci q hq
  have key : ∀ q ∈ vwCl, ∃ ty : Nat → FieldType, ∀ k, k < q.2.2 → parseFieldDescriptor (q.2.1 k).2.2.1 = some (ty k) := by
    simp only [vwCl, List.forall_mem_cons]
    exact ⟨⟨_, tyX0_ok⟩, ⟨_, tyX1_ok⟩, ⟨_, tyX2_ok⟩, ⟨_, tyX3_ok⟩, ⟨_, tyX4_ok⟩, ⟨_, tyX5_ok⟩, ⟨_, tyX6_ok⟩, ⟨_, tyX7_ok⟩, fun _ h => absurd h List.not_mem_nil⟩
  exact key q (List.mem_of_getElem? hq)
end MMC
end
section
/-! rows of the small machine: fields and rows of numbers -/
/-- field k of the objects of role r, as the method's own names it: what it holds -/
def mFl (own : String) (idx r : Nat) (kI : Int) (d : mFd) : Prop := ∃ (k : Nat) (ci : Nat) (fs : List mFd) (q : vw_C), (k : Int) = kI ∧ mT r = .inr (ci, fs) ∧ (1 ≤ r ∧ r < 50) ∧ vwCl[ci]? = some q ∧ k < q.2.2 ∧ fs[k]? = some d ∧ Cond.fieldLink own idx (q.2.1 k).1 (q.2.1 k).2.1 (q.2.1 k).2.2.1 ∈ mTbl
/-- it can be written: a number of this type -/
def mFp (own : String) (idx r : Nat) (kI : Int) (ty : FieldType) : Prop := ∃ (k : Nat) (ci : Nat) (fs : List mFd) (q : vw_C), (k : Int) = kI ∧ mT r = .inr (ci, fs) ∧ (1 ≤ r ∧ r < 50) ∧ vwCl[ci]? = some q ∧ k < q.2.2 ∧ fs[k]? = some none ∧ Cond.fieldLink own idx (q.2.1 k).1 (q.2.1 k).2.1 (q.2.1 k).2.2.1 ∈ mTbl ∧ (q.2.1 k).2.2.2 = false ∧ parseFieldDescriptor (q.2.1 k).2.2.1 = some ty
/-- the rows of role r: their kind, their length -/
def mRo (r k : Nat) (n : Int) : Prop := ∃ m : Nat, mT r = .inl (k, m) ∧ (m : Int) = n ∧ (1 ≤ r ∧ r < 50) ∧ n < 2147483648
theorem mFs_get {ad : Nat → Int → Nat} {h : mH} {r : Nat} {i : Int} {fs : List mFd} {k : Nat} (hf : fs[k]? = some none) : (mFs ad h r i fs)[k]? = some (.int (Int32.ofInt (h r i (k : Int)))) := by
  unfold mFs
  rw [List.getElem?_mapIdx, hf]
  rfl
theorem mFs_getR {ad : Nat → Int → Nat} {h : mH} {r : Nat} {i : Int} {fs : List mFd} {k : Nat} {q : Nat × (Int → Int)} (hf : fs[k]? = some (some q)) : (mFs ad h r i fs)[k]? = some (.ref (ad q.1 (q.2 i))) := by
  unfold mFs
  rw [List.getElem?_mapIdx, hf]
  rfl
theorem mFs_len {ad : Nat → Int → Nat} {h : mH} {r : Nat} {i : Int} {fs : List mFd} : (mFs ad h r i fs).length = fs.length := by
  unfold mFs
  rw [List.length_mapIdx]
theorem mFs_set {ad : Nat → Int → Nat} {h : mH} {r : Nat} {i : Int} {fs : List mFd} {k : Nat} (hf : fs[k]? = some none) (v : Int) : (mFs ad h r i fs).set k (.int (Int32.ofInt v)) = mFs ad (mSet h r i (k : Int) v) r i fs := by
  have hl : k < fs.length := (List.getElem?_eq_some_iff.mp hf).1
  apply List.ext_getElem?
  intro j
  by_cases hj : j = k
  · subst hj
    rw [List.getElem?_set_self (by rw [mFs_len]; exact hl), mFs_get hf]
    simp [mSet]
  · rw [List.getElem?_set_ne (Ne.symm hj)]
    cases hjf : fs[j]? with
    | none =>
      unfold mFs
      rw [List.getElem?_mapIdx, List.getElem?_mapIdx, hjf]
      rfl
    | some d =>
      cases d with
      | none =>
        rw [mFs_get hjf, mFs_get hjf]
        have : ¬ (j : Int) = (k : Int) := by omega
        simp [mSet, this]
      | some q => rw [mFs_getR hjf, mFs_getR hjf]
theorem mSet_off {h : mH} {r : Nat} {i k v : Int} (q2 : Nat × Int) (hq : q2 ≠ (r, i)) (k2 : Int) : mSet h r i k v q2.1 q2.2 k2 = h q2.1 q2.2 k2 := by
  unfold mSet
  rw [if_neg]
  rintro ⟨a, b, -⟩
  exact hq (Prod.ext a b)
section MMH
variable {F : mG → Prop} {M : mMs} {pc : Nat} {L st : List mV} {h : mH}
theorem mw_getI {idx r pc' : Nat} {i k : Int} (hl : mFl M.1.cls idx r k none) (hd : mDc M pc (.getfield idx) 3 pc') (kk : At F M pc' L (mI (h r i k) :: st) h) : At F M pc L (mR r i :: st) h := by
  obtain ⟨hd, rfl⟩ := hd
  intro G hF V H locs ls hP hS hL v1 v2
  obtain ⟨k, ci, fs, q, rfl, h1, h2, h3, h4, h5, h6⟩ := hl
  obtain ⟨p, hp⟩ := mIds_at (v2.hd h2.1 h2.2)
  have he := mW_at (cA := mGc G) (ad := mGad G) hp h
  rw [mEnt_inr h1] at he
  exact va_get V.1.1 V.1.2.1 V.1.2.2.2.2 (mLay ci q h3) V.1.2.2.2.1 V.2.2.1.1 hP p he h3 k h4 (V.1.2.2.2.2 _ h6) (fun _ z => z) (mFs_get h5) hd (kk G hF V H locs ls hP hS hL v1 (mVs.cons trivial v2.tl))
theorem mw_getR {idx r pc' r' : Nat} {g : Int → Int} {i k : Int} (hl : mFl M.1.cls idx r k (some (r', g))) (hd : mDc M pc (.getfield idx) 3 pc') (kk : At F M pc' L (mR r' (g i) :: st) h) : At F M pc L (mR r i :: st) h := by
  obtain ⟨hd, rfl⟩ := hd
  intro G hF V H locs ls hP hS hL v1 v2
  obtain ⟨k, ci, fs, q, rfl, h1, h2, h3, h4, h5, h6⟩ := hl
  have hm := v2.hd h2.1 h2.2
  obtain ⟨p, hp⟩ := mIds_at hm
  have he := mW_at (cA := mGc G) (ad := mGad G) hp h
  rw [mEnt_inr h1] at he
  exact va_get V.1.1 V.1.2.1 V.1.2.2.2.2 (mLay ci q h3) V.1.2.2.2.1 V.2.2.1.1 hP p he h3 k h4 (V.1.2.2.2.2 _ h6) (fun _ z => z) (mFs_getR h5) hd (kk G hF V H locs ls hP hS hL v1 (mVs.cons (v := mR r' (g i)) (fun _ _ => V.2.2.2.1.1 r i ci fs k (r', g) hm h1 h5) v2.tl))
theorem mw_put0 {idx r pc' : Nat} {i x k : Int} {ty : FieldType} (hl : mFp M.1.cls idx r k ty) (hn : narrow ty (.int (Int32.ofInt x)) = .int (Int32.ofInt x)) (hfit : fits ty (.int (Int32.ofInt x)) = true) (hd : mDc M pc (.putfield idx) 3 pc') (kk : At F M pc' L st (mSet h r i k x)) : At F M pc L (mI x :: mR r i :: st) h := by
  obtain ⟨hd, rfl⟩ := hd
  intro G hF V H locs ls hP hS hL v1 v2
  obtain ⟨k, ci, fs, q, rfl, h1, h2, h3, h4, h5, h6, h7, h8⟩ := hl
  obtain ⟨p, hp⟩ := mIds_at (v2.tl.hd h2.1 h2.2)
  have he := mW_at (cA := mGc G) (ad := mGad G) hp h
  rw [mEnt_inr h1] at he
  obtain ⟨ty0, hty⟩ := mTyk ci q h3
  have hD := V.2.2.2.2.1 h
  refine va_put (v := .int (Int32.ofInt x)) V.1.1 V.1.2.1 V.1.2.2.2.2 (mLay ci q h3) ty0 hty (mNm ci q h3) V.1.2.2.2.1 V.2.2.1.1 hP hD hS p he h3 k h4 (V.1.2.2.2.2 _ h6) (fun _ z => z) h7 h8 hn hfit (by rw [mFs_len]; exact (List.getElem?_eq_some_iff.mp h5).1) hd (fun H1 locs1 hP1 hD1 hS1 => ?_)
  rw [mFs_set h5 x, mW_set hp hD (h2 := mSet h r i (k : Int) x) (mEnt_inr h1) (fun q2 hq2 k2 => mSet_off q2 hq2 k2)] at hP1
  exact kk G hF V H1 locs1 ls hP1 hS1 hL v1 v2.tl.tl
theorem mw_putI {idx r pc' : Nat} {i x k : Int} (hl : mFp M.1.cls idx r k .int) (hd : mDc M pc (.putfield idx) 3 pc') (kk : At F M pc' L st (mSet h r i k x)) : At F M pc L (mI x :: mR r i :: st) h := mw_put0 hl rfl rfl hd kk
theorem mw_putZ {idx r pc' : Nat} {i x k : Int} (hl : mFp M.1.cls idx r k .boolean) (hd : mDc M pc (.putfield idx) 3 pc') (hc : x = 0 ∨ x = 1) (kk : At F M pc' L st (mSet h r i k x)) : At F M pc L (mI x :: mR r i :: st) h :=
  mw_put0 hl (by rcases hc with rfl | rfl <;> decide) (by rcases hc with rfl | rfl <;> decide) hd kk
theorem mRow_i {ad : Nat → Int → Nat} {h : mH} {r : Nat} {i : Int} {k n : Nat} (hk : k ≠ 2 ∧ k ≠ 4) : mRow ad h r i k n = (n, .inl (fun j => Int32.ofInt (h r i (j : Int)))) := by
  unfold mRow
  match k, hk with
  | 0, _ => rfl
  | 1, _ => rfl
  | 2, hk => exact absurd rfl hk.1
  | 3, _ => rfl
  | 4, hk => exact absurd rfl hk.2
  | k + 5, _ => rfl
theorem mw_iaload {r pc' : Nat} {i x n : Int} (hr : mRo r 1 n) (hd : mDc M pc (.iaload) 1 pc') (hc : 0 ≤ x ∧ x < n) (kk : At F M pc' L (mI (h r i x) :: st) h) : At F M pc L (mI x :: mR r i :: st) h := by
  obtain ⟨hd, rfl⟩ := hd
  obtain ⟨m, h1, rfl, h2, h3⟩ := hr
  intro G hF V H locs ls hP hS hL v1 v2
  obtain ⟨p, hp⟩ := mIds_at (v2.tl.hd h2.1 h2.2)
  have he := mW_at (cA := mGc G) (ad := mGad G) hp h
  rw [mEnt_inl h1, mRow_i (by decide)] at he
  refine va_iald V.1.1 V.1.2.1 V.2.2.1.1 hP p 1 he rfl (o32_in hc.1 hc.2 (by omega)) hd ?_
  have e : ((Int32.ofInt x).toNatClampNeg : Int) = x := by rw [o32_clamp hc.1 (by omega)]; omega
  rw [e]
  exact kk G hF V H locs ls hP hS hL v1 (mVs.cons trivial v2.tl.tl)
theorem mw_laload {r pc' : Nat} {i x n : Int} (hr : mRo r 2 n) (hd : mDc M pc (.laload) 1 pc') (hc : 0 ≤ x ∧ x < n) (kk : At F M pc' L (mJ (h r i x) :: st) h) : At F M pc L (mI x :: mR r i :: st) h := by
  obtain ⟨hd, rfl⟩ := hd
  obtain ⟨m, h1, rfl, h2, h3⟩ := hr
  intro G hF V H locs ls hP hS hL v1 v2
  obtain ⟨p, hp⟩ := mIds_at (v2.tl.hd h2.1 h2.2)
  have he := mW_at (cA := mGc G) (ad := mGad G) hp h
  rw [mEnt_inl h1] at he
  refine va_lald V.1.1 V.1.2.1 V.2.2.1.1 hP p 2 he rfl (o32_in hc.1 hc.2 (by omega)) hd ?_
  have e : ((Int32.ofInt x).toNatClampNeg : Int) = x := by rw [o32_clamp hc.1 (by omega)]; omega
  rw [e]
  exact kk G hF V H locs ls hP hS hL v1 (mVs.cons trivial v2.tl.tl)
theorem mw_baload {r pc' : Nat} {i x n : Int} (hr : mRo r 0 n) (hd : mDc M pc (.baload) 1 pc') (hc : 0 ≤ x ∧ x < n) (kk : At F M pc' L (mI (h r i x) :: st) h) : At F M pc L (mI x :: mR r i :: st) h := by
  obtain ⟨hd, rfl⟩ := hd
  obtain ⟨m, h1, rfl, h2, h3⟩ := hr
  intro G hF V H locs ls hP hS hL v1 v2
  obtain ⟨p, hp⟩ := mIds_at (v2.tl.hd h2.1 h2.2)
  have he := mW_at (cA := mGc G) (ad := mGad G) hp h
  rw [mEnt_inl h1, mRow_i (by decide)] at he
  refine va_bald V.1.1 V.1.2.1 V.2.2.1.1 hP p 0 he rfl (o32_in hc.1 hc.2 (by omega)) hd ?_
  have e : ((Int32.ofInt x).toNatClampNeg : Int) = x := by rw [o32_clamp hc.1 (by omega)]; omega
  rw [e]
  exact kk G hF V H locs ls hP hS hL v1 (mVs.cons trivial v2.tl.tl)
theorem mw_zaload {r pc' : Nat} {i x n : Int} (hr : mRo r 3 n) (hd : mDc M pc (.baload) 1 pc') (hc : 0 ≤ x ∧ x < n) (kk : At F M pc' L (mI (h r i x) :: st) h) : At F M pc L (mI x :: mR r i :: st) h := by
  obtain ⟨hd, rfl⟩ := hd
  obtain ⟨m, h1, rfl, h2, h3⟩ := hr
  intro G hF V H locs ls hP hS hL v1 v2
  obtain ⟨p, hp⟩ := mIds_at (v2.tl.hd h2.1 h2.2)
  have he := mW_at (cA := mGc G) (ad := mGad G) hp h
  rw [mEnt_inl h1, mRow_i (by decide)] at he
  refine va_zald V.1.1 V.1.2.1 V.2.2.1.1 hP p 3 he rfl (o32_in hc.1 hc.2 (by omega)) hd ?_
  have e : ((Int32.ofInt x).toNatClampNeg : Int) = x := by rw [o32_clamp hc.1 (by omega)]; omega
  rw [e]
  exact kk G hF V H locs ls hP hS hL v1 (mVs.cons trivial v2.tl.tl)
theorem mw_aaload {r pc' : Nat} {i x n : Int} (hr : mRo r 4 n) (hd : mDc M pc (.aaload) 1 pc') (hc : 0 ≤ x ∧ x < n) (kk : At F M pc' L (mR 1 (4 + x) :: st) h) : At F M pc L (mI x :: mR r i :: st) h := by
  obtain ⟨hd, rfl⟩ := hd
  obtain ⟨m, h1, rfl, h2, h3⟩ := hr
  intro G hF V H locs ls hP hS hL v1 v2
  have hm := v2.tl.hd h2.1 h2.2
  obtain ⟨p, hp⟩ := mIds_at hm
  have he := mW_at (cA := mGc G) (ad := mGad G) hp h
  rw [mEnt_inl h1] at he
  refine va_aldq V.1.1 V.1.2.1 V.2.2.1.1 hP p 4 he rfl (o32_in hc.1 hc.2 (by omega)) hd ?_
  have e : ((Int32.ofInt x).toNatClampNeg : Int) = x := by rw [o32_clamp hc.1 (by omega)]; omega
  rw [e]
  exact kk G hF V H locs ls hP hS hL v1 (mVs.cons (v := mR 1 (4 + x)) (fun _ _ => V.2.2.2.1.2 r i m hm h1 x hc.1 hc.2) v2.tl.tl)
theorem mUpd_i {h : mH} {r : Nat} {i x v : Int} (h0 : 0 ≤ x) (h1 : x < 2147483648) : upd (fun j : Nat => Int32.ofInt (h r i (j : Int))) (Int32.ofInt x).toNatClampNeg (Int32.ofInt v) = fun j : Nat => Int32.ofInt (mSet h r i x v r i (j : Int)) := by
  funext j
  rw [o32_clamp h0 h1]
  unfold upd mSet
  by_cases e : j = x.toNat
  · rw [if_pos e, if_pos ⟨rfl, rfl, by omega⟩]
  · rw [if_neg e, if_neg (fun z => e (by have := z.2.2; omega))]
theorem mUpd_l {h : mH} {r : Nat} {i x v : Int} (h0 : 0 ≤ x) (h1 : x < 2147483648) : vp_updL (fun j : Nat => Int64.ofInt (h r i (j : Int))) (Int32.ofInt x).toNatClampNeg (Int64.ofInt v) = fun j : Nat => Int64.ofInt (mSet h r i x v r i (j : Int)) := by
  funext j
  rw [o32_clamp h0 h1]
  unfold vp_updL mSet
  by_cases e : j = x.toNat
  · rw [if_pos e, if_pos ⟨rfl, rfl, by omega⟩]
  · rw [if_neg e, if_neg (fun z => e (by have := z.2.2; omega))]
theorem mw_iastore {r pc' : Nat} {i x v n : Int} (hr : mRo r 1 n) (hd : mDc M pc (.iastore) 1 pc') (hc : 0 ≤ x ∧ x < n) (kk : At F M pc' L st (mSet h r i x v)) : At F M pc L (mI v :: mI x :: mR r i :: st) h := by
  obtain ⟨hd, rfl⟩ := hd
  obtain ⟨m, h1, rfl, h2, h3⟩ := hr
  intro G hF V H locs ls hP hS hL v1 v2
  obtain ⟨p, hp⟩ := mIds_at (v2.tl.tl.hd h2.1 h2.2)
  have he := mW_at (cA := mGc G) (ad := mGad G) hp h
  rw [mEnt_inl h1, mRow_i (by decide)] at he
  have hD := V.2.2.2.2.1 h
  refine va_iast V.1.1 V.1.2.1 V.2.2.1.1 hP hD hS p 1 he rfl (o32_in hc.1 hc.2 (by omega)) hd (fun H1 locs1 hP1 hD1 hS1 => ?_)
  rw [mUpd_i hc.1 (by omega), ← mRow_i (ad := mGad G) (k := 1) (by decide), mW_set hp hD (h2 := mSet h r i x v) (mEnt_inl h1) (fun q2 hq2 k2 => mSet_off q2 hq2 k2)] at hP1
  exact kk G hF V H1 locs1 ls hP1 hS1 hL v1 v2.tl.tl.tl
theorem mw_lastore {r pc' : Nat} {i x v n : Int} (hr : mRo r 2 n) (hd : mDc M pc (.lastore) 1 pc') (hc : 0 ≤ x ∧ x < n) (kk : At F M pc' L st (mSet h r i x v)) : At F M pc L (mJ v :: mI x :: mR r i :: st) h := by
  obtain ⟨hd, rfl⟩ := hd
  obtain ⟨m, h1, rfl, h2, h3⟩ := hr
  intro G hF V H locs ls hP hS hL v1 v2
  obtain ⟨p, hp⟩ := mIds_at (v2.tl.tl.hd h2.1 h2.2)
  have he := mW_at (cA := mGc G) (ad := mGad G) hp h
  rw [mEnt_inl h1] at he
  have hD := V.2.2.2.2.1 h
  refine va_last V.1.1 V.1.2.1 V.2.2.1.1 hP hD hS p 2 he rfl (o32_in hc.1 hc.2 (by omega)) hd (fun H1 locs1 hP1 hD1 hS1 => ?_)
  rw [mUpd_l hc.1 (by omega)] at hP1
  have hP1 : va_P (mGD G) vwCl ((mW (mGc G) (mGad G) (mGids G) h).set p (mGad G r i, Sum.inl (mGc G 2, mRow (mGad G) (mSet h r i x v) r i 2 m))) H1 := hP1
  rw [mW_set hp hD (h2 := mSet h r i x v) (mEnt_inl h1) (fun q2 hq2 k2 => mSet_off q2 hq2 k2)] at hP1
  exact kk G hF V H1 locs1 ls hP1 hS1 hL v1 v2.tl.tl.tl
theorem mw_bastore {r pc' : Nat} {i x v n : Int} (hr : mRo r 0 n) (hd : mDc M pc (.bastore) 1 pc') (hc : (0 ≤ x ∧ x < n) ∧ mI2b v = v) (kk : At F M pc' L st (mSet h r i x v)) : At F M pc L (mI v :: mI x :: mR r i :: st) h := by
  obtain ⟨hd, rfl⟩ := hd
  obtain ⟨m, h1, rfl, h2, h3⟩ := hr
  obtain ⟨hc, hb⟩ := hc
  have hb : vp_nar .byte (Int32.ofInt v) = Int32.ofInt v := by
    rw [vp_nar_byte]
    have := congrArg Int32.ofInt hb
    unfold mI2b at this
    rwa [Int32.ofInt_toInt] at this
  intro G hF V H locs ls hP hS hL v1 v2
  obtain ⟨p, hp⟩ := mIds_at (v2.tl.tl.hd h2.1 h2.2)
  have he := mW_at (cA := mGc G) (ad := mGad G) hp h
  rw [mEnt_inl h1, mRow_i (by decide)] at he
  have hD := V.2.2.2.2.1 h
  refine va_bast V.1.1 V.1.2.1 V.2.2.1.1 hP hD hS p 0 he rfl (o32_in hc.1 hc.2 (by omega)) hd (fun H1 locs1 hP1 hD1 hS1 => ?_)
  rw [hb, mUpd_i hc.1 (by omega), ← mRow_i (ad := mGad G) (k := 0) (by decide), mW_set hp hD (h2 := mSet h r i x v) (mEnt_inl h1) (fun q2 hq2 k2 => mSet_off q2 hq2 k2)] at hP1
  exact kk G hF V H1 locs1 ls hP1 hS1 hL v1 v2.tl.tl.tl
theorem mw_zastore {r pc' : Nat} {i x v n : Int} (hr : mRo r 3 n) (hd : mDc M pc (.bastore) 1 pc') (hc : (0 ≤ x ∧ x < n) ∧ (v = 0 ∨ v = 1)) (kk : At F M pc' L st (mSet h r i x v)) : At F M pc L (mI v :: mI x :: mR r i :: st) h := by
  obtain ⟨hd, rfl⟩ := hd
  obtain ⟨m, h1, rfl, h2, h3⟩ := hr
  obtain ⟨hc, hb⟩ := hc
  have hb : vp_nar .boolean (Int32.ofInt v) = Int32.ofInt v := by rcases hb with rfl | rfl <;> decide
  intro G hF V H locs ls hP hS hL v1 v2
  obtain ⟨p, hp⟩ := mIds_at (v2.tl.tl.hd h2.1 h2.2)
  have he := mW_at (cA := mGc G) (ad := mGad G) hp h
  rw [mEnt_inl h1, mRow_i (by decide)] at he
  have hD := V.2.2.2.2.1 h
  refine va_zast V.1.1 V.1.2.1 V.2.2.1.1 hP hD hS p 3 he rfl (o32_in hc.1 hc.2 (by omega)) hd (fun H1 locs1 hP1 hD1 hS1 => ?_)
  rw [hb, mUpd_i hc.1 (by omega), ← mRow_i (ad := mGad G) (k := 3) (by decide), mW_set hp hD (h2 := mSet h r i x v) (mEnt_inl h1) (fun q2 hq2 k2 => mSet_off q2 hq2 k2)] at hP1
  exact kk G hF V H1 locs1 ls hP1 hS1 hL v1 v2.tl.tl.tl
theorem mw_alen {r k pc' : Nat} {i n : Int} (hr : mRo r k n) (hk : k < 5) (hd : mDc M pc (.arraylength) 1 pc') (kk : At F M pc' L (mI n :: st) h) : At F M pc L (mR r i :: st) h := by
  obtain ⟨hd, rfl⟩ := hd
  obtain ⟨m, h1, rfl, h2, h3⟩ := hr
  intro G hF V H locs ls hP hS hL v1 v2
  obtain ⟨p, hp⟩ := mIds_at (v2.hd h2.1 h2.2)
  have he := mW_at (cA := mGc G) (ad := mGad G) hp h
  rw [mEnt_inl h1] at he
  have hm : (mRow (mGad G) h r i k m).1 = m := by unfold mRow; split <;> rfl
  have ht : ∃ ty, (mTys (mGc G))[k]? = some (mGc G k, ty) := by
    match k, hk with
    | 0, _ => exact ⟨_, rfl⟩
    | 1, _ => exact ⟨_, rfl⟩
    | 2, _ => exact ⟨_, rfl⟩
    | 3, _ => exact ⟨_, rfl⟩
    | 4, _ => exact ⟨_, rfl⟩
  obtain ⟨ty, ht⟩ := ht
  exact va_alen V.1.1 V.1.2.1 V.2.2.1.1 hP p k he ht (v := Int32.ofInt m) (by rw [hm]; exact Int32.ofInt_eq_ofNat.symm) hd (kk G hF V H locs ls hP hS hL v1 (mVs.cons trivial v2.tl))
end MMH
end
section
/-! rows of the small machine: a method's entry and its ends; calls -/
theorem mD_any {cA : Nat → ClassId} {ad : Nat → Int → Nat} {ids : List (Nat × Int)} {A : Nat → Prop} {h : mH} (hD : va_D A (mW cA ad ids h)) (h2 : mH) : va_D A (mW cA ad ids h2) := by
  have key : ∀ (k : Nat) (q : Nat × va_E), (mW cA ad ids h2)[k]? = some q → ∃ q0 : Nat × va_E, (mW cA ad ids h)[k]? = some q0 ∧ q0.1 = q.1 := by
    intro k q hk
    cases hi : ids[k]? with
    | none =>
      unfold mW at hk
      rw [List.getElem?_map, hi] at hk
      cases hk
    | some z =>
      rw [mW_at hi] at hk
      cases hk
      exact ⟨_, mW_at hi h, rfl⟩
  refine ⟨fun i j x y hi hj hxy => ?_, fun k q hk => ?_⟩
  · obtain ⟨x0, h1, e1⟩ := key i x hi
    obtain ⟨y0, h3, e3⟩ := key j y hj
    exact hD.1 i j x0 y0 h1 h3 (e1.trans (hxy.trans e3.symm))
  · obtain ⟨q0, h1, e1⟩ := key k q hk
    rw [← e1]
    exact hD.2 k q0 h1
theorem mEl_args (ad : Nat → Int → Nat) : ∀ (as : List mV) (n i : Nat) (v : mV), (mEl as)[i]? = some v → v ≠ mU → (n + i, mIv ad v) ∈ lv_args n (as.map (mIv ad))
  | [], n, i, v, h, _ => by simp [mEl] at h
  | .inl x :: l, n, i, v, h, hu => by
    cases i with
    | zero =>
      simp [mEl] at h
      subst h
      exact List.mem_cons_self
    | succ i =>
      simp [mEl] at h
      have := mEl_args ad l (n + 1) i v h hu
      rw [show n + (i + 1) = n + 1 + i by omega]
      exact List.mem_cons_of_mem _ this
  | .inr (.inl x) :: l, n, i, v, h, hu => by
    match i with
    | 0 =>
      simp [mEl] at h
      subst h
      exact List.mem_cons_self
    | 1 =>
      simp [mEl] at h
      exact absurd h.symm hu
    | i + 2 =>
      simp [mEl] at h
      have := mEl_args ad l (n + 2) i v h hu
      rw [show n + (i + 2) = n + 2 + i by omega]
      exact List.mem_cons_of_mem _ this
  | .inr (.inr q) :: l, n, i, v, h, hu => by
    cases i with
    | zero =>
      simp [mEl] at h
      subst h
      exact List.mem_cons_self
    | succ i =>
      simp [mEl] at h
      have := mEl_args ad l (n + 1) i v h hu
      rw [show n + (i + 1) = n + 1 + i by omega]
      exact List.mem_cons_of_mem _ this
theorem mEl_len (ad : Nat → Int → Nat) : ∀ as : List mV, (lg_sl (as.map (mIv ad))).length = (mEl as).length
  | [] => rfl
  | .inl x :: l => by
    show ([Slot.val (.int (Int32.ofInt x))] ++ lg_sl (l.map (mIv ad))).length = (mI x :: mEl l).length
    rw [List.length_append, mEl_len ad l, List.length_cons, List.length_cons, List.length_nil]
    omega
  | .inr (.inl x) :: l => by
    show ([Slot.val (.long (Int64.ofInt x)), Slot.second] ++ lg_sl (l.map (mIv ad))).length = (mJ x :: mU :: mEl l).length
    rw [List.length_append, mEl_len ad l]
    simp only [List.length_cons, List.length_nil]
    omega
  | .inr (.inr q) :: l => by
    show ([Slot.val (.ref (ad q.1 q.2))] ++ lg_sl (l.map (mIv ad))).length = (mR q.1 q.2 :: mEl l).length
    rw [List.length_append, mEl_len ad l, List.length_cons, List.length_cons, List.length_nil]
    omega
theorem mVs.el {ids : List (Nat × Int)} : ∀ {as : List mV}, mVs ids as → mVs ids (mEl as)
  | [], _ => fun _ h => by cases h
  | .inl x :: l, h => mVs.cons trivial (mVs.el h.tl)
  | .inr (.inl x) :: l, h => mVs.cons (v := mJ x) trivial (mVs.cons (v := mU) (fun z => absurd z (by decide)) (mVs.el h.tl))
  | .inr (.inr q) :: l, h => mVs.cons h.hd (mVs.el h.tl)
/-- a method's contract out of a walk from its entry -/
theorem Ok.of {M : mMs} {as : List mV} {h : mH} {K : Option mV → mH → Prop} (hp : plainFor M.1 = true) {n : Nat} (hn : (mEl as).length + n = M.2.2.1) (hat : At (mPost K) M 0 (mEl as ++ List.replicate n mU) [] h) : Ok M as h K := by
  intro l D cA ad ids sz hC hv
  refine va_MetF (cc := M.2.1) (maxL := M.2.2.1) (ret := M.2.2.2.1) (ws' := mTbl) hp rfl ?_
  intro p e s m args below meth c s₁ B hml hv'
  obtain ⟨rfl, hsz, hP, hD0, hFx⟩ := hv'
  subst hsz
  have hts := atoms_spec (ws := mWs M) B.pre
  have hD := hD0.self (sz := s.heap.size)
  have hl := lv_entry (as.map (mIv ad)) (n := M.2.2.1) (by rw [mEl_len]; omega)
  rw [lg_entry_eq]
  generalize (lg_sl (as.map (mIv ad)) ++ List.replicate (M.2.2.1 - (lg_sl (as.map (mIv ad))).length) Slot.unset).toArray = ls at hl ⊢
  refine hat ((p, l, e, (headSpec (mWs M) (mRoom M.2.2.2.2)).room, s), (m, (as.map (mIv ad)).toArray, below, meth, c), (D, cA, ad, ids), (va_A (mW cA ad ids h) s.heap.size, 0, 0, MQ below (mQ D cA ad ids K (va_A (mW cA ad ids h) s.heap.size)) (as.map (mIv ad)).toArray s 0 0 (va_A (mW cA ad ids h) s.heap.size)))
    ⟨rfl, rfl, rfl⟩ ⟨⟨B.exec, B.bytes, hml, findClass_of_methodNamed B.named, fun w hw => hts w (List.mem_cons_of_mem _ hw)⟩, ⟨B.returns, B.notSynchronized⟩, hFx, hC, fun h2 => mD_any hD h2, fun q hq => Or.inr hq, ⟨Nat.le_refl _, Nat.le_refl _, Nat.zero_le _, Nat.zero_le _⟩⟩
    s.heap [] ls hP va_S.rf ⟨hl.1, hl.2.1, fun i v hi hu => ?_⟩ (fun w hw => ?_) (fun _ z => by cases z)
  · by_cases hlt : i < (mEl as).length
    · rw [List.getElem?_append_left hlt] at hi
      have := hl.2.2 _ (mEl_args ad as 0 i v hi hu)
      simpa using this
    · rw [List.getElem?_append_right (by omega)] at hi
      exact absurd (List.eq_of_mem_replicate (List.mem_of_getElem? hi)) hu
  · rcases List.mem_append.mp hw with z | z
    · exact hv.el w z
    · rw [List.eq_of_mem_replicate z]
      exact fun z => absurd z (by decide)
theorem Ok.mono {M : mMs} {as : List mV} {h : mH} {K K2 : Option mV → mH → Prop} (hk : Ok M as h K) (hkk : ∀ r h, K r h → K2 r h) : Ok M as h K2 := by
  intro l D cA ad ids sz hC hv p e ha hc hk' s m args below hf happ hP hK
  obtain ⟨t, o, h1, h2, h3, ⟨r, h', e1, e2, e3⟩, e4⟩ := hk l D cA ad ids sz hC hv p e ha hc hk' s m args below hf happ hP hK
  exact ⟨t, o, h1, h2, h3, ⟨r, h', e1, hkk r h' e2, e3⟩, e4⟩
section MME
variable {M : mMs} {pc : Nat} {L : List mV} {h : mH} {K : Option mV → mH → Prop}
theorem mw_iret {x : Int} {pc' : Nat} (hr : M.2.2.2.1 = some .int) (hd : mDc M pc (.ireturn) 1 pc') (k : K (some (mI x)) h) : At (mPost K) M pc L [mI x] h := by
  obtain ⟨hd, rfl⟩ := hd
  rintro G ⟨hQ, hc, hs⟩ V H locs ls hP hS hL v1 v2
  have hlocks : G.2.1.2.2.2.1.locks = false := V.2.1.2
  show W _ _ _ _ _ _ _ _ _ _ _ _ _ _ _ _
  rw [hQ, hc, hs]
  exact W.iret V.1.1 V.1.2.1 (V.2.1.1.trans hr) (fun t ht hW => ⟨some (mI x), h, rfl, k, (fun v e => by cases e; trivial), by rw [ht]; exact hP, hS.F ht⟩) hS.2.2 hd hlocks
theorem mw_zret {x : Int} {pc' : Nat} (hr : M.2.2.2.1 = some .boolean) (hd : mDc M pc (.ireturn) 1 pc') (hx : x = 0 ∨ x = 1) (k : K (some (mI x)) h) : At (mPost K) M pc L [mI x] h := by
  obtain ⟨hd, rfl⟩ := hd
  rintro G ⟨hQ, hc, hs⟩ V H locs ls hP hS hL v1 v2
  have hlocks : G.2.1.2.2.2.1.locks = false := V.2.1.2
  show W _ _ _ _ _ _ _ _ _ _ _ _ _ _ _ _
  rw [hQ, hc, hs]
  exact W.zret V.1.1 V.1.2.1 (V.2.1.1.trans hr) (by rcases hx with rfl | rfl <;> decide) (fun t ht hW => ⟨some (mI x), h, rfl, k, (fun v e => by cases e; trivial), by rw [ht]; exact hP, hS.F ht⟩) hS.2.2 hd hlocks
theorem mw_lret {x : Int} {pc' : Nat} (hr : M.2.2.2.1 = some .long) (hd : mDc M pc (.lreturn) 1 pc') (k : K (some (mJ x)) h) : At (mPost K) M pc L [mJ x] h := by
  obtain ⟨hd, rfl⟩ := hd
  rintro G ⟨hQ, hc, hs⟩ V H locs ls hP hS hL v1 v2
  have hlocks : G.2.1.2.2.2.1.locks = false := V.2.1.2
  show W _ _ _ _ _ _ _ _ _ _ _ _ _ _ _ _
  rw [hQ, hc, hs]
  exact W.lret V.1.1 V.1.2.1 (V.2.1.1.trans hr) (fun t ht hW => ⟨some (mJ x), h, rfl, k, (fun v e => by cases e; trivial), by rw [ht]; exact hP, hS.F ht⟩) hS.2.2 hd hlocks
theorem mw_vret {pc' : Nat} (hr : M.2.2.2.1 = none) (hd : mDc M pc (.return_) 1 pc') (k : K none h) : At (mPost K) M pc L [] h := by
  obtain ⟨hd, rfl⟩ := hd
  rintro G ⟨hQ, hc, hs⟩ V H locs ls hP hS hL v1 v2
  have hlocks : G.2.1.2.2.2.1.locks = false := V.2.1.2
  show W _ _ _ _ _ _ _ _ _ _ _ _ _ _ _ _
  rw [hQ, hc, hs]
  exact W.vret V.1.1 V.1.2.1 (V.2.1.1.trans hr) (fun t ht hW => ⟨none, h, rfl, k, (fun v e => by cases e), by rw [ht]; exact hP, hS.F ht⟩) hS.2.2 hd hlocks
end MME
def mCat : List mV → Nat
  | [] => 0
  | .inr (.inl _) :: l => 2 + mCat l
  | _ :: l => 1 + mCat l
theorem mCat_sum (ad : Nat → Int → Nat) : ∀ l : List mV, ((l.map (mIv ad)).map fun v => v.category).sum = mCat l
  | [] => rfl
  | .inl x :: l => by rw [List.map_cons, List.map_cons, List.sum_cons, mCat_sum ad l]; rfl
  | .inr (.inl x) :: l => by rw [List.map_cons, List.map_cons, List.sum_cons, mCat_sum ad l]; rfl
  | .inr (.inr q) :: l => by rw [List.map_cons, List.map_cons, List.sum_cons, mCat_sum ad l]; rfl
theorem mFree {G : mG} {M : mMs} (V : mOk G M) {h : mH} {H : Heap} {locs : List Loc} (hS : va_S (mGA G) (mGs G).heap H locs) : ∀ q, va_A (mW (mGc G) (mGad G) (mGids G) h) H.size q → mGA G q := by
  rintro q (⟨k, e, z⟩ | z)
  · exact (V.2.2.2.2.1 h).2 k (q, e) z
  · exact V.2.2.2.2.2.1 q (Nat.le_trans hS.1 z)
theorem mFx_at {G : mG} {M : mMs} (V : mOk G M) {h : mH} {H : Heap} {locs : List Loc} (hP : va_P (mGD G) vwCl (mW (mGc G) (mGad G) (mGids G) h) H) (hS : va_S (mGA G) (mGs G).heap H locs) {U : State} (hU : U.heap = H) (hW : (mGs G).WarmedH U.vm) : mPre (mGD G) (mGc G) (mGad G) (mGids G) H.size h U := by
  obtain ⟨f1, f2, f3⟩ := V.2.2.1
  refine ⟨by rw [hU], by rw [hU]; exact hP, (V.2.2.2.2.1 h).weaken (fun _ _ _ _ => trivial), f1.moved hW.alike, f2.warm hW, ?_⟩
  rw [hU]
  exact ((f3.kept hS.2.1).narrow (mFree V hS)).warm hW
theorem mBlind {av : List Value} {D : va_G} {cA : Nat → ClassId} {ad : Nat → Int → Nat} {ids : List (Nat × Int)} {sz : Nat} {h : mH} : FrameBlind (va_Pc av (mPre D cA ad ids sz h)) := by
  rintro a U g mk ⟨q0, q1, qP, qD, qK, qN, qS⟩
  exact ⟨q0, q1, qP, qD, qK.moved (u := U) (U := U.calling g mk a) (Vm.Alike.refl U.vm), qN.same rfl, qS.same rfl⟩
section MMF
variable {F : mG → Prop} {M : mMs} {pc : Nat} {L st : List mV} {h : mH}
theorem mRun_go {G : mG} (hF : F G) (V : mOk G M) {K : Option mV → mH → Prop} {a : Array Value} {H : Heap} {locs : List Loc} {ls : Array Slot} {st0 : List Value}
    (hr : va_Run G.1.1 G.1.2.1 G.1.2.2.1 G.1.2.2.2.1 (mGs G) G.2.1.1 G.2.1.2.1 G.2.1.2.2.1 G.2.1.2.2.2.1 G.2.1.2.2.2.2 H locs G.2.2.2.2.1 G.2.2.2.2.2.1 0 0 (F0 G.2.1.1 pc ls st0) (st.map (mIv (mGad G))) (mQ (mGD G) (mGc G) (mGad G) (mGids G) K (va_A (mW (mGc G) (mGad G) (mGids G) h) H.size) a) (va_A (mW (mGc G) (mGad G) (mGids G) h) H.size))
    (hS : va_S (mGA G) (mGs G).heap H locs) (hL : mLs (mGad G) M.2.2.1 L ls) (v1 : mVs (mGids G) L) (v2 : mVs (mGids G) st)
    (k : ∀ r h2, K r h2 → At F M (pc + 3) L (r.toList ++ st) h2) : mGW G H locs (F0 G.2.1.1 pc ls st0) := by
  intro T hT X
  obtain ⟨v, s0, t, T', L', h0, X', hL', e1, e2, ⟨r, h2, hv, hK, hvo, hP', hF'⟩, go⟩ := hr T hT X
  have hv : v = r.map (mIv (mGad G)) := by injection hv
  subst hv
  have hfr := mFree (h := h) V hS
  have hsz : H.size ≤ t.heap.size := by rw [← h0]; exact hF'.1
  have hS' : va_S (mGA G) (mGs G).heap T'.heap (locs ++ L') := by
    refine ⟨by rw [e1]; exact Nat.le_trans hS.1 hsz, fun q h1 h3 => ?_, fun q hq => ?_⟩
    · rw [e1, hF'.2 q (by rw [h0]; exact Nat.lt_of_lt_of_le h1 hS.1) (fun z => h3 (hfr q z)), h0]
      exact hS.2.1 q h1 h3
    · rcases List.mem_append.mp hq with z | z
      · exact hS.2.2 q z
      · exact hfr _ (hL' q z)
  have kk := k r h2 hK G hF V T'.heap (locs ++ L') ls (by rw [e1]; exact hP') hS' hL v1 (by
    intro w hw
    rcases List.mem_append.mp hw with z | z
    · cases r with
      | none => cases z
      | some u =>
        rcases List.mem_cons.mp z with e | e
        · rw [e]; exact hvo u rfl
        · cases e
    · exact v2 w z)
  obtain ⟨t2, a1, b1⟩ := kk T' rfl X'
  refine ⟨t2, go t2 ?_, b1⟩
  cases r with
  | none => exact a1
  | some u => exact a1
/-- a method of the objects of role r, with n numbers behind the object -/
def mMv (M' : mMs) (r n : Nat) : Prop := ∃ (ci : Nat) (fs : List mFd) (q : vw_C), mT r = .inr (ci, fs) ∧ (1 ≤ r ∧ r < 50) ∧ vwCl[ci]? = some q ∧ M'.1.cls = q.1 ∧ Cond.instanceMethod M'.1 ∈ mTbl ∧ Cond.selects q.1 M'.1 M'.1 ∈ mTbl ∧ Cond.initialized q.1 ∈ mTbl ∧ Cond.code M'.1 M'.2.1 M'.2.2.1 M'.2.2.2.1 ∈ mTbl ∧ (M'.1.cls ≠ "java/lang/invoke/MethodHandle" ∧ M'.1.cls ≠ "java/lang/invoke/VarHandle" ∧ (parseMethodDescriptor M'.1.desc).map (fun d => d.parameters.length) = some n) ∧ M'.2.2.1 ≤ 21
/-- a static method -/
def mMt (M' : mMs) (n : Nat) : Prop := Cond.static M'.1 ∈ mTbl ∧ Cond.initialized M'.1.cls ∈ mTbl ∧ Cond.code M'.1 M'.2.1 M'.2.2.1 M'.2.2.2.1 ∈ mTbl ∧ (M'.1.cls ≠ "java/lang/invoke/MethodHandle" ∧ M'.1.cls ≠ "java/lang/invoke/VarHandle" ∧ (parseMethodDescriptor M'.1.desc).map (fun d => d.parameters.length) = some n) ∧ M'.2.2.1 ≤ 21
theorem mw_callV {M' : mMs} {idx r n pc' : Nat} {i : Int} {as : List mV} {K : Option mV → mH → Prop} (hm : mMv M' r n) (hl : Cond.methodLink M.1.cls idx M'.1 ∈ mTbl) (hdep : M'.2.2.2.2 + 1 ≤ M.2.2.2.2) (hd : mDc M pc (.invokevirtual idx) 3 pc') (hn : as.length = n) (hst : Nat.ble (mCat st) 8 = true) (ok : Ok M' (mR r i :: as) h K) (k : ∀ r h2, K r h2 → At F M pc' L (r.toList ++ st) h2) : At F M pc L (as.reverse ++ mR r i :: st) h := by
  obtain ⟨hd, rfl⟩ := hd
  obtain ⟨ci, fs, q, h1, h2, h3, h4, w1, w2, w3, w4, hx, hnl⟩ := hm
  intro G hF V H locs ls hP hS hL v1 v2
  have v2b := v2.app.2
  obtain ⟨p, hp⟩ := mIds_at (v2b.hd h2.1 h2.2)
  have he := mW_at (cA := mGc G) (ad := mGad G) hp h
  rw [mEnt_inr h1] at he
  have hvs : mVs (mGids G) (mR r i :: as) := mVs.cons v2b.hd (fun w hw => v2 w (List.mem_append_left _ (List.mem_reverse.mpr hw)))
  have hgood : GoodIn mTbl (wsV M.1.cls idx q.1 M'.1 (mWs M')) := mTbl_good (by
    intro w hw
    unfold wsV mWs at hw
    simp only [List.cons_append, List.nil_append, List.mem_cons] at hw
    rcases hw with rfl | rfl | rfl | rfl | rfl | hw
    · exact hl
    · exact w1
    · exact w2
    · exact w3
    · exact w4
    · exact hw)
  refine mRun_go hF V (va_runV (As := as.map (mIv (mGad G))) (rest := st.map (mIv (mGad G))) (b := mGad G r i) V.1 (ok G.1.2.1 (mGD G) (mGc G) (mGad G) (mGids G) H.size V.2.2.2.1 hvs)
    (cwV n V.1.2.2.2.2 hgood rfl rfl rfl ⟨h4, hx⟩ ⟨Nat.le_trans hdep V.2.2.2.2.2.2.1, ?_⟩)
    ⟨mBlind, va_recv V.2.2.1.1 hP h3 he, fun U hU hW => ⟨rfl, mFx_at V hP hS hU hW⟩⟩ rfl (by rw [List.length_map]; exact hn) hL.1 ?_ (lv_room (by rw [mCat_sum]; exact Nat.le_of_ble_eq_true hst)) hd ⟨V.2.2.2.2.2.2.2.2.1, V.2.2.2.2.2.2.2.2.2⟩) hS hL v1 v2b.tl k
  · have := V.2.2.2.2.2.2.2.1
    show 8 + (M'.2.2.1 + 11) + 40 * M'.2.2.2.2 ≤ _
    omega
  · show (as.reverse ++ mR r i :: st).map (mIv (mGad G)) = _
    rw [List.map_append, List.map_reverse]
    rfl
theorem mw_callS {M' : mMs} {idx n pc' : Nat} {as : List mV} {K : Option mV → mH → Prop} (hm : mMt M' n) (hl : Cond.methodLink M.1.cls idx M'.1 ∈ mTbl) (hdep : M'.2.2.2.2 + 1 ≤ M.2.2.2.2) (hd : mDc M pc (.invokestatic idx) 3 pc') (hn : as.length = n) (hst : Nat.ble (mCat st) 8 = true) (ok : Ok M' as h K) (k : ∀ r h2, K r h2 → At F M pc' L (r.toList ++ st) h2) : At F M pc L (as.reverse ++ st) h := by
  obtain ⟨hd, rfl⟩ := hd
  obtain ⟨w1, w2, w3, hx, hnl⟩ := hm
  intro G hF V H locs ls hP hS hL v1 v2
  have v2b := v2.app.2
  have hvs : mVs (mGids G) as := fun w hw => v2 w (List.mem_append_left _ (List.mem_reverse.mpr hw))
  have hgood : GoodIn mTbl (va_wsS M.1.cls idx M'.1 (mWs M')) := mTbl_good (by
    intro w hw
    unfold va_wsS mWs at hw
    simp only [List.cons_append, List.nil_append, List.mem_cons] at hw
    rcases hw with rfl | rfl | rfl | rfl | hw
    · exact hl
    · exact w1
    · exact w2
    · exact w3
    · exact hw)
  refine mRun_go hF V (va_runS (As := as.map (mIv (mGad G))) (rest := st.map (mIv (mGad G))) V.1 (ok G.1.2.1 (mGD G) (mGc G) (mGad G) (mGids G) H.size V.2.2.2.1 hvs)
    (va_cwS n V.1.2.2.2.2 hgood rfl rfl rfl hx ⟨Nat.le_trans hdep V.2.2.2.2.2.2.1, ?_⟩)
    ⟨mBlind, fun U hU hW => ⟨rfl, mFx_at V hP hS hU hW⟩⟩ rfl (by rw [List.length_map]; exact hn) hL.1 ?_ (lv_room (by rw [mCat_sum]; exact Nat.le_of_ble_eq_true hst)) hd ⟨V.2.2.2.2.2.2.2.2.1, V.2.2.2.2.2.2.2.2.2⟩) hS hL v1 v2b k
  · have := V.2.2.2.2.2.2.2.1
    show 8 + (M'.2.2.1 + 11) + 40 * M'.2.2.2.2 ≤ _
    omega
  · show (as.reverse ++ st).map (mIv (mGad G)) = _
    rw [List.map_append, List.map_reverse]
/-- a private static method of the nest -/
theorem mw_callN {M' : mMs} {idx n pc' : Nat} {host : String} {as : List mV} {K : Option mV → mH → Prop} (hm : mMt M' n) (hl : (M.1.cls, idx, M'.1, host) ∈ mNst) (hdep : M'.2.2.2.2 + 1 ≤ M.2.2.2.2) (hd : mDc M pc (.invokestatic idx) 3 pc') (hn : as.length = n) (hst : Nat.ble (mCat st) 8 = true) (ok : Ok M' as h K) (k : ∀ r h2, K r h2 → At F M pc' L (r.toList ++ st) h2) : At F M pc L (as.reverse ++ st) h := by
  obtain ⟨hd, rfl⟩ := hd
  obtain ⟨w1, w2, w3, hx, hnl⟩ := hm
  intro G hF V H locs ls hP hS hL v1 v2
  have v2b := v2.app.2
  have hvs : mVs (mGids G) as := fun w hw => v2 w (List.mem_append_left _ (List.mem_reverse.mpr hw))
  have hgood : GoodIn mTbl (mWs M') := mTbl_good (by
    intro w hw
    rcases List.mem_cons.mp hw with rfl | hw
    · exact w3
    · exact hw)
  refine mRun_go hF V (va_runSN (As := as.map (mIv (mGad G))) (rest := st.map (mIv (mGad G))) V.1 (ok G.1.2.1 (mGD G) (mGc G) (mGad G) (mGids G) H.size V.2.2.2.1 hvs)
    ⟨va_cnB n V.1.2.2.2.2 hgood rfl rfl rfl (V.2.2.1.2.1 _ hl) (V.1.2.2.2.2 _ w2) hx ⟨Nat.le_trans hdep V.2.2.2.2.2.2.1, ?_⟩, V.1.2.2.2.2 _ w1, trivial⟩
    ⟨mBlind, fun U hU hW => ⟨rfl, mFx_at V hP hS hU hW⟩⟩ rfl (by rw [List.length_map]; exact hn) hL.1 ?_ (lv_room (by rw [mCat_sum]; exact Nat.le_of_ble_eq_true hst)) hd ⟨V.2.2.2.2.2.2.2.2.1, V.2.2.2.2.2.2.2.2.2⟩) hS hL v1 v2b k
  · have := V.2.2.2.2.2.2.2.1
    show 8 + (M'.2.2.1 + 11) + 40 * M'.2.2.2.2 ≤ _
    omega
  · show (as.reverse ++ st).map (mIv (mGad G)) = _
    rw [List.map_append, List.map_reverse]
end MMF
/-- less is known of the locals -/
def mForget (L : List mV) : List Nat → List mV
  | [] => L
  | i :: is => mForget (L.set i mU) is
theorem At.forget1 {F : mG → Prop} {M : mMs} {pc i : Nat} {L st : List mV} {h : mH} (k : At F M pc (L.set i mU) st h) : At F M pc L st h := by
  intro G hF V H locs ls hP hS hL v1 v2
  have key : ∀ (j : Nat) (w : mV), (L.set i mU)[j]? = some w → w ≠ mU → L[j]? = some w := by
    intro j w hj hu
    by_cases e : i = j
    · subst e
      by_cases hl : i < L.length
      · rw [List.getElem?_set_self hl] at hj
        cases hj
        exact absurd rfl hu
      · rw [List.getElem?_eq_none (by rw [List.length_set]; omega)] at hj
        cases hj
    · rwa [List.getElem?_set_ne e] at hj
  exact k G hF V H locs ls hP hS ⟨hL.1, hL.2.1, fun j w hj hu => hL.2.2 j w (key j w hj hu) hu⟩ (mVs.of_get v1 (v := mI 0) trivial fun j w hj hu => Or.inr ⟨j, key j w hj hu⟩) v2
theorem At.forget {F : mG → Prop} {M : mMs} {pc : Nat} {st : List mV} {h : mH} : ∀ (is : List Nat) {L : List mV}, At F M pc (mForget L is) st h → At F M pc L st h
  | [], _, k => k
  | i :: is, _, k => At.forget1 (At.forget is k)
end
section
/-! rows of the small machine: calls by what they return; Math; arraycopy -/
def mAbs (x : Int) : Int := if x < 0 then -x else x
/-- places sp .. of row q become places dp .. of row q2 -/
def mCpy (h : mH) (r : Nat) (i : Int) (sp : Int) (r2 : Nat) (i2 : Int) (dp n : Int) : mH := fun r' i' k' => if r' = r2 ∧ i' = i2 ∧ dp ≤ k' ∧ k' < dp + n then h r i (sp + (k' - dp)) else h r' i' k'
def mXorL (x y : Int) : Int := (Int64.ofInt x ^^^ Int64.ofInt y).toInt
section MML
variable {F : mG → Prop} {M : mMs} {pc : Nat} {L st : List mV} {h : mH}
theorem mw_callVI {M' : mMs} {idx r n pc' : Nat} {i : Int} {as : List mV} {K : Int → mH → Prop} (hm : mMv M' r n) (hl : Cond.methodLink M.1.cls idx M'.1 ∈ mTbl) (hdep : M'.2.2.2.2 + 1 ≤ M.2.2.2.2) (hd : mDc M pc (.invokevirtual idx) 3 pc') (hn : as.length = n) (hst : Nat.ble (mCat st) 8 = true) (ok : OkI M' (mR r i :: as) h K) (k : ∀ x h2, K x h2 → At F M pc' L (mI x :: st) h2) : At F M pc L (as.reverse ++ mR r i :: st) h :=
  mw_callV hm hl hdep hd hn hst ok (by rintro r h2 ⟨x, rfl, z⟩; exact k x h2 z)
theorem mw_callVJ {M' : mMs} {idx r n pc' : Nat} {i : Int} {as : List mV} {K : Int → mH → Prop} (hm : mMv M' r n) (hl : Cond.methodLink M.1.cls idx M'.1 ∈ mTbl) (hdep : M'.2.2.2.2 + 1 ≤ M.2.2.2.2) (hd : mDc M pc (.invokevirtual idx) 3 pc') (hn : as.length = n) (hst : Nat.ble (mCat st) 8 = true) (ok : OkJ M' (mR r i :: as) h K) (k : ∀ x h2, K x h2 → At F M pc' L (mJ x :: st) h2) : At F M pc L (as.reverse ++ mR r i :: st) h :=
  mw_callV hm hl hdep hd hn hst ok (by rintro r h2 ⟨x, rfl, z⟩; exact k x h2 z)
theorem mw_callVV {M' : mMs} {idx r n pc' : Nat} {i : Int} {as : List mV} {K : mH → Prop} (hm : mMv M' r n) (hl : Cond.methodLink M.1.cls idx M'.1 ∈ mTbl) (hdep : M'.2.2.2.2 + 1 ≤ M.2.2.2.2) (hd : mDc M pc (.invokevirtual idx) 3 pc') (hn : as.length = n) (hst : Nat.ble (mCat st) 8 = true) (ok : OkV M' (mR r i :: as) h K) (k : ∀ h2, K h2 → At F M pc' L st h2) : At F M pc L (as.reverse ++ mR r i :: st) h :=
  mw_callV hm hl hdep hd hn hst ok (by rintro r h2 ⟨rfl, z⟩; exact k h2 z)
theorem mw_callSI {M' : mMs} {idx n pc' : Nat} {as : List mV} {K : Int → mH → Prop} (hm : mMt M' n) (hl : Cond.methodLink M.1.cls idx M'.1 ∈ mTbl) (hdep : M'.2.2.2.2 + 1 ≤ M.2.2.2.2) (hd : mDc M pc (.invokestatic idx) 3 pc') (hn : as.length = n) (hst : Nat.ble (mCat st) 8 = true) (ok : OkI M' as h K) (k : ∀ x h2, K x h2 → At F M pc' L (mI x :: st) h2) : At F M pc L (as.reverse ++ st) h :=
  mw_callS hm hl hdep hd hn hst ok (by rintro r h2 ⟨x, rfl, z⟩; exact k x h2 z)
theorem mw_callSJ {M' : mMs} {idx n pc' : Nat} {as : List mV} {K : Int → mH → Prop} (hm : mMt M' n) (hl : Cond.methodLink M.1.cls idx M'.1 ∈ mTbl) (hdep : M'.2.2.2.2 + 1 ≤ M.2.2.2.2) (hd : mDc M pc (.invokestatic idx) 3 pc') (hn : as.length = n) (hst : Nat.ble (mCat st) 8 = true) (ok : OkJ M' as h K) (k : ∀ x h2, K x h2 → At F M pc' L (mJ x :: st) h2) : At F M pc L (as.reverse ++ st) h :=
  mw_callS hm hl hdep hd hn hst ok (by rintro r h2 ⟨x, rfl, z⟩; exact k x h2 z)
theorem mw_callSV {M' : mMs} {idx n pc' : Nat} {as : List mV} {K : mH → Prop} (hm : mMt M' n) (hl : Cond.methodLink M.1.cls idx M'.1 ∈ mTbl) (hdep : M'.2.2.2.2 + 1 ≤ M.2.2.2.2) (hd : mDc M pc (.invokestatic idx) 3 pc') (hn : as.length = n) (hst : Nat.ble (mCat st) 8 = true) (ok : OkV M' as h K) (k : ∀ h2, K h2 → At F M pc' L st h2) : At F M pc L (as.reverse ++ st) h :=
  mw_callS hm hl hdep hd hn hst ok (by rintro r h2 ⟨rfl, z⟩; exact k h2 z)
theorem mw_callNI {M' : mMs} {idx n pc' : Nat} {host : String} {as : List mV} {K : Int → mH → Prop} (hm : mMt M' n) (hl : (M.1.cls, idx, M'.1, host) ∈ mNst) (hdep : M'.2.2.2.2 + 1 ≤ M.2.2.2.2) (hd : mDc M pc (.invokestatic idx) 3 pc') (hn : as.length = n) (hst : Nat.ble (mCat st) 8 = true) (ok : OkI M' as h K) (k : ∀ x h2, K x h2 → At F M pc' L (mI x :: st) h2) : At F M pc L (as.reverse ++ st) h :=
  mw_callN hm hl hdep hd hn hst ok (by rintro r h2 ⟨x, rfl, z⟩; exact k x h2 z)
/-- a static member of Math, as the kit has it -/
def mMw (own : String) (idx : Nat) (y : MethodName) (cc : ByteArray) (n : Nat) (ty : FieldType) : Prop := Cond.methodLink own idx y ∈ mTbl ∧ Cond.static y ∈ mTbl ∧ Cond.initialized "java/lang/Math" ∈ mTbl ∧ Cond.code y cc n (some ty) ∈ mTbl
theorem mw_maxL {idx pc' : Nat} {x y : Int} (hw : mMw M.1.cls idx Lib.MathLoose.max_long.x Lib.MathLoose.max_long.code 4 .long) (hdep : 1 ≤ M.2.2.2.2) (hd : mDc M pc (.invokestatic idx) 3 pc') (hst : Nat.ble (mCat st) 8 = true) (hc : mInL x ∧ mInL y) (k : At F M pc' L (mJ (max x y) :: st) h) : At F M pc L (mJ y :: mJ x :: st) h := by
  obtain ⟨hd, rfl⟩ := hd
  obtain ⟨w1, w2, w3, w4⟩ := hw
  intro G hF V H locs ls hP hS hL v1 v2
  have hr := V.2.2.2.2.2.2
  have hst := Nat.le_of_ble_eq_true hst
  refine va_mmax_long V.1.1 V.1.2.1 (V.1.2.2.1.trans hL.1.symm) V.1.2.2.2.1 (V.1.2.2.2.2 _ w1) (V.1.2.2.2.2 _ w2) (V.1.2.2.2.2 _ w3) (V.1.2.2.2.2 _ w4) (Nat.le_trans hdep hr.1) (by show ((st.map (mIv (mGad G))).map fun v => v.category).sum + 15 ≤ _; rw [mCat_sum]; have := hr.2.1; omega) hr.2.2.1 hr.2.2.2 hd ?_
  rw [show (if Int64.ofInt y < Int64.ofInt x then Int64.ofInt x else Int64.ofInt y) = Int64.ofInt (max x y) by
    by_cases z : y < x
    · rw [if_pos ((o64_lt hc.2 hc.1).mpr z), Int.max_eq_left (by omega)]
    · rw [if_neg (fun w => z ((o64_lt hc.2 hc.1).mp w)), Int.max_eq_right (by omega)]]
  exact k G hF V H locs ls hP hS hL v1 (mVs.cons trivial v2.tl.tl)
theorem mw_minL {idx pc' : Nat} {x y : Int} (hw : mMw M.1.cls idx Lib.MathLoose.min_long.x Lib.MathLoose.min_long.code 4 .long) (hdep : 1 ≤ M.2.2.2.2) (hd : mDc M pc (.invokestatic idx) 3 pc') (hst : Nat.ble (mCat st) 8 = true) (hc : mInL x ∧ mInL y) (k : At F M pc' L (mJ (min x y) :: st) h) : At F M pc L (mJ y :: mJ x :: st) h := by
  obtain ⟨hd, rfl⟩ := hd
  obtain ⟨w1, w2, w3, w4⟩ := hw
  intro G hF V H locs ls hP hS hL v1 v2
  have hr := V.2.2.2.2.2.2
  have hst := Nat.le_of_ble_eq_true hst
  refine va_mmin_long V.1.1 V.1.2.1 (V.1.2.2.1.trans hL.1.symm) V.1.2.2.2.1 (V.1.2.2.2.2 _ w1) (V.1.2.2.2.2 _ w2) (V.1.2.2.2.2 _ w3) (V.1.2.2.2.2 _ w4) (Nat.le_trans hdep hr.1) (by show ((st.map (mIv (mGad G))).map fun v => v.category).sum + 15 ≤ _; rw [mCat_sum]; have := hr.2.1; omega) hr.2.2.1 hr.2.2.2 hd ?_
  rw [show (if Int64.ofInt y < Int64.ofInt x then Int64.ofInt y else Int64.ofInt x) = Int64.ofInt (min x y) by
    by_cases z : y < x
    · rw [if_pos ((o64_lt hc.2 hc.1).mpr z), Int.min_eq_right (by omega)]
    · rw [if_neg (fun w => z ((o64_lt hc.2 hc.1).mp w)), Int.min_eq_left (by omega)]]
  exact k G hF V H locs ls hP hS hL v1 (mVs.cons trivial v2.tl.tl)
theorem mw_absL {idx pc' : Nat} {x : Int} (hw : mMw M.1.cls idx Lib.MathLoose.abs_long.x Lib.MathLoose.abs_long.code 2 .long) (hdep : 1 ≤ M.2.2.2.2) (hd : mDc M pc (.invokestatic idx) 3 pc') (hst : Nat.ble (mCat st) 8 = true) (hc : mInL x) (k : At F M pc' L (mJ (mAbs x) :: st) h) : At F M pc L (mJ x :: st) h := by
  obtain ⟨hd, rfl⟩ := hd
  obtain ⟨w1, w2, w3, w4⟩ := hw
  intro G hF V H locs ls hP hS hL v1 v2
  have hr := V.2.2.2.2.2.2
  have hst := Nat.le_of_ble_eq_true hst
  refine va_mabs_long V.1.1 V.1.2.1 (V.1.2.2.1.trans hL.1.symm) V.1.2.2.2.1 (V.1.2.2.2.2 _ w1) (V.1.2.2.2.2 _ w2) (V.1.2.2.2.2 _ w3) (V.1.2.2.2.2 _ w4) (Nat.le_trans hdep hr.1) (by show ((st.map (mIv (mGad G))).map fun v => v.category).sum + 13 ≤ _; rw [mCat_sum]; have := hr.2.1; omega) hr.2.2.1 hr.2.2.2 hd ?_
  have z0 : (0 : Int64) < Int64.ofInt x ↔ 0 < x := o64_lt (x := 0) (by decide) hc
  rw [show (if 0 < Int64.ofInt x then Int64.ofInt x else -Int64.ofInt x) = Int64.ofInt (mAbs x) by
    unfold mAbs
    by_cases z : 0 < x
    · rw [if_pos (z0.mpr z), if_neg (by omega)]
    · rw [if_neg (fun w => z (z0.mp w)), o64_neg]
      by_cases z2 : x < 0
      · rw [if_pos z2]
      · rw [if_neg z2, show x = 0 by omega]; rfl]
  exact k G hF V H locs ls hP hS hL v1 (mVs.cons trivial v2.tl)
theorem mw_maxI {idx pc' : Nat} {x y : Int} (hw : mMw M.1.cls idx Lib.Math.max.name Lib.Math.max.code 2 .int) (hdep : 1 ≤ M.2.2.2.2) (hd : mDc M pc (.invokestatic idx) 3 pc') (hst : Nat.ble (mCat st) 8 = true) (hc : mInR x ∧ mInR y) (k : At F M pc' L (mI (max x y) :: st) h) : At F M pc L (mI y :: mI x :: st) h := by
  obtain ⟨hd, rfl⟩ := hd
  obtain ⟨w1, w2, w3, w4⟩ := hw
  intro G hF V H locs ls hP hS hL v1 v2
  have hr := V.2.2.2.2.2.2
  have hst := Nat.le_of_ble_eq_true hst
  refine va_mmax V.1.1 V.1.2.1 (V.1.2.2.1.trans hL.1.symm) V.1.2.2.2.1 (V.1.2.2.2.2 _ w1) (V.1.2.2.2.2 _ w2) (V.1.2.2.2.2 _ w3) (V.1.2.2.2.2 _ w4) (Nat.le_trans hdep hr.1) (by show ((st.map (mIv (mGad G))).map fun v => v.category).sum + 13 ≤ _; rw [mCat_sum]; have := hr.2.1; omega) hr.2.2.1 hr.2.2.2 hd ?_
  rw [show (if Int32.ofInt x < Int32.ofInt y then Int32.ofInt y else Int32.ofInt x) = Int32.ofInt (max x y) by
    by_cases z : x < y
    · rw [if_pos ((o32_lt hc.1 hc.2).mpr z), Int.max_eq_right (by omega)]
    · rw [if_neg (fun w => z ((o32_lt hc.1 hc.2).mp w)), Int.max_eq_left (by omega)]]
  exact k G hF V H locs ls hP hS hL v1 (mVs.cons trivial v2.tl.tl)
theorem mw_minI {idx pc' : Nat} {x y : Int} (hw : mMw M.1.cls idx Lib.Math.min.name Lib.Math.min.code 2 .int) (hdep : 1 ≤ M.2.2.2.2) (hd : mDc M pc (.invokestatic idx) 3 pc') (hst : Nat.ble (mCat st) 8 = true) (hc : mInR x ∧ mInR y) (k : At F M pc' L (mI (min x y) :: st) h) : At F M pc L (mI y :: mI x :: st) h := by
  obtain ⟨hd, rfl⟩ := hd
  obtain ⟨w1, w2, w3, w4⟩ := hw
  intro G hF V H locs ls hP hS hL v1 v2
  have hr := V.2.2.2.2.2.2
  have hst := Nat.le_of_ble_eq_true hst
  refine va_mmin V.1.1 V.1.2.1 (V.1.2.2.1.trans hL.1.symm) V.1.2.2.2.1 (V.1.2.2.2.2 _ w1) (V.1.2.2.2.2 _ w2) (V.1.2.2.2.2 _ w3) (V.1.2.2.2.2 _ w4) (Nat.le_trans hdep hr.1) (by show ((st.map (mIv (mGad G))).map fun v => v.category).sum + 13 ≤ _; rw [mCat_sum]; have := hr.2.1; omega) hr.2.2.1 hr.2.2.2 hd ?_
  rw [show (if Int32.ofInt y < Int32.ofInt x then Int32.ofInt y else Int32.ofInt x) = Int32.ofInt (min x y) by
    by_cases z : y < x
    · rw [if_pos ((o32_lt hc.2 hc.1).mpr z), Int.min_eq_right (by omega)]
    · rw [if_neg (fun w => z ((o32_lt hc.2 hc.1).mp w)), Int.min_eq_left (by omega)]]
  exact k G hF V H locs ls hP hS hL v1 (mVs.cons trivial v2.tl.tl)
/-- arraycopy between two rows of ints -/
theorem mw_copyI {idx r r2 pc' : Nat} {i i2 sp dp n m1 m2 : Int} (hw : Cond.methodLink M.1.cls idx arraycopyName ∈ mTbl ∧ Cond.native arraycopyName ∈ mTbl ∧ Cond.static arraycopyName ∈ mTbl ∧ Cond.initialized "java/lang/System" ∈ mTbl) (hdep : 1 ≤ M.2.2.2.2) (h1 : mRo r 1 m1) (h2 : mRo r2 1 m2) (hd : mDc M pc (.invokestatic idx) 3 pc') (hst : Nat.ble (mCat st) 8 = true) (hc : 0 ≤ sp ∧ 0 ≤ dp ∧ 0 ≤ n ∧ sp + n ≤ m1 ∧ dp + n ≤ m2) (k : At F M pc' L st (mCpy h r i sp r2 i2 dp n)) : At F M pc L (mI n :: mI dp :: mR r2 i2 :: mI sp :: mR r i :: st) h := by
  obtain ⟨hd, rfl⟩ := hd
  obtain ⟨w1, w2, w3, w4⟩ := hw
  obtain ⟨a1, b1, rfl, c1, d1⟩ := h1
  obtain ⟨a2, b2, rfl, c2, d2⟩ := h2
  intro G hF V H locs ls hP hS hL v1 v2
  have hr := V.2.2.2.2.2.2
  have hst := Nat.le_of_ble_eq_true hst
  obtain ⟨p1, hp1⟩ := mIds_at (v2.tl.tl.tl.tl.hd c1.1 c1.2)
  obtain ⟨p2, hp2⟩ := mIds_at (v2.tl.tl.hd c2.1 c2.2)
  have he1 := mW_at (cA := mGc G) (ad := mGad G) hp1 h
  rw [mEnt_inl b1, mRow_i (by decide)] at he1
  have he2 := mW_at (cA := mGc G) (ad := mGad G) hp2 h
  rw [mEnt_inl b2, mRow_i (by decide)] at he2
  have hD := V.2.2.2.2.1 h
  have nn : ∀ z : Int, 0 ≤ z → z < 2147483648 → ¬ Int32.ofInt z < 0 := fun z h0 h1 w => by
    have := (o32_lt (x := z) (y := 0) (by omega) (by decide)).mp w
    omega
  refine va_copyi V.1.1 V.1.2.1 (V.1.2.2.1.trans hL.1.symm) V.1.2.2.2.1 (V.1.2.2.2.2 _ w1) (V.1.2.2.2.2 _ w2) (V.1.2.2.2.2 _ w3) (V.1.2.2.2.2 _ w4) V.2.2.1.1 hP hD hS p1 p2 1 1 he1 he2 rfl rfl rfl (nn sp hc.1 (by omega)) (nn dp hc.2.1 (by omega)) (nn n hc.2.2.1 (by omega)) (by rw [o32_clamp hc.1 (by omega), o32_clamp hc.2.2.1 (by omega)]; omega) (by rw [o32_clamp hc.2.1 (by omega), o32_clamp hc.2.2.1 (by omega)]; omega) (fun _ _ => rfl) (Nat.le_trans hdep hr.1) (by show ((st.map (mIv (mGad G))).map fun v => v.category).sum + 18 ≤ _; rw [mCat_sum]; have := hr.2.1; omega) hd (fun H1 locs1 hP1 hD1 hS1 => ?_)
  rw [o32_clamp hc.1 (by omega), o32_clamp hc.2.1 (by omega), o32_clamp hc.2.2.1 (by omega)] at hP1
  have e : va_cpy (fun j : Nat => Int32.ofInt (h r i (j : Int))) (fun j : Nat => Int32.ofInt (h r2 i2 (j : Int))) sp.toNat dp.toNat n.toNat = fun j : Nat => Int32.ofInt (mCpy h r i sp r2 i2 dp n r2 i2 (j : Int)) := by
    funext j
    unfold va_cpy mCpy
    by_cases z : dp.toNat ≤ j ∧ j < dp.toNat + n.toNat
    · rw [if_pos z, if_pos ⟨rfl, rfl, by omega, by omega⟩]
      show Int32.ofInt (h r i ((sp.toNat + (j - dp.toNat) : Nat) : Int)) = _
      rw [show ((sp.toNat + (j - dp.toNat) : Nat) : Int) = sp + ((j : Int) - dp) by omega]
    · rw [if_neg z, if_neg (fun w => z ⟨by omega, by omega⟩)]
  rw [e, ← mRow_i (ad := mGad G) (k := 1) (by decide), mW_set hp2 hD (h2 := mCpy h r i sp r2 i2 dp n) (mEnt_inl b2) (fun q2 hq2 k2 => by
    unfold mCpy
    rw [if_neg]
    rintro ⟨x, y, -⟩
    exact hq2 (Prod.ext x y))] at hP1
  exact k G hF V H1 locs1 ls hP1 hS1 hL v1 v2.tl.tl.tl.tl.tl
theorem mw_lxor {x y : Int} {pc' : Nat} (hd : mDc M pc (.lxor) 1 pc') (k : At F M pc' L (mJ (mXorL x y) :: st) h) : At F M pc L (mJ y :: mJ x :: st) h := by
  obtain ⟨hd, rfl⟩ := hd
  intro G hF V H locs ls hP hS hL v1 v2
  have k := k G hF V H locs ls hP hS hL v1 (mVs.cons trivial v2.tl.tl)
  refine lv_lxor V.1.1 V.1.2.1 hd ?_
  rw [← Int64.ofInt_toInt (Int64.ofInt x ^^^ Int64.ofInt y)]
  exact k
theorem mRo.ne {r k : Nat} {n : Int} (h : mRo r k n) : r ≠ 0 := by
  obtain ⟨m, -, -, h1, -⟩ := h
  omega
abbrev mPI (K : Int → mH → Prop) : mG → Prop := mPost (fun r h => ∃ x, r = some (mI x) ∧ K x h)
abbrev mPJ (K : Int → mH → Prop) : mG → Prop := mPost (fun r h => ∃ x, r = some (mJ x) ∧ K x h)
abbrev mPV (K : mH → Prop) : mG → Prop := mPost (fun r h => r = none ∧ K h)
end MML
end
section
/-! the tables' words by their places; methods; what stands at which place of their code. By program (wip/whole/gen.py). -/
theorem ro_2 : mRo 2 1 40 := ⟨40, rfl, rfl, by decide, by decide⟩
theorem ro_3 : mRo 3 1 40 := ⟨40, rfl, rfl, by decide, by decide⟩
theorem ro_4 : mRo 4 1 40 := ⟨40, rfl, rfl, by decide, by decide⟩
theorem ro_5 : mRo 5 1 40 := ⟨40, rfl, rfl, by decide, by decide⟩
theorem ro_6 : mRo 6 1 32 := ⟨32, rfl, rfl, by decide, by decide⟩
theorem ro_8 : mRo 8 1 4 := ⟨4, rfl, rfl, by decide, by decide⟩
theorem ro_9 : mRo 9 1 4 := ⟨4, rfl, rfl, by decide, by decide⟩
theorem ro_10 : mRo 10 1 4 := ⟨4, rfl, rfl, by decide, by decide⟩
theorem ro_11 : mRo 11 1 4 := ⟨4, rfl, rfl, by decide, by decide⟩
theorem ro_13 : mRo 13 2 40 := ⟨40, rfl, rfl, by decide, by decide⟩
theorem ro_14 : mRo 14 2 32 := ⟨32, rfl, rfl, by decide, by decide⟩
theorem ro_15 : mRo 15 2 32 := ⟨32, rfl, rfl, by decide, by decide⟩
theorem ro_16 : mRo 16 2 32 := ⟨32, rfl, rfl, by decide, by decide⟩
theorem ro_17 : mRo 17 1 32 := ⟨32, rfl, rfl, by decide, by decide⟩
theorem ro_19 : mRo 19 2 40 := ⟨40, rfl, rfl, by decide, by decide⟩
theorem ro_21 : mRo 21 1 901 := ⟨901, rfl, rfl, by decide, by decide⟩
theorem ro_22 : mRo 22 1 901 := ⟨901, rfl, rfl, by decide, by decide⟩
theorem ro_23 : mRo 23 1 901 := ⟨901, rfl, rfl, by decide, by decide⟩
theorem ro_26 : mRo 26 0 900 := ⟨900, rfl, rfl, by decide, by decide⟩
theorem ro_27 : mRo 27 4 20 := ⟨20, rfl, rfl, by decide, by decide⟩
theorem ro_31 : mRo 31 1 900 := ⟨900, rfl, rfl, by decide, by decide⟩
theorem ro_32 : mRo 32 1 18 := ⟨18, rfl, rfl, by decide, by decide⟩
theorem ro_33 : mRo 33 3 6 := ⟨6, rfl, rfl, by decide, by decide⟩
theorem ro_34 : mRo 34 1 8 := ⟨8, rfl, rfl, by decide, by decide⟩
theorem ro_35 : mRo 35 1 8 := ⟨8, rfl, rfl, by decide, by decide⟩
theorem ro_36 : mRo 36 1 8 := ⟨8, rfl, rfl, by decide, by decide⟩
theorem ro_37 : mRo 37 1 8 := ⟨8, rfl, rfl, by decide, by decide⟩
theorem ro_38 : mRo 38 3 8 := ⟨8, rfl, rfl, by decide, by decide⟩
theorem ro_39 : mRo 39 1 8 := ⟨8, rfl, rfl, by decide, by decide⟩
theorem ro_40 : mRo 40 1 280 := ⟨280, rfl, rfl, by decide, by decide⟩
theorem ro_41 : mRo 41 1 314 := ⟨314, rfl, rfl, by decide, by decide⟩
theorem ro_42 : mRo 42 1 314 := ⟨314, rfl, rfl, by decide, by decide⟩
theorem ro_43 : mRo 43 1 314 := ⟨314, rfl, rfl, by decide, by decide⟩
theorem ro_44 : mRo 44 1 6280 := ⟨6280, rfl, rfl, by decide, by decide⟩
theorem ro_45 : mRo 45 1 4 := ⟨4, rfl, rfl, by decide, by decide⟩
theorem ro_46 : mRo 46 2 1 := ⟨1, rfl, rfl, by decide, by decide⟩
theorem fl_X6_9 : mFl RX6 9 25 0 (some (26, fun _ => 0)) := ⟨0, 6, _, _, rfl, rfl, by decide, rfl, by decide, rfl, mTbl_of 363 (by decide +kernel) rfl⟩
theorem fl_X6_13 : mFl RX6 13 25 3 none := ⟨3, 6, _, _, rfl, rfl, by decide, rfl, by decide, rfl, mTbl_of 366 (by decide +kernel) rfl⟩
theorem fl_X6_20 : mFl RX6 20 25 4 (some (7, fun _ => 0)) := ⟨4, 6, _, _, rfl, rfl, by decide, rfl, by decide, rfl, mTbl_of 367 (by decide +kernel) rfl⟩
theorem fl_X6_27 : mFl RX6 27 25 5 (some (1, fun _ => 0)) := ⟨5, 6, _, _, rfl, rfl, by decide, rfl, by decide, rfl, mTbl_of 368 (by decide +kernel) rfl⟩
theorem fl_X6_36 : mFl RX6 36 25 6 (some (12, fun _ => 0)) := ⟨6, 6, _, _, rfl, rfl, by decide, rfl, by decide, rfl, mTbl_of 369 (by decide +kernel) rfl⟩
theorem fl_X6_45 : mFl RX6 45 25 7 (some (18, fun _ => 0)) := ⟨7, 6, _, _, rfl, rfl, by decide, rfl, by decide, rfl, mTbl_of 370 (by decide +kernel) rfl⟩
theorem fl_X6_49 : mFl RX6 49 25 8 (some (1, fun _ => 1)) := ⟨8, 6, _, _, rfl, rfl, by decide, rfl, by decide, rfl, mTbl_of 371 (by decide +kernel) rfl⟩
theorem fl_X6_52 : mFl RX6 52 25 9 (some (12, fun _ => 1)) := ⟨9, 6, _, _, rfl, rfl, by decide, rfl, by decide, rfl, mTbl_of 372 (by decide +kernel) rfl⟩
theorem fl_X6_58 : mFl RX6 58 25 10 (some (24, fun _ => 0)) := ⟨10, 6, _, _, rfl, rfl, by decide, rfl, by decide, rfl, mTbl_of 373 (by decide +kernel) rfl⟩
theorem fl_X6_62 : mFl RX6 62 25 11 (some (1, fun _ => 3)) := ⟨11, 6, _, _, rfl, rfl, by decide, rfl, by decide, rfl, mTbl_of 374 (by decide +kernel) rfl⟩
theorem fl_X6_65 : mFl RX6 65 25 13 (some (27, fun _ => 0)) := ⟨13, 6, _, _, rfl, rfl, by decide, rfl, by decide, rfl, mTbl_of 376 (by decide +kernel) rfl⟩
theorem fl_X6_69 : mFl RX6 69 25 1 none := ⟨1, 6, _, _, rfl, rfl, by decide, rfl, by decide, rfl, mTbl_of 364 (by decide +kernel) rfl⟩
theorem fl_X6_80 : mFl RX6 80 24 9 none := ⟨9, 4, _, _, rfl, rfl, by decide, rfl, by decide, rfl, mTbl_of 336 (by decide +kernel) rfl⟩
theorem fl_X6_83 : mFl RX6 83 25 2 none := ⟨2, 6, _, _, rfl, rfl, by decide, rfl, by decide, rfl, mTbl_of 365 (by decide +kernel) rfl⟩
theorem fl_X6_84 : mFl RX6 84 24 10 none := ⟨10, 4, _, _, rfl, rfl, by decide, rfl, by decide, rfl, mTbl_of 338 (by decide +kernel) rfl⟩
theorem fl_X6_85 : mFl RX6 85 24 1 (some (7, fun _ => 1)) := ⟨1, 4, _, _, rfl, rfl, by decide, rfl, by decide, rfl, mTbl_of 326 (by decide +kernel) rfl⟩
theorem fl_X6_90 : mFl RX6 90 24 2 (some (1, fun _ => 2)) := ⟨2, 4, _, _, rfl, rfl, by decide, rfl, by decide, rfl, mTbl_of 328 (by decide +kernel) rfl⟩
theorem fl_X6_94 : mFl RX6 94 25 12 none := ⟨12, 6, _, _, rfl, rfl, by decide, rfl, by decide, rfl, mTbl_of 375 (by decide +kernel) rfl⟩
theorem fl_X6_98 : mFl RX6 98 25 15 none := ⟨15, 6, _, _, rfl, rfl, by decide, rfl, by decide, rfl, mTbl_of 378 (by decide +kernel) rfl⟩
theorem fl_X6_130 : mFl RX6 130 1 1 none := ⟨1, 0, _, _, rfl, rfl, by decide, rfl, by decide, rfl, mTbl_of 169 (by decide +kernel) rfl⟩
theorem fl_X6_139 : mFl RX6 139 7 5 (some (10, fun i => i)) := ⟨5, 3, _, _, rfl, rfl, by decide, rfl, by decide, rfl, mTbl_of 129 (by decide +kernel) rfl⟩
theorem fl_X6_143 : mFl RX6 143 7 6 (some (11, fun i => i)) := ⟨6, 3, _, _, rfl, rfl, by decide, rfl, by decide, rfl, mTbl_of 133 (by decide +kernel) rfl⟩
theorem fl_X6_146 : mFl RX6 146 1 11 (some (6, fun i => i)) := ⟨11, 0, _, _, rfl, rfl, by decide, rfl, by decide, rfl, mTbl_of 203 (by decide +kernel) rfl⟩
theorem fl_X6_161 : mFl RX6 161 1 8 (some (3, fun i => i)) := ⟨8, 0, _, _, rfl, rfl, by decide, rfl, by decide, rfl, mTbl_of 194 (by decide +kernel) rfl⟩
theorem fl_X6_167 : mFl RX6 167 1 0 none := ⟨0, 0, _, _, rfl, rfl, by decide, rfl, by decide, rfl, mTbl_of 166 (by decide +kernel) rfl⟩
theorem fl_X6_177 : mFl RX6 177 7 4 (some (9, fun i => i)) := ⟨4, 3, _, _, rfl, rfl, by decide, rfl, by decide, rfl, mTbl_of 126 (by decide +kernel) rfl⟩
theorem fl_X6_190 : mFl RX6 190 1 2 none := ⟨2, 0, _, _, rfl, rfl, by decide, rfl, by decide, rfl, mTbl_of 174 (by decide +kernel) rfl⟩
theorem fl_X6_193 : mFl RX6 193 1 3 none := ⟨3, 0, _, _, rfl, rfl, by decide, rfl, by decide, rfl, mTbl_of 177 (by decide +kernel) rfl⟩
theorem fl_X6_196 : mFl RX6 196 1 4 none := ⟨4, 0, _, _, rfl, rfl, by decide, rfl, by decide, rfl, mTbl_of 182 (by decide +kernel) rfl⟩
theorem fl_X6_199 : mFl RX6 199 1 5 none := ⟨5, 0, _, _, rfl, rfl, by decide, rfl, by decide, rfl, mTbl_of 186 (by decide +kernel) rfl⟩
theorem fl_X6_228 : mFl RX6 228 12 3 (some (14, fun i => i)) := ⟨3, 2, _, _, rfl, rfl, by decide, rfl, by decide, rfl, mTbl_of 241 (by decide +kernel) rfl⟩
theorem fl_X6_232 : mFl RX6 232 12 4 (some (15, fun i => i)) := ⟨4, 2, _, _, rfl, rfl, by decide, rfl, by decide, rfl, mTbl_of 243 (by decide +kernel) rfl⟩
theorem fl_X6_235 : mFl RX6 235 12 5 (some (16, fun i => i)) := ⟨5, 2, _, _, rfl, rfl, by decide, rfl, by decide, rfl, mTbl_of 245 (by decide +kernel) rfl⟩
theorem fl_X6_238 : mFl RX6 238 12 6 (some (17, fun i => i)) := ⟨6, 2, _, _, rfl, rfl, by decide, rfl, by decide, rfl, mTbl_of 247 (by decide +kernel) rfl⟩
theorem fl_X6_246 : mFl RX6 246 1 7 (some (2, fun i => i)) := ⟨7, 0, _, _, rfl, rfl, by decide, rfl, by decide, rfl, mTbl_of 190 (by decide +kernel) rfl⟩
theorem fl_X6_249 : mFl RX6 249 1 9 (some (4, fun i => i)) := ⟨9, 0, _, _, rfl, rfl, by decide, rfl, by decide, rfl, mTbl_of 197 (by decide +kernel) rfl⟩
theorem fl_X6_259 : mFl RX6 259 18 2 (some (19, fun i => i)) := ⟨2, 1, _, _, rfl, rfl, by decide, rfl, by decide, rfl, mTbl_of 273 (by decide +kernel) rfl⟩
theorem fl_X6_265 : mFl RX6 265 7 0 none := ⟨0, 3, _, _, rfl, rfl, by decide, rfl, by decide, rfl, mTbl_of 114 (by decide +kernel) rfl⟩
theorem fl_X6_268 : mFl RX6 268 1 10 (some (5, fun i => i)) := ⟨10, 0, _, _, rfl, rfl, by decide, rfl, by decide, rfl, mTbl_of 200 (by decide +kernel) rfl⟩
theorem fl_X6_293 : mFl RX6 293 18 3 none := ⟨3, 1, _, _, rfl, rfl, by decide, rfl, by decide, rfl, mTbl_of 275 (by decide +kernel) rfl⟩
theorem fl_X6_336 : mFl RX6 336 7 2 none := ⟨2, 3, _, _, rfl, rfl, by decide, rfl, by decide, rfl, mTbl_of 121 (by decide +kernel) rfl⟩
theorem fl_X6_345 : mFl RX6 345 7 1 none := ⟨1, 3, _, _, rfl, rfl, by decide, rfl, by decide, rfl, mTbl_of 118 (by decide +kernel) rfl⟩
theorem fl_X6_352 : mFl RX6 352 25 14 none := ⟨14, 6, _, _, rfl, rfl, by decide, rfl, by decide, rfl, mTbl_of 377 (by decide +kernel) rfl⟩
theorem fl_X0_9 : mFl RX0 9 1 7 (some (2, fun i => i)) := ⟨7, 0, _, _, rfl, rfl, by decide, rfl, by decide, rfl, mTbl_of 188 (by decide +kernel) rfl⟩
theorem fl_X0_15 : mFl RX0 15 1 8 (some (3, fun i => i)) := ⟨8, 0, _, _, rfl, rfl, by decide, rfl, by decide, rfl, mTbl_of 191 (by decide +kernel) rfl⟩
theorem fl_X0_18 : mFl RX0 18 1 9 (some (4, fun i => i)) := ⟨9, 0, _, _, rfl, rfl, by decide, rfl, by decide, rfl, mTbl_of 195 (by decide +kernel) rfl⟩
theorem fl_X0_21 : mFl RX0 21 1 10 (some (5, fun i => i)) := ⟨10, 0, _, _, rfl, rfl, by decide, rfl, by decide, rfl, mTbl_of 198 (by decide +kernel) rfl⟩
theorem fl_X0_24 : mFl RX0 24 1 11 (some (6, fun i => i)) := ⟨11, 0, _, _, rfl, rfl, by decide, rfl, by decide, rfl, mTbl_of 201 (by decide +kernel) rfl⟩
theorem fl_X0_30 : mFl RX0 30 1 0 none := ⟨0, 0, _, _, rfl, rfl, by decide, rfl, by decide, rfl, mTbl_of 162 (by decide +kernel) rfl⟩
theorem fl_X0_34 : mFl RX0 34 1 1 none := ⟨1, 0, _, _, rfl, rfl, by decide, rfl, by decide, rfl, mTbl_of 168 (by decide +kernel) rfl⟩
theorem fl_X0_37 : mFl RX0 37 1 2 none := ⟨2, 0, _, _, rfl, rfl, by decide, rfl, by decide, rfl, mTbl_of 171 (by decide +kernel) rfl⟩
theorem fl_X0_40 : mFl RX0 40 1 3 none := ⟨3, 0, _, _, rfl, rfl, by decide, rfl, by decide, rfl, mTbl_of 175 (by decide +kernel) rfl⟩
theorem fl_X0_43 : mFl RX0 43 1 4 none := ⟨4, 0, _, _, rfl, rfl, by decide, rfl, by decide, rfl, mTbl_of 179 (by decide +kernel) rfl⟩
theorem fl_X0_46 : mFl RX0 46 1 5 none := ⟨5, 0, _, _, rfl, rfl, by decide, rfl, by decide, rfl, mTbl_of 183 (by decide +kernel) rfl⟩
theorem fl_X0_49 : mFl RX0 49 1 6 none := ⟨6, 0, _, _, rfl, rfl, by decide, rfl, by decide, rfl, mTbl_of 187 (by decide +kernel) rfl⟩
theorem fl_X1_9 : mFl RX1 9 18 2 (some (19, fun i => i)) := ⟨2, 1, _, _, rfl, rfl, by decide, rfl, by decide, rfl, mTbl_of 272 (by decide +kernel) rfl⟩
theorem fl_X1_15 : mFl RX1 15 18 0 (some (12, fun _ => 0)) := ⟨0, 1, _, _, rfl, rfl, by decide, rfl, by decide, rfl, mTbl_of 270 (by decide +kernel) rfl⟩
theorem fl_X1_25 : mFl RX1 25 18 1 (some (1, fun _ => 0)) := ⟨1, 1, _, _, rfl, rfl, by decide, rfl, by decide, rfl, mTbl_of 271 (by decide +kernel) rfl⟩
theorem fl_X1_33 : mFl RX1 33 18 3 none := ⟨3, 1, _, _, rfl, rfl, by decide, rfl, by decide, rfl, mTbl_of 274 (by decide +kernel) rfl⟩
theorem fl_X1_37 : mFl RX1 37 18 4 none := ⟨4, 1, _, _, rfl, rfl, by decide, rfl, by decide, rfl, mTbl_of 276 (by decide +kernel) rfl⟩
theorem fl_X1_40 : mFl RX1 40 1 0 none := ⟨0, 0, _, _, rfl, rfl, by decide, rfl, by decide, rfl, mTbl_of 163 (by decide +kernel) rfl⟩
theorem fl_X1_45 : mFl RX1 45 1 2 none := ⟨2, 0, _, _, rfl, rfl, by decide, rfl, by decide, rfl, mTbl_of 172 (by decide +kernel) rfl⟩
theorem fl_X1_52 : mFl RX1 52 12 2 (some (13, fun i => i)) := ⟨2, 2, _, _, rfl, rfl, by decide, rfl, by decide, rfl, mTbl_of 239 (by decide +kernel) rfl⟩
theorem fl_X1_57 : mFl RX1 57 1 9 (some (4, fun i => i)) := ⟨9, 0, _, _, rfl, rfl, by decide, rfl, by decide, rfl, mTbl_of 196 (by decide +kernel) rfl⟩
theorem fl_X1_79 : mFl RX1 79 1 8 (some (3, fun i => i)) := ⟨8, 0, _, _, rfl, rfl, by decide, rfl, by decide, rfl, mTbl_of 192 (by decide +kernel) rfl⟩
theorem fl_X2_9 : mFl RX2 9 12 2 (some (13, fun i => i)) := ⟨2, 2, _, _, rfl, rfl, by decide, rfl, by decide, rfl, mTbl_of 238 (by decide +kernel) rfl⟩
theorem fl_X2_15 : mFl RX2 15 12 3 (some (14, fun i => i)) := ⟨3, 2, _, _, rfl, rfl, by decide, rfl, by decide, rfl, mTbl_of 240 (by decide +kernel) rfl⟩
theorem fl_X2_18 : mFl RX2 18 12 4 (some (15, fun i => i)) := ⟨4, 2, _, _, rfl, rfl, by decide, rfl, by decide, rfl, mTbl_of 242 (by decide +kernel) rfl⟩
theorem fl_X2_21 : mFl RX2 21 12 5 (some (16, fun i => i)) := ⟨5, 2, _, _, rfl, rfl, by decide, rfl, by decide, rfl, mTbl_of 244 (by decide +kernel) rfl⟩
theorem fl_X2_24 : mFl RX2 24 12 6 (some (17, fun i => i)) := ⟨6, 2, _, _, rfl, rfl, by decide, rfl, by decide, rfl, mTbl_of 246 (by decide +kernel) rfl⟩
theorem fl_X2_28 : mFl RX2 28 12 0 (some (7, fun _ => 0)) := ⟨0, 2, _, _, rfl, rfl, by decide, rfl, by decide, rfl, mTbl_of 235 (by decide +kernel) rfl⟩
theorem fl_X2_32 : mFl RX2 32 12 1 (some (1, fun i => i)) := ⟨1, 2, _, _, rfl, rfl, by decide, rfl, by decide, rfl, mTbl_of 237 (by decide +kernel) rfl⟩
theorem fl_X2_36 : mFl RX2 36 1 1 none := ⟨1, 0, _, _, rfl, rfl, by decide, rfl, by decide, rfl, mTbl_of 167 (by decide +kernel) rfl⟩
theorem fl_X2_42 : mFl RX2 42 1 11 (some (6, fun i => i)) := ⟨11, 0, _, _, rfl, rfl, by decide, rfl, by decide, rfl, mTbl_of 202 (by decide +kernel) rfl⟩
theorem fl_X2_47 : mFl RX2 47 7 0 none := ⟨0, 3, _, _, rfl, rfl, by decide, rfl, by decide, rfl, mTbl_of 112 (by decide +kernel) rfl⟩
theorem fl_X2_56 : mFl RX2 56 1 4 none := ⟨4, 0, _, _, rfl, rfl, by decide, rfl, by decide, rfl, mTbl_of 180 (by decide +kernel) rfl⟩
theorem fl_X2_59 : mFl RX2 59 1 5 none := ⟨5, 0, _, _, rfl, rfl, by decide, rfl, by decide, rfl, mTbl_of 184 (by decide +kernel) rfl⟩
theorem fl_X2_68 : mFl RX2 68 1 7 (some (2, fun i => i)) := ⟨7, 0, _, _, rfl, rfl, by decide, rfl, by decide, rfl, mTbl_of 189 (by decide +kernel) rfl⟩
theorem fl_X2_71 : mFl RX2 71 1 10 (some (5, fun i => i)) := ⟨10, 0, _, _, rfl, rfl, by decide, rfl, by decide, rfl, mTbl_of 199 (by decide +kernel) rfl⟩
theorem fl_X2_78 : mFl RX2 78 1 0 none := ⟨0, 0, _, _, rfl, rfl, by decide, rfl, by decide, rfl, mTbl_of 164 (by decide +kernel) rfl⟩
theorem fl_X2_95 : mFl RX2 95 1 8 (some (3, fun i => i)) := ⟨8, 0, _, _, rfl, rfl, by decide, rfl, by decide, rfl, mTbl_of 193 (by decide +kernel) rfl⟩
theorem fl_X2_115 : mFl RX2 115 7 1 none := ⟨1, 3, _, _, rfl, rfl, by decide, rfl, by decide, rfl, mTbl_of 116 (by decide +kernel) rfl⟩
theorem fl_X2_118 : mFl RX2 118 7 5 (some (10, fun i => i)) := ⟨5, 3, _, _, rfl, rfl, by decide, rfl, by decide, rfl, mTbl_of 130 (by decide +kernel) rfl⟩
theorem fl_X2_121 : mFl RX2 121 7 6 (some (11, fun i => i)) := ⟨6, 3, _, _, rfl, rfl, by decide, rfl, by decide, rfl, mTbl_of 134 (by decide +kernel) rfl⟩
theorem fl_X2_130 : mFl RX2 130 7 4 (some (9, fun i => i)) := ⟨4, 3, _, _, rfl, rfl, by decide, rfl, by decide, rfl, mTbl_of 125 (by decide +kernel) rfl⟩
theorem fl_X2_149 : mFl RX2 149 1 3 none := ⟨3, 0, _, _, rfl, rfl, by decide, rfl, by decide, rfl, mTbl_of 178 (by decide +kernel) rfl⟩
theorem fl_X3_9 : mFl RX3 9 7 3 (some (8, fun i => i)) := ⟨3, 3, _, _, rfl, rfl, by decide, rfl, by decide, rfl, mTbl_of 122 (by decide +kernel) rfl⟩
theorem fl_X3_15 : mFl RX3 15 7 4 (some (9, fun i => i)) := ⟨4, 3, _, _, rfl, rfl, by decide, rfl, by decide, rfl, mTbl_of 123 (by decide +kernel) rfl⟩
theorem fl_X3_18 : mFl RX3 18 7 5 (some (10, fun i => i)) := ⟨5, 3, _, _, rfl, rfl, by decide, rfl, by decide, rfl, mTbl_of 127 (by decide +kernel) rfl⟩
theorem fl_X3_21 : mFl RX3 21 7 6 (some (11, fun i => i)) := ⟨6, 3, _, _, rfl, rfl, by decide, rfl, by decide, rfl, mTbl_of 131 (by decide +kernel) rfl⟩
theorem fl_X3_27 : mFl RX3 27 7 0 none := ⟨0, 3, _, _, rfl, rfl, by decide, rfl, by decide, rfl, mTbl_of 111 (by decide +kernel) rfl⟩
theorem fl_X3_31 : mFl RX3 31 7 1 none := ⟨1, 3, _, _, rfl, rfl, by decide, rfl, by decide, rfl, mTbl_of 115 (by decide +kernel) rfl⟩
theorem fl_X3_34 : mFl RX3 34 7 2 none := ⟨2, 3, _, _, rfl, rfl, by decide, rfl, by decide, rfl, mTbl_of 119 (by decide +kernel) rfl⟩
theorem fl_X4_12 : mFl RX4 12 24 0 (some (20, fun _ => 0)) := ⟨0, 4, _, _, rfl, rfl, by decide, rfl, by decide, rfl, mTbl_of 324 (by decide +kernel) rfl⟩
theorem fl_X4_21 : mFl RX4 21 24 1 (some (7, fun _ => 1)) := ⟨1, 4, _, _, rfl, rfl, by decide, rfl, by decide, rfl, mTbl_of 325 (by decide +kernel) rfl⟩
theorem fl_X4_28 : mFl RX4 28 24 2 (some (1, fun _ => 2)) := ⟨2, 4, _, _, rfl, rfl, by decide, rfl, by decide, rfl, mTbl_of 327 (by decide +kernel) rfl⟩
theorem fl_X4_36 : mFl RX4 36 24 7 none := ⟨7, 4, _, _, rfl, rfl, by decide, rfl, by decide, rfl, mTbl_of 333 (by decide +kernel) rfl⟩
theorem fl_X4_40 : mFl RX4 40 24 8 none := ⟨8, 4, _, _, rfl, rfl, by decide, rfl, by decide, rfl, mTbl_of 334 (by decide +kernel) rfl⟩
theorem fl_X4_43 : mFl RX4 43 24 9 none := ⟨9, 4, _, _, rfl, rfl, by decide, rfl, by decide, rfl, mTbl_of 335 (by decide +kernel) rfl⟩
theorem fl_X4_53 : mFl RX4 53 24 3 none := ⟨3, 4, _, _, rfl, rfl, by decide, rfl, by decide, rfl, mTbl_of 329 (by decide +kernel) rfl⟩
theorem fl_X4_59 : mFl RX4 59 20 3 none := ⟨3, 5, _, _, rfl, rfl, by decide, rfl, by decide, rfl, mTbl_of 307 (by decide +kernel) rfl⟩
theorem fl_X4_62 : mFl RX4 62 24 4 none := ⟨4, 4, _, _, rfl, rfl, by decide, rfl, by decide, rfl, mTbl_of 330 (by decide +kernel) rfl⟩
theorem fl_X4_68 : mFl RX4 68 20 0 (some (21, fun i => i)) := ⟨0, 5, _, _, rfl, rfl, by decide, rfl, by decide, rfl, mTbl_of 301 (by decide +kernel) rfl⟩
theorem fl_X4_72 : mFl RX4 72 20 1 (some (22, fun i => i)) := ⟨1, 5, _, _, rfl, rfl, by decide, rfl, by decide, rfl, mTbl_of 303 (by decide +kernel) rfl⟩
theorem fl_X4_75 : mFl RX4 75 24 5 none := ⟨5, 4, _, _, rfl, rfl, by decide, rfl, by decide, rfl, mTbl_of 331 (by decide +kernel) rfl⟩
theorem fl_X4_78 : mFl RX4 78 20 2 (some (23, fun i => i)) := ⟨2, 5, _, _, rfl, rfl, by decide, rfl, by decide, rfl, mTbl_of 305 (by decide +kernel) rfl⟩
theorem fl_X4_81 : mFl RX4 81 24 6 none := ⟨6, 4, _, _, rfl, rfl, by decide, rfl, by decide, rfl, mTbl_of 332 (by decide +kernel) rfl⟩
theorem fl_X4_110 : mFl RX4 110 1 0 none := ⟨0, 0, _, _, rfl, rfl, by decide, rfl, by decide, rfl, mTbl_of 165 (by decide +kernel) rfl⟩
theorem fl_X4_113 : mFl RX4 113 7 0 none := ⟨0, 3, _, _, rfl, rfl, by decide, rfl, by decide, rfl, mTbl_of 113 (by decide +kernel) rfl⟩
theorem fl_X4_132 : mFl RX4 132 7 5 (some (10, fun i => i)) := ⟨5, 3, _, _, rfl, rfl, by decide, rfl, by decide, rfl, mTbl_of 128 (by decide +kernel) rfl⟩
theorem fl_X4_135 : mFl RX4 135 7 6 (some (11, fun i => i)) := ⟨6, 3, _, _, rfl, rfl, by decide, rfl, by decide, rfl, mTbl_of 132 (by decide +kernel) rfl⟩
theorem fl_X4_146 : mFl RX4 146 7 4 (some (9, fun i => i)) := ⟨4, 3, _, _, rfl, rfl, by decide, rfl, by decide, rfl, mTbl_of 124 (by decide +kernel) rfl⟩
theorem fl_X5_9 : mFl RX5 9 20 0 (some (21, fun i => i)) := ⟨0, 5, _, _, rfl, rfl, by decide, rfl, by decide, rfl, mTbl_of 300 (by decide +kernel) rfl⟩
theorem fl_X5_15 : mFl RX5 15 20 1 (some (22, fun i => i)) := ⟨1, 5, _, _, rfl, rfl, by decide, rfl, by decide, rfl, mTbl_of 302 (by decide +kernel) rfl⟩
theorem fl_X5_18 : mFl RX5 18 20 2 (some (23, fun i => i)) := ⟨2, 5, _, _, rfl, rfl, by decide, rfl, by decide, rfl, mTbl_of 304 (by decide +kernel) rfl⟩
theorem fl_X5_30 : mFl RX5 30 20 3 none := ⟨3, 5, _, _, rfl, rfl, by decide, rfl, by decide, rfl, mTbl_of 306 (by decide +kernel) rfl⟩
theorem fl_X5_34 : mFl RX5 34 20 4 none := ⟨4, 5, _, _, rfl, rfl, by decide, rfl, by decide, rfl, mTbl_of 308 (by decide +kernel) rfl⟩
theorem fl_X7_7 : mFl RX7 7 30 1 (some (31, fun _ => 0)) := ⟨1, 7, _, _, rfl, rfl, by decide, rfl, by decide, rfl, mTbl_of 1191 (by decide +kernel) rfl⟩
theorem fl_X7_13 : mFl RX7 13 30 3 (some (32, fun _ => 0)) := ⟨3, 7, _, _, rfl, rfl, by decide, rfl, by decide, rfl, mTbl_of 1193 (by decide +kernel) rfl⟩
theorem fl_X7_16 : mFl RX7 16 30 4 (some (33, fun _ => 0)) := ⟨4, 7, _, _, rfl, rfl, by decide, rfl, by decide, rfl, mTbl_of 1194 (by decide +kernel) rfl⟩
theorem fl_X7_20 : mFl RX7 20 30 5 (some (34, fun _ => 0)) := ⟨5, 7, _, _, rfl, rfl, by decide, rfl, by decide, rfl, mTbl_of 1195 (by decide +kernel) rfl⟩
theorem fl_X7_23 : mFl RX7 23 30 6 (some (35, fun _ => 0)) := ⟨6, 7, _, _, rfl, rfl, by decide, rfl, by decide, rfl, mTbl_of 1196 (by decide +kernel) rfl⟩
theorem fl_X7_26 : mFl RX7 26 30 7 (some (36, fun _ => 0)) := ⟨7, 7, _, _, rfl, rfl, by decide, rfl, by decide, rfl, mTbl_of 1197 (by decide +kernel) rfl⟩
theorem fl_X7_29 : mFl RX7 29 30 8 (some (37, fun _ => 0)) := ⟨8, 7, _, _, rfl, rfl, by decide, rfl, by decide, rfl, mTbl_of 1198 (by decide +kernel) rfl⟩
theorem fl_X7_32 : mFl RX7 32 30 9 (some (38, fun _ => 0)) := ⟨9, 7, _, _, rfl, rfl, by decide, rfl, by decide, rfl, mTbl_of 1199 (by decide +kernel) rfl⟩
theorem fl_X7_35 : mFl RX7 35 30 10 (some (39, fun _ => 0)) := ⟨10, 7, _, _, rfl, rfl, by decide, rfl, by decide, rfl, mTbl_of 1200 (by decide +kernel) rfl⟩
theorem fl_X7_38 : mFl RX7 38 30 11 (some (40, fun _ => 0)) := ⟨11, 7, _, _, rfl, rfl, by decide, rfl, by decide, rfl, mTbl_of 1201 (by decide +kernel) rfl⟩
theorem fl_X7_41 : mFl RX7 41 30 21 none := ⟨21, 7, _, _, rfl, rfl, by decide, rfl, by decide, rfl, mTbl_of 1211 (by decide +kernel) rfl⟩
theorem fl_X7_45 : mFl RX7 45 30 22 (some (41, fun _ => 0)) := ⟨22, 7, _, _, rfl, rfl, by decide, rfl, by decide, rfl, mTbl_of 1212 (by decide +kernel) rfl⟩
theorem fl_X7_48 : mFl RX7 48 30 23 (some (42, fun _ => 0)) := ⟨23, 7, _, _, rfl, rfl, by decide, rfl, by decide, rfl, mTbl_of 1213 (by decide +kernel) rfl⟩
theorem fl_X7_51 : mFl RX7 51 30 24 (some (43, fun _ => 0)) := ⟨24, 7, _, _, rfl, rfl, by decide, rfl, by decide, rfl, mTbl_of 1214 (by decide +kernel) rfl⟩
theorem fl_X7_54 : mFl RX7 54 30 25 (some (44, fun _ => 0)) := ⟨25, 7, _, _, rfl, rfl, by decide, rfl, by decide, rfl, mTbl_of 1215 (by decide +kernel) rfl⟩
theorem fl_X7_57 : mFl RX7 57 30 28 (some (45, fun _ => 0)) := ⟨28, 7, _, _, rfl, rfl, by decide, rfl, by decide, rfl, mTbl_of 1218 (by decide +kernel) rfl⟩
theorem fl_X7_69 : mFl RX7 69 30 0 none := ⟨0, 7, _, _, rfl, rfl, by decide, rfl, by decide, rfl, mTbl_of 1190 (by decide +kernel) rfl⟩
theorem fl_X7_72 : mFl RX7 72 30 2 none := ⟨2, 7, _, _, rfl, rfl, by decide, rfl, by decide, rfl, mTbl_of 1192 (by decide +kernel) rfl⟩
theorem fl_X7_75 : mFl RX7 75 30 14 none := ⟨14, 7, _, _, rfl, rfl, by decide, rfl, by decide, rfl, mTbl_of 1204 (by decide +kernel) rfl⟩
theorem fl_X7_78 : mFl RX7 78 30 13 none := ⟨13, 7, _, _, rfl, rfl, by decide, rfl, by decide, rfl, mTbl_of 1203 (by decide +kernel) rfl⟩
theorem fl_X7_85 : mFl RX7 85 30 15 none := ⟨15, 7, _, _, rfl, rfl, by decide, rfl, by decide, rfl, mTbl_of 1205 (by decide +kernel) rfl⟩
theorem fl_X7_88 : mFl RX7 88 30 16 none := ⟨16, 7, _, _, rfl, rfl, by decide, rfl, by decide, rfl, mTbl_of 1206 (by decide +kernel) rfl⟩
theorem fl_X7_98 : mFl RX7 98 30 17 none := ⟨17, 7, _, _, rfl, rfl, by decide, rfl, by decide, rfl, mTbl_of 1207 (by decide +kernel) rfl⟩
theorem fl_X7_119 : mFl RX7 119 30 18 none := ⟨18, 7, _, _, rfl, rfl, by decide, rfl, by decide, rfl, mTbl_of 1208 (by decide +kernel) rfl⟩
theorem fl_X7_122 : mFl RX7 122 30 19 none := ⟨19, 7, _, _, rfl, rfl, by decide, rfl, by decide, rfl, mTbl_of 1209 (by decide +kernel) rfl⟩
theorem fl_X7_174 : mFl RX7 174 30 12 none := ⟨12, 7, _, _, rfl, rfl, by decide, rfl, by decide, rfl, mTbl_of 1202 (by decide +kernel) rfl⟩
theorem fl_X7_183 : mFl RX7 183 30 20 none := ⟨20, 7, _, _, rfl, rfl, by decide, rfl, by decide, rfl, mTbl_of 1210 (by decide +kernel) rfl⟩
theorem fl_X7_186 : mFl RX7 186 30 26 none := ⟨26, 7, _, _, rfl, rfl, by decide, rfl, by decide, rfl, mTbl_of 1216 (by decide +kernel) rfl⟩
theorem fl_X7_189 : mFl RX7 189 30 27 none := ⟨27, 7, _, _, rfl, rfl, by decide, rfl, by decide, rfl, mTbl_of 1217 (by decide +kernel) rfl⟩
theorem fl_X7_360 : mFl RX7 360 30 29 none := ⟨29, 7, _, _, rfl, rfl, by decide, rfl, by decide, rfl, mTbl_of 1219 (by decide +kernel) rfl⟩
theorem fp_X6_13 : mFp RX6 13 25 3 .int := ⟨3, 6, _, _, rfl, rfl, by decide, rfl, by decide, rfl, mTbl_of 366 (by decide +kernel) rfl, rfl, by decide +kernel⟩
theorem fp_X6_69 : mFp RX6 69 25 1 .int := ⟨1, 6, _, _, rfl, rfl, by decide, rfl, by decide, rfl, mTbl_of 364 (by decide +kernel) rfl, rfl, by decide +kernel⟩
theorem fp_X6_83 : mFp RX6 83 25 2 .int := ⟨2, 6, _, _, rfl, rfl, by decide, rfl, by decide, rfl, mTbl_of 365 (by decide +kernel) rfl, rfl, by decide +kernel⟩
theorem fp_X6_94 : mFp RX6 94 25 12 .boolean := ⟨12, 6, _, _, rfl, rfl, by decide, rfl, by decide, rfl, mTbl_of 375 (by decide +kernel) rfl, rfl, by decide +kernel⟩
theorem fp_X6_98 : mFp RX6 98 25 15 .int := ⟨15, 6, _, _, rfl, rfl, by decide, rfl, by decide, rfl, mTbl_of 378 (by decide +kernel) rfl, rfl, by decide +kernel⟩
theorem fp_X6_190 : mFp RX6 190 1 2 .int := ⟨2, 0, _, _, rfl, rfl, by decide, rfl, by decide, rfl, mTbl_of 174 (by decide +kernel) rfl, rfl, by decide +kernel⟩
theorem fp_X6_193 : mFp RX6 193 1 3 .int := ⟨3, 0, _, _, rfl, rfl, by decide, rfl, by decide, rfl, mTbl_of 177 (by decide +kernel) rfl, rfl, by decide +kernel⟩
theorem fp_X6_196 : mFp RX6 196 1 4 .int := ⟨4, 0, _, _, rfl, rfl, by decide, rfl, by decide, rfl, mTbl_of 182 (by decide +kernel) rfl, rfl, by decide +kernel⟩
theorem fp_X6_199 : mFp RX6 199 1 5 .int := ⟨5, 0, _, _, rfl, rfl, by decide, rfl, by decide, rfl, mTbl_of 186 (by decide +kernel) rfl, rfl, by decide +kernel⟩
theorem fp_X6_352 : mFp RX6 352 25 14 .int := ⟨14, 6, _, _, rfl, rfl, by decide, rfl, by decide, rfl, mTbl_of 377 (by decide +kernel) rfl, rfl, by decide +kernel⟩
theorem fp_X0_30 : mFp RX0 30 1 0 .int := ⟨0, 0, _, _, rfl, rfl, by decide, rfl, by decide, rfl, mTbl_of 162 (by decide +kernel) rfl, rfl, by decide +kernel⟩
theorem fp_X0_34 : mFp RX0 34 1 1 .int := ⟨1, 0, _, _, rfl, rfl, by decide, rfl, by decide, rfl, mTbl_of 168 (by decide +kernel) rfl, rfl, by decide +kernel⟩
theorem fp_X0_37 : mFp RX0 37 1 2 .int := ⟨2, 0, _, _, rfl, rfl, by decide, rfl, by decide, rfl, mTbl_of 171 (by decide +kernel) rfl, rfl, by decide +kernel⟩
theorem fp_X0_40 : mFp RX0 40 1 3 .int := ⟨3, 0, _, _, rfl, rfl, by decide, rfl, by decide, rfl, mTbl_of 175 (by decide +kernel) rfl, rfl, by decide +kernel⟩
theorem fp_X0_43 : mFp RX0 43 1 4 .int := ⟨4, 0, _, _, rfl, rfl, by decide, rfl, by decide, rfl, mTbl_of 179 (by decide +kernel) rfl, rfl, by decide +kernel⟩
theorem fp_X0_46 : mFp RX0 46 1 5 .int := ⟨5, 0, _, _, rfl, rfl, by decide, rfl, by decide, rfl, mTbl_of 183 (by decide +kernel) rfl, rfl, by decide +kernel⟩
theorem fp_X0_49 : mFp RX0 49 1 6 .int := ⟨6, 0, _, _, rfl, rfl, by decide, rfl, by decide, rfl, mTbl_of 187 (by decide +kernel) rfl, rfl, by decide +kernel⟩
theorem fp_X1_33 : mFp RX1 33 18 3 .int := ⟨3, 1, _, _, rfl, rfl, by decide, rfl, by decide, rfl, mTbl_of 274 (by decide +kernel) rfl, rfl, by decide +kernel⟩
theorem fp_X1_37 : mFp RX1 37 18 4 .int := ⟨4, 1, _, _, rfl, rfl, by decide, rfl, by decide, rfl, mTbl_of 276 (by decide +kernel) rfl, rfl, by decide +kernel⟩
theorem fp_X2_36 : mFp RX2 36 1 1 .int := ⟨1, 0, _, _, rfl, rfl, by decide, rfl, by decide, rfl, mTbl_of 167 (by decide +kernel) rfl, rfl, by decide +kernel⟩
theorem fp_X3_27 : mFp RX3 27 7 0 .int := ⟨0, 3, _, _, rfl, rfl, by decide, rfl, by decide, rfl, mTbl_of 111 (by decide +kernel) rfl, rfl, by decide +kernel⟩
theorem fp_X3_31 : mFp RX3 31 7 1 .int := ⟨1, 3, _, _, rfl, rfl, by decide, rfl, by decide, rfl, mTbl_of 115 (by decide +kernel) rfl, rfl, by decide +kernel⟩
theorem fp_X3_34 : mFp RX3 34 7 2 .int := ⟨2, 3, _, _, rfl, rfl, by decide, rfl, by decide, rfl, mTbl_of 119 (by decide +kernel) rfl, rfl, by decide +kernel⟩
theorem fp_X4_36 : mFp RX4 36 24 7 .int := ⟨7, 4, _, _, rfl, rfl, by decide, rfl, by decide, rfl, mTbl_of 333 (by decide +kernel) rfl, rfl, by decide +kernel⟩
theorem fp_X4_40 : mFp RX4 40 24 8 .int := ⟨8, 4, _, _, rfl, rfl, by decide, rfl, by decide, rfl, mTbl_of 334 (by decide +kernel) rfl, rfl, by decide +kernel⟩
theorem fp_X4_43 : mFp RX4 43 24 9 .int := ⟨9, 4, _, _, rfl, rfl, by decide, rfl, by decide, rfl, mTbl_of 335 (by decide +kernel) rfl, rfl, by decide +kernel⟩
theorem fp_X4_46 : mFp RX4 46 24 10 .int := ⟨10, 4, _, _, rfl, rfl, by decide, rfl, by decide, rfl, mTbl_of 337 (by decide +kernel) rfl, rfl, by decide +kernel⟩
theorem fp_X4_53 : mFp RX4 53 24 3 .int := ⟨3, 4, _, _, rfl, rfl, by decide, rfl, by decide, rfl, mTbl_of 329 (by decide +kernel) rfl, rfl, by decide +kernel⟩
theorem fp_X4_62 : mFp RX4 62 24 4 .int := ⟨4, 4, _, _, rfl, rfl, by decide, rfl, by decide, rfl, mTbl_of 330 (by decide +kernel) rfl, rfl, by decide +kernel⟩
theorem fp_X4_75 : mFp RX4 75 24 5 .int := ⟨5, 4, _, _, rfl, rfl, by decide, rfl, by decide, rfl, mTbl_of 331 (by decide +kernel) rfl, rfl, by decide +kernel⟩
theorem fp_X4_81 : mFp RX4 81 24 6 .int := ⟨6, 4, _, _, rfl, rfl, by decide, rfl, by decide, rfl, mTbl_of 332 (by decide +kernel) rfl, rfl, by decide +kernel⟩
theorem fp_X4_159 : mFp RX4 159 1 1 .int := ⟨1, 0, _, _, rfl, rfl, by decide, rfl, by decide, rfl, mTbl_of 170 (by decide +kernel) rfl, rfl, by decide +kernel⟩
theorem fp_X4_162 : mFp RX4 162 7 1 .int := ⟨1, 3, _, _, rfl, rfl, by decide, rfl, by decide, rfl, mTbl_of 117 (by decide +kernel) rfl, rfl, by decide +kernel⟩
theorem fp_X4_165 : mFp RX4 165 1 2 .int := ⟨2, 0, _, _, rfl, rfl, by decide, rfl, by decide, rfl, mTbl_of 173 (by decide +kernel) rfl, rfl, by decide +kernel⟩
theorem fp_X4_168 : mFp RX4 168 1 3 .int := ⟨3, 0, _, _, rfl, rfl, by decide, rfl, by decide, rfl, mTbl_of 176 (by decide +kernel) rfl, rfl, by decide +kernel⟩
theorem fp_X4_171 : mFp RX4 171 1 4 .int := ⟨4, 0, _, _, rfl, rfl, by decide, rfl, by decide, rfl, mTbl_of 181 (by decide +kernel) rfl, rfl, by decide +kernel⟩
theorem fp_X4_174 : mFp RX4 174 1 5 .int := ⟨5, 0, _, _, rfl, rfl, by decide, rfl, by decide, rfl, mTbl_of 185 (by decide +kernel) rfl, rfl, by decide +kernel⟩
theorem fp_X4_177 : mFp RX4 177 7 2 .int := ⟨2, 3, _, _, rfl, rfl, by decide, rfl, by decide, rfl, mTbl_of 120 (by decide +kernel) rfl, rfl, by decide +kernel⟩
theorem fp_X5_30 : mFp RX5 30 20 3 .int := ⟨3, 5, _, _, rfl, rfl, by decide, rfl, by decide, rfl, mTbl_of 306 (by decide +kernel) rfl, rfl, by decide +kernel⟩
theorem fp_X5_34 : mFp RX5 34 20 4 .int := ⟨4, 5, _, _, rfl, rfl, by decide, rfl, by decide, rfl, mTbl_of 308 (by decide +kernel) rfl, rfl, by decide +kernel⟩
theorem fp_X7_41 : mFp RX7 41 30 21 .int := ⟨21, 7, _, _, rfl, rfl, by decide, rfl, by decide, rfl, mTbl_of 1211 (by decide +kernel) rfl, rfl, by decide +kernel⟩
theorem fp_X7_69 : mFp RX7 69 30 0 .int := ⟨0, 7, _, _, rfl, rfl, by decide, rfl, by decide, rfl, mTbl_of 1190 (by decide +kernel) rfl, rfl, by decide +kernel⟩
theorem fp_X7_72 : mFp RX7 72 30 2 .int := ⟨2, 7, _, _, rfl, rfl, by decide, rfl, by decide, rfl, mTbl_of 1192 (by decide +kernel) rfl, rfl, by decide +kernel⟩
theorem fp_X7_75 : mFp RX7 75 30 14 .int := ⟨14, 7, _, _, rfl, rfl, by decide, rfl, by decide, rfl, mTbl_of 1204 (by decide +kernel) rfl, rfl, by decide +kernel⟩
theorem fp_X7_78 : mFp RX7 78 30 13 .int := ⟨13, 7, _, _, rfl, rfl, by decide, rfl, by decide, rfl, mTbl_of 1203 (by decide +kernel) rfl, rfl, by decide +kernel⟩
theorem fp_X7_85 : mFp RX7 85 30 15 .int := ⟨15, 7, _, _, rfl, rfl, by decide, rfl, by decide, rfl, mTbl_of 1205 (by decide +kernel) rfl, rfl, by decide +kernel⟩
theorem fp_X7_88 : mFp RX7 88 30 16 .int := ⟨16, 7, _, _, rfl, rfl, by decide, rfl, by decide, rfl, mTbl_of 1206 (by decide +kernel) rfl, rfl, by decide +kernel⟩
theorem fp_X7_98 : mFp RX7 98 30 17 .int := ⟨17, 7, _, _, rfl, rfl, by decide, rfl, by decide, rfl, mTbl_of 1207 (by decide +kernel) rfl, rfl, by decide +kernel⟩
theorem fp_X7_119 : mFp RX7 119 30 18 .int := ⟨18, 7, _, _, rfl, rfl, by decide, rfl, by decide, rfl, mTbl_of 1208 (by decide +kernel) rfl, rfl, by decide +kernel⟩
theorem fp_X7_122 : mFp RX7 122 30 19 .int := ⟨19, 7, _, _, rfl, rfl, by decide, rfl, by decide, rfl, mTbl_of 1209 (by decide +kernel) rfl, rfl, by decide +kernel⟩
theorem fp_X7_174 : mFp RX7 174 30 12 .int := ⟨12, 7, _, _, rfl, rfl, by decide, rfl, by decide, rfl, mTbl_of 1202 (by decide +kernel) rfl, rfl, by decide +kernel⟩
theorem fp_X7_183 : mFp RX7 183 30 20 .int := ⟨20, 7, _, _, rfl, rfl, by decide, rfl, by decide, rfl, mTbl_of 1210 (by decide +kernel) rfl, rfl, by decide +kernel⟩
theorem fp_X7_186 : mFp RX7 186 30 26 .int := ⟨26, 7, _, _, rfl, rfl, by decide, rfl, by decide, rfl, mTbl_of 1216 (by decide +kernel) rfl, rfl, by decide +kernel⟩
theorem fp_X7_189 : mFp RX7 189 30 27 .boolean := ⟨27, 7, _, _, rfl, rfl, by decide, rfl, by decide, rfl, mTbl_of 1217 (by decide +kernel) rfl, rfl, by decide +kernel⟩
theorem fp_X7_360 : mFp RX7 360 30 29 .int := ⟨29, 7, _, _, rfl, rfl, by decide, rfl, by decide, rfl, mTbl_of 1219 (by decide +kernel) rfl, rfl, by decide +kernel⟩
theorem kc_X6_160 : Cond.constant RX6 160 (Int32.ofInt 99999) ∈ mTbl := mTbl_of 776 (by decide +kernel) rfl
theorem kc_X1_86 : Cond.constant RX1 86 (Int32.ofInt 99999) ∈ mTbl := mTbl_of 857 (by decide +kernel) rfl
theorem kc_X2_175 : Cond.constant RX2 175 (Int32.ofInt 99999) ∈ mTbl := mTbl_of 729 (by decide +kernel) rfl
theorem kc_X3_43 : Cond.constant RX3 43 (Int32.ofInt 50000) ∈ mTbl := mTbl_of 542 (by decide +kernel) rfl
theorem kc_X4_138 : Cond.constant RX4 138 (Int32.ofInt 99999) ∈ mTbl := mTbl_of 555 (by decide +kernel) rfl
theorem kc_X5_62 : Cond.constant RX5 62 (Int32.ofInt 1000000) ∈ mTbl := mTbl_of 513 (by decide +kernel) rfl
theorem kc_X7_107 : Cond.constant RX7 107 (Int32.ofInt 99999) ∈ mTbl := mTbl_of 1323 (by decide +kernel) rfl
theorem kc_X7_151 : Cond.constant RX7 151 (Int32.ofInt 50000) ∈ mTbl := mTbl_of 1356 (by decide +kernel) rfl
theorem kc_X7_363 : Cond.constant RX7 363 (Int32.ofInt 1103515245) ∈ mTbl := mTbl_of 1732 (by decide +kernel) rfl
theorem kc_X7_364 : Cond.constant RX7 364 (Int32.ofInt 2147483647) ∈ mTbl := mTbl_of 1733 (by decide +kernel) rfl
theorem kl_X6_217 : Cond.constantLong RX6 217 (Int64.ofInt (-2000)) ∈ mTbl := mTbl_of 832 (by decide +kernel) rfl
theorem kl_X6_244 : Cond.constantLong RX6 244 (Int64.ofInt (-999999999)) ∈ mTbl := mTbl_of 841 (by decide +kernel) rfl
theorem kl_X6_288 : Cond.constantLong RX6 288 (Int64.ofInt (-1)) ∈ mTbl := mTbl_of 901 (by decide +kernel) rfl
theorem kl_X6_299 : Cond.constantLong RX6 299 (Int64.ofInt 1000) ∈ mTbl := mTbl_of 933 (by decide +kernel) rfl
theorem kl_X6_315 : Cond.constantLong RX6 315 (Int64.ofInt (-2)) ∈ mTbl := mTbl_of 960 (by decide +kernel) rfl
theorem kl_X0_95 : Cond.constantLong RX0 95 (Int64.ofInt 1103515245) ∈ mTbl := mTbl_of 1040 (by decide +kernel) rfl
theorem kl_X0_97 : Cond.constantLong RX0 97 (Int64.ofInt 12345) ∈ mTbl := mTbl_of 1041 (by decide +kernel) rfl
theorem kl_X0_99 : Cond.constantLong RX0 99 (Int64.ofInt 2147483647) ∈ mTbl := mTbl_of 1042 (by decide +kernel) rfl
theorem kl_X1_55 : Cond.constantLong RX1 55 (Int64.ofInt 10000) ∈ mTbl := mTbl_of 875 (by decide +kernel) rfl
theorem kl_X1_61 : Cond.constantLong RX1 61 (Int64.ofInt 1000) ∈ mTbl := mTbl_of 870 (by decide +kernel) rfl
theorem kl_X2_45 : Cond.constantLong RX2 45 (Int64.ofInt 10000) ∈ mTbl := mTbl_of 645 (by decide +kernel) rfl
theorem kl_X2_62 : Cond.constantLong RX2 62 (Int64.ofInt 1000) ∈ mTbl := mTbl_of 646 (by decide +kernel) rfl
theorem kl_X7_220 : Cond.constantLong RX7 220 (Int64.ofInt 1000) ∈ mTbl := mTbl_of 1453 (by decide +kernel) rfl
theorem kl_X7_225 : Cond.constantLong RX7 225 (Int64.ofInt 10000) ∈ mTbl := mTbl_of 1452 (by decide +kernel) rfl
theorem kl_X7_276 : Cond.constantLong RX7 276 (Int64.ofInt 99999) ∈ mTbl := mTbl_of 1508 (by decide +kernel) rfl
theorem kl_X7_307 : Cond.constantLong RX7 307 (Int64.ofInt (-1)) ∈ mTbl := mTbl_of 1581 (by decide +kernel) rfl
theorem kl_X7_315 : Cond.constantLong RX7 315 (Int64.ofInt (-2000)) ∈ mTbl := mTbl_of 1586 (by decide +kernel) rfl
theorem kl_X7_317 : Cond.constantLong RX7 317 (Int64.ofInt (-2)) ∈ mTbl := mTbl_of 1599 (by decide +kernel) rfl
theorem kl_X7_337 : Cond.constantLong RX7 337 (Int64.ofInt (-999999999)) ∈ mTbl := mTbl_of 1620 (by decide +kernel) rfl
theorem ml_X6_72 : Cond.methodLink RX6 72 yX6_appendBytes ∈ mTbl := mTbl_of 416 (by decide +kernel) rfl
theorem ml_X6_76 : Cond.methodLink RX6 76 yX4_readText ∈ mTbl := mTbl_of 424 (by decide +kernel) rfl
theorem ml_X6_86 : Cond.methodLink RX6 86 yX3_copyFrom ∈ mTbl := mTbl_of 595 (by decide +kernel) rfl
theorem ml_X6_91 : Cond.methodLink RX6 91 yX0_copyFrom ∈ mTbl := mTbl_of 602 (by decide +kernel) rfl
theorem ml_X6_101 : Cond.methodLink RX6 101 yX3_find ∈ mTbl := mTbl_of 615 (by decide +kernel) rfl
theorem ml_X6_105 : Cond.methodLink RX6 105 yX3_hasFactor ∈ mTbl := mTbl_of 620 (by decide +kernel) rfl
theorem ml_X6_109 : Cond.methodLink RX6 109 yX6_remember ∈ mTbl := mTbl_of 621 (by decide +kernel) rfl
theorem ml_X6_112 : Cond.methodLink RX6 112 yX2_turnOnce ∈ mTbl := mTbl_of 629 (by decide +kernel) rfl
theorem ml_X6_115 : Cond.methodLink RX6 115 yX6_within ∈ mTbl := mTbl_of 686 (by decide +kernel) rfl
theorem ml_X6_119 : Cond.methodLink RX6 119 yX2_playRounds ∈ mTbl := mTbl_of 689 (by decide +kernel) rfl
theorem ml_X6_123 : Cond.methodLink RX6 123 yX2_countUnbalanced ∈ mTbl := mTbl_of 694 (by decide +kernel) rfl
theorem ml_X6_127 : Cond.methodLink RX6 127 yX2_rebaseBook ∈ mTbl := mTbl_of 717 (by decide +kernel) rfl
theorem ml_X6_133 : Cond.methodLink RX6 133 yX2_levelBook ∈ mTbl := mTbl_of 734 (by decide +kernel) rfl
theorem ml_X6_136 : Cond.methodLink RX6 136 yX3_hasLevel ∈ mTbl := mTbl_of 754 (by decide +kernel) rfl
theorem ml_X6_149 : Cond.methodLink RX6 149 yX6_slot ∈ mTbl := mTbl_of 755 (by decide +kernel) rfl
theorem ml_X6_153 : Cond.methodLink RX6 153 yX0_setClass ∈ mTbl := mTbl_of 756 (by decide +kernel) rfl
theorem ml_X6_157 : Cond.methodLink RX6 157 yX0_hasRisk ∈ mTbl := mTbl_of 772 (by decide +kernel) rfl
theorem ml_X6_164 : Cond.methodLink RX6 164 yX3_hasLevels ∈ mTbl := mTbl_of 781 (by decide +kernel) rfl
theorem ml_X6_170 : Cond.methodLink RX6 170 yX0_addRisk ∈ mTbl := mTbl_of 787 (by decide +kernel) rfl
theorem ml_X6_174 : Cond.methodLink RX6 174 yX0_removeRisk ∈ mTbl := mTbl_of 792 (by decide +kernel) rfl
theorem ml_X6_180 : Cond.methodLink RX6 180 yX0_isJoined ∈ mTbl := mTbl_of 801 (by decide +kernel) rfl
theorem ml_X6_183 : Cond.methodLink RX6 183 yX0_part ∈ mTbl := mTbl_of 802 (by decide +kernel) rfl
theorem ml_X6_187 : Cond.methodLink RX6 187 yX0_joinToNext ∈ mTbl := mTbl_of 806 (by decide +kernel) rfl
theorem ml_X6_202 : Cond.methodLink RX6 202 yX0_countFleets ∈ mTbl := mTbl_of 824 (by decide +kernel) rfl
theorem ml_X6_219 : Cond.methodLink RX6 219 yX2_measure ∈ mTbl := mTbl_of 833 (by decide +kernel) rfl
theorem ml_X6_222 : Cond.methodLink RX6 222 yX0_firstOf ∈ mTbl := mTbl_of 834 (by decide +kernel) rfl
theorem ml_X6_225 : Cond.methodLink RX6 225 yX0_lastOf ∈ mTbl := mTbl_of 835 (by decide +kernel) rfl
theorem ml_X6_241 : Cond.methodLink RX6 241 yX2_balances ∈ mTbl := mTbl_of 836 (by decide +kernel) rfl
theorem ml_X6_252 : Cond.methodLink RX6 252 yX2_premiumOf ∈ mTbl := mTbl_of 842 (by decide +kernel) rfl
theorem ml_X6_256 : Cond.methodLink RX6 256 yX1_settle ∈ mTbl := mTbl_of 847 (by decide +kernel) rfl
theorem ml_X6_262 : Cond.methodLink RX6 262 yX1_changeOf ∈ mTbl := mTbl_of 878 (by decide +kernel) rfl
theorem ml_X6_271 : Cond.methodLink RX6 271 yX6_levelIn ∈ mTbl := mTbl_of 882 (by decide +kernel) rfl
theorem ml_X6_274 : Cond.methodLink RX6 274 yX0_sumOf ∈ mTbl := mTbl_of 887 (by decide +kernel) rfl
theorem ml_X6_278 : Cond.methodLink RX6 278 yX2_sumPaid ∈ mTbl := mTbl_of 888 (by decide +kernel) rfl
theorem ml_X6_282 : Cond.methodLink RX6 282 yX2_sumMisfit ∈ mTbl := mTbl_of 889 (by decide +kernel) rfl
theorem ml_X6_285 : Cond.methodLink RX6 285 yX1_sumCapped ∈ mTbl := mTbl_of 897 (by decide +kernel) rfl
theorem ml_X6_290 : Cond.methodLink RX6 290 yX2_roundsTillBalance ∈ mTbl := mTbl_of 906 (by decide +kernel) rfl
theorem ml_X6_296 : Cond.methodLink RX6 296 yX1_isChanged ∈ mTbl := mTbl_of 924 (by decide +kernel) rfl
theorem ml_X6_301 : Cond.methodLink RX6 301 yX2_countAt ∈ mTbl := mTbl_of 938 (by decide +kernel) rfl
theorem ml_X6_304 : Cond.methodLink RX6 304 yX2_behindFactors ∈ mTbl := mTbl_of 950 (by decide +kernel) rfl
theorem ml_X6_308 : Cond.methodLink RX6 308 yX6_slotShift ∈ mTbl := mTbl_of 655 (by decide +kernel) rfl
theorem ml_X6_311 : Cond.methodLink RX6 311 yX2_premiumFor ∈ mTbl := mTbl_of 955 (by decide +kernel) rfl
theorem ml_X6_317 : Cond.methodLink RX6 317 yX2_worstSlot ∈ mTbl := mTbl_of 965 (by decide +kernel) rfl
theorem ml_X6_320 : Cond.methodLink RX6 320 yX1_rankOf ∈ mTbl := mTbl_of 977 (by decide +kernel) rfl
theorem ml_X6_323 : Cond.methodLink RX6 323 yX1_searchCap ∈ mTbl := mTbl_of 985 (by decide +kernel) rfl
theorem ml_X6_326 : Cond.methodLink RX6 326 yX0_setAll ∈ mTbl := mTbl_of 993 (by decide +kernel) rfl
theorem ml_X6_329 : Cond.methodLink RX6 329 yX6_misfitIfJoined ∈ mTbl := mTbl_of 1001 (by decide +kernel) rfl
theorem ml_X6_332 : Cond.methodLink RX6 332 yX3_countKinds ∈ mTbl := mTbl_of 1017 (by decide +kernel) rfl
theorem ml_X6_335 : Cond.methodLink RX6 335 yX0_countKinds ∈ mTbl := mTbl_of 1021 (by decide +kernel) rfl
theorem ml_X6_339 : Cond.methodLink RX6 339 yX0_drawClaims ∈ mTbl := mTbl_of 1033 (by decide +kernel) rfl
theorem ml_X6_342 : Cond.methodLink RX6 342 yX6_historyIndex ∈ mTbl := mTbl_of 625 (by decide +kernel) rfl
theorem ml_X6_348 : Cond.methodLink RX6 348 yX2_countAllClasses ∈ mTbl := mTbl_of 1062 (by decide +kernel) rfl
theorem ml_X0_58 : Cond.methodLink RX0 58 yX0_hasRisk ∈ mTbl := mTbl_of 796 (by decide +kernel) rfl
theorem ml_X0_66 : Cond.methodLink RX0 66 yX0_isJoined ∈ mTbl := mTbl_of 665 (by decide +kernel) rfl
theorem ml_X0_70 : Cond.methodLink RX0 70 yX0_lastOf ∈ mTbl := mTbl_of 760 (by decide +kernel) rfl
theorem ml_X0_73 : Cond.methodLink RX0 73 yX0_firstOf ∈ mTbl := mTbl_of 764 (by decide +kernel) rfl
theorem ml_X0_76 : Cond.methodLink RX0 76 yX0_mark ∈ mTbl := mTbl_of 810 (by decide +kernel) rfl
theorem ml_X0_80 : Cond.methodLink RX0 80 yX0_setClass ∈ mTbl := mTbl_of 811 (by decide +kernel) rfl
theorem ml_X0_84 : Cond.methodLink RX0 84 yX0_isFirstOfKind ∈ mTbl := mTbl_of 1025 (by decide +kernel) rfl
theorem ml_X0_87 : Cond.methodLink RX0 87 yX0_numberBehind ∈ mTbl := mTbl_of 1037 (by decide +kernel) rfl
theorem ml_X0_91 : Cond.methodLink RX0 91 yX0_drawn ∈ mTbl := mTbl_of 1043 (by decide +kernel) rfl
theorem ml_X1_26 : Cond.methodLink RX1 26 yX2_price ∈ mTbl := mTbl_of 851 (by decide +kernel) rfl
theorem ml_X1_29 : Cond.methodLink RX1 29 yX1_searchOffBalance ∈ mTbl := mTbl_of 852 (by decide +kernel) rfl
theorem ml_X1_48 : Cond.methodLink RX1 48 yX1_cappedBy ∈ mTbl := mTbl_of 862 (by decide +kernel) rfl
theorem ml_X1_63 : Cond.methodLink RX1 63 yX1_leeway ∈ mTbl := mTbl_of 866 (by decide +kernel) rfl
theorem ml_X1_67 : Cond.methodLink RX1 67 yX1_scaled ∈ mTbl := mTbl_of 871 (by decide +kernel) rfl
theorem ml_X1_82 : Cond.methodLink RX1 82 yX0_sumOf ∈ mTbl := mTbl_of 856 (by decide +kernel) rfl
theorem ml_X1_87 : Cond.methodLink RX1 87 yX1_sumBy ∈ mTbl := mTbl_of 858 (by decide +kernel) rfl
theorem ml_X1_90 : Cond.methodLink RX1 90 yX1_changeOf ∈ mTbl := mTbl_of 928 (by decide +kernel) rfl
theorem ml_X2_52 : Cond.methodLink RX2 52 yX2_behindFactors ∈ mTbl := mTbl_of 641 (by decide +kernel) rfl
theorem ml_X2_64 : Cond.methodLink RX2 64 yX0_hasRisk ∈ mTbl := mTbl_of 846 (by decide +kernel) rfl
theorem ml_X2_74 : Cond.methodLink RX2 74 yX2_premiumFor ∈ mTbl := mTbl_of 637 (by decide +kernel) rfl
theorem ml_X2_81 : Cond.methodLink RX2 81 yX2_price ∈ mTbl := mTbl_of 633 (by decide +kernel) rfl
theorem ml_X2_84 : Cond.methodLink RX2 84 yX2_gather ∈ mTbl := mTbl_of 647 (by decide +kernel) rfl
theorem ml_X2_98 : Cond.methodLink RX2 98 yX0_isJoined ∈ mTbl := mTbl_of 656 (by decide +kernel) rfl
theorem ml_X2_102 : Cond.methodLink RX2 102 yX2_addToLower ∈ mTbl := mTbl_of 657 (by decide +kernel) rfl
theorem ml_X2_111 : Cond.methodLink RX2 111 yX2_differsBy ∈ mTbl := mTbl_of 706 (by decide +kernel) rfl
theorem ml_X2_124 : Cond.methodLink RX2 124 yX0_startsClass ∈ mTbl := mTbl_of 661 (by decide +kernel) rfl
theorem ml_X2_127 : Cond.methodLink RX2 127 yX2_balances ∈ mTbl := mTbl_of 702 (by decide +kernel) rfl
theorem ml_X2_133 : Cond.methodLink RX2 133 yX2_isOff ∈ mTbl := mTbl_of 698 (by decide +kernel) rfl
theorem ml_X2_136 : Cond.methodLink RX2 136 yX2_isFilledClass ∈ mTbl := mTbl_of 893 (by decide +kernel) rfl
theorem ml_X2_139 : Cond.methodLink RX2 139 yX2_measure ∈ mTbl := mTbl_of 738 (by decide +kernel) rfl
theorem ml_X2_142 : Cond.methodLink RX2 142 yX2_turned ∈ mTbl := mTbl_of 666 (by decide +kernel) rfl
theorem ml_X2_152 : Cond.methodLink RX2 152 yJ9_floorDiv_f86c9 ∈ mTbl := mTbl_of 679 (by decide +kernel) rfl
theorem ml_X2_156 : Cond.methodLink RX2 156 yX2_turnOnce ∈ mTbl := mTbl_of 693 (by decide +kernel) rfl
theorem ml_X2_160 : Cond.methodLink RX2 160 yX2_countUnbalanced ∈ mTbl := mTbl_of 910 (by decide +kernel) rfl
theorem ml_X2_164 : Cond.methodLink RX2 164 yX2_playRounds ∈ mTbl := mTbl_of 911 (by decide +kernel) rfl
theorem ml_X2_167 : Cond.methodLink RX2 167 yX2_sumPaid ∈ mTbl := mTbl_of 721 (by decide +kernel) rfl
theorem ml_X2_171 : Cond.methodLink RX2 171 yX0_sumOf ∈ mTbl := mTbl_of 725 (by decide +kernel) rfl
theorem ml_X2_176 : Cond.methodLink RX2 176 yX2_widestClass ∈ mTbl := mTbl_of 742 (by decide +kernel) rfl
theorem ml_X2_179 : Cond.methodLink RX2 179 yX2_divideRelativities ∈ mTbl := mTbl_of 746 (by decide +kernel) rfl
theorem ml_X3_44 : Cond.methodLink RX3 44 yX3_hasFactor ∈ mTbl := mTbl_of 564 (by decide +kernel) rfl
theorem ml_X4_32 : Cond.methodLink RX4 32 yX3_clear ∈ mTbl := mTbl_of 428 (by decide +kernel) rfl
theorem ml_X4_35 : Cond.methodLink RX4 35 yX0_clear ∈ mTbl := mTbl_of 429 (by decide +kernel) rfl
theorem ml_X4_49 : Cond.methodLink RX4 49 yX5_scan ∈ mTbl := mTbl_of 430 (by decide +kernel) rfl
theorem ml_X4_56 : Cond.methodLink RX4 56 yX4_advance ∈ mTbl := mTbl_of 514 (by decide +kernel) rfl
theorem ml_X4_65 : Cond.methodLink RX4 65 yX4_readLine ∈ mTbl := mTbl_of 518 (by decide +kernel) rfl
theorem ml_X4_84 : Cond.methodLink RX4 84 yX4_fail ∈ mTbl := mTbl_of 522 (by decide +kernel) rfl
theorem ml_X4_88 : Cond.methodLink RX4 88 yX4_readFactor ∈ mTbl := mTbl_of 526 (by decide +kernel) rfl
theorem ml_X4_91 : Cond.methodLink RX4 91 yX4_readBand ∈ mTbl := mTbl_of 543 (by decide +kernel) rfl
theorem ml_X4_94 : Cond.methodLink RX4 94 yX4_readJoin ∈ mTbl := mTbl_of 556 (by decide +kernel) rfl
theorem ml_X4_97 : Cond.methodLink RX4 97 yX4_readRisk ∈ mTbl := mTbl_of 576 (by decide +kernel) rfl
theorem ml_X4_100 : Cond.methodLink RX4 100 yX4_readSetting ∈ mTbl := mTbl_of 587 (by decide +kernel) rfl
theorem ml_X4_103 : Cond.methodLink RX4 103 yX4_takeStop ∈ mTbl := mTbl_of 591 (by decide +kernel) rfl
theorem ml_X4_106 : Cond.methodLink RX4 106 yX3_find ∈ mTbl := mTbl_of 530 (by decide +kernel) rfl
theorem ml_X4_116 : Cond.methodLink RX4 116 yX4_takeNumber ∈ mTbl := mTbl_of 534 (by decide +kernel) rfl
theorem ml_X4_120 : Cond.methodLink RX4 120 yX3_addFactor ∈ mTbl := mTbl_of 538 (by decide +kernel) rfl
theorem ml_X4_124 : Cond.methodLink RX4 124 yX4_factorHere ∈ mTbl := mTbl_of 547 (by decide +kernel) rfl
theorem ml_X4_128 : Cond.methodLink RX4 128 yX3_hasFactor ∈ mTbl := mTbl_of 551 (by decide +kernel) rfl
theorem ml_X4_139 : Cond.methodLink RX4 139 yX3_hasLevel ∈ mTbl := mTbl_of 560 (by decide +kernel) rfl
theorem ml_X4_143 : Cond.methodLink RX4 143 yX0_isJoined ∈ mTbl := mTbl_of 565 (by decide +kernel) rfl
theorem ml_X4_149 : Cond.methodLink RX4 149 yX0_mark ∈ mTbl := mTbl_of 572 (by decide +kernel) rfl
theorem ml_X4_155 : Cond.methodLink RX4 155 yX0_addRisk ∈ mTbl := mTbl_of 583 (by decide +kernel) rfl
theorem ml_X5_37 : Cond.methodLink RX5 37 yX5_isLetter ∈ mTbl := mTbl_of 440 (by decide +kernel) rfl
theorem ml_X5_41 : Cond.methodLink RX5 41 yX5_scanWord ∈ mTbl := mTbl_of 443 (by decide +kernel) rfl
theorem ml_X5_45 : Cond.methodLink RX5 45 yX5_isDigit ∈ mTbl := mTbl_of 506 (by decide +kernel) rfl
theorem ml_X5_48 : Cond.methodLink RX5 48 yX5_scanNumber ∈ mTbl := mTbl_of 509 (by decide +kernel) rfl
theorem ml_X5_51 : Cond.methodLink RX5 51 yX5_put ∈ mTbl := mTbl_of 502 (by decide +kernel) rfl
theorem ml_X5_55 : Cond.methodLink RX5 55 yX5_letterBits ∈ mTbl := mTbl_of 447 (by decide +kernel) rfl
theorem ml_X5_58 : Cond.methodLink RX5 58 yX5_wordNumber ∈ mTbl := mTbl_of 450 (by decide +kernel) rfl
theorem ml_X7_60 : Cond.methodLink RX7 60 yX7_freshText ∈ mTbl := mTbl_of 1166 (by decide +kernel) rfl
theorem ml_X7_63 : Cond.methodLink RX7 63 yX7_takeText ∈ mTbl := mTbl_of 1174 (by decide +kernel) rfl
theorem ml_X7_66 : Cond.methodLink RX7 66 yX7_begins ∈ mTbl := mTbl_of 1182 (by decide +kernel) rfl
theorem ml_X7_81 : Cond.methodLink RX7 81 yX7_here ∈ mTbl := mTbl_of 1302 (by decide +kernel) rfl
theorem ml_X7_91 : Cond.methodLink RX7 91 yX7_isSmall ∈ mTbl := mTbl_of 1306 (by decide +kernel) rfl
theorem ml_X7_95 : Cond.methodLink RX7 95 yX7_wordHere ∈ mTbl := mTbl_of 1309 (by decide +kernel) rfl
theorem ml_X7_101 : Cond.methodLink RX7 101 yX7_nameHere ∈ mTbl := mTbl_of 1316 (by decide +kernel) rfl
theorem ml_X7_104 : Cond.methodLink RX7 104 yX7_isDigit ∈ mTbl := mTbl_of 1320 (by decide +kernel) rfl
theorem ml_X7_125 : Cond.methodLink RX7 125 yX7_token ∈ mTbl := mTbl_of 1298 (by decide +kernel) rfl
theorem ml_X7_128 : Cond.methodLink RX7 128 yX7_wrong ∈ mTbl := mTbl_of 1328 (by decide +kernel) rfl
theorem ml_X7_132 : Cond.methodLink RX7 132 yX7_goOn ∈ mTbl := mTbl_of 1336 (by decide +kernel) rfl
theorem ml_X7_135 : Cond.methodLink RX7 135 yX7_numeral ∈ mTbl := mTbl_of 1340 (by decide +kernel) rfl
theorem ml_X7_139 : Cond.methodLink RX7 139 yX7_reads ∈ mTbl := mTbl_of 1170 (by decide +kernel) rfl
theorem ml_X7_143 : Cond.methodLink RX7 143 yX7_reading ∈ mTbl := mTbl_of 1178 (by decide +kernel) rfl
theorem ml_X7_147 : Cond.methodLink RX7 147 yX7_namedAt ∈ mTbl := mTbl_of 1352 (by decide +kernel) rfl
theorem ml_X7_152 : Cond.methodLink RX7 152 yX7_factorHere ∈ mTbl := mTbl_of 1361 (by decide +kernel) rfl
theorem ml_X7_155 : Cond.methodLink RX7 155 yX7_readOnce ∈ mTbl := mTbl_of 1332 (by decide +kernel) rfl
theorem ml_X7_159 : Cond.methodLink RX7 159 yX7_readFleet ∈ mTbl := mTbl_of 1344 (by decide +kernel) rfl
theorem ml_X7_162 : Cond.methodLink RX7 162 yX7_readFactor ∈ mTbl := mTbl_of 1348 (by decide +kernel) rfl
theorem ml_X7_165 : Cond.methodLink RX7 165 yX7_readBand ∈ mTbl := mTbl_of 1357 (by decide +kernel) rfl
theorem ml_X7_168 : Cond.methodLink RX7 168 yX7_readJoin ∈ mTbl := mTbl_of 1365 (by decide +kernel) rfl
theorem ml_X7_171 : Cond.methodLink RX7 171 yX7_readRisk ∈ mTbl := mTbl_of 1369 (by decide +kernel) rfl
theorem ml_X7_177 : Cond.methodLink RX7 177 yX7_readLine ∈ mTbl := mTbl_of 1324 (by decide +kernel) rfl
theorem ml_X7_180 : Cond.methodLink RX7 180 yX7_readText ∈ mTbl := mTbl_of 1294 (by decide +kernel) rfl
theorem ml_X7_193 : Cond.methodLink RX7 193 yX7_factors ∈ mTbl := mTbl_of 1186 (by decide +kernel) rfl
theorem ml_X7_196 : Cond.methodLink RX7 196 yX7_copies ∈ mTbl := mTbl_of 1385 (by decide +kernel) rfl
theorem ml_X7_200 : Cond.methodLink RX7 200 yX7_many ∈ mTbl := mTbl_of 1392 (by decide +kernel) rfl
theorem ml_X7_203 : Cond.methodLink RX7 203 yX7_isFactor ∈ mTbl := mTbl_of 1404 (by decide +kernel) rfl
theorem ml_X7_206 : Cond.methodLink RX7 206 yX7_isJoined ∈ mTbl := mTbl_of 1420 (by decide +kernel) rfl
theorem ml_X7_210 : Cond.methodLink RX7 210 yX7_firstOf ∈ mTbl := mTbl_of 1416 (by decide +kernel) rfl
theorem ml_X7_213 : Cond.methodLink RX7 213 yX7_lastOf ∈ mTbl := mTbl_of 1469 (by decide +kernel) rfl
theorem ml_X7_216 : Cond.methodLink RX7 216 yX7_premiumBehind ∈ mTbl := mTbl_of 1444 (by decide +kernel) rfl
theorem ml_X7_222 : Cond.methodLink RX7 222 yX7_relativityOf ∈ mTbl := mTbl_of 1448 (by decide +kernel) rfl
theorem ml_X7_227 : Cond.methodLink RX7 227 yX7_premiumBy ∈ mTbl := mTbl_of 1440 (by decide +kernel) rfl
theorem ml_X7_231 : Cond.methodLink RX7 231 yX7_isOf ∈ mTbl := mTbl_of 1428 (by decide +kernel) rfl
theorem ml_X7_235 : Cond.methodLink RX7 235 yX7_premiumOf ∈ mTbl := mTbl_of 1436 (by decide +kernel) rfl
theorem ml_X7_239 : Cond.methodLink RX7 239 yX7_risksOf ∈ mTbl := mTbl_of 1424 (by decide +kernel) rfl
theorem ml_X7_242 : Cond.methodLink RX7 242 yX7_sumOf ∈ mTbl := mTbl_of 1454 (by decide +kernel) rfl
theorem ml_X7_245 : Cond.methodLink RX7 245 yX7_premiumsOf ∈ mTbl := mTbl_of 1432 (by decide +kernel) rfl
theorem ml_X7_248 : Cond.methodLink RX7 248 yX7_without ∈ mTbl := mTbl_of 1489 (by decide +kernel) rfl
theorem ml_X7_252 : Cond.methodLink RX7 252 yX7_balances ∈ mTbl := mTbl_of 1485 (by decide +kernel) rfl
theorem ml_X7_255 : Cond.methodLink RX7 255 yX7_within ∈ mTbl := mTbl_of 1458 (by decide +kernel) rfl
theorem ml_X7_259 : Cond.methodLink RX7 259 yX7_trusted ∈ mTbl := mTbl_of 1461 (by decide +kernel) rfl
theorem ml_X7_263 : Cond.methodLink RX7 263 yX7_relates ∈ mTbl := mTbl_of 1465 (by decide +kernel) rfl
theorem ml_X7_266 : Cond.methodLink RX7 266 yX7_turns ∈ mTbl := mTbl_of 1412 (by decide +kernel) rfl
theorem ml_X7_269 : Cond.methodLink RX7 269 yX7_paid ∈ mTbl := mTbl_of 1500 (by decide +kernel) rfl
theorem ml_X7_273 : Cond.methodLink RX7 273 yX7_allOf ∈ mTbl := mTbl_of 1504 (by decide +kernel) rfl
theorem ml_X7_278 : Cond.methodLink RX7 278 yX7_remembers ∈ mTbl := mTbl_of 1408 (by decide +kernel) rfl
theorem ml_X7_281 : Cond.methodLink RX7 281 yX7_rounds ∈ mTbl := mTbl_of 1477 (by decide +kernel) rfl
theorem ml_X7_284 : Cond.methodLink RX7 284 yX7_unbalancedNow ∈ mTbl := mTbl_of 1481 (by decide +kernel) rfl
theorem ml_X7_287 : Cond.methodLink RX7 287 yX7_rebases ∈ mTbl := mTbl_of 1496 (by decide +kernel) rfl
theorem ml_X7_290 : Cond.methodLink RX7 290 yX7_levels ∈ mTbl := mTbl_of 1513 (by decide +kernel) rfl
theorem ml_X7_292 : Cond.methodLink RX7 292 yX7_isLevel ∈ mTbl := mTbl_of 1521 (by decide +kernel) rfl
theorem ml_X7_295 : Cond.methodLink RX7 295 yX7_isRisk ∈ mTbl := mTbl_of 1529 (by decide +kernel) rfl
theorem ml_X7_298 : Cond.methodLink RX7 298 yX7_laysLevels ∈ mTbl := mTbl_of 1537 (by decide +kernel) rfl
theorem ml_X7_301 : Cond.methodLink RX7 301 yX7_goes ∈ mTbl := mTbl_of 1545 (by decide +kernel) rfl
theorem ml_X7_304 : Cond.methodLink RX7 304 yX7_joins ∈ mTbl := mTbl_of 1553 (by decide +kernel) rfl
theorem ml_X7_309 : Cond.methodLink RX7 309 yX7_classesOf ∈ mTbl := mTbl_of 1573 (by decide +kernel) rfl
theorem ml_X7_312 : Cond.methodLink RX7 312 yX7_farthestOff ∈ mTbl := mTbl_of 1577 (by decide +kernel) rfl
theorem ml_X7_319 : Cond.methodLink RX7 319 yX7_rawBy ∈ mTbl := mTbl_of 1637 (by decide +kernel) rfl
theorem ml_X7_322 : Cond.methodLink RX7 322 yX7_lowerEnd ∈ mTbl := mTbl_of 1641 (by decide +kernel) rfl
theorem ml_X7_325 : Cond.methodLink RX7 325 yX7_upperEnd ∈ mTbl := mTbl_of 1645 (by decide +kernel) rfl
theorem ml_X7_328 : Cond.methodLink RX7 328 yX7_cappedBy ∈ mTbl := mTbl_of 1633 (by decide +kernel) rfl
theorem ml_X7_331 : Cond.methodLink RX7 331 yX7_allCapped ∈ mTbl := mTbl_of 1629 (by decide +kernel) rfl
theorem ml_X7_334 : Cond.methodLink RX7 334 yX7_offBalanceNow ∈ mTbl := mTbl_of 1625 (by decide +kernel) rfl
theorem ml_X7_339 : Cond.methodLink RX7 339 yX7_byNow ∈ mTbl := mTbl_of 1621 (by decide +kernel) rfl
theorem ml_X7_342 : Cond.methodLink RX7 342 yX7_changeBy ∈ mTbl := mTbl_of 1649 (by decide +kernel) rfl
theorem ml_X7_345 : Cond.methodLink RX7 345 yX7_misfit ∈ mTbl := mTbl_of 1657 (by decide +kernel) rfl
theorem ml_X7_348 : Cond.methodLink RX7 348 yX7_goesAside ∈ mTbl := mTbl_of 1685 (by decide +kernel) rfl
theorem ml_X7_351 : Cond.methodLink RX7 351 yX7_comesBack ∈ mTbl := mTbl_of 1689 (by decide +kernel) rfl
theorem ml_X7_354 : Cond.methodLink RX7 354 yX7_isRounds ∈ mTbl := mTbl_of 1701 (by decide +kernel) rfl
theorem ml_X7_357 : Cond.methodLink RX7 357 yX7_isMet ∈ mTbl := mTbl_of 1720 (by decide +kernel) rfl
theorem ml_X7_365 : Cond.methodLink RX7 365 yX7_draw ∈ mTbl := mTbl_of 1728 (by decide +kernel) rfl
theorem ml_X7_368 : Cond.methodLink RX7 368 yX7_classes ∈ mTbl := mTbl_of 1738 (by decide +kernel) rfl
def M0_clear : mMs := (yX0_clear, cX0_clear, 2, none, 0)
def M0_copyFrom : mMs := (yX0_copyFrom, cX0_copyFrom, 2, none, 1)
def M0_hasRisk : mMs := (yX0_hasRisk, cX0_hasRisk, 2, (some .boolean), 0)
def M0_addRisk : mMs := (yX0_addRisk, cX0_addRisk, 5, none, 0)
def M0_removeRisk : mMs := (yX0_removeRisk, cX0_removeRisk, 3, none, 1)
def M0_isJoined : mMs := (yX0_isJoined, cX0_isJoined, 3, (some .boolean), 1)
def M0_startsClass : mMs := (yX0_startsClass, cX0_startsClass, 3, (some .boolean), 2)
def M0_firstOf : mMs := (yX0_firstOf, cX0_firstOf, 5, (some .int), 2)
def M0_lastOf : mMs := (yX0_lastOf, cX0_lastOf, 5, (some .int), 2)
def M0_setClass : mMs := (yX0_setClass, cX0_setClass, 6, none, 3)
def M0_setAll : mMs := (yX0_setAll, cX0_setAll, 4, none, 1)
def M0_joinToNext : mMs := (yX0_joinToNext, cX0_joinToNext, 3, none, 4)
def M0_mark : mMs := (yX0_mark, cX0_mark, 3, none, 1)
def M0_part : mMs := (yX0_part, cX0_part, 3, none, 1)
def M0_sumOf : mMs := (yX0_sumOf, cX0_sumOf, 5, (some .long), 0)
def M0_countFleets : mMs := (yX0_countFleets, cX0_countFleets, 3, (some .int), 0)
def M0_countKinds : mMs := (yX0_countKinds, cX0_countKinds, 3, (some .int), 1)
def M0_isFirstOfKind : mMs := (yX0_isFirstOfKind, cX0_isFirstOfKind, 3, (some .boolean), 0)
def M0_drawClaims : mMs := (yX0_drawClaims, cX0_drawClaims, 8, none, 1)
def M0_numberBehind : mMs := (yX0_numberBehind, cX0_numberBehind, 2, (some .long), 0)
def M0_drawn : mMs := (yX0_drawn, cX0_drawn, 3, (some .int), 0)
def M1_settle : mMs := (yX1_settle, cX1_settle, 2, none, 4)
def M1_scaled : mMs := (yX1_scaled, cX1_scaled, 3, (some .long), 0)
def M1_leeway : mMs := (yX1_leeway, cX1_leeway, 3, (some .long), 0)
def M1_cappedBy : mMs := (yX1_cappedBy, cX1_cappedBy, 8, (some .long), 1)
def M1_sumBy : mMs := (yX1_sumBy, cX1_sumBy, 6, (some .long), 2)
def M1_searchOffBalance : mMs := (yX1_searchOffBalance, cX1_searchOffBalance, 7, (some .int), 3)
def M1_searchCap : mMs := (yX1_searchCap, cX1_searchCap, 4, (some .int), 3)
def M1_sumCapped : mMs := (yX1_sumCapped, cX1_sumCapped, 4, (some .long), 0)
def M1_changeOf : mMs := (yX1_changeOf, cX1_changeOf, 2, (some .long), 0)
def M1_isChanged : mMs := (yX1_isChanged, cX1_isChanged, 3, (some .boolean), 1)
def M1_rankOf : mMs := (yX1_rankOf, cX1_rankOf, 6, (some .int), 1)
def M2_behindFactors : mMs := (yX2_behindFactors, cX2_behindFactors, 8, (some .long), 0)
def M2_premiumFor : mMs := (yX2_premiumFor, cX2_premiumFor, 5, (some .long), 1)
def M2_premiumOf : mMs := (yX2_premiumOf, cX2_premiumOf, 2, (some .long), 2)
def M2_price : mMs := (yX2_price, cX2_price, 2, none, 2)
def M2_sumPaid : mMs := (yX2_sumPaid, cX2_sumPaid, 4, (some .long), 3)
def M2_measure : mMs := (yX2_measure, cX2_measure, 2, none, 3)
def M2_gather : mMs := (yX2_gather, cX2_gather, 4, none, 2)
def M2_addToLower : mMs := (yX2_addToLower, cX2_addToLower, 2, none, 0)
def M2_differsBy : mMs := (yX2_differsBy, cX2_differsBy, 2, (some .long), 1)
def M2_balances : mMs := (yX2_balances, cX2_balances, 5, (some .boolean), 2)
def M2_isOff : mMs := (yX2_isOff, cX2_isOff, 3, (some .boolean), 3)
def M2_isFilledClass : mMs := (yX2_isFilledClass, cX2_isFilledClass, 3, (some .boolean), 3)
def M2_countUnbalanced : mMs := (yX2_countUnbalanced, cX2_countUnbalanced, 4, (some .int), 4)
def M2_sumMisfit : mMs := (yX2_sumMisfit, cX2_sumMisfit, 5, (some .long), 4)
def M2_worstSlot : mMs := (yX2_worstSlot, cX2_worstSlot, 7, (some .int), 4)
def M2_farthestOff : mMs := (yX2_farthestOff, cX2_farthestOff, 7, (some .int), 4)
def M2_countClasses : mMs := (yX2_countClasses, cX2_countClasses, 4, (some .int), 3)
def M2_countAllClasses : mMs := (yX2_countAllClasses, cX2_countAllClasses, 5, (some .int), 4)
def M2_countAt : mMs := (yX2_countAt, cX2_countAt, 5, (some .int), 3)
def M2_turnOnce : mMs := (yX2_turnOnce, cX2_turnOnce, 6, (some .int), 3)
def M2_turned : mMs := (yX2_turned, cX2_turned, 9, (some .int), 2)
def M2_playRounds : mMs := (yX2_playRounds, cX2_playRounds, 6, (some .boolean), 4)
def M2_roundsTillBalance : mMs := (yX2_roundsTillBalance, cX2_roundsTillBalance, 4, (some .int), 5)
def M2_rebaseBook : mMs := (yX2_rebaseBook, cX2_rebaseBook, 3, none, 4)
def M2_levelBook : mMs := (yX2_levelBook, cX2_levelBook, 3, none, 4)
def M2_widestClass : mMs := (yX2_widestClass, cX2_widestClass, 5, (some .int), 3)
def M2_divideRelativities : mMs := (yX2_divideRelativities, cX2_divideRelativities, 7, none, 2)
def M3_clear : mMs := (yX3_clear, cX3_clear, 1, none, 0)
def M3_copyFrom : mMs := (yX3_copyFrom, cX3_copyFrom, 2, none, 1)
def M3_addFactor : mMs := (yX3_addFactor, cX3_addFactor, 3, none, 0)
def M3_find : mMs := (yX3_find, cX3_find, 3, (some .int), 0)
def M3_hasFactor : mMs := (yX3_hasFactor, cX3_hasFactor, 2, (some .boolean), 0)
def M3_hasLevel : mMs := (yX3_hasLevel, cX3_hasLevel, 3, (some .boolean), 1)
def M3_hasLevels : mMs := (yX3_hasLevels, cX3_hasLevels, 3, (some .boolean), 2)
def M3_countKinds : mMs := (yX3_countKinds, cX3_countKinds, 3, (some .int), 0)
def M4_readText : mMs := (yX4_readText, cX4_readText, 5, (some .int), 7)
def M4_advance : mMs := (yX4_advance, cX4_advance, 1, none, 0)
def M4_fail : mMs := (yX4_fail, cX4_fail, 2, none, 0)
def M4_readLine : mMs := (yX4_readLine, cX4_readLine, 1, none, 3)
def M4_takeStop : mMs := (yX4_takeStop, cX4_takeStop, 1, none, 1)
def M4_takeNumber : mMs := (yX4_takeNumber, cX4_takeNumber, 4, (some .int), 1)
def M4_factorHere : mMs := (yX4_factorHere, cX4_factorHere, 2, (some .int), 1)
def M4_readFactor : mMs := (yX4_readFactor, cX4_readFactor, 2, none, 2)
def M4_readBand : mMs := (yX4_readBand, cX4_readBand, 2, none, 2)
def M4_readJoin : mMs := (yX4_readJoin, cX4_readJoin, 3, none, 2)
def M4_readRisk : mMs := (yX4_readRisk, cX4_readRisk, 6, none, 2)
def M4_readSetting : mMs := (yX4_readSetting, cX4_readSetting, 2, none, 2)
def M5_scan : mMs := (yX5_scan, cX5_scan, 6, none, 6)
def M5_put : mMs := (yX5_put, cX5_put, 4, none, 0)
def M5_scanWord : mMs := (yX5_scanWord, cX5_scanWord, 6, none, 5)
def M5_scanNumber : mMs := (yX5_scanNumber, cX5_scanNumber, 6, none, 1)
def M5_isLetter : mMs := (yX5_isLetter, cX5_isLetter, 1, (some .boolean), 0)
def M5_isDigit : mMs := (yX5_isDigit, cX5_isDigit, 1, (some .boolean), 0)
def M5_letterBits : mMs := (yX5_letterBits, cX5_letterBits, 3, (some .int), 0)
def M5_wordNumber : mMs := (yX5_wordNumber, cX5_wordNumber, 6, (some .int), 4)
def M6_feed : mMs := (yX6_feed, cX6_feed, 6, (some .int), 1)
def M6_appendBytes : mMs := (yX6_appendBytes, cX6_appendBytes, 3, none, 0)
def M6_text : mMs := (yX6_text, cX6_text, 3, (some .int), 8)
def M6_fault : mMs := (yX6_fault, cX6_fault, 2, (some .int), 0)
def M6_named : mMs := (yX6_named, cX6_named, 2, (some .int), 1)
def M6_turn : mMs := (yX6_turn, cX6_turn, 2, (some .int), 4)
def M6_round : mMs := (yX6_round, cX6_round, 2, (some .int), 5)
def M6_rebase : mMs := (yX6_rebase, cX6_rebase, 1, (some .int), 5)
def M6_level : mMs := (yX6_level, cX6_level, 1, (some .int), 5)
def M6_relativity : mMs := (yX6_relativity, cX6_relativity, 5, (some .int), 4)
def M6_claims : mMs := (yX6_claims, cX6_claims, 4, (some .int), 3)
def M6_risk : mMs := (yX6_risk, cX6_risk, 5, (some .int), 3)
def M6_drop : mMs := (yX6_drop, cX6_drop, 2, (some .int), 3)
def M6_join : mMs := (yX6_join, cX6_join, 3, (some .int), 5)
def M6_cap : mMs := (yX6_cap, cX6_cap, 3, (some .int), 3)
def M6_trust : mMs := (yX6_trust, cX6_trust, 3, (some .int), 3)
def M6_fleet : mMs := (yX6_fleet, cX6_fleet, 3, (some .int), 3)
def M6_margin : mMs := (yX6_margin, cX6_margin, 6, (some .long), 4)
def M6_of : mMs := (yX6_of, cX6_of, 3, (some .long), 5)
def M6_all : mMs := (yX6_all, cX6_all, 2, (some .long), 5)
def M6_fitted : mMs := (yX6_fitted, cX6_fitted, 2, (some .int), 6)
def M6_unbalanced : mMs := (yX6_unbalanced, cX6_unbalanced, 1, (some .int), 5)
def M6_offBalance : mMs := (yX6_offBalance, cX6_offBalance, 1, (some .int), 5)
def M6_changes : mMs := (yX6_changes, cX6_changes, 4, (some .int), 5)
def M6_share : mMs := (yX6_share, cX6_share, 5, (some .int), 4)
def M6_atEnd : mMs := (yX6_atEnd, cX6_atEnd, 3, (some .int), 4)
def M6_mostOff : mMs := (yX6_mostOff, cX6_mostOff, 8, (some .int), 4)
def M6_step : mMs := (yX6_step, cX6_step, 3, (some .long), 1)
def M6_swing : mMs := (yX6_swing, cX6_swing, 11, (some .int), 2)
def M6_ratio : mMs := (yX6_ratio, cX6_ratio, 6, (some .long), 4)
def M6_worst : mMs := (yX6_worst, cX6_worst, 1, (some .int), 5)
def M6_hardest : mMs := (yX6_hardest, cX6_hardest, 8, (some .int), 5)
def M6_ranked : mMs := (yX6_ranked, cX6_ranked, 3, (some .int), 5)
def M6_leastCap : mMs := (yX6_leastCap, cX6_leastCap, 1, (some .int), 4)
def M6_withoutFactor : mMs := (yX6_withoutFactor, cX6_withoutFactor, 3, (some .long), 5)
def M6_bestJoin : mMs := (yX6_bestJoin, cX6_bestJoin, 9, (some .int), 6)
def M6_misfitIfJoined : mMs := (yX6_misfitIfJoined, cX6_misfitIfJoined, 4, (some .long), 5)
def M6_withoutRisk : mMs := (yX6_withoutRisk, cX6_withoutRisk, 3, (some .int), 5)
def M6_quote : mMs := (yX6_quote, cX6_quote, 3, (some .long), 3)
def M6_kinds : mMs := (yX6_kinds, cX6_kinds, 2, (some .int), 2)
def M6_chance : mMs := (yX6_chance, cX6_chance, 6, (some .long), 5)
def M6_undo : mMs := (yX6_undo, cX6_undo, 1, (some .int), 2)
def M6_keep : mMs := (yX6_keep, cX6_keep, 1, (some .int), 2)
def M6_back : mMs := (yX6_back, cX6_back, 1, (some .int), 2)
def M6_count : mMs := (yX6_count, cX6_count, 2, (some .int), 5)
def M6_remember : mMs := (yX6_remember, cX6_remember, 1, none, 2)
def M6_historyIndex : mMs := (yX6_historyIndex, cX6_historyIndex, 2, (some .int), 0)
def M6_within : mMs := (yX6_within, cX6_within, 3, (some .boolean), 0)
def M6_clamp : mMs := (yX6_clamp, cX6_clamp, 4, (some .int), 1)
def M6_slotShift : mMs := (yX6_slotShift, cX6_slotShift, 1, (some .int), 0)
def M6_slot : mMs := (yX6_slot, cX6_slot, 2, (some .int), 0)
def M6_levelIn : mMs := (yX6_levelIn, cX6_levelIn, 2, (some .int), 1)
def M7_thrown : mMs := (yX7_thrown, cX7_thrown, 1, (some .int), 0)
def M7_feed : mMs := (yX7_feed, cX7_feed, 8, (some .int), 0)
def M7_here : mMs := (yX7_here, cX7_here, 1, (some .int), 0)
def M7_isSmall : mMs := (yX7_isSmall, cX7_isSmall, 1, (some .boolean), 0)
def M7_isDigit : mMs := (yX7_isDigit, cX7_isDigit, 1, (some .boolean), 0)
def M7_token : mMs := (yX7_token, cX7_token, 2, none, 5)
def M7_wordHere : mMs := (yX7_wordHere, cX7_wordHere, 4, (some .int), 4)
def M7_nameHere : mMs := (yX7_nameHere, cX7_nameHere, 2, none, 0)
def M7_wrong : mMs := (yX7_wrong, cX7_wrong, 2, none, 0)
def M7_goOn : mMs := (yX7_goOn, cX7_goOn, 1, none, 6)
def M7_numeral : mMs := (yX7_numeral, cX7_numeral, 4, (some .int), 7)
def M7_reading : mMs := (yX7_reading, cX7_reading, 2, (some .int), 0)
def M7_reads : mMs := (yX7_reads, cX7_reads, 3, none, 0)
def M7_readOnce : mMs := (yX7_readOnce, cX7_readOnce, 4, none, 8)
def M7_namedAt : mMs := (yX7_namedAt, cX7_namedAt, 5, (some .int), 0)
def M7_readFactor : mMs := (yX7_readFactor, cX7_readFactor, 2, none, 8)
def M7_factorHere : mMs := (yX7_factorHere, cX7_factorHere, 2, (some .int), 7)
def M7_readBand : mMs := (yX7_readBand, cX7_readBand, 4, none, 8)
def M7_readJoin : mMs := (yX7_readJoin, cX7_readJoin, 2, none, 8)
def M7_readRisk : mMs := (yX7_readRisk, cX7_readRisk, 6, none, 8)
def M7_readFleet : mMs := (yX7_readFleet, cX7_readFleet, 1, none, 9)
def M7_readLine : mMs := (yX7_readLine, cX7_readLine, 1, none, 10)
def M7_freshText : mMs := (yX7_freshText, cX7_freshText, 2, none, 1)
def M7_readText : mMs := (yX7_readText, cX7_readText, 2, none, 11)
def M7_takeText : mMs := (yX7_takeText, cX7_takeText, 2, none, 1)
def M7_text : mMs := (yX7_text, cX7_text, 2, (some .int), 12)
def M7_fault : mMs := (yX7_fault, cX7_fault, 2, (some .int), 0)
def M7_factors : mMs := (yX7_factors, cX7_factors, 1, (some .int), 0)
def M7_named : mMs := (yX7_named, cX7_named, 2, (some .int), 1)
def M7_copies : mMs := (yX7_copies, cX7_copies, 5, none, 0)
def M7_begins : mMs := (yX7_begins, cX7_begins, 3, none, 1)
def M7_remembers : mMs := (yX7_remembers, cX7_remembers, 2, none, 1)
def M7_undo : mMs := (yX7_undo, cX7_undo, 1, (some .int), 1)
def M7_keep : mMs := (yX7_keep, cX7_keep, 1, (some .int), 1)
def M7_back : mMs := (yX7_back, cX7_back, 1, (some .int), 1)
def M7_many : mMs := (yX7_many, cX7_many, 1, (some .int), 0)
def M7_isFactor : mMs := (yX7_isFactor, cX7_isFactor, 2, (some .boolean), 1)
def M7_isLevel : mMs := (yX7_isLevel, cX7_isLevel, 3, (some .boolean), 2)
def M7_isRisk : mMs := (yX7_isRisk, cX7_isRisk, 2, (some .boolean), 1)
def M7_isJoined : mMs := (yX7_isJoined, cX7_isJoined, 3, (some .boolean), 0)
def M7_firstOf : mMs := (yX7_firstOf, cX7_firstOf, 4, (some .int), 1)
def M7_lastOf : mMs := (yX7_lastOf, cX7_lastOf, 4, (some .int), 1)
def M7_relativityOf : mMs := (yX7_relativityOf, cX7_relativityOf, 3, (some .int), 0)
def M7_relates : mMs := (yX7_relates, cX7_relates, 5, none, 2)
def M7_within : mMs := (yX7_within, cX7_within, 6, (some .long), 0)
def M7_premiumBy : mMs := (yX7_premiumBy, cX7_premiumBy, 5, (some .long), 2)
def M7_premiumBehind : mMs := (yX7_premiumBehind, cX7_premiumBehind, 8, (some .long), 1)
def M7_premiumOf : mMs := (yX7_premiumOf, cX7_premiumOf, 2, (some .long), 3)
def M7_isOf : mMs := (yX7_isOf, cX7_isOf, 4, (some .boolean), 2)
def M7_risksOf : mMs := (yX7_risksOf, cX7_risksOf, 5, (some .int), 3)
def M7_sumOf : mMs := (yX7_sumOf, cX7_sumOf, 7, (some .long), 3)
def M7_premiumsOf : mMs := (yX7_premiumsOf, cX7_premiumsOf, 6, (some .long), 4)
def M7_without : mMs := (yX7_without, cX7_without, 2, (some .long), 0)
def M7_balances : mMs := (yX7_balances, cX7_balances, 8, (some .boolean), 5)
def M7_unbalancedNow : mMs := (yX7_unbalancedNow, cX7_unbalancedNow, 4, (some .int), 6)
def M7_misfit : mMs := (yX7_misfit, cX7_misfit, 5, (some .long), 5)
def M7_trusted : mMs := (yX7_trusted, cX7_trusted, 13, (some .int), 4)
def M7_turns : mMs := (yX7_turns, cX7_turns, 8, (some .int), 5)
def M7_rounds : mMs := (yX7_rounds, cX7_rounds, 5, none, 6)
def M7_paid : mMs := (yX7_paid, cX7_paid, 4, (some .long), 4)
def M7_allOf : mMs := (yX7_allOf, cX7_allOf, 5, (some .long), 1)
def M7_rebases : mMs := (yX7_rebases, cX7_rebases, 3, none, 5)
def M7_levels : mMs := (yX7_levels, cX7_levels, 5, none, 4)
def M7_turn : mMs := (yX7_turn, cX7_turn, 2, (some .int), 6)
def M7_round : mMs := (yX7_round, cX7_round, 2, (some .int), 7)
def M7_rebase : mMs := (yX7_rebase, cX7_rebase, 1, (some .int), 6)
def M7_level : mMs := (yX7_level, cX7_level, 1, (some .int), 5)
def M7_relativity : mMs := (yX7_relativity, cX7_relativity, 5, (some .int), 3)
def M7_claims : mMs := (yX7_claims, cX7_claims, 4, (some .int), 2)
def M7_laysLevels : mMs := (yX7_laysLevels, cX7_laysLevels, 5, (some .boolean), 1)
def M7_risk : mMs := (yX7_risk, cX7_risk, 7, (some .int), 2)
def M7_goes : mMs := (yX7_goes, cX7_goes, 3, none, 1)
def M7_drop : mMs := (yX7_drop, cX7_drop, 2, (some .int), 2)
def M7_joins : mMs := (yX7_joins, cX7_joins, 4, none, 3)
def M7_join : mMs := (yX7_join, cX7_join, 3, (some .int), 4)
def M7_cap : mMs := (yX7_cap, cX7_cap, 3, (some .int), 2)
def M7_trust : mMs := (yX7_trust, cX7_trust, 3, (some .int), 2)
def M7_fleet : mMs := (yX7_fleet, cX7_fleet, 5, (some .int), 2)
def M7_classesOf : mMs := (yX7_classesOf, cX7_classesOf, 4, (some .int), 2)
def M7_farthestOff : mMs := (yX7_farthestOff, cX7_farthestOff, 8, (some .int), 5)
def M7_factor : mMs := (yX7_factor, cX7_factor, 3, (some .int), 6)
def M7_margin : mMs := (yX7_margin, cX7_margin, 4, (some .long), 6)
def M7_step : mMs := (yX7_step, cX7_step, 3, (some .long), 2)
def M7_swing : mMs := (yX7_swing, cX7_swing, 12, (some .int), 4)
def M7_ratio : mMs := (yX7_ratio, cX7_ratio, 5, (some .long), 5)
def M7_share : mMs := (yX7_share, cX7_share, 5, (some .int), 5)
def M7_atEnd : mMs := (yX7_atEnd, cX7_atEnd, 5, (some .int), 2)
def M7_mostOff : mMs := (yX7_mostOff, cX7_mostOff, 6, (some .int), 5)
def M7_worst : mMs := (yX7_worst, cX7_worst, 8, (some .int), 6)
def M7_lowerEnd : mMs := (yX7_lowerEnd, cX7_lowerEnd, 4, (some .long), 0)
def M7_upperEnd : mMs := (yX7_upperEnd, cX7_upperEnd, 4, (some .long), 0)
def M7_rawBy : mMs := (yX7_rawBy, cX7_rawBy, 3, (some .long), 4)
def M7_cappedBy : mMs := (yX7_cappedBy, cX7_cappedBy, 3, (some .long), 5)
def M7_allCapped : mMs := (yX7_allCapped, cX7_allCapped, 5, (some .long), 6)
def M7_offBalanceNow : mMs := (yX7_offBalanceNow, cX7_offBalanceNow, 6, (some .int), 7)
def M7_byNow : mMs := (yX7_byNow, cX7_byNow, 2, (some .int), 8)
def M7_changeBy : mMs := (yX7_changeBy, cX7_changeBy, 3, (some .long), 6)
def M7_of : mMs := (yX7_of, cX7_of, 3, (some .long), 9)
def M7_all : mMs := (yX7_all, cX7_all, 2, (some .long), 9)
def M7_offBalance : mMs := (yX7_offBalance, cX7_offBalance, 1, (some .int), 8)
def M7_changes : mMs := (yX7_changes, cX7_changes, 6, (some .int), 9)
def M7_hardest : mMs := (yX7_hardest, cX7_hardest, 5, (some .int), 9)
def M7_ranked : mMs := (yX7_ranked, cX7_ranked, 8, (some .int), 9)
def M7_goesAside : mMs := (yX7_goesAside, cX7_goesAside, 1, none, 1)
def M7_comesBack : mMs := (yX7_comesBack, cX7_comesBack, 1, none, 1)
def M7_leastCap : mMs := (yX7_leastCap, cX7_leastCap, 6, (some .int), 7)
def M7_fitted : mMs := (yX7_fitted, cX7_fitted, 4, (some .int), 7)
def M7_unbalanced : mMs := (yX7_unbalanced, cX7_unbalanced, 1, (some .int), 7)
def M7_isRounds : mMs := (yX7_isRounds, cX7_isRounds, 1, (some .boolean), 0)
def M7_withoutFactor : mMs := (yX7_withoutFactor, cX7_withoutFactor, 5, (some .long), 7)
def M7_bestJoin : mMs := (yX7_bestJoin, cX7_bestJoin, 9, (some .int), 7)
def M7_withoutRisk : mMs := (yX7_withoutRisk, cX7_withoutRisk, 4, (some .int), 7)
def M7_quote : mMs := (yX7_quote, cX7_quote, 3, (some .long), 3)
def M7_isMet : mMs := (yX7_isMet, cX7_isMet, 6, (some .boolean), 1)
def M7_kinds : mMs := (yX7_kinds, cX7_kinds, 5, (some .int), 2)
def M7_draw : mMs := (yX7_draw, cX7_draw, 2, (some .int), 0)
def M7_chance : mMs := (yX7_chance, cX7_chance, 8, (some .long), 7)
def M7_classes : mMs := (yX7_classes, cX7_classes, 5, (some .int), 4)
def M7_count : mMs := (yX7_count, cX7_count, 2, (some .int), 5)
def MJ9_floorDiv_f86c9 : mMs := (yJ9_floorDiv_f86c9, cJ9_floorDiv_f86c9, 6, (some .long), 0)
theorem ki_X0 : Cond.initialized RX0 ∈ mTbl := mTbl_of 76 (by decide +kernel) rfl
theorem mv_0_clear : mMv M0_clear 1 0 := ⟨0, _, _, rfl, by decide, rfl, rfl, mTbl_of 159 (by decide +kernel) rfl, mTbl_of 160 (by decide +kernel) rfl, ki_X0, mTbl_of 161 (by decide +kernel) rfl, by decide +kernel, by decide⟩
theorem mv_0_copyFrom : mMv M0_copyFrom 1 1 := ⟨0, _, _, rfl, by decide, rfl, rfl, mTbl_of 603 (by decide +kernel) rfl, mTbl_of 604 (by decide +kernel) rfl, ki_X0, mTbl_of 605 (by decide +kernel) rfl, by decide +kernel, by decide⟩
theorem mv_0_hasRisk : mMv M0_hasRisk 1 1 := ⟨0, _, _, rfl, by decide, rfl, rfl, mTbl_of 773 (by decide +kernel) rfl, mTbl_of 774 (by decide +kernel) rfl, ki_X0, mTbl_of 775 (by decide +kernel) rfl, by decide +kernel, by decide⟩
theorem mv_0_addRisk : mMv M0_addRisk 1 4 := ⟨0, _, _, rfl, by decide, rfl, rfl, mTbl_of 584 (by decide +kernel) rfl, mTbl_of 585 (by decide +kernel) rfl, ki_X0, mTbl_of 586 (by decide +kernel) rfl, by decide +kernel, by decide⟩
theorem mv_0_removeRisk : mMv M0_removeRisk 1 1 := ⟨0, _, _, rfl, by decide, rfl, rfl, mTbl_of 793 (by decide +kernel) rfl, mTbl_of 794 (by decide +kernel) rfl, ki_X0, mTbl_of 795 (by decide +kernel) rfl, by decide +kernel, by decide⟩
theorem mv_0_isJoined : mMv M0_isJoined 1 2 := ⟨0, _, _, rfl, by decide, rfl, rfl, mTbl_of 566 (by decide +kernel) rfl, mTbl_of 567 (by decide +kernel) rfl, ki_X0, mTbl_of 568 (by decide +kernel) rfl, by decide +kernel, by decide⟩
theorem mv_0_startsClass : mMv M0_startsClass 1 2 := ⟨0, _, _, rfl, by decide, rfl, rfl, mTbl_of 662 (by decide +kernel) rfl, mTbl_of 663 (by decide +kernel) rfl, ki_X0, mTbl_of 664 (by decide +kernel) rfl, by decide +kernel, by decide⟩
theorem mv_0_firstOf : mMv M0_firstOf 1 2 := ⟨0, _, _, rfl, by decide, rfl, rfl, mTbl_of 765 (by decide +kernel) rfl, mTbl_of 766 (by decide +kernel) rfl, ki_X0, mTbl_of 767 (by decide +kernel) rfl, by decide +kernel, by decide⟩
theorem mv_0_lastOf : mMv M0_lastOf 1 2 := ⟨0, _, _, rfl, by decide, rfl, rfl, mTbl_of 761 (by decide +kernel) rfl, mTbl_of 762 (by decide +kernel) rfl, ki_X0, mTbl_of 763 (by decide +kernel) rfl, by decide +kernel, by decide⟩
theorem mv_0_setClass : mMv M0_setClass 1 3 := ⟨0, _, _, rfl, by decide, rfl, rfl, mTbl_of 757 (by decide +kernel) rfl, mTbl_of 758 (by decide +kernel) rfl, ki_X0, mTbl_of 759 (by decide +kernel) rfl, by decide +kernel, by decide⟩
theorem mv_0_setAll : mMv M0_setAll 1 2 := ⟨0, _, _, rfl, by decide, rfl, rfl, mTbl_of 994 (by decide +kernel) rfl, mTbl_of 995 (by decide +kernel) rfl, ki_X0, mTbl_of 996 (by decide +kernel) rfl, by decide +kernel, by decide⟩
theorem mv_0_joinToNext : mMv M0_joinToNext 1 2 := ⟨0, _, _, rfl, by decide, rfl, rfl, mTbl_of 807 (by decide +kernel) rfl, mTbl_of 808 (by decide +kernel) rfl, ki_X0, mTbl_of 809 (by decide +kernel) rfl, by decide +kernel, by decide⟩
theorem mv_0_mark : mMv M0_mark 1 2 := ⟨0, _, _, rfl, by decide, rfl, rfl, mTbl_of 573 (by decide +kernel) rfl, mTbl_of 574 (by decide +kernel) rfl, ki_X0, mTbl_of 575 (by decide +kernel) rfl, by decide +kernel, by decide⟩
theorem mv_0_part : mMv M0_part 1 2 := ⟨0, _, _, rfl, by decide, rfl, rfl, mTbl_of 803 (by decide +kernel) rfl, mTbl_of 804 (by decide +kernel) rfl, ki_X0, mTbl_of 805 (by decide +kernel) rfl, by decide +kernel, by decide⟩
theorem mv_0_sumOf : mMv M0_sumOf 1 1 := ⟨0, _, _, rfl, by decide, rfl, rfl, mTbl_of 726 (by decide +kernel) rfl, mTbl_of 727 (by decide +kernel) rfl, ki_X0, mTbl_of 728 (by decide +kernel) rfl, by decide +kernel, by decide⟩
theorem mv_0_countFleets : mMv M0_countFleets 1 0 := ⟨0, _, _, rfl, by decide, rfl, rfl, mTbl_of 825 (by decide +kernel) rfl, mTbl_of 826 (by decide +kernel) rfl, ki_X0, mTbl_of 827 (by decide +kernel) rfl, by decide +kernel, by decide⟩
theorem mv_0_countKinds : mMv M0_countKinds 1 0 := ⟨0, _, _, rfl, by decide, rfl, rfl, mTbl_of 1022 (by decide +kernel) rfl, mTbl_of 1023 (by decide +kernel) rfl, ki_X0, mTbl_of 1024 (by decide +kernel) rfl, by decide +kernel, by decide⟩
theorem mv_0_isFirstOfKind : mMv M0_isFirstOfKind 1 1 := ⟨0, _, _, rfl, by decide, rfl, rfl, mTbl_of 1026 (by decide +kernel) rfl, mTbl_of 1027 (by decide +kernel) rfl, ki_X0, mTbl_of 1028 (by decide +kernel) rfl, by decide +kernel, by decide⟩
theorem mv_0_drawClaims : mMv M0_drawClaims 1 3 := ⟨0, _, _, rfl, by decide, rfl, rfl, mTbl_of 1034 (by decide +kernel) rfl, mTbl_of 1035 (by decide +kernel) rfl, ki_X0, mTbl_of 1036 (by decide +kernel) rfl, by decide +kernel, by decide⟩
theorem mt_0_numberBehind : mMt M0_numberBehind 1 := ⟨mTbl_of 1038 (by decide +kernel) rfl, ki_X0, mTbl_of 1039 (by decide +kernel) rfl, by decide +kernel, by decide⟩
theorem mt_0_drawn : mMt M0_drawn 2 := ⟨mTbl_of 1044 (by decide +kernel) rfl, ki_X0, mTbl_of 1045 (by decide +kernel) rfl, by decide +kernel, by decide⟩
theorem ki_X1 : Cond.initialized RX1 ∈ mTbl := mTbl_of 78 (by decide +kernel) rfl
theorem mv_1_settle : mMv M1_settle 18 0 := ⟨1, _, _, rfl, by decide, rfl, rfl, mTbl_of 848 (by decide +kernel) rfl, mTbl_of 849 (by decide +kernel) rfl, ki_X1, mTbl_of 850 (by decide +kernel) rfl, by decide +kernel, by decide⟩
theorem mv_1_scaled : mMv M1_scaled 18 2 := ⟨1, _, _, rfl, by decide, rfl, rfl, mTbl_of 872 (by decide +kernel) rfl, mTbl_of 873 (by decide +kernel) rfl, ki_X1, mTbl_of 874 (by decide +kernel) rfl, by decide +kernel, by decide⟩
theorem mv_1_leeway : mMv M1_leeway 18 2 := ⟨1, _, _, rfl, by decide, rfl, rfl, mTbl_of 867 (by decide +kernel) rfl, mTbl_of 868 (by decide +kernel) rfl, ki_X1, mTbl_of 869 (by decide +kernel) rfl, by decide +kernel, by decide⟩
theorem mv_1_cappedBy : mMv M1_cappedBy 18 3 := ⟨1, _, _, rfl, by decide, rfl, rfl, mTbl_of 863 (by decide +kernel) rfl, mTbl_of 864 (by decide +kernel) rfl, ki_X1, mTbl_of 865 (by decide +kernel) rfl, by decide +kernel, by decide⟩
theorem mv_1_sumBy : mMv M1_sumBy 18 2 := ⟨1, _, _, rfl, by decide, rfl, rfl, mTbl_of 859 (by decide +kernel) rfl, mTbl_of 860 (by decide +kernel) rfl, ki_X1, mTbl_of 861 (by decide +kernel) rfl, by decide +kernel, by decide⟩
theorem mv_1_searchOffBalance : mMv M1_searchOffBalance 18 0 := ⟨1, _, _, rfl, by decide, rfl, rfl, mTbl_of 853 (by decide +kernel) rfl, mTbl_of 854 (by decide +kernel) rfl, ki_X1, mTbl_of 855 (by decide +kernel) rfl, by decide +kernel, by decide⟩
theorem mv_1_searchCap : mMv M1_searchCap 18 0 := ⟨1, _, _, rfl, by decide, rfl, rfl, mTbl_of 986 (by decide +kernel) rfl, mTbl_of 987 (by decide +kernel) rfl, ki_X1, mTbl_of 988 (by decide +kernel) rfl, by decide +kernel, by decide⟩
theorem mv_1_sumCapped : mMv M1_sumCapped 18 0 := ⟨1, _, _, rfl, by decide, rfl, rfl, mTbl_of 898 (by decide +kernel) rfl, mTbl_of 899 (by decide +kernel) rfl, ki_X1, mTbl_of 900 (by decide +kernel) rfl, by decide +kernel, by decide⟩
theorem mv_1_changeOf : mMv M1_changeOf 18 1 := ⟨1, _, _, rfl, by decide, rfl, rfl, mTbl_of 879 (by decide +kernel) rfl, mTbl_of 880 (by decide +kernel) rfl, ki_X1, mTbl_of 881 (by decide +kernel) rfl, by decide +kernel, by decide⟩
theorem mv_1_isChanged : mMv M1_isChanged 18 2 := ⟨1, _, _, rfl, by decide, rfl, rfl, mTbl_of 925 (by decide +kernel) rfl, mTbl_of 926 (by decide +kernel) rfl, ki_X1, mTbl_of 927 (by decide +kernel) rfl, by decide +kernel, by decide⟩
theorem mv_1_rankOf : mMv M1_rankOf 18 1 := ⟨1, _, _, rfl, by decide, rfl, rfl, mTbl_of 978 (by decide +kernel) rfl, mTbl_of 979 (by decide +kernel) rfl, ki_X1, mTbl_of 980 (by decide +kernel) rfl, by decide +kernel, by decide⟩
theorem ki_X2 : Cond.initialized RX2 ∈ mTbl := mTbl_of 77 (by decide +kernel) rfl
theorem mv_2_behindFactors : mMv M2_behindFactors 12 3 := ⟨2, _, _, rfl, by decide, rfl, rfl, mTbl_of 642 (by decide +kernel) rfl, mTbl_of 643 (by decide +kernel) rfl, ki_X2, mTbl_of 644 (by decide +kernel) rfl, by decide +kernel, by decide⟩
theorem mv_2_premiumFor : mMv M2_premiumFor 12 2 := ⟨2, _, _, rfl, by decide, rfl, rfl, mTbl_of 638 (by decide +kernel) rfl, mTbl_of 639 (by decide +kernel) rfl, ki_X2, mTbl_of 640 (by decide +kernel) rfl, by decide +kernel, by decide⟩
theorem mv_2_premiumOf : mMv M2_premiumOf 12 1 := ⟨2, _, _, rfl, by decide, rfl, rfl, mTbl_of 843 (by decide +kernel) rfl, mTbl_of 844 (by decide +kernel) rfl, ki_X2, mTbl_of 845 (by decide +kernel) rfl, by decide +kernel, by decide⟩
theorem mv_2_price : mMv M2_price 12 0 := ⟨2, _, _, rfl, by decide, rfl, rfl, mTbl_of 634 (by decide +kernel) rfl, mTbl_of 635 (by decide +kernel) rfl, ki_X2, mTbl_of 636 (by decide +kernel) rfl, by decide +kernel, by decide⟩
theorem mv_2_sumPaid : mMv M2_sumPaid 12 0 := ⟨2, _, _, rfl, by decide, rfl, rfl, mTbl_of 722 (by decide +kernel) rfl, mTbl_of 723 (by decide +kernel) rfl, ki_X2, mTbl_of 724 (by decide +kernel) rfl, by decide +kernel, by decide⟩
theorem mv_2_measure : mMv M2_measure 12 1 := ⟨2, _, _, rfl, by decide, rfl, rfl, mTbl_of 739 (by decide +kernel) rfl, mTbl_of 740 (by decide +kernel) rfl, ki_X2, mTbl_of 741 (by decide +kernel) rfl, by decide +kernel, by decide⟩
theorem mv_2_gather : mMv M2_gather 12 1 := ⟨2, _, _, rfl, by decide, rfl, rfl, mTbl_of 648 (by decide +kernel) rfl, mTbl_of 649 (by decide +kernel) rfl, ki_X2, mTbl_of 650 (by decide +kernel) rfl, by decide +kernel, by decide⟩
theorem mv_2_addToLower : mMv M2_addToLower 12 1 := ⟨2, _, _, rfl, by decide, rfl, rfl, mTbl_of 658 (by decide +kernel) rfl, mTbl_of 659 (by decide +kernel) rfl, ki_X2, mTbl_of 660 (by decide +kernel) rfl, by decide +kernel, by decide⟩
theorem mv_2_differsBy : mMv M2_differsBy 12 1 := ⟨2, _, _, rfl, by decide, rfl, rfl, mTbl_of 707 (by decide +kernel) rfl, mTbl_of 708 (by decide +kernel) rfl, ki_X2, mTbl_of 709 (by decide +kernel) rfl, by decide +kernel, by decide⟩
theorem mv_2_balances : mMv M2_balances 12 2 := ⟨2, _, _, rfl, by decide, rfl, rfl, mTbl_of 703 (by decide +kernel) rfl, mTbl_of 704 (by decide +kernel) rfl, ki_X2, mTbl_of 705 (by decide +kernel) rfl, by decide +kernel, by decide⟩
theorem mv_2_isOff : mMv M2_isOff 12 2 := ⟨2, _, _, rfl, by decide, rfl, rfl, mTbl_of 699 (by decide +kernel) rfl, mTbl_of 700 (by decide +kernel) rfl, ki_X2, mTbl_of 701 (by decide +kernel) rfl, by decide +kernel, by decide⟩
theorem mv_2_isFilledClass : mMv M2_isFilledClass 12 2 := ⟨2, _, _, rfl, by decide, rfl, rfl, mTbl_of 894 (by decide +kernel) rfl, mTbl_of 895 (by decide +kernel) rfl, ki_X2, mTbl_of 896 (by decide +kernel) rfl, by decide +kernel, by decide⟩
theorem mv_2_countUnbalanced : mMv M2_countUnbalanced 12 0 := ⟨2, _, _, rfl, by decide, rfl, rfl, mTbl_of 695 (by decide +kernel) rfl, mTbl_of 696 (by decide +kernel) rfl, ki_X2, mTbl_of 697 (by decide +kernel) rfl, by decide +kernel, by decide⟩
theorem mv_2_sumMisfit : mMv M2_sumMisfit 12 0 := ⟨2, _, _, rfl, by decide, rfl, rfl, mTbl_of 890 (by decide +kernel) rfl, mTbl_of 891 (by decide +kernel) rfl, ki_X2, mTbl_of 892 (by decide +kernel) rfl, by decide +kernel, by decide⟩
theorem mv_2_worstSlot : mMv M2_worstSlot 12 0 := ⟨2, _, _, rfl, by decide, rfl, rfl, mTbl_of 966 (by decide +kernel) rfl, mTbl_of 967 (by decide +kernel) rfl, ki_X2, mTbl_of 968 (by decide +kernel) rfl, by decide +kernel, by decide⟩
theorem mv_2_farthestOff : mMv M2_farthestOff 12 1 := ⟨2, _, _, rfl, by decide, rfl, rfl, mTbl_of 1142 (by decide +kernel) rfl, mTbl_of 1143 (by decide +kernel) rfl, ki_X2, mTbl_of 1144 (by decide +kernel) rfl, by decide +kernel, by decide⟩
theorem mv_2_countClasses : mMv M2_countClasses 12 1 := ⟨2, _, _, rfl, by decide, rfl, rfl, mTbl_of 1138 (by decide +kernel) rfl, mTbl_of 1139 (by decide +kernel) rfl, ki_X2, mTbl_of 1140 (by decide +kernel) rfl, by decide +kernel, by decide⟩
theorem mv_2_countAllClasses : mMv M2_countAllClasses 12 1 := ⟨2, _, _, rfl, by decide, rfl, rfl, mTbl_of 1063 (by decide +kernel) rfl, mTbl_of 1064 (by decide +kernel) rfl, ki_X2, mTbl_of 1065 (by decide +kernel) rfl, by decide +kernel, by decide⟩
theorem mv_2_countAt : mMv M2_countAt 12 2 := ⟨2, _, _, rfl, by decide, rfl, rfl, mTbl_of 939 (by decide +kernel) rfl, mTbl_of 940 (by decide +kernel) rfl, ki_X2, mTbl_of 941 (by decide +kernel) rfl, by decide +kernel, by decide⟩
theorem mv_2_turnOnce : mMv M2_turnOnce 12 1 := ⟨2, _, _, rfl, by decide, rfl, rfl, mTbl_of 630 (by decide +kernel) rfl, mTbl_of 631 (by decide +kernel) rfl, ki_X2, mTbl_of 632 (by decide +kernel) rfl, by decide +kernel, by decide⟩
theorem mv_2_turned : mMv M2_turned 12 2 := ⟨2, _, _, rfl, by decide, rfl, rfl, mTbl_of 667 (by decide +kernel) rfl, mTbl_of 668 (by decide +kernel) rfl, ki_X2, mTbl_of 669 (by decide +kernel) rfl, by decide +kernel, by decide⟩
theorem mv_2_playRounds : mMv M2_playRounds 12 2 := ⟨2, _, _, rfl, by decide, rfl, rfl, mTbl_of 690 (by decide +kernel) rfl, mTbl_of 691 (by decide +kernel) rfl, ki_X2, mTbl_of 692 (by decide +kernel) rfl, by decide +kernel, by decide⟩
theorem mv_2_roundsTillBalance : mMv M2_roundsTillBalance 12 1 := ⟨2, _, _, rfl, by decide, rfl, rfl, mTbl_of 907 (by decide +kernel) rfl, mTbl_of 908 (by decide +kernel) rfl, ki_X2, mTbl_of 909 (by decide +kernel) rfl, by decide +kernel, by decide⟩
theorem mv_2_rebaseBook : mMv M2_rebaseBook 12 0 := ⟨2, _, _, rfl, by decide, rfl, rfl, mTbl_of 718 (by decide +kernel) rfl, mTbl_of 719 (by decide +kernel) rfl, ki_X2, mTbl_of 720 (by decide +kernel) rfl, by decide +kernel, by decide⟩
theorem mv_2_levelBook : mMv M2_levelBook 12 0 := ⟨2, _, _, rfl, by decide, rfl, rfl, mTbl_of 735 (by decide +kernel) rfl, mTbl_of 736 (by decide +kernel) rfl, ki_X2, mTbl_of 737 (by decide +kernel) rfl, by decide +kernel, by decide⟩
theorem mv_2_widestClass : mMv M2_widestClass 12 1 := ⟨2, _, _, rfl, by decide, rfl, rfl, mTbl_of 743 (by decide +kernel) rfl, mTbl_of 744 (by decide +kernel) rfl, ki_X2, mTbl_of 745 (by decide +kernel) rfl, by decide +kernel, by decide⟩
theorem mv_2_divideRelativities : mMv M2_divideRelativities 12 2 := ⟨2, _, _, rfl, by decide, rfl, rfl, mTbl_of 747 (by decide +kernel) rfl, mTbl_of 748 (by decide +kernel) rfl, ki_X2, mTbl_of 749 (by decide +kernel) rfl, by decide +kernel, by decide⟩
theorem ki_X3 : Cond.initialized RX3 ∈ mTbl := mTbl_of 75 (by decide +kernel) rfl
theorem mv_3_clear : mMv M3_clear 7 0 := ⟨3, _, _, rfl, by decide, rfl, rfl, mTbl_of 108 (by decide +kernel) rfl, mTbl_of 109 (by decide +kernel) rfl, ki_X3, mTbl_of 110 (by decide +kernel) rfl, by decide +kernel, by decide⟩
theorem mv_3_copyFrom : mMv M3_copyFrom 7 1 := ⟨3, _, _, rfl, by decide, rfl, rfl, mTbl_of 596 (by decide +kernel) rfl, mTbl_of 597 (by decide +kernel) rfl, ki_X3, mTbl_of 598 (by decide +kernel) rfl, by decide +kernel, by decide⟩
theorem mv_3_addFactor : mMv M3_addFactor 7 2 := ⟨3, _, _, rfl, by decide, rfl, rfl, mTbl_of 539 (by decide +kernel) rfl, mTbl_of 540 (by decide +kernel) rfl, ki_X3, mTbl_of 541 (by decide +kernel) rfl, by decide +kernel, by decide⟩
theorem mv_3_find : mMv M3_find 7 1 := ⟨3, _, _, rfl, by decide, rfl, rfl, mTbl_of 531 (by decide +kernel) rfl, mTbl_of 532 (by decide +kernel) rfl, ki_X3, mTbl_of 533 (by decide +kernel) rfl, by decide +kernel, by decide⟩
theorem mv_3_hasFactor : mMv M3_hasFactor 7 1 := ⟨3, _, _, rfl, by decide, rfl, rfl, mTbl_of 552 (by decide +kernel) rfl, mTbl_of 553 (by decide +kernel) rfl, ki_X3, mTbl_of 554 (by decide +kernel) rfl, by decide +kernel, by decide⟩
theorem mv_3_hasLevel : mMv M3_hasLevel 7 2 := ⟨3, _, _, rfl, by decide, rfl, rfl, mTbl_of 561 (by decide +kernel) rfl, mTbl_of 562 (by decide +kernel) rfl, ki_X3, mTbl_of 563 (by decide +kernel) rfl, by decide +kernel, by decide⟩
theorem mv_3_hasLevels : mMv M3_hasLevels 7 1 := ⟨3, _, _, rfl, by decide, rfl, rfl, mTbl_of 782 (by decide +kernel) rfl, mTbl_of 783 (by decide +kernel) rfl, ki_X3, mTbl_of 784 (by decide +kernel) rfl, by decide +kernel, by decide⟩
theorem mv_3_countKinds : mMv M3_countKinds 7 0 := ⟨3, _, _, rfl, by decide, rfl, rfl, mTbl_of 1018 (by decide +kernel) rfl, mTbl_of 1019 (by decide +kernel) rfl, ki_X3, mTbl_of 1020 (by decide +kernel) rfl, by decide +kernel, by decide⟩
theorem ki_X4 : Cond.initialized RX4 ∈ mTbl := mTbl_of 79 (by decide +kernel) rfl
theorem mv_4_readText : mMv M4_readText 24 2 := ⟨4, _, _, rfl, by decide, rfl, rfl, mTbl_of 425 (by decide +kernel) rfl, mTbl_of 426 (by decide +kernel) rfl, ki_X4, mTbl_of 427 (by decide +kernel) rfl, by decide +kernel, by decide⟩
theorem mv_4_advance : mMv M4_advance 24 0 := ⟨4, _, _, rfl, by decide, rfl, rfl, mTbl_of 515 (by decide +kernel) rfl, mTbl_of 516 (by decide +kernel) rfl, ki_X4, mTbl_of 517 (by decide +kernel) rfl, by decide +kernel, by decide⟩
theorem mv_4_fail : mMv M4_fail 24 1 := ⟨4, _, _, rfl, by decide, rfl, rfl, mTbl_of 523 (by decide +kernel) rfl, mTbl_of 524 (by decide +kernel) rfl, ki_X4, mTbl_of 525 (by decide +kernel) rfl, by decide +kernel, by decide⟩
theorem mv_4_readLine : mMv M4_readLine 24 0 := ⟨4, _, _, rfl, by decide, rfl, rfl, mTbl_of 519 (by decide +kernel) rfl, mTbl_of 520 (by decide +kernel) rfl, ki_X4, mTbl_of 521 (by decide +kernel) rfl, by decide +kernel, by decide⟩
theorem mv_4_takeStop : mMv M4_takeStop 24 0 := ⟨4, _, _, rfl, by decide, rfl, rfl, mTbl_of 592 (by decide +kernel) rfl, mTbl_of 593 (by decide +kernel) rfl, ki_X4, mTbl_of 594 (by decide +kernel) rfl, by decide +kernel, by decide⟩
theorem mv_4_takeNumber : mMv M4_takeNumber 24 2 := ⟨4, _, _, rfl, by decide, rfl, rfl, mTbl_of 535 (by decide +kernel) rfl, mTbl_of 536 (by decide +kernel) rfl, ki_X4, mTbl_of 537 (by decide +kernel) rfl, by decide +kernel, by decide⟩
theorem mv_4_factorHere : mMv M4_factorHere 24 0 := ⟨4, _, _, rfl, by decide, rfl, rfl, mTbl_of 548 (by decide +kernel) rfl, mTbl_of 549 (by decide +kernel) rfl, ki_X4, mTbl_of 550 (by decide +kernel) rfl, by decide +kernel, by decide⟩
theorem mv_4_readFactor : mMv M4_readFactor 24 0 := ⟨4, _, _, rfl, by decide, rfl, rfl, mTbl_of 527 (by decide +kernel) rfl, mTbl_of 528 (by decide +kernel) rfl, ki_X4, mTbl_of 529 (by decide +kernel) rfl, by decide +kernel, by decide⟩
theorem mv_4_readBand : mMv M4_readBand 24 0 := ⟨4, _, _, rfl, by decide, rfl, rfl, mTbl_of 544 (by decide +kernel) rfl, mTbl_of 545 (by decide +kernel) rfl, ki_X4, mTbl_of 546 (by decide +kernel) rfl, by decide +kernel, by decide⟩
theorem mv_4_readJoin : mMv M4_readJoin 24 0 := ⟨4, _, _, rfl, by decide, rfl, rfl, mTbl_of 557 (by decide +kernel) rfl, mTbl_of 558 (by decide +kernel) rfl, ki_X4, mTbl_of 559 (by decide +kernel) rfl, by decide +kernel, by decide⟩
theorem mv_4_readRisk : mMv M4_readRisk 24 0 := ⟨4, _, _, rfl, by decide, rfl, rfl, mTbl_of 577 (by decide +kernel) rfl, mTbl_of 578 (by decide +kernel) rfl, ki_X4, mTbl_of 579 (by decide +kernel) rfl, by decide +kernel, by decide⟩
theorem mv_4_readSetting : mMv M4_readSetting 24 1 := ⟨4, _, _, rfl, by decide, rfl, rfl, mTbl_of 588 (by decide +kernel) rfl, mTbl_of 589 (by decide +kernel) rfl, ki_X4, mTbl_of 590 (by decide +kernel) rfl, by decide +kernel, by decide⟩
theorem ki_X5 : Cond.initialized RX5 ∈ mTbl := mTbl_of 80 (by decide +kernel) rfl
theorem mv_5_scan : mMv M5_scan 20 2 := ⟨5, _, _, rfl, by decide, rfl, rfl, mTbl_of 431 (by decide +kernel) rfl, mTbl_of 432 (by decide +kernel) rfl, ki_X5, mTbl_of 433 (by decide +kernel) rfl, by decide +kernel, by decide⟩
theorem mv_5_put : mMv M5_put 20 3 := ⟨5, _, _, rfl, by decide, rfl, rfl, mTbl_of 503 (by decide +kernel) rfl, mTbl_of 504 (by decide +kernel) rfl, ki_X5, mTbl_of 505 (by decide +kernel) rfl, by decide +kernel, by decide⟩
theorem mv_5_scanWord : mMv M5_scanWord 20 2 := ⟨5, _, _, rfl, by decide, rfl, rfl, mTbl_of 444 (by decide +kernel) rfl, mTbl_of 445 (by decide +kernel) rfl, ki_X5, mTbl_of 446 (by decide +kernel) rfl, by decide +kernel, by decide⟩
theorem mv_5_scanNumber : mMv M5_scanNumber 20 2 := ⟨5, _, _, rfl, by decide, rfl, rfl, mTbl_of 510 (by decide +kernel) rfl, mTbl_of 511 (by decide +kernel) rfl, ki_X5, mTbl_of 512 (by decide +kernel) rfl, by decide +kernel, by decide⟩
theorem mt_5_isLetter : mMt M5_isLetter 1 := ⟨mTbl_of 441 (by decide +kernel) rfl, ki_X5, mTbl_of 442 (by decide +kernel) rfl, by decide +kernel, by decide⟩
theorem mt_5_isDigit : mMt M5_isDigit 1 := ⟨mTbl_of 507 (by decide +kernel) rfl, ki_X5, mTbl_of 508 (by decide +kernel) rfl, by decide +kernel, by decide⟩
theorem mt_5_letterBits : mMt M5_letterBits 2 := ⟨mTbl_of 448 (by decide +kernel) rfl, ki_X5, mTbl_of 449 (by decide +kernel) rfl, by decide +kernel, by decide⟩
theorem mt_5_wordNumber : mMt M5_wordNumber 1 := ⟨mTbl_of 451 (by decide +kernel) rfl, ki_X5, mTbl_of 452 (by decide +kernel) rfl, by decide +kernel, by decide⟩
theorem ki_X6 : Cond.initialized RX6 ∈ mTbl := mTbl_of 74 (by decide +kernel) rfl
theorem mv_6_feed : mMv M6_feed 25 5 := ⟨6, _, _, rfl, by decide, rfl, rfl, mTbl_of 413 (by decide +kernel) rfl, mTbl_of 414 (by decide +kernel) rfl, ki_X6, mTbl_of 415 (by decide +kernel) rfl, by decide +kernel, by decide⟩
theorem mv_6_appendBytes : mMv M6_appendBytes 25 1 := ⟨6, _, _, rfl, by decide, rfl, rfl, mTbl_of 418 (by decide +kernel) rfl, mTbl_of 0 (by decide +kernel) rfl, ki_X6, mTbl_of 419 (by decide +kernel) rfl, by decide +kernel, by decide⟩
theorem mv_6_text : mMv M6_text 25 1 := ⟨6, _, _, rfl, by decide, rfl, rfl, mTbl_of 421 (by decide +kernel) rfl, mTbl_of 422 (by decide +kernel) rfl, ki_X6, mTbl_of 423 (by decide +kernel) rfl, by decide +kernel, by decide⟩
theorem mv_6_fault : mMv M6_fault 25 1 := ⟨6, _, _, rfl, by decide, rfl, rfl, mTbl_of 608 (by decide +kernel) rfl, mTbl_of 609 (by decide +kernel) rfl, ki_X6, mTbl_of 610 (by decide +kernel) rfl, by decide +kernel, by decide⟩
theorem mv_6_named : mMv M6_named 25 1 := ⟨6, _, _, rfl, by decide, rfl, rfl, mTbl_of 612 (by decide +kernel) rfl, mTbl_of 613 (by decide +kernel) rfl, ki_X6, mTbl_of 614 (by decide +kernel) rfl, by decide +kernel, by decide⟩
theorem mv_6_turn : mMv M6_turn 25 1 := ⟨6, _, _, rfl, by decide, rfl, rfl, mTbl_of 617 (by decide +kernel) rfl, mTbl_of 618 (by decide +kernel) rfl, ki_X6, mTbl_of 619 (by decide +kernel) rfl, by decide +kernel, by decide⟩
theorem mv_6_round : mMv M6_round 25 1 := ⟨6, _, _, rfl, by decide, rfl, rfl, mTbl_of 683 (by decide +kernel) rfl, mTbl_of 684 (by decide +kernel) rfl, ki_X6, mTbl_of 685 (by decide +kernel) rfl, by decide +kernel, by decide⟩
theorem mv_6_rebase : mMv M6_rebase 25 0 := ⟨6, _, _, rfl, by decide, rfl, rfl, mTbl_of 714 (by decide +kernel) rfl, mTbl_of 715 (by decide +kernel) rfl, ki_X6, mTbl_of 716 (by decide +kernel) rfl, by decide +kernel, by decide⟩
theorem mv_6_level : mMv M6_level 25 0 := ⟨6, _, _, rfl, by decide, rfl, rfl, mTbl_of 731 (by decide +kernel) rfl, mTbl_of 732 (by decide +kernel) rfl, ki_X6, mTbl_of 733 (by decide +kernel) rfl, by decide +kernel, by decide⟩
theorem mv_6_relativity : mMv M6_relativity 25 3 := ⟨6, _, _, rfl, by decide, rfl, rfl, mTbl_of 751 (by decide +kernel) rfl, mTbl_of 752 (by decide +kernel) rfl, ki_X6, mTbl_of 753 (by decide +kernel) rfl, by decide +kernel, by decide⟩
theorem mv_6_claims : mMv M6_claims 25 2 := ⟨6, _, _, rfl, by decide, rfl, rfl, mTbl_of 769 (by decide +kernel) rfl, mTbl_of 770 (by decide +kernel) rfl, ki_X6, mTbl_of 771 (by decide +kernel) rfl, by decide +kernel, by decide⟩
theorem mv_6_risk : mMv M6_risk 25 4 := ⟨6, _, _, rfl, by decide, rfl, rfl, mTbl_of 778 (by decide +kernel) rfl, mTbl_of 779 (by decide +kernel) rfl, ki_X6, mTbl_of 780 (by decide +kernel) rfl, by decide +kernel, by decide⟩
theorem mv_6_drop : mMv M6_drop 25 1 := ⟨6, _, _, rfl, by decide, rfl, rfl, mTbl_of 789 (by decide +kernel) rfl, mTbl_of 790 (by decide +kernel) rfl, ki_X6, mTbl_of 791 (by decide +kernel) rfl, by decide +kernel, by decide⟩
theorem mv_6_join : mMv M6_join 25 2 := ⟨6, _, _, rfl, by decide, rfl, rfl, mTbl_of 798 (by decide +kernel) rfl, mTbl_of 799 (by decide +kernel) rfl, ki_X6, mTbl_of 800 (by decide +kernel) rfl, by decide +kernel, by decide⟩
theorem mv_6_cap : mMv M6_cap 25 1 := ⟨6, _, _, rfl, by decide, rfl, rfl, mTbl_of 813 (by decide +kernel) rfl, mTbl_of 814 (by decide +kernel) rfl, ki_X6, mTbl_of 815 (by decide +kernel) rfl, by decide +kernel, by decide⟩
theorem mv_6_trust : mMv M6_trust 25 1 := ⟨6, _, _, rfl, by decide, rfl, rfl, mTbl_of 817 (by decide +kernel) rfl, mTbl_of 818 (by decide +kernel) rfl, ki_X6, mTbl_of 819 (by decide +kernel) rfl, by decide +kernel, by decide⟩
theorem mv_6_fleet : mMv M6_fleet 25 2 := ⟨6, _, _, rfl, by decide, rfl, rfl, mTbl_of 821 (by decide +kernel) rfl, mTbl_of 822 (by decide +kernel) rfl, ki_X6, mTbl_of 823 (by decide +kernel) rfl, by decide +kernel, by decide⟩
theorem mv_6_margin : mMv M6_margin 25 3 := ⟨6, _, _, rfl, by decide, rfl, rfl, mTbl_of 829 (by decide +kernel) rfl, mTbl_of 830 (by decide +kernel) rfl, ki_X6, mTbl_of 831 (by decide +kernel) rfl, by decide +kernel, by decide⟩
theorem mv_6_of : mMv M6_of 25 2 := ⟨6, _, _, rfl, by decide, rfl, rfl, mTbl_of 838 (by decide +kernel) rfl, mTbl_of 839 (by decide +kernel) rfl, ki_X6, mTbl_of 840 (by decide +kernel) rfl, by decide +kernel, by decide⟩
theorem mv_6_all : mMv M6_all 25 1 := ⟨6, _, _, rfl, by decide, rfl, rfl, mTbl_of 884 (by decide +kernel) rfl, mTbl_of 885 (by decide +kernel) rfl, ki_X6, mTbl_of 886 (by decide +kernel) rfl, by decide +kernel, by decide⟩
theorem mv_6_fitted : mMv M6_fitted 25 1 := ⟨6, _, _, rfl, by decide, rfl, rfl, mTbl_of 903 (by decide +kernel) rfl, mTbl_of 904 (by decide +kernel) rfl, ki_X6, mTbl_of 905 (by decide +kernel) rfl, by decide +kernel, by decide⟩
theorem mv_6_unbalanced : mMv M6_unbalanced 25 0 := ⟨6, _, _, rfl, by decide, rfl, rfl, mTbl_of 913 (by decide +kernel) rfl, mTbl_of 914 (by decide +kernel) rfl, ki_X6, mTbl_of 915 (by decide +kernel) rfl, by decide +kernel, by decide⟩
theorem mv_6_offBalance : mMv M6_offBalance 25 0 := ⟨6, _, _, rfl, by decide, rfl, rfl, mTbl_of 917 (by decide +kernel) rfl, mTbl_of 918 (by decide +kernel) rfl, ki_X6, mTbl_of 919 (by decide +kernel) rfl, by decide +kernel, by decide⟩
theorem mv_6_changes : mMv M6_changes 25 1 := ⟨6, _, _, rfl, by decide, rfl, rfl, mTbl_of 921 (by decide +kernel) rfl, mTbl_of 922 (by decide +kernel) rfl, ki_X6, mTbl_of 923 (by decide +kernel) rfl, by decide +kernel, by decide⟩
theorem mv_6_share : mMv M6_share 25 2 := ⟨6, _, _, rfl, by decide, rfl, rfl, mTbl_of 930 (by decide +kernel) rfl, mTbl_of 931 (by decide +kernel) rfl, ki_X6, mTbl_of 932 (by decide +kernel) rfl, by decide +kernel, by decide⟩
theorem mv_6_atEnd : mMv M6_atEnd 25 2 := ⟨6, _, _, rfl, by decide, rfl, rfl, mTbl_of 935 (by decide +kernel) rfl, mTbl_of 936 (by decide +kernel) rfl, ki_X6, mTbl_of 937 (by decide +kernel) rfl, by decide +kernel, by decide⟩
theorem mv_6_mostOff : mMv M6_mostOff 25 0 := ⟨6, _, _, rfl, by decide, rfl, rfl, mTbl_of 943 (by decide +kernel) rfl, mTbl_of 944 (by decide +kernel) rfl, ki_X6, mTbl_of 945 (by decide +kernel) rfl, by decide +kernel, by decide⟩
theorem mv_6_step : mMv M6_step 25 2 := ⟨6, _, _, rfl, by decide, rfl, rfl, mTbl_of 947 (by decide +kernel) rfl, mTbl_of 948 (by decide +kernel) rfl, ki_X6, mTbl_of 949 (by decide +kernel) rfl, by decide +kernel, by decide⟩
theorem mv_6_swing : mMv M6_swing 25 3 := ⟨6, _, _, rfl, by decide, rfl, rfl, mTbl_of 952 (by decide +kernel) rfl, mTbl_of 953 (by decide +kernel) rfl, ki_X6, mTbl_of 954 (by decide +kernel) rfl, by decide +kernel, by decide⟩
theorem mv_6_ratio : mMv M6_ratio 25 2 := ⟨6, _, _, rfl, by decide, rfl, rfl, mTbl_of 957 (by decide +kernel) rfl, mTbl_of 958 (by decide +kernel) rfl, ki_X6, mTbl_of 959 (by decide +kernel) rfl, by decide +kernel, by decide⟩
theorem mv_6_worst : mMv M6_worst 25 0 := ⟨6, _, _, rfl, by decide, rfl, rfl, mTbl_of 962 (by decide +kernel) rfl, mTbl_of 963 (by decide +kernel) rfl, ki_X6, mTbl_of 964 (by decide +kernel) rfl, by decide +kernel, by decide⟩
theorem mv_6_hardest : mMv M6_hardest 25 1 := ⟨6, _, _, rfl, by decide, rfl, rfl, mTbl_of 970 (by decide +kernel) rfl, mTbl_of 971 (by decide +kernel) rfl, ki_X6, mTbl_of 972 (by decide +kernel) rfl, by decide +kernel, by decide⟩
theorem mv_6_ranked : mMv M6_ranked 25 1 := ⟨6, _, _, rfl, by decide, rfl, rfl, mTbl_of 974 (by decide +kernel) rfl, mTbl_of 975 (by decide +kernel) rfl, ki_X6, mTbl_of 976 (by decide +kernel) rfl, by decide +kernel, by decide⟩
theorem mv_6_leastCap : mMv M6_leastCap 25 0 := ⟨6, _, _, rfl, by decide, rfl, rfl, mTbl_of 982 (by decide +kernel) rfl, mTbl_of 983 (by decide +kernel) rfl, ki_X6, mTbl_of 984 (by decide +kernel) rfl, by decide +kernel, by decide⟩
theorem mv_6_withoutFactor : mMv M6_withoutFactor 25 2 := ⟨6, _, _, rfl, by decide, rfl, rfl, mTbl_of 990 (by decide +kernel) rfl, mTbl_of 991 (by decide +kernel) rfl, ki_X6, mTbl_of 992 (by decide +kernel) rfl, by decide +kernel, by decide⟩
theorem mv_6_bestJoin : mMv M6_bestJoin 25 2 := ⟨6, _, _, rfl, by decide, rfl, rfl, mTbl_of 998 (by decide +kernel) rfl, mTbl_of 999 (by decide +kernel) rfl, ki_X6, mTbl_of 1000 (by decide +kernel) rfl, by decide +kernel, by decide⟩
theorem mv_6_misfitIfJoined : mMv M6_misfitIfJoined 25 3 := ⟨6, _, _, rfl, by decide, rfl, rfl, mTbl_of 1003 (by decide +kernel) rfl, mTbl_of 3 (by decide +kernel) rfl, ki_X6, mTbl_of 1004 (by decide +kernel) rfl, by decide +kernel, by decide⟩
theorem mv_6_withoutRisk : mMv M6_withoutRisk 25 2 := ⟨6, _, _, rfl, by decide, rfl, rfl, mTbl_of 1006 (by decide +kernel) rfl, mTbl_of 1007 (by decide +kernel) rfl, ki_X6, mTbl_of 1008 (by decide +kernel) rfl, by decide +kernel, by decide⟩
theorem mv_6_quote : mMv M6_quote 25 2 := ⟨6, _, _, rfl, by decide, rfl, rfl, mTbl_of 1010 (by decide +kernel) rfl, mTbl_of 1011 (by decide +kernel) rfl, ki_X6, mTbl_of 1012 (by decide +kernel) rfl, by decide +kernel, by decide⟩
theorem mv_6_kinds : mMv M6_kinds 25 1 := ⟨6, _, _, rfl, by decide, rfl, rfl, mTbl_of 1014 (by decide +kernel) rfl, mTbl_of 1015 (by decide +kernel) rfl, ki_X6, mTbl_of 1016 (by decide +kernel) rfl, by decide +kernel, by decide⟩
theorem mv_6_chance : mMv M6_chance 25 5 := ⟨6, _, _, rfl, by decide, rfl, rfl, mTbl_of 1030 (by decide +kernel) rfl, mTbl_of 1031 (by decide +kernel) rfl, ki_X6, mTbl_of 1032 (by decide +kernel) rfl, by decide +kernel, by decide⟩
theorem mv_6_undo : mMv M6_undo 25 0 := ⟨6, _, _, rfl, by decide, rfl, rfl, mTbl_of 1047 (by decide +kernel) rfl, mTbl_of 1048 (by decide +kernel) rfl, ki_X6, mTbl_of 1049 (by decide +kernel) rfl, by decide +kernel, by decide⟩
theorem mv_6_keep : mMv M6_keep 25 0 := ⟨6, _, _, rfl, by decide, rfl, rfl, mTbl_of 1051 (by decide +kernel) rfl, mTbl_of 1052 (by decide +kernel) rfl, ki_X6, mTbl_of 1053 (by decide +kernel) rfl, by decide +kernel, by decide⟩
theorem mv_6_back : mMv M6_back 25 0 := ⟨6, _, _, rfl, by decide, rfl, rfl, mTbl_of 1055 (by decide +kernel) rfl, mTbl_of 1056 (by decide +kernel) rfl, ki_X6, mTbl_of 1057 (by decide +kernel) rfl, by decide +kernel, by decide⟩
theorem mv_6_count : mMv M6_count 25 1 := ⟨6, _, _, rfl, by decide, rfl, rfl, mTbl_of 1059 (by decide +kernel) rfl, mTbl_of 1060 (by decide +kernel) rfl, ki_X6, mTbl_of 1061 (by decide +kernel) rfl, by decide +kernel, by decide⟩
theorem mv_6_remember : mMv M6_remember 25 0 := ⟨6, _, _, rfl, by decide, rfl, rfl, mTbl_of 623 (by decide +kernel) rfl, mTbl_of 1 (by decide +kernel) rfl, ki_X6, mTbl_of 624 (by decide +kernel) rfl, by decide +kernel, by decide⟩
theorem mv_6_historyIndex : mMv M6_historyIndex 25 1 := ⟨6, _, _, rfl, by decide, rfl, rfl, mTbl_of 627 (by decide +kernel) rfl, mTbl_of 2 (by decide +kernel) rfl, ki_X6, mTbl_of 628 (by decide +kernel) rfl, by decide +kernel, by decide⟩
theorem mt_6_within : mMt M6_within 3 := ⟨mTbl_of 687 (by decide +kernel) rfl, ki_X6, mTbl_of 688 (by decide +kernel) rfl, by decide +kernel, by decide⟩
theorem mt_6_clamp : mMt M6_clamp 3 := ⟨mTbl_of 671 (by decide +kernel) rfl, ki_X6, mTbl_of 672 (by decide +kernel) rfl, by decide +kernel, by decide⟩
theorem mt_6_slotShift : mMt M6_slotShift 1 := ⟨mTbl_of 581 (by decide +kernel) rfl, ki_X6, mTbl_of 582 (by decide +kernel) rfl, by decide +kernel, by decide⟩
theorem mt_6_slot : mMt M6_slot 2 := ⟨mTbl_of 570 (by decide +kernel) rfl, ki_X6, mTbl_of 571 (by decide +kernel) rfl, by decide +kernel, by decide⟩
theorem mt_6_levelIn : mMt M6_levelIn 2 := ⟨mTbl_of 653 (by decide +kernel) rfl, ki_X6, mTbl_of 654 (by decide +kernel) rfl, by decide +kernel, by decide⟩
theorem ki_X7 : Cond.initialized RX7 ∈ mTbl := mTbl_of 81 (by decide +kernel) rfl
theorem mv_7_thrown : mMv M7_thrown 30 0 := ⟨7, _, _, rfl, by decide, rfl, rfl, mTbl_of 1283 (by decide +kernel) rfl, mTbl_of 1284 (by decide +kernel) rfl, ki_X7, mTbl_of 1285 (by decide +kernel) rfl, by decide +kernel, by decide⟩
theorem mv_7_feed : mMv M7_feed 30 5 := ⟨7, _, _, rfl, by decide, rfl, rfl, mTbl_of 1287 (by decide +kernel) rfl, mTbl_of 1288 (by decide +kernel) rfl, ki_X7, mTbl_of 1289 (by decide +kernel) rfl, by decide +kernel, by decide⟩
theorem mv_7_here : mMv M7_here 30 0 := ⟨7, _, _, rfl, by decide, rfl, rfl, mTbl_of 1304 (by decide +kernel) rfl, mTbl_of 13 (by decide +kernel) rfl, ki_X7, mTbl_of 1305 (by decide +kernel) rfl, by decide +kernel, by decide⟩
theorem mt_7_isSmall : mMt M7_isSmall 1 := ⟨mTbl_of 1307 (by decide +kernel) rfl, ki_X7, mTbl_of 1308 (by decide +kernel) rfl, by decide +kernel, by decide⟩
theorem mt_7_isDigit : mMt M7_isDigit 1 := ⟨mTbl_of 1321 (by decide +kernel) rfl, ki_X7, mTbl_of 1322 (by decide +kernel) rfl, by decide +kernel, by decide⟩
theorem mv_7_token : mMv M7_token 30 0 := ⟨7, _, _, rfl, by decide, rfl, rfl, mTbl_of 1300 (by decide +kernel) rfl, mTbl_of 12 (by decide +kernel) rfl, ki_X7, mTbl_of 1301 (by decide +kernel) rfl, by decide +kernel, by decide⟩
theorem mv_7_wordHere : mMv M7_wordHere 30 0 := ⟨7, _, _, rfl, by decide, rfl, rfl, mTbl_of 1311 (by decide +kernel) rfl, mTbl_of 14 (by decide +kernel) rfl, ki_X7, mTbl_of 1312 (by decide +kernel) rfl, by decide +kernel, by decide⟩
theorem mv_7_nameHere : mMv M7_nameHere 30 0 := ⟨7, _, _, rfl, by decide, rfl, rfl, mTbl_of 1318 (by decide +kernel) rfl, mTbl_of 15 (by decide +kernel) rfl, ki_X7, mTbl_of 1319 (by decide +kernel) rfl, by decide +kernel, by decide⟩
theorem mv_7_wrong : mMv M7_wrong 30 1 := ⟨7, _, _, rfl, by decide, rfl, rfl, mTbl_of 1330 (by decide +kernel) rfl, mTbl_of 17 (by decide +kernel) rfl, ki_X7, mTbl_of 1331 (by decide +kernel) rfl, by decide +kernel, by decide⟩
theorem mv_7_goOn : mMv M7_goOn 30 0 := ⟨7, _, _, rfl, by decide, rfl, rfl, mTbl_of 1338 (by decide +kernel) rfl, mTbl_of 19 (by decide +kernel) rfl, ki_X7, mTbl_of 1339 (by decide +kernel) rfl, by decide +kernel, by decide⟩
theorem mv_7_numeral : mMv M7_numeral 30 2 := ⟨7, _, _, rfl, by decide, rfl, rfl, mTbl_of 1342 (by decide +kernel) rfl, mTbl_of 20 (by decide +kernel) rfl, ki_X7, mTbl_of 1343 (by decide +kernel) rfl, by decide +kernel, by decide⟩
theorem mv_7_reading : mMv M7_reading 30 1 := ⟨7, _, _, rfl, by decide, rfl, rfl, mTbl_of 1180 (by decide +kernel) rfl, mTbl_of 8 (by decide +kernel) rfl, ki_X7, mTbl_of 1181 (by decide +kernel) rfl, by decide +kernel, by decide⟩
theorem mv_7_reads : mMv M7_reads 30 2 := ⟨7, _, _, rfl, by decide, rfl, rfl, mTbl_of 1172 (by decide +kernel) rfl, mTbl_of 6 (by decide +kernel) rfl, ki_X7, mTbl_of 1173 (by decide +kernel) rfl, by decide +kernel, by decide⟩
theorem mv_7_readOnce : mMv M7_readOnce 30 3 := ⟨7, _, _, rfl, by decide, rfl, rfl, mTbl_of 1334 (by decide +kernel) rfl, mTbl_of 18 (by decide +kernel) rfl, ki_X7, mTbl_of 1335 (by decide +kernel) rfl, by decide +kernel, by decide⟩
theorem mv_7_namedAt : mMv M7_namedAt 30 3 := ⟨7, _, _, rfl, by decide, rfl, rfl, mTbl_of 1354 (by decide +kernel) rfl, mTbl_of 23 (by decide +kernel) rfl, ki_X7, mTbl_of 1355 (by decide +kernel) rfl, by decide +kernel, by decide⟩
theorem mv_7_readFactor : mMv M7_readFactor 30 0 := ⟨7, _, _, rfl, by decide, rfl, rfl, mTbl_of 1350 (by decide +kernel) rfl, mTbl_of 22 (by decide +kernel) rfl, ki_X7, mTbl_of 1351 (by decide +kernel) rfl, by decide +kernel, by decide⟩
theorem mv_7_factorHere : mMv M7_factorHere 30 0 := ⟨7, _, _, rfl, by decide, rfl, rfl, mTbl_of 1363 (by decide +kernel) rfl, mTbl_of 25 (by decide +kernel) rfl, ki_X7, mTbl_of 1364 (by decide +kernel) rfl, by decide +kernel, by decide⟩
theorem mv_7_readBand : mMv M7_readBand 30 0 := ⟨7, _, _, rfl, by decide, rfl, rfl, mTbl_of 1359 (by decide +kernel) rfl, mTbl_of 24 (by decide +kernel) rfl, ki_X7, mTbl_of 1360 (by decide +kernel) rfl, by decide +kernel, by decide⟩
theorem mv_7_readJoin : mMv M7_readJoin 30 0 := ⟨7, _, _, rfl, by decide, rfl, rfl, mTbl_of 1367 (by decide +kernel) rfl, mTbl_of 26 (by decide +kernel) rfl, ki_X7, mTbl_of 1368 (by decide +kernel) rfl, by decide +kernel, by decide⟩
theorem mv_7_readRisk : mMv M7_readRisk 30 0 := ⟨7, _, _, rfl, by decide, rfl, rfl, mTbl_of 1371 (by decide +kernel) rfl, mTbl_of 27 (by decide +kernel) rfl, ki_X7, mTbl_of 1372 (by decide +kernel) rfl, by decide +kernel, by decide⟩
theorem mv_7_readFleet : mMv M7_readFleet 30 0 := ⟨7, _, _, rfl, by decide, rfl, rfl, mTbl_of 1346 (by decide +kernel) rfl, mTbl_of 21 (by decide +kernel) rfl, ki_X7, mTbl_of 1347 (by decide +kernel) rfl, by decide +kernel, by decide⟩
theorem mv_7_readLine : mMv M7_readLine 30 0 := ⟨7, _, _, rfl, by decide, rfl, rfl, mTbl_of 1326 (by decide +kernel) rfl, mTbl_of 16 (by decide +kernel) rfl, ki_X7, mTbl_of 1327 (by decide +kernel) rfl, by decide +kernel, by decide⟩
theorem mv_7_freshText : mMv M7_freshText 30 0 := ⟨7, _, _, rfl, by decide, rfl, rfl, mTbl_of 1168 (by decide +kernel) rfl, mTbl_of 5 (by decide +kernel) rfl, ki_X7, mTbl_of 1169 (by decide +kernel) rfl, by decide +kernel, by decide⟩
theorem mv_7_readText : mMv M7_readText 30 1 := ⟨7, _, _, rfl, by decide, rfl, rfl, mTbl_of 1296 (by decide +kernel) rfl, mTbl_of 11 (by decide +kernel) rfl, ki_X7, mTbl_of 1297 (by decide +kernel) rfl, by decide +kernel, by decide⟩
theorem mv_7_takeText : mMv M7_takeText 30 0 := ⟨7, _, _, rfl, by decide, rfl, rfl, mTbl_of 1176 (by decide +kernel) rfl, mTbl_of 7 (by decide +kernel) rfl, ki_X7, mTbl_of 1177 (by decide +kernel) rfl, by decide +kernel, by decide⟩
theorem mv_7_text : mMv M7_text 30 1 := ⟨7, _, _, rfl, by decide, rfl, rfl, mTbl_of 1291 (by decide +kernel) rfl, mTbl_of 1292 (by decide +kernel) rfl, ki_X7, mTbl_of 1293 (by decide +kernel) rfl, by decide +kernel, by decide⟩
theorem mv_7_fault : mMv M7_fault 30 1 := ⟨7, _, _, rfl, by decide, rfl, rfl, mTbl_of 1374 (by decide +kernel) rfl, mTbl_of 1375 (by decide +kernel) rfl, ki_X7, mTbl_of 1376 (by decide +kernel) rfl, by decide +kernel, by decide⟩
theorem mv_7_factors : mMv M7_factors 30 0 := ⟨7, _, _, rfl, by decide, rfl, rfl, mTbl_of 1188 (by decide +kernel) rfl, mTbl_of 10 (by decide +kernel) rfl, ki_X7, mTbl_of 1189 (by decide +kernel) rfl, by decide +kernel, by decide⟩
theorem mv_7_named : mMv M7_named 30 1 := ⟨7, _, _, rfl, by decide, rfl, rfl, mTbl_of 1378 (by decide +kernel) rfl, mTbl_of 1379 (by decide +kernel) rfl, ki_X7, mTbl_of 1380 (by decide +kernel) rfl, by decide +kernel, by decide⟩
theorem mt_7_copies : mMt M7_copies 4 := ⟨mTbl_of 1386 (by decide +kernel) rfl, ki_X7, mTbl_of 1387 (by decide +kernel) rfl, by decide +kernel, by decide⟩
theorem mv_7_begins : mMv M7_begins 30 0 := ⟨7, _, _, rfl, by decide, rfl, rfl, mTbl_of 1184 (by decide +kernel) rfl, mTbl_of 9 (by decide +kernel) rfl, ki_X7, mTbl_of 1185 (by decide +kernel) rfl, by decide +kernel, by decide⟩
theorem mv_7_remembers : mMv M7_remembers 30 0 := ⟨7, _, _, rfl, by decide, rfl, rfl, mTbl_of 1410 (by decide +kernel) rfl, mTbl_of 30 (by decide +kernel) rfl, ki_X7, mTbl_of 1411 (by decide +kernel) rfl, by decide +kernel, by decide⟩
theorem mv_7_undo : mMv M7_undo 30 0 := ⟨7, _, _, rfl, by decide, rfl, rfl, mTbl_of 1382 (by decide +kernel) rfl, mTbl_of 1383 (by decide +kernel) rfl, ki_X7, mTbl_of 1384 (by decide +kernel) rfl, by decide +kernel, by decide⟩
theorem mv_7_keep : mMv M7_keep 30 0 := ⟨7, _, _, rfl, by decide, rfl, rfl, mTbl_of 1389 (by decide +kernel) rfl, mTbl_of 1390 (by decide +kernel) rfl, ki_X7, mTbl_of 1391 (by decide +kernel) rfl, by decide +kernel, by decide⟩
theorem mv_7_back : mMv M7_back 30 0 := ⟨7, _, _, rfl, by decide, rfl, rfl, mTbl_of 1397 (by decide +kernel) rfl, mTbl_of 1398 (by decide +kernel) rfl, ki_X7, mTbl_of 1399 (by decide +kernel) rfl, by decide +kernel, by decide⟩
theorem mv_7_many : mMv M7_many 30 0 := ⟨7, _, _, rfl, by decide, rfl, rfl, mTbl_of 1394 (by decide +kernel) rfl, mTbl_of 28 (by decide +kernel) rfl, ki_X7, mTbl_of 1395 (by decide +kernel) rfl, by decide +kernel, by decide⟩
theorem mv_7_isFactor : mMv M7_isFactor 30 1 := ⟨7, _, _, rfl, by decide, rfl, rfl, mTbl_of 1406 (by decide +kernel) rfl, mTbl_of 29 (by decide +kernel) rfl, ki_X7, mTbl_of 1407 (by decide +kernel) rfl, by decide +kernel, by decide⟩
theorem mv_7_isLevel : mMv M7_isLevel 30 2 := ⟨7, _, _, rfl, by decide, rfl, rfl, mTbl_of 1523 (by decide +kernel) rfl, mTbl_of 52 (by decide +kernel) rfl, ki_X7, mTbl_of 1524 (by decide +kernel) rfl, by decide +kernel, by decide⟩
theorem mv_7_isRisk : mMv M7_isRisk 30 1 := ⟨7, _, _, rfl, by decide, rfl, rfl, mTbl_of 1531 (by decide +kernel) rfl, mTbl_of 53 (by decide +kernel) rfl, ki_X7, mTbl_of 1532 (by decide +kernel) rfl, by decide +kernel, by decide⟩
theorem mv_7_isJoined : mMv M7_isJoined 30 2 := ⟨7, _, _, rfl, by decide, rfl, rfl, mTbl_of 1422 (by decide +kernel) rfl, mTbl_of 33 (by decide +kernel) rfl, ki_X7, mTbl_of 1423 (by decide +kernel) rfl, by decide +kernel, by decide⟩
theorem mv_7_firstOf : mMv M7_firstOf 30 2 := ⟨7, _, _, rfl, by decide, rfl, rfl, mTbl_of 1418 (by decide +kernel) rfl, mTbl_of 32 (by decide +kernel) rfl, ki_X7, mTbl_of 1419 (by decide +kernel) rfl, by decide +kernel, by decide⟩
theorem mv_7_lastOf : mMv M7_lastOf 30 2 := ⟨7, _, _, rfl, by decide, rfl, rfl, mTbl_of 1471 (by decide +kernel) rfl, mTbl_of 44 (by decide +kernel) rfl, ki_X7, mTbl_of 1472 (by decide +kernel) rfl, by decide +kernel, by decide⟩
theorem mv_7_relativityOf : mMv M7_relativityOf 30 2 := ⟨7, _, _, rfl, by decide, rfl, rfl, mTbl_of 1450 (by decide +kernel) rfl, mTbl_of 40 (by decide +kernel) rfl, ki_X7, mTbl_of 1451 (by decide +kernel) rfl, by decide +kernel, by decide⟩
theorem mv_7_relates : mMv M7_relates 30 3 := ⟨7, _, _, rfl, by decide, rfl, rfl, mTbl_of 1467 (by decide +kernel) rfl, mTbl_of 43 (by decide +kernel) rfl, ki_X7, mTbl_of 1468 (by decide +kernel) rfl, by decide +kernel, by decide⟩
theorem mt_7_within : mMt M7_within 3 := ⟨mTbl_of 1459 (by decide +kernel) rfl, ki_X7, mTbl_of 1460 (by decide +kernel) rfl, by decide +kernel, by decide⟩
theorem mv_7_premiumBy : mMv M7_premiumBy 30 2 := ⟨7, _, _, rfl, by decide, rfl, rfl, mTbl_of 1442 (by decide +kernel) rfl, mTbl_of 38 (by decide +kernel) rfl, ki_X7, mTbl_of 1443 (by decide +kernel) rfl, by decide +kernel, by decide⟩
theorem mv_7_premiumBehind : mMv M7_premiumBehind 30 3 := ⟨7, _, _, rfl, by decide, rfl, rfl, mTbl_of 1446 (by decide +kernel) rfl, mTbl_of 39 (by decide +kernel) rfl, ki_X7, mTbl_of 1447 (by decide +kernel) rfl, by decide +kernel, by decide⟩
theorem mv_7_premiumOf : mMv M7_premiumOf 30 1 := ⟨7, _, _, rfl, by decide, rfl, rfl, mTbl_of 1438 (by decide +kernel) rfl, mTbl_of 37 (by decide +kernel) rfl, ki_X7, mTbl_of 1439 (by decide +kernel) rfl, by decide +kernel, by decide⟩
theorem mv_7_isOf : mMv M7_isOf 30 3 := ⟨7, _, _, rfl, by decide, rfl, rfl, mTbl_of 1430 (by decide +kernel) rfl, mTbl_of 35 (by decide +kernel) rfl, ki_X7, mTbl_of 1431 (by decide +kernel) rfl, by decide +kernel, by decide⟩
theorem mv_7_risksOf : mMv M7_risksOf 30 2 := ⟨7, _, _, rfl, by decide, rfl, rfl, mTbl_of 1426 (by decide +kernel) rfl, mTbl_of 34 (by decide +kernel) rfl, ki_X7, mTbl_of 1427 (by decide +kernel) rfl, by decide +kernel, by decide⟩
theorem mv_7_sumOf : mMv M7_sumOf 30 3 := ⟨7, _, _, rfl, by decide, rfl, rfl, mTbl_of 1456 (by decide +kernel) rfl, mTbl_of 41 (by decide +kernel) rfl, ki_X7, mTbl_of 1457 (by decide +kernel) rfl, by decide +kernel, by decide⟩
theorem mv_7_premiumsOf : mMv M7_premiumsOf 30 2 := ⟨7, _, _, rfl, by decide, rfl, rfl, mTbl_of 1434 (by decide +kernel) rfl, mTbl_of 36 (by decide +kernel) rfl, ki_X7, mTbl_of 1435 (by decide +kernel) rfl, by decide +kernel, by decide⟩
theorem mt_7_without : mMt M7_without 1 := ⟨mTbl_of 1490 (by decide +kernel) rfl, ki_X7, mTbl_of 1491 (by decide +kernel) rfl, by decide +kernel, by decide⟩
theorem mv_7_balances : mMv M7_balances 30 2 := ⟨7, _, _, rfl, by decide, rfl, rfl, mTbl_of 1487 (by decide +kernel) rfl, mTbl_of 47 (by decide +kernel) rfl, ki_X7, mTbl_of 1488 (by decide +kernel) rfl, by decide +kernel, by decide⟩
theorem mv_7_unbalancedNow : mMv M7_unbalancedNow 30 0 := ⟨7, _, _, rfl, by decide, rfl, rfl, mTbl_of 1483 (by decide +kernel) rfl, mTbl_of 46 (by decide +kernel) rfl, ki_X7, mTbl_of 1484 (by decide +kernel) rfl, by decide +kernel, by decide⟩
theorem mv_7_misfit : mMv M7_misfit 30 0 := ⟨7, _, _, rfl, by decide, rfl, rfl, mTbl_of 1659 (by decide +kernel) rfl, mTbl_of 67 (by decide +kernel) rfl, ki_X7, mTbl_of 1660 (by decide +kernel) rfl, by decide +kernel, by decide⟩
theorem mv_7_trusted : mMv M7_trusted 30 4 := ⟨7, _, _, rfl, by decide, rfl, rfl, mTbl_of 1463 (by decide +kernel) rfl, mTbl_of 42 (by decide +kernel) rfl, ki_X7, mTbl_of 1464 (by decide +kernel) rfl, by decide +kernel, by decide⟩
theorem mv_7_turns : mMv M7_turns 30 1 := ⟨7, _, _, rfl, by decide, rfl, rfl, mTbl_of 1414 (by decide +kernel) rfl, mTbl_of 31 (by decide +kernel) rfl, ki_X7, mTbl_of 1415 (by decide +kernel) rfl, by decide +kernel, by decide⟩
theorem mv_7_rounds : mMv M7_rounds 30 2 := ⟨7, _, _, rfl, by decide, rfl, rfl, mTbl_of 1479 (by decide +kernel) rfl, mTbl_of 45 (by decide +kernel) rfl, ki_X7, mTbl_of 1480 (by decide +kernel) rfl, by decide +kernel, by decide⟩
theorem mv_7_paid : mMv M7_paid 30 0 := ⟨7, _, _, rfl, by decide, rfl, rfl, mTbl_of 1502 (by decide +kernel) rfl, mTbl_of 49 (by decide +kernel) rfl, ki_X7, mTbl_of 1503 (by decide +kernel) rfl, by decide +kernel, by decide⟩
theorem mv_7_allOf : mMv M7_allOf 30 1 := ⟨7, _, _, rfl, by decide, rfl, rfl, mTbl_of 1506 (by decide +kernel) rfl, mTbl_of 50 (by decide +kernel) rfl, ki_X7, mTbl_of 1507 (by decide +kernel) rfl, by decide +kernel, by decide⟩
theorem mv_7_rebases : mMv M7_rebases 30 0 := ⟨7, _, _, rfl, by decide, rfl, rfl, mTbl_of 1498 (by decide +kernel) rfl, mTbl_of 48 (by decide +kernel) rfl, ki_X7, mTbl_of 1499 (by decide +kernel) rfl, by decide +kernel, by decide⟩
theorem mv_7_levels : mMv M7_levels 30 0 := ⟨7, _, _, rfl, by decide, rfl, rfl, mTbl_of 1515 (by decide +kernel) rfl, mTbl_of 51 (by decide +kernel) rfl, ki_X7, mTbl_of 1516 (by decide +kernel) rfl, by decide +kernel, by decide⟩
theorem mv_7_turn : mMv M7_turn 30 1 := ⟨7, _, _, rfl, by decide, rfl, rfl, mTbl_of 1401 (by decide +kernel) rfl, mTbl_of 1402 (by decide +kernel) rfl, ki_X7, mTbl_of 1403 (by decide +kernel) rfl, by decide +kernel, by decide⟩
theorem mv_7_round : mMv M7_round 30 1 := ⟨7, _, _, rfl, by decide, rfl, rfl, mTbl_of 1474 (by decide +kernel) rfl, mTbl_of 1475 (by decide +kernel) rfl, ki_X7, mTbl_of 1476 (by decide +kernel) rfl, by decide +kernel, by decide⟩
theorem mv_7_rebase : mMv M7_rebase 30 0 := ⟨7, _, _, rfl, by decide, rfl, rfl, mTbl_of 1493 (by decide +kernel) rfl, mTbl_of 1494 (by decide +kernel) rfl, ki_X7, mTbl_of 1495 (by decide +kernel) rfl, by decide +kernel, by decide⟩
theorem mv_7_level : mMv M7_level 30 0 := ⟨7, _, _, rfl, by decide, rfl, rfl, mTbl_of 1510 (by decide +kernel) rfl, mTbl_of 1511 (by decide +kernel) rfl, ki_X7, mTbl_of 1512 (by decide +kernel) rfl, by decide +kernel, by decide⟩
theorem mv_7_relativity : mMv M7_relativity 30 3 := ⟨7, _, _, rfl, by decide, rfl, rfl, mTbl_of 1518 (by decide +kernel) rfl, mTbl_of 1519 (by decide +kernel) rfl, ki_X7, mTbl_of 1520 (by decide +kernel) rfl, by decide +kernel, by decide⟩
theorem mv_7_claims : mMv M7_claims 30 2 := ⟨7, _, _, rfl, by decide, rfl, rfl, mTbl_of 1526 (by decide +kernel) rfl, mTbl_of 1527 (by decide +kernel) rfl, ki_X7, mTbl_of 1528 (by decide +kernel) rfl, by decide +kernel, by decide⟩
theorem mv_7_laysLevels : mMv M7_laysLevels 30 1 := ⟨7, _, _, rfl, by decide, rfl, rfl, mTbl_of 1539 (by decide +kernel) rfl, mTbl_of 54 (by decide +kernel) rfl, ki_X7, mTbl_of 1540 (by decide +kernel) rfl, by decide +kernel, by decide⟩
theorem mv_7_risk : mMv M7_risk 30 4 := ⟨7, _, _, rfl, by decide, rfl, rfl, mTbl_of 1534 (by decide +kernel) rfl, mTbl_of 1535 (by decide +kernel) rfl, ki_X7, mTbl_of 1536 (by decide +kernel) rfl, by decide +kernel, by decide⟩
theorem mv_7_goes : mMv M7_goes 30 1 := ⟨7, _, _, rfl, by decide, rfl, rfl, mTbl_of 1547 (by decide +kernel) rfl, mTbl_of 55 (by decide +kernel) rfl, ki_X7, mTbl_of 1548 (by decide +kernel) rfl, by decide +kernel, by decide⟩
theorem mv_7_drop : mMv M7_drop 30 1 := ⟨7, _, _, rfl, by decide, rfl, rfl, mTbl_of 1542 (by decide +kernel) rfl, mTbl_of 1543 (by decide +kernel) rfl, ki_X7, mTbl_of 1544 (by decide +kernel) rfl, by decide +kernel, by decide⟩
theorem mv_7_joins : mMv M7_joins 30 2 := ⟨7, _, _, rfl, by decide, rfl, rfl, mTbl_of 1555 (by decide +kernel) rfl, mTbl_of 56 (by decide +kernel) rfl, ki_X7, mTbl_of 1556 (by decide +kernel) rfl, by decide +kernel, by decide⟩
theorem mv_7_join : mMv M7_join 30 2 := ⟨7, _, _, rfl, by decide, rfl, rfl, mTbl_of 1550 (by decide +kernel) rfl, mTbl_of 1551 (by decide +kernel) rfl, ki_X7, mTbl_of 1552 (by decide +kernel) rfl, by decide +kernel, by decide⟩
theorem mv_7_cap : mMv M7_cap 30 1 := ⟨7, _, _, rfl, by decide, rfl, rfl, mTbl_of 1558 (by decide +kernel) rfl, mTbl_of 1559 (by decide +kernel) rfl, ki_X7, mTbl_of 1560 (by decide +kernel) rfl, by decide +kernel, by decide⟩
theorem mv_7_trust : mMv M7_trust 30 1 := ⟨7, _, _, rfl, by decide, rfl, rfl, mTbl_of 1562 (by decide +kernel) rfl, mTbl_of 1563 (by decide +kernel) rfl, ki_X7, mTbl_of 1564 (by decide +kernel) rfl, by decide +kernel, by decide⟩
theorem mv_7_fleet : mMv M7_fleet 30 2 := ⟨7, _, _, rfl, by decide, rfl, rfl, mTbl_of 1566 (by decide +kernel) rfl, mTbl_of 1567 (by decide +kernel) rfl, ki_X7, mTbl_of 1568 (by decide +kernel) rfl, by decide +kernel, by decide⟩
theorem mv_7_classesOf : mMv M7_classesOf 30 1 := ⟨7, _, _, rfl, by decide, rfl, rfl, mTbl_of 1575 (by decide +kernel) rfl, mTbl_of 57 (by decide +kernel) rfl, ki_X7, mTbl_of 1576 (by decide +kernel) rfl, by decide +kernel, by decide⟩
theorem mv_7_farthestOff : mMv M7_farthestOff 30 1 := ⟨7, _, _, rfl, by decide, rfl, rfl, mTbl_of 1579 (by decide +kernel) rfl, mTbl_of 58 (by decide +kernel) rfl, ki_X7, mTbl_of 1580 (by decide +kernel) rfl, by decide +kernel, by decide⟩
theorem mv_7_factor : mMv M7_factor 30 2 := ⟨7, _, _, rfl, by decide, rfl, rfl, mTbl_of 1570 (by decide +kernel) rfl, mTbl_of 1571 (by decide +kernel) rfl, ki_X7, mTbl_of 1572 (by decide +kernel) rfl, by decide +kernel, by decide⟩
theorem mv_7_margin : mMv M7_margin 30 3 := ⟨7, _, _, rfl, by decide, rfl, rfl, mTbl_of 1583 (by decide +kernel) rfl, mTbl_of 1584 (by decide +kernel) rfl, ki_X7, mTbl_of 1585 (by decide +kernel) rfl, by decide +kernel, by decide⟩
theorem mv_7_step : mMv M7_step 30 2 := ⟨7, _, _, rfl, by decide, rfl, rfl, mTbl_of 1588 (by decide +kernel) rfl, mTbl_of 1589 (by decide +kernel) rfl, ki_X7, mTbl_of 1590 (by decide +kernel) rfl, by decide +kernel, by decide⟩
theorem mv_7_swing : mMv M7_swing 30 3 := ⟨7, _, _, rfl, by decide, rfl, rfl, mTbl_of 1592 (by decide +kernel) rfl, mTbl_of 1593 (by decide +kernel) rfl, ki_X7, mTbl_of 1594 (by decide +kernel) rfl, by decide +kernel, by decide⟩
theorem mv_7_ratio : mMv M7_ratio 30 2 := ⟨7, _, _, rfl, by decide, rfl, rfl, mTbl_of 1596 (by decide +kernel) rfl, mTbl_of 1597 (by decide +kernel) rfl, ki_X7, mTbl_of 1598 (by decide +kernel) rfl, by decide +kernel, by decide⟩
theorem mv_7_share : mMv M7_share 30 2 := ⟨7, _, _, rfl, by decide, rfl, rfl, mTbl_of 1601 (by decide +kernel) rfl, mTbl_of 1602 (by decide +kernel) rfl, ki_X7, mTbl_of 1603 (by decide +kernel) rfl, by decide +kernel, by decide⟩
theorem mv_7_atEnd : mMv M7_atEnd 30 2 := ⟨7, _, _, rfl, by decide, rfl, rfl, mTbl_of 1605 (by decide +kernel) rfl, mTbl_of 1606 (by decide +kernel) rfl, ki_X7, mTbl_of 1607 (by decide +kernel) rfl, by decide +kernel, by decide⟩
theorem mv_7_mostOff : mMv M7_mostOff 30 0 := ⟨7, _, _, rfl, by decide, rfl, rfl, mTbl_of 1609 (by decide +kernel) rfl, mTbl_of 1610 (by decide +kernel) rfl, ki_X7, mTbl_of 1611 (by decide +kernel) rfl, by decide +kernel, by decide⟩
theorem mv_7_worst : mMv M7_worst 30 0 := ⟨7, _, _, rfl, by decide, rfl, rfl, mTbl_of 1613 (by decide +kernel) rfl, mTbl_of 1614 (by decide +kernel) rfl, ki_X7, mTbl_of 1615 (by decide +kernel) rfl, by decide +kernel, by decide⟩
theorem mv_7_lowerEnd : mMv M7_lowerEnd 30 1 := ⟨7, _, _, rfl, by decide, rfl, rfl, mTbl_of 1643 (by decide +kernel) rfl, mTbl_of 64 (by decide +kernel) rfl, ki_X7, mTbl_of 1644 (by decide +kernel) rfl, by decide +kernel, by decide⟩
theorem mv_7_upperEnd : mMv M7_upperEnd 30 1 := ⟨7, _, _, rfl, by decide, rfl, rfl, mTbl_of 1647 (by decide +kernel) rfl, mTbl_of 65 (by decide +kernel) rfl, ki_X7, mTbl_of 1648 (by decide +kernel) rfl, by decide +kernel, by decide⟩
theorem mv_7_rawBy : mMv M7_rawBy 30 2 := ⟨7, _, _, rfl, by decide, rfl, rfl, mTbl_of 1639 (by decide +kernel) rfl, mTbl_of 63 (by decide +kernel) rfl, ki_X7, mTbl_of 1640 (by decide +kernel) rfl, by decide +kernel, by decide⟩
theorem mv_7_cappedBy : mMv M7_cappedBy 30 2 := ⟨7, _, _, rfl, by decide, rfl, rfl, mTbl_of 1635 (by decide +kernel) rfl, mTbl_of 62 (by decide +kernel) rfl, ki_X7, mTbl_of 1636 (by decide +kernel) rfl, by decide +kernel, by decide⟩
theorem mv_7_allCapped : mMv M7_allCapped 30 1 := ⟨7, _, _, rfl, by decide, rfl, rfl, mTbl_of 1631 (by decide +kernel) rfl, mTbl_of 61 (by decide +kernel) rfl, ki_X7, mTbl_of 1632 (by decide +kernel) rfl, by decide +kernel, by decide⟩
theorem mv_7_offBalanceNow : mMv M7_offBalanceNow 30 0 := ⟨7, _, _, rfl, by decide, rfl, rfl, mTbl_of 1627 (by decide +kernel) rfl, mTbl_of 60 (by decide +kernel) rfl, ki_X7, mTbl_of 1628 (by decide +kernel) rfl, by decide +kernel, by decide⟩
theorem mv_7_byNow : mMv M7_byNow 30 0 := ⟨7, _, _, rfl, by decide, rfl, rfl, mTbl_of 1623 (by decide +kernel) rfl, mTbl_of 59 (by decide +kernel) rfl, ki_X7, mTbl_of 1624 (by decide +kernel) rfl, by decide +kernel, by decide⟩
theorem mv_7_changeBy : mMv M7_changeBy 30 2 := ⟨7, _, _, rfl, by decide, rfl, rfl, mTbl_of 1651 (by decide +kernel) rfl, mTbl_of 66 (by decide +kernel) rfl, ki_X7, mTbl_of 1652 (by decide +kernel) rfl, by decide +kernel, by decide⟩
theorem mv_7_of : mMv M7_of 30 2 := ⟨7, _, _, rfl, by decide, rfl, rfl, mTbl_of 1617 (by decide +kernel) rfl, mTbl_of 1618 (by decide +kernel) rfl, ki_X7, mTbl_of 1619 (by decide +kernel) rfl, by decide +kernel, by decide⟩
theorem mv_7_all : mMv M7_all 30 1 := ⟨7, _, _, rfl, by decide, rfl, rfl, mTbl_of 1654 (by decide +kernel) rfl, mTbl_of 1655 (by decide +kernel) rfl, ki_X7, mTbl_of 1656 (by decide +kernel) rfl, by decide +kernel, by decide⟩
theorem mv_7_offBalance : mMv M7_offBalance 30 0 := ⟨7, _, _, rfl, by decide, rfl, rfl, mTbl_of 1662 (by decide +kernel) rfl, mTbl_of 1663 (by decide +kernel) rfl, ki_X7, mTbl_of 1664 (by decide +kernel) rfl, by decide +kernel, by decide⟩
theorem mv_7_changes : mMv M7_changes 30 1 := ⟨7, _, _, rfl, by decide, rfl, rfl, mTbl_of 1666 (by decide +kernel) rfl, mTbl_of 1667 (by decide +kernel) rfl, ki_X7, mTbl_of 1668 (by decide +kernel) rfl, by decide +kernel, by decide⟩
theorem mv_7_hardest : mMv M7_hardest 30 1 := ⟨7, _, _, rfl, by decide, rfl, rfl, mTbl_of 1670 (by decide +kernel) rfl, mTbl_of 1671 (by decide +kernel) rfl, ki_X7, mTbl_of 1672 (by decide +kernel) rfl, by decide +kernel, by decide⟩
theorem mv_7_ranked : mMv M7_ranked 30 1 := ⟨7, _, _, rfl, by decide, rfl, rfl, mTbl_of 1674 (by decide +kernel) rfl, mTbl_of 1675 (by decide +kernel) rfl, ki_X7, mTbl_of 1676 (by decide +kernel) rfl, by decide +kernel, by decide⟩
theorem mv_7_goesAside : mMv M7_goesAside 30 0 := ⟨7, _, _, rfl, by decide, rfl, rfl, mTbl_of 1687 (by decide +kernel) rfl, mTbl_of 68 (by decide +kernel) rfl, ki_X7, mTbl_of 1688 (by decide +kernel) rfl, by decide +kernel, by decide⟩
theorem mv_7_comesBack : mMv M7_comesBack 30 0 := ⟨7, _, _, rfl, by decide, rfl, rfl, mTbl_of 1691 (by decide +kernel) rfl, mTbl_of 69 (by decide +kernel) rfl, ki_X7, mTbl_of 1692 (by decide +kernel) rfl, by decide +kernel, by decide⟩
theorem mv_7_leastCap : mMv M7_leastCap 30 0 := ⟨7, _, _, rfl, by decide, rfl, rfl, mTbl_of 1678 (by decide +kernel) rfl, mTbl_of 1679 (by decide +kernel) rfl, ki_X7, mTbl_of 1680 (by decide +kernel) rfl, by decide +kernel, by decide⟩
theorem mv_7_fitted : mMv M7_fitted 30 1 := ⟨7, _, _, rfl, by decide, rfl, rfl, mTbl_of 1682 (by decide +kernel) rfl, mTbl_of 1683 (by decide +kernel) rfl, ki_X7, mTbl_of 1684 (by decide +kernel) rfl, by decide +kernel, by decide⟩
theorem mv_7_unbalanced : mMv M7_unbalanced 30 0 := ⟨7, _, _, rfl, by decide, rfl, rfl, mTbl_of 1694 (by decide +kernel) rfl, mTbl_of 1695 (by decide +kernel) rfl, ki_X7, mTbl_of 1696 (by decide +kernel) rfl, by decide +kernel, by decide⟩
theorem mt_7_isRounds : mMt M7_isRounds 1 := ⟨mTbl_of 1702 (by decide +kernel) rfl, ki_X7, mTbl_of 1703 (by decide +kernel) rfl, by decide +kernel, by decide⟩
theorem mv_7_withoutFactor : mMv M7_withoutFactor 30 2 := ⟨7, _, _, rfl, by decide, rfl, rfl, mTbl_of 1698 (by decide +kernel) rfl, mTbl_of 1699 (by decide +kernel) rfl, ki_X7, mTbl_of 1700 (by decide +kernel) rfl, by decide +kernel, by decide⟩
theorem mv_7_bestJoin : mMv M7_bestJoin 30 2 := ⟨7, _, _, rfl, by decide, rfl, rfl, mTbl_of 1705 (by decide +kernel) rfl, mTbl_of 1706 (by decide +kernel) rfl, ki_X7, mTbl_of 1707 (by decide +kernel) rfl, by decide +kernel, by decide⟩
theorem mv_7_withoutRisk : mMv M7_withoutRisk 30 2 := ⟨7, _, _, rfl, by decide, rfl, rfl, mTbl_of 1709 (by decide +kernel) rfl, mTbl_of 1710 (by decide +kernel) rfl, ki_X7, mTbl_of 1711 (by decide +kernel) rfl, by decide +kernel, by decide⟩
theorem mv_7_quote : mMv M7_quote 30 2 := ⟨7, _, _, rfl, by decide, rfl, rfl, mTbl_of 1713 (by decide +kernel) rfl, mTbl_of 1714 (by decide +kernel) rfl, ki_X7, mTbl_of 1715 (by decide +kernel) rfl, by decide +kernel, by decide⟩
theorem mv_7_isMet : mMv M7_isMet 30 1 := ⟨7, _, _, rfl, by decide, rfl, rfl, mTbl_of 1722 (by decide +kernel) rfl, mTbl_of 70 (by decide +kernel) rfl, ki_X7, mTbl_of 1723 (by decide +kernel) rfl, by decide +kernel, by decide⟩
theorem mv_7_kinds : mMv M7_kinds 30 1 := ⟨7, _, _, rfl, by decide, rfl, rfl, mTbl_of 1717 (by decide +kernel) rfl, mTbl_of 1718 (by decide +kernel) rfl, ki_X7, mTbl_of 1719 (by decide +kernel) rfl, by decide +kernel, by decide⟩
theorem mv_7_draw : mMv M7_draw 30 1 := ⟨7, _, _, rfl, by decide, rfl, rfl, mTbl_of 1730 (by decide +kernel) rfl, mTbl_of 71 (by decide +kernel) rfl, ki_X7, mTbl_of 1731 (by decide +kernel) rfl, by decide +kernel, by decide⟩
theorem mv_7_chance : mMv M7_chance 30 5 := ⟨7, _, _, rfl, by decide, rfl, rfl, mTbl_of 1725 (by decide +kernel) rfl, mTbl_of 1726 (by decide +kernel) rfl, ki_X7, mTbl_of 1727 (by decide +kernel) rfl, by decide +kernel, by decide⟩
theorem mv_7_classes : mMv M7_classes 30 1 := ⟨7, _, _, rfl, by decide, rfl, rfl, mTbl_of 1740 (by decide +kernel) rfl, mTbl_of 72 (by decide +kernel) rfl, ki_X7, mTbl_of 1741 (by decide +kernel) rfl, by decide +kernel, by decide⟩
theorem mv_7_count : mMv M7_count 30 1 := ⟨7, _, _, rfl, by decide, rfl, rfl, mTbl_of 1735 (by decide +kernel) rfl, mTbl_of 1736 (by decide +kernel) rfl, ki_X7, mTbl_of 1737 (by decide +kernel) rfl, by decide +kernel, by decide⟩
theorem ki_J9 : Cond.initialized RJ9 ∈ mTbl := mTbl_of 82 (by decide +kernel) rfl
theorem mt_J9_floorDiv_f86c9 : mMt MJ9_floorDiv_f86c9 2 := ⟨mTbl_of 680 (by decide +kernel) rfl, ki_J9, mTbl_of 681 (by decide +kernel) rfl, by decide +kernel, by decide⟩
theorem mm_X6_355 : mMw RX6 355 Lib.MathLoose.min_long.x Lib.MathLoose.min_long.code 4 .long := ⟨mTbl_of 673 (by decide +kernel) rfl, mTbl_of 674 (by decide +kernel) rfl, mTbl_of 82 (by decide +kernel) rfl, mTbl_of 675 (by decide +kernel) rfl⟩
theorem mm_X6_361 : mMw RX6 361 Lib.MathLoose.max_long.x Lib.MathLoose.max_long.code 4 .long := ⟨mTbl_of 676 (by decide +kernel) rfl, mTbl_of 677 (by decide +kernel) rfl, mTbl_of 82 (by decide +kernel) rfl, mTbl_of 678 (by decide +kernel) rfl⟩
theorem mm_X1_70 : mMw RX1 70 Lib.MathLoose.min_long.x Lib.MathLoose.min_long.code 4 .long := ⟨mTbl_of 876 (by decide +kernel) rfl, mTbl_of 674 (by decide +kernel) rfl, mTbl_of 82 (by decide +kernel) rfl, mTbl_of 675 (by decide +kernel) rfl⟩
theorem mm_X1_76 : mMw RX1 76 Lib.MathLoose.max_long.x Lib.MathLoose.max_long.code 4 .long := ⟨mTbl_of 877 (by decide +kernel) rfl, mTbl_of 677 (by decide +kernel) rfl, mTbl_of 82 (by decide +kernel) rfl, mTbl_of 678 (by decide +kernel) rfl⟩
theorem mm_X2_105 : mMw RX2 105 Lib.MathLoose.abs_long.x Lib.MathLoose.abs_long.code 2 .long := ⟨mTbl_of 710 (by decide +kernel) rfl, mTbl_of 711 (by decide +kernel) rfl, mTbl_of 82 (by decide +kernel) rfl, mTbl_of 712 (by decide +kernel) rfl⟩
theorem mm_X5_21 : mMw RX5 21 Lib.Math.min.name Lib.Math.min.code 2 .int := ⟨mTbl_of 434 (by decide +kernel) rfl, mTbl_of 435 (by decide +kernel) rfl, mTbl_of 82 (by decide +kernel) rfl, mTbl_of 436 (by decide +kernel) rfl⟩
theorem mm_X5_27 : mMw RX5 27 Lib.Math.max.name Lib.Math.max.code 2 .int := ⟨mTbl_of 437 (by decide +kernel) rfl, mTbl_of 438 (by decide +kernel) rfl, mTbl_of 82 (by decide +kernel) rfl, mTbl_of 439 (by decide +kernel) rfl⟩
theorem ac_X0_52 : Cond.methodLink RX0 52 arraycopyName ∈ mTbl ∧ Cond.native arraycopyName ∈ mTbl ∧ Cond.static arraycopyName ∈ mTbl ∧ Cond.initialized "java/lang/System" ∈ mTbl := ⟨mTbl_of 606 (by decide +kernel) rfl, mTbl_of 601 (by decide +kernel) rfl, mTbl_of 600 (by decide +kernel) rfl, mTbl_of 87 (by decide +kernel) rfl⟩
theorem ac_X3_37 : Cond.methodLink RX3 37 arraycopyName ∈ mTbl ∧ Cond.native arraycopyName ∈ mTbl ∧ Cond.static arraycopyName ∈ mTbl ∧ Cond.initialized "java/lang/System" ∈ mTbl := ⟨mTbl_of 599 (by decide +kernel) rfl, mTbl_of 601 (by decide +kernel) rfl, mTbl_of 600 (by decide +kernel) rfl, mTbl_of 87 (by decide +kernel) rfl⟩
end
section
/-! what stands at which place of each method's code. By program (wip/whole/gen.py). -/
set_option maxRecDepth 100000 in
theorem d0_clear : ∀ q ∈ ([(0, .aload_n 0, 1, 1), (1, .iconst 0, 1, 2), (2, .putfield 30, 3, 5), (5, .aload_n 0, 1, 6), (6, .sipush 1000, 3, 9), (9, .putfield 34, 3, 12), (12, .aload_n 0, 1, 13), (13, .sipush 250, 3, 16), (16, .putfield 37, 3, 19), (19, .aload_n 0, 1, 20), (20, .iconst 0, 1, 21), (21, .putfield 40, 3, 24), (24, .aload_n 0, 1, 25), (25, .bipush 99, 2, 27), (27, .putfield 43, 3, 30), (30, .aload_n 0, 1, 31), (31, .iconst 0, 1, 32), (32, .putfield 46, 3, 35), (35, .iconst 0, 1, 36), (36, .istore_n 1, 1, 37), (37, .iload_n 1, 1, 38), (38, .bipush 32, 2, 40), (40, .if_icmp .ge 18, 3, 43), (43, .aload_n 0, 1, 44), (44, .getfield 24, 3, 47), (47, .iload_n 1, 1, 48), (48, .sipush 10000, 3, 51), (51, .iastore, 1, 52), (52, .iinc 1 1, 3, 55), (55, .goto (-18), 3, 58), (58, .aload_n 0, 1, 59), (59, .iconst 0, 1, 60), (60, .putfield 49, 3, 63), (63, .return_, 1, 64)] : List (Nat × Instr × Nat × Nat)), mDq M0_clear q := by decide +kernel
set_option maxRecDepth 100000 in
theorem d0_copyFrom : ∀ q ∈ ([(0, .aload_n 0, 1, 1), (1, .aload_n 1, 1, 2), (2, .getfield 30, 3, 5), (5, .putfield 30, 3, 8), (8, .aload_n 0, 1, 9), (9, .aload_n 1, 1, 10), (10, .getfield 34, 3, 13), (13, .putfield 34, 3, 16), (16, .aload_n 0, 1, 17), (17, .aload_n 1, 1, 18), (18, .getfield 37, 3, 21), (21, .putfield 37, 3, 24), (24, .aload_n 0, 1, 25), (25, .aload_n 1, 1, 26), (26, .getfield 40, 3, 29), (29, .putfield 40, 3, 32), (32, .aload_n 0, 1, 33), (33, .aload_n 1, 1, 34), (34, .getfield 43, 3, 37), (37, .putfield 43, 3, 40), (40, .aload_n 0, 1, 41), (41, .aload_n 1, 1, 42), (42, .getfield 46, 3, 45), (45, .putfield 46, 3, 48), (48, .aload_n 0, 1, 49), (49, .aload_n 1, 1, 50), (50, .getfield 49, 3, 53), (53, .putfield 49, 3, 56), (56, .aload_n 1, 1, 57), (57, .getfield 9, 3, 60), (60, .iconst 0, 1, 61), (61, .aload_n 0, 1, 62), (62, .getfield 9, 3, 65), (65, .iconst 0, 1, 66), (66, .bipush 40, 2, 68), (68, .invokestatic 52, 3, 71), (71, .aload_n 1, 1, 72), (72, .getfield 15, 3, 75), (75, .iconst 0, 1, 76), (76, .aload_n 0, 1, 77), (77, .getfield 15, 3, 80), (80, .iconst 0, 1, 81), (81, .bipush 40, 2, 83), (83, .invokestatic 52, 3, 86), (86, .aload_n 1, 1, 87), (87, .getfield 18, 3, 90), (90, .iconst 0, 1, 91), (91, .aload_n 0, 1, 92), (92, .getfield 18, 3, 95), (95, .iconst 0, 1, 96), (96, .bipush 40, 2, 98), (98, .invokestatic 52, 3, 101), (101, .aload_n 1, 1, 102), (102, .getfield 21, 3, 105), (105, .iconst 0, 1, 106), (106, .aload_n 0, 1, 107), (107, .getfield 21, 3, 110), (110, .iconst 0, 1, 111), (111, .bipush 40, 2, 113), (113, .invokestatic 52, 3, 116), (116, .aload_n 1, 1, 117), (117, .getfield 24, 3, 120), (120, .iconst 0, 1, 121), (121, .aload_n 0, 1, 122), (122, .getfield 24, 3, 125), (125, .iconst 0, 1, 126), (126, .bipush 32, 2, 128), (128, .invokestatic 52, 3, 131), (131, .return_, 1, 132)] : List (Nat × Instr × Nat × Nat)), mDq M0_copyFrom q := by decide +kernel
set_option maxRecDepth 100000 in
theorem d0_hasRisk : ∀ q ∈ ([(0, .iload_n 1, 1, 1), (1, .ifCond .lt 15, 3, 4), (4, .iload_n 1, 1, 5), (5, .aload_n 0, 1, 6), (6, .getfield 30, 3, 9), (9, .if_icmp .ge 7, 3, 12), (12, .iconst 1, 1, 13), (13, .goto 4, 3, 16), (16, .iconst 0, 1, 17), (17, .ireturn, 1, 18)] : List (Nat × Instr × Nat × Nat)), mDq M0_hasRisk q := by decide +kernel
set_option maxRecDepth 100000 in
theorem d0_addRisk : ∀ q ∈ ([(0, .aload_n 0, 1, 1), (1, .getfield 30, 3, 4), (4, .bipush 40, 2, 6), (6, .if_icmp .ge 54, 3, 9), (9, .aload_n 0, 1, 10), (10, .getfield 9, 3, 13), (13, .aload_n 0, 1, 14), (14, .getfield 30, 3, 17), (17, .iload_n 1, 1, 18), (18, .iastore, 1, 19), (19, .aload_n 0, 1, 20), (20, .getfield 15, 3, 23), (23, .aload_n 0, 1, 24), (24, .getfield 30, 3, 27), (27, .iload_n 2, 1, 28), (28, .iastore, 1, 29), (29, .aload_n 0, 1, 30), (30, .getfield 18, 3, 33), (33, .aload_n 0, 1, 34), (34, .getfield 30, 3, 37), (37, .iload_n 3, 1, 38), (38, .iastore, 1, 39), (39, .aload_n 0, 1, 40), (40, .getfield 21, 3, 43), (43, .aload_n 0, 1, 44), (44, .getfield 30, 3, 47), (47, .iload 4, 2, 49), (49, .iastore, 1, 50), (50, .aload_n 0, 1, 51), (51, .dup, 1, 52), (52, .getfield 30, 3, 55), (55, .iconst 1, 1, 56), (56, .iadd, 1, 57), (57, .putfield 30, 3, 60), (60, .return_, 1, 61)] : List (Nat × Instr × Nat × Nat)), mDq M0_addRisk q := by decide +kernel
set_option maxRecDepth 100000 in
theorem d0_removeRisk : ∀ q ∈ ([(0, .aload_n 0, 1, 1), (1, .iload_n 1, 1, 2), (2, .invokevirtual 58, 3, 5), (5, .ifCond .ne 4, 3, 8), (8, .return_, 1, 9), (9, .aload_n 0, 1, 10), (10, .dup, 1, 11), (11, .getfield 30, 3, 14), (14, .iconst 1, 1, 15), (15, .isub, 1, 16), (16, .putfield 30, 3, 19), (19, .iload_n 1, 1, 20), (20, .istore_n 2, 1, 21), (21, .iload_n 2, 1, 22), (22, .aload_n 0, 1, 23), (23, .getfield 30, 3, 26), (26, .if_icmp .ge 65, 3, 29), (29, .aload_n 0, 1, 30), (30, .getfield 9, 3, 33), (33, .iload_n 2, 1, 34), (34, .aload_n 0, 1, 35), (35, .getfield 9, 3, 38), (38, .iload_n 2, 1, 39), (39, .iconst 1, 1, 40), (40, .iadd, 1, 41), (41, .iaload, 1, 42), (42, .iastore, 1, 43), (43, .aload_n 0, 1, 44), (44, .getfield 15, 3, 47), (47, .iload_n 2, 1, 48), (48, .aload_n 0, 1, 49), (49, .getfield 15, 3, 52), (52, .iload_n 2, 1, 53), (53, .iconst 1, 1, 54), (54, .iadd, 1, 55), (55, .iaload, 1, 56), (56, .iastore, 1, 57), (57, .aload_n 0, 1, 58), (58, .getfield 18, 3, 61), (61, .iload_n 2, 1, 62), (62, .aload_n 0, 1, 63), (63, .getfield 18, 3, 66), (66, .iload_n 2, 1, 67), (67, .iconst 1, 1, 68), (68, .iadd, 1, 69), (69, .iaload, 1, 70), (70, .iastore, 1, 71), (71, .aload_n 0, 1, 72), (72, .getfield 21, 3, 75), (75, .iload_n 2, 1, 76), (76, .aload_n 0, 1, 77), (77, .getfield 21, 3, 80), (80, .iload_n 2, 1, 81), (81, .iconst 1, 1, 82), (82, .iadd, 1, 83), (83, .iaload, 1, 84), (84, .iastore, 1, 85), (85, .iinc 2 1, 3, 88), (88, .goto (-67), 3, 91), (91, .return_, 1, 92)] : List (Nat × Instr × Nat × Nat)), mDq M0_removeRisk q := by decide +kernel
set_option maxRecDepth 100000 in
theorem d0_isJoined : ∀ q ∈ ([(0, .aload_n 0, 1, 1), (1, .getfield 49, 3, 4), (4, .iload_n 1, 1, 5), (5, .iload_n 2, 1, 6), (6, .invokestatic 62, 3, 9), (9, .ishr, 1, 10), (10, .iconst 1, 1, 11), (11, .iand, 1, 12), (12, .ifCond .eq 7, 3, 15), (15, .iconst 1, 1, 16), (16, .goto 4, 3, 19), (19, .iconst 0, 1, 20), (20, .ireturn, 1, 21)] : List (Nat × Instr × Nat × Nat)), mDq M0_isJoined q := by decide +kernel
set_option maxRecDepth 100000 in
theorem d0_startsClass : ∀ q ∈ ([(0, .iload_n 2, 1, 1), (1, .ifCond .le 14, 3, 4), (4, .aload_n 0, 1, 5), (5, .iload_n 1, 1, 6), (6, .iload_n 2, 1, 7), (7, .iconst 1, 1, 8), (8, .isub, 1, 9), (9, .invokevirtual 66, 3, 12), (12, .ifCond .ne 7, 3, 15), (15, .iconst 1, 1, 16), (16, .goto 4, 3, 19), (19, .iconst 0, 1, 20), (20, .ireturn, 1, 21)] : List (Nat × Instr × Nat × Nat)), mDq M0_startsClass q := by decide +kernel
set_option maxRecDepth 100000 in
theorem d0_firstOf : ∀ q ∈ ([(0, .iload_n 2, 1, 1), (1, .istore_n 3, 1, 2), (2, .iconst 0, 1, 3), (3, .istore 4, 2, 5), (5, .iload 4, 2, 7), (7, .bipush 6, 2, 9), (9, .if_icmp .ge 27, 3, 12), (12, .iload_n 3, 1, 13), (13, .ifCond .le 23, 3, 16), (16, .aload_n 0, 1, 17), (17, .iload_n 1, 1, 18), (18, .iload_n 3, 1, 19), (19, .iconst 1, 1, 20), (20, .isub, 1, 21), (21, .invokevirtual 66, 3, 24), (24, .ifCond .eq 12, 3, 27), (27, .iinc 3 (-1), 3, 30), (30, .iinc 4 1, 3, 33), (33, .goto (-28), 3, 36), (36, .iload_n 3, 1, 37), (37, .ireturn, 1, 38)] : List (Nat × Instr × Nat × Nat)), mDq M0_firstOf q := by decide +kernel
set_option maxRecDepth 100000 in
theorem d0_lastOf : ∀ q ∈ ([(0, .iload_n 2, 1, 1), (1, .istore_n 3, 1, 2), (2, .iconst 0, 1, 3), (3, .istore 4, 2, 5), (5, .iload 4, 2, 7), (7, .bipush 6, 2, 9), (9, .if_icmp .ge 26, 3, 12), (12, .iload_n 3, 1, 13), (13, .iconst 5, 1, 14), (14, .if_icmp .ge 21, 3, 17), (17, .aload_n 0, 1, 18), (18, .iload_n 1, 1, 19), (19, .iload_n 3, 1, 20), (20, .invokevirtual 66, 3, 23), (23, .ifCond .eq 12, 3, 26), (26, .iinc 3 1, 3, 29), (29, .iinc 4 1, 3, 32), (32, .goto (-27), 3, 35), (35, .iload_n 3, 1, 36), (36, .ireturn, 1, 37)] : List (Nat × Instr × Nat × Nat)), mDq M0_lastOf q := by decide +kernel
set_option maxRecDepth 100000 in
theorem d0_setClass : ∀ q ∈ ([(0, .aload_n 0, 1, 1), (1, .iload_n 1, 1, 2), (2, .iload_n 2, 1, 3), (3, .invokevirtual 70, 3, 6), (6, .istore 4, 2, 8), (8, .aload_n 0, 1, 9), (9, .iload_n 1, 1, 10), (10, .iload_n 2, 1, 11), (11, .invokevirtual 73, 3, 14), (14, .istore 5, 2, 16), (16, .iload 5, 2, 18), (18, .iload 4, 2, 20), (20, .if_icmp .gt 21, 3, 23), (23, .aload_n 0, 1, 24), (24, .getfield 24, 3, 27), (27, .iload_n 1, 1, 28), (28, .iload 5, 2, 30), (30, .invokestatic 62, 3, 33), (33, .iload_n 3, 1, 34), (34, .iastore, 1, 35), (35, .iinc 5 1, 3, 38), (38, .goto (-22), 3, 41), (41, .return_, 1, 42)] : List (Nat × Instr × Nat × Nat)), mDq M0_setClass q := by decide +kernel
set_option maxRecDepth 100000 in
theorem d0_setAll : ∀ q ∈ ([(0, .iconst 0, 1, 1), (1, .istore_n 3, 1, 2), (2, .iload_n 3, 1, 3), (3, .bipush 6, 2, 5), (5, .if_icmp .ge 20, 3, 8), (8, .aload_n 0, 1, 9), (9, .getfield 24, 3, 12), (12, .iload_n 1, 1, 13), (13, .iload_n 3, 1, 14), (14, .invokestatic 62, 3, 17), (17, .iload_n 2, 1, 18), (18, .iastore, 1, 19), (19, .iinc 3 1, 3, 22), (22, .goto (-20), 3, 25), (25, .return_, 1, 26)] : List (Nat × Instr × Nat × Nat)), mDq M0_setAll q := by decide +kernel
set_option maxRecDepth 100000 in
theorem d0_joinToNext : ∀ q ∈ ([(0, .aload_n 0, 1, 1), (1, .iload_n 1, 1, 2), (2, .iload_n 2, 1, 3), (3, .invokevirtual 76, 3, 6), (6, .aload_n 0, 1, 7), (7, .iload_n 1, 1, 8), (8, .iload_n 2, 1, 9), (9, .aload_n 0, 1, 10), (10, .getfield 24, 3, 13), (13, .iload_n 1, 1, 14), (14, .iload_n 2, 1, 15), (15, .invokestatic 62, 3, 18), (18, .iaload, 1, 19), (19, .invokevirtual 80, 3, 22), (22, .return_, 1, 23)] : List (Nat × Instr × Nat × Nat)), mDq M0_joinToNext q := by decide +kernel
set_option maxRecDepth 100000 in
theorem d0_mark : ∀ q ∈ ([(0, .aload_n 0, 1, 1), (1, .dup, 1, 2), (2, .getfield 49, 3, 5), (5, .iconst 1, 1, 6), (6, .iload_n 1, 1, 7), (7, .iload_n 2, 1, 8), (8, .invokestatic 62, 3, 11), (11, .ishl, 1, 12), (12, .ior, 1, 13), (13, .putfield 49, 3, 16), (16, .return_, 1, 17)] : List (Nat × Instr × Nat × Nat)), mDq M0_mark q := by decide +kernel
set_option maxRecDepth 100000 in
theorem d0_part : ∀ q ∈ ([(0, .aload_n 0, 1, 1), (1, .dup, 1, 2), (2, .getfield 49, 3, 5), (5, .iconst 1, 1, 6), (6, .iload_n 1, 1, 7), (7, .iload_n 2, 1, 8), (8, .invokestatic 62, 3, 11), (11, .ishl, 1, 12), (12, .iconst (-1), 1, 13), (13, .ixor, 1, 14), (14, .iand, 1, 15), (15, .putfield 49, 3, 18), (18, .return_, 1, 19)] : List (Nat × Instr × Nat × Nat)), mDq M0_part q := by decide +kernel
set_option maxRecDepth 100000 in
theorem d0_sumOf : ∀ q ∈ ([(0, .lconst 0, 1, 1), (1, .lstore_n 2, 1, 2), (2, .iconst 0, 1, 3), (3, .istore 4, 2, 5), (5, .iload 4, 2, 7), (7, .aload_n 0, 1, 8), (8, .getfield 30, 3, 11), (11, .if_icmp .ge 24, 3, 14), (14, .iload 4, 2, 16), (16, .aload_n 1, 1, 17), (17, .arraylength, 1, 18), (18, .if_icmp .ge 17, 3, 21), (21, .lload_n 2, 1, 22), (22, .aload_n 1, 1, 23), (23, .iload 4, 2, 25), (25, .iaload, 1, 26), (26, .i2l, 1, 27), (27, .ladd, 1, 28), (28, .lstore_n 2, 1, 29), (29, .iinc 4 1, 3, 32), (32, .goto (-27), 3, 35), (35, .lload_n 2, 1, 36), (36, .lreturn, 1, 37)] : List (Nat × Instr × Nat × Nat)), mDq M0_sumOf q := by decide +kernel
set_option maxRecDepth 100000 in
theorem d0_countFleets : ∀ q ∈ ([(0, .iconst 0, 1, 1), (1, .istore_n 1, 1, 2), (2, .iconst 0, 1, 3), (3, .istore_n 2, 1, 4), (4, .iload_n 2, 1, 5), (5, .aload_n 0, 1, 6), (6, .getfield 30, 3, 9), (9, .if_icmp .ge 25, 3, 12), (12, .aload_n 0, 1, 13), (13, .getfield 9, 3, 16), (16, .iload_n 2, 1, 17), (17, .iaload, 1, 18), (18, .aload_n 0, 1, 19), (19, .getfield 43, 3, 22), (22, .if_icmp .lt 6, 3, 25), (25, .iinc 1 1, 3, 28), (28, .iinc 2 1, 3, 31), (31, .goto (-27), 3, 34), (34, .iload_n 1, 1, 35), (35, .ireturn, 1, 36)] : List (Nat × Instr × Nat × Nat)), mDq M0_countFleets q := by decide +kernel
set_option maxRecDepth 100000 in
theorem d0_countKinds : ∀ q ∈ ([(0, .iconst 0, 1, 1), (1, .istore_n 1, 1, 2), (2, .iconst 0, 1, 3), (3, .istore_n 2, 1, 4), (4, .iload_n 2, 1, 5), (5, .aload_n 0, 1, 6), (6, .getfield 30, 3, 9), (9, .if_icmp .ge 20, 3, 12), (12, .aload_n 0, 1, 13), (13, .iload_n 2, 1, 14), (14, .invokevirtual 84, 3, 17), (17, .ifCond .eq 6, 3, 20), (20, .iinc 1 1, 3, 23), (23, .iinc 2 1, 3, 26), (26, .goto (-22), 3, 29), (29, .iload_n 1, 1, 30), (30, .ireturn, 1, 31)] : List (Nat × Instr × Nat × Nat)), mDq M0_countKinds q := by decide +kernel
set_option maxRecDepth 100000 in
theorem d0_isFirstOfKind : ∀ q ∈ ([(0, .iconst 0, 1, 1), (1, .istore_n 2, 1, 2), (2, .iload_n 2, 1, 3), (3, .iload_n 1, 1, 4), (4, .if_icmp .ge 26, 3, 7), (7, .aload_n 0, 1, 8), (8, .getfield 21, 3, 11), (11, .iload_n 2, 1, 12), (12, .iaload, 1, 13), (13, .aload_n 0, 1, 14), (14, .getfield 21, 3, 17), (17, .iload_n 1, 1, 18), (18, .iaload, 1, 19), (19, .if_icmp .ne 5, 3, 22), (22, .iconst 0, 1, 23), (23, .ireturn, 1, 24), (24, .iinc 2 1, 3, 27), (27, .goto (-25), 3, 30), (30, .iconst 1, 1, 31), (31, .ireturn, 1, 32)] : List (Nat × Instr × Nat × Nat)), mDq M0_isFirstOfKind q := by decide +kernel
set_option maxRecDepth 100000 in
theorem d0_drawClaims : ∀ q ∈ ([(0, .iload_n 1, 1, 1), (1, .i2l, 1, 2), (2, .lstore 4, 2, 4), (4, .iconst 0, 1, 5), (5, .istore 6, 2, 7), (7, .iload 6, 2, 9), (9, .iload_n 2, 1, 10), (10, .if_icmp .ge 56, 3, 13), (13, .lload 4, 2, 15), (15, .invokestatic 87, 3, 18), (18, .lstore 4, 2, 20), (20, .lload 4, 2, 22), (22, .aload_n 0, 1, 23), (23, .getfield 30, 3, 26), (26, .invokestatic 91, 3, 29), (29, .istore 7, 2, 31), (31, .lload 4, 2, 33), (33, .invokestatic 87, 3, 36), (36, .lstore 4, 2, 38), (38, .aload_n 0, 1, 39), (39, .iload 7, 2, 41), (41, .invokevirtual 58, 3, 44), (44, .ifCond .eq 16, 3, 47), (47, .aload_n 0, 1, 48), (48, .getfield 15, 3, 51), (51, .iload 7, 2, 53), (53, .lload 4, 2, 55), (55, .iload_n 3, 1, 56), (56, .invokestatic 91, 3, 59), (59, .iastore, 1, 60), (60, .iinc 6 1, 3, 63), (63, .goto (-56), 3, 66), (66, .return_, 1, 67)] : List (Nat × Instr × Nat × Nat)), mDq M0_drawClaims q := by decide +kernel
set_option maxRecDepth 100000 in
theorem d0_numberBehind : ∀ q ∈ ([(0, .lload_n 0, 1, 1), (1, .ldc2_w 95, 3, 4), (4, .lmul, 1, 5), (5, .ldc2_w 97, 3, 8), (8, .ladd, 1, 9), (9, .ldc2_w 99, 3, 12), (12, .land, 1, 13), (13, .lreturn, 1, 14)] : List (Nat × Instr × Nat × Nat)), mDq M0_numberBehind q := by decide +kernel
set_option maxRecDepth 100000 in
theorem d0_drawn : ∀ q ∈ ([(0, .iload_n 2, 1, 1), (1, .ifCond .gt 7, 3, 4), (4, .iconst 0, 1, 5), (5, .goto 11, 3, 8), (8, .lload_n 0, 1, 9), (9, .bipush 16, 2, 11), (11, .lshr, 1, 12), (12, .iload_n 2, 1, 13), (13, .i2l, 1, 14), (14, .lrem, 1, 15), (15, .l2i, 1, 16), (16, .ireturn, 1, 17)] : List (Nat × Instr × Nat × Nat)), mDq M0_drawn q := by decide +kernel
set_option maxRecDepth 100000 in
theorem d1_settle : ∀ q ∈ ([(0, .aload_n 0, 1, 1), (1, .getfield 15, 3, 4), (4, .invokevirtual 26, 3, 7), (7, .aload_n 0, 1, 8), (8, .aload_n 0, 1, 9), (9, .invokevirtual 29, 3, 12), (12, .putfield 33, 3, 15), (15, .aload_n 0, 1, 16), (16, .aload_n 0, 1, 17), (17, .getfield 33, 3, 20), (20, .bipush (-2), 2, 22), (22, .if_icmp .ne 9, 3, 25), (25, .sipush 10000, 3, 28), (28, .goto 7, 3, 31), (31, .aload_n 0, 1, 32), (32, .getfield 33, 3, 35), (35, .putfield 37, 3, 38), (38, .iconst 0, 1, 39), (39, .istore_n 1, 1, 40), (40, .iload_n 1, 1, 41), (41, .aload_n 0, 1, 42), (42, .getfield 25, 3, 45), (45, .getfield 40, 3, 48), (48, .if_icmp .ge 31, 3, 51), (51, .aload_n 0, 1, 52), (52, .getfield 9, 3, 55), (55, .iload_n 1, 1, 56), (56, .aload_n 0, 1, 57), (57, .iload_n 1, 1, 58), (58, .aload_n 0, 1, 59), (59, .getfield 37, 3, 62), (62, .aload_n 0, 1, 63), (63, .getfield 25, 3, 66), (66, .getfield 45, 3, 69), (69, .invokevirtual 48, 3, 72), (72, .lastore, 1, 73), (73, .iinc 1 1, 3, 76), (76, .goto (-36), 3, 79), (79, .return_, 1, 80)] : List (Nat × Instr × Nat × Nat)), mDq M1_settle q := by decide +kernel
set_option maxRecDepth 100000 in
theorem d1_scaled : ∀ q ∈ ([(0, .aload_n 0, 1, 1), (1, .getfield 15, 3, 4), (4, .getfield 52, 3, 7), (7, .iload_n 1, 1, 8), (8, .laload, 1, 9), (9, .iload_n 2, 1, 10), (10, .i2l, 1, 11), (11, .lmul, 1, 12), (12, .ldc2_w 55, 3, 15), (15, .ldiv, 1, 16), (16, .lreturn, 1, 17)] : List (Nat × Instr × Nat × Nat)), mDq M1_scaled q := by decide +kernel
set_option maxRecDepth 100000 in
theorem d1_leeway : ∀ q ∈ ([(0, .aload_n 0, 1, 1), (1, .getfield 25, 3, 4), (4, .getfield 57, 3, 7), (7, .iload_n 1, 1, 8), (8, .iaload, 1, 9), (9, .i2l, 1, 10), (10, .iload_n 2, 1, 11), (11, .i2l, 1, 12), (12, .lmul, 1, 13), (13, .ldc2_w 61, 3, 16), (16, .ldiv, 1, 17), (17, .lreturn, 1, 18)] : List (Nat × Instr × Nat × Nat)), mDq M1_leeway q := by decide +kernel
set_option maxRecDepth 100000 in
theorem d1_cappedBy : ∀ q ∈ ([(0, .aload_n 0, 1, 1), (1, .getfield 25, 3, 4), (4, .getfield 57, 3, 7), (7, .iload_n 1, 1, 8), (8, .iaload, 1, 9), (9, .i2l, 1, 10), (10, .lstore 4, 2, 12), (12, .aload_n 0, 1, 13), (13, .iload_n 1, 1, 14), (14, .iload_n 3, 1, 15), (15, .invokevirtual 63, 3, 18), (18, .lstore 6, 2, 20), (20, .lload 4, 2, 22), (22, .lload 6, 2, 24), (24, .lsub, 1, 25), (25, .lload 4, 2, 27), (27, .lload 6, 2, 29), (29, .ladd, 1, 30), (30, .aload_n 0, 1, 31), (31, .iload_n 1, 1, 32), (32, .iload_n 2, 1, 33), (33, .invokevirtual 67, 3, 36), (36, .invokestatic 70, 3, 39), (39, .invokestatic 76, 3, 42), (42, .lreturn, 1, 43)] : List (Nat × Instr × Nat × Nat)), mDq M1_cappedBy q := by decide +kernel
set_option maxRecDepth 100000 in
theorem d1_sumBy : ∀ q ∈ ([(0, .lconst 0, 1, 1), (1, .lstore_n 3, 1, 2), (2, .iconst 0, 1, 3), (3, .istore 5, 2, 5), (5, .iload 5, 2, 7), (7, .aload_n 0, 1, 8), (8, .getfield 25, 3, 11), (11, .getfield 40, 3, 14), (14, .if_icmp .ge 20, 3, 17), (17, .lload_n 3, 1, 18), (18, .aload_n 0, 1, 19), (19, .iload 5, 2, 21), (21, .iload_n 1, 1, 22), (22, .iload_n 2, 1, 23), (23, .invokevirtual 48, 3, 26), (26, .ladd, 1, 27), (27, .lstore_n 3, 1, 28), (28, .iinc 5 1, 3, 31), (31, .goto (-26), 3, 34), (34, .lload_n 3, 1, 35), (35, .lreturn, 1, 36)] : List (Nat × Instr × Nat × Nat)), mDq M1_sumBy q := by decide +kernel
set_option maxRecDepth 100000 in
theorem d1_searchOffBalance : ∀ q ∈ ([(0, .aload_n 0, 1, 1), (1, .getfield 25, 3, 4), (4, .aload_n 0, 1, 5), (5, .getfield 25, 3, 8), (8, .getfield 79, 3, 11), (11, .invokevirtual 82, 3, 14), (14, .lstore_n 1, 1, 15), (15, .aload_n 0, 1, 16), (16, .ldc 86, 2, 18), (18, .aload_n 0, 1, 19), (19, .getfield 25, 3, 22), (22, .getfield 45, 3, 25), (25, .invokevirtual 87, 3, 28), (28, .lload_n 1, 1, 29), (29, .lcmp, 1, 30), (30, .ifCond .ge 6, 3, 33), (33, .bipush (-2), 2, 35), (35, .ireturn, 1, 36), (36, .iconst 0, 1, 37), (37, .istore_n 3, 1, 38), (38, .ldc 86, 2, 40), (40, .istore 4, 2, 42), (42, .iconst 0, 1, 43), (43, .istore 5, 2, 45), (45, .iload 5, 2, 47), (47, .bipush 20, 2, 49), (49, .if_icmp .ge 53, 3, 52), (52, .iload_n 3, 1, 53), (53, .iload 4, 2, 55), (55, .if_icmp .ge 47, 3, 58), (58, .iload_n 3, 1, 59), (59, .iload 4, 2, 61), (61, .iadd, 1, 62), (62, .iconst 1, 1, 63), (63, .ishr, 1, 64), (64, .istore 6, 2, 66), (66, .aload_n 0, 1, 67), (67, .iload 6, 2, 69), (69, .aload_n 0, 1, 70), (70, .getfield 25, 3, 73), (73, .getfield 45, 3, 76), (76, .invokevirtual 87, 3, 79), (79, .lload_n 1, 1, 80), (80, .lcmp, 1, 81), (81, .ifCond .lt 10, 3, 84), (84, .iload 6, 2, 86), (86, .istore 4, 2, 88), (88, .goto 8, 3, 91), (91, .iload 6, 2, 93), (93, .iconst 1, 1, 94), (94, .iadd, 1, 95), (95, .istore_n 3, 1, 96), (96, .iinc 5 1, 3, 99), (99, .goto (-54), 3, 102), (102, .iload 4, 2, 104), (104, .ireturn, 1, 105)] : List (Nat × Instr × Nat × Nat)), mDq M1_searchOffBalance q := by decide +kernel
set_option maxRecDepth 100000 in
theorem d1_searchCap : ∀ q ∈ ([(0, .aload_n 0, 1, 1), (1, .getfield 15, 3, 4), (4, .invokevirtual 26, 3, 7), (7, .aload_n 0, 1, 8), (8, .getfield 25, 3, 11), (11, .aload_n 0, 1, 12), (12, .getfield 25, 3, 15), (15, .getfield 79, 3, 18), (18, .invokevirtual 82, 3, 21), (21, .lstore_n 1, 1, 22), (22, .iconst 0, 1, 23), (23, .istore_n 3, 1, 24), (24, .iload_n 3, 1, 25), (25, .sipush 999, 3, 28), (28, .if_icmp .gt 23, 3, 31), (31, .aload_n 0, 1, 32), (32, .ldc 86, 2, 34), (34, .iload_n 3, 1, 35), (35, .invokevirtual 87, 3, 38), (38, .lload_n 1, 1, 39), (39, .lcmp, 1, 40), (40, .ifCond .lt 5, 3, 43), (43, .iload_n 3, 1, 44), (44, .ireturn, 1, 45), (45, .iinc 3 1, 3, 48), (48, .goto (-24), 3, 51), (51, .bipush (-2), 2, 53), (53, .ireturn, 1, 54)] : List (Nat × Instr × Nat × Nat)), mDq M1_searchCap q := by decide +kernel
set_option maxRecDepth 100000 in
theorem d1_sumCapped : ∀ q ∈ ([(0, .lconst 0, 1, 1), (1, .lstore_n 1, 1, 2), (2, .iconst 0, 1, 3), (3, .istore_n 3, 1, 4), (4, .iload_n 3, 1, 5), (5, .aload_n 0, 1, 6), (6, .getfield 25, 3, 9), (9, .getfield 40, 3, 12), (12, .if_icmp .ge 18, 3, 15), (15, .lload_n 1, 1, 16), (16, .aload_n 0, 1, 17), (17, .getfield 9, 3, 20), (20, .iload_n 3, 1, 21), (21, .laload, 1, 22), (22, .ladd, 1, 23), (23, .lstore_n 1, 1, 24), (24, .iinc 3 1, 3, 27), (27, .goto (-23), 3, 30), (30, .lload_n 1, 1, 31), (31, .lreturn, 1, 32)] : List (Nat × Instr × Nat × Nat)), mDq M1_sumCapped q := by decide +kernel
set_option maxRecDepth 100000 in
theorem d1_changeOf : ∀ q ∈ ([(0, .aload_n 0, 1, 1), (1, .getfield 9, 3, 4), (4, .iload_n 1, 1, 5), (5, .laload, 1, 6), (6, .aload_n 0, 1, 7), (7, .getfield 25, 3, 10), (10, .getfield 57, 3, 13), (13, .iload_n 1, 1, 14), (14, .iaload, 1, 15), (15, .i2l, 1, 16), (16, .lsub, 1, 17), (17, .lreturn, 1, 18)] : List (Nat × Instr × Nat × Nat)), mDq M1_changeOf q := by decide +kernel
set_option maxRecDepth 100000 in
theorem d1_isChanged : ∀ q ∈ ([(0, .iload_n 2, 1, 1), (1, .tableswitch 84 0 2 #[27, 43, 59], 27, 28), (28, .aload_n 0, 1, 29), (29, .iload_n 1, 1, 30), (30, .invokevirtual 90, 3, 33), (33, .lconst 0, 1, 34), (34, .lcmp, 1, 35), (35, .ifCond .le 7, 3, 38), (38, .iconst 1, 1, 39), (39, .goto 4, 3, 42), (42, .iconst 0, 1, 43), (43, .ireturn, 1, 44), (44, .aload_n 0, 1, 45), (45, .iload_n 1, 1, 46), (46, .invokevirtual 90, 3, 49), (49, .lconst 0, 1, 50), (50, .lcmp, 1, 51), (51, .ifCond .ge 7, 3, 54), (54, .iconst 1, 1, 55), (55, .goto 4, 3, 58), (58, .iconst 0, 1, 59), (59, .ireturn, 1, 60), (60, .aload_n 0, 1, 61), (61, .iload_n 1, 1, 62), (62, .aload_n 0, 1, 63), (63, .getfield 37, 3, 66), (66, .invokevirtual 67, 3, 69), (69, .aload_n 0, 1, 70), (70, .getfield 9, 3, 73), (73, .iload_n 1, 1, 74), (74, .laload, 1, 75), (75, .lcmp, 1, 76), (76, .ifCond .ge 7, 3, 79), (79, .iconst 1, 1, 80), (80, .goto 4, 3, 83), (83, .iconst 0, 1, 84), (84, .ireturn, 1, 85), (85, .aload_n 0, 1, 86), (86, .iload_n 1, 1, 87), (87, .aload_n 0, 1, 88), (88, .getfield 37, 3, 91), (91, .invokevirtual 67, 3, 94), (94, .aload_n 0, 1, 95), (95, .getfield 9, 3, 98), (98, .iload_n 1, 1, 99), (99, .laload, 1, 100), (100, .lcmp, 1, 101), (101, .ifCond .le 7, 3, 104), (104, .iconst 1, 1, 105), (105, .goto 4, 3, 108), (108, .iconst 0, 1, 109), (109, .ireturn, 1, 110)] : List (Nat × Instr × Nat × Nat)), mDq M1_isChanged q := by decide +kernel
set_option maxRecDepth 100000 in
theorem d1_rankOf : ∀ q ∈ ([(0, .iconst 0, 1, 1), (1, .istore_n 2, 1, 2), (2, .iconst 0, 1, 3), (3, .istore_n 3, 1, 4), (4, .iload_n 3, 1, 5), (5, .aload_n 0, 1, 6), (6, .getfield 25, 3, 9), (9, .getfield 40, 3, 12), (12, .if_icmp .ge 44, 3, 15), (15, .aload_n 0, 1, 16), (16, .iload_n 3, 1, 17), (17, .invokevirtual 90, 3, 20), (20, .aload_n 0, 1, 21), (21, .iload_n 1, 1, 22), (22, .invokevirtual 90, 3, 25), (25, .lsub, 1, 26), (26, .lstore 4, 2, 28), (28, .lload 4, 2, 30), (30, .lconst 0, 1, 31), (31, .lcmp, 1, 32), (32, .ifCond .lt 15, 3, 35), (35, .lload 4, 2, 37), (37, .lconst 0, 1, 38), (38, .lcmp, 1, 39), (39, .ifCond .ne 11, 3, 42), (42, .iload_n 3, 1, 43), (43, .iload_n 1, 1, 44), (44, .if_icmp .ge 6, 3, 47), (47, .iinc 2 1, 3, 50), (50, .iinc 3 1, 3, 53), (53, .goto (-49), 3, 56), (56, .iload_n 2, 1, 57), (57, .ireturn, 1, 58)] : List (Nat × Instr × Nat × Nat)), mDq M1_rankOf q := by decide +kernel
set_option maxRecDepth 100000 in
theorem d2_behindFactors : ∀ q ∈ ([(0, .iload_n 1, 1, 1), (1, .i2l, 1, 2), (2, .aload_n 0, 1, 3), (3, .getfield 32, 3, 6), (6, .getfield 36, 3, 9), (9, .i2l, 1, 10), (10, .lmul, 1, 11), (11, .lstore 4, 2, 13), (13, .iload_n 2, 1, 14), (14, .istore 6, 2, 16), (16, .iconst 0, 1, 17), (17, .istore 7, 2, 19), (19, .iload 7, 2, 21), (21, .iload_n 3, 1, 22), (22, .if_icmp .ge 49, 3, 25), (25, .iload 7, 2, 27), (27, .iconst 4, 1, 28), (28, .if_icmp .ge 43, 3, 31), (31, .lload 4, 2, 33), (33, .aload_n 0, 1, 34), (34, .getfield 32, 3, 37), (37, .getfield 42, 3, 40), (40, .iload 7, 2, 42), (42, .iconst 3, 1, 43), (43, .ishl, 1, 44), (44, .iload 6, 2, 46), (46, .bipush 7, 2, 48), (48, .iand, 1, 49), (49, .ior, 1, 50), (50, .iaload, 1, 51), (51, .i2l, 1, 52), (52, .lmul, 1, 53), (53, .ldc2_w 45, 3, 56), (56, .ldiv, 1, 57), (57, .lstore 4, 2, 59), (59, .iload 6, 2, 61), (61, .iconst 3, 1, 62), (62, .ishr, 1, 63), (63, .istore 6, 2, 65), (65, .iinc 7 1, 3, 68), (68, .goto (-49), 3, 71), (71, .lload 4, 2, 73), (73, .lreturn, 1, 74)] : List (Nat × Instr × Nat × Nat)), mDq M2_behindFactors q := by decide +kernel
set_option maxRecDepth 100000 in
theorem d2_premiumFor : ∀ q ∈ ([(0, .aload_n 0, 1, 1), (1, .iload_n 1, 1, 2), (2, .iload_n 2, 1, 3), (3, .aload_n 0, 1, 4), (4, .getfield 28, 3, 7), (7, .getfield 47, 3, 10), (10, .invokevirtual 52, 3, 13), (13, .lstore_n 3, 1, 14), (14, .iload_n 1, 1, 15), (15, .aload_n 0, 1, 16), (16, .getfield 32, 3, 19), (19, .getfield 56, 3, 22), (22, .if_icmp .lt 22, 3, 25), (25, .lload_n 3, 1, 26), (26, .lload_n 3, 1, 27), (27, .aload_n 0, 1, 28), (28, .getfield 32, 3, 31), (31, .getfield 59, 3, 34), (34, .i2l, 1, 35), (35, .lmul, 1, 36), (36, .ldc2_w 62, 3, 39), (39, .ldiv, 1, 40), (40, .lsub, 1, 41), (41, .goto 4, 3, 44), (44, .lload_n 3, 1, 45), (45, .lreturn, 1, 46)] : List (Nat × Instr × Nat × Nat)), mDq M2_premiumFor q := by decide +kernel
set_option maxRecDepth 100000 in
theorem d2_premiumOf : ∀ q ∈ ([(0, .aload_n 0, 1, 1), (1, .getfield 32, 3, 4), (4, .iload_n 1, 1, 5), (5, .invokevirtual 64, 3, 8), (8, .ifCond .eq 28, 3, 11), (11, .aload_n 0, 1, 12), (12, .aload_n 0, 1, 13), (13, .getfield 32, 3, 16), (16, .getfield 68, 3, 19), (19, .iload_n 1, 1, 20), (20, .iaload, 1, 21), (21, .aload_n 0, 1, 22), (22, .getfield 32, 3, 25), (25, .getfield 71, 3, 28), (28, .iload_n 1, 1, 29), (29, .iaload, 1, 30), (30, .invokevirtual 74, 3, 33), (33, .goto 4, 3, 36), (36, .lconst 0, 1, 37), (37, .lreturn, 1, 38)] : List (Nat × Instr × Nat × Nat)), mDq M2_premiumOf q := by decide +kernel
set_option maxRecDepth 100000 in
theorem d2_price : ∀ q ∈ ([(0, .iconst 0, 1, 1), (1, .istore_n 1, 1, 2), (2, .iload_n 1, 1, 3), (3, .aload_n 0, 1, 4), (4, .getfield 32, 3, 7), (7, .getfield 78, 3, 10), (10, .if_icmp .ge 37, 3, 13), (13, .aload_n 0, 1, 14), (14, .getfield 9, 3, 17), (17, .iload_n 1, 1, 18), (18, .aload_n 0, 1, 19), (19, .aload_n 0, 1, 20), (20, .getfield 32, 3, 23), (23, .getfield 68, 3, 26), (26, .iload_n 1, 1, 27), (27, .iaload, 1, 28), (28, .aload_n 0, 1, 29), (29, .getfield 32, 3, 32), (32, .getfield 71, 3, 35), (35, .iload_n 1, 1, 36), (36, .iaload, 1, 37), (37, .invokevirtual 74, 3, 40), (40, .lastore, 1, 41), (41, .iinc 1 1, 3, 44), (44, .goto (-42), 3, 47), (47, .return_, 1, 48)] : List (Nat × Instr × Nat × Nat)), mDq M2_price q := by decide +kernel
set_option maxRecDepth 100000 in
theorem d2_sumPaid : ∀ q ∈ ([(0, .aload_n 0, 1, 1), (1, .invokevirtual 81, 3, 4), (4, .lconst 0, 1, 5), (5, .lstore_n 1, 1, 6), (6, .iconst 0, 1, 7), (7, .istore_n 3, 1, 8), (8, .iload_n 3, 1, 9), (9, .aload_n 0, 1, 10), (10, .getfield 32, 3, 13), (13, .getfield 78, 3, 16), (16, .if_icmp .ge 18, 3, 19), (19, .lload_n 1, 1, 20), (20, .aload_n 0, 1, 21), (21, .getfield 9, 3, 24), (24, .iload_n 3, 1, 25), (25, .laload, 1, 26), (26, .ladd, 1, 27), (27, .lstore_n 1, 1, 28), (28, .iinc 3 1, 3, 31), (31, .goto (-23), 3, 34), (34, .lload_n 1, 1, 35), (35, .lreturn, 1, 36)] : List (Nat × Instr × Nat × Nat)), mDq M2_sumPaid q := by decide +kernel
set_option maxRecDepth 100000 in
theorem d2_measure : ∀ q ∈ ([(0, .aload_n 0, 1, 1), (1, .invokevirtual 81, 3, 4), (4, .aload_n 0, 1, 5), (5, .iload_n 1, 1, 6), (6, .invokevirtual 84, 3, 9), (9, .return_, 1, 10)] : List (Nat × Instr × Nat × Nat)), mDq M2_measure q := by decide +kernel
set_option maxRecDepth 100000 in
theorem d2_gather : ∀ q ∈ ([(0, .iconst 0, 1, 1), (1, .istore_n 2, 1, 2), (2, .iload_n 2, 1, 3), (3, .bipush 7, 2, 5), (5, .if_icmp .gt 43, 3, 8), (8, .iload_n 1, 1, 9), (9, .iload_n 2, 1, 10), (10, .invokestatic 88, 3, 13), (13, .istore_n 3, 1, 14), (14, .aload_n 0, 1, 15), (15, .getfield 15, 3, 18), (18, .iload_n 3, 1, 19), (19, .lconst 0, 1, 20), (20, .lastore, 1, 21), (21, .aload_n 0, 1, 22), (22, .getfield 18, 3, 25), (25, .iload_n 3, 1, 26), (26, .lconst 0, 1, 27), (27, .lastore, 1, 28), (28, .aload_n 0, 1, 29), (29, .getfield 21, 3, 32), (32, .iload_n 3, 1, 33), (33, .lconst 0, 1, 34), (34, .lastore, 1, 35), (35, .aload_n 0, 1, 36), (36, .getfield 24, 3, 39), (39, .iload_n 3, 1, 40), (40, .iconst 0, 1, 41), (41, .iastore, 1, 42), (42, .iinc 2 1, 3, 45), (45, .goto (-43), 3, 48), (48, .iconst 0, 1, 49), (49, .istore_n 2, 1, 50), (50, .iload_n 2, 1, 51), (51, .aload_n 0, 1, 52), (52, .getfield 32, 3, 55), (55, .getfield 78, 3, 58), (58, .if_icmp .ge 90, 3, 61), (61, .iload_n 1, 1, 62), (62, .aload_n 0, 1, 63), (63, .getfield 32, 3, 66), (66, .getfield 71, 3, 69), (69, .iload_n 2, 1, 70), (70, .iaload, 1, 71), (71, .iload_n 1, 1, 72), (72, .invokestatic 92, 3, 75), (75, .invokestatic 88, 3, 78), (78, .istore_n 3, 1, 79), (79, .aload_n 0, 1, 80), (80, .getfield 15, 3, 83), (83, .iload_n 3, 1, 84), (84, .dup2, 1, 85), (85, .laload, 1, 86), (86, .aload_n 0, 1, 87), (87, .getfield 32, 3, 90), (90, .getfield 95, 3, 93), (93, .iload_n 2, 1, 94), (94, .iaload, 1, 95), (95, .i2l, 1, 96), (96, .ladd, 1, 97), (97, .lastore, 1, 98), (98, .aload_n 0, 1, 99), (99, .getfield 18, 3, 102), (102, .iload_n 3, 1, 103), (103, .dup2, 1, 104), (104, .laload, 1, 105), (105, .aload_n 0, 1, 106), (106, .getfield 9, 3, 109), (109, .iload_n 2, 1, 110), (110, .laload, 1, 111), (111, .ladd, 1, 112), (112, .lastore, 1, 113), (113, .aload_n 0, 1, 114), (114, .getfield 21, 3, 117), (117, .iload_n 3, 1, 118), (118, .dup2, 1, 119), (119, .laload, 1, 120), (120, .aload_n 0, 1, 121), (121, .getfield 32, 3, 124), (124, .getfield 68, 3, 127), (127, .iload_n 2, 1, 128), (128, .iaload, 1, 129), (129, .i2l, 1, 130), (130, .ladd, 1, 131), (131, .lastore, 1, 132), (132, .aload_n 0, 1, 133), (133, .getfield 24, 3, 136), (136, .iload_n 3, 1, 137), (137, .dup2, 1, 138), (138, .iaload, 1, 139), (139, .iconst 1, 1, 140), (140, .iadd, 1, 141), (141, .iastore, 1, 142), (142, .iinc 2 1, 3, 145), (145, .goto (-95), 3, 148), (148, .iconst 5, 1, 149), (149, .istore_n 2, 1, 150), (150, .iload_n 2, 1, 151), (151, .ifCond .le 32, 3, 154), (154, .aload_n 0, 1, 155), (155, .getfield 32, 3, 158), (158, .iload_n 1, 1, 159), (159, .iload_n 2, 1, 160), (160, .iconst 1, 1, 161), (161, .isub, 1, 162), (162, .invokevirtual 98, 3, 165), (165, .ifCond .eq 12, 3, 168), (168, .aload_n 0, 1, 169), (169, .iload_n 1, 1, 170), (170, .iload_n 2, 1, 171), (171, .invokestatic 88, 3, 174), (174, .invokevirtual 102, 3, 177), (177, .iinc 2 (-1), 3, 180), (180, .goto (-30), 3, 183), (183, .return_, 1, 184)] : List (Nat × Instr × Nat × Nat)), mDq M2_gather q := by decide +kernel
set_option maxRecDepth 100000 in
theorem d2_addToLower : ∀ q ∈ ([(0, .iload_n 1, 1, 1), (1, .ifCond .le 71, 3, 4), (4, .aload_n 0, 1, 5), (5, .getfield 15, 3, 8), (8, .iload_n 1, 1, 9), (9, .iconst 1, 1, 10), (10, .isub, 1, 11), (11, .dup2, 1, 12), (12, .laload, 1, 13), (13, .aload_n 0, 1, 14), (14, .getfield 15, 3, 17), (17, .iload_n 1, 1, 18), (18, .laload, 1, 19), (19, .ladd, 1, 20), (20, .lastore, 1, 21), (21, .aload_n 0, 1, 22), (22, .getfield 18, 3, 25), (25, .iload_n 1, 1, 26), (26, .iconst 1, 1, 27), (27, .isub, 1, 28), (28, .dup2, 1, 29), (29, .laload, 1, 30), (30, .aload_n 0, 1, 31), (31, .getfield 18, 3, 34), (34, .iload_n 1, 1, 35), (35, .laload, 1, 36), (36, .ladd, 1, 37), (37, .lastore, 1, 38), (38, .aload_n 0, 1, 39), (39, .getfield 21, 3, 42), (42, .iload_n 1, 1, 43), (43, .iconst 1, 1, 44), (44, .isub, 1, 45), (45, .dup2, 1, 46), (46, .laload, 1, 47), (47, .aload_n 0, 1, 48), (48, .getfield 21, 3, 51), (51, .iload_n 1, 1, 52), (52, .laload, 1, 53), (53, .ladd, 1, 54), (54, .lastore, 1, 55), (55, .aload_n 0, 1, 56), (56, .getfield 24, 3, 59), (59, .iload_n 1, 1, 60), (60, .iconst 1, 1, 61), (61, .isub, 1, 62), (62, .dup2, 1, 63), (63, .iaload, 1, 64), (64, .aload_n 0, 1, 65), (65, .getfield 24, 3, 68), (68, .iload_n 1, 1, 69), (69, .iaload, 1, 70), (70, .iadd, 1, 71), (71, .iastore, 1, 72), (72, .return_, 1, 73)] : List (Nat × Instr × Nat × Nat)), mDq M2_addToLower q := by decide +kernel
set_option maxRecDepth 100000 in
theorem d2_differsBy : ∀ q ∈ ([(0, .aload_n 0, 1, 1), (1, .getfield 15, 3, 4), (4, .iload_n 1, 1, 5), (5, .laload, 1, 6), (6, .aload_n 0, 1, 7), (7, .getfield 18, 3, 10), (10, .iload_n 1, 1, 11), (11, .laload, 1, 12), (12, .lsub, 1, 13), (13, .invokestatic 105, 3, 16), (16, .lreturn, 1, 17)] : List (Nat × Instr × Nat × Nat)), mDq M2_differsBy q := by decide +kernel
set_option maxRecDepth 100000 in
theorem d2_balances : ∀ q ∈ ([(0, .iload_n 1, 1, 1), (1, .iload_n 2, 1, 2), (2, .invokestatic 88, 3, 5), (5, .istore_n 3, 1, 6), (6, .aload_n 0, 1, 7), (7, .getfield 24, 3, 10), (10, .iload_n 3, 1, 11), (11, .iaload, 1, 12), (12, .ifCond .eq 31, 3, 15), (15, .aload_n 0, 1, 16), (16, .iload_n 3, 1, 17), (17, .invokevirtual 111, 3, 20), (20, .ldc2_w 62, 3, 23), (23, .lmul, 1, 24), (24, .aload_n 0, 1, 25), (25, .getfield 28, 3, 28), (28, .getfield 115, 3, 31), (31, .i2l, 1, 32), (32, .aload_n 0, 1, 33), (33, .getfield 15, 3, 36), (36, .iload_n 3, 1, 37), (37, .laload, 1, 38), (38, .lmul, 1, 39), (39, .lcmp, 1, 40), (40, .ifCond .gt 5, 3, 43), (43, .iconst 1, 1, 44), (44, .ireturn, 1, 45), (45, .aload_n 0, 1, 46), (46, .getfield 32, 3, 49), (49, .getfield 42, 3, 52), (52, .iload_n 3, 1, 53), (53, .iaload, 1, 54), (54, .istore 4, 2, 56), (56, .iload 4, 2, 58), (58, .aload_n 0, 1, 59), (59, .getfield 28, 3, 62), (62, .getfield 118, 3, 65), (65, .iload_n 1, 1, 66), (66, .iaload, 1, 67), (67, .if_icmp .ne 19, 3, 70), (70, .aload_n 0, 1, 71), (71, .getfield 18, 3, 74), (74, .iload_n 3, 1, 75), (75, .laload, 1, 76), (76, .aload_n 0, 1, 77), (77, .getfield 15, 3, 80), (80, .iload_n 3, 1, 81), (81, .laload, 1, 82), (82, .lcmp, 1, 83), (83, .ifCond .gt 33, 3, 86), (86, .iload 4, 2, 88), (88, .aload_n 0, 1, 89), (89, .getfield 28, 3, 92), (92, .getfield 121, 3, 95), (95, .iload_n 1, 1, 96), (96, .iaload, 1, 97), (97, .if_icmp .ne 23, 3, 100), (100, .aload_n 0, 1, 101), (101, .getfield 18, 3, 104), (104, .iload_n 3, 1, 105), (105, .laload, 1, 106), (106, .aload_n 0, 1, 107), (107, .getfield 15, 3, 110), (110, .iload_n 3, 1, 111), (111, .laload, 1, 112), (112, .lcmp, 1, 113), (113, .ifCond .ge 7, 3, 116), (116, .iconst 1, 1, 117), (117, .goto 4, 3, 120), (120, .iconst 0, 1, 121), (121, .ireturn, 1, 122)] : List (Nat × Instr × Nat × Nat)), mDq M2_balances q := by decide +kernel
set_option maxRecDepth 100000 in
theorem d2_isOff : ∀ q ∈ ([(0, .aload_n 0, 1, 1), (1, .getfield 32, 3, 4), (4, .iload_n 1, 1, 5), (5, .iload_n 2, 1, 6), (6, .invokevirtual 124, 3, 9), (9, .ifCond .eq 16, 3, 12), (12, .aload_n 0, 1, 13), (13, .iload_n 1, 1, 14), (14, .iload_n 2, 1, 15), (15, .invokevirtual 127, 3, 18), (18, .ifCond .ne 7, 3, 21), (21, .iconst 1, 1, 22), (22, .goto 4, 3, 25), (25, .iconst 0, 1, 26), (26, .ireturn, 1, 27)] : List (Nat × Instr × Nat × Nat)), mDq M2_isOff q := by decide +kernel
set_option maxRecDepth 100000 in
theorem d2_isFilledClass : ∀ q ∈ ([(0, .aload_n 0, 1, 1), (1, .getfield 32, 3, 4), (4, .iload_n 1, 1, 5), (5, .iload_n 2, 1, 6), (6, .invokevirtual 124, 3, 9), (9, .ifCond .eq 20, 3, 12), (12, .aload_n 0, 1, 13), (13, .getfield 24, 3, 16), (16, .iload_n 1, 1, 17), (17, .iload_n 2, 1, 18), (18, .invokestatic 88, 3, 21), (21, .iaload, 1, 22), (22, .ifCond .le 7, 3, 25), (25, .iconst 1, 1, 26), (26, .goto 4, 3, 29), (29, .iconst 0, 1, 30), (30, .ireturn, 1, 31)] : List (Nat × Instr × Nat × Nat)), mDq M2_isFilledClass q := by decide +kernel
set_option maxRecDepth 100000 in
theorem d2_countUnbalanced : ∀ q ∈ ([(0, .aload_n 0, 1, 1), (1, .invokevirtual 81, 3, 4), (4, .iconst 0, 1, 5), (5, .istore_n 1, 1, 6), (6, .iconst 0, 1, 7), (7, .istore_n 2, 1, 8), (8, .iload_n 2, 1, 9), (9, .aload_n 0, 1, 10), (10, .getfield 28, 3, 13), (13, .getfield 47, 3, 16), (16, .if_icmp .ge 47, 3, 19), (19, .aload_n 0, 1, 20), (20, .iload_n 2, 1, 21), (21, .invokevirtual 84, 3, 24), (24, .iconst 0, 1, 25), (25, .istore_n 3, 1, 26), (26, .iload_n 3, 1, 27), (27, .aload_n 0, 1, 28), (28, .getfield 28, 3, 31), (31, .getfield 130, 3, 34), (34, .iload_n 2, 1, 35), (35, .iaload, 1, 36), (36, .if_icmp .ge 21, 3, 39), (39, .aload_n 0, 1, 40), (40, .iload_n 2, 1, 41), (41, .iload_n 3, 1, 42), (42, .invokevirtual 133, 3, 45), (45, .ifCond .eq 6, 3, 48), (48, .iinc 1 1, 3, 51), (51, .iinc 3 1, 3, 54), (54, .goto (-28), 3, 57), (57, .iinc 2 1, 3, 60), (60, .goto (-52), 3, 63), (63, .iload_n 1, 1, 64), (64, .ireturn, 1, 65)] : List (Nat × Instr × Nat × Nat)), mDq M2_countUnbalanced q := by decide +kernel
set_option maxRecDepth 100000 in
theorem d2_sumMisfit : ∀ q ∈ ([(0, .aload_n 0, 1, 1), (1, .invokevirtual 81, 3, 4), (4, .lconst 0, 1, 5), (5, .lstore_n 1, 1, 6), (6, .iconst 0, 1, 7), (7, .istore_n 3, 1, 8), (8, .iload_n 3, 1, 9), (9, .aload_n 0, 1, 10), (10, .getfield 28, 3, 13), (13, .getfield 47, 3, 16), (16, .if_icmp .ge 60, 3, 19), (19, .aload_n 0, 1, 20), (20, .iload_n 3, 1, 21), (21, .invokevirtual 84, 3, 24), (24, .iconst 0, 1, 25), (25, .istore 4, 2, 27), (27, .iload 4, 2, 29), (29, .aload_n 0, 1, 30), (30, .getfield 28, 3, 33), (33, .getfield 130, 3, 36), (36, .iload_n 3, 1, 37), (37, .iaload, 1, 38), (38, .if_icmp .ge 32, 3, 41), (41, .aload_n 0, 1, 42), (42, .iload_n 3, 1, 43), (43, .iload 4, 2, 45), (45, .invokevirtual 136, 3, 48), (48, .ifCond .eq 16, 3, 51), (51, .lload_n 1, 1, 52), (52, .aload_n 0, 1, 53), (53, .iload_n 3, 1, 54), (54, .iload 4, 2, 56), (56, .invokestatic 88, 3, 59), (59, .invokevirtual 111, 3, 62), (62, .ladd, 1, 63), (63, .lstore_n 1, 1, 64), (64, .iinc 4 1, 3, 67), (67, .goto (-40), 3, 70), (70, .iinc 3 1, 3, 73), (73, .goto (-65), 3, 76), (76, .lload_n 1, 1, 77), (77, .lreturn, 1, 78)] : List (Nat × Instr × Nat × Nat)), mDq M2_sumMisfit q := by decide +kernel
set_option maxRecDepth 100000 in
theorem d2_worstSlot : ∀ q ∈ ([(0, .aload_n 0, 1, 1), (1, .invokevirtual 81, 3, 4), (4, .bipush (-2), 2, 6), (6, .istore_n 1, 1, 7), (7, .lconst 0, 1, 8), (8, .lstore_n 2, 1, 9), (9, .iconst 0, 1, 10), (10, .istore 4, 2, 12), (12, .iload 4, 2, 14), (14, .aload_n 0, 1, 15), (15, .getfield 28, 3, 18), (18, .getfield 47, 3, 21), (21, .if_icmp .ge 86, 3, 24), (24, .aload_n 0, 1, 25), (25, .iload 4, 2, 27), (27, .invokevirtual 84, 3, 30), (30, .iconst 0, 1, 31), (31, .istore 5, 2, 33), (33, .iload 5, 2, 35), (35, .aload_n 0, 1, 36), (36, .getfield 28, 3, 39), (39, .getfield 130, 3, 42), (42, .iload 4, 2, 44), (44, .iaload, 1, 45), (45, .if_icmp .ge 56, 3, 48), (48, .iload 4, 2, 50), (50, .iload 5, 2, 52), (52, .invokestatic 88, 3, 55), (55, .istore 6, 2, 57), (57, .aload_n 0, 1, 58), (58, .iload 4, 2, 60), (60, .iload 5, 2, 62), (62, .invokevirtual 133, 3, 65), (65, .ifCond .eq 30, 3, 68), (68, .iload_n 1, 1, 69), (69, .bipush (-2), 2, 71), (71, .if_icmp .eq 14, 3, 74), (74, .aload_n 0, 1, 75), (75, .iload 6, 2, 77), (77, .invokevirtual 111, 3, 80), (80, .lload_n 2, 1, 81), (81, .lcmp, 1, 82), (82, .ifCond .le 13, 3, 85), (85, .aload_n 0, 1, 86), (86, .iload 6, 2, 88), (88, .invokevirtual 111, 3, 91), (91, .lstore_n 2, 1, 92), (92, .iload 6, 2, 94), (94, .istore_n 1, 1, 95), (95, .iinc 5 1, 3, 98), (98, .goto (-65), 3, 101), (101, .iinc 4 1, 3, 104), (104, .goto (-92), 3, 107), (107, .iload_n 1, 1, 108), (108, .ireturn, 1, 109)] : List (Nat × Instr × Nat × Nat)), mDq M2_worstSlot q := by decide +kernel
set_option maxRecDepth 100000 in
theorem d2_farthestOff : ∀ q ∈ ([(0, .aload_n 0, 1, 1), (1, .iload_n 1, 1, 2), (2, .invokevirtual 139, 3, 5), (5, .bipush (-2), 2, 7), (7, .istore_n 2, 1, 8), (8, .lconst 0, 1, 9), (9, .lstore_n 3, 1, 10), (10, .iconst 0, 1, 11), (11, .istore 5, 2, 13), (13, .iload 5, 2, 15), (15, .aload_n 0, 1, 16), (16, .getfield 28, 3, 19), (19, .getfield 130, 3, 22), (22, .iload_n 1, 1, 23), (23, .iaload, 1, 24), (24, .if_icmp .ge 54, 3, 27), (27, .iload_n 1, 1, 28), (28, .iload 5, 2, 30), (30, .invokestatic 88, 3, 33), (33, .istore 6, 2, 35), (35, .aload_n 0, 1, 36), (36, .iload_n 1, 1, 37), (37, .iload 5, 2, 39), (39, .invokevirtual 136, 3, 42), (42, .ifCond .eq 30, 3, 45), (45, .iload_n 2, 1, 46), (46, .bipush (-2), 2, 48), (48, .if_icmp .eq 14, 3, 51), (51, .aload_n 0, 1, 52), (52, .iload 6, 2, 54), (54, .invokevirtual 111, 3, 57), (57, .lload_n 3, 1, 58), (58, .lcmp, 1, 59), (59, .ifCond .le 13, 3, 62), (62, .aload_n 0, 1, 63), (63, .iload 6, 2, 65), (65, .invokevirtual 111, 3, 68), (68, .lstore_n 3, 1, 69), (69, .iload 5, 2, 71), (71, .istore_n 2, 1, 72), (72, .iinc 5 1, 3, 75), (75, .goto (-62), 3, 78), (78, .iload_n 2, 1, 79), (79, .ireturn, 1, 80)] : List (Nat × Instr × Nat × Nat)), mDq M2_farthestOff q := by decide +kernel
set_option maxRecDepth 100000 in
theorem d2_countClasses : ∀ q ∈ ([(0, .iconst 0, 1, 1), (1, .istore_n 2, 1, 2), (2, .iconst 0, 1, 3), (3, .istore_n 3, 1, 4), (4, .iload_n 3, 1, 5), (5, .aload_n 0, 1, 6), (6, .getfield 28, 3, 9), (9, .getfield 130, 3, 12), (12, .iload_n 1, 1, 13), (13, .iaload, 1, 14), (14, .if_icmp .ge 24, 3, 17), (17, .aload_n 0, 1, 18), (18, .getfield 32, 3, 21), (21, .iload_n 1, 1, 22), (22, .iload_n 3, 1, 23), (23, .invokevirtual 124, 3, 26), (26, .ifCond .eq 6, 3, 29), (29, .iinc 2 1, 3, 32), (32, .iinc 3 1, 3, 35), (35, .goto (-31), 3, 38), (38, .iload_n 2, 1, 39), (39, .ireturn, 1, 40)] : List (Nat × Instr × Nat × Nat)), mDq M2_countClasses q := by decide +kernel
set_option maxRecDepth 100000 in
theorem d2_countAllClasses : ∀ q ∈ ([(0, .aload_n 0, 1, 1), (1, .invokevirtual 81, 3, 4), (4, .iconst 0, 1, 5), (5, .istore_n 2, 1, 6), (6, .iconst 0, 1, 7), (7, .istore_n 3, 1, 8), (8, .iload_n 3, 1, 9), (9, .aload_n 0, 1, 10), (10, .getfield 28, 3, 13), (13, .getfield 47, 3, 16), (16, .if_icmp .ge 67, 3, 19), (19, .aload_n 0, 1, 20), (20, .iload_n 3, 1, 21), (21, .invokevirtual 84, 3, 24), (24, .iconst 0, 1, 25), (25, .istore 4, 2, 27), (27, .iload 4, 2, 29), (29, .aload_n 0, 1, 30), (30, .getfield 28, 3, 33), (33, .getfield 130, 3, 36), (36, .iload_n 3, 1, 37), (37, .iaload, 1, 38), (38, .if_icmp .ge 39, 3, 41), (41, .aload_n 0, 1, 42), (42, .getfield 32, 3, 45), (45, .iload_n 3, 1, 46), (46, .iload 4, 2, 48), (48, .invokevirtual 124, 3, 51), (51, .ifCond .eq 20, 3, 54), (54, .iload_n 1, 1, 55), (55, .ifCond .eq 13, 3, 58), (58, .aload_n 0, 1, 59), (59, .iload_n 3, 1, 60), (60, .iload 4, 2, 62), (62, .invokevirtual 136, 3, 65), (65, .ifCond .ne 6, 3, 68), (68, .iinc 2 1, 3, 71), (71, .iinc 4 1, 3, 74), (74, .goto (-47), 3, 77), (77, .iinc 3 1, 3, 80), (80, .goto (-72), 3, 83), (83, .iload_n 2, 1, 84), (84, .ireturn, 1, 85)] : List (Nat × Instr × Nat × Nat)), mDq M2_countAllClasses q := by decide +kernel
set_option maxRecDepth 100000 in
theorem d2_countAt : ∀ q ∈ ([(0, .iconst 0, 1, 1), (1, .istore_n 3, 1, 2), (2, .iconst 0, 1, 3), (3, .istore 4, 2, 5), (5, .iload 4, 2, 7), (7, .aload_n 0, 1, 8), (8, .getfield 28, 3, 11), (11, .getfield 130, 3, 14), (14, .iload_n 1, 1, 15), (15, .iaload, 1, 16), (16, .if_icmp .ge 43, 3, 19), (19, .aload_n 0, 1, 20), (20, .getfield 32, 3, 23), (23, .iload_n 1, 1, 24), (24, .iload 4, 2, 26), (26, .invokevirtual 124, 3, 29), (29, .ifCond .eq 24, 3, 32), (32, .aload_n 0, 1, 33), (33, .getfield 32, 3, 36), (36, .getfield 42, 3, 39), (39, .iload_n 1, 1, 40), (40, .iload 4, 2, 42), (42, .invokestatic 88, 3, 45), (45, .iaload, 1, 46), (46, .iload_n 2, 1, 47), (47, .if_icmp .ne 6, 3, 50), (50, .iinc 3 1, 3, 53), (53, .iinc 4 1, 3, 56), (56, .goto (-51), 3, 59), (59, .iload_n 3, 1, 60), (60, .ireturn, 1, 61)] : List (Nat × Instr × Nat × Nat)), mDq M2_countAt q := by decide +kernel
set_option maxRecDepth 100000 in
theorem d2_turnOnce : ∀ q ∈ ([(0, .aload_n 0, 1, 1), (1, .invokevirtual 81, 3, 4), (4, .aload_n 0, 1, 5), (5, .iload_n 1, 1, 6), (6, .invokevirtual 84, 3, 9), (9, .iconst 0, 1, 10), (10, .istore_n 2, 1, 11), (11, .sipush 10000, 3, 14), (14, .istore_n 3, 1, 15), (15, .iconst 0, 1, 16), (16, .istore 4, 2, 18), (18, .iload 4, 2, 20), (20, .aload_n 0, 1, 21), (21, .getfield 28, 3, 24), (24, .getfield 130, 3, 27), (27, .iload_n 1, 1, 28), (28, .iaload, 1, 29), (29, .if_icmp .ge 71, 3, 32), (32, .iload_n 1, 1, 33), (33, .iload 4, 2, 35), (35, .invokestatic 88, 3, 38), (38, .istore 5, 2, 40), (40, .aload_n 0, 1, 41), (41, .getfield 32, 3, 44), (44, .iload_n 1, 1, 45), (45, .iload 4, 2, 47), (47, .invokevirtual 124, 3, 50), (50, .ifCond .eq 33, 3, 53), (53, .aload_n 0, 1, 54), (54, .iload_n 1, 1, 55), (55, .iload 5, 2, 57), (57, .invokevirtual 142, 3, 60), (60, .istore_n 3, 1, 61), (61, .iload_n 2, 1, 62), (62, .iload_n 3, 1, 63), (63, .aload_n 0, 1, 64), (64, .getfield 32, 3, 67), (67, .getfield 42, 3, 70), (70, .iload 5, 2, 72), (72, .iaload, 1, 73), (73, .if_icmp .ne 7, 3, 76), (76, .iconst 0, 1, 77), (77, .goto 4, 3, 80), (80, .iconst 1, 1, 81), (81, .iadd, 1, 82), (82, .istore_n 2, 1, 83), (83, .aload_n 0, 1, 84), (84, .getfield 32, 3, 87), (87, .getfield 42, 3, 90), (90, .iload 5, 2, 92), (92, .iload_n 3, 1, 93), (93, .iastore, 1, 94), (94, .iinc 4 1, 3, 97), (97, .goto (-79), 3, 100), (100, .iload_n 2, 1, 101), (101, .ireturn, 1, 102)] : List (Nat × Instr × Nat × Nat)), mDq M2_turnOnce q := by decide +kernel
set_option maxRecDepth 100000 in
theorem d2_turned : ∀ q ∈ ([(0, .aload_n 0, 1, 1), (1, .getfield 32, 3, 4), (4, .getfield 42, 3, 7), (7, .iload_n 2, 1, 8), (8, .iaload, 1, 9), (9, .istore_n 3, 1, 10), (10, .aload_n 0, 1, 11), (11, .getfield 18, 3, 14), (14, .iload_n 2, 1, 15), (15, .laload, 1, 16), (16, .lstore 4, 2, 18), (18, .lload 4, 2, 20), (20, .lconst 0, 1, 21), (21, .lcmp, 1, 22), (22, .ifCond .gt 5, 3, 25), (25, .iload_n 3, 1, 26), (26, .ireturn, 1, 27), (27, .iload_n 3, 1, 28), (28, .i2l, 1, 29), (29, .aload_n 0, 1, 30), (30, .getfield 15, 3, 33), (33, .iload_n 2, 1, 34), (34, .laload, 1, 35), (35, .lmul, 1, 36), (36, .lload 4, 2, 38), (38, .ldiv, 1, 39), (39, .aload_n 0, 1, 40), (40, .getfield 28, 3, 43), (43, .getfield 118, 3, 46), (46, .iload_n 1, 1, 47), (47, .iaload, 1, 48), (48, .aload_n 0, 1, 49), (49, .getfield 28, 3, 52), (52, .getfield 121, 3, 55), (55, .iload_n 1, 1, 56), (56, .iaload, 1, 57), (57, .invokestatic 145, 3, 60), (60, .istore 6, 2, 62), (62, .aload_n 0, 1, 63), (63, .getfield 21, 3, 66), (66, .iload_n 2, 1, 67), (67, .laload, 1, 68), (68, .aload_n 0, 1, 69), (69, .getfield 32, 3, 72), (72, .getfield 149, 3, 75), (75, .i2l, 1, 76), (76, .ladd, 1, 77), (77, .lstore 7, 2, 79), (79, .aload_n 0, 1, 80), (80, .getfield 32, 3, 83), (83, .getfield 149, 3, 86), (86, .ifCond .le 10, 3, 89), (89, .lload 7, 2, 91), (91, .lconst 0, 1, 92), (92, .lcmp, 1, 93), (93, .ifCond .gt 6, 3, 96), (96, .iload 6, 2, 98), (98, .ireturn, 1, 99), (99, .iload_n 3, 1, 100), (100, .i2l, 1, 101), (101, .iload 6, 2, 103), (103, .iload_n 3, 1, 104), (104, .isub, 1, 105), (105, .i2l, 1, 106), (106, .aload_n 0, 1, 107), (107, .getfield 21, 3, 110), (110, .iload_n 2, 1, 111), (111, .laload, 1, 112), (112, .lmul, 1, 113), (113, .lload 7, 2, 115), (115, .invokestatic 152, 3, 118), (118, .ladd, 1, 119), (119, .l2i, 1, 120), (120, .ireturn, 1, 121)] : List (Nat × Instr × Nat × Nat)), mDq M2_turned q := by decide +kernel
set_option maxRecDepth 100000 in
theorem d2_playRounds : ∀ q ∈ ([(0, .iconst 1, 1, 1), (1, .istore_n 3, 1, 2), (2, .iconst 0, 1, 3), (3, .istore 4, 2, 5), (5, .iload 4, 2, 7), (7, .iload_n 1, 1, 8), (8, .if_icmp .ge 53, 3, 11), (11, .iload_n 3, 1, 12), (12, .ifCond .eq 49, 3, 15), (15, .iconst 0, 1, 16), (16, .istore_n 3, 1, 17), (17, .iconst 0, 1, 18), (18, .istore 5, 2, 20), (20, .iload 5, 2, 22), (22, .aload_n 0, 1, 23), (23, .getfield 28, 3, 26), (26, .getfield 47, 3, 29), (29, .if_icmp .ge 26, 3, 32), (32, .iload 5, 2, 34), (34, .iload_n 2, 1, 35), (35, .if_icmp .eq 14, 3, 38), (38, .aload_n 0, 1, 39), (39, .iload 5, 2, 41), (41, .invokevirtual 156, 3, 44), (44, .ifCond .le 5, 3, 47), (47, .iconst 1, 1, 48), (48, .istore_n 3, 1, 49), (49, .iinc 5 1, 3, 52), (52, .goto (-32), 3, 55), (55, .iinc 4 1, 3, 58), (58, .goto (-53), 3, 61), (61, .iload_n 3, 1, 62), (62, .ireturn, 1, 63)] : List (Nat × Instr × Nat × Nat)), mDq M2_playRounds q := by decide +kernel
set_option maxRecDepth 100000 in
theorem d2_roundsTillBalance : ∀ q ∈ ([(0, .iconst 1, 1, 1), (1, .istore_n 2, 1, 2), (2, .iconst 0, 1, 3), (3, .istore_n 3, 1, 4), (4, .iload_n 3, 1, 5), (5, .iload_n 1, 1, 6), (6, .if_icmp .gt 29, 3, 9), (9, .iload_n 2, 1, 10), (10, .ifCond .eq 25, 3, 13), (13, .aload_n 0, 1, 14), (14, .invokevirtual 160, 3, 17), (17, .ifCond .ne 5, 3, 20), (20, .iload_n 3, 1, 21), (21, .ireturn, 1, 22), (22, .aload_n 0, 1, 23), (23, .iconst 1, 1, 24), (24, .iconst (-1), 1, 25), (25, .invokevirtual 164, 3, 28), (28, .istore_n 2, 1, 29), (29, .iinc 3 1, 3, 32), (32, .goto (-28), 3, 35), (35, .bipush (-2), 2, 37), (37, .ireturn, 1, 38)] : List (Nat × Instr × Nat × Nat)), mDq M2_roundsTillBalance q := by decide +kernel
set_option maxRecDepth 100000 in
theorem d2_rebaseBook : ∀ q ∈ ([(0, .aload_n 0, 1, 1), (1, .invokevirtual 167, 3, 4), (4, .lstore_n 1, 1, 5), (5, .lload_n 1, 1, 6), (6, .lconst 0, 1, 7), (7, .lcmp, 1, 8), (8, .ifCond .le 41, 3, 11), (11, .aload_n 0, 1, 12), (12, .getfield 32, 3, 15), (15, .aload_n 0, 1, 16), (16, .getfield 32, 3, 19), (19, .getfield 36, 3, 22), (22, .i2l, 1, 23), (23, .aload_n 0, 1, 24), (24, .getfield 32, 3, 27), (27, .aload_n 0, 1, 28), (28, .getfield 32, 3, 31), (31, .getfield 95, 3, 34), (34, .invokevirtual 171, 3, 37), (37, .lmul, 1, 38), (38, .lload_n 1, 1, 39), (39, .ldiv, 1, 40), (40, .iconst 1, 1, 41), (41, .ldc 175, 2, 43), (43, .invokestatic 145, 3, 46), (46, .putfield 36, 3, 49), (49, .return_, 1, 50)] : List (Nat × Instr × Nat × Nat)), mDq M2_rebaseBook q := by decide +kernel
set_option maxRecDepth 100000 in
theorem d2_levelBook : ∀ q ∈ ([(0, .aload_n 0, 1, 1), (1, .getfield 32, 3, 4), (4, .getfield 78, 3, 7), (7, .ifCond .ne 4, 3, 10), (10, .return_, 1, 11), (11, .iconst 0, 1, 12), (12, .istore_n 1, 1, 13), (13, .iload_n 1, 1, 14), (14, .aload_n 0, 1, 15), (15, .getfield 28, 3, 18), (18, .getfield 47, 3, 21), (21, .if_icmp .ge 66, 3, 24), (24, .aload_n 0, 1, 25), (25, .iload_n 1, 1, 26), (26, .invokevirtual 139, 3, 29), (29, .aload_n 0, 1, 30), (30, .getfield 32, 3, 33), (33, .getfield 42, 3, 36), (36, .aload_n 0, 1, 37), (37, .iload_n 1, 1, 38), (38, .invokevirtual 176, 3, 41), (41, .iaload, 1, 42), (42, .istore_n 2, 1, 43), (43, .iload_n 2, 1, 44), (44, .ifCond .le 37, 3, 47), (47, .aload_n 0, 1, 48), (48, .getfield 32, 3, 51), (51, .aload_n 0, 1, 52), (52, .getfield 32, 3, 55), (55, .getfield 36, 3, 58), (58, .i2l, 1, 59), (59, .iload_n 2, 1, 60), (60, .i2l, 1, 61), (61, .lmul, 1, 62), (62, .ldc2_w 45, 3, 65), (65, .ldiv, 1, 66), (66, .iconst 1, 1, 67), (67, .ldc 175, 2, 69), (69, .invokestatic 145, 3, 72), (72, .putfield 36, 3, 75), (75, .aload_n 0, 1, 76), (76, .iload_n 1, 1, 77), (77, .iload_n 2, 1, 78), (78, .invokevirtual 179, 3, 81), (81, .iinc 1 1, 3, 84), (84, .goto (-71), 3, 87), (87, .return_, 1, 88)] : List (Nat × Instr × Nat × Nat)), mDq M2_levelBook q := by decide +kernel
set_option maxRecDepth 100000 in
theorem d2_widestClass : ∀ q ∈ ([(0, .iload_n 1, 1, 1), (1, .iconst 0, 1, 2), (2, .invokestatic 88, 3, 5), (5, .istore_n 2, 1, 6), (6, .iconst 1, 1, 7), (7, .istore_n 3, 1, 8), (8, .iload_n 3, 1, 9), (9, .aload_n 0, 1, 10), (10, .getfield 28, 3, 13), (13, .getfield 130, 3, 16), (16, .iload_n 1, 1, 17), (17, .iaload, 1, 18), (18, .if_icmp .ge 48, 3, 21), (21, .iload_n 1, 1, 22), (22, .iload_n 3, 1, 23), (23, .invokestatic 88, 3, 26), (26, .istore 4, 2, 28), (28, .aload_n 0, 1, 29), (29, .getfield 32, 3, 32), (32, .iload_n 1, 1, 33), (33, .iload_n 3, 1, 34), (34, .invokevirtual 124, 3, 37), (37, .ifCond .eq 23, 3, 40), (40, .aload_n 0, 1, 41), (41, .getfield 21, 3, 44), (44, .iload 4, 2, 46), (46, .laload, 1, 47), (47, .aload_n 0, 1, 48), (48, .getfield 21, 3, 51), (51, .iload_n 2, 1, 52), (52, .laload, 1, 53), (53, .lcmp, 1, 54), (54, .ifCond .le 6, 3, 57), (57, .iload 4, 2, 59), (59, .istore_n 2, 1, 60), (60, .iinc 3 1, 3, 63), (63, .goto (-55), 3, 66), (66, .iload_n 2, 1, 67), (67, .ireturn, 1, 68)] : List (Nat × Instr × Nat × Nat)), mDq M2_widestClass q := by decide +kernel
set_option maxRecDepth 100000 in
theorem d2_divideRelativities : ∀ q ∈ ([(0, .iload_n 2, 1, 1), (1, .ifCond .gt 4, 3, 4), (4, .return_, 1, 5), (5, .iconst 0, 1, 6), (6, .istore_n 3, 1, 7), (7, .iload_n 3, 1, 8), (8, .aload_n 0, 1, 9), (9, .getfield 28, 3, 12), (12, .getfield 130, 3, 15), (15, .iload_n 1, 1, 16), (16, .iaload, 1, 17), (17, .if_icmp .ge 69, 3, 20), (20, .iload_n 1, 1, 21), (21, .iload_n 3, 1, 22), (22, .invokestatic 88, 3, 25), (25, .istore 4, 2, 27), (27, .aload_n 0, 1, 28), (28, .getfield 32, 3, 31), (31, .getfield 42, 3, 34), (34, .iload 4, 2, 36), (36, .iaload, 1, 37), (37, .i2l, 1, 38), (38, .ldc2_w 45, 3, 41), (41, .lmul, 1, 42), (42, .iload_n 2, 1, 43), (43, .i2l, 1, 44), (44, .ldiv, 1, 45), (45, .lstore 5, 2, 47), (47, .aload_n 0, 1, 48), (48, .getfield 32, 3, 51), (51, .getfield 42, 3, 54), (54, .iload 4, 2, 56), (56, .lload 5, 2, 58), (58, .aload_n 0, 1, 59), (59, .getfield 28, 3, 62), (62, .getfield 118, 3, 65), (65, .iload_n 1, 1, 66), (66, .iaload, 1, 67), (67, .aload_n 0, 1, 68), (68, .getfield 28, 3, 71), (71, .getfield 121, 3, 74), (74, .iload_n 1, 1, 75), (75, .iaload, 1, 76), (76, .invokestatic 145, 3, 79), (79, .iastore, 1, 80), (80, .iinc 3 1, 3, 83), (83, .goto (-76), 3, 86), (86, .return_, 1, 87)] : List (Nat × Instr × Nat × Nat)), mDq M2_divideRelativities q := by decide +kernel
set_option maxRecDepth 100000 in
theorem d3_clear : ∀ q ∈ ([(0, .aload_n 0, 1, 1), (1, .iconst 0, 1, 2), (2, .putfield 27, 3, 5), (5, .aload_n 0, 1, 6), (6, .bipush 10, 2, 8), (8, .putfield 31, 3, 11), (11, .aload_n 0, 1, 12), (12, .iconst 0, 1, 13), (13, .putfield 34, 3, 16), (16, .return_, 1, 17)] : List (Nat × Instr × Nat × Nat)), mDq M3_clear q := by decide +kernel
set_option maxRecDepth 100000 in
theorem d3_copyFrom : ∀ q ∈ ([(0, .aload_n 0, 1, 1), (1, .aload_n 1, 1, 2), (2, .getfield 27, 3, 5), (5, .putfield 27, 3, 8), (8, .aload_n 0, 1, 9), (9, .aload_n 1, 1, 10), (10, .getfield 31, 3, 13), (13, .putfield 31, 3, 16), (16, .aload_n 0, 1, 17), (17, .aload_n 1, 1, 18), (18, .getfield 34, 3, 21), (21, .putfield 34, 3, 24), (24, .aload_n 1, 1, 25), (25, .getfield 9, 3, 28), (28, .iconst 0, 1, 29), (29, .aload_n 0, 1, 30), (30, .getfield 9, 3, 33), (33, .iconst 0, 1, 34), (34, .iconst 4, 1, 35), (35, .invokestatic 37, 3, 38), (38, .aload_n 1, 1, 39), (39, .getfield 15, 3, 42), (42, .iconst 0, 1, 43), (43, .aload_n 0, 1, 44), (44, .getfield 15, 3, 47), (47, .iconst 0, 1, 48), (48, .iconst 4, 1, 49), (49, .invokestatic 37, 3, 52), (52, .aload_n 1, 1, 53), (53, .getfield 18, 3, 56), (56, .iconst 0, 1, 57), (57, .aload_n 0, 1, 58), (58, .getfield 18, 3, 61), (61, .iconst 0, 1, 62), (62, .iconst 4, 1, 63), (63, .invokestatic 37, 3, 66), (66, .aload_n 1, 1, 67), (67, .getfield 21, 3, 70), (70, .iconst 0, 1, 71), (71, .aload_n 0, 1, 72), (72, .getfield 21, 3, 75), (75, .iconst 0, 1, 76), (76, .iconst 4, 1, 77), (77, .invokestatic 37, 3, 80), (80, .return_, 1, 81)] : List (Nat × Instr × Nat × Nat)), mDq M3_copyFrom q := by decide +kernel
set_option maxRecDepth 100000 in
theorem d3_addFactor : ∀ q ∈ ([(0, .aload_n 0, 1, 1), (1, .getfield 27, 3, 4), (4, .iconst 4, 1, 5), (5, .if_icmp .ge 56, 3, 8), (8, .aload_n 0, 1, 9), (9, .getfield 9, 3, 12), (12, .aload_n 0, 1, 13), (13, .getfield 27, 3, 16), (16, .iload_n 1, 1, 17), (17, .iastore, 1, 18), (18, .aload_n 0, 1, 19), (19, .getfield 15, 3, 22), (22, .aload_n 0, 1, 23), (23, .getfield 27, 3, 26), (26, .iload_n 2, 1, 27), (27, .iastore, 1, 28), (28, .aload_n 0, 1, 29), (29, .getfield 18, 3, 32), (32, .aload_n 0, 1, 33), (33, .getfield 27, 3, 36), (36, .sipush 1000, 3, 39), (39, .iastore, 1, 40), (40, .aload_n 0, 1, 41), (41, .getfield 21, 3, 44), (44, .aload_n 0, 1, 45), (45, .getfield 27, 3, 48), (48, .ldc 43, 2, 50), (50, .iastore, 1, 51), (51, .aload_n 0, 1, 52), (52, .dup, 1, 53), (53, .getfield 27, 3, 56), (56, .iconst 1, 1, 57), (57, .iadd, 1, 58), (58, .putfield 27, 3, 61), (61, .return_, 1, 62)] : List (Nat × Instr × Nat × Nat)), mDq M3_addFactor q := by decide +kernel
set_option maxRecDepth 100000 in
theorem d3_find : ∀ q ∈ ([(0, .iconst 0, 1, 1), (1, .istore_n 2, 1, 2), (2, .iload_n 2, 1, 3), (3, .aload_n 0, 1, 4), (4, .getfield 27, 3, 7), (7, .if_icmp .ge 21, 3, 10), (10, .aload_n 0, 1, 11), (11, .getfield 9, 3, 14), (14, .iload_n 2, 1, 15), (15, .iaload, 1, 16), (16, .iload_n 1, 1, 17), (17, .if_icmp .ne 5, 3, 20), (20, .iload_n 2, 1, 21), (21, .ireturn, 1, 22), (22, .iinc 2 1, 3, 25), (25, .goto (-23), 3, 28), (28, .iconst (-1), 1, 29), (29, .ireturn, 1, 30)] : List (Nat × Instr × Nat × Nat)), mDq M3_find q := by decide +kernel
set_option maxRecDepth 100000 in
theorem d3_hasFactor : ∀ q ∈ ([(0, .iload_n 1, 1, 1), (1, .ifCond .lt 15, 3, 4), (4, .iload_n 1, 1, 5), (5, .aload_n 0, 1, 6), (6, .getfield 27, 3, 9), (9, .if_icmp .ge 7, 3, 12), (12, .iconst 1, 1, 13), (13, .goto 4, 3, 16), (16, .iconst 0, 1, 17), (17, .ireturn, 1, 18)] : List (Nat × Instr × Nat × Nat)), mDq M3_hasFactor q := by decide +kernel
set_option maxRecDepth 100000 in
theorem d3_hasLevel : ∀ q ∈ ([(0, .aload_n 0, 1, 1), (1, .iload_n 1, 1, 2), (2, .invokevirtual 44, 3, 5), (5, .ifCond .eq 21, 3, 8), (8, .iload_n 2, 1, 9), (9, .ifCond .lt 17, 3, 12), (12, .iload_n 2, 1, 13), (13, .aload_n 0, 1, 14), (14, .getfield 15, 3, 17), (17, .iload_n 1, 1, 18), (18, .iaload, 1, 19), (19, .if_icmp .ge 7, 3, 22), (22, .iconst 1, 1, 23), (23, .goto 4, 3, 26), (26, .iconst 0, 1, 27), (27, .ireturn, 1, 28)] : List (Nat × Instr × Nat × Nat)), mDq M3_hasLevel q := by decide +kernel
set_option maxRecDepth 100000 in
theorem d3_hasLevels : ∀ q ∈ ([(0, .iload_n 1, 1, 1), (1, .ifCond .lt 15, 3, 4), (4, .iload_n 1, 1, 5), (5, .aload_n 0, 1, 6), (6, .getfield 27, 3, 9), (9, .invokestatic 48, 3, 12), (12, .ishr, 1, 13), (13, .ifCond .eq 5, 3, 16), (16, .iconst 0, 1, 17), (17, .ireturn, 1, 18), (18, .iconst 0, 1, 19), (19, .istore_n 2, 1, 20), (20, .iload_n 2, 1, 21), (21, .aload_n 0, 1, 22), (22, .getfield 27, 3, 25), (25, .if_icmp .ge 25, 3, 28), (28, .iload_n 1, 1, 29), (29, .iload_n 2, 1, 30), (30, .invokestatic 52, 3, 33), (33, .aload_n 0, 1, 34), (34, .getfield 15, 3, 37), (37, .iload_n 2, 1, 38), (38, .iaload, 1, 39), (39, .if_icmp .lt 5, 3, 42), (42, .iconst 0, 1, 43), (43, .ireturn, 1, 44), (44, .iinc 2 1, 3, 47), (47, .goto (-27), 3, 50), (50, .iconst 1, 1, 51), (51, .ireturn, 1, 52)] : List (Nat × Instr × Nat × Nat)), mDq M3_hasLevels q := by decide +kernel
set_option maxRecDepth 100000 in
theorem d3_countKinds : ∀ q ∈ ([(0, .iconst 1, 1, 1), (1, .istore_n 1, 1, 2), (2, .iconst 0, 1, 3), (3, .istore_n 2, 1, 4), (4, .iload_n 2, 1, 5), (5, .aload_n 0, 1, 6), (6, .getfield 27, 3, 9), (9, .if_icmp .ge 18, 3, 12), (12, .iload_n 1, 1, 13), (13, .aload_n 0, 1, 14), (14, .getfield 15, 3, 17), (17, .iload_n 2, 1, 18), (18, .iaload, 1, 19), (19, .imul, 1, 20), (20, .istore_n 1, 1, 21), (21, .iinc 2 1, 3, 24), (24, .goto (-20), 3, 27), (27, .iload_n 1, 1, 28), (28, .ireturn, 1, 29)] : List (Nat × Instr × Nat × Nat)), mDq M3_countKinds q := by decide +kernel
set_option maxRecDepth 100000 in
theorem d4_readText : ∀ q ∈ ([(0, .aload_n 0, 1, 1), (1, .getfield 21, 3, 4), (4, .invokevirtual 32, 3, 7), (7, .aload_n 0, 1, 8), (8, .getfield 28, 3, 11), (11, .invokevirtual 35, 3, 14), (14, .aload_n 0, 1, 15), (15, .iconst 0, 1, 16), (16, .putfield 36, 3, 19), (19, .aload_n 0, 1, 20), (20, .iconst 0, 1, 21), (21, .putfield 40, 3, 24), (24, .aload_n 0, 1, 25), (25, .iconst 0, 1, 26), (26, .putfield 43, 3, 29), (29, .aload_n 0, 1, 30), (30, .iconst (-1), 1, 31), (31, .putfield 46, 3, 34), (34, .aload_n 0, 1, 35), (35, .getfield 12, 3, 38), (38, .aload_n 1, 1, 39), (39, .iload_n 2, 1, 40), (40, .invokevirtual 49, 3, 43), (43, .aload_n 0, 1, 44), (44, .iconst 0, 1, 45), (45, .putfield 53, 3, 48), (48, .aload_n 0, 1, 49), (49, .invokevirtual 56, 3, 52), (52, .iconst 0, 1, 53), (53, .istore_n 3, 1, 54), (54, .iconst 0, 1, 55), (55, .istore 4, 2, 57), (57, .iload 4, 2, 59), (59, .aload_n 0, 1, 60), (60, .getfield 12, 3, 63), (63, .getfield 59, 3, 66), (66, .if_icmp .ge 30, 3, 69), (69, .aload_n 0, 1, 70), (70, .getfield 62, 3, 73), (73, .ifCond .eq 23, 3, 76), (76, .aload_n 0, 1, 77), (77, .getfield 43, 3, 80), (80, .ifCond .ne 16, 3, 83), (83, .aload_n 0, 1, 84), (84, .invokevirtual 65, 3, 87), (87, .iinc 3 1, 3, 90), (90, .iinc 4 1, 3, 93), (93, .goto (-36), 3, 96), (96, .iload_n 3, 1, 97), (97, .ireturn, 1, 98)] : List (Nat × Instr × Nat × Nat)), mDq M4_readText q := by decide +kernel
set_option maxRecDepth 100000 in
theorem d4_advance : ∀ q ∈ ([(0, .aload_n 0, 1, 1), (1, .getfield 53, 3, 4), (4, .ifCond .lt 75, 3, 7), (7, .aload_n 0, 1, 8), (8, .getfield 53, 3, 11), (11, .aload_n 0, 1, 12), (12, .getfield 12, 3, 15), (15, .getfield 59, 3, 18), (18, .if_icmp .ge 61, 3, 21), (21, .aload_n 0, 1, 22), (22, .aload_n 0, 1, 23), (23, .getfield 12, 3, 26), (26, .getfield 68, 3, 29), (29, .aload_n 0, 1, 30), (30, .getfield 53, 3, 33), (33, .iaload, 1, 34), (34, .putfield 62, 3, 37), (37, .aload_n 0, 1, 38), (38, .aload_n 0, 1, 39), (39, .getfield 12, 3, 42), (42, .getfield 72, 3, 45), (45, .aload_n 0, 1, 46), (46, .getfield 53, 3, 49), (49, .iaload, 1, 50), (50, .putfield 75, 3, 53), (53, .aload_n 0, 1, 54), (54, .aload_n 0, 1, 55), (55, .getfield 12, 3, 58), (58, .getfield 78, 3, 61), (61, .aload_n 0, 1, 62), (62, .getfield 53, 3, 65), (65, .iaload, 1, 66), (66, .putfield 81, 3, 69), (69, .aload_n 0, 1, 70), (70, .dup, 1, 71), (71, .getfield 53, 3, 74), (74, .iconst 1, 1, 75), (75, .iadd, 1, 76), (76, .putfield 53, 3, 79), (79, .return_, 1, 80)] : List (Nat × Instr × Nat × Nat)), mDq M4_advance q := by decide +kernel
set_option maxRecDepth 100000 in
theorem d4_fail : ∀ q ∈ ([(0, .aload_n 0, 1, 1), (1, .getfield 43, 3, 4), (4, .ifCond .ne 16, 3, 7), (7, .aload_n 0, 1, 8), (8, .iload_n 1, 1, 9), (9, .putfield 43, 3, 12), (12, .aload_n 0, 1, 13), (13, .aload_n 0, 1, 14), (14, .getfield 81, 3, 17), (17, .putfield 46, 3, 20), (20, .return_, 1, 21)] : List (Nat × Instr × Nat × Nat)), mDq M4_fail q := by decide +kernel
set_option maxRecDepth 100000 in
theorem d4_readLine : ∀ q ∈ ([(0, .aload_n 0, 1, 1), (1, .getfield 62, 3, 4), (4, .iconst 1, 1, 5), (5, .if_icmp .eq 9, 3, 8), (8, .aload_n 0, 1, 9), (9, .iconst 1, 1, 10), (10, .invokevirtual 84, 3, 13), (13, .return_, 1, 14), (14, .aload_n 0, 1, 15), (15, .getfield 75, 3, 18), (18, .tableswitch 58 0 3 #[30, 37, 44, 51], 30, 48), (48, .aload_n 0, 1, 49), (49, .invokevirtual 88, 3, 52), (52, .goto 32, 3, 55), (55, .aload_n 0, 1, 56), (56, .invokevirtual 91, 3, 59), (59, .goto 25, 3, 62), (62, .aload_n 0, 1, 63), (63, .invokevirtual 94, 3, 66), (66, .goto 18, 3, 69), (69, .aload_n 0, 1, 70), (70, .invokevirtual 97, 3, 73), (73, .goto 11, 3, 76), (76, .aload_n 0, 1, 77), (77, .aload_n 0, 1, 78), (78, .getfield 75, 3, 81), (81, .invokevirtual 100, 3, 84), (84, .aload_n 0, 1, 85), (85, .invokevirtual 103, 3, 88), (88, .return_, 1, 89)] : List (Nat × Instr × Nat × Nat)), mDq M4_readLine q := by decide +kernel
set_option maxRecDepth 100000 in
theorem d4_takeStop : ∀ q ∈ ([(0, .aload_n 0, 1, 1), (1, .getfield 62, 3, 4), (4, .iconst 4, 1, 5), (5, .if_icmp .eq 8, 3, 8), (8, .aload_n 0, 1, 9), (9, .iconst 1, 1, 10), (10, .invokevirtual 84, 3, 13), (13, .aload_n 0, 1, 14), (14, .getfield 43, 3, 17), (17, .ifCond .ne 7, 3, 20), (20, .aload_n 0, 1, 21), (21, .invokevirtual 56, 3, 24), (24, .return_, 1, 25)] : List (Nat × Instr × Nat × Nat)), mDq M4_takeStop q := by decide +kernel
set_option maxRecDepth 100000 in
theorem d4_takeNumber : ∀ q ∈ ([(0, .aload_n 0, 1, 1), (1, .getfield 62, 3, 4), (4, .iconst 3, 1, 5), (5, .if_icmp .eq 11, 3, 8), (8, .aload_n 0, 1, 9), (9, .iconst 1, 1, 10), (10, .invokevirtual 84, 3, 13), (13, .goto 24, 3, 16), (16, .aload_n 0, 1, 17), (17, .getfield 75, 3, 20), (20, .iload_n 1, 1, 21), (21, .if_icmp .lt 11, 3, 24), (24, .aload_n 0, 1, 25), (25, .getfield 75, 3, 28), (28, .iload_n 2, 1, 29), (29, .if_icmp .le 8, 3, 32), (32, .aload_n 0, 1, 33), (33, .iconst 2, 1, 34), (34, .invokevirtual 84, 3, 37), (37, .aload_n 0, 1, 38), (38, .getfield 43, 3, 41), (41, .ifCond .eq 5, 3, 44), (44, .iload_n 1, 1, 45), (45, .ireturn, 1, 46), (46, .aload_n 0, 1, 47), (47, .getfield 75, 3, 50), (50, .istore_n 3, 1, 51), (51, .aload_n 0, 1, 52), (52, .invokevirtual 56, 3, 55), (55, .iload_n 3, 1, 56), (56, .ireturn, 1, 57)] : List (Nat × Instr × Nat × Nat)), mDq M4_takeNumber q := by decide +kernel
set_option maxRecDepth 100000 in
theorem d4_factorHere : ∀ q ∈ ([(0, .aload_n 0, 1, 1), (1, .getfield 62, 3, 4), (4, .iconst 2, 1, 5), (5, .if_icmp .ne 17, 3, 8), (8, .aload_n 0, 1, 9), (9, .getfield 21, 3, 12), (12, .aload_n 0, 1, 13), (13, .getfield 75, 3, 16), (16, .invokevirtual 106, 3, 19), (19, .goto 4, 3, 22), (22, .iconst (-1), 1, 23), (23, .istore_n 1, 1, 24), (24, .aload_n 0, 1, 25), (25, .getfield 62, 3, 28), (28, .iconst 2, 1, 29), (29, .if_icmp .eq 11, 3, 32), (32, .aload_n 0, 1, 33), (33, .iconst 1, 1, 34), (34, .invokevirtual 84, 3, 37), (37, .goto 13, 3, 40), (40, .iload_n 1, 1, 41), (41, .iconst (-1), 1, 42), (42, .if_icmp .ne 8, 3, 45), (45, .aload_n 0, 1, 46), (46, .iconst 4, 1, 47), (47, .invokevirtual 84, 3, 50), (50, .iload_n 1, 1, 51), (51, .ireturn, 1, 52)] : List (Nat × Instr × Nat × Nat)), mDq M4_factorHere q := by decide +kernel
set_option maxRecDepth 100000 in
theorem d4_readFactor : ∀ q ∈ ([(0, .aload_n 0, 1, 1), (1, .getfield 28, 3, 4), (4, .getfield 110, 3, 7), (7, .ifCond .le 9, 3, 10), (10, .aload_n 0, 1, 11), (11, .iconst 1, 1, 12), (12, .invokevirtual 84, 3, 15), (15, .return_, 1, 16), (16, .aload_n 0, 1, 17), (17, .getfield 21, 3, 20), (20, .getfield 113, 3, 23), (23, .iconst 4, 1, 24), (24, .if_icmp .lt 9, 3, 27), (27, .aload_n 0, 1, 28), (28, .iconst 2, 1, 29), (29, .invokevirtual 84, 3, 32), (32, .return_, 1, 33), (33, .aload_n 0, 1, 34), (34, .invokevirtual 56, 3, 37), (37, .aload_n 0, 1, 38), (38, .getfield 75, 3, 41), (41, .istore_n 1, 1, 42), (42, .aload_n 0, 1, 43), (43, .getfield 62, 3, 46), (46, .iconst 2, 1, 47), (47, .if_icmp .eq 9, 3, 50), (50, .aload_n 0, 1, 51), (51, .iconst 1, 1, 52), (52, .invokevirtual 84, 3, 55), (55, .return_, 1, 56), (56, .aload_n 0, 1, 57), (57, .getfield 21, 3, 60), (60, .iload_n 1, 1, 61), (61, .invokevirtual 106, 3, 64), (64, .iconst (-1), 1, 65), (65, .if_icmp .eq 9, 3, 68), (68, .aload_n 0, 1, 69), (69, .iconst 3, 1, 70), (70, .invokevirtual 84, 3, 73), (73, .return_, 1, 74), (74, .aload_n 0, 1, 75), (75, .invokevirtual 56, 3, 78), (78, .aload_n 0, 1, 79), (79, .getfield 21, 3, 82), (82, .iload_n 1, 1, 83), (83, .aload_n 0, 1, 84), (84, .iconst 1, 1, 85), (85, .bipush 6, 2, 87), (87, .invokevirtual 116, 3, 90), (90, .invokevirtual 120, 3, 93), (93, .return_, 1, 94)] : List (Nat × Instr × Nat × Nat)), mDq M4_readFactor q := by decide +kernel
set_option maxRecDepth 100000 in
theorem d4_readBand : ∀ q ∈ ([(0, .aload_n 0, 1, 1), (1, .invokevirtual 56, 3, 4), (4, .aload_n 0, 1, 5), (5, .invokevirtual 124, 3, 8), (8, .istore_n 1, 1, 9), (9, .aload_n 0, 1, 10), (10, .getfield 21, 3, 13), (13, .iload_n 1, 1, 14), (14, .invokevirtual 128, 3, 17), (17, .ifCond .ne 4, 3, 20), (20, .return_, 1, 21), (21, .aload_n 0, 1, 22), (22, .getfield 40, 3, 25), (25, .iload_n 1, 1, 26), (26, .ishr, 1, 27), (27, .iconst 1, 1, 28), (28, .iand, 1, 29), (29, .ifCond .eq 9, 3, 32), (32, .aload_n 0, 1, 33), (33, .iconst 3, 1, 34), (34, .invokevirtual 84, 3, 37), (37, .return_, 1, 38), (38, .aload_n 0, 1, 39), (39, .dup, 1, 40), (40, .getfield 40, 3, 43), (43, .iconst 1, 1, 44), (44, .iload_n 1, 1, 45), (45, .ishl, 1, 46), (46, .ior, 1, 47), (47, .putfield 40, 3, 50), (50, .aload_n 0, 1, 51), (51, .invokevirtual 56, 3, 54), (54, .aload_n 0, 1, 55), (55, .getfield 21, 3, 58), (58, .getfield 132, 3, 61), (61, .iload_n 1, 1, 62), (62, .aload_n 0, 1, 63), (63, .iconst 1, 1, 64), (64, .sipush 10000, 3, 67), (67, .invokevirtual 116, 3, 70), (70, .iastore, 1, 71), (71, .aload_n 0, 1, 72), (72, .getfield 21, 3, 75), (75, .getfield 135, 3, 78), (78, .iload_n 1, 1, 79), (79, .aload_n 0, 1, 80), (80, .sipush 10000, 3, 83), (83, .ldc 138, 2, 85), (85, .invokevirtual 116, 3, 88), (88, .iastore, 1, 89), (89, .return_, 1, 90)] : List (Nat × Instr × Nat × Nat)), mDq M4_readBand q := by decide +kernel
set_option maxRecDepth 100000 in
theorem d4_readJoin : ∀ q ∈ ([(0, .aload_n 0, 1, 1), (1, .invokevirtual 56, 3, 4), (4, .aload_n 0, 1, 5), (5, .invokevirtual 124, 3, 8), (8, .istore_n 1, 1, 9), (9, .aload_n 0, 1, 10), (10, .getfield 21, 3, 13), (13, .iload_n 1, 1, 14), (14, .invokevirtual 128, 3, 17), (17, .ifCond .ne 4, 3, 20), (20, .return_, 1, 21), (21, .aload_n 0, 1, 22), (22, .invokevirtual 56, 3, 25), (25, .aload_n 0, 1, 26), (26, .getfield 75, 3, 29), (29, .istore_n 2, 1, 30), (30, .aload_n 0, 1, 31), (31, .getfield 62, 3, 34), (34, .iconst 3, 1, 35), (35, .if_icmp .ne 33, 3, 38), (38, .aload_n 0, 1, 39), (39, .getfield 21, 3, 42), (42, .iload_n 1, 1, 43), (43, .iload_n 2, 1, 44), (44, .invokevirtual 139, 3, 47), (47, .ifCond .eq 21, 3, 50), (50, .aload_n 0, 1, 51), (51, .getfield 28, 3, 54), (54, .iload_n 1, 1, 55), (55, .iload_n 2, 1, 56), (56, .invokevirtual 143, 3, 59), (59, .ifCond .eq 9, 3, 62), (62, .aload_n 0, 1, 63), (63, .iconst 3, 1, 64), (64, .invokevirtual 84, 3, 67), (67, .return_, 1, 68), (68, .aload_n 0, 1, 69), (69, .iconst 0, 1, 70), (70, .aload_n 0, 1, 71), (71, .getfield 21, 3, 74), (74, .getfield 146, 3, 77), (77, .iload_n 1, 1, 78), (78, .iaload, 1, 79), (79, .iconst 2, 1, 80), (80, .isub, 1, 81), (81, .invokevirtual 116, 3, 84), (84, .pop, 1, 85), (85, .aload_n 0, 1, 86), (86, .getfield 43, 3, 89), (89, .ifCond .ne 12, 3, 92), (92, .aload_n 0, 1, 93), (93, .getfield 28, 3, 96), (96, .iload_n 1, 1, 97), (97, .iload_n 2, 1, 98), (98, .invokevirtual 149, 3, 101), (101, .return_, 1, 102)] : List (Nat × Instr × Nat × Nat)), mDq M4_readJoin q := by decide +kernel
set_option maxRecDepth 100000 in
theorem d4_readRisk : ∀ q ∈ ([(0, .aload_n 0, 1, 1), (1, .getfield 28, 3, 4), (4, .getfield 110, 3, 7), (7, .bipush 40, 2, 9), (9, .if_icmp .lt 9, 3, 12), (12, .aload_n 0, 1, 13), (13, .iconst 2, 1, 14), (14, .invokevirtual 84, 3, 17), (17, .return_, 1, 18), (18, .aload_n 0, 1, 19), (19, .invokevirtual 56, 3, 22), (22, .aload_n 0, 1, 23), (23, .iconst 1, 1, 24), (24, .bipush 99, 2, 26), (26, .invokevirtual 116, 3, 29), (29, .istore_n 1, 1, 30), (30, .aload_n 0, 1, 31), (31, .iconst 0, 1, 32), (32, .ldc 138, 2, 34), (34, .invokevirtual 116, 3, 37), (37, .istore_n 2, 1, 38), (38, .aload_n 0, 1, 39), (39, .iconst 1, 1, 40), (40, .ldc 138, 2, 42), (42, .invokevirtual 116, 3, 45), (45, .istore_n 3, 1, 46), (46, .iconst 0, 1, 47), (47, .istore 4, 2, 49), (49, .iconst 0, 1, 50), (50, .istore 5, 2, 52), (52, .iload 5, 2, 54), (54, .aload_n 0, 1, 55), (55, .getfield 21, 3, 58), (58, .getfield 113, 3, 61), (61, .if_icmp .ge 37, 3, 64), (64, .iload 4, 2, 66), (66, .aload_n 0, 1, 67), (67, .iconst 0, 1, 68), (68, .aload_n 0, 1, 69), (69, .getfield 21, 3, 72), (72, .getfield 146, 3, 75), (75, .iload 5, 2, 77), (77, .iaload, 1, 78), (78, .iconst 1, 1, 79), (79, .isub, 1, 80), (80, .invokevirtual 116, 3, 83), (83, .iload 5, 2, 85), (85, .invokestatic 152, 3, 88), (88, .ishl, 1, 89), (89, .ior, 1, 90), (90, .istore 4, 2, 92), (92, .iinc 5 1, 3, 95), (95, .goto (-43), 3, 98), (98, .aload_n 0, 1, 99), (99, .getfield 43, 3, 102), (102, .ifCond .ne 15, 3, 105), (105, .aload_n 0, 1, 106), (106, .getfield 28, 3, 109), (109, .iload_n 1, 1, 110), (110, .iload_n 2, 1, 111), (111, .iload_n 3, 1, 112), (112, .iload 4, 2, 114), (114, .invokevirtual 155, 3, 117), (117, .return_, 1, 118)] : List (Nat × Instr × Nat × Nat)), mDq M4_readRisk q := by decide +kernel
set_option maxRecDepth 100000 in
theorem d4_readSetting : ∀ q ∈ ([(0, .aload_n 0, 1, 1), (1, .getfield 36, 3, 4), (4, .iload_n 1, 1, 5), (5, .ishr, 1, 6), (6, .iconst 1, 1, 7), (7, .iand, 1, 8), (8, .ifCond .eq 9, 3, 11), (11, .aload_n 0, 1, 12), (12, .iconst 3, 1, 13), (13, .invokevirtual 84, 3, 16), (16, .return_, 1, 17), (17, .aload_n 0, 1, 18), (18, .dup, 1, 19), (19, .getfield 36, 3, 22), (22, .iconst 1, 1, 23), (23, .iload_n 1, 1, 24), (24, .ishl, 1, 25), (25, .ior, 1, 26), (26, .putfield 36, 3, 29), (29, .aload_n 0, 1, 30), (30, .invokevirtual 56, 3, 33), (33, .iload_n 1, 1, 34), (34, .tableswitch 158 4 9 #[38, 55, 73, 91, 109, 141], 38, 72), (72, .aload_n 0, 1, 73), (73, .getfield 28, 3, 76), (76, .aload_n 0, 1, 77), (77, .iconst 1, 1, 78), (78, .ldc 138, 2, 80), (80, .invokevirtual 116, 3, 83), (83, .putfield 159, 3, 86), (86, .goto 111, 3, 89), (89, .aload_n 0, 1, 90), (90, .getfield 21, 3, 93), (93, .aload_n 0, 1, 94), (94, .iconst 0, 1, 95), (95, .sipush 999, 3, 98), (98, .invokevirtual 116, 3, 101), (101, .putfield 162, 3, 104), (104, .goto 93, 3, 107), (107, .aload_n 0, 1, 108), (108, .getfield 28, 3, 111), (111, .aload_n 0, 1, 112), (112, .iconst 0, 1, 113), (113, .sipush 999, 3, 116), (116, .invokevirtual 116, 3, 119), (119, .putfield 165, 3, 122), (122, .goto 75, 3, 125), (125, .aload_n 0, 1, 126), (126, .getfield 28, 3, 129), (129, .aload_n 0, 1, 130), (130, .iconst 0, 1, 131), (131, .sipush 999, 3, 134), (134, .invokevirtual 116, 3, 137), (137, .putfield 168, 3, 140), (140, .goto 57, 3, 143), (143, .aload_n 0, 1, 144), (144, .getfield 28, 3, 147), (147, .aload_n 0, 1, 148), (148, .iconst 1, 1, 149), (149, .bipush 99, 2, 151), (151, .invokevirtual 116, 3, 154), (154, .putfield 171, 3, 157), (157, .aload_n 0, 1, 158), (158, .getfield 28, 3, 161), (161, .aload_n 0, 1, 162), (162, .iconst 0, 1, 163), (163, .sipush 500, 3, 166), (166, .invokevirtual 116, 3, 169), (169, .putfield 174, 3, 172), (172, .goto 25, 3, 175), (175, .aload_n 0, 1, 176), (176, .getfield 21, 3, 179), (179, .aload_n 0, 1, 180), (180, .iconst 0, 1, 181), (181, .ldc 138, 2, 183), (183, .invokevirtual 116, 3, 186), (186, .putfield 177, 3, 189), (189, .goto 8, 3, 192), (192, .aload_n 0, 1, 193), (193, .iconst 1, 1, 194), (194, .invokevirtual 84, 3, 197), (197, .return_, 1, 198)] : List (Nat × Instr × Nat × Nat)), mDq M4_readSetting q := by decide +kernel
set_option maxRecDepth 100000 in
theorem d5_scan : ∀ q ∈ ([(0, .iconst 0, 1, 1), (1, .iload_n 2, 1, 2), (2, .aload_n 1, 1, 3), (3, .arraylength, 1, 4), (4, .sipush 900, 3, 7), (7, .invokestatic 21, 3, 10), (10, .invokestatic 21, 3, 13), (13, .invokestatic 27, 3, 16), (16, .istore_n 3, 1, 17), (17, .aload_n 0, 1, 18), (18, .iconst 0, 1, 19), (19, .putfield 30, 3, 22), (22, .aload_n 0, 1, 23), (23, .iconst 0, 1, 24), (24, .putfield 34, 3, 27), (27, .iconst 0, 1, 28), (28, .istore 4, 2, 30), (30, .iload 4, 2, 32), (32, .iload_n 3, 1, 33), (33, .if_icmp .ge 104, 3, 36), (36, .aload_n 0, 1, 37), (37, .getfield 34, 3, 40), (40, .iload_n 3, 1, 41), (41, .if_icmp .ge 96, 3, 44), (44, .aload_n 1, 1, 45), (45, .aload_n 0, 1, 46), (46, .getfield 34, 3, 49), (49, .baload, 1, 50), (50, .istore 5, 2, 52), (52, .iload 5, 2, 54), (54, .invokestatic 37, 3, 57), (57, .ifCond .eq 12, 3, 60), (60, .aload_n 0, 1, 61), (61, .aload_n 1, 1, 62), (62, .iload_n 3, 1, 63), (63, .invokevirtual 41, 3, 66), (66, .goto 65, 3, 69), (69, .iload 5, 2, 71), (71, .invokestatic 45, 3, 74), (74, .ifCond .eq 12, 3, 77), (77, .aload_n 0, 1, 78), (78, .aload_n 1, 1, 79), (79, .iload_n 3, 1, 80), (80, .invokevirtual 48, 3, 83), (83, .goto 48, 3, 86), (86, .iload 5, 2, 88), (88, .bipush 32, 2, 90), (90, .if_icmp .eq 31, 3, 93), (93, .iload 5, 2, 95), (95, .bipush 10, 2, 97), (97, .if_icmp .eq 24, 3, 100), (100, .aload_n 0, 1, 101), (101, .iload 5, 2, 103), (103, .bipush 59, 2, 105), (105, .if_icmp .ne 7, 3, 108), (108, .iconst 4, 1, 109), (109, .goto 4, 3, 112), (112, .iconst 5, 1, 113), (113, .iconst 0, 1, 114), (114, .aload_n 0, 1, 115), (115, .getfield 34, 3, 118), (118, .invokevirtual 51, 3, 121), (121, .aload_n 0, 1, 122), (122, .dup, 1, 123), (123, .getfield 34, 3, 126), (126, .iconst 1, 1, 127), (127, .iadd, 1, 128), (128, .putfield 34, 3, 131), (131, .iinc 4 1, 3, 134), (134, .goto (-104), 3, 137), (137, .aload_n 0, 1, 138), (138, .iconst 0, 1, 139), (139, .iconst 0, 1, 140), (140, .iload_n 3, 1, 141), (141, .invokevirtual 51, 3, 144), (144, .return_, 1, 145)] : List (Nat × Instr × Nat × Nat)), mDq M5_scan q := by decide +kernel
set_option maxRecDepth 100000 in
theorem d5_put : ∀ q ∈ ([(0, .aload_n 0, 1, 1), (1, .getfield 30, 3, 4), (4, .ifCond .lt 55, 3, 7), (7, .aload_n 0, 1, 8), (8, .getfield 30, 3, 11), (11, .aload_n 0, 1, 12), (12, .getfield 9, 3, 15), (15, .arraylength, 1, 16), (16, .if_icmp .ge 43, 3, 19), (19, .aload_n 0, 1, 20), (20, .getfield 9, 3, 23), (23, .aload_n 0, 1, 24), (24, .getfield 30, 3, 27), (27, .iload_n 1, 1, 28), (28, .iastore, 1, 29), (29, .aload_n 0, 1, 30), (30, .getfield 15, 3, 33), (33, .aload_n 0, 1, 34), (34, .getfield 30, 3, 37), (37, .iload_n 2, 1, 38), (38, .iastore, 1, 39), (39, .aload_n 0, 1, 40), (40, .getfield 18, 3, 43), (43, .aload_n 0, 1, 44), (44, .getfield 30, 3, 47), (47, .iload_n 3, 1, 48), (48, .iastore, 1, 49), (49, .aload_n 0, 1, 50), (50, .dup, 1, 51), (51, .getfield 30, 3, 54), (54, .iconst 1, 1, 55), (55, .iadd, 1, 56), (56, .putfield 30, 3, 59), (59, .return_, 1, 60)] : List (Nat × Instr × Nat × Nat)), mDq M5_put q := by decide +kernel
set_option maxRecDepth 100000 in
theorem d5_scanWord : ∀ q ∈ ([(0, .aload_n 0, 1, 1), (1, .getfield 34, 3, 4), (4, .istore_n 3, 1, 5), (5, .iconst 0, 1, 6), (6, .istore 4, 2, 8), (8, .iload_n 3, 1, 9), (9, .istore 5, 2, 11), (11, .iload 5, 2, 13), (13, .iload_n 2, 1, 14), (14, .if_icmp .ge 43, 3, 17), (17, .aload_n 1, 1, 18), (18, .iload 5, 2, 20), (20, .baload, 1, 21), (21, .invokestatic 37, 3, 24), (24, .ifCond .eq 33, 3, 27), (27, .iload 4, 2, 29), (29, .aload_n 1, 1, 30), (30, .iload 5, 2, 32), (32, .baload, 1, 33), (33, .iload 5, 2, 35), (35, .iload_n 3, 1, 36), (36, .isub, 1, 37), (37, .invokestatic 55, 3, 40), (40, .ior, 1, 41), (41, .istore 4, 2, 43), (43, .aload_n 0, 1, 44), (44, .iload 5, 2, 46), (46, .iconst 1, 1, 47), (47, .iadd, 1, 48), (48, .putfield 34, 3, 51), (51, .iinc 5 1, 3, 54), (54, .goto (-43), 3, 57), (57, .iload 4, 2, 59), (59, .invokestatic 58, 3, 62), (62, .istore 5, 2, 64), (64, .aload_n 0, 1, 65), (65, .getfield 34, 3, 68), (68, .iload_n 3, 1, 69), (69, .isub, 1, 70), (70, .bipush 6, 2, 72), (72, .if_icmp .le 13, 3, 75), (75, .aload_n 0, 1, 76), (76, .iconst 5, 1, 77), (77, .iconst 0, 1, 78), (78, .iload_n 3, 1, 79), (79, .invokevirtual 51, 3, 82), (82, .goto 28, 3, 85), (85, .iload 5, 2, 87), (87, .iconst (-1), 1, 88), (88, .if_icmp .eq 14, 3, 91), (91, .aload_n 0, 1, 92), (92, .iconst 1, 1, 93), (93, .iload 5, 2, 95), (95, .iload_n 3, 1, 96), (96, .invokevirtual 51, 3, 99), (99, .goto 11, 3, 102), (102, .aload_n 0, 1, 103), (103, .iconst 2, 1, 104), (104, .iload 4, 2, 106), (106, .iload_n 3, 1, 107), (107, .invokevirtual 51, 3, 110), (110, .return_, 1, 111)] : List (Nat × Instr × Nat × Nat)), mDq M5_scanWord q := by decide +kernel
set_option maxRecDepth 100000 in
theorem d5_scanNumber : ∀ q ∈ ([(0, .aload_n 0, 1, 1), (1, .getfield 34, 3, 4), (4, .istore_n 3, 1, 5), (5, .iconst 0, 1, 6), (6, .istore 4, 2, 8), (8, .iload_n 3, 1, 9), (9, .istore 5, 2, 11), (11, .iload 5, 2, 13), (13, .iload_n 2, 1, 14), (14, .if_icmp .ge 47, 3, 17), (17, .aload_n 1, 1, 18), (18, .iload 5, 2, 20), (20, .baload, 1, 21), (21, .invokestatic 45, 3, 24), (24, .ifCond .eq 37, 3, 27), (27, .ldc 62, 2, 29), (29, .iload 4, 2, 31), (31, .bipush 10, 2, 33), (33, .imul, 1, 34), (34, .aload_n 1, 1, 35), (35, .iload 5, 2, 37), (37, .baload, 1, 38), (38, .iadd, 1, 39), (39, .bipush 48, 2, 41), (41, .isub, 1, 42), (42, .invokestatic 21, 3, 45), (45, .istore 4, 2, 47), (47, .aload_n 0, 1, 48), (48, .iload 5, 2, 50), (50, .iconst 1, 1, 51), (51, .iadd, 1, 52), (52, .putfield 34, 3, 55), (55, .iinc 5 1, 3, 58), (58, .goto (-47), 3, 61), (61, .aload_n 0, 1, 62), (62, .iconst 3, 1, 63), (63, .iload 4, 2, 65), (65, .iload_n 3, 1, 66), (66, .invokevirtual 51, 3, 69), (69, .return_, 1, 70)] : List (Nat × Instr × Nat × Nat)), mDq M5_scanNumber q := by decide +kernel
set_option maxRecDepth 100000 in
theorem d5_isLetter : ∀ q ∈ ([(0, .iload_n 0, 1, 1), (1, .bipush 97, 2, 3), (3, .if_icmp .lt 13, 3, 6), (6, .iload_n 0, 1, 7), (7, .bipush 122, 2, 9), (9, .if_icmp .gt 7, 3, 12), (12, .iconst 1, 1, 13), (13, .goto 4, 3, 16), (16, .iconst 0, 1, 17), (17, .ireturn, 1, 18)] : List (Nat × Instr × Nat × Nat)), mDq M5_isLetter q := by decide +kernel
set_option maxRecDepth 100000 in
theorem d5_isDigit : ∀ q ∈ ([(0, .iload_n 0, 1, 1), (1, .bipush 48, 2, 3), (3, .if_icmp .lt 13, 3, 6), (6, .iload_n 0, 1, 7), (7, .bipush 57, 2, 9), (9, .if_icmp .gt 7, 3, 12), (12, .iconst 1, 1, 13), (13, .goto 4, 3, 16), (16, .iconst 0, 1, 17), (17, .ireturn, 1, 18)] : List (Nat × Instr × Nat × Nat)), mDq M5_isDigit q := by decide +kernel
set_option maxRecDepth 100000 in
theorem d5_letterBits : ∀ q ∈ ([(0, .iconst 5, 1, 1), (1, .iload_n 1, 1, 2), (2, .isub, 1, 3), (3, .istore_n 2, 1, 4), (4, .iload_n 2, 1, 5), (5, .ifCond .ge 7, 3, 8), (8, .iconst 0, 1, 9), (9, .goto 13, 3, 12), (12, .iload_n 0, 1, 13), (13, .bipush 97, 2, 15), (15, .isub, 1, 16), (16, .iconst 1, 1, 17), (17, .iadd, 1, 18), (18, .iload_n 2, 1, 19), (19, .iconst 5, 1, 20), (20, .imul, 1, 21), (21, .ishl, 1, 22), (22, .ireturn, 1, 23)] : List (Nat × Instr × Nat × Nat)), mDq M5_letterBits q := by decide +kernel
set_option maxRecDepth 100000 in
theorem d5_wordNumber : ∀ q ∈ ([(0, .iconst 0, 1, 1), (1, .istore_n 1, 1, 2), (2, .iconst 0, 1, 3), (3, .istore_n 2, 1, 4), (4, .iconst 0, 1, 5), (5, .istore_n 3, 1, 6), (6, .iconst 0, 1, 7), (7, .istore 4, 2, 9), (9, .iload 4, 2, 11), (11, .ldc 63, 2, 13), (13, .invokevirtual 65, 3, 16), (16, .if_icmp .ge 54, 3, 19), (19, .ldc 63, 2, 21), (21, .iload 4, 2, 23), (23, .invokevirtual 71, 3, 26), (26, .istore 5, 2, 28), (28, .iload 5, 2, 30), (30, .bipush 32, 2, 32), (32, .if_icmp .eq 18, 3, 35), (35, .iload_n 3, 1, 36), (36, .iload 5, 2, 38), (38, .iload_n 2, 1, 39), (39, .invokestatic 55, 3, 42), (42, .ior, 1, 43), (43, .istore_n 3, 1, 44), (44, .iinc 2 1, 3, 47), (47, .goto 17, 3, 50), (50, .iload_n 3, 1, 51), (51, .iload_n 0, 1, 52), (52, .if_icmp .ne 5, 3, 55), (55, .iload_n 1, 1, 56), (56, .ireturn, 1, 57), (57, .iinc 1 1, 3, 60), (60, .iconst 0, 1, 61), (61, .istore_n 2, 1, 62), (62, .iconst 0, 1, 63), (63, .istore_n 3, 1, 64), (64, .iinc 4 1, 3, 67), (67, .goto (-58), 3, 70), (70, .iconst (-1), 1, 71), (71, .ireturn, 1, 72)] : List (Nat × Instr × Nat × Nat)), mDq M5_wordNumber q := by decide +kernel
set_option maxRecDepth 100000 in
theorem d6_feed : ∀ q ∈ ([(0, .aload_n 0, 1, 1), (1, .getfield 69, 3, 4), (4, .bipush 20, 2, 6), (6, .iadd, 1, 7), (7, .sipush 900, 3, 10), (10, .if_icmp .le 5, 3, 13), (13, .iconst (-1), 1, 14), (14, .ireturn, 1, 15), (15, .aload_n 0, 1, 16), (16, .iload_n 1, 1, 17), (17, .invokevirtual 72, 3, 20), (20, .aload_n 0, 1, 21), (21, .iload_n 2, 1, 22), (22, .invokevirtual 72, 3, 25), (25, .aload_n 0, 1, 26), (26, .iload_n 3, 1, 27), (27, .invokevirtual 72, 3, 30), (30, .aload_n 0, 1, 31), (31, .iload 4, 2, 33), (33, .invokevirtual 72, 3, 36), (36, .aload_n 0, 1, 37), (37, .iload 5, 2, 39), (39, .invokevirtual 72, 3, 42), (42, .aload_n 0, 1, 43), (43, .getfield 69, 3, 46), (46, .ireturn, 1, 47)] : List (Nat × Instr × Nat × Nat)), mDq M6_feed q := by decide +kernel
set_option maxRecDepth 100000 in
theorem d6_appendBytes : ∀ q ∈ ([(0, .bipush 24, 2, 2), (2, .istore_n 2, 1, 3), (3, .iload_n 2, 1, 4), (4, .ifCond .lt 42, 3, 7), (7, .aload_n 0, 1, 8), (8, .getfield 69, 3, 11), (11, .sipush 900, 3, 14), (14, .if_icmp .ge 32, 3, 17), (17, .aload_n 0, 1, 18), (18, .getfield 9, 3, 21), (21, .aload_n 0, 1, 22), (22, .getfield 69, 3, 25), (25, .iload_n 1, 1, 26), (26, .iload_n 2, 1, 27), (27, .ishr, 1, 28), (28, .i2b, 1, 29), (29, .bastore, 1, 30), (30, .aload_n 0, 1, 31), (31, .dup, 1, 32), (32, .getfield 69, 3, 35), (35, .iconst 1, 1, 36), (36, .iadd, 1, 37), (37, .putfield 69, 3, 40), (40, .iinc 2 (-8), 3, 43), (43, .goto (-40), 3, 46), (46, .return_, 1, 47)] : List (Nat × Instr × Nat × Nat)), mDq M6_appendBytes q := by decide +kernel
set_option maxRecDepth 100000 in
theorem d6_text : ∀ q ∈ ([(0, .iload_n 1, 1, 1), (1, .ifCond .lt 11, 3, 4), (4, .iload_n 1, 1, 5), (5, .aload_n 0, 1, 6), (6, .getfield 69, 3, 9), (9, .if_icmp .le 6, 3, 12), (12, .bipush (-2), 2, 14), (14, .ireturn, 1, 15), (15, .aload_n 0, 1, 16), (16, .iconst 0, 1, 17), (17, .putfield 69, 3, 20), (20, .aload_n 0, 1, 21), (21, .getfield 58, 3, 24), (24, .aload_n 0, 1, 25), (25, .getfield 9, 3, 28), (28, .iload_n 1, 1, 29), (29, .invokevirtual 76, 3, 32), (32, .istore_n 2, 1, 33), (33, .aload_n 0, 1, 34), (34, .aload_n 0, 1, 35), (35, .getfield 58, 3, 38), (38, .getfield 80, 3, 41), (41, .putfield 83, 3, 44), (44, .aload_n 0, 1, 45), (45, .aload_n 0, 1, 46), (46, .getfield 58, 3, 49), (49, .getfield 84, 3, 52), (52, .putfield 13, 3, 55), (55, .aload_n 0, 1, 56), (56, .getfield 83, 3, 59), (59, .ifCond .eq 5, 3, 62), (62, .iconst (-1), 1, 63), (63, .ireturn, 1, 64), (64, .aload_n 0, 1, 65), (65, .getfield 20, 3, 68), (68, .aload_n 0, 1, 69), (69, .getfield 58, 3, 72), (72, .getfield 85, 3, 75), (75, .invokevirtual 86, 3, 78), (78, .aload_n 0, 1, 79), (79, .getfield 27, 3, 82), (82, .aload_n 0, 1, 83), (83, .getfield 58, 3, 86), (86, .getfield 90, 3, 89), (89, .invokevirtual 91, 3, 92), (92, .aload_n 0, 1, 93), (93, .iconst 0, 1, 94), (94, .putfield 94, 3, 97), (97, .aload_n 0, 1, 98), (98, .iconst 0, 1, 99), (99, .putfield 98, 3, 102), (102, .iload_n 2, 1, 103), (103, .ireturn, 1, 104)] : List (Nat × Instr × Nat × Nat)), mDq M6_text q := by decide +kernel
set_option maxRecDepth 100000 in
theorem d6_fault : ∀ q ∈ ([(0, .iload_n 1, 1, 1), (1, .ifCond .ne 8, 3, 4), (4, .aload_n 0, 1, 5), (5, .getfield 83, 3, 8), (8, .ireturn, 1, 9), (9, .iload_n 1, 1, 10), (10, .iconst 1, 1, 11), (11, .if_icmp .ne 10, 3, 14), (14, .aload_n 0, 1, 15), (15, .getfield 13, 3, 18), (18, .goto 4, 3, 21), (21, .iconst (-1), 1, 22), (22, .ireturn, 1, 23)] : List (Nat × Instr × Nat × Nat)), mDq M6_fault q := by decide +kernel
set_option maxRecDepth 100000 in
theorem d6_named : ∀ q ∈ ([(0, .aload_n 0, 1, 1), (1, .getfield 20, 3, 4), (4, .iload_n 1, 1, 5), (5, .invokevirtual 101, 3, 8), (8, .ireturn, 1, 9)] : List (Nat × Instr × Nat × Nat)), mDq M6_named q := by decide +kernel
set_option maxRecDepth 100000 in
theorem d6_turn : ∀ q ∈ ([(0, .aload_n 0, 1, 1), (1, .getfield 20, 3, 4), (4, .iload_n 1, 1, 5), (5, .invokevirtual 105, 3, 8), (8, .ifCond .ne 5, 3, 11), (11, .iconst (-1), 1, 12), (12, .ireturn, 1, 13), (13, .aload_n 0, 1, 14), (14, .invokevirtual 109, 3, 17), (17, .aload_n 0, 1, 18), (18, .getfield 36, 3, 21), (21, .iload_n 1, 1, 22), (22, .invokevirtual 112, 3, 25), (25, .ireturn, 1, 26)] : List (Nat × Instr × Nat × Nat)), mDq M6_turn q := by decide +kernel
set_option maxRecDepth 100000 in
theorem d6_round : ∀ q ∈ ([(0, .iload_n 1, 1, 1), (1, .iconst 1, 1, 2), (2, .bipush 50, 2, 4), (4, .invokestatic 115, 3, 7), (7, .ifCond .ne 5, 3, 10), (10, .iconst (-1), 1, 11), (11, .ireturn, 1, 12), (12, .aload_n 0, 1, 13), (13, .invokevirtual 109, 3, 16), (16, .aload_n 0, 1, 17), (17, .getfield 36, 3, 20), (20, .iload_n 1, 1, 21), (21, .iconst (-1), 1, 22), (22, .invokevirtual 119, 3, 25), (25, .pop, 1, 26), (26, .aload_n 0, 1, 27), (27, .getfield 36, 3, 30), (30, .invokevirtual 123, 3, 33), (33, .ireturn, 1, 34)] : List (Nat × Instr × Nat × Nat)), mDq M6_round q := by decide +kernel
set_option maxRecDepth 100000 in
theorem d6_rebase : ∀ q ∈ ([(0, .aload_n 0, 1, 1), (1, .invokevirtual 109, 3, 4), (4, .aload_n 0, 1, 5), (5, .getfield 36, 3, 8), (8, .invokevirtual 127, 3, 11), (11, .aload_n 0, 1, 12), (12, .getfield 27, 3, 15), (15, .getfield 130, 3, 18), (18, .ireturn, 1, 19)] : List (Nat × Instr × Nat × Nat)), mDq M6_rebase q := by decide +kernel
set_option maxRecDepth 100000 in
theorem d6_level : ∀ q ∈ ([(0, .aload_n 0, 1, 1), (1, .invokevirtual 109, 3, 4), (4, .aload_n 0, 1, 5), (5, .getfield 36, 3, 8), (8, .invokevirtual 133, 3, 11), (11, .aload_n 0, 1, 12), (12, .getfield 27, 3, 15), (15, .getfield 130, 3, 18), (18, .ireturn, 1, 19)] : List (Nat × Instr × Nat × Nat)), mDq M6_level q := by decide +kernel
set_option maxRecDepth 100000 in
theorem d6_relativity : ∀ q ∈ ([(0, .aload_n 0, 1, 1), (1, .getfield 20, 3, 4), (4, .iload_n 1, 1, 5), (5, .iload_n 2, 1, 6), (6, .invokevirtual 136, 3, 9), (9, .ifCond .eq 28, 3, 12), (12, .iload_n 3, 1, 13), (13, .aload_n 0, 1, 14), (14, .getfield 20, 3, 17), (17, .getfield 139, 3, 20), (20, .iload_n 1, 1, 21), (21, .iaload, 1, 22), (22, .aload_n 0, 1, 23), (23, .getfield 20, 3, 26), (26, .getfield 143, 3, 29), (29, .iload_n 1, 1, 30), (30, .iaload, 1, 31), (31, .invokestatic 115, 3, 34), (34, .ifCond .ne 5, 3, 37), (37, .iconst (-1), 1, 38), (38, .ireturn, 1, 39), (39, .aload_n 0, 1, 40), (40, .invokevirtual 109, 3, 43), (43, .aload_n 0, 1, 44), (44, .getfield 27, 3, 47), (47, .getfield 146, 3, 50), (50, .iload_n 1, 1, 51), (51, .iload_n 2, 1, 52), (52, .invokestatic 149, 3, 55), (55, .iaload, 1, 56), (56, .istore 4, 2, 58), (58, .aload_n 0, 1, 59), (59, .getfield 27, 3, 62), (62, .iload_n 1, 1, 63), (63, .iload_n 2, 1, 64), (64, .iload_n 3, 1, 65), (65, .invokevirtual 153, 3, 68), (68, .iload 4, 2, 70), (70, .ireturn, 1, 71)] : List (Nat × Instr × Nat × Nat)), mDq M6_relativity q := by decide +kernel
set_option maxRecDepth 100000 in
theorem d6_claims : ∀ q ∈ ([(0, .aload_n 0, 1, 1), (1, .getfield 27, 3, 4), (4, .iload_n 1, 1, 5), (5, .invokevirtual 157, 3, 8), (8, .ifCond .eq 13, 3, 11), (11, .iload_n 2, 1, 12), (12, .iconst 0, 1, 13), (13, .ldc 160, 2, 15), (15, .invokestatic 115, 3, 18), (18, .ifCond .ne 5, 3, 21), (21, .iconst (-1), 1, 22), (22, .ireturn, 1, 23), (23, .aload_n 0, 1, 24), (24, .invokevirtual 109, 3, 27), (27, .aload_n 0, 1, 28), (28, .getfield 27, 3, 31), (31, .getfield 161, 3, 34), (34, .iload_n 1, 1, 35), (35, .iaload, 1, 36), (36, .istore_n 3, 1, 37), (37, .aload_n 0, 1, 38), (38, .getfield 27, 3, 41), (41, .getfield 161, 3, 44), (44, .iload_n 1, 1, 45), (45, .iload_n 2, 1, 46), (46, .iastore, 1, 47), (47, .iload_n 3, 1, 48), (48, .ireturn, 1, 49)] : List (Nat × Instr × Nat × Nat)), mDq M6_claims q := by decide +kernel
set_option maxRecDepth 100000 in
theorem d6_risk : ∀ q ∈ ([(0, .iload_n 1, 1, 1), (1, .iconst 1, 1, 2), (2, .bipush 99, 2, 4), (4, .invokestatic 115, 3, 7), (7, .ifCond .eq 35, 3, 10), (10, .iload_n 2, 1, 11), (11, .iconst 0, 1, 12), (12, .ldc 160, 2, 14), (14, .invokestatic 115, 3, 17), (17, .ifCond .eq 25, 3, 20), (20, .iload_n 3, 1, 21), (21, .iconst 1, 1, 22), (22, .ldc 160, 2, 24), (24, .invokestatic 115, 3, 27), (27, .ifCond .eq 15, 3, 30), (30, .aload_n 0, 1, 31), (31, .getfield 20, 3, 34), (34, .iload 4, 2, 36), (36, .invokevirtual 164, 3, 39), (39, .ifCond .ne 5, 3, 42), (42, .iconst (-1), 1, 43), (43, .ireturn, 1, 44), (44, .aload_n 0, 1, 45), (45, .getfield 27, 3, 48), (48, .getfield 167, 3, 51), (51, .bipush 40, 2, 53), (53, .if_icmp .lt 6, 3, 56), (56, .bipush (-2), 2, 58), (58, .ireturn, 1, 59), (59, .aload_n 0, 1, 60), (60, .invokevirtual 109, 3, 63), (63, .aload_n 0, 1, 64), (64, .getfield 27, 3, 67), (67, .iload_n 1, 1, 68), (68, .iload_n 2, 1, 69), (69, .iload_n 3, 1, 70), (70, .iload 4, 2, 72), (72, .invokevirtual 170, 3, 75), (75, .aload_n 0, 1, 76), (76, .getfield 27, 3, 79), (79, .getfield 167, 3, 82), (82, .iconst 1, 1, 83), (83, .isub, 1, 84), (84, .ireturn, 1, 85)] : List (Nat × Instr × Nat × Nat)), mDq M6_risk q := by decide +kernel
set_option maxRecDepth 100000 in
theorem d6_drop : ∀ q ∈ ([(0, .aload_n 0, 1, 1), (1, .getfield 27, 3, 4), (4, .iload_n 1, 1, 5), (5, .invokevirtual 157, 3, 8), (8, .ifCond .ne 5, 3, 11), (11, .iconst (-1), 1, 12), (12, .ireturn, 1, 13), (13, .aload_n 0, 1, 14), (14, .invokevirtual 109, 3, 17), (17, .aload_n 0, 1, 18), (18, .getfield 27, 3, 21), (21, .iload_n 1, 1, 22), (22, .invokevirtual 174, 3, 25), (25, .aload_n 0, 1, 26), (26, .getfield 27, 3, 29), (29, .getfield 167, 3, 32), (32, .ireturn, 1, 33)] : List (Nat × Instr × Nat × Nat)), mDq M6_drop q := by decide +kernel
set_option maxRecDepth 100000 in
theorem d6_join : ∀ q ∈ ([(0, .aload_n 0, 1, 1), (1, .getfield 20, 3, 4), (4, .iload_n 1, 1, 5), (5, .iload_n 2, 1, 6), (6, .invokevirtual 136, 3, 9), (9, .ifCond .eq 18, 3, 12), (12, .iload_n 2, 1, 13), (13, .aload_n 0, 1, 14), (14, .getfield 20, 3, 17), (17, .getfield 177, 3, 20), (20, .iload_n 1, 1, 21), (21, .iaload, 1, 22), (22, .iconst 1, 1, 23), (23, .isub, 1, 24), (24, .if_icmp .ne 5, 3, 27), (27, .iconst (-1), 1, 28), (28, .ireturn, 1, 29), (29, .aload_n 0, 1, 30), (30, .invokevirtual 109, 3, 33), (33, .aload_n 0, 1, 34), (34, .getfield 27, 3, 37), (37, .iload_n 1, 1, 38), (38, .iload_n 2, 1, 39), (39, .invokevirtual 180, 3, 42), (42, .ifCond .eq 14, 3, 45), (45, .aload_n 0, 1, 46), (46, .getfield 27, 3, 49), (49, .iload_n 1, 1, 50), (50, .iload_n 2, 1, 51), (51, .invokevirtual 183, 3, 54), (54, .iconst 0, 1, 55), (55, .ireturn, 1, 56), (56, .aload_n 0, 1, 57), (57, .getfield 27, 3, 60), (60, .iload_n 1, 1, 61), (61, .iload_n 2, 1, 62), (62, .invokevirtual 187, 3, 65), (65, .iconst 1, 1, 66), (66, .ireturn, 1, 67)] : List (Nat × Instr × Nat × Nat)), mDq M6_join q := by decide +kernel
set_option maxRecDepth 100000 in
theorem d6_cap : ∀ q ∈ ([(0, .iload_n 1, 1, 1), (1, .iconst 0, 1, 2), (2, .sipush 999, 3, 5), (5, .invokestatic 115, 3, 8), (8, .ifCond .ne 5, 3, 11), (11, .iconst (-1), 1, 12), (12, .ireturn, 1, 13), (13, .aload_n 0, 1, 14), (14, .invokevirtual 109, 3, 17), (17, .aload_n 0, 1, 18), (18, .getfield 27, 3, 21), (21, .getfield 190, 3, 24), (24, .istore_n 2, 1, 25), (25, .aload_n 0, 1, 26), (26, .getfield 27, 3, 29), (29, .iload_n 1, 1, 30), (30, .putfield 190, 3, 33), (33, .iload_n 2, 1, 34), (34, .ireturn, 1, 35)] : List (Nat × Instr × Nat × Nat)), mDq M6_cap q := by decide +kernel
set_option maxRecDepth 100000 in
theorem d6_trust : ∀ q ∈ ([(0, .iload_n 1, 1, 1), (1, .iconst 0, 1, 2), (2, .sipush 999, 3, 5), (5, .invokestatic 115, 3, 8), (8, .ifCond .ne 5, 3, 11), (11, .iconst (-1), 1, 12), (12, .ireturn, 1, 13), (13, .aload_n 0, 1, 14), (14, .invokevirtual 109, 3, 17), (17, .aload_n 0, 1, 18), (18, .getfield 27, 3, 21), (21, .getfield 193, 3, 24), (24, .istore_n 2, 1, 25), (25, .aload_n 0, 1, 26), (26, .getfield 27, 3, 29), (29, .iload_n 1, 1, 30), (30, .putfield 193, 3, 33), (33, .iload_n 2, 1, 34), (34, .ireturn, 1, 35)] : List (Nat × Instr × Nat × Nat)), mDq M6_trust q := by decide +kernel
set_option maxRecDepth 100000 in
theorem d6_fleet : ∀ q ∈ ([(0, .iload_n 1, 1, 1), (1, .iconst 1, 1, 2), (2, .bipush 99, 2, 4), (4, .invokestatic 115, 3, 7), (7, .ifCond .eq 14, 3, 10), (10, .iload_n 2, 1, 11), (11, .iconst 0, 1, 12), (12, .sipush 500, 3, 15), (15, .invokestatic 115, 3, 18), (18, .ifCond .ne 5, 3, 21), (21, .iconst (-1), 1, 22), (22, .ireturn, 1, 23), (23, .aload_n 0, 1, 24), (24, .invokevirtual 109, 3, 27), (27, .aload_n 0, 1, 28), (28, .getfield 27, 3, 31), (31, .iload_n 1, 1, 32), (32, .putfield 196, 3, 35), (35, .aload_n 0, 1, 36), (36, .getfield 27, 3, 39), (39, .iload_n 2, 1, 40), (40, .putfield 199, 3, 43), (43, .aload_n 0, 1, 44), (44, .getfield 27, 3, 47), (47, .invokevirtual 202, 3, 50), (50, .ireturn, 1, 51)] : List (Nat × Instr × Nat × Nat)), mDq M6_fleet q := by decide +kernel
set_option maxRecDepth 100000 in
theorem d6_margin : ∀ q ∈ ([(0, .aload_n 0, 1, 1), (1, .getfield 20, 3, 4), (4, .iload_n 1, 1, 5), (5, .iload_n 2, 1, 6), (6, .invokevirtual 136, 3, 9), (9, .ifCond .ne 7, 3, 12), (12, .ldc2_w 217, 3, 15), (15, .lreturn, 1, 16), (16, .aload_n 0, 1, 17), (17, .getfield 36, 3, 20), (20, .iload_n 1, 1, 21), (21, .invokevirtual 219, 3, 24), (24, .aload_n 0, 1, 25), (25, .getfield 27, 3, 28), (28, .iload_n 1, 1, 29), (29, .iload_n 2, 1, 30), (30, .invokevirtual 222, 3, 33), (33, .istore 4, 2, 35), (35, .iload_n 1, 1, 36), (36, .iload 4, 2, 38), (38, .invokestatic 149, 3, 41), (41, .istore 5, 2, 43), (43, .iload_n 3, 1, 44), (44, .tableswitch 139 0 7 #[48, 60, 64, 75, 86, 97, 108, 120], 48, 92), (92, .aload_n 0, 1, 93), (93, .getfield 27, 3, 96), (96, .getfield 146, 3, 99), (99, .iload 5, 2, 101), (101, .iaload, 1, 102), (102, .i2l, 1, 103), (103, .lreturn, 1, 104), (104, .iload 4, 2, 106), (106, .i2l, 1, 107), (107, .lreturn, 1, 108), (108, .aload_n 0, 1, 109), (109, .getfield 27, 3, 112), (112, .iload_n 1, 1, 113), (113, .iload_n 2, 1, 114), (114, .invokevirtual 225, 3, 117), (117, .i2l, 1, 118), (118, .lreturn, 1, 119), (119, .aload_n 0, 1, 120), (120, .getfield 36, 3, 123), (123, .getfield 228, 3, 126), (126, .iload 5, 2, 128), (128, .laload, 1, 129), (129, .lreturn, 1, 130), (130, .aload_n 0, 1, 131), (131, .getfield 36, 3, 134), (134, .getfield 232, 3, 137), (137, .iload 5, 2, 139), (139, .laload, 1, 140), (140, .lreturn, 1, 141), (141, .aload_n 0, 1, 142), (142, .getfield 36, 3, 145), (145, .getfield 235, 3, 148), (148, .iload 5, 2, 150), (150, .laload, 1, 151), (151, .lreturn, 1, 152), (152, .aload_n 0, 1, 153), (153, .getfield 36, 3, 156), (156, .getfield 238, 3, 159), (159, .iload 5, 2, 161), (161, .iaload, 1, 162), (162, .i2l, 1, 163), (163, .lreturn, 1, 164), (164, .aload_n 0, 1, 165), (165, .getfield 36, 3, 168), (168, .iload_n 1, 1, 169), (169, .iload 4, 2, 171), (171, .invokevirtual 241, 3, 174), (174, .ifCond .eq 7, 3, 177), (177, .lconst 1, 1, 178), (178, .goto 4, 3, 181), (181, .lconst 0, 1, 182), (182, .lreturn, 1, 183), (183, .ldc2_w 217, 3, 186), (186, .lreturn, 1, 187)] : List (Nat × Instr × Nat × Nat)), mDq M6_margin q := by decide +kernel
set_option maxRecDepth 100000 in
theorem d6_of : ∀ q ∈ ([(0, .aload_n 0, 1, 1), (1, .getfield 27, 3, 4), (4, .iload_n 1, 1, 5), (5, .invokevirtual 157, 3, 8), (8, .ifCond .ne 7, 3, 11), (11, .ldc2_w 244, 3, 14), (14, .lreturn, 1, 15), (15, .iload_n 2, 1, 16), (16, .tableswitch 115 0 5 #[40, 51, 62, 73, 82, 99], 40, 56), (56, .aload_n 0, 1, 57), (57, .getfield 27, 3, 60), (60, .getfield 246, 3, 63), (63, .iload_n 1, 1, 64), (64, .iaload, 1, 65), (65, .i2l, 1, 66), (66, .lreturn, 1, 67), (67, .aload_n 0, 1, 68), (68, .getfield 27, 3, 71), (71, .getfield 161, 3, 74), (74, .iload_n 1, 1, 75), (75, .iaload, 1, 76), (76, .i2l, 1, 77), (77, .lreturn, 1, 78), (78, .aload_n 0, 1, 79), (79, .getfield 27, 3, 82), (82, .getfield 249, 3, 85), (85, .iload_n 1, 1, 86), (86, .iaload, 1, 87), (87, .i2l, 1, 88), (88, .lreturn, 1, 89), (89, .aload_n 0, 1, 90), (90, .getfield 36, 3, 93), (93, .iload_n 1, 1, 94), (94, .invokevirtual 252, 3, 97), (97, .lreturn, 1, 98), (98, .aload_n 0, 1, 99), (99, .getfield 45, 3, 102), (102, .invokevirtual 256, 3, 105), (105, .aload_n 0, 1, 106), (106, .getfield 45, 3, 109), (109, .getfield 259, 3, 112), (112, .iload_n 1, 1, 113), (113, .laload, 1, 114), (114, .lreturn, 1, 115), (115, .aload_n 0, 1, 116), (116, .getfield 45, 3, 119), (119, .invokevirtual 256, 3, 122), (122, .aload_n 0, 1, 123), (123, .getfield 45, 3, 126), (126, .iload_n 1, 1, 127), (127, .invokevirtual 262, 3, 130), (130, .lreturn, 1, 131), (131, .iload_n 2, 1, 132), (132, .bipush 6, 2, 134), (134, .iconst 5, 1, 135), (135, .aload_n 0, 1, 136), (136, .getfield 20, 3, 139), (139, .getfield 265, 3, 142), (142, .iadd, 1, 143), (143, .invokestatic 115, 3, 146), (146, .ifCond .eq 23, 3, 149), (149, .aload_n 0, 1, 150), (150, .getfield 27, 3, 153), (153, .getfield 268, 3, 156), (156, .iload_n 1, 1, 157), (157, .iaload, 1, 158), (158, .iload_n 2, 1, 159), (159, .bipush 6, 2, 161), (161, .isub, 1, 162), (162, .invokestatic 271, 3, 165), (165, .i2l, 1, 166), (166, .goto 6, 3, 169), (169, .ldc2_w 244, 3, 172), (172, .lreturn, 1, 173)] : List (Nat × Instr × Nat × Nat)), mDq M6_of q := by decide +kernel
set_option maxRecDepth 100000 in
theorem d6_all : ∀ q ∈ ([(0, .iload_n 1, 1, 1), (1, .tableswitch 115 0 5 #[39, 54, 62, 77, 85, 100], 39, 40), (40, .aload_n 0, 1, 41), (41, .getfield 27, 3, 44), (44, .aload_n 0, 1, 45), (45, .getfield 27, 3, 48), (48, .getfield 161, 3, 51), (51, .invokevirtual 274, 3, 54), (54, .lreturn, 1, 55), (55, .aload_n 0, 1, 56), (56, .getfield 36, 3, 59), (59, .invokevirtual 278, 3, 62), (62, .lreturn, 1, 63), (63, .aload_n 0, 1, 64), (64, .getfield 27, 3, 67), (67, .aload_n 0, 1, 68), (68, .getfield 27, 3, 71), (71, .getfield 249, 3, 74), (74, .invokevirtual 274, 3, 77), (77, .lreturn, 1, 78), (78, .aload_n 0, 1, 79), (79, .getfield 36, 3, 82), (82, .invokevirtual 282, 3, 85), (85, .lreturn, 1, 86), (86, .aload_n 0, 1, 87), (87, .getfield 27, 3, 90), (90, .aload_n 0, 1, 91), (91, .getfield 27, 3, 94), (94, .getfield 246, 3, 97), (97, .invokevirtual 274, 3, 100), (100, .lreturn, 1, 101), (101, .aload_n 0, 1, 102), (102, .getfield 45, 3, 105), (105, .invokevirtual 256, 3, 108), (108, .aload_n 0, 1, 109), (109, .getfield 45, 3, 112), (112, .invokevirtual 285, 3, 115), (115, .lreturn, 1, 116), (116, .ldc2_w 288, 3, 119), (119, .lreturn, 1, 120)] : List (Nat × Instr × Nat × Nat)), mDq M6_all q := by decide +kernel
set_option maxRecDepth 100000 in
theorem d6_fitted : ∀ q ∈ ([(0, .iload_n 1, 1, 1), (1, .iconst 0, 1, 2), (2, .bipush 100, 2, 4), (4, .invokestatic 115, 3, 7), (7, .ifCond .ne 5, 3, 10), (10, .iconst (-1), 1, 11), (11, .ireturn, 1, 12), (12, .aload_n 0, 1, 13), (13, .getfield 49, 3, 16), (16, .aload_n 0, 1, 17), (17, .getfield 27, 3, 20), (20, .invokevirtual 91, 3, 23), (23, .aload_n 0, 1, 24), (24, .getfield 52, 3, 27), (27, .iload_n 1, 1, 28), (28, .invokevirtual 290, 3, 31), (31, .ireturn, 1, 32)] : List (Nat × Instr × Nat × Nat)), mDq M6_fitted q := by decide +kernel
set_option maxRecDepth 100000 in
theorem d6_unbalanced : ∀ q ∈ ([(0, .aload_n 0, 1, 1), (1, .getfield 36, 3, 4), (4, .invokevirtual 123, 3, 7), (7, .ireturn, 1, 8)] : List (Nat × Instr × Nat × Nat)), mDq M6_unbalanced q := by decide +kernel
set_option maxRecDepth 100000 in
theorem d6_offBalance : ∀ q ∈ ([(0, .aload_n 0, 1, 1), (1, .getfield 45, 3, 4), (4, .invokevirtual 256, 3, 7), (7, .aload_n 0, 1, 8), (8, .getfield 45, 3, 11), (11, .getfield 293, 3, 14), (14, .ireturn, 1, 15)] : List (Nat × Instr × Nat × Nat)), mDq M6_offBalance q := by decide +kernel
set_option maxRecDepth 100000 in
theorem d6_changes : ∀ q ∈ ([(0, .iload_n 1, 1, 1), (1, .iconst 0, 1, 2), (2, .iconst 3, 1, 3), (3, .invokestatic 115, 3, 6), (6, .ifCond .ne 5, 3, 9), (9, .iconst (-1), 1, 10), (10, .ireturn, 1, 11), (11, .aload_n 0, 1, 12), (12, .getfield 45, 3, 15), (15, .invokevirtual 256, 3, 18), (18, .iconst 0, 1, 19), (19, .istore_n 2, 1, 20), (20, .iconst 0, 1, 21), (21, .istore_n 3, 1, 22), (22, .iload_n 3, 1, 23), (23, .aload_n 0, 1, 24), (24, .getfield 27, 3, 27), (27, .getfield 167, 3, 30), (30, .if_icmp .ge 24, 3, 33), (33, .aload_n 0, 1, 34), (34, .getfield 45, 3, 37), (37, .iload_n 3, 1, 38), (38, .iload_n 1, 1, 39), (39, .invokevirtual 296, 3, 42), (42, .ifCond .eq 6, 3, 45), (45, .iinc 2 1, 3, 48), (48, .iinc 3 1, 3, 51), (51, .goto (-29), 3, 54), (54, .iload_n 2, 1, 55), (55, .ireturn, 1, 56)] : List (Nat × Instr × Nat × Nat)), mDq M6_changes q := by decide +kernel
set_option maxRecDepth 100000 in
theorem d6_share : ∀ q ∈ ([(0, .aload_n 0, 1, 1), (1, .getfield 20, 3, 4), (4, .iload_n 1, 1, 5), (5, .iload_n 2, 1, 6), (6, .invokevirtual 136, 3, 9), (9, .ifCond .ne 5, 3, 12), (12, .iconst (-1), 1, 13), (13, .ireturn, 1, 14), (14, .aload_n 0, 1, 15), (15, .getfield 36, 3, 18), (18, .iload_n 1, 1, 19), (19, .invokevirtual 219, 3, 22), (22, .aload_n 0, 1, 23), (23, .getfield 36, 3, 26), (26, .invokevirtual 278, 3, 29), (29, .lstore_n 3, 1, 30), (30, .lload_n 3, 1, 31), (31, .lconst 0, 1, 32), (32, .lcmp, 1, 33), (33, .ifCond .gt 6, 3, 36), (36, .bipush (-2), 2, 38), (38, .ireturn, 1, 39), (39, .aload_n 0, 1, 40), (40, .getfield 36, 3, 43), (43, .getfield 232, 3, 46), (46, .iload_n 1, 1, 47), (47, .aload_n 0, 1, 48), (48, .getfield 27, 3, 51), (51, .iload_n 1, 1, 52), (52, .iload_n 2, 1, 53), (53, .invokevirtual 222, 3, 56), (56, .invokestatic 149, 3, 59), (59, .laload, 1, 60), (60, .ldc2_w 299, 3, 63), (63, .lmul, 1, 64), (64, .lload_n 3, 1, 65), (65, .ldiv, 1, 66), (66, .l2i, 1, 67), (67, .ireturn, 1, 68)] : List (Nat × Instr × Nat × Nat)), mDq M6_share q := by decide +kernel
set_option maxRecDepth 100000 in
theorem d6_atEnd : ∀ q ∈ ([(0, .aload_n 0, 1, 1), (1, .getfield 20, 3, 4), (4, .iload_n 1, 1, 5), (5, .invokevirtual 105, 3, 8), (8, .ifCond .eq 12, 3, 11), (11, .iload_n 2, 1, 12), (12, .iconst 0, 1, 13), (13, .iconst 1, 1, 14), (14, .invokestatic 115, 3, 17), (17, .ifCond .ne 5, 3, 20), (20, .iconst (-1), 1, 21), (21, .ireturn, 1, 22), (22, .aload_n 0, 1, 23), (23, .getfield 36, 3, 26), (26, .iload_n 1, 1, 27), (27, .iload_n 2, 1, 28), (28, .ifCond .ne 15, 3, 31), (31, .aload_n 0, 1, 32), (32, .getfield 20, 3, 35), (35, .getfield 139, 3, 38), (38, .iload_n 1, 1, 39), (39, .iaload, 1, 40), (40, .goto 12, 3, 43), (43, .aload_n 0, 1, 44), (44, .getfield 20, 3, 47), (47, .getfield 143, 3, 50), (50, .iload_n 1, 1, 51), (51, .iaload, 1, 52), (52, .invokevirtual 301, 3, 55), (55, .ireturn, 1, 56)] : List (Nat × Instr × Nat × Nat)), mDq M6_atEnd q := by decide +kernel
set_option maxRecDepth 100000 in
theorem d6_mostOff : ∀ q ∈ ([(0, .aload_n 0, 1, 1), (1, .getfield 49, 3, 4), (4, .aload_n 0, 1, 5), (5, .getfield 27, 3, 8), (8, .invokevirtual 91, 3, 11), (11, .aload_n 0, 1, 12), (12, .getfield 27, 3, 15), (15, .aload_n 0, 1, 16), (16, .getfield 27, 3, 19), (19, .getfield 161, 3, 22), (22, .invokevirtual 274, 3, 25), (25, .lstore_n 1, 1, 26), (26, .bipush (-2), 2, 28), (28, .istore_n 3, 1, 29), (29, .iconst 0, 1, 30), (30, .istore 4, 2, 32), (32, .sipush 500, 3, 35), (35, .istore 5, 2, 37), (37, .iconst 0, 1, 38), (38, .istore 6, 2, 40), (40, .iload 6, 2, 42), (42, .bipush 20, 2, 44), (44, .if_icmp .ge 64, 3, 47), (47, .iload 4, 2, 49), (49, .iload 5, 2, 51), (51, .if_icmp .gt 57, 3, 54), (54, .iload 4, 2, 56), (56, .iload 5, 2, 58), (58, .iadd, 1, 59), (59, .iconst 1, 1, 60), (60, .ishr, 1, 61), (61, .istore 7, 2, 63), (63, .aload_n 0, 1, 64), (64, .getfield 49, 3, 67), (67, .iload 7, 2, 69), (69, .putfield 199, 3, 72), (72, .aload_n 0, 1, 73), (73, .getfield 52, 3, 76), (76, .invokevirtual 278, 3, 79), (79, .lload_n 1, 1, 80), (80, .lcmp, 1, 81), (81, .ifCond .lt 15, 3, 84), (84, .iload 7, 2, 86), (86, .istore_n 3, 1, 87), (87, .iload 7, 2, 89), (89, .iconst 1, 1, 90), (90, .iadd, 1, 91), (91, .istore 4, 2, 93), (93, .goto 9, 3, 96), (96, .iload 7, 2, 98), (98, .iconst 1, 1, 99), (99, .isub, 1, 100), (100, .istore 5, 2, 102), (102, .iinc 6 1, 3, 105), (105, .goto (-65), 3, 108), (108, .iload_n 3, 1, 109), (109, .ireturn, 1, 110)] : List (Nat × Instr × Nat × Nat)), mDq M6_mostOff q := by decide +kernel
set_option maxRecDepth 100000 in
theorem d6_step : ∀ q ∈ ([(0, .aload_n 0, 1, 1), (1, .getfield 27, 3, 4), (4, .iload_n 1, 1, 5), (5, .invokevirtual 157, 3, 8), (8, .ifCond .eq 18, 3, 11), (11, .iload_n 2, 1, 12), (12, .iconst 0, 1, 13), (13, .aload_n 0, 1, 14), (14, .getfield 20, 3, 17), (17, .getfield 265, 3, 20), (20, .invokestatic 115, 3, 23), (23, .ifCond .ne 7, 3, 26), (26, .ldc2_w 288, 3, 29), (29, .lreturn, 1, 30), (30, .aload_n 0, 1, 31), (31, .getfield 36, 3, 34), (34, .aload_n 0, 1, 35), (35, .getfield 27, 3, 38), (38, .getfield 246, 3, 41), (41, .iload_n 1, 1, 42), (42, .iaload, 1, 43), (43, .aload_n 0, 1, 44), (44, .getfield 27, 3, 47), (47, .getfield 268, 3, 50), (50, .iload_n 1, 1, 51), (51, .iaload, 1, 52), (52, .iload_n 2, 1, 53), (53, .invokevirtual 304, 3, 56), (56, .lreturn, 1, 57)] : List (Nat × Instr × Nat × Nat)), mDq M6_step q := by decide +kernel
set_option maxRecDepth 100000 in
theorem d6_swing : ∀ q ∈ ([(0, .aload_n 0, 1, 1), (1, .getfield 27, 3, 4), (4, .iload_n 1, 1, 5), (5, .invokevirtual 157, 3, 8), (8, .ifCond .eq 23, 3, 11), (11, .aload_n 0, 1, 12), (12, .getfield 20, 3, 15), (15, .iload_n 2, 1, 16), (16, .invokevirtual 105, 3, 19), (19, .ifCond .eq 12, 3, 22), (22, .iload_n 3, 1, 23), (23, .iconst 0, 1, 24), (24, .iconst 1, 1, 25), (25, .invokestatic 115, 3, 28), (28, .ifCond .ne 5, 3, 31), (31, .iconst (-1), 1, 32), (32, .ireturn, 1, 33), (33, .aload_n 0, 1, 34), (34, .getfield 27, 3, 37), (37, .getfield 268, 3, 40), (40, .iload_n 1, 1, 41), (41, .iaload, 1, 42), (42, .bipush 7, 2, 44), (44, .iload_n 2, 1, 45), (45, .invokestatic 308, 3, 48), (48, .ishl, 1, 49), (49, .iconst (-1), 1, 50), (50, .ixor, 1, 51), (51, .iand, 1, 52), (52, .istore 4, 2, 54), (54, .iconst 0, 1, 55), (55, .istore 5, 2, 57), (57, .lconst 0, 1, 58), (58, .lstore 6, 2, 60), (60, .iconst 0, 1, 61), (61, .istore 8, 2, 63), (63, .iload 8, 2, 65), (65, .aload_n 0, 1, 66), (66, .getfield 20, 3, 69), (69, .getfield 177, 3, 72), (72, .iload_n 2, 1, 73), (73, .iaload, 1, 74), (74, .if_icmp .ge 73, 3, 77), (77, .aload_n 0, 1, 78), (78, .getfield 36, 3, 81), (81, .aload_n 0, 1, 82), (82, .getfield 27, 3, 85), (85, .getfield 246, 3, 88), (88, .iload_n 1, 1, 89), (89, .iaload, 1, 90), (90, .iload 4, 2, 92), (92, .iload 8, 2, 94), (94, .iload_n 2, 1, 95), (95, .invokestatic 308, 3, 98), (98, .ishl, 1, 99), (99, .ior, 1, 100), (100, .invokevirtual 311, 3, 103), (103, .lstore 9, 2, 105), (105, .iload 8, 2, 107), (107, .ifCond .eq 26, 3, 110), (110, .iload_n 3, 1, 111), (111, .ifCond .ne 14, 3, 114), (114, .lload 9, 2, 116), (116, .lload 6, 2, 118), (118, .lcmp, 1, 119), (119, .ifCond .le 22, 3, 122), (122, .goto 11, 3, 125), (125, .lload 9, 2, 127), (127, .lload 6, 2, 129), (129, .lcmp, 1, 130), (130, .ifCond .ge 11, 3, 133), (133, .lload 9, 2, 135), (135, .lstore 6, 2, 137), (137, .iload 8, 2, 139), (139, .istore 5, 2, 141), (141, .iinc 8 1, 3, 144), (144, .goto (-81), 3, 147), (147, .iload 5, 2, 149), (149, .ireturn, 1, 150)] : List (Nat × Instr × Nat × Nat)), mDq M6_swing q := by decide +kernel
set_option maxRecDepth 100000 in
theorem d6_ratio : ∀ q ∈ ([(0, .aload_n 0, 1, 1), (1, .getfield 20, 3, 4), (4, .iload_n 1, 1, 5), (5, .iload_n 2, 1, 6), (6, .invokevirtual 136, 3, 9), (9, .ifCond .ne 7, 3, 12), (12, .ldc2_w 288, 3, 15), (15, .lreturn, 1, 16), (16, .aload_n 0, 1, 17), (17, .getfield 36, 3, 20), (20, .iload_n 1, 1, 21), (21, .invokevirtual 219, 3, 24), (24, .iload_n 1, 1, 25), (25, .aload_n 0, 1, 26), (26, .getfield 27, 3, 29), (29, .iload_n 1, 1, 30), (30, .iload_n 2, 1, 31), (31, .invokevirtual 222, 3, 34), (34, .invokestatic 149, 3, 37), (37, .istore_n 3, 1, 38), (38, .aload_n 0, 1, 39), (39, .getfield 36, 3, 42), (42, .getfield 232, 3, 45), (45, .iload_n 3, 1, 46), (46, .laload, 1, 47), (47, .lstore 4, 2, 49), (49, .lload 4, 2, 51), (51, .lconst 0, 1, 52), (52, .lcmp, 1, 53), (53, .ifCond .gt 7, 3, 56), (56, .ldc2_w 315, 3, 59), (59, .lreturn, 1, 60), (60, .aload_n 0, 1, 61), (61, .getfield 36, 3, 64), (64, .getfield 228, 3, 67), (67, .iload_n 3, 1, 68), (68, .laload, 1, 69), (69, .ldc2_w 299, 3, 72), (72, .lmul, 1, 73), (73, .lload 4, 2, 75), (75, .ldiv, 1, 76), (76, .lreturn, 1, 77)] : List (Nat × Instr × Nat × Nat)), mDq M6_ratio q := by decide +kernel
set_option maxRecDepth 100000 in
theorem d6_worst : ∀ q ∈ ([(0, .aload_n 0, 1, 1), (1, .getfield 36, 3, 4), (4, .invokevirtual 317, 3, 7), (7, .ireturn, 1, 8)] : List (Nat × Instr × Nat × Nat)), mDq M6_worst q := by decide +kernel
set_option maxRecDepth 100000 in
theorem d6_hardest : ∀ q ∈ ([(0, .iload_n 1, 1, 1), (1, .iconst 0, 1, 2), (2, .iconst 1, 1, 3), (3, .invokestatic 115, 3, 6), (6, .ifCond .ne 5, 3, 9), (9, .iconst (-1), 1, 10), (10, .ireturn, 1, 11), (11, .aload_n 0, 1, 12), (12, .getfield 45, 3, 15), (15, .invokevirtual 256, 3, 18), (18, .bipush (-2), 2, 20), (20, .istore_n 2, 1, 21), (21, .lconst 0, 1, 22), (22, .lstore_n 3, 1, 23), (23, .iconst 0, 1, 24), (24, .istore 5, 2, 26), (26, .iload 5, 2, 28), (28, .aload_n 0, 1, 29), (29, .getfield 27, 3, 32), (32, .getfield 167, 3, 35), (35, .if_icmp .ge 55, 3, 38), (38, .iload_n 1, 1, 39), (39, .ifCond .ne 15, 3, 42), (42, .aload_n 0, 1, 43), (43, .getfield 45, 3, 46), (46, .iload 5, 2, 48), (48, .invokevirtual 262, 3, 51), (51, .goto 13, 3, 54), (54, .aload_n 0, 1, 55), (55, .getfield 45, 3, 58), (58, .iload 5, 2, 60), (60, .invokevirtual 262, 3, 63), (63, .lneg, 1, 64), (64, .lstore 6, 2, 66), (66, .iload 5, 2, 68), (68, .ifCond .eq 10, 3, 71), (71, .lload 6, 2, 73), (73, .lload_n 3, 1, 74), (74, .lcmp, 1, 75), (75, .ifCond .le 9, 3, 78), (78, .lload 6, 2, 80), (80, .lstore_n 3, 1, 81), (81, .iload 5, 2, 83), (83, .istore_n 2, 1, 84), (84, .iinc 5 1, 3, 87), (87, .goto (-61), 3, 90), (90, .iload_n 2, 1, 91), (91, .ireturn, 1, 92)] : List (Nat × Instr × Nat × Nat)), mDq M6_hardest q := by decide +kernel
set_option maxRecDepth 100000 in
theorem d6_ranked : ∀ q ∈ ([(0, .iload_n 1, 1, 1), (1, .ifCond .ge 5, 3, 4), (4, .iconst (-1), 1, 5), (5, .ireturn, 1, 6), (6, .aload_n 0, 1, 7), (7, .getfield 45, 3, 10), (10, .invokevirtual 256, 3, 13), (13, .iconst 0, 1, 14), (14, .istore_n 2, 1, 15), (15, .iload_n 2, 1, 16), (16, .aload_n 0, 1, 17), (17, .getfield 27, 3, 20), (20, .getfield 167, 3, 23), (23, .if_icmp .ge 23, 3, 26), (26, .aload_n 0, 1, 27), (27, .getfield 45, 3, 30), (30, .iload_n 2, 1, 31), (31, .invokevirtual 320, 3, 34), (34, .iload_n 1, 1, 35), (35, .if_icmp .ne 5, 3, 38), (38, .iload_n 2, 1, 39), (39, .ireturn, 1, 40), (40, .iinc 2 1, 3, 43), (43, .goto (-28), 3, 46), (46, .bipush (-2), 2, 48), (48, .ireturn, 1, 49)] : List (Nat × Instr × Nat × Nat)), mDq M6_ranked q := by decide +kernel
set_option maxRecDepth 100000 in
theorem d6_leastCap : ∀ q ∈ ([(0, .aload_n 0, 1, 1), (1, .getfield 45, 3, 4), (4, .invokevirtual 323, 3, 7), (7, .ireturn, 1, 8)] : List (Nat × Instr × Nat × Nat)), mDq M6_leastCap q := by decide +kernel
set_option maxRecDepth 100000 in
theorem d6_withoutFactor : ∀ q ∈ ([(0, .aload_n 0, 1, 1), (1, .getfield 20, 3, 4), (4, .iload_n 1, 1, 5), (5, .invokevirtual 105, 3, 8), (8, .ifCond .eq 13, 3, 11), (11, .iload_n 2, 1, 12), (12, .iconst 0, 1, 13), (13, .bipush 50, 2, 15), (15, .invokestatic 115, 3, 18), (18, .ifCond .ne 7, 3, 21), (21, .ldc2_w 288, 3, 24), (24, .lreturn, 1, 25), (25, .aload_n 0, 1, 26), (26, .getfield 49, 3, 29), (29, .aload_n 0, 1, 30), (30, .getfield 27, 3, 33), (33, .invokevirtual 91, 3, 36), (36, .aload_n 0, 1, 37), (37, .getfield 49, 3, 40), (40, .iload_n 1, 1, 41), (41, .sipush 10000, 3, 44), (44, .invokevirtual 326, 3, 47), (47, .aload_n 0, 1, 48), (48, .getfield 52, 3, 51), (51, .iload_n 2, 1, 52), (52, .iload_n 1, 1, 53), (53, .invokevirtual 119, 3, 56), (56, .pop, 1, 57), (57, .aload_n 0, 1, 58), (58, .getfield 52, 3, 61), (61, .invokevirtual 282, 3, 64), (64, .lreturn, 1, 65)] : List (Nat × Instr × Nat × Nat)), mDq M6_withoutFactor q := by decide +kernel
set_option maxRecDepth 100000 in
theorem d6_bestJoin : ∀ q ∈ ([(0, .aload_n 0, 1, 1), (1, .getfield 20, 3, 4), (4, .iload_n 1, 1, 5), (5, .invokevirtual 105, 3, 8), (8, .ifCond .eq 13, 3, 11), (11, .iload_n 2, 1, 12), (12, .iconst 0, 1, 13), (13, .bipush 50, 2, 15), (15, .invokestatic 115, 3, 18), (18, .ifCond .ne 5, 3, 21), (21, .iconst (-1), 1, 22), (22, .ireturn, 1, 23), (23, .bipush (-2), 2, 25), (25, .istore_n 3, 1, 26), (26, .lconst 0, 1, 27), (27, .lstore 4, 2, 29), (29, .iconst 0, 1, 30), (30, .istore 6, 2, 32), (32, .iload 6, 2, 34), (34, .aload_n 0, 1, 35), (35, .getfield 20, 3, 38), (38, .getfield 177, 3, 41), (41, .iload_n 1, 1, 42), (42, .iaload, 1, 43), (43, .iconst 1, 1, 44), (44, .isub, 1, 45), (45, .if_icmp .ge 53, 3, 48), (48, .aload_n 0, 1, 49), (49, .getfield 27, 3, 52), (52, .iload_n 1, 1, 53), (53, .iload 6, 2, 55), (55, .invokevirtual 180, 3, 58), (58, .ifCond .ne 34, 3, 61), (61, .aload_n 0, 1, 62), (62, .iload_n 1, 1, 63), (63, .iload 6, 2, 65), (65, .iload_n 2, 1, 66), (66, .invokevirtual 329, 3, 69), (69, .lstore 7, 2, 71), (71, .iload_n 3, 1, 72), (72, .bipush (-2), 2, 74), (74, .if_icmp .eq 11, 3, 77), (77, .lload 7, 2, 79), (79, .lload 4, 2, 81), (81, .lcmp, 1, 82), (82, .ifCond .ge 10, 3, 85), (85, .lload 7, 2, 87), (87, .lstore 4, 2, 89), (89, .iload 6, 2, 91), (91, .istore_n 3, 1, 92), (92, .iinc 6 1, 3, 95), (95, .goto (-63), 3, 98), (98, .iload_n 3, 1, 99), (99, .ireturn, 1, 100)] : List (Nat × Instr × Nat × Nat)), mDq M6_bestJoin q := by decide +kernel
set_option maxRecDepth 100000 in
theorem d6_misfitIfJoined : ∀ q ∈ ([(0, .aload_n 0, 1, 1), (1, .getfield 49, 3, 4), (4, .aload_n 0, 1, 5), (5, .getfield 27, 3, 8), (8, .invokevirtual 91, 3, 11), (11, .aload_n 0, 1, 12), (12, .getfield 49, 3, 15), (15, .iload_n 1, 1, 16), (16, .iload_n 2, 1, 17), (17, .invokevirtual 187, 3, 20), (20, .aload_n 0, 1, 21), (21, .getfield 52, 3, 24), (24, .iload_n 3, 1, 25), (25, .iconst (-1), 1, 26), (26, .invokevirtual 119, 3, 29), (29, .pop, 1, 30), (30, .aload_n 0, 1, 31), (31, .getfield 52, 3, 34), (34, .invokevirtual 282, 3, 37), (37, .lreturn, 1, 38)] : List (Nat × Instr × Nat × Nat)), mDq M6_misfitIfJoined q := by decide +kernel
set_option maxRecDepth 100000 in
theorem d6_withoutRisk : ∀ q ∈ ([(0, .aload_n 0, 1, 1), (1, .getfield 27, 3, 4), (4, .iload_n 1, 1, 5), (5, .invokevirtual 157, 3, 8), (8, .ifCond .eq 13, 3, 11), (11, .iload_n 2, 1, 12), (12, .iconst 0, 1, 13), (13, .bipush 50, 2, 15), (15, .invokestatic 115, 3, 18), (18, .ifCond .ne 5, 3, 21), (21, .iconst (-1), 1, 22), (22, .ireturn, 1, 23), (23, .aload_n 0, 1, 24), (24, .getfield 49, 3, 27), (27, .aload_n 0, 1, 28), (28, .getfield 27, 3, 31), (31, .invokevirtual 91, 3, 34), (34, .aload_n 0, 1, 35), (35, .getfield 49, 3, 38), (38, .iload_n 1, 1, 39), (39, .invokevirtual 174, 3, 42), (42, .aload_n 0, 1, 43), (43, .getfield 52, 3, 46), (46, .iload_n 2, 1, 47), (47, .iconst (-1), 1, 48), (48, .invokevirtual 119, 3, 51), (51, .pop, 1, 52), (52, .aload_n 0, 1, 53), (53, .getfield 52, 3, 56), (56, .invokevirtual 127, 3, 59), (59, .aload_n 0, 1, 60), (60, .getfield 49, 3, 63), (63, .getfield 130, 3, 66), (66, .ireturn, 1, 67)] : List (Nat × Instr × Nat × Nat)), mDq M6_withoutRisk q := by decide +kernel
set_option maxRecDepth 100000 in
theorem d6_quote : ∀ q ∈ ([(0, .iload_n 1, 1, 1), (1, .iconst 1, 1, 2), (2, .bipush 99, 2, 4), (4, .invokestatic 115, 3, 7), (7, .ifCond .eq 14, 3, 10), (10, .aload_n 0, 1, 11), (11, .getfield 20, 3, 14), (14, .iload_n 2, 1, 15), (15, .invokevirtual 164, 3, 18), (18, .ifCond .ne 7, 3, 21), (21, .ldc2_w 288, 3, 24), (24, .lreturn, 1, 25), (25, .aload_n 0, 1, 26), (26, .getfield 36, 3, 29), (29, .iload_n 1, 1, 30), (30, .iload_n 2, 1, 31), (31, .invokevirtual 311, 3, 34), (34, .lreturn, 1, 35)] : List (Nat × Instr × Nat × Nat)), mDq M6_quote q := by decide +kernel
set_option maxRecDepth 100000 in
theorem d6_kinds : ∀ q ∈ ([(0, .iload_n 1, 1, 1), (1, .iconst 0, 1, 2), (2, .iconst 1, 1, 3), (3, .invokestatic 115, 3, 6), (6, .ifCond .ne 5, 3, 9), (9, .iconst (-1), 1, 10), (10, .ireturn, 1, 11), (11, .iload_n 1, 1, 12), (12, .ifCond .ne 13, 3, 15), (15, .aload_n 0, 1, 16), (16, .getfield 20, 3, 19), (19, .invokevirtual 332, 3, 22), (22, .goto 18, 3, 25), (25, .aload_n 0, 1, 26), (26, .getfield 20, 3, 29), (29, .invokevirtual 332, 3, 32), (32, .aload_n 0, 1, 33), (33, .getfield 27, 3, 36), (36, .invokevirtual 335, 3, 39), (39, .isub, 1, 40), (40, .ireturn, 1, 41)] : List (Nat × Instr × Nat × Nat)), mDq M6_kinds q := by decide +kernel
set_option maxRecDepth 100000 in
theorem d6_chance : ∀ q ∈ ([(0, .iload_n 1, 1, 1), (1, .iconst (-1), 1, 2), (2, .if_icmp .lt 54, 3, 5), (5, .iload_n 2, 1, 6), (6, .iconst 1, 1, 7), (7, .bipush 60, 2, 9), (9, .invokestatic 115, 3, 12), (12, .ifCond .eq 44, 3, 15), (15, .iload_n 3, 1, 16), (16, .iconst 0, 1, 17), (17, .ldc 160, 2, 19), (19, .invokestatic 115, 3, 22), (22, .ifCond .eq 34, 3, 25), (25, .iload 4, 2, 27), (27, .iconst 0, 1, 28), (28, .bipush 20, 2, 30), (30, .invokestatic 115, 3, 33), (33, .ifCond .eq 23, 3, 36), (36, .iload 5, 2, 38), (38, .iconst 0, 1, 39), (39, .iconst 2, 1, 40), (40, .invokestatic 115, 3, 43), (43, .ifCond .eq 13, 3, 46), (46, .aload_n 0, 1, 47), (47, .getfield 27, 3, 50), (50, .getfield 167, 3, 53), (53, .ifCond .gt 7, 3, 56), (56, .ldc2_w 288, 3, 59), (59, .lreturn, 1, 60), (60, .aload_n 0, 1, 61), (61, .getfield 49, 3, 64), (64, .aload_n 0, 1, 65), (65, .getfield 27, 3, 68), (68, .invokevirtual 91, 3, 71), (71, .aload_n 0, 1, 72), (72, .getfield 49, 3, 75), (75, .iload_n 1, 1, 76), (76, .ifCond .ge 13, 3, 79), (79, .aload_n 0, 1, 80), (80, .getfield 20, 3, 83), (83, .getfield 336, 3, 86), (86, .goto 4, 3, 89), (89, .iload_n 1, 1, 90), (90, .iload_n 2, 1, 91), (91, .iload_n 3, 1, 92), (92, .iconst 1, 1, 93), (93, .iadd, 1, 94), (94, .invokevirtual 339, 3, 97), (97, .aload_n 0, 1, 98), (98, .getfield 52, 3, 101), (101, .iload 4, 2, 103), (103, .iconst (-1), 1, 104), (104, .invokevirtual 119, 3, 107), (107, .pop, 1, 108), (108, .iload 5, 2, 110), (110, .ifCond .ne 11, 3, 113), (113, .aload_n 0, 1, 114), (114, .getfield 52, 3, 117), (117, .invokevirtual 282, 3, 120), (120, .lreturn, 1, 121), (121, .iload 5, 2, 123), (123, .iconst 1, 1, 124), (124, .if_icmp .ne 13, 3, 127), (127, .aload_n 0, 1, 128), (128, .getfield 52, 3, 131), (131, .invokevirtual 278, 3, 134), (134, .goto 11, 3, 137), (137, .aload_n 0, 1, 138), (138, .getfield 52, 3, 141), (141, .invokevirtual 123, 3, 144), (144, .i2l, 1, 145), (145, .lreturn, 1, 146)] : List (Nat × Instr × Nat × Nat)), mDq M6_chance q := by decide +kernel
set_option maxRecDepth 100000 in
theorem d6_undo : ∀ q ∈ ([(0, .aload_n 0, 1, 1), (1, .getfield 98, 3, 4), (4, .ifCond .gt 5, 3, 7), (7, .iconst (-1), 1, 8), (8, .ireturn, 1, 9), (9, .aload_n 0, 1, 10), (10, .dup, 1, 11), (11, .getfield 98, 3, 14), (14, .iconst 1, 1, 15), (15, .isub, 1, 16), (16, .putfield 98, 3, 19), (19, .aload_n 0, 1, 20), (20, .getfield 27, 3, 23), (23, .aload_n 0, 1, 24), (24, .getfield 65, 3, 27), (27, .aload_n 0, 1, 28), (28, .aload_n 0, 1, 29), (29, .getfield 98, 3, 32), (32, .invokevirtual 342, 3, 35), (35, .aaload, 1, 36), (36, .invokevirtual 91, 3, 39), (39, .aload_n 0, 1, 40), (40, .getfield 98, 3, 43), (43, .ireturn, 1, 44)] : List (Nat × Instr × Nat × Nat)), mDq M6_undo q := by decide +kernel
set_option maxRecDepth 100000 in
theorem d6_keep : ∀ q ∈ ([(0, .aload_n 0, 1, 1), (1, .getfield 62, 3, 4), (4, .aload_n 0, 1, 5), (5, .getfield 27, 3, 8), (8, .invokevirtual 91, 3, 11), (11, .aload_n 0, 1, 12), (12, .iconst 1, 1, 13), (13, .putfield 94, 3, 16), (16, .aload_n 0, 1, 17), (17, .getfield 27, 3, 20), (20, .getfield 167, 3, 23), (23, .ireturn, 1, 24)] : List (Nat × Instr × Nat × Nat)), mDq M6_keep q := by decide +kernel
set_option maxRecDepth 100000 in
theorem d6_back : ∀ q ∈ ([(0, .aload_n 0, 1, 1), (1, .getfield 94, 3, 4), (4, .ifCond .ne 5, 3, 7), (7, .iconst (-1), 1, 8), (8, .ireturn, 1, 9), (9, .aload_n 0, 1, 10), (10, .getfield 27, 3, 13), (13, .aload_n 0, 1, 14), (14, .getfield 62, 3, 17), (17, .invokevirtual 91, 3, 20), (20, .aload_n 0, 1, 21), (21, .iconst 0, 1, 22), (22, .putfield 98, 3, 25), (25, .aload_n 0, 1, 26), (26, .getfield 27, 3, 29), (29, .getfield 167, 3, 32), (32, .ireturn, 1, 33)] : List (Nat × Instr × Nat × Nat)), mDq M6_back q := by decide +kernel
set_option maxRecDepth 100000 in
theorem d6_count : ∀ q ∈ ([(0, .iload_n 1, 1, 1), (1, .tableswitch 155 0 11 #[63, 71, 79, 87, 95, 103, 112, 121, 126, 131, 139, 147], 63, 64), (64, .aload_n 0, 1, 65), (65, .getfield 20, 3, 68), (68, .getfield 265, 3, 71), (71, .ireturn, 1, 72), (72, .aload_n 0, 1, 73), (73, .getfield 27, 3, 76), (76, .getfield 167, 3, 79), (79, .ireturn, 1, 80), (80, .aload_n 0, 1, 81), (81, .getfield 27, 3, 84), (84, .getfield 130, 3, 87), (87, .ireturn, 1, 88), (88, .aload_n 0, 1, 89), (89, .getfield 20, 3, 92), (92, .getfield 345, 3, 95), (95, .ireturn, 1, 96), (96, .aload_n 0, 1, 97), (97, .getfield 27, 3, 100), (100, .getfield 190, 3, 103), (103, .ireturn, 1, 104), (104, .aload_n 0, 1, 105), (105, .getfield 36, 3, 108), (108, .iconst 0, 1, 109), (109, .invokevirtual 348, 3, 112), (112, .ireturn, 1, 113), (113, .aload_n 0, 1, 114), (114, .getfield 36, 3, 117), (117, .iconst 1, 1, 118), (118, .invokevirtual 348, 3, 121), (121, .ireturn, 1, 122), (122, .aload_n 0, 1, 123), (123, .getfield 98, 3, 126), (126, .ireturn, 1, 127), (127, .aload_n 0, 1, 128), (128, .getfield 69, 3, 131), (131, .ireturn, 1, 132), (132, .aload_n 0, 1, 133), (133, .getfield 27, 3, 136), (136, .getfield 193, 3, 139), (139, .ireturn, 1, 140), (140, .aload_n 0, 1, 141), (141, .getfield 27, 3, 144), (144, .getfield 196, 3, 147), (147, .ireturn, 1, 148), (148, .aload_n 0, 1, 149), (149, .getfield 27, 3, 152), (152, .getfield 199, 3, 155), (155, .ireturn, 1, 156), (156, .iconst (-1), 1, 157), (157, .ireturn, 1, 158)] : List (Nat × Instr × Nat × Nat)), mDq M6_count q := by decide +kernel
set_option maxRecDepth 100000 in
theorem d6_remember : ∀ q ∈ ([(0, .aload_n 0, 1, 1), (1, .getfield 98, 3, 4), (4, .bipush 20, 2, 6), (6, .if_icmp .lt 22, 3, 9), (9, .aload_n 0, 1, 10), (10, .aload_n 0, 1, 11), (11, .getfield 352, 3, 14), (14, .iconst 1, 1, 15), (15, .iadd, 1, 16), (16, .bipush 20, 2, 18), (18, .irem, 1, 19), (19, .putfield 352, 3, 22), (22, .aload_n 0, 1, 23), (23, .bipush 19, 2, 25), (25, .putfield 98, 3, 28), (28, .aload_n 0, 1, 29), (29, .getfield 65, 3, 32), (32, .aload_n 0, 1, 33), (33, .aload_n 0, 1, 34), (34, .getfield 98, 3, 37), (37, .invokevirtual 342, 3, 40), (40, .aaload, 1, 41), (41, .aload_n 0, 1, 42), (42, .getfield 27, 3, 45), (45, .invokevirtual 91, 3, 48), (48, .aload_n 0, 1, 49), (49, .dup, 1, 50), (50, .getfield 98, 3, 53), (53, .iconst 1, 1, 54), (54, .iadd, 1, 55), (55, .putfield 98, 3, 58), (58, .return_, 1, 59)] : List (Nat × Instr × Nat × Nat)), mDq M6_remember q := by decide +kernel
set_option maxRecDepth 100000 in
theorem d6_historyIndex : ∀ q ∈ ([(0, .aload_n 0, 1, 1), (1, .getfield 352, 3, 4), (4, .iload_n 1, 1, 5), (5, .iadd, 1, 6), (6, .bipush 20, 2, 8), (8, .irem, 1, 9), (9, .ireturn, 1, 10)] : List (Nat × Instr × Nat × Nat)), mDq M6_historyIndex q := by decide +kernel
set_option maxRecDepth 100000 in
theorem d6_within : ∀ q ∈ ([(0, .iload_n 0, 1, 1), (1, .iload_n 1, 1, 2), (2, .if_icmp .lt 12, 3, 5), (5, .iload_n 0, 1, 6), (6, .iload_n 2, 1, 7), (7, .if_icmp .gt 7, 3, 10), (10, .iconst 1, 1, 11), (11, .goto 4, 3, 14), (14, .iconst 0, 1, 15), (15, .ireturn, 1, 16)] : List (Nat × Instr × Nat × Nat)), mDq M6_within q := by decide +kernel
set_option maxRecDepth 100000 in
theorem d6_clamp : ∀ q ∈ ([(0, .iload_n 2, 1, 1), (1, .i2l, 1, 2), (2, .iload_n 3, 1, 3), (3, .i2l, 1, 4), (4, .lload_n 0, 1, 5), (5, .invokestatic 355, 3, 8), (8, .invokestatic 361, 3, 11), (11, .l2i, 1, 12), (12, .ireturn, 1, 13)] : List (Nat × Instr × Nat × Nat)), mDq M6_clamp q := by decide +kernel
set_option maxRecDepth 100000 in
theorem d6_slotShift : ∀ q ∈ ([(0, .iload_n 0, 1, 1), (1, .iconst 3, 1, 2), (2, .imul, 1, 3), (3, .ireturn, 1, 4)] : List (Nat × Instr × Nat × Nat)), mDq M6_slotShift q := by decide +kernel
set_option maxRecDepth 100000 in
theorem d6_slot : ∀ q ∈ ([(0, .iload_n 0, 1, 1), (1, .iconst 3, 1, 2), (2, .ishl, 1, 3), (3, .iload_n 1, 1, 4), (4, .ior, 1, 5), (5, .ireturn, 1, 6)] : List (Nat × Instr × Nat × Nat)), mDq M6_slot q := by decide +kernel
set_option maxRecDepth 100000 in
theorem d6_levelIn : ∀ q ∈ ([(0, .iload_n 0, 1, 1), (1, .iload_n 1, 1, 2), (2, .invokestatic 308, 3, 5), (5, .ishr, 1, 6), (6, .bipush 7, 2, 8), (8, .iand, 1, 9), (9, .ireturn, 1, 10)] : List (Nat × Instr × Nat × Nat)), mDq M6_levelIn q := by decide +kernel
set_option maxRecDepth 100000 in
theorem d7_thrown : ∀ q ∈ ([(0, .aload_n 0, 1, 1), (1, .getfield 69, 3, 4), (4, .ireturn, 1, 5)] : List (Nat × Instr × Nat × Nat)), mDq M7_thrown q := by decide +kernel
set_option maxRecDepth 100000 in
theorem d7_feed : ∀ q ∈ ([(0, .aload_n 0, 1, 1), (1, .iconst 0, 1, 2), (2, .putfield 69, 3, 5), (5, .aload_n 0, 1, 6), (6, .getfield 72, 3, 9), (9, .sipush 880, 3, 12), (12, .if_icmp .le 5, 3, 15), (15, .iconst (-1), 1, 16), (16, .ireturn, 1, 17), (17, .iconst 0, 1, 18), (18, .istore 6, 2, 20), (20, .iload 6, 2, 22), (22, .bipush 20, 2, 24), (24, .if_icmp .ge 86, 3, 27), (27, .iload 6, 2, 29), (29, .iconst 4, 1, 30), (30, .if_icmp .ge 7, 3, 33), (33, .iload_n 1, 1, 34), (34, .goto 39, 3, 37), (37, .iload 6, 2, 39), (39, .bipush 8, 2, 41), (41, .if_icmp .ge 7, 3, 44), (44, .iload_n 2, 1, 45), (45, .goto 28, 3, 48), (48, .iload 6, 2, 50), (50, .bipush 12, 2, 52), (52, .if_icmp .ge 7, 3, 55), (55, .iload_n 3, 1, 56), (56, .goto 17, 3, 59), (59, .iload 6, 2, 61), (61, .bipush 16, 2, 63), (63, .if_icmp .ge 8, 3, 66), (66, .iload 4, 2, 68), (68, .goto 5, 3, 71), (71, .iload 5, 2, 73), (73, .istore 7, 2, 75), (75, .aload_n 0, 1, 76), (76, .getfield 7, 3, 79), (79, .aload_n 0, 1, 80), (80, .getfield 72, 3, 83), (83, .iload 6, 2, 85), (85, .iadd, 1, 86), (86, .iload 7, 2, 88), (88, .bipush 24, 2, 90), (90, .bipush 8, 2, 92), (92, .iload 6, 2, 94), (94, .iconst 4, 1, 95), (95, .irem, 1, 96), (96, .imul, 1, 97), (97, .isub, 1, 98), (98, .ishr, 1, 99), (99, .sipush 255, 3, 102), (102, .iand, 1, 103), (103, .iastore, 1, 104), (104, .iinc 6 1, 3, 107), (107, .goto (-87), 3, 110), (110, .aload_n 0, 1, 111), (111, .dup, 1, 112), (112, .getfield 72, 3, 115), (115, .bipush 20, 2, 117), (117, .iadd, 1, 118), (118, .putfield 72, 3, 121), (121, .aload_n 0, 1, 122), (122, .getfield 72, 3, 125), (125, .ireturn, 1, 126)] : List (Nat × Instr × Nat × Nat)), mDq M7_feed q := by decide +kernel
set_option maxRecDepth 100000 in
theorem d7_here : ∀ q ∈ ([(0, .aload_n 0, 1, 1), (1, .getfield 75, 3, 4), (4, .aload_n 0, 1, 5), (5, .getfield 78, 3, 8), (8, .if_icmp .ge 15, 3, 11), (11, .aload_n 0, 1, 12), (12, .getfield 7, 3, 15), (15, .aload_n 0, 1, 16), (16, .getfield 75, 3, 19), (19, .iaload, 1, 20), (20, .goto 4, 3, 23), (23, .iconst (-1), 1, 24), (24, .ireturn, 1, 25)] : List (Nat × Instr × Nat × Nat)), mDq M7_here q := by decide +kernel
set_option maxRecDepth 100000 in
theorem d7_isSmall : ∀ q ∈ ([(0, .iload_n 0, 1, 1), (1, .bipush 97, 2, 3), (3, .if_icmp .lt 13, 3, 6), (6, .iload_n 0, 1, 7), (7, .bipush 122, 2, 9), (9, .if_icmp .gt 7, 3, 12), (12, .iconst 1, 1, 13), (13, .goto 4, 3, 16), (16, .iconst 0, 1, 17), (17, .ireturn, 1, 18)] : List (Nat × Instr × Nat × Nat)), mDq M7_isSmall q := by decide +kernel
set_option maxRecDepth 100000 in
theorem d7_isDigit : ∀ q ∈ ([(0, .iload_n 0, 1, 1), (1, .bipush 48, 2, 3), (3, .if_icmp .lt 13, 3, 6), (6, .iload_n 0, 1, 7), (7, .bipush 57, 2, 9), (9, .if_icmp .gt 7, 3, 12), (12, .iconst 1, 1, 13), (13, .goto 4, 3, 16), (16, .iconst 0, 1, 17), (17, .ireturn, 1, 18)] : List (Nat × Instr × Nat × Nat)), mDq M7_isDigit q := by decide +kernel
set_option maxRecDepth 100000 in
theorem d7_token : ∀ q ∈ ([(0, .aload_n 0, 1, 1), (1, .invokevirtual 81, 3, 4), (4, .bipush 10, 2, 6), (6, .if_icmp .eq 12, 3, 9), (9, .aload_n 0, 1, 10), (10, .invokevirtual 81, 3, 13), (13, .bipush 32, 2, 15), (15, .if_icmp .ne 16, 3, 18), (18, .aload_n 0, 1, 19), (19, .dup, 1, 20), (20, .getfield 75, 3, 23), (23, .iconst 1, 1, 24), (24, .iadd, 1, 25), (25, .putfield 75, 3, 28), (28, .goto (-28), 3, 31), (31, .aload_n 0, 1, 32), (32, .aload_n 0, 1, 33), (33, .getfield 75, 3, 36), (36, .putfield 85, 3, 39), (39, .aload_n 0, 1, 40), (40, .invokevirtual 81, 3, 43), (43, .istore_n 1, 1, 44), (44, .iload_n 1, 1, 45), (45, .iconst (-1), 1, 46), (46, .if_icmp .ne 11, 3, 49), (49, .aload_n 0, 1, 50), (50, .iconst 4, 1, 51), (51, .putfield 88, 3, 54), (54, .goto 191, 3, 57), (57, .iload_n 1, 1, 58), (58, .invokestatic 91, 3, 61), (61, .ifCond .eq 84, 3, 64), (64, .aload_n 0, 1, 65), (65, .invokevirtual 81, 3, 68), (68, .invokestatic 91, 3, 71), (71, .ifCond .eq 16, 3, 74), (74, .aload_n 0, 1, 75), (75, .dup, 1, 76), (76, .getfield 75, 3, 79), (79, .iconst 1, 1, 80), (80, .iadd, 1, 81), (81, .putfield 75, 3, 84), (84, .goto (-20), 3, 87), (87, .aload_n 0, 1, 88), (88, .aload_n 0, 1, 89), (89, .invokevirtual 95, 3, 92), (92, .putfield 98, 3, 95), (95, .aload_n 0, 1, 96), (96, .aload_n 0, 1, 97), (97, .getfield 98, 3, 100), (100, .iconst (-1), 1, 101), (101, .if_icmp .eq 7, 3, 104), (104, .iconst 0, 1, 105), (105, .goto 22, 3, 108), (108, .aload_n 0, 1, 109), (109, .getfield 75, 3, 112), (112, .aload_n 0, 1, 113), (113, .getfield 85, 3, 116), (116, .isub, 1, 117), (117, .bipush 6, 2, 119), (119, .if_icmp .le 7, 3, 122), (122, .iconst 5, 1, 123), (123, .goto 4, 3, 126), (126, .iconst 1, 1, 127), (127, .putfield 88, 3, 130), (130, .aload_n 0, 1, 131), (131, .getfield 88, 3, 134), (134, .iconst 1, 1, 135), (135, .if_icmp .ne 110, 3, 138), (138, .aload_n 0, 1, 139), (139, .invokevirtual 101, 3, 142), (142, .goto 103, 3, 145), (145, .iload_n 1, 1, 146), (146, .invokestatic 104, 3, 149), (149, .ifCond .eq 71, 3, 152), (152, .aload_n 0, 1, 153), (153, .iconst 2, 1, 154), (154, .putfield 88, 3, 157), (157, .aload_n 0, 1, 158), (158, .iconst 0, 1, 159), (159, .putfield 98, 3, 162), (162, .aload_n 0, 1, 163), (163, .invokevirtual 81, 3, 166), (166, .invokestatic 104, 3, 169), (169, .ifCond .eq 76, 3, 172), (172, .aload_n 0, 1, 173), (173, .aload_n 0, 1, 174), (174, .getfield 98, 3, 177), (177, .ldc 107, 2, 179), (179, .if_icmp .le 10, 3, 182), (182, .aload_n 0, 1, 183), (183, .getfield 98, 3, 186), (186, .goto 18, 3, 189), (189, .bipush 10, 2, 191), (191, .aload_n 0, 1, 192), (192, .getfield 98, 3, 195), (195, .imul, 1, 196), (196, .aload_n 0, 1, 197), (197, .invokevirtual 81, 3, 200), (200, .iadd, 1, 201), (201, .bipush 48, 2, 203), (203, .isub, 1, 204), (204, .putfield 98, 3, 207), (207, .aload_n 0, 1, 208), (208, .dup, 1, 209), (209, .getfield 75, 3, 212), (212, .iconst 1, 1, 213), (213, .iadd, 1, 214), (214, .putfield 75, 3, 217), (217, .goto (-55), 3, 220), (220, .aload_n 0, 1, 221), (221, .iload_n 1, 1, 222), (222, .bipush 59, 2, 224), (224, .if_icmp .ne 7, 3, 227), (227, .iconst 3, 1, 228), (228, .goto 4, 3, 231), (231, .iconst 5, 1, 232), (232, .putfield 88, 3, 235), (235, .aload_n 0, 1, 236), (236, .dup, 1, 237), (237, .getfield 75, 3, 240), (240, .iconst 1, 1, 241), (241, .iadd, 1, 242), (242, .putfield 75, 3, 245), (245, .return_, 1, 246)] : List (Nat × Instr × Nat × Nat)), mDq M7_token q := by decide +kernel
set_option maxRecDepth 100000 in
theorem d7_wordHere : ∀ q ∈ ([(0, .iconst 0, 1, 1), (1, .istore_n 1, 1, 2), (2, .iconst 0, 1, 3), (3, .istore_n 2, 1, 4), (4, .iload_n 2, 1, 5), (5, .ldc 108, 2, 7), (7, .invokevirtual 110, 3, 10), (10, .if_icmp .ge 113, 3, 13), (13, .iconst 0, 1, 14), (14, .istore_n 3, 1, 15), (15, .ldc 108, 2, 17), (17, .iload_n 2, 1, 18), (18, .iload_n 3, 1, 19), (19, .iadd, 1, 20), (20, .invokevirtual 115, 3, 23), (23, .bipush 32, 2, 25), (25, .if_icmp .eq 44, 3, 28), (28, .aload_n 0, 1, 29), (29, .getfield 85, 3, 32), (32, .iload_n 3, 1, 33), (33, .iadd, 1, 34), (34, .aload_n 0, 1, 35), (35, .getfield 75, 3, 38), (38, .if_icmp .ge 31, 3, 41), (41, .aload_n 0, 1, 42), (42, .getfield 7, 3, 45), (45, .aload_n 0, 1, 46), (46, .getfield 85, 3, 49), (49, .iload_n 3, 1, 50), (50, .iadd, 1, 51), (51, .iaload, 1, 52), (52, .ldc 108, 2, 54), (54, .iload_n 2, 1, 55), (55, .iload_n 3, 1, 56), (56, .iadd, 1, 57), (57, .invokevirtual 115, 3, 60), (60, .if_icmp .ne 9, 3, 63), (63, .iinc 3 1, 3, 66), (66, .goto (-51), 3, 69), (69, .ldc 108, 2, 71), (71, .iload_n 2, 1, 72), (72, .iload_n 3, 1, 73), (73, .iadd, 1, 74), (74, .invokevirtual 115, 3, 77), (77, .bipush 32, 2, 79), (79, .if_icmp .ne 18, 3, 82), (82, .aload_n 0, 1, 83), (83, .getfield 85, 3, 86), (86, .iload_n 3, 1, 87), (87, .iadd, 1, 88), (88, .aload_n 0, 1, 89), (89, .getfield 75, 3, 92), (92, .if_icmp .ne 5, 3, 95), (95, .iload_n 1, 1, 96), (96, .ireturn, 1, 97), (97, .ldc 108, 2, 99), (99, .iload_n 2, 1, 100), (100, .invokevirtual 115, 3, 103), (103, .bipush 32, 2, 105), (105, .if_icmp .eq 9, 3, 108), (108, .iinc 2 1, 3, 111), (111, .goto (-14), 3, 114), (114, .iinc 2 1, 3, 117), (117, .iinc 1 1, 3, 120), (120, .goto (-116), 3, 123), (123, .iconst (-1), 1, 124), (124, .ireturn, 1, 125)] : List (Nat × Instr × Nat × Nat)), mDq M7_wordHere q := by decide +kernel
set_option maxRecDepth 100000 in
theorem d7_nameHere : ∀ q ∈ ([(0, .aload_n 0, 1, 1), (1, .iconst 0, 1, 2), (2, .putfield 98, 3, 5), (5, .iconst 0, 1, 6), (6, .istore_n 1, 1, 7), (7, .iload_n 1, 1, 8), (8, .bipush 6, 2, 10), (10, .if_icmp .ge 53, 3, 13), (13, .aload_n 0, 1, 14), (14, .aload_n 0, 1, 15), (15, .getfield 98, 3, 18), (18, .iconst 5, 1, 19), (19, .ishl, 1, 20), (20, .aload_n 0, 1, 21), (21, .getfield 85, 3, 24), (24, .iload_n 1, 1, 25), (25, .iadd, 1, 26), (26, .aload_n 0, 1, 27), (27, .getfield 75, 3, 30), (30, .if_icmp .ge 22, 3, 33), (33, .aload_n 0, 1, 34), (34, .getfield 7, 3, 37), (37, .aload_n 0, 1, 38), (38, .getfield 85, 3, 41), (41, .iload_n 1, 1, 42), (42, .iadd, 1, 43), (43, .iaload, 1, 44), (44, .bipush 97, 2, 46), (46, .isub, 1, 47), (47, .iconst 1, 1, 48), (48, .iadd, 1, 49), (49, .goto 4, 3, 52), (52, .iconst 0, 1, 53), (53, .ior, 1, 54), (54, .putfield 98, 3, 57), (57, .iinc 1 1, 3, 60), (60, .goto (-53), 3, 63), (63, .return_, 1, 64)] : List (Nat × Instr × Nat × Nat)), mDq M7_nameHere q := by decide +kernel
set_option maxRecDepth 100000 in
theorem d7_wrong : ∀ q ∈ ([(0, .aload_n 0, 1, 1), (1, .getfield 119, 3, 4), (4, .ifCond .eq 4, 3, 7), (7, .return_, 1, 8), (8, .aload_n 0, 1, 9), (9, .iload_n 1, 1, 10), (10, .putfield 119, 3, 13), (13, .aload_n 0, 1, 14), (14, .aload_n 0, 1, 15), (15, .getfield 85, 3, 18), (18, .putfield 122, 3, 21), (21, .return_, 1, 22)] : List (Nat × Instr × Nat × Nat)), mDq M7_wrong q := by decide +kernel
set_option maxRecDepth 100000 in
theorem d7_goOn : ∀ q ∈ ([(0, .aload_n 0, 1, 1), (1, .getfield 119, 3, 4), (4, .ifCond .ne 7, 3, 7), (7, .aload_n 0, 1, 8), (8, .invokevirtual 125, 3, 11), (11, .return_, 1, 12)] : List (Nat × Instr × Nat × Nat)), mDq M7_goOn q := by decide +kernel
set_option maxRecDepth 100000 in
theorem d7_numeral : ∀ q ∈ ([(0, .aload_n 0, 1, 1), (1, .getfield 119, 3, 4), (4, .ifCond .eq 5, 3, 7), (7, .iload_n 1, 1, 8), (8, .ireturn, 1, 9), (9, .aload_n 0, 1, 10), (10, .getfield 88, 3, 13), (13, .iconst 2, 1, 14), (14, .if_icmp .eq 11, 3, 17), (17, .aload_n 0, 1, 18), (18, .iconst 1, 1, 19), (19, .invokevirtual 128, 3, 22), (22, .goto 24, 3, 25), (25, .aload_n 0, 1, 26), (26, .getfield 98, 3, 29), (29, .iload_n 1, 1, 30), (30, .if_icmp .lt 11, 3, 33), (33, .aload_n 0, 1, 34), (34, .getfield 98, 3, 37), (37, .iload_n 2, 1, 38), (38, .if_icmp .le 8, 3, 41), (41, .aload_n 0, 1, 42), (42, .iconst 2, 1, 43), (43, .invokevirtual 128, 3, 46), (46, .aload_n 0, 1, 47), (47, .getfield 119, 3, 50), (50, .ifCond .ne 10, 3, 53), (53, .aload_n 0, 1, 54), (54, .getfield 98, 3, 57), (57, .goto 4, 3, 60), (60, .iload_n 1, 1, 61), (61, .istore_n 3, 1, 62), (62, .aload_n 0, 1, 63), (63, .invokevirtual 132, 3, 66), (66, .iload_n 3, 1, 67), (67, .ireturn, 1, 68)] : List (Nat × Instr × Nat × Nat)), mDq M7_numeral q := by decide +kernel
set_option maxRecDepth 100000 in
theorem d7_reading : ∀ q ∈ ([(0, .aload_n 0, 1, 1), (1, .getfield 13, 3, 4), (4, .bipush 9, 2, 6), (6, .iload_n 1, 1, 7), (7, .iadd, 1, 8), (8, .iaload, 1, 9), (9, .ireturn, 1, 10)] : List (Nat × Instr × Nat × Nat)), mDq M7_reading q := by decide +kernel
set_option maxRecDepth 100000 in
theorem d7_reads : ∀ q ∈ ([(0, .aload_n 0, 1, 1), (1, .getfield 13, 3, 4), (4, .bipush 9, 2, 6), (6, .iload_n 1, 1, 7), (7, .iadd, 1, 8), (8, .iload_n 2, 1, 9), (9, .iastore, 1, 10), (10, .return_, 1, 11)] : List (Nat × Instr × Nat × Nat)), mDq M7_reads q := by decide +kernel
set_option maxRecDepth 100000 in
theorem d7_readOnce : ∀ q ∈ ([(0, .aload_n 0, 1, 1), (1, .getfield 16, 3, 4), (4, .iload_n 1, 1, 5), (5, .baload, 1, 6), (6, .ifCond .eq 8, 3, 9), (9, .aload_n 0, 1, 10), (10, .iconst 3, 1, 11), (11, .invokevirtual 128, 3, 14), (14, .aload_n 0, 1, 15), (15, .getfield 16, 3, 18), (18, .iload_n 1, 1, 19), (19, .iconst 1, 1, 20), (20, .bastore, 1, 21), (21, .aload_n 0, 1, 22), (22, .invokevirtual 132, 3, 25), (25, .aload_n 0, 1, 26), (26, .iload_n 1, 1, 27), (27, .aload_n 0, 1, 28), (28, .iload_n 2, 1, 29), (29, .iload_n 3, 1, 30), (30, .invokevirtual 135, 3, 33), (33, .invokevirtual 139, 3, 36), (36, .return_, 1, 37)] : List (Nat × Instr × Nat × Nat)), mDq M7_readOnce q := by decide +kernel
set_option maxRecDepth 100000 in
theorem d7_namedAt : ∀ q ∈ ([(0, .iconst 0, 1, 1), (1, .istore 4, 2, 3), (3, .iload 4, 2, 5), (5, .iload_n 2, 1, 6), (6, .if_icmp .ge 25, 3, 9), (9, .aload_n 0, 1, 10), (10, .getfield 20, 3, 13), (13, .iload_n 1, 1, 14), (14, .iload 4, 2, 16), (16, .iadd, 1, 17), (17, .iaload, 1, 18), (18, .iload_n 3, 1, 19), (19, .if_icmp .ne 6, 3, 22), (22, .iload 4, 2, 24), (24, .ireturn, 1, 25), (25, .iinc 4 1, 3, 28), (28, .goto (-25), 3, 31), (31, .iconst (-1), 1, 32), (32, .ireturn, 1, 33)] : List (Nat × Instr × Nat × Nat)), mDq M7_namedAt q := by decide +kernel
set_option maxRecDepth 100000 in
theorem d7_readFactor : ∀ q ∈ ([(0, .aload_n 0, 1, 1), (1, .bipush 8, 2, 3), (3, .invokevirtual 143, 3, 6), (6, .ifCond .le 8, 3, 9), (9, .aload_n 0, 1, 10), (10, .iconst 1, 1, 11), (11, .invokevirtual 128, 3, 14), (14, .iconst 4, 1, 15), (15, .aload_n 0, 1, 16), (16, .bipush 7, 2, 18), (18, .invokevirtual 143, 3, 21), (21, .iadd, 1, 22), (22, .istore_n 1, 1, 23), (23, .iload_n 1, 1, 24), (24, .bipush 8, 2, 26), (26, .if_icmp .ne 8, 3, 29), (29, .aload_n 0, 1, 30), (30, .iconst 2, 1, 31), (31, .invokevirtual 128, 3, 34), (34, .aload_n 0, 1, 35), (35, .invokevirtual 132, 3, 38), (38, .aload_n 0, 1, 39), (39, .getfield 119, 3, 42), (42, .ifCond .eq 4, 3, 45), (45, .return_, 1, 46), (46, .aload_n 0, 1, 47), (47, .getfield 88, 3, 50), (50, .iconst 1, 1, 51), (51, .if_icmp .eq 11, 3, 54), (54, .aload_n 0, 1, 55), (55, .iconst 1, 1, 56), (56, .invokevirtual 128, 3, 59), (59, .goto 27, 3, 62), (62, .aload_n 0, 1, 63), (63, .iconst 4, 1, 64), (64, .aload_n 0, 1, 65), (65, .bipush 7, 2, 67), (67, .invokevirtual 143, 3, 70), (70, .aload_n 0, 1, 71), (71, .getfield 98, 3, 74), (74, .invokevirtual 147, 3, 77), (77, .iconst (-1), 1, 78), (78, .if_icmp .eq 8, 3, 81), (81, .aload_n 0, 1, 82), (82, .iconst 3, 1, 83), (83, .invokevirtual 128, 3, 86), (86, .aload_n 0, 1, 87), (87, .getfield 119, 3, 90), (90, .ifCond .eq 4, 3, 93), (93, .return_, 1, 94), (94, .aload_n 0, 1, 95), (95, .getfield 20, 3, 98), (98, .iload_n 1, 1, 99), (99, .aload_n 0, 1, 100), (100, .getfield 98, 3, 103), (103, .iastore, 1, 104), (104, .aload_n 0, 1, 105), (105, .invokevirtual 125, 3, 108), (108, .aload_n 0, 1, 109), (109, .getfield 23, 3, 112), (112, .iload_n 1, 1, 113), (113, .aload_n 0, 1, 114), (114, .iconst 1, 1, 115), (115, .bipush 6, 2, 117), (117, .invokevirtual 135, 3, 120), (120, .iastore, 1, 121), (121, .aload_n 0, 1, 122), (122, .getfield 26, 3, 125), (125, .iload_n 1, 1, 126), (126, .sipush 1000, 3, 129), (129, .iastore, 1, 130), (130, .aload_n 0, 1, 131), (131, .getfield 29, 3, 134), (134, .iload_n 1, 1, 135), (135, .ldc 151, 2, 137), (137, .iastore, 1, 138), (138, .aload_n 0, 1, 139), (139, .getfield 32, 3, 142), (142, .iload_n 1, 1, 143), (143, .iconst 0, 1, 144), (144, .bastore, 1, 145), (145, .aload_n 0, 1, 146), (146, .getfield 35, 3, 149), (149, .iload_n 1, 1, 150), (150, .iconst 0, 1, 151), (151, .iastore, 1, 152), (152, .aload_n 0, 1, 153), (153, .bipush 7, 2, 155), (155, .aload_n 0, 1, 156), (156, .bipush 7, 2, 158), (158, .invokevirtual 143, 3, 161), (161, .iconst 1, 1, 162), (162, .iadd, 1, 163), (163, .invokevirtual 139, 3, 166), (166, .return_, 1, 167)] : List (Nat × Instr × Nat × Nat)), mDq M7_readFactor q := by decide +kernel
set_option maxRecDepth 100000 in
theorem d7_factorHere : ∀ q ∈ ([(0, .aload_n 0, 1, 1), (1, .invokevirtual 132, 3, 4), (4, .aload_n 0, 1, 5), (5, .getfield 119, 3, 8), (8, .ifCond .eq 5, 3, 11), (11, .iconst 0, 1, 12), (12, .ireturn, 1, 13), (13, .aload_n 0, 1, 14), (14, .getfield 88, 3, 17), (17, .iconst 1, 1, 18), (18, .if_icmp .eq 8, 3, 21), (21, .aload_n 0, 1, 22), (22, .iconst 1, 1, 23), (23, .invokevirtual 128, 3, 26), (26, .aload_n 0, 1, 27), (27, .getfield 119, 3, 30), (30, .ifCond .ne 21, 3, 33), (33, .aload_n 0, 1, 34), (34, .iconst 4, 1, 35), (35, .aload_n 0, 1, 36), (36, .bipush 7, 2, 38), (38, .invokevirtual 143, 3, 41), (41, .aload_n 0, 1, 42), (42, .getfield 98, 3, 45), (45, .invokevirtual 147, 3, 48), (48, .goto 4, 3, 51), (51, .iconst 0, 1, 52), (52, .istore_n 1, 1, 53), (53, .iload_n 1, 1, 54), (54, .iconst (-1), 1, 55), (55, .if_icmp .ne 8, 3, 58), (58, .aload_n 0, 1, 59), (59, .iconst 4, 1, 60), (60, .invokevirtual 128, 3, 63), (63, .iload_n 1, 1, 64), (64, .iconst (-1), 1, 65), (65, .if_icmp .ne 7, 3, 68), (68, .iconst 0, 1, 69), (69, .goto 4, 3, 72), (72, .iload_n 1, 1, 73), (73, .ireturn, 1, 74)] : List (Nat × Instr × Nat × Nat)), mDq M7_factorHere q := by decide +kernel
set_option maxRecDepth 100000 in
theorem d7_readBand : ∀ q ∈ ([(0, .iconst 4, 1, 1), (1, .aload_n 0, 1, 2), (2, .invokevirtual 152, 3, 5), (5, .iadd, 1, 6), (6, .istore_n 1, 1, 7), (7, .aload_n 0, 1, 8), (8, .getfield 119, 3, 11), (11, .ifCond .ne 17, 3, 14), (14, .aload_n 0, 1, 15), (15, .getfield 32, 3, 18), (18, .iload_n 1, 1, 19), (19, .baload, 1, 20), (20, .ifCond .eq 8, 3, 23), (23, .aload_n 0, 1, 24), (24, .iconst 3, 1, 25), (25, .invokevirtual 128, 3, 28), (28, .aload_n 0, 1, 29), (29, .invokevirtual 132, 3, 32), (32, .aload_n 0, 1, 33), (33, .iconst 1, 1, 34), (34, .sipush 10000, 3, 37), (37, .invokevirtual 135, 3, 40), (40, .istore_n 2, 1, 41), (41, .aload_n 0, 1, 42), (42, .sipush 10000, 3, 45), (45, .ldc 107, 2, 47), (47, .invokevirtual 135, 3, 50), (50, .istore_n 3, 1, 51), (51, .aload_n 0, 1, 52), (52, .getfield 119, 3, 55), (55, .ifCond .eq 4, 3, 58), (58, .return_, 1, 59), (59, .aload_n 0, 1, 60), (60, .getfield 32, 3, 63), (63, .iload_n 1, 1, 64), (64, .iconst 1, 1, 65), (65, .bastore, 1, 66), (66, .aload_n 0, 1, 67), (67, .getfield 26, 3, 70), (70, .iload_n 1, 1, 71), (71, .iload_n 2, 1, 72), (72, .iastore, 1, 73), (73, .aload_n 0, 1, 74), (74, .getfield 29, 3, 77), (77, .iload_n 1, 1, 78), (78, .iload_n 3, 1, 79), (79, .iastore, 1, 80), (80, .return_, 1, 81)] : List (Nat × Instr × Nat × Nat)), mDq M7_readBand q := by decide +kernel
set_option maxRecDepth 100000 in
theorem d7_readJoin : ∀ q ∈ ([(0, .iconst 4, 1, 1), (1, .aload_n 0, 1, 2), (2, .invokevirtual 152, 3, 5), (5, .iadd, 1, 6), (6, .istore_n 1, 1, 7), (7, .aload_n 0, 1, 8), (8, .invokevirtual 132, 3, 11), (11, .aload_n 0, 1, 12), (12, .getfield 119, 3, 15), (15, .ifCond .eq 4, 3, 18), (18, .return_, 1, 19), (19, .aload_n 0, 1, 20), (20, .getfield 88, 3, 23), (23, .iconst 2, 1, 24), (24, .if_icmp .eq 11, 3, 27), (27, .aload_n 0, 1, 28), (28, .iconst 1, 1, 29), (29, .invokevirtual 128, 3, 32), (32, .goto 48, 3, 35), (35, .aload_n 0, 1, 36), (36, .getfield 98, 3, 39), (39, .aload_n 0, 1, 40), (40, .getfield 23, 3, 43), (43, .iload_n 1, 1, 44), (44, .iaload, 1, 45), (45, .iconst 1, 1, 46), (46, .isub, 1, 47), (47, .if_icmp .lt 11, 3, 50), (50, .aload_n 0, 1, 51), (51, .iconst 2, 1, 52), (52, .invokevirtual 128, 3, 55), (55, .goto 25, 3, 58), (58, .aload_n 0, 1, 59), (59, .getfield 35, 3, 62), (62, .iload_n 1, 1, 63), (63, .iaload, 1, 64), (64, .aload_n 0, 1, 65), (65, .getfield 98, 3, 68), (68, .ishr, 1, 69), (69, .iconst 1, 1, 70), (70, .iand, 1, 71), (71, .iconst 1, 1, 72), (72, .if_icmp .ne 8, 3, 75), (75, .aload_n 0, 1, 76), (76, .iconst 3, 1, 77), (77, .invokevirtual 128, 3, 80), (80, .aload_n 0, 1, 81), (81, .getfield 119, 3, 84), (84, .ifCond .eq 4, 3, 87), (87, .return_, 1, 88), (88, .aload_n 0, 1, 89), (89, .getfield 35, 3, 92), (92, .iload_n 1, 1, 93), (93, .dup2, 1, 94), (94, .iaload, 1, 95), (95, .iconst 1, 1, 96), (96, .aload_n 0, 1, 97), (97, .getfield 98, 3, 100), (100, .ishl, 1, 101), (101, .ior, 1, 102), (102, .iastore, 1, 103), (103, .aload_n 0, 1, 104), (104, .invokevirtual 125, 3, 107), (107, .return_, 1, 108)] : List (Nat × Instr × Nat × Nat)), mDq M7_readJoin q := by decide +kernel
set_option maxRecDepth 100000 in
theorem d7_readRisk : ∀ q ∈ ([(0, .bipush 7, 2, 2), (2, .aload_n 0, 1, 3), (3, .bipush 8, 2, 5), (5, .invokevirtual 143, 3, 8), (8, .imul, 1, 9), (9, .istore_n 1, 1, 10), (10, .aload_n 0, 1, 11), (11, .bipush 8, 2, 13), (13, .invokevirtual 143, 3, 16), (16, .bipush 40, 2, 18), (18, .if_icmp .ne 8, 3, 21), (21, .aload_n 0, 1, 22), (22, .iconst 2, 1, 23), (23, .invokevirtual 128, 3, 26), (26, .aload_n 0, 1, 27), (27, .invokevirtual 132, 3, 30), (30, .aload_n 0, 1, 31), (31, .iconst 1, 1, 32), (32, .bipush 99, 2, 34), (34, .invokevirtual 135, 3, 37), (37, .istore_n 2, 1, 38), (38, .aload_n 0, 1, 39), (39, .iconst 0, 1, 40), (40, .ldc 107, 2, 42), (42, .invokevirtual 135, 3, 45), (45, .istore_n 3, 1, 46), (46, .aload_n 0, 1, 47), (47, .iconst 1, 1, 48), (48, .ldc 107, 2, 50), (50, .invokevirtual 135, 3, 53), (53, .istore 4, 2, 55), (55, .aload_n 0, 1, 56), (56, .getfield 119, 3, 59), (59, .ifCond .eq 4, 3, 62), (62, .return_, 1, 63), (63, .aload_n 0, 1, 64), (64, .getfield 38, 3, 67), (67, .iload_n 1, 1, 68), (68, .iconst 0, 1, 69), (69, .iadd, 1, 70), (70, .iload_n 2, 1, 71), (71, .iastore, 1, 72), (72, .aload_n 0, 1, 73), (73, .getfield 38, 3, 76), (76, .iload_n 1, 1, 77), (77, .iconst 1, 1, 78), (78, .iadd, 1, 79), (79, .iload_n 3, 1, 80), (80, .iastore, 1, 81), (81, .aload_n 0, 1, 82), (82, .getfield 38, 3, 85), (85, .iload_n 1, 1, 86), (86, .iconst 2, 1, 87), (87, .iadd, 1, 88), (88, .iload 4, 2, 90), (90, .iastore, 1, 91), (91, .iconst 0, 1, 92), (92, .istore 5, 2, 94), (94, .iload 5, 2, 96), (96, .iconst 4, 1, 97), (97, .if_icmp .ge 51, 3, 100), (100, .aload_n 0, 1, 101), (101, .getfield 38, 3, 104), (104, .iload_n 1, 1, 105), (105, .iconst 3, 1, 106), (106, .iadd, 1, 107), (107, .iload 5, 2, 109), (109, .iadd, 1, 110), (110, .iload 5, 2, 112), (112, .aload_n 0, 1, 113), (113, .bipush 7, 2, 115), (115, .invokevirtual 143, 3, 118), (118, .if_icmp .ge 22, 3, 121), (121, .aload_n 0, 1, 122), (122, .iconst 0, 1, 123), (123, .aload_n 0, 1, 124), (124, .getfield 23, 3, 127), (127, .iconst 4, 1, 128), (128, .iload 5, 2, 130), (130, .iadd, 1, 131), (131, .iaload, 1, 132), (132, .iconst 1, 1, 133), (133, .isub, 1, 134), (134, .invokevirtual 135, 3, 137), (137, .goto 4, 3, 140), (140, .iconst 0, 1, 141), (141, .iastore, 1, 142), (142, .iinc 5 1, 3, 145), (145, .goto (-51), 3, 148), (148, .aload_n 0, 1, 149), (149, .bipush 8, 2, 151), (151, .aload_n 0, 1, 152), (152, .bipush 8, 2, 154), (154, .invokevirtual 143, 3, 157), (157, .iconst 1, 1, 158), (158, .iadd, 1, 159), (159, .invokevirtual 139, 3, 162), (162, .return_, 1, 163)] : List (Nat × Instr × Nat × Nat)), mDq M7_readRisk q := by decide +kernel
set_option maxRecDepth 100000 in
theorem d7_readFleet : ∀ q ∈ ([(0, .aload_n 0, 1, 1), (1, .iconst 5, 1, 2), (2, .iconst 1, 1, 3), (3, .bipush 99, 2, 5), (5, .invokevirtual 155, 3, 8), (8, .aload_n 0, 1, 9), (9, .bipush 6, 2, 11), (11, .aload_n 0, 1, 12), (12, .iconst 0, 1, 13), (13, .sipush 500, 3, 16), (16, .invokevirtual 135, 3, 19), (19, .invokevirtual 139, 3, 22), (22, .return_, 1, 23)] : List (Nat × Instr × Nat × Nat)), mDq M7_readFleet q := by decide +kernel
set_option maxRecDepth 100000 in
theorem d7_readLine : ∀ q ∈ ([(0, .aload_n 0, 1, 1), (1, .getfield 88, 3, 4), (4, .ifCond .eq 11, 3, 7), (7, .aload_n 0, 1, 8), (8, .iconst 1, 1, 9), (9, .invokevirtual 128, 3, 12), (12, .goto 146, 3, 15), (15, .aload_n 0, 1, 16), (16, .getfield 98, 3, 19), (19, .ifCond .ne 14, 3, 22), (22, .aload_n 0, 1, 23), (23, .iconst 0, 1, 24), (24, .iconst 1, 1, 25), (25, .ldc 107, 2, 27), (27, .invokevirtual 155, 3, 30), (30, .goto 128, 3, 33), (33, .aload_n 0, 1, 34), (34, .getfield 98, 3, 37), (37, .iconst 1, 1, 38), (38, .if_icmp .eq 19, 3, 41), (41, .aload_n 0, 1, 42), (42, .getfield 98, 3, 45), (45, .iconst 2, 1, 46), (46, .if_icmp .eq 11, 3, 49), (49, .aload_n 0, 1, 50), (50, .getfield 98, 3, 53), (53, .iconst 4, 1, 54), (54, .if_icmp .ne 18, 3, 57), (57, .aload_n 0, 1, 58), (58, .aload_n 0, 1, 59), (59, .getfield 98, 3, 62), (62, .iconst 0, 1, 63), (63, .sipush 999, 3, 66), (66, .invokevirtual 155, 3, 69), (69, .goto 89, 3, 72), (72, .aload_n 0, 1, 73), (73, .getfield 98, 3, 76), (76, .iconst 3, 1, 77), (77, .if_icmp .ne 14, 3, 80), (80, .aload_n 0, 1, 81), (81, .iconst 3, 1, 82), (82, .iconst 0, 1, 83), (83, .ldc 107, 2, 85), (85, .invokevirtual 155, 3, 88), (88, .goto 70, 3, 91), (91, .aload_n 0, 1, 92), (92, .getfield 98, 3, 95), (95, .iconst 5, 1, 96), (96, .if_icmp .ne 10, 3, 99), (99, .aload_n 0, 1, 100), (100, .invokevirtual 159, 3, 103), (103, .goto 55, 3, 106), (106, .aload_n 0, 1, 107), (107, .getfield 98, 3, 110), (110, .bipush 6, 2, 112), (112, .if_icmp .ne 10, 3, 115), (115, .aload_n 0, 1, 116), (116, .invokevirtual 162, 3, 119), (119, .goto 39, 3, 122), (122, .aload_n 0, 1, 123), (123, .getfield 98, 3, 126), (126, .bipush 7, 2, 128), (128, .if_icmp .ne 10, 3, 131), (131, .aload_n 0, 1, 132), (132, .invokevirtual 165, 3, 135), (135, .goto 23, 3, 138), (138, .aload_n 0, 1, 139), (139, .getfield 98, 3, 142), (142, .bipush 8, 2, 144), (144, .if_icmp .ne 10, 3, 147), (147, .aload_n 0, 1, 148), (148, .invokevirtual 168, 3, 151), (151, .goto 7, 3, 154), (154, .aload_n 0, 1, 155), (155, .invokevirtual 171, 3, 158), (158, .aload_n 0, 1, 159), (159, .getfield 119, 3, 162), (162, .ifCond .ne 16, 3, 165), (165, .aload_n 0, 1, 166), (166, .getfield 88, 3, 169), (169, .iconst 3, 1, 170), (170, .if_icmp .eq 8, 3, 173), (173, .aload_n 0, 1, 174), (174, .iconst 1, 1, 175), (175, .invokevirtual 128, 3, 178), (178, .aload_n 0, 1, 179), (179, .invokevirtual 132, 3, 182), (182, .aload_n 0, 1, 183), (183, .dup, 1, 184), (184, .getfield 174, 3, 187), (187, .iconst 1, 1, 188), (188, .iadd, 1, 189), (189, .putfield 174, 3, 192), (192, .return_, 1, 193)] : List (Nat × Instr × Nat × Nat)), mDq M7_readLine q := by decide +kernel
set_option maxRecDepth 100000 in
theorem d7_freshText : ∀ q ∈ ([(0, .iconst 0, 1, 1), (1, .istore_n 1, 1, 2), (2, .iload_n 1, 1, 3), (3, .bipush 9, 2, 5), (5, .if_icmp .ge 15, 3, 8), (8, .aload_n 0, 1, 9), (9, .iload_n 1, 1, 10), (10, .iconst 0, 1, 11), (11, .invokevirtual 139, 3, 14), (14, .iinc 1 1, 3, 17), (17, .goto (-15), 3, 20), (20, .aload_n 0, 1, 21), (21, .iconst 0, 1, 22), (22, .sipush 1000, 3, 25), (25, .invokevirtual 139, 3, 28), (28, .aload_n 0, 1, 29), (29, .iconst 1, 1, 30), (30, .bipush 10, 2, 32), (32, .invokevirtual 139, 3, 35), (35, .aload_n 0, 1, 36), (36, .iconst 2, 1, 37), (37, .sipush 250, 3, 40), (40, .invokevirtual 139, 3, 43), (43, .aload_n 0, 1, 44), (44, .iconst 5, 1, 45), (45, .bipush 99, 2, 47), (47, .invokevirtual 139, 3, 50), (50, .iconst 0, 1, 51), (51, .istore_n 1, 1, 52), (52, .iload_n 1, 1, 53), (53, .bipush 6, 2, 55), (55, .if_icmp .ge 16, 3, 58), (58, .aload_n 0, 1, 59), (59, .getfield 16, 3, 62), (62, .iload_n 1, 1, 63), (63, .iconst 0, 1, 64), (64, .bastore, 1, 65), (65, .iinc 1 1, 3, 68), (68, .goto (-16), 3, 71), (71, .return_, 1, 72)] : List (Nat × Instr × Nat × Nat)), mDq M7_freshText q := by decide +kernel
set_option maxRecDepth 100000 in
theorem d7_readText : ∀ q ∈ ([(0, .aload_n 0, 1, 1), (1, .iload_n 1, 1, 2), (2, .putfield 78, 3, 5), (5, .aload_n 0, 1, 6), (6, .iconst 0, 1, 7), (7, .putfield 75, 3, 10), (10, .aload_n 0, 1, 11), (11, .iconst 0, 1, 12), (12, .putfield 119, 3, 15), (15, .aload_n 0, 1, 16), (16, .iconst 0, 1, 17), (17, .putfield 174, 3, 20), (20, .aload_n 0, 1, 21), (21, .invokevirtual 60, 3, 24), (24, .aload_n 0, 1, 25), (25, .invokevirtual 125, 3, 28), (28, .aload_n 0, 1, 29), (29, .getfield 119, 3, 32), (32, .ifCond .ne 18, 3, 35), (35, .aload_n 0, 1, 36), (36, .getfield 88, 3, 39), (39, .iconst 4, 1, 40), (40, .if_icmp .eq 10, 3, 43), (43, .aload_n 0, 1, 44), (44, .invokevirtual 177, 3, 47), (47, .goto (-19), 3, 50), (50, .return_, 1, 51)] : List (Nat × Instr × Nat × Nat)), mDq M7_readText q := by decide +kernel
set_option maxRecDepth 100000 in
theorem d7_takeText : ∀ q ∈ ([(0, .iconst 0, 1, 1), (1, .istore_n 1, 1, 2), (2, .iload_n 1, 1, 3), (3, .bipush 9, 2, 5), (5, .if_icmp .ge 20, 3, 8), (8, .aload_n 0, 1, 9), (9, .getfield 13, 3, 12), (12, .iload_n 1, 1, 13), (13, .aload_n 0, 1, 14), (14, .iload_n 1, 1, 15), (15, .invokevirtual 143, 3, 18), (18, .iastore, 1, 19), (19, .iinc 1 1, 3, 22), (22, .goto (-20), 3, 25), (25, .iconst 0, 1, 26), (26, .istore_n 1, 1, 27), (27, .iload_n 1, 1, 28), (28, .iconst 4, 1, 29), (29, .if_icmp .ge 79, 3, 32), (32, .aload_n 0, 1, 33), (33, .getfield 20, 3, 36), (36, .iload_n 1, 1, 37), (37, .aload_n 0, 1, 38), (38, .getfield 20, 3, 41), (41, .iconst 4, 1, 42), (42, .iload_n 1, 1, 43), (43, .iadd, 1, 44), (44, .iaload, 1, 45), (45, .iastore, 1, 46), (46, .aload_n 0, 1, 47), (47, .getfield 23, 3, 50), (50, .iload_n 1, 1, 51), (51, .aload_n 0, 1, 52), (52, .getfield 23, 3, 55), (55, .iconst 4, 1, 56), (56, .iload_n 1, 1, 57), (57, .iadd, 1, 58), (58, .iaload, 1, 59), (59, .iastore, 1, 60), (60, .aload_n 0, 1, 61), (61, .getfield 26, 3, 64), (64, .iload_n 1, 1, 65), (65, .aload_n 0, 1, 66), (66, .getfield 26, 3, 69), (69, .iconst 4, 1, 70), (70, .iload_n 1, 1, 71), (71, .iadd, 1, 72), (72, .iaload, 1, 73), (73, .iastore, 1, 74), (74, .aload_n 0, 1, 75), (75, .getfield 29, 3, 78), (78, .iload_n 1, 1, 79), (79, .aload_n 0, 1, 80), (80, .getfield 29, 3, 83), (83, .iconst 4, 1, 84), (84, .iload_n 1, 1, 85), (85, .iadd, 1, 86), (86, .iaload, 1, 87), (87, .iastore, 1, 88), (88, .aload_n 0, 1, 89), (89, .getfield 35, 3, 92), (92, .iload_n 1, 1, 93), (93, .aload_n 0, 1, 94), (94, .getfield 35, 3, 97), (97, .iconst 4, 1, 98), (98, .iload_n 1, 1, 99), (99, .iadd, 1, 100), (100, .iaload, 1, 101), (101, .iastore, 1, 102), (102, .iinc 1 1, 3, 105), (105, .goto (-78), 3, 108), (108, .return_, 1, 109)] : List (Nat × Instr × Nat × Nat)), mDq M7_takeText q := by decide +kernel
set_option maxRecDepth 100000 in
theorem d7_text : ∀ q ∈ ([(0, .aload_n 0, 1, 1), (1, .iconst 0, 1, 2), (2, .putfield 69, 3, 5), (5, .iload_n 1, 1, 6), (6, .ifCond .lt 11, 3, 9), (9, .iload_n 1, 1, 10), (10, .aload_n 0, 1, 11), (11, .getfield 72, 3, 14), (14, .if_icmp .le 6, 3, 17), (17, .bipush (-2), 2, 19), (19, .ireturn, 1, 20), (20, .aload_n 0, 1, 21), (21, .iload_n 1, 1, 22), (22, .invokevirtual 180, 3, 25), (25, .aload_n 0, 1, 26), (26, .iconst 0, 1, 27), (27, .putfield 72, 3, 30), (30, .aload_n 0, 1, 31), (31, .aload_n 0, 1, 32), (32, .getfield 119, 3, 35), (35, .putfield 183, 3, 38), (38, .aload_n 0, 1, 39), (39, .aload_n 0, 1, 40), (40, .getfield 119, 3, 43), (43, .ifCond .ne 7, 3, 46), (46, .iconst (-1), 1, 47), (47, .goto 7, 3, 50), (50, .aload_n 0, 1, 51), (51, .getfield 122, 3, 54), (54, .putfield 41, 3, 57), (57, .aload_n 0, 1, 58), (58, .getfield 119, 3, 61), (61, .ifCond .eq 5, 3, 64), (64, .iconst (-1), 1, 65), (65, .ireturn, 1, 66), (66, .aload_n 0, 1, 67), (67, .invokevirtual 63, 3, 70), (70, .aload_n 0, 1, 71), (71, .invokevirtual 66, 3, 74), (74, .aload_n 0, 1, 75), (75, .iconst 0, 1, 76), (76, .putfield 186, 3, 79), (79, .aload_n 0, 1, 80), (80, .iconst 0, 1, 81), (81, .putfield 189, 3, 84), (84, .aload_n 0, 1, 85), (85, .getfield 174, 3, 88), (88, .ireturn, 1, 89)] : List (Nat × Instr × Nat × Nat)), mDq M7_text q := by decide +kernel
set_option maxRecDepth 100000 in
theorem d7_fault : ∀ q ∈ ([(0, .aload_n 0, 1, 1), (1, .iconst 0, 1, 2), (2, .putfield 69, 3, 5), (5, .iload_n 1, 1, 6), (6, .ifCond .ne 10, 3, 9), (9, .aload_n 0, 1, 10), (10, .getfield 183, 3, 13), (13, .goto 16, 3, 16), (16, .iload_n 1, 1, 17), (17, .iconst 1, 1, 18), (18, .if_icmp .ne 10, 3, 21), (21, .aload_n 0, 1, 22), (22, .getfield 41, 3, 25), (25, .goto 4, 3, 28), (28, .iconst (-1), 1, 29), (29, .ireturn, 1, 30)] : List (Nat × Instr × Nat × Nat)), mDq M7_fault q := by decide +kernel
set_option maxRecDepth 100000 in
theorem d7_factors : ∀ q ∈ ([(0, .aload_n 0, 1, 1), (1, .getfield 13, 3, 4), (4, .bipush 7, 2, 6), (6, .iaload, 1, 7), (7, .ireturn, 1, 8)] : List (Nat × Instr × Nat × Nat)), mDq M7_factors q := by decide +kernel
set_option maxRecDepth 100000 in
theorem d7_named : ∀ q ∈ ([(0, .aload_n 0, 1, 1), (1, .iconst 0, 1, 2), (2, .putfield 69, 3, 5), (5, .aload_n 0, 1, 6), (6, .iconst 0, 1, 7), (7, .aload_n 0, 1, 8), (8, .invokevirtual 193, 3, 11), (11, .iload_n 1, 1, 12), (12, .invokevirtual 147, 3, 15), (15, .ireturn, 1, 16)] : List (Nat × Instr × Nat × Nat)), mDq M7_named q := by decide +kernel
set_option maxRecDepth 100000 in
theorem d7_copies : ∀ q ∈ ([(0, .iconst 0, 1, 1), (1, .istore 4, 2, 3), (3, .iload 4, 2, 5), (5, .sipush 314, 3, 8), (8, .if_icmp .ge 21, 3, 11), (11, .aload_n 2, 1, 12), (12, .iload_n 3, 1, 13), (13, .iload 4, 2, 15), (15, .iadd, 1, 16), (16, .aload_n 0, 1, 17), (17, .iload_n 1, 1, 18), (18, .iload 4, 2, 20), (20, .iadd, 1, 21), (21, .iaload, 1, 22), (22, .iastore, 1, 23), (23, .iinc 4 1, 3, 26), (26, .goto (-23), 3, 29), (29, .return_, 1, 30)] : List (Nat × Instr × Nat × Nat)), mDq M7_copies q := by decide +kernel
set_option maxRecDepth 100000 in
theorem d7_begins : ∀ q ∈ ([(0, .iconst 0, 1, 1), (1, .istore_n 1, 1, 2), (2, .iload_n 1, 1, 3), (3, .sipush 314, 3, 6), (6, .if_icmp .ge 39, 3, 9), (9, .aload_n 0, 1, 10), (10, .getfield 45, 3, 13), (13, .iload_n 1, 1, 14), (14, .iload_n 1, 1, 15), (15, .bipush 7, 2, 17), (17, .aload_n 0, 1, 18), (18, .getfield 13, 3, 21), (21, .bipush 8, 2, 23), (23, .iaload, 1, 24), (24, .imul, 1, 25), (25, .if_icmp .ge 12, 3, 28), (28, .aload_n 0, 1, 29), (29, .getfield 38, 3, 32), (32, .iload_n 1, 1, 33), (33, .iaload, 1, 34), (34, .goto 4, 3, 37), (37, .iconst 0, 1, 38), (38, .iastore, 1, 39), (39, .iinc 1 1, 3, 42), (42, .goto (-40), 3, 45), (45, .iconst 0, 1, 46), (46, .istore_n 1, 1, 47), (47, .iload_n 1, 1, 48), (48, .aload_n 0, 1, 49), (49, .invokevirtual 193, 3, 52), (52, .if_icmp .ge 61, 3, 55), (55, .aload_n 0, 1, 56), (56, .getfield 45, 3, 59), (59, .sipush 304, 3, 62), (62, .iload_n 1, 1, 63), (63, .iadd, 1, 64), (64, .aload_n 0, 1, 65), (65, .getfield 35, 3, 68), (68, .iload_n 1, 1, 69), (69, .iaload, 1, 70), (70, .iastore, 1, 71), (71, .iconst 0, 1, 72), (72, .istore_n 2, 1, 73), (73, .iload_n 2, 1, 74), (74, .aload_n 0, 1, 75), (75, .getfield 23, 3, 78), (78, .iload_n 1, 1, 79), (79, .iaload, 1, 80), (80, .if_icmp .ge 27, 3, 83), (83, .aload_n 0, 1, 84), (84, .getfield 45, 3, 87), (87, .sipush 280, 3, 90), (90, .bipush 6, 2, 92), (92, .iload_n 1, 1, 93), (93, .imul, 1, 94), (94, .iadd, 1, 95), (95, .iload_n 2, 1, 96), (96, .iadd, 1, 97), (97, .sipush 10000, 3, 100), (100, .iastore, 1, 101), (101, .iinc 2 1, 3, 104), (104, .goto (-31), 3, 107), (107, .iinc 1 1, 3, 110), (110, .goto (-63), 3, 113), (113, .aload_n 0, 1, 114), (114, .getfield 45, 3, 117), (117, .sipush 308, 3, 120), (120, .aload_n 0, 1, 121), (121, .getfield 13, 3, 124), (124, .iconst 0, 1, 125), (125, .iaload, 1, 126), (126, .iastore, 1, 127), (127, .aload_n 0, 1, 128), (128, .getfield 45, 3, 131), (131, .sipush 309, 3, 134), (134, .aload_n 0, 1, 135), (135, .getfield 13, 3, 138), (138, .iconst 2, 1, 139), (139, .iaload, 1, 140), (140, .iastore, 1, 141), (141, .aload_n 0, 1, 142), (142, .getfield 45, 3, 145), (145, .sipush 311, 3, 148), (148, .aload_n 0, 1, 149), (149, .getfield 13, 3, 152), (152, .iconst 4, 1, 153), (153, .iaload, 1, 154), (154, .iastore, 1, 155), (155, .aload_n 0, 1, 156), (156, .getfield 45, 3, 159), (159, .sipush 312, 3, 162), (162, .aload_n 0, 1, 163), (163, .getfield 13, 3, 166), (166, .iconst 5, 1, 167), (167, .iaload, 1, 168), (168, .iastore, 1, 169), (169, .aload_n 0, 1, 170), (170, .getfield 45, 3, 173), (173, .sipush 313, 3, 176), (176, .aload_n 0, 1, 177), (177, .getfield 13, 3, 180), (180, .bipush 6, 2, 182), (182, .iaload, 1, 183), (183, .iastore, 1, 184), (184, .aload_n 0, 1, 185), (185, .getfield 45, 3, 188), (188, .sipush 310, 3, 191), (191, .aload_n 0, 1, 192), (192, .getfield 13, 3, 195), (195, .bipush 8, 2, 197), (197, .iaload, 1, 198), (198, .iastore, 1, 199), (199, .return_, 1, 200)] : List (Nat × Instr × Nat × Nat)), mDq M7_begins q := by decide +kernel
set_option maxRecDepth 100000 in
theorem d7_remembers : ∀ q ∈ ([(0, .aload_n 0, 1, 1), (1, .getfield 186, 3, 4), (4, .bipush 20, 2, 6), (6, .if_icmp .ne 44, 3, 9), (9, .iconst 0, 1, 10), (10, .istore_n 1, 1, 11), (11, .iload_n 1, 1, 12), (12, .sipush 5966, 3, 15), (15, .if_icmp .ge 25, 3, 18), (18, .aload_n 0, 1, 19), (19, .getfield 54, 3, 22), (22, .iload_n 1, 1, 23), (23, .aload_n 0, 1, 24), (24, .getfield 54, 3, 27), (27, .sipush 314, 3, 30), (30, .iload_n 1, 1, 31), (31, .iadd, 1, 32), (32, .iaload, 1, 33), (33, .iastore, 1, 34), (34, .iinc 1 1, 3, 37), (37, .goto (-26), 3, 40), (40, .aload_n 0, 1, 41), (41, .dup, 1, 42), (42, .getfield 186, 3, 45), (45, .iconst 1, 1, 46), (46, .isub, 1, 47), (47, .putfield 186, 3, 50), (50, .aload_n 0, 1, 51), (51, .getfield 45, 3, 54), (54, .iconst 0, 1, 55), (55, .aload_n 0, 1, 56), (56, .getfield 54, 3, 59), (59, .sipush 314, 3, 62), (62, .aload_n 0, 1, 63), (63, .getfield 186, 3, 66), (66, .imul, 1, 67), (67, .invokestatic 196, 3, 70), (70, .aload_n 0, 1, 71), (71, .dup, 1, 72), (72, .getfield 186, 3, 75), (75, .iconst 1, 1, 76), (76, .iadd, 1, 77), (77, .putfield 186, 3, 80), (80, .return_, 1, 81)] : List (Nat × Instr × Nat × Nat)), mDq M7_remembers q := by decide +kernel
set_option maxRecDepth 100000 in
theorem d7_undo : ∀ q ∈ ([(0, .aload_n 0, 1, 1), (1, .iconst 0, 1, 2), (2, .putfield 69, 3, 5), (5, .aload_n 0, 1, 6), (6, .getfield 186, 3, 9), (9, .ifCond .ne 5, 3, 12), (12, .iconst (-1), 1, 13), (13, .ireturn, 1, 14), (14, .aload_n 0, 1, 15), (15, .dup, 1, 16), (16, .getfield 186, 3, 19), (19, .iconst 1, 1, 20), (20, .isub, 1, 21), (21, .putfield 186, 3, 24), (24, .aload_n 0, 1, 25), (25, .getfield 54, 3, 28), (28, .sipush 314, 3, 31), (31, .aload_n 0, 1, 32), (32, .getfield 186, 3, 35), (35, .imul, 1, 36), (36, .aload_n 0, 1, 37), (37, .getfield 45, 3, 40), (40, .iconst 0, 1, 41), (41, .invokestatic 196, 3, 44), (44, .aload_n 0, 1, 45), (45, .getfield 186, 3, 48), (48, .ireturn, 1, 49)] : List (Nat × Instr × Nat × Nat)), mDq M7_undo q := by decide +kernel
set_option maxRecDepth 100000 in
theorem d7_keep : ∀ q ∈ ([(0, .aload_n 0, 1, 1), (1, .iconst 0, 1, 2), (2, .putfield 69, 3, 5), (5, .aload_n 0, 1, 6), (6, .getfield 45, 3, 9), (9, .iconst 0, 1, 10), (10, .aload_n 0, 1, 11), (11, .getfield 51, 3, 14), (14, .iconst 0, 1, 15), (15, .invokestatic 196, 3, 18), (18, .aload_n 0, 1, 19), (19, .iconst 1, 1, 20), (20, .putfield 189, 3, 23), (23, .aload_n 0, 1, 24), (24, .invokevirtual 200, 3, 27), (27, .ireturn, 1, 28)] : List (Nat × Instr × Nat × Nat)), mDq M7_keep q := by decide +kernel
set_option maxRecDepth 100000 in
theorem d7_back : ∀ q ∈ ([(0, .aload_n 0, 1, 1), (1, .iconst 0, 1, 2), (2, .putfield 69, 3, 5), (5, .aload_n 0, 1, 6), (6, .getfield 189, 3, 9), (9, .ifCond .ne 5, 3, 12), (12, .iconst (-1), 1, 13), (13, .ireturn, 1, 14), (14, .aload_n 0, 1, 15), (15, .getfield 51, 3, 18), (18, .iconst 0, 1, 19), (19, .aload_n 0, 1, 20), (20, .getfield 45, 3, 23), (23, .iconst 0, 1, 24), (24, .invokestatic 196, 3, 27), (27, .aload_n 0, 1, 28), (28, .iconst 0, 1, 29), (29, .putfield 186, 3, 32), (32, .aload_n 0, 1, 33), (33, .invokevirtual 200, 3, 36), (36, .ireturn, 1, 37)] : List (Nat × Instr × Nat × Nat)), mDq M7_back q := by decide +kernel
set_option maxRecDepth 100000 in
theorem d7_many : ∀ q ∈ ([(0, .aload_n 0, 1, 1), (1, .getfield 45, 3, 4), (4, .sipush 310, 3, 7), (7, .iaload, 1, 8), (8, .ireturn, 1, 9)] : List (Nat × Instr × Nat × Nat)), mDq M7_many q := by decide +kernel
set_option maxRecDepth 100000 in
theorem d7_isFactor : ∀ q ∈ ([(0, .iload_n 1, 1, 1), (1, .ifCond .lt 15, 3, 4), (4, .iload_n 1, 1, 5), (5, .aload_n 0, 1, 6), (6, .invokevirtual 193, 3, 9), (9, .if_icmp .ge 7, 3, 12), (12, .iconst 1, 1, 13), (13, .goto 4, 3, 16), (16, .iconst 0, 1, 17), (17, .ireturn, 1, 18)] : List (Nat × Instr × Nat × Nat)), mDq M7_isFactor q := by decide +kernel
set_option maxRecDepth 100000 in
theorem d7_isLevel : ∀ q ∈ ([(0, .aload_n 0, 1, 1), (1, .iload_n 1, 1, 2), (2, .invokevirtual 203, 3, 5), (5, .ifCond .eq 21, 3, 8), (8, .iload_n 2, 1, 9), (9, .ifCond .lt 17, 3, 12), (12, .iload_n 2, 1, 13), (13, .aload_n 0, 1, 14), (14, .getfield 23, 3, 17), (17, .iload_n 1, 1, 18), (18, .iaload, 1, 19), (19, .if_icmp .ge 7, 3, 22), (22, .iconst 1, 1, 23), (23, .goto 4, 3, 26), (26, .iconst 0, 1, 27), (27, .ireturn, 1, 28)] : List (Nat × Instr × Nat × Nat)), mDq M7_isLevel q := by decide +kernel
set_option maxRecDepth 100000 in
theorem d7_isRisk : ∀ q ∈ ([(0, .iload_n 1, 1, 1), (1, .ifCond .lt 15, 3, 4), (4, .iload_n 1, 1, 5), (5, .aload_n 0, 1, 6), (6, .invokevirtual 200, 3, 9), (9, .if_icmp .ge 7, 3, 12), (12, .iconst 1, 1, 13), (13, .goto 4, 3, 16), (16, .iconst 0, 1, 17), (17, .ireturn, 1, 18)] : List (Nat × Instr × Nat × Nat)), mDq M7_isRisk q := by decide +kernel
set_option maxRecDepth 100000 in
theorem d7_isJoined : ∀ q ∈ ([(0, .iload_n 2, 1, 1), (1, .ifCond .lt 25, 3, 4), (4, .aload_n 0, 1, 5), (5, .getfield 45, 3, 8), (8, .sipush 304, 3, 11), (11, .iload_n 1, 1, 12), (12, .iadd, 1, 13), (13, .iaload, 1, 14), (14, .iload_n 2, 1, 15), (15, .ishr, 1, 16), (16, .iconst 1, 1, 17), (17, .iand, 1, 18), (18, .iconst 1, 1, 19), (19, .if_icmp .ne 7, 3, 22), (22, .iconst 1, 1, 23), (23, .goto 4, 3, 26), (26, .iconst 0, 1, 27), (27, .ireturn, 1, 28)] : List (Nat × Instr × Nat × Nat)), mDq M7_isJoined q := by decide +kernel
set_option maxRecDepth 100000 in
theorem d7_firstOf : ∀ q ∈ ([(0, .iload_n 2, 1, 1), (1, .istore_n 3, 1, 2), (2, .aload_n 0, 1, 3), (3, .iload_n 1, 1, 4), (4, .iload_n 3, 1, 5), (5, .iconst 1, 1, 6), (6, .isub, 1, 7), (7, .invokevirtual 206, 3, 10), (10, .ifCond .eq 9, 3, 13), (13, .iinc 3 (-1), 3, 16), (16, .goto (-14), 3, 19), (19, .iload_n 3, 1, 20), (20, .ireturn, 1, 21)] : List (Nat × Instr × Nat × Nat)), mDq M7_firstOf q := by decide +kernel
set_option maxRecDepth 100000 in
theorem d7_lastOf : ∀ q ∈ ([(0, .iload_n 2, 1, 1), (1, .istore_n 3, 1, 2), (2, .aload_n 0, 1, 3), (3, .iload_n 1, 1, 4), (4, .iload_n 3, 1, 5), (5, .invokevirtual 206, 3, 8), (8, .ifCond .eq 9, 3, 11), (11, .iinc 3 1, 3, 14), (14, .goto (-12), 3, 17), (17, .iload_n 3, 1, 18), (18, .ireturn, 1, 19)] : List (Nat × Instr × Nat × Nat)), mDq M7_lastOf q := by decide +kernel
set_option maxRecDepth 100000 in
theorem d7_relativityOf : ∀ q ∈ ([(0, .aload_n 0, 1, 1), (1, .getfield 45, 3, 4), (4, .sipush 280, 3, 7), (7, .bipush 6, 2, 9), (9, .iload_n 1, 1, 10), (10, .imul, 1, 11), (11, .iadd, 1, 12), (12, .iload_n 2, 1, 13), (13, .iadd, 1, 14), (14, .iaload, 1, 15), (15, .ireturn, 1, 16)] : List (Nat × Instr × Nat × Nat)), mDq M7_relativityOf q := by decide +kernel
set_option maxRecDepth 100000 in
theorem d7_relates : ∀ q ∈ ([(0, .aload_n 0, 1, 1), (1, .iload_n 1, 1, 2), (2, .iload_n 2, 1, 3), (3, .invokevirtual 210, 3, 6), (6, .istore 4, 2, 8), (8, .iload 4, 2, 10), (10, .aload_n 0, 1, 11), (11, .iload_n 1, 1, 12), (12, .iload_n 2, 1, 13), (13, .invokevirtual 213, 3, 16), (16, .if_icmp .gt 26, 3, 19), (19, .aload_n 0, 1, 20), (20, .getfield 45, 3, 23), (23, .sipush 280, 3, 26), (26, .bipush 6, 2, 28), (28, .iload_n 1, 1, 29), (29, .imul, 1, 30), (30, .iadd, 1, 31), (31, .iload 4, 2, 33), (33, .iadd, 1, 34), (34, .iload_n 3, 1, 35), (35, .iastore, 1, 36), (36, .iinc 4 1, 3, 39), (39, .goto (-31), 3, 42), (42, .return_, 1, 43)] : List (Nat × Instr × Nat × Nat)), mDq M7_relates q := by decide +kernel
set_option maxRecDepth 100000 in
theorem d7_within : ∀ q ∈ ([(0, .lload_n 0, 1, 1), (1, .lload_n 2, 1, 2), (2, .lcmp, 1, 3), (3, .ifCond .ge 7, 3, 6), (6, .lload_n 2, 1, 7), (7, .goto 16, 3, 10), (10, .lload_n 0, 1, 11), (11, .lload 4, 2, 13), (13, .lcmp, 1, 14), (14, .ifCond .le 8, 3, 17), (17, .lload 4, 2, 19), (19, .goto 4, 3, 22), (22, .lload_n 0, 1, 23), (23, .lreturn, 1, 24)] : List (Nat × Instr × Nat × Nat)), mDq M7_within q := by decide +kernel
set_option maxRecDepth 100000 in
theorem d7_premiumBy : ∀ q ∈ ([(0, .aload_n 0, 1, 1), (1, .iload_n 1, 1, 2), (2, .iload_n 2, 1, 3), (3, .aload_n 0, 1, 4), (4, .invokevirtual 193, 3, 7), (7, .invokevirtual 216, 3, 10), (10, .lstore_n 3, 1, 11), (11, .iload_n 1, 1, 12), (12, .aload_n 0, 1, 13), (13, .getfield 45, 3, 16), (16, .sipush 312, 3, 19), (19, .iaload, 1, 20), (20, .if_icmp .lt 23, 3, 23), (23, .lload_n 3, 1, 24), (24, .lload_n 3, 1, 25), (25, .aload_n 0, 1, 26), (26, .getfield 45, 3, 29), (29, .sipush 313, 3, 32), (32, .iaload, 1, 33), (33, .i2l, 1, 34), (34, .lmul, 1, 35), (35, .ldc2_w 220, 3, 38), (38, .ldiv, 1, 39), (39, .lsub, 1, 40), (40, .goto 4, 3, 43), (43, .lload_n 3, 1, 44), (44, .lreturn, 1, 45)] : List (Nat × Instr × Nat × Nat)), mDq M7_premiumBy q := by decide +kernel
set_option maxRecDepth 100000 in
theorem d7_premiumBehind : ∀ q ∈ ([(0, .iload_n 1, 1, 1), (1, .i2l, 1, 2), (2, .aload_n 0, 1, 3), (3, .getfield 45, 3, 6), (6, .sipush 308, 3, 9), (9, .iaload, 1, 10), (10, .i2l, 1, 11), (11, .lmul, 1, 12), (12, .lstore 4, 2, 14), (14, .iconst 0, 1, 15), (15, .istore 6, 2, 17), (17, .iload 6, 2, 19), (19, .iload_n 3, 1, 20), (20, .if_icmp .ge 53, 3, 23), (23, .iload_n 2, 1, 24), (24, .iconst (-1), 1, 25), (25, .if_icmp .ne 13, 3, 28), (28, .aload_n 0, 1, 29), (29, .getfield 57, 3, 32), (32, .iload 6, 2, 34), (34, .iaload, 1, 35), (35, .goto 12, 3, 38), (38, .aload_n 0, 1, 39), (39, .getfield 45, 3, 42), (42, .iload_n 2, 1, 43), (43, .iload 6, 2, 45), (45, .iadd, 1, 46), (46, .iaload, 1, 47), (47, .istore 7, 2, 49), (49, .lload 4, 2, 51), (51, .aload_n 0, 1, 52), (52, .iload 6, 2, 54), (54, .iload 7, 2, 56), (56, .invokevirtual 222, 3, 59), (59, .i2l, 1, 60), (60, .lmul, 1, 61), (61, .ldc2_w 225, 3, 64), (64, .ldiv, 1, 65), (65, .lstore 4, 2, 67), (67, .iinc 6 1, 3, 70), (70, .goto (-53), 3, 73), (73, .lload 4, 2, 75), (75, .lreturn, 1, 76)] : List (Nat × Instr × Nat × Nat)), mDq M7_premiumBehind q := by decide +kernel
set_option maxRecDepth 100000 in
theorem d7_premiumOf : ∀ q ∈ ([(0, .aload_n 0, 1, 1), (1, .aload_n 0, 1, 2), (2, .getfield 45, 3, 5), (5, .bipush 7, 2, 7), (7, .iload_n 1, 1, 8), (8, .imul, 1, 9), (9, .iconst 0, 1, 10), (10, .iadd, 1, 11), (11, .iaload, 1, 12), (12, .bipush 7, 2, 14), (14, .iload_n 1, 1, 15), (15, .imul, 1, 16), (16, .iconst 3, 1, 17), (17, .iadd, 1, 18), (18, .invokevirtual 227, 3, 21), (21, .lreturn, 1, 22)] : List (Nat × Instr × Nat × Nat)), mDq M7_premiumOf q := by decide +kernel
set_option maxRecDepth 100000 in
theorem d7_isOf : ∀ q ∈ ([(0, .aload_n 0, 1, 1), (1, .iload_n 2, 1, 2), (2, .aload_n 0, 1, 3), (3, .getfield 45, 3, 6), (6, .bipush 7, 2, 8), (8, .iload_n 1, 1, 9), (9, .imul, 1, 10), (10, .iconst 3, 1, 11), (11, .iadd, 1, 12), (12, .iload_n 2, 1, 13), (13, .iadd, 1, 14), (14, .iaload, 1, 15), (15, .invokevirtual 210, 3, 18), (18, .aload_n 0, 1, 19), (19, .iload_n 2, 1, 20), (20, .iload_n 3, 1, 21), (21, .invokevirtual 210, 3, 24), (24, .if_icmp .ne 7, 3, 27), (27, .iconst 1, 1, 28), (28, .goto 4, 3, 31), (31, .iconst 0, 1, 32), (32, .ireturn, 1, 33)] : List (Nat × Instr × Nat × Nat)), mDq M7_isOf q := by decide +kernel
set_option maxRecDepth 100000 in
theorem d7_risksOf : ∀ q ∈ ([(0, .iconst 0, 1, 1), (1, .istore_n 3, 1, 2), (2, .iconst 0, 1, 3), (3, .istore 4, 2, 5), (5, .iload 4, 2, 7), (7, .aload_n 0, 1, 8), (8, .invokevirtual 200, 3, 11), (11, .if_icmp .ge 28, 3, 14), (14, .iload_n 3, 1, 15), (15, .aload_n 0, 1, 16), (16, .iload 4, 2, 18), (18, .iload_n 1, 1, 19), (19, .iload_n 2, 1, 20), (20, .invokevirtual 231, 3, 23), (23, .ifCond .eq 7, 3, 26), (26, .iconst 1, 1, 27), (27, .goto 4, 3, 30), (30, .iconst 0, 1, 31), (31, .iadd, 1, 32), (32, .istore_n 3, 1, 33), (33, .iinc 4 1, 3, 36), (36, .goto (-31), 3, 39), (39, .iload_n 3, 1, 40), (40, .ireturn, 1, 41)] : List (Nat × Instr × Nat × Nat)), mDq M7_risksOf q := by decide +kernel
set_option maxRecDepth 100000 in
theorem d7_sumOf : ∀ q ∈ ([(0, .lconst 0, 1, 1), (1, .lstore 4, 2, 3), (3, .iconst 0, 1, 4), (4, .istore 6, 2, 6), (6, .iload 6, 2, 8), (8, .aload_n 0, 1, 9), (9, .invokevirtual 200, 3, 12), (12, .if_icmp .ge 38, 3, 15), (15, .aload_n 0, 1, 16), (16, .iload 6, 2, 18), (18, .iload_n 1, 1, 19), (19, .iload_n 2, 1, 20), (20, .invokevirtual 231, 3, 23), (23, .ifCond .eq 21, 3, 26), (26, .lload 4, 2, 28), (28, .aload_n 0, 1, 29), (29, .getfield 45, 3, 32), (32, .bipush 7, 2, 34), (34, .iload 6, 2, 36), (36, .imul, 1, 37), (37, .iload_n 3, 1, 38), (38, .iadd, 1, 39), (39, .iaload, 1, 40), (40, .i2l, 1, 41), (41, .ladd, 1, 42), (42, .lstore 4, 2, 44), (44, .iinc 6 1, 3, 47), (47, .goto (-41), 3, 50), (50, .lload 4, 2, 52), (52, .lreturn, 1, 53)] : List (Nat × Instr × Nat × Nat)), mDq M7_sumOf q := by decide +kernel
set_option maxRecDepth 100000 in
theorem d7_premiumsOf : ∀ q ∈ ([(0, .lconst 0, 1, 1), (1, .lstore_n 3, 1, 2), (2, .iconst 0, 1, 3), (3, .istore 5, 2, 5), (5, .iload 5, 2, 7), (7, .aload_n 0, 1, 8), (8, .invokevirtual 200, 3, 11), (11, .if_icmp .ge 29, 3, 14), (14, .aload_n 0, 1, 15), (15, .iload 5, 2, 17), (17, .iload_n 1, 1, 18), (18, .iload_n 2, 1, 19), (19, .invokevirtual 231, 3, 22), (22, .ifCond .eq 12, 3, 25), (25, .lload_n 3, 1, 26), (26, .aload_n 0, 1, 27), (27, .iload 5, 2, 29), (29, .invokevirtual 235, 3, 32), (32, .ladd, 1, 33), (33, .lstore_n 3, 1, 34), (34, .iinc 5 1, 3, 37), (37, .goto (-32), 3, 40), (40, .lload_n 3, 1, 41), (41, .lreturn, 1, 42)] : List (Nat × Instr × Nat × Nat)), mDq M7_premiumsOf q := by decide +kernel
set_option maxRecDepth 100000 in
theorem d7_without : ∀ q ∈ ([(0, .lload_n 0, 1, 1), (1, .lconst 0, 1, 2), (2, .lcmp, 1, 3), (3, .ifCond .ge 8, 3, 6), (6, .lload_n 0, 1, 7), (7, .lneg, 1, 8), (8, .goto 4, 3, 11), (11, .lload_n 0, 1, 12), (12, .lreturn, 1, 13)] : List (Nat × Instr × Nat × Nat)), mDq M7_without q := by decide +kernel
set_option maxRecDepth 100000 in
theorem d7_balances : ∀ q ∈ ([(0, .aload_n 0, 1, 1), (1, .iload_n 1, 1, 2), (2, .iload_n 2, 1, 3), (3, .invokevirtual 239, 3, 6), (6, .ifCond .ne 5, 3, 9), (9, .iconst 1, 1, 10), (10, .ireturn, 1, 11), (11, .aload_n 0, 1, 12), (12, .iload_n 1, 1, 13), (13, .iload_n 2, 1, 14), (14, .iconst 1, 1, 15), (15, .invokevirtual 242, 3, 18), (18, .lstore_n 3, 1, 19), (19, .aload_n 0, 1, 20), (20, .iload_n 1, 1, 21), (21, .iload_n 2, 1, 22), (22, .invokevirtual 245, 3, 25), (25, .lstore 5, 2, 27), (27, .lload_n 3, 1, 28), (28, .lload 5, 2, 30), (30, .lsub, 1, 31), (31, .invokestatic 248, 3, 34), (34, .ldc2_w 220, 3, 37), (37, .lmul, 1, 38), (38, .aload_n 0, 1, 39), (39, .getfield 13, 3, 42), (42, .iconst 1, 1, 43), (43, .iaload, 1, 44), (44, .i2l, 1, 45), (45, .lload_n 3, 1, 46), (46, .lmul, 1, 47), (47, .lcmp, 1, 48), (48, .ifCond .gt 5, 3, 51), (51, .iconst 1, 1, 52), (52, .ireturn, 1, 53), (53, .aload_n 0, 1, 54), (54, .iload_n 1, 1, 55), (55, .iload_n 2, 1, 56), (56, .invokevirtual 222, 3, 59), (59, .istore 7, 2, 61), (61, .iload 7, 2, 63), (63, .aload_n 0, 1, 64), (64, .getfield 26, 3, 67), (67, .iload_n 1, 1, 68), (68, .iaload, 1, 69), (69, .if_icmp .ne 10, 3, 72), (72, .lload 5, 2, 74), (74, .lload_n 3, 1, 75), (75, .lcmp, 1, 76), (76, .ifCond .gt 21, 3, 79), (79, .iload 7, 2, 81), (81, .aload_n 0, 1, 82), (82, .getfield 29, 3, 85), (85, .iload_n 1, 1, 86), (86, .iaload, 1, 87), (87, .if_icmp .ne 14, 3, 90), (90, .lload 5, 2, 92), (92, .lload_n 3, 1, 93), (93, .lcmp, 1, 94), (94, .ifCond .ge 7, 3, 97), (97, .iconst 1, 1, 98), (98, .goto 4, 3, 101), (101, .iconst 0, 1, 102), (102, .ireturn, 1, 103)] : List (Nat × Instr × Nat × Nat)), mDq M7_balances q := by decide +kernel
set_option maxRecDepth 100000 in
theorem d7_unbalancedNow : ∀ q ∈ ([(0, .iconst 0, 1, 1), (1, .istore_n 1, 1, 2), (2, .iconst 0, 1, 3), (3, .istore_n 2, 1, 4), (4, .iload_n 2, 1, 5), (5, .aload_n 0, 1, 6), (6, .invokevirtual 193, 3, 9), (9, .if_icmp .ge 54, 3, 12), (12, .iconst 0, 1, 13), (13, .istore_n 3, 1, 14), (14, .iload_n 3, 1, 15), (15, .aload_n 0, 1, 16), (16, .getfield 23, 3, 19), (19, .iload_n 2, 1, 20), (20, .iaload, 1, 21), (21, .if_icmp .ge 36, 3, 24), (24, .iload_n 1, 1, 25), (25, .aload_n 0, 1, 26), (26, .iload_n 2, 1, 27), (27, .iload_n 3, 1, 28), (28, .invokevirtual 210, 3, 31), (31, .iload_n 3, 1, 32), (32, .if_icmp .ne 16, 3, 35), (35, .aload_n 0, 1, 36), (36, .iload_n 2, 1, 37), (37, .iload_n 3, 1, 38), (38, .invokevirtual 252, 3, 41), (41, .ifCond .ne 7, 3, 44), (44, .iconst 1, 1, 45), (45, .goto 4, 3, 48), (48, .iconst 0, 1, 49), (49, .iadd, 1, 50), (50, .istore_n 1, 1, 51), (51, .iinc 3 1, 3, 54), (54, .goto (-40), 3, 57), (57, .iinc 2 1, 3, 60), (60, .goto (-56), 3, 63), (63, .iload_n 1, 1, 64), (64, .ireturn, 1, 65)] : List (Nat × Instr × Nat × Nat)), mDq M7_unbalancedNow q := by decide +kernel
set_option maxRecDepth 100000 in
theorem d7_misfit : ∀ q ∈ ([(0, .lconst 0, 1, 1), (1, .lstore_n 1, 1, 2), (2, .iconst 0, 1, 3), (3, .istore_n 3, 1, 4), (4, .iload_n 3, 1, 5), (5, .aload_n 0, 1, 6), (6, .invokevirtual 193, 3, 9), (9, .if_icmp .ge 63, 3, 12), (12, .iconst 0, 1, 13), (13, .istore 4, 2, 15), (15, .iload 4, 2, 17), (17, .aload_n 0, 1, 18), (18, .getfield 23, 3, 21), (21, .iload_n 3, 1, 22), (22, .iaload, 1, 23), (23, .if_icmp .ge 43, 3, 26), (26, .aload_n 0, 1, 27), (27, .iload_n 3, 1, 28), (28, .iload 4, 2, 30), (30, .invokevirtual 210, 3, 33), (33, .iload 4, 2, 35), (35, .if_icmp .ne 25, 3, 38), (38, .lload_n 1, 1, 39), (39, .aload_n 0, 1, 40), (40, .iload_n 3, 1, 41), (41, .iload 4, 2, 43), (43, .iconst 1, 1, 44), (44, .invokevirtual 242, 3, 47), (47, .aload_n 0, 1, 48), (48, .iload_n 3, 1, 49), (49, .iload 4, 2, 51), (51, .invokevirtual 245, 3, 54), (54, .lsub, 1, 55), (55, .invokestatic 248, 3, 58), (58, .ladd, 1, 59), (59, .lstore_n 1, 1, 60), (60, .iinc 4 1, 3, 63), (63, .goto (-48), 3, 66), (66, .iinc 3 1, 3, 69), (69, .goto (-65), 3, 72), (72, .lload_n 1, 1, 73), (73, .lreturn, 1, 74)] : List (Nat × Instr × Nat × Nat)), mDq M7_misfit q := by decide +kernel
set_option maxRecDepth 100000 in
theorem d7_trusted : ∀ q ∈ ([(0, .aload_n 0, 1, 1), (1, .getfield 45, 3, 4), (4, .sipush 311, 3, 7), (7, .iaload, 1, 8), (8, .ifCond .ne 6, 3, 11), (11, .iload 4, 2, 13), (13, .ireturn, 1, 14), (14, .aload_n 0, 1, 15), (15, .iload_n 1, 1, 16), (16, .iload_n 2, 1, 17), (17, .iconst 0, 1, 18), (18, .invokevirtual 242, 3, 21), (21, .lstore 5, 2, 23), (23, .iload 4, 2, 25), (25, .iload_n 3, 1, 26), (26, .isub, 1, 27), (27, .i2l, 1, 28), (28, .lload 5, 2, 30), (30, .lmul, 1, 31), (31, .lstore 7, 2, 33), (33, .lload 5, 2, 35), (35, .aload_n 0, 1, 36), (36, .getfield 45, 3, 39), (39, .sipush 311, 3, 42), (42, .iaload, 1, 43), (43, .i2l, 1, 44), (44, .ladd, 1, 45), (45, .lstore 9, 2, 47), (47, .lload 7, 2, 49), (49, .lload 9, 2, 51), (51, .ldiv, 1, 52), (52, .lstore 11, 2, 54), (54, .iload_n 3, 1, 55), (55, .i2l, 1, 56), (56, .lload 11, 2, 58), (58, .lload 9, 2, 60), (60, .lmul, 1, 61), (61, .lload 7, 2, 63), (63, .lcmp, 1, 64), (64, .ifCond .le 10, 3, 67), (67, .lload 11, 2, 69), (69, .lconst 1, 1, 70), (70, .lsub, 1, 71), (71, .goto 5, 3, 74), (74, .lload 11, 2, 76), (76, .ladd, 1, 77), (77, .l2i, 1, 78), (78, .ireturn, 1, 79)] : List (Nat × Instr × Nat × Nat)), mDq M7_trusted q := by decide +kernel
set_option maxRecDepth 100000 in
theorem d7_turns : ∀ q ∈ ([(0, .iconst 0, 1, 1), (1, .istore_n 2, 1, 2), (2, .iconst 0, 1, 3), (3, .istore_n 3, 1, 4), (4, .iload_n 3, 1, 5), (5, .aload_n 0, 1, 6), (6, .getfield 23, 3, 9), (9, .iload_n 1, 1, 10), (10, .iaload, 1, 11), (11, .if_icmp .ge 122, 3, 14), (14, .aload_n 0, 1, 15), (15, .iload_n 1, 1, 16), (16, .iload_n 3, 1, 17), (17, .invokevirtual 210, 3, 20), (20, .iload_n 3, 1, 21), (21, .if_icmp .ne 106, 3, 24), (24, .aload_n 0, 1, 25), (25, .iload_n 1, 1, 26), (26, .iload_n 3, 1, 27), (27, .invokevirtual 239, 3, 30), (30, .ifCond .ne 6, 3, 33), (33, .goto 94, 3, 36), (36, .aload_n 0, 1, 37), (37, .iload_n 1, 1, 38), (38, .iload_n 3, 1, 39), (39, .invokevirtual 245, 3, 42), (42, .lstore 4, 2, 44), (44, .lload 4, 2, 46), (46, .lconst 0, 1, 47), (47, .lcmp, 1, 48), (48, .ifCond .ne 6, 3, 51), (51, .goto 76, 3, 54), (54, .aload_n 0, 1, 55), (55, .iload_n 1, 1, 56), (56, .iload_n 3, 1, 57), (57, .invokevirtual 222, 3, 60), (60, .istore 6, 2, 62), (62, .aload_n 0, 1, 63), (63, .iload_n 1, 1, 64), (64, .iload_n 3, 1, 65), (65, .iload 6, 2, 67), (67, .iload 6, 2, 69), (69, .i2l, 1, 70), (70, .aload_n 0, 1, 71), (71, .iload_n 1, 1, 72), (72, .iload_n 3, 1, 73), (73, .iconst 1, 1, 74), (74, .invokevirtual 242, 3, 77), (77, .lmul, 1, 78), (78, .lload 4, 2, 80), (80, .ldiv, 1, 81), (81, .aload_n 0, 1, 82), (82, .getfield 26, 3, 85), (85, .iload_n 1, 1, 86), (86, .iaload, 1, 87), (87, .i2l, 1, 88), (88, .aload_n 0, 1, 89), (89, .getfield 29, 3, 92), (92, .iload_n 1, 1, 93), (93, .iaload, 1, 94), (94, .i2l, 1, 95), (95, .invokestatic 255, 3, 98), (98, .l2i, 1, 99), (99, .invokevirtual 259, 3, 102), (102, .istore 7, 2, 104), (104, .aload_n 0, 1, 105), (105, .iload_n 1, 1, 106), (106, .iload_n 3, 1, 107), (107, .iload 7, 2, 109), (109, .invokevirtual 263, 3, 112), (112, .iload_n 2, 1, 113), (113, .iload 7, 2, 115), (115, .iload 6, 2, 117), (117, .if_icmp .ne 7, 3, 120), (120, .iconst 0, 1, 121), (121, .goto 4, 3, 124), (124, .iconst 1, 1, 125), (125, .iadd, 1, 126), (126, .istore_n 2, 1, 127), (127, .iinc 3 1, 3, 130), (130, .goto (-126), 3, 133), (133, .iload_n 2, 1, 134), (134, .ireturn, 1, 135)] : List (Nat × Instr × Nat × Nat)), mDq M7_turns q := by decide +kernel
set_option maxRecDepth 100000 in
theorem d7_rounds : ∀ q ∈ ([(0, .iconst 0, 1, 1), (1, .istore_n 3, 1, 2), (2, .iload_n 3, 1, 3), (3, .iload_n 1, 1, 4), (4, .if_icmp .ge 40, 3, 7), (7, .iconst 0, 1, 8), (8, .istore 4, 2, 10), (10, .iload 4, 2, 12), (12, .aload_n 0, 1, 13), (13, .invokevirtual 193, 3, 16), (16, .if_icmp .ge 22, 3, 19), (19, .iload 4, 2, 21), (21, .iload_n 2, 1, 22), (22, .if_icmp .eq 10, 3, 25), (25, .aload_n 0, 1, 26), (26, .iload 4, 2, 28), (28, .invokevirtual 266, 3, 31), (31, .pop, 1, 32), (32, .iinc 4 1, 3, 35), (35, .goto (-25), 3, 38), (38, .iinc 3 1, 3, 41), (41, .goto (-39), 3, 44), (44, .return_, 1, 45)] : List (Nat × Instr × Nat × Nat)), mDq M7_rounds q := by decide +kernel
set_option maxRecDepth 100000 in
theorem d7_paid : ∀ q ∈ ([(0, .lconst 0, 1, 1), (1, .lstore_n 1, 1, 2), (2, .iconst 0, 1, 3), (3, .istore_n 3, 1, 4), (4, .iload_n 3, 1, 5), (5, .aload_n 0, 1, 6), (6, .invokevirtual 200, 3, 9), (9, .if_icmp .ge 17, 3, 12), (12, .lload_n 1, 1, 13), (13, .aload_n 0, 1, 14), (14, .iload_n 3, 1, 15), (15, .invokevirtual 235, 3, 18), (18, .ladd, 1, 19), (19, .lstore_n 1, 1, 20), (20, .iinc 3 1, 3, 23), (23, .goto (-19), 3, 26), (26, .lload_n 1, 1, 27), (27, .lreturn, 1, 28)] : List (Nat × Instr × Nat × Nat)), mDq M7_paid q := by decide +kernel
set_option maxRecDepth 100000 in
theorem d7_allOf : ∀ q ∈ ([(0, .lconst 0, 1, 1), (1, .lstore_n 2, 1, 2), (2, .iconst 0, 1, 3), (3, .istore 4, 2, 5), (5, .iload 4, 2, 7), (7, .aload_n 0, 1, 8), (8, .invokevirtual 200, 3, 11), (11, .if_icmp .ge 25, 3, 14), (14, .lload_n 2, 1, 15), (15, .aload_n 0, 1, 16), (16, .getfield 45, 3, 19), (19, .bipush 7, 2, 21), (21, .iload 4, 2, 23), (23, .imul, 1, 24), (24, .iload_n 1, 1, 25), (25, .iadd, 1, 26), (26, .iaload, 1, 27), (27, .i2l, 1, 28), (28, .ladd, 1, 29), (29, .lstore_n 2, 1, 30), (30, .iinc 4 1, 3, 33), (33, .goto (-28), 3, 36), (36, .lload_n 2, 1, 37), (37, .lreturn, 1, 38)] : List (Nat × Instr × Nat × Nat)), mDq M7_allOf q := by decide +kernel
set_option maxRecDepth 100000 in
theorem d7_rebases : ∀ q ∈ ([(0, .aload_n 0, 1, 1), (1, .invokevirtual 269, 3, 4), (4, .lstore_n 1, 1, 5), (5, .lload_n 1, 1, 6), (6, .lconst 0, 1, 7), (7, .lcmp, 1, 8), (8, .ifCond .le 36, 3, 11), (11, .aload_n 0, 1, 12), (12, .getfield 45, 3, 15), (15, .sipush 308, 3, 18), (18, .aload_n 0, 1, 19), (19, .getfield 45, 3, 22), (22, .sipush 308, 3, 25), (25, .iaload, 1, 26), (26, .i2l, 1, 27), (27, .aload_n 0, 1, 28), (28, .iconst 1, 1, 29), (29, .invokevirtual 273, 3, 32), (32, .lmul, 1, 33), (33, .lload_n 1, 1, 34), (34, .ldiv, 1, 35), (35, .lconst 1, 1, 36), (36, .ldc2_w 276, 3, 39), (39, .invokestatic 255, 3, 42), (42, .l2i, 1, 43), (43, .iastore, 1, 44), (44, .return_, 1, 45)] : List (Nat × Instr × Nat × Nat)), mDq M7_rebases q := by decide +kernel
set_option maxRecDepth 100000 in
theorem d7_levels : ∀ q ∈ ([(0, .aload_n 0, 1, 1), (1, .invokevirtual 200, 3, 4), (4, .ifCond .ne 4, 3, 7), (7, .return_, 1, 8), (8, .iconst 0, 1, 9), (9, .istore_n 1, 1, 10), (10, .iload_n 1, 1, 11), (11, .aload_n 0, 1, 12), (12, .invokevirtual 193, 3, 15), (15, .if_icmp .ge 170, 3, 18), (18, .iconst 0, 1, 19), (19, .istore_n 2, 1, 20), (20, .iconst 1, 1, 21), (21, .istore_n 3, 1, 22), (22, .iload_n 3, 1, 23), (23, .aload_n 0, 1, 24), (24, .getfield 23, 3, 27), (27, .iload_n 1, 1, 28), (28, .iaload, 1, 29), (29, .if_icmp .ge 39, 3, 32), (32, .aload_n 0, 1, 33), (33, .iload_n 1, 1, 34), (34, .iload_n 3, 1, 35), (35, .invokevirtual 210, 3, 38), (38, .iload_n 3, 1, 39), (39, .if_icmp .ne 23, 3, 42), (42, .aload_n 0, 1, 43), (43, .iload_n 1, 1, 44), (44, .iload_n 3, 1, 45), (45, .iconst 0, 1, 46), (46, .invokevirtual 242, 3, 49), (49, .aload_n 0, 1, 50), (50, .iload_n 1, 1, 51), (51, .iload_n 2, 1, 52), (52, .iconst 0, 1, 53), (53, .invokevirtual 242, 3, 56), (56, .lcmp, 1, 57), (57, .ifCond .le 5, 3, 60), (60, .iload_n 3, 1, 61), (61, .istore_n 2, 1, 62), (62, .iinc 3 1, 3, 65), (65, .goto (-43), 3, 68), (68, .aload_n 0, 1, 69), (69, .iload_n 1, 1, 70), (70, .iload_n 2, 1, 71), (71, .invokevirtual 222, 3, 74), (74, .istore_n 3, 1, 75), (75, .aload_n 0, 1, 76), (76, .getfield 45, 3, 79), (79, .sipush 308, 3, 82), (82, .aload_n 0, 1, 83), (83, .getfield 45, 3, 86), (86, .sipush 308, 3, 89), (89, .iaload, 1, 90), (90, .i2l, 1, 91), (91, .iload_n 3, 1, 92), (92, .i2l, 1, 93), (93, .lmul, 1, 94), (94, .ldc2_w 225, 3, 97), (97, .ldiv, 1, 98), (98, .lconst 1, 1, 99), (99, .ldc2_w 276, 3, 102), (102, .invokestatic 255, 3, 105), (105, .l2i, 1, 106), (106, .iastore, 1, 107), (107, .iconst 0, 1, 108), (108, .istore 4, 2, 110), (110, .iload 4, 2, 112), (112, .aload_n 0, 1, 113), (113, .getfield 23, 3, 116), (116, .iload_n 1, 1, 117), (117, .iaload, 1, 118), (118, .if_icmp .ge 61, 3, 121), (121, .aload_n 0, 1, 122), (122, .iload_n 1, 1, 123), (123, .iload 4, 2, 125), (125, .invokevirtual 210, 3, 128), (128, .iload 4, 2, 130), (130, .if_icmp .ne 43, 3, 133), (133, .aload_n 0, 1, 134), (134, .iload_n 1, 1, 135), (135, .iload 4, 2, 137), (137, .aload_n 0, 1, 138), (138, .iload_n 1, 1, 139), (139, .iload 4, 2, 141), (141, .invokevirtual 222, 3, 144), (144, .i2l, 1, 145), (145, .ldc2_w 225, 3, 148), (148, .lmul, 1, 149), (149, .iload_n 3, 1, 150), (150, .i2l, 1, 151), (151, .ldiv, 1, 152), (152, .aload_n 0, 1, 153), (153, .getfield 26, 3, 156), (156, .iload_n 1, 1, 157), (157, .iaload, 1, 158), (158, .i2l, 1, 159), (159, .aload_n 0, 1, 160), (160, .getfield 29, 3, 163), (163, .iload_n 1, 1, 164), (164, .iaload, 1, 165), (165, .i2l, 1, 166), (166, .invokestatic 255, 3, 169), (169, .l2i, 1, 170), (170, .invokevirtual 263, 3, 173), (173, .iinc 4 1, 3, 176), (176, .goto (-66), 3, 179), (179, .iinc 1 1, 3, 182), (182, .goto (-172), 3, 185), (185, .return_, 1, 186)] : List (Nat × Instr × Nat × Nat)), mDq M7_levels q := by decide +kernel
set_option maxRecDepth 100000 in
theorem d7_turn : ∀ q ∈ ([(0, .aload_n 0, 1, 1), (1, .iconst 0, 1, 2), (2, .putfield 69, 3, 5), (5, .aload_n 0, 1, 6), (6, .iload_n 1, 1, 7), (7, .invokevirtual 203, 3, 10), (10, .ifCond .ne 5, 3, 13), (13, .iconst (-1), 1, 14), (14, .ireturn, 1, 15), (15, .aload_n 0, 1, 16), (16, .invokevirtual 278, 3, 19), (19, .aload_n 0, 1, 20), (20, .iload_n 1, 1, 21), (21, .invokevirtual 266, 3, 24), (24, .ireturn, 1, 25)] : List (Nat × Instr × Nat × Nat)), mDq M7_turn q := by decide +kernel
set_option maxRecDepth 100000 in
theorem d7_round : ∀ q ∈ ([(0, .aload_n 0, 1, 1), (1, .iconst 0, 1, 2), (2, .putfield 69, 3, 5), (5, .iload_n 1, 1, 6), (6, .iconst 1, 1, 7), (7, .if_icmp .lt 9, 3, 10), (10, .iload_n 1, 1, 11), (11, .bipush 50, 2, 13), (13, .if_icmp .le 5, 3, 16), (16, .iconst (-1), 1, 17), (17, .ireturn, 1, 18), (18, .aload_n 0, 1, 19), (19, .invokevirtual 278, 3, 22), (22, .aload_n 0, 1, 23), (23, .iload_n 1, 1, 24), (24, .iconst (-1), 1, 25), (25, .invokevirtual 281, 3, 28), (28, .aload_n 0, 1, 29), (29, .invokevirtual 284, 3, 32), (32, .ireturn, 1, 33)] : List (Nat × Instr × Nat × Nat)), mDq M7_round q := by decide +kernel
set_option maxRecDepth 100000 in
theorem d7_rebase : ∀ q ∈ ([(0, .aload_n 0, 1, 1), (1, .iconst 0, 1, 2), (2, .putfield 69, 3, 5), (5, .aload_n 0, 1, 6), (6, .invokevirtual 278, 3, 9), (9, .aload_n 0, 1, 10), (10, .invokevirtual 287, 3, 13), (13, .aload_n 0, 1, 14), (14, .getfield 45, 3, 17), (17, .sipush 308, 3, 20), (20, .iaload, 1, 21), (21, .ireturn, 1, 22)] : List (Nat × Instr × Nat × Nat)), mDq M7_rebase q := by decide +kernel
set_option maxRecDepth 100000 in
theorem d7_level : ∀ q ∈ ([(0, .aload_n 0, 1, 1), (1, .iconst 0, 1, 2), (2, .putfield 69, 3, 5), (5, .aload_n 0, 1, 6), (6, .invokevirtual 278, 3, 9), (9, .aload_n 0, 1, 10), (10, .invokevirtual 290, 3, 13), (13, .aload_n 0, 1, 14), (14, .getfield 45, 3, 17), (17, .sipush 308, 3, 20), (20, .iaload, 1, 21), (21, .ireturn, 1, 22)] : List (Nat × Instr × Nat × Nat)), mDq M7_level q := by decide +kernel
set_option maxRecDepth 100000 in
theorem d7_relativity : ∀ q ∈ ([(0, .aload_n 0, 1, 1), (1, .iconst 0, 1, 2), (2, .putfield 69, 3, 5), (5, .aload_n 0, 1, 6), (6, .iload_n 1, 1, 7), (7, .iload_n 2, 1, 8), (8, .invokevirtual 292, 3, 11), (11, .ifCond .eq 23, 3, 14), (14, .iload_n 3, 1, 15), (15, .aload_n 0, 1, 16), (16, .getfield 26, 3, 19), (19, .iload_n 1, 1, 20), (20, .iaload, 1, 21), (21, .if_icmp .lt 13, 3, 24), (24, .iload_n 3, 1, 25), (25, .aload_n 0, 1, 26), (26, .getfield 29, 3, 29), (29, .iload_n 1, 1, 30), (30, .iaload, 1, 31), (31, .if_icmp .le 5, 3, 34), (34, .iconst (-1), 1, 35), (35, .ireturn, 1, 36), (36, .aload_n 0, 1, 37), (37, .iload_n 1, 1, 38), (38, .iload_n 2, 1, 39), (39, .invokevirtual 222, 3, 42), (42, .istore 4, 2, 44), (44, .aload_n 0, 1, 45), (45, .invokevirtual 278, 3, 48), (48, .aload_n 0, 1, 49), (49, .iload_n 1, 1, 50), (50, .iload_n 2, 1, 51), (51, .iload_n 3, 1, 52), (52, .invokevirtual 263, 3, 55), (55, .iload 4, 2, 57), (57, .ireturn, 1, 58)] : List (Nat × Instr × Nat × Nat)), mDq M7_relativity q := by decide +kernel
set_option maxRecDepth 100000 in
theorem d7_claims : ∀ q ∈ ([(0, .aload_n 0, 1, 1), (1, .iconst 0, 1, 2), (2, .putfield 69, 3, 5), (5, .aload_n 0, 1, 6), (6, .iload_n 1, 1, 7), (7, .invokevirtual 295, 3, 10), (10, .ifCond .eq 13, 3, 13), (13, .iload_n 2, 1, 14), (14, .ifCond .lt 9, 3, 17), (17, .iload_n 2, 1, 18), (18, .ldc 107, 2, 20), (20, .if_icmp .le 5, 3, 23), (23, .iconst (-1), 1, 24), (24, .ireturn, 1, 25), (25, .aload_n 0, 1, 26), (26, .getfield 45, 3, 29), (29, .bipush 7, 2, 31), (31, .iload_n 1, 1, 32), (32, .imul, 1, 33), (33, .iconst 1, 1, 34), (34, .iadd, 1, 35), (35, .iaload, 1, 36), (36, .istore_n 3, 1, 37), (37, .aload_n 0, 1, 38), (38, .invokevirtual 278, 3, 41), (41, .aload_n 0, 1, 42), (42, .getfield 45, 3, 45), (45, .bipush 7, 2, 47), (47, .iload_n 1, 1, 48), (48, .imul, 1, 49), (49, .iconst 1, 1, 50), (50, .iadd, 1, 51), (51, .iload_n 2, 1, 52), (52, .iastore, 1, 53), (53, .iload_n 3, 1, 54), (54, .ireturn, 1, 55)] : List (Nat × Instr × Nat × Nat)), mDq M7_claims q := by decide +kernel
set_option maxRecDepth 100000 in
theorem d7_laysLevels : ∀ q ∈ ([(0, .iload_n 1, 1, 1), (1, .istore_n 2, 1, 2), (2, .iload_n 1, 1, 3), (3, .ifCond .lt 7, 3, 6), (6, .iconst 1, 1, 7), (7, .goto 4, 3, 10), (10, .iconst 0, 1, 11), (11, .istore_n 3, 1, 12), (12, .iconst 0, 1, 13), (13, .istore 4, 2, 15), (15, .iload 4, 2, 17), (17, .iconst 4, 1, 18), (18, .if_icmp .ge 74, 3, 21), (21, .aload_n 0, 1, 22), (22, .getfield 57, 3, 25), (25, .iload 4, 2, 27), (27, .iload_n 2, 1, 28), (28, .bipush 8, 2, 30), (30, .irem, 1, 31), (31, .iastore, 1, 32), (32, .iload_n 3, 1, 33), (33, .ifCond .eq 46, 3, 36), (36, .iload 4, 2, 38), (38, .aload_n 0, 1, 39), (39, .invokevirtual 193, 3, 42), (42, .if_icmp .ge 23, 3, 45), (45, .aload_n 0, 1, 46), (46, .getfield 57, 3, 49), (49, .iload 4, 2, 51), (51, .iaload, 1, 52), (52, .aload_n 0, 1, 53), (53, .getfield 23, 3, 56), (56, .iload 4, 2, 58), (58, .iaload, 1, 59), (59, .if_icmp .ge 20, 3, 62), (62, .goto 13, 3, 65), (65, .aload_n 0, 1, 66), (66, .getfield 57, 3, 69), (69, .iload 4, 2, 71), (71, .iaload, 1, 72), (72, .ifCond .ne 7, 3, 75), (75, .iconst 1, 1, 76), (76, .goto 4, 3, 79), (79, .iconst 0, 1, 80), (80, .istore_n 3, 1, 81), (81, .iload_n 2, 1, 82), (82, .bipush 8, 2, 84), (84, .idiv, 1, 85), (85, .istore_n 2, 1, 86), (86, .iinc 4 1, 3, 89), (89, .goto (-74), 3, 92), (92, .iload_n 3, 1, 93), (93, .ifCond .eq 11, 3, 96), (96, .iload_n 2, 1, 97), (97, .ifCond .ne 7, 3, 100), (100, .iconst 1, 1, 101), (101, .goto 4, 3, 104), (104, .iconst 0, 1, 105), (105, .ireturn, 1, 106)] : List (Nat × Instr × Nat × Nat)), mDq M7_laysLevels q := by decide +kernel
set_option maxRecDepth 100000 in
theorem d7_risk : ∀ q ∈ ([(0, .aload_n 0, 1, 1), (1, .iconst 0, 1, 2), (2, .putfield 69, 3, 5), (5, .iload_n 1, 1, 6), (6, .iconst 1, 1, 7), (7, .if_icmp .lt 39, 3, 10), (10, .iload_n 1, 1, 11), (11, .bipush 99, 2, 13), (13, .if_icmp .gt 33, 3, 16), (16, .iload_n 2, 1, 17), (17, .ifCond .lt 29, 3, 20), (20, .iload_n 2, 1, 21), (21, .ldc 107, 2, 23), (23, .if_icmp .gt 23, 3, 26), (26, .iload_n 3, 1, 27), (27, .iconst 1, 1, 28), (28, .if_icmp .lt 18, 3, 31), (31, .iload_n 3, 1, 32), (32, .ldc 107, 2, 34), (34, .if_icmp .gt 12, 3, 37), (37, .aload_n 0, 1, 38), (38, .iload 4, 2, 40), (40, .invokevirtual 298, 3, 43), (43, .ifCond .ne 5, 3, 46), (46, .iconst (-1), 1, 47), (47, .ireturn, 1, 48), (48, .aload_n 0, 1, 49), (49, .invokevirtual 200, 3, 52), (52, .bipush 40, 2, 54), (54, .if_icmp .ne 6, 3, 57), (57, .bipush (-2), 2, 59), (59, .ireturn, 1, 60), (60, .aload_n 0, 1, 61), (61, .invokevirtual 278, 3, 64), (64, .bipush 7, 2, 66), (66, .aload_n 0, 1, 67), (67, .invokevirtual 200, 3, 70), (70, .imul, 1, 71), (71, .istore 5, 2, 73), (73, .aload_n 0, 1, 74), (74, .getfield 45, 3, 77), (77, .iload 5, 2, 79), (79, .iconst 0, 1, 80), (80, .iadd, 1, 81), (81, .iload_n 1, 1, 82), (82, .iastore, 1, 83), (83, .aload_n 0, 1, 84), (84, .getfield 45, 3, 87), (87, .iload 5, 2, 89), (89, .iconst 1, 1, 90), (90, .iadd, 1, 91), (91, .iload_n 2, 1, 92), (92, .iastore, 1, 93), (93, .aload_n 0, 1, 94), (94, .getfield 45, 3, 97), (97, .iload 5, 2, 99), (99, .iconst 2, 1, 100), (100, .iadd, 1, 101), (101, .iload_n 3, 1, 102), (102, .iastore, 1, 103), (103, .iconst 0, 1, 104), (104, .istore 6, 2, 106), (106, .iload 6, 2, 108), (108, .iconst 4, 1, 109), (109, .if_icmp .ge 28, 3, 112), (112, .aload_n 0, 1, 113), (113, .getfield 45, 3, 116), (116, .iload 5, 2, 118), (118, .iconst 3, 1, 119), (119, .iadd, 1, 120), (120, .iload 6, 2, 122), (122, .iadd, 1, 123), (123, .aload_n 0, 1, 124), (124, .getfield 57, 3, 127), (127, .iload 6, 2, 129), (129, .iaload, 1, 130), (130, .iastore, 1, 131), (131, .iinc 6 1, 3, 134), (134, .goto (-28), 3, 137), (137, .aload_n 0, 1, 138), (138, .getfield 45, 3, 141), (141, .sipush 310, 3, 144), (144, .dup2, 1, 145), (145, .iaload, 1, 146), (146, .iconst 1, 1, 147), (147, .iadd, 1, 148), (148, .iastore, 1, 149), (149, .aload_n 0, 1, 150), (150, .invokevirtual 200, 3, 153), (153, .iconst 1, 1, 154), (154, .isub, 1, 155), (155, .ireturn, 1, 156)] : List (Nat × Instr × Nat × Nat)), mDq M7_risk q := by decide +kernel
set_option maxRecDepth 100000 in
theorem d7_goes : ∀ q ∈ ([(0, .aload_n 0, 1, 1), (1, .getfield 45, 3, 4), (4, .sipush 310, 3, 7), (7, .dup2, 1, 8), (8, .iaload, 1, 9), (9, .iconst 1, 1, 10), (10, .isub, 1, 11), (11, .iastore, 1, 12), (12, .bipush 7, 2, 14), (14, .iload_n 1, 1, 15), (15, .imul, 1, 16), (16, .istore_n 2, 1, 17), (17, .iload_n 2, 1, 18), (18, .bipush 7, 2, 20), (20, .aload_n 0, 1, 21), (21, .invokevirtual 200, 3, 24), (24, .imul, 1, 25), (25, .if_icmp .ge 24, 3, 28), (28, .aload_n 0, 1, 29), (29, .getfield 45, 3, 32), (32, .iload_n 2, 1, 33), (33, .aload_n 0, 1, 34), (34, .getfield 45, 3, 37), (37, .iload_n 2, 1, 38), (38, .bipush 7, 2, 40), (40, .iadd, 1, 41), (41, .iaload, 1, 42), (42, .iastore, 1, 43), (43, .iinc 2 1, 3, 46), (46, .goto (-29), 3, 49), (49, .iconst 0, 1, 50), (50, .istore_n 2, 1, 51), (51, .iload_n 2, 1, 52), (52, .bipush 7, 2, 54), (54, .if_icmp .ge 24, 3, 57), (57, .aload_n 0, 1, 58), (58, .getfield 45, 3, 61), (61, .bipush 7, 2, 63), (63, .aload_n 0, 1, 64), (64, .invokevirtual 200, 3, 67), (67, .imul, 1, 68), (68, .iload_n 2, 1, 69), (69, .iadd, 1, 70), (70, .iconst 0, 1, 71), (71, .iastore, 1, 72), (72, .iinc 2 1, 3, 75), (75, .goto (-24), 3, 78), (78, .return_, 1, 79)] : List (Nat × Instr × Nat × Nat)), mDq M7_goes q := by decide +kernel
set_option maxRecDepth 100000 in
theorem d7_drop : ∀ q ∈ ([(0, .aload_n 0, 1, 1), (1, .iconst 0, 1, 2), (2, .putfield 69, 3, 5), (5, .aload_n 0, 1, 6), (6, .iload_n 1, 1, 7), (7, .invokevirtual 295, 3, 10), (10, .ifCond .ne 5, 3, 13), (13, .iconst (-1), 1, 14), (14, .ireturn, 1, 15), (15, .aload_n 0, 1, 16), (16, .invokevirtual 278, 3, 19), (19, .aload_n 0, 1, 20), (20, .iload_n 1, 1, 21), (21, .invokevirtual 301, 3, 24), (24, .aload_n 0, 1, 25), (25, .invokevirtual 200, 3, 28), (28, .ireturn, 1, 29)] : List (Nat × Instr × Nat × Nat)), mDq M7_drop q := by decide +kernel
set_option maxRecDepth 100000 in
theorem d7_joins : ∀ q ∈ ([(0, .aload_n 0, 1, 1), (1, .iload_n 1, 1, 2), (2, .iload_n 2, 1, 3), (3, .invokevirtual 222, 3, 6), (6, .istore_n 3, 1, 7), (7, .aload_n 0, 1, 8), (8, .getfield 45, 3, 11), (11, .sipush 304, 3, 14), (14, .iload_n 1, 1, 15), (15, .iadd, 1, 16), (16, .dup2, 1, 17), (17, .iaload, 1, 18), (18, .iconst 1, 1, 19), (19, .iload_n 2, 1, 20), (20, .ishl, 1, 21), (21, .ixor, 1, 22), (22, .iastore, 1, 23), (23, .aload_n 0, 1, 24), (24, .iload_n 1, 1, 25), (25, .iload_n 2, 1, 26), (26, .invokevirtual 206, 3, 29), (29, .ifCond .eq 10, 3, 32), (32, .aload_n 0, 1, 33), (33, .iload_n 1, 1, 34), (34, .iload_n 2, 1, 35), (35, .iload_n 3, 1, 36), (36, .invokevirtual 263, 3, 39), (39, .return_, 1, 40)] : List (Nat × Instr × Nat × Nat)), mDq M7_joins q := by decide +kernel
set_option maxRecDepth 100000 in
theorem d7_join : ∀ q ∈ ([(0, .aload_n 0, 1, 1), (1, .iconst 0, 1, 2), (2, .putfield 69, 3, 5), (5, .aload_n 0, 1, 6), (6, .iload_n 1, 1, 7), (7, .iload_n 2, 1, 8), (8, .invokevirtual 292, 3, 11), (11, .ifCond .eq 15, 3, 14), (14, .iload_n 2, 1, 15), (15, .aload_n 0, 1, 16), (16, .getfield 23, 3, 19), (19, .iload_n 1, 1, 20), (20, .iaload, 1, 21), (21, .iconst 1, 1, 22), (22, .isub, 1, 23), (23, .if_icmp .ne 5, 3, 26), (26, .iconst (-1), 1, 27), (27, .ireturn, 1, 28), (28, .aload_n 0, 1, 29), (29, .invokevirtual 278, 3, 32), (32, .aload_n 0, 1, 33), (33, .iload_n 1, 1, 34), (34, .iload_n 2, 1, 35), (35, .invokevirtual 304, 3, 38), (38, .aload_n 0, 1, 39), (39, .iload_n 1, 1, 40), (40, .iload_n 2, 1, 41), (41, .invokevirtual 206, 3, 44), (44, .ifCond .eq 7, 3, 47), (47, .iconst 1, 1, 48), (48, .goto 4, 3, 51), (51, .iconst 0, 1, 52), (52, .ireturn, 1, 53)] : List (Nat × Instr × Nat × Nat)), mDq M7_join q := by decide +kernel
set_option maxRecDepth 100000 in
theorem d7_cap : ∀ q ∈ ([(0, .aload_n 0, 1, 1), (1, .iconst 0, 1, 2), (2, .putfield 69, 3, 5), (5, .iload_n 1, 1, 6), (6, .ifCond .lt 10, 3, 9), (9, .iload_n 1, 1, 10), (10, .sipush 999, 3, 13), (13, .if_icmp .le 5, 3, 16), (16, .iconst (-1), 1, 17), (17, .ireturn, 1, 18), (18, .aload_n 0, 1, 19), (19, .getfield 45, 3, 22), (22, .sipush 309, 3, 25), (25, .iaload, 1, 26), (26, .istore_n 2, 1, 27), (27, .aload_n 0, 1, 28), (28, .invokevirtual 278, 3, 31), (31, .aload_n 0, 1, 32), (32, .getfield 45, 3, 35), (35, .sipush 309, 3, 38), (38, .iload_n 1, 1, 39), (39, .iastore, 1, 40), (40, .iload_n 2, 1, 41), (41, .ireturn, 1, 42)] : List (Nat × Instr × Nat × Nat)), mDq M7_cap q := by decide +kernel
set_option maxRecDepth 100000 in
theorem d7_trust : ∀ q ∈ ([(0, .aload_n 0, 1, 1), (1, .iconst 0, 1, 2), (2, .putfield 69, 3, 5), (5, .iload_n 1, 1, 6), (6, .ifCond .lt 10, 3, 9), (9, .iload_n 1, 1, 10), (10, .sipush 999, 3, 13), (13, .if_icmp .le 5, 3, 16), (16, .iconst (-1), 1, 17), (17, .ireturn, 1, 18), (18, .aload_n 0, 1, 19), (19, .getfield 45, 3, 22), (22, .sipush 311, 3, 25), (25, .iaload, 1, 26), (26, .istore_n 2, 1, 27), (27, .aload_n 0, 1, 28), (28, .invokevirtual 278, 3, 31), (31, .aload_n 0, 1, 32), (32, .getfield 45, 3, 35), (35, .sipush 311, 3, 38), (38, .iload_n 1, 1, 39), (39, .iastore, 1, 40), (40, .iload_n 2, 1, 41), (41, .ireturn, 1, 42)] : List (Nat × Instr × Nat × Nat)), mDq M7_trust q := by decide +kernel
set_option maxRecDepth 100000 in
theorem d7_fleet : ∀ q ∈ ([(0, .aload_n 0, 1, 1), (1, .iconst 0, 1, 2), (2, .putfield 69, 3, 5), (5, .iload_n 1, 1, 6), (6, .iconst 1, 1, 7), (7, .if_icmp .lt 20, 3, 10), (10, .iload_n 1, 1, 11), (11, .bipush 99, 2, 13), (13, .if_icmp .gt 14, 3, 16), (16, .iload_n 2, 1, 17), (17, .ifCond .lt 10, 3, 20), (20, .iload_n 2, 1, 21), (21, .sipush 500, 3, 24), (24, .if_icmp .le 5, 3, 27), (27, .iconst (-1), 1, 28), (28, .ireturn, 1, 29), (29, .aload_n 0, 1, 30), (30, .invokevirtual 278, 3, 33), (33, .aload_n 0, 1, 34), (34, .getfield 45, 3, 37), (37, .sipush 312, 3, 40), (40, .iload_n 1, 1, 41), (41, .iastore, 1, 42), (42, .aload_n 0, 1, 43), (43, .getfield 45, 3, 46), (46, .sipush 313, 3, 49), (49, .iload_n 2, 1, 50), (50, .iastore, 1, 51), (51, .iconst 0, 1, 52), (52, .istore_n 3, 1, 53), (53, .iconst 0, 1, 54), (54, .istore 4, 2, 56), (56, .iload 4, 2, 58), (58, .aload_n 0, 1, 59), (59, .invokevirtual 200, 3, 62), (62, .if_icmp .ge 33, 3, 65), (65, .iload_n 3, 1, 66), (66, .aload_n 0, 1, 67), (67, .getfield 45, 3, 70), (70, .bipush 7, 2, 72), (72, .iload 4, 2, 74), (74, .imul, 1, 75), (75, .iconst 0, 1, 76), (76, .iadd, 1, 77), (77, .iaload, 1, 78), (78, .iload_n 1, 1, 79), (79, .if_icmp .lt 7, 3, 82), (82, .iconst 1, 1, 83), (83, .goto 4, 3, 86), (86, .iconst 0, 1, 87), (87, .iadd, 1, 88), (88, .istore_n 3, 1, 89), (89, .iinc 4 1, 3, 92), (92, .goto (-36), 3, 95), (95, .iload_n 3, 1, 96), (96, .ireturn, 1, 97)] : List (Nat × Instr × Nat × Nat)), mDq M7_fleet q := by decide +kernel
set_option maxRecDepth 100000 in
theorem d7_classesOf : ∀ q ∈ ([(0, .iconst 0, 1, 1), (1, .istore_n 2, 1, 2), (2, .iconst 0, 1, 3), (3, .istore_n 3, 1, 4), (4, .iload_n 3, 1, 5), (5, .aload_n 0, 1, 6), (6, .getfield 23, 3, 9), (9, .iload_n 1, 1, 10), (10, .iaload, 1, 11), (11, .if_icmp .ge 27, 3, 14), (14, .iload_n 2, 1, 15), (15, .aload_n 0, 1, 16), (16, .iload_n 1, 1, 17), (17, .iload_n 3, 1, 18), (18, .invokevirtual 210, 3, 21), (21, .iload_n 3, 1, 22), (22, .if_icmp .ne 7, 3, 25), (25, .iconst 1, 1, 26), (26, .goto 4, 3, 29), (29, .iconst 0, 1, 30), (30, .iadd, 1, 31), (31, .istore_n 2, 1, 32), (32, .iinc 3 1, 3, 35), (35, .goto (-31), 3, 38), (38, .iload_n 2, 1, 39), (39, .ireturn, 1, 40)] : List (Nat × Instr × Nat × Nat)), mDq M7_classesOf q := by decide +kernel
set_option maxRecDepth 100000 in
theorem d7_farthestOff : ∀ q ∈ ([(0, .bipush (-2), 2, 2), (2, .istore_n 2, 1, 3), (3, .ldc2_w 307, 3, 6), (6, .lstore_n 3, 1, 7), (7, .iconst 0, 1, 8), (8, .istore 5, 2, 10), (10, .iload 5, 2, 12), (12, .aload_n 0, 1, 13), (13, .getfield 23, 3, 16), (16, .iload_n 1, 1, 17), (17, .iaload, 1, 18), (18, .if_icmp .ge 71, 3, 21), (21, .aload_n 0, 1, 22), (22, .iload_n 1, 1, 23), (23, .iload 5, 2, 25), (25, .invokevirtual 210, 3, 28), (28, .iload 5, 2, 30), (30, .if_icmp .ne 53, 3, 33), (33, .aload_n 0, 1, 34), (34, .iload_n 1, 1, 35), (35, .iload 5, 2, 37), (37, .invokevirtual 239, 3, 40), (40, .ifCond .ne 6, 3, 43), (43, .goto 40, 3, 46), (46, .aload_n 0, 1, 47), (47, .iload_n 1, 1, 48), (48, .iload 5, 2, 50), (50, .iconst 1, 1, 51), (51, .invokevirtual 242, 3, 54), (54, .aload_n 0, 1, 55), (55, .iload_n 1, 1, 56), (56, .iload 5, 2, 58), (58, .invokevirtual 245, 3, 61), (61, .lsub, 1, 62), (62, .invokestatic 248, 3, 65), (65, .lstore 6, 2, 67), (67, .lload 6, 2, 69), (69, .lload_n 3, 1, 70), (70, .lcmp, 1, 71), (71, .ifCond .gt 6, 3, 74), (74, .goto 9, 3, 77), (77, .iload 5, 2, 79), (79, .istore_n 2, 1, 80), (80, .lload 6, 2, 82), (82, .lstore_n 3, 1, 83), (83, .iinc 5 1, 3, 86), (86, .goto (-76), 3, 89), (89, .iload_n 2, 1, 90), (90, .ireturn, 1, 91)] : List (Nat × Instr × Nat × Nat)), mDq M7_farthestOff q := by decide +kernel
set_option maxRecDepth 100000 in
theorem d7_factor : ∀ q ∈ ([(0, .aload_n 0, 1, 1), (1, .iconst 0, 1, 2), (2, .putfield 69, 3, 5), (5, .aload_n 0, 1, 6), (6, .iload_n 1, 1, 7), (7, .invokevirtual 203, 3, 10), (10, .ifCond .ne 10, 3, 13), (13, .aload_n 0, 1, 14), (14, .iconst 1, 1, 15), (15, .putfield 69, 3, 18), (18, .iconst 0, 1, 19), (19, .ireturn, 1, 20), (20, .iload_n 2, 1, 21), (21, .tableswitch 68 0 4 #[35, 42, 49, 56, 62], 35, 56), (56, .aload_n 0, 1, 57), (57, .getfield 23, 3, 60), (60, .iload_n 1, 1, 61), (61, .iaload, 1, 62), (62, .ireturn, 1, 63), (63, .aload_n 0, 1, 64), (64, .getfield 26, 3, 67), (67, .iload_n 1, 1, 68), (68, .iaload, 1, 69), (69, .ireturn, 1, 70), (70, .aload_n 0, 1, 71), (71, .getfield 29, 3, 74), (74, .iload_n 1, 1, 75), (75, .iaload, 1, 76), (76, .ireturn, 1, 77), (77, .aload_n 0, 1, 78), (78, .iload_n 1, 1, 79), (79, .invokevirtual 309, 3, 82), (82, .ireturn, 1, 83), (83, .aload_n 0, 1, 84), (84, .iload_n 1, 1, 85), (85, .invokevirtual 312, 3, 88), (88, .ireturn, 1, 89), (89, .aload_n 0, 1, 90), (90, .iconst 2, 1, 91), (91, .putfield 69, 3, 94), (94, .iconst 0, 1, 95), (95, .ireturn, 1, 96)] : List (Nat × Instr × Nat × Nat)), mDq M7_factor q := by decide +kernel
set_option maxRecDepth 100000 in
theorem d7_margin : ∀ q ∈ ([(0, .aload_n 0, 1, 1), (1, .iconst 0, 1, 2), (2, .putfield 69, 3, 5), (5, .aload_n 0, 1, 6), (6, .iload_n 1, 1, 7), (7, .iload_n 2, 1, 8), (8, .invokevirtual 292, 3, 11), (11, .ifCond .ne 7, 3, 14), (14, .ldc2_w 315, 3, 17), (17, .lreturn, 1, 18), (18, .iload_n 3, 1, 19), (19, .tableswitch 115 0 7 #[45, 53, 61, 69, 77, 84, 92, 100], 45, 64), (64, .aload_n 0, 1, 65), (65, .iload_n 1, 1, 66), (66, .iload_n 2, 1, 67), (67, .invokevirtual 222, 3, 70), (70, .i2l, 1, 71), (71, .lreturn, 1, 72), (72, .aload_n 0, 1, 73), (73, .iload_n 1, 1, 74), (74, .iload_n 2, 1, 75), (75, .invokevirtual 210, 3, 78), (78, .i2l, 1, 79), (79, .lreturn, 1, 80), (80, .aload_n 0, 1, 81), (81, .iload_n 1, 1, 82), (82, .iload_n 2, 1, 83), (83, .invokevirtual 213, 3, 86), (86, .i2l, 1, 87), (87, .lreturn, 1, 88), (88, .aload_n 0, 1, 89), (89, .iload_n 1, 1, 90), (90, .iload_n 2, 1, 91), (91, .iconst 1, 1, 92), (92, .invokevirtual 242, 3, 95), (95, .lreturn, 1, 96), (96, .aload_n 0, 1, 97), (97, .iload_n 1, 1, 98), (98, .iload_n 2, 1, 99), (99, .invokevirtual 245, 3, 102), (102, .lreturn, 1, 103), (103, .aload_n 0, 1, 104), (104, .iload_n 1, 1, 105), (105, .iload_n 2, 1, 106), (106, .iconst 0, 1, 107), (107, .invokevirtual 242, 3, 110), (110, .lreturn, 1, 111), (111, .aload_n 0, 1, 112), (112, .iload_n 1, 1, 113), (113, .iload_n 2, 1, 114), (114, .invokevirtual 239, 3, 117), (117, .i2l, 1, 118), (118, .lreturn, 1, 119), (119, .aload_n 0, 1, 120), (120, .iload_n 1, 1, 121), (121, .iload_n 2, 1, 122), (122, .invokevirtual 252, 3, 125), (125, .ifCond .eq 7, 3, 128), (128, .lconst 1, 1, 129), (129, .goto 4, 3, 132), (132, .lconst 0, 1, 133), (133, .lreturn, 1, 134), (134, .ldc2_w 315, 3, 137), (137, .lreturn, 1, 138)] : List (Nat × Instr × Nat × Nat)), mDq M7_margin q := by decide +kernel
set_option maxRecDepth 100000 in
theorem d7_step : ∀ q ∈ ([(0, .aload_n 0, 1, 1), (1, .iconst 0, 1, 2), (2, .putfield 69, 3, 5), (5, .aload_n 0, 1, 6), (6, .iload_n 1, 1, 7), (7, .invokevirtual 295, 3, 10), (10, .ifCond .eq 40, 3, 13), (13, .iload_n 2, 1, 14), (14, .ifCond .lt 36, 3, 17), (17, .iload_n 2, 1, 18), (18, .aload_n 0, 1, 19), (19, .invokevirtual 193, 3, 22), (22, .if_icmp .gt 28, 3, 25), (25, .aload_n 0, 1, 26), (26, .aload_n 0, 1, 27), (27, .getfield 45, 3, 30), (30, .bipush 7, 2, 32), (32, .iload_n 1, 1, 33), (33, .imul, 1, 34), (34, .iconst 0, 1, 35), (35, .iadd, 1, 36), (36, .iaload, 1, 37), (37, .bipush 7, 2, 39), (39, .iload_n 1, 1, 40), (40, .imul, 1, 41), (41, .iconst 3, 1, 42), (42, .iadd, 1, 43), (43, .iload_n 2, 1, 44), (44, .invokevirtual 216, 3, 47), (47, .goto 6, 3, 50), (50, .ldc2_w 307, 3, 53), (53, .lreturn, 1, 54)] : List (Nat × Instr × Nat × Nat)), mDq M7_step q := by decide +kernel
set_option maxRecDepth 100000 in
theorem d7_swing : ∀ q ∈ ([(0, .aload_n 0, 1, 1), (1, .iconst 0, 1, 2), (2, .putfield 69, 3, 5), (5, .aload_n 0, 1, 6), (6, .iload_n 1, 1, 7), (7, .invokevirtual 295, 3, 10), (10, .ifCond .eq 20, 3, 13), (13, .aload_n 0, 1, 14), (14, .iload_n 2, 1, 15), (15, .invokevirtual 203, 3, 18), (18, .ifCond .eq 12, 3, 21), (21, .iload_n 3, 1, 22), (22, .ifCond .lt 8, 3, 25), (25, .iload_n 3, 1, 26), (26, .iconst 1, 1, 27), (27, .if_icmp .le 5, 3, 30), (30, .iconst (-1), 1, 31), (31, .ireturn, 1, 32), (32, .bipush 7, 2, 34), (34, .iload_n 1, 1, 35), (35, .imul, 1, 36), (36, .istore 4, 2, 38), (38, .aload_n 0, 1, 39), (39, .getfield 45, 3, 42), (42, .iload 4, 2, 44), (44, .iconst 3, 1, 45), (45, .iadd, 1, 46), (46, .iload_n 2, 1, 47), (47, .iadd, 1, 48), (48, .iaload, 1, 49), (49, .istore 5, 2, 51), (51, .iconst (-1), 1, 52), (52, .istore 6, 2, 54), (54, .lconst 0, 1, 55), (55, .lstore 7, 2, 57), (57, .iconst 0, 1, 58), (58, .istore 9, 2, 60), (60, .iload 9, 2, 62), (62, .aload_n 0, 1, 63), (63, .getfield 23, 3, 66), (66, .iload_n 2, 1, 67), (67, .iaload, 1, 68), (68, .if_icmp .ge 69, 3, 71), (71, .aload_n 0, 1, 72), (72, .getfield 45, 3, 75), (75, .iload 4, 2, 77), (77, .iconst 3, 1, 78), (78, .iadd, 1, 79), (79, .iload_n 2, 1, 80), (80, .iadd, 1, 81), (81, .iload 9, 2, 83), (83, .iastore, 1, 84), (84, .aload_n 0, 1, 85), (85, .iload_n 1, 1, 86), (86, .invokevirtual 235, 3, 89), (89, .lstore 10, 2, 91), (91, .iload 6, 2, 93), (93, .iconst (-1), 1, 94), (94, .if_icmp .eq 29, 3, 97), (97, .iload_n 3, 1, 98), (98, .ifCond .ne 14, 3, 101), (101, .lload 10, 2, 103), (103, .lload 7, 2, 105), (105, .lcmp, 1, 106), (106, .ifCond .gt 17, 3, 109), (109, .goto 22, 3, 112), (112, .lload 10, 2, 114), (114, .lload 7, 2, 116), (116, .lcmp, 1, 117), (117, .ifCond .lt 6, 3, 120), (120, .goto 11, 3, 123), (123, .iload 9, 2, 125), (125, .istore 6, 2, 127), (127, .lload 10, 2, 129), (129, .lstore 7, 2, 131), (131, .iinc 9 1, 3, 134), (134, .goto (-74), 3, 137), (137, .aload_n 0, 1, 138), (138, .getfield 45, 3, 141), (141, .iload 4, 2, 143), (143, .iconst 3, 1, 144), (144, .iadd, 1, 145), (145, .iload_n 2, 1, 146), (146, .iadd, 1, 147), (147, .iload 5, 2, 149), (149, .iastore, 1, 150), (150, .iload 6, 2, 152), (152, .ireturn, 1, 153)] : List (Nat × Instr × Nat × Nat)), mDq M7_swing q := by decide +kernel
set_option maxRecDepth 100000 in
theorem d7_ratio : ∀ q ∈ ([(0, .aload_n 0, 1, 1), (1, .iconst 0, 1, 2), (2, .putfield 69, 3, 5), (5, .aload_n 0, 1, 6), (6, .iload_n 1, 1, 7), (7, .iload_n 2, 1, 8), (8, .invokevirtual 292, 3, 11), (11, .ifCond .ne 7, 3, 14), (14, .ldc2_w 307, 3, 17), (17, .lreturn, 1, 18), (18, .aload_n 0, 1, 19), (19, .iload_n 1, 1, 20), (20, .iload_n 2, 1, 21), (21, .invokevirtual 245, 3, 24), (24, .lstore_n 3, 1, 25), (25, .lload_n 3, 1, 26), (26, .lconst 0, 1, 27), (27, .lcmp, 1, 28), (28, .ifCond .ne 9, 3, 31), (31, .ldc2_w 317, 3, 34), (34, .goto 16, 3, 37), (37, .aload_n 0, 1, 38), (38, .iload_n 1, 1, 39), (39, .iload_n 2, 1, 40), (40, .iconst 1, 1, 41), (41, .invokevirtual 242, 3, 44), (44, .ldc2_w 220, 3, 47), (47, .lmul, 1, 48), (48, .lload_n 3, 1, 49), (49, .ldiv, 1, 50), (50, .lreturn, 1, 51)] : List (Nat × Instr × Nat × Nat)), mDq M7_ratio q := by decide +kernel
set_option maxRecDepth 100000 in
theorem d7_share : ∀ q ∈ ([(0, .aload_n 0, 1, 1), (1, .iconst 0, 1, 2), (2, .putfield 69, 3, 5), (5, .aload_n 0, 1, 6), (6, .iload_n 1, 1, 7), (7, .iload_n 2, 1, 8), (8, .invokevirtual 292, 3, 11), (11, .ifCond .ne 5, 3, 14), (14, .iconst (-1), 1, 15), (15, .ireturn, 1, 16), (16, .aload_n 0, 1, 17), (17, .invokevirtual 269, 3, 20), (20, .lstore_n 3, 1, 21), (21, .lload_n 3, 1, 22), (22, .lconst 0, 1, 23), (23, .lcmp, 1, 24), (24, .ifCond .ne 8, 3, 27), (27, .bipush (-2), 2, 29), (29, .goto 16, 3, 32), (32, .aload_n 0, 1, 33), (33, .iload_n 1, 1, 34), (34, .iload_n 2, 1, 35), (35, .invokevirtual 245, 3, 38), (38, .ldc2_w 220, 3, 41), (41, .lmul, 1, 42), (42, .lload_n 3, 1, 43), (43, .ldiv, 1, 44), (44, .l2i, 1, 45), (45, .ireturn, 1, 46)] : List (Nat × Instr × Nat × Nat)), mDq M7_share q := by decide +kernel
set_option maxRecDepth 100000 in
theorem d7_atEnd : ∀ q ∈ ([(0, .aload_n 0, 1, 1), (1, .iconst 0, 1, 2), (2, .putfield 69, 3, 5), (5, .aload_n 0, 1, 6), (6, .iload_n 1, 1, 7), (7, .invokevirtual 203, 3, 10), (10, .ifCond .eq 12, 3, 13), (13, .iload_n 2, 1, 14), (14, .ifCond .lt 8, 3, 17), (17, .iload_n 2, 1, 18), (18, .iconst 1, 1, 19), (19, .if_icmp .le 5, 3, 22), (22, .iconst (-1), 1, 23), (23, .ireturn, 1, 24), (24, .iconst 0, 1, 25), (25, .istore_n 3, 1, 26), (26, .iconst 0, 1, 27), (27, .istore 4, 2, 29), (29, .iload 4, 2, 31), (31, .aload_n 0, 1, 32), (32, .getfield 23, 3, 35), (35, .iload_n 1, 1, 36), (36, .iaload, 1, 37), (37, .if_icmp .ge 58, 3, 40), (40, .iload_n 3, 1, 41), (41, .aload_n 0, 1, 42), (42, .iload_n 1, 1, 43), (43, .iload 4, 2, 45), (45, .invokevirtual 210, 3, 48), (48, .iload 4, 2, 50), (50, .if_icmp .ne 36, 3, 53), (53, .aload_n 0, 1, 54), (54, .iload_n 1, 1, 55), (55, .iload 4, 2, 57), (57, .invokevirtual 222, 3, 60), (60, .iload_n 2, 1, 61), (61, .ifCond .ne 12, 3, 64), (64, .aload_n 0, 1, 65), (65, .getfield 26, 3, 68), (68, .iload_n 1, 1, 69), (69, .iaload, 1, 70), (70, .goto 9, 3, 73), (73, .aload_n 0, 1, 74), (74, .getfield 29, 3, 77), (77, .iload_n 1, 1, 78), (78, .iaload, 1, 79), (79, .if_icmp .ne 7, 3, 82), (82, .iconst 1, 1, 83), (83, .goto 4, 3, 86), (86, .iconst 0, 1, 87), (87, .iadd, 1, 88), (88, .istore_n 3, 1, 89), (89, .iinc 4 1, 3, 92), (92, .goto (-63), 3, 95), (95, .iload_n 3, 1, 96), (96, .ireturn, 1, 97)] : List (Nat × Instr × Nat × Nat)), mDq M7_atEnd q := by decide +kernel
set_option maxRecDepth 100000 in
theorem d7_mostOff : ∀ q ∈ ([(0, .aload_n 0, 1, 1), (1, .iconst 0, 1, 2), (2, .putfield 69, 3, 5), (5, .aload_n 0, 1, 6), (6, .getfield 45, 3, 9), (9, .sipush 313, 3, 12), (12, .iaload, 1, 13), (13, .istore_n 1, 1, 14), (14, .aload_n 0, 1, 15), (15, .iconst 1, 1, 16), (16, .invokevirtual 273, 3, 19), (19, .lstore_n 2, 1, 20), (20, .bipush (-2), 2, 22), (22, .istore 4, 2, 24), (24, .sipush 500, 3, 27), (27, .istore 5, 2, 29), (29, .iload 5, 2, 31), (31, .ifCond .lt 39, 3, 34), (34, .iload 4, 2, 36), (36, .bipush (-2), 2, 38), (38, .if_icmp .ne 32, 3, 41), (41, .aload_n 0, 1, 42), (42, .getfield 45, 3, 45), (45, .sipush 313, 3, 48), (48, .iload 5, 2, 50), (50, .iastore, 1, 51), (51, .aload_n 0, 1, 52), (52, .invokevirtual 269, 3, 55), (55, .lload_n 2, 1, 56), (56, .lcmp, 1, 57), (57, .ifCond .lt 7, 3, 60), (60, .iload 5, 2, 62), (62, .istore 4, 2, 64), (64, .iinc 5 (-1), 3, 67), (67, .goto (-38), 3, 70), (70, .aload_n 0, 1, 71), (71, .getfield 45, 3, 74), (74, .sipush 313, 3, 77), (77, .iload_n 1, 1, 78), (78, .iastore, 1, 79), (79, .iload 4, 2, 81), (81, .ireturn, 1, 82)] : List (Nat × Instr × Nat × Nat)), mDq M7_mostOff q := by decide +kernel
set_option maxRecDepth 100000 in
theorem d7_worst : ∀ q ∈ ([(0, .aload_n 0, 1, 1), (1, .iconst 0, 1, 2), (2, .putfield 69, 3, 5), (5, .bipush (-2), 2, 7), (7, .istore_n 1, 1, 8), (8, .ldc2_w 307, 3, 11), (11, .lstore_n 2, 1, 12), (12, .iconst 0, 1, 13), (13, .istore 4, 2, 15), (15, .iload 4, 2, 17), (17, .aload_n 0, 1, 18), (18, .invokevirtual 193, 3, 21), (21, .if_icmp .ge 102, 3, 24), (24, .iconst 0, 1, 25), (25, .istore 5, 2, 27), (27, .iload 5, 2, 29), (29, .aload_n 0, 1, 30), (30, .getfield 23, 3, 33), (33, .iload 4, 2, 35), (35, .iaload, 1, 36), (36, .if_icmp .ge 81, 3, 39), (39, .aload_n 0, 1, 40), (40, .iload 4, 2, 42), (42, .iload 5, 2, 44), (44, .invokevirtual 210, 3, 47), (47, .iload 5, 2, 49), (49, .if_icmp .ne 62, 3, 52), (52, .aload_n 0, 1, 53), (53, .iload 4, 2, 55), (55, .iload 5, 2, 57), (57, .invokevirtual 252, 3, 60), (60, .ifCond .eq 6, 3, 63), (63, .goto 48, 3, 66), (66, .aload_n 0, 1, 67), (67, .iload 4, 2, 69), (69, .iload 5, 2, 71), (71, .iconst 1, 1, 72), (72, .invokevirtual 242, 3, 75), (75, .aload_n 0, 1, 76), (76, .iload 4, 2, 78), (78, .iload 5, 2, 80), (80, .invokevirtual 245, 3, 83), (83, .lsub, 1, 84), (84, .invokestatic 248, 3, 87), (87, .lstore 6, 2, 89), (89, .lload 6, 2, 91), (91, .lload_n 2, 1, 92), (92, .lcmp, 1, 93), (93, .ifCond .gt 6, 3, 96), (96, .goto 15, 3, 99), (99, .bipush 8, 2, 101), (101, .iload 4, 2, 103), (103, .imul, 1, 104), (104, .iload 5, 2, 106), (106, .iadd, 1, 107), (107, .istore_n 1, 1, 108), (108, .lload 6, 2, 110), (110, .lstore_n 2, 1, 111), (111, .iinc 5 1, 3, 114), (114, .goto (-87), 3, 117), (117, .iinc 4 1, 3, 120), (120, .goto (-105), 3, 123), (123, .iload_n 1, 1, 124), (124, .ireturn, 1, 125)] : List (Nat × Instr × Nat × Nat)), mDq M7_worst q := by decide +kernel
set_option maxRecDepth 100000 in
theorem d7_lowerEnd : ∀ q ∈ ([(0, .aload_n 0, 1, 1), (1, .getfield 45, 3, 4), (4, .bipush 7, 2, 6), (6, .iload_n 1, 1, 7), (7, .imul, 1, 8), (8, .iconst 2, 1, 9), (9, .iadd, 1, 10), (10, .iaload, 1, 11), (11, .i2l, 1, 12), (12, .lstore_n 2, 1, 13), (13, .lload_n 2, 1, 14), (14, .lload_n 2, 1, 15), (15, .aload_n 0, 1, 16), (16, .getfield 45, 3, 19), (19, .sipush 309, 3, 22), (22, .iaload, 1, 23), (23, .i2l, 1, 24), (24, .lmul, 1, 25), (25, .ldc2_w 220, 3, 28), (28, .ldiv, 1, 29), (29, .lsub, 1, 30), (30, .lreturn, 1, 31)] : List (Nat × Instr × Nat × Nat)), mDq M7_lowerEnd q := by decide +kernel
set_option maxRecDepth 100000 in
theorem d7_upperEnd : ∀ q ∈ ([(0, .aload_n 0, 1, 1), (1, .getfield 45, 3, 4), (4, .bipush 7, 2, 6), (6, .iload_n 1, 1, 7), (7, .imul, 1, 8), (8, .iconst 2, 1, 9), (9, .iadd, 1, 10), (10, .iaload, 1, 11), (11, .i2l, 1, 12), (12, .lstore_n 2, 1, 13), (13, .lload_n 2, 1, 14), (14, .lload_n 2, 1, 15), (15, .aload_n 0, 1, 16), (16, .getfield 45, 3, 19), (19, .sipush 309, 3, 22), (22, .iaload, 1, 23), (23, .i2l, 1, 24), (24, .lmul, 1, 25), (25, .ldc2_w 220, 3, 28), (28, .ldiv, 1, 29), (29, .ladd, 1, 30), (30, .lreturn, 1, 31)] : List (Nat × Instr × Nat × Nat)), mDq M7_upperEnd q := by decide +kernel
set_option maxRecDepth 100000 in
theorem d7_rawBy : ∀ q ∈ ([(0, .aload_n 0, 1, 1), (1, .iload_n 1, 1, 2), (2, .invokevirtual 235, 3, 5), (5, .iload_n 2, 1, 6), (6, .i2l, 1, 7), (7, .lmul, 1, 8), (8, .ldc2_w 225, 3, 11), (11, .ldiv, 1, 12), (12, .lreturn, 1, 13)] : List (Nat × Instr × Nat × Nat)), mDq M7_rawBy q := by decide +kernel
set_option maxRecDepth 100000 in
theorem d7_cappedBy : ∀ q ∈ ([(0, .aload_n 0, 1, 1), (1, .iload_n 1, 1, 2), (2, .iload_n 2, 1, 3), (3, .invokevirtual 319, 3, 6), (6, .aload_n 0, 1, 7), (7, .iload_n 1, 1, 8), (8, .invokevirtual 322, 3, 11), (11, .aload_n 0, 1, 12), (12, .iload_n 1, 1, 13), (13, .invokevirtual 325, 3, 16), (16, .invokestatic 255, 3, 19), (19, .lreturn, 1, 20)] : List (Nat × Instr × Nat × Nat)), mDq M7_cappedBy q := by decide +kernel
set_option maxRecDepth 100000 in
theorem d7_allCapped : ∀ q ∈ ([(0, .lconst 0, 1, 1), (1, .lstore_n 2, 1, 2), (2, .iconst 0, 1, 3), (3, .istore 4, 2, 5), (5, .iload 4, 2, 7), (7, .aload_n 0, 1, 8), (8, .invokevirtual 200, 3, 11), (11, .if_icmp .ge 19, 3, 14), (14, .lload_n 2, 1, 15), (15, .aload_n 0, 1, 16), (16, .iload 4, 2, 18), (18, .iload_n 1, 1, 19), (19, .invokevirtual 328, 3, 22), (22, .ladd, 1, 23), (23, .lstore_n 2, 1, 24), (24, .iinc 4 1, 3, 27), (27, .goto (-22), 3, 30), (30, .lload_n 2, 1, 31), (31, .lreturn, 1, 32)] : List (Nat × Instr × Nat × Nat)), mDq M7_allCapped q := by decide +kernel
set_option maxRecDepth 100000 in
theorem d7_offBalanceNow : ∀ q ∈ ([(0, .aload_n 0, 1, 1), (1, .iconst 1, 1, 2), (2, .invokevirtual 273, 3, 5), (5, .lstore_n 1, 1, 6), (6, .aload_n 0, 1, 7), (7, .ldc 107, 2, 9), (9, .invokevirtual 331, 3, 12), (12, .lload_n 1, 1, 13), (13, .lcmp, 1, 14), (14, .ifCond .ge 6, 3, 17), (17, .bipush (-2), 2, 19), (19, .ireturn, 1, 20), (20, .iconst (-1), 1, 21), (21, .istore_n 3, 1, 22), (22, .ldc 107, 2, 24), (24, .istore 4, 2, 26), (26, .iload 4, 2, 28), (28, .iload_n 3, 1, 29), (29, .isub, 1, 30), (30, .iconst 1, 1, 31), (31, .if_icmp .le 35, 3, 34), (34, .iload_n 3, 1, 35), (35, .iload 4, 2, 37), (37, .iadd, 1, 38), (38, .iconst 2, 1, 39), (39, .idiv, 1, 40), (40, .istore 5, 2, 42), (42, .aload_n 0, 1, 43), (43, .iload 5, 2, 45), (45, .invokevirtual 331, 3, 48), (48, .lload_n 1, 1, 49), (49, .lcmp, 1, 50), (50, .ifCond .lt 10, 3, 53), (53, .iload 5, 2, 55), (55, .istore 4, 2, 57), (57, .goto 6, 3, 60), (60, .iload 5, 2, 62), (62, .istore_n 3, 1, 63), (63, .goto (-37), 3, 66), (66, .iload 4, 2, 68), (68, .ireturn, 1, 69)] : List (Nat × Instr × Nat × Nat)), mDq M7_offBalanceNow q := by decide +kernel
set_option maxRecDepth 100000 in
theorem d7_byNow : ∀ q ∈ ([(0, .aload_n 0, 1, 1), (1, .invokevirtual 334, 3, 4), (4, .istore_n 1, 1, 5), (5, .iload_n 1, 1, 6), (6, .bipush (-2), 2, 8), (8, .if_icmp .ne 9, 3, 11), (11, .sipush 10000, 3, 14), (14, .goto 4, 3, 17), (17, .iload_n 1, 1, 18), (18, .ireturn, 1, 19)] : List (Nat × Instr × Nat × Nat)), mDq M7_byNow q := by decide +kernel
set_option maxRecDepth 100000 in
theorem d7_changeBy : ∀ q ∈ ([(0, .aload_n 0, 1, 1), (1, .iload_n 1, 1, 2), (2, .iload_n 2, 1, 3), (3, .invokevirtual 328, 3, 6), (6, .aload_n 0, 1, 7), (7, .getfield 45, 3, 10), (10, .bipush 7, 2, 12), (12, .iload_n 1, 1, 13), (13, .imul, 1, 14), (14, .iconst 2, 1, 15), (15, .iadd, 1, 16), (16, .iaload, 1, 17), (17, .i2l, 1, 18), (18, .lsub, 1, 19), (19, .lreturn, 1, 20)] : List (Nat × Instr × Nat × Nat)), mDq M7_changeBy q := by decide +kernel
set_option maxRecDepth 100000 in
theorem d7_of : ∀ q ∈ ([(0, .aload_n 0, 1, 1), (1, .iconst 0, 1, 2), (2, .putfield 69, 3, 5), (5, .aload_n 0, 1, 6), (6, .iload_n 1, 1, 7), (7, .invokevirtual 295, 3, 10), (10, .ifCond .eq 18, 3, 13), (13, .iload_n 2, 1, 14), (14, .ifCond .lt 14, 3, 17), (17, .iload_n 2, 1, 18), (18, .bipush 6, 2, 20), (20, .aload_n 0, 1, 21), (21, .invokevirtual 193, 3, 24), (24, .iadd, 1, 25), (25, .if_icmp .lt 7, 3, 28), (28, .ldc2_w 337, 3, 31), (31, .lreturn, 1, 32), (32, .iload_n 2, 1, 33), (33, .tableswitch 78 0 5 #[39, 39, 39, 52, 58, 68], 39, 72), (72, .aload_n 0, 1, 73), (73, .getfield 45, 3, 76), (76, .bipush 7, 2, 78), (78, .iload_n 1, 1, 79), (79, .imul, 1, 80), (80, .iload_n 2, 1, 81), (81, .iadd, 1, 82), (82, .iaload, 1, 83), (83, .i2l, 1, 84), (84, .lreturn, 1, 85), (85, .aload_n 0, 1, 86), (86, .iload_n 1, 1, 87), (87, .invokevirtual 235, 3, 90), (90, .lreturn, 1, 91), (91, .aload_n 0, 1, 92), (92, .iload_n 1, 1, 93), (93, .aload_n 0, 1, 94), (94, .invokevirtual 339, 3, 97), (97, .invokevirtual 328, 3, 100), (100, .lreturn, 1, 101), (101, .aload_n 0, 1, 102), (102, .iload_n 1, 1, 103), (103, .aload_n 0, 1, 104), (104, .invokevirtual 339, 3, 107), (107, .invokevirtual 342, 3, 110), (110, .lreturn, 1, 111), (111, .aload_n 0, 1, 112), (112, .getfield 45, 3, 115), (115, .bipush 7, 2, 117), (117, .iload_n 1, 1, 118), (118, .imul, 1, 119), (119, .iconst 3, 1, 120), (120, .iadd, 1, 121), (121, .iload_n 2, 1, 122), (122, .iadd, 1, 123), (123, .bipush 6, 2, 125), (125, .isub, 1, 126), (126, .iaload, 1, 127), (127, .i2l, 1, 128), (128, .lreturn, 1, 129)] : List (Nat × Instr × Nat × Nat)), mDq M7_of q := by decide +kernel
set_option maxRecDepth 100000 in
theorem d7_all : ∀ q ∈ ([(0, .aload_n 0, 1, 1), (1, .iconst 0, 1, 2), (2, .putfield 69, 3, 5), (5, .iload_n 1, 1, 6), (6, .tableswitch 75 0 5 #[38, 44, 49, 55, 60, 66], 38, 44), (44, .aload_n 0, 1, 45), (45, .iconst 1, 1, 46), (46, .invokevirtual 273, 3, 49), (49, .lreturn, 1, 50), (50, .aload_n 0, 1, 51), (51, .invokevirtual 269, 3, 54), (54, .lreturn, 1, 55), (55, .aload_n 0, 1, 56), (56, .iconst 2, 1, 57), (57, .invokevirtual 273, 3, 60), (60, .lreturn, 1, 61), (61, .aload_n 0, 1, 62), (62, .invokevirtual 345, 3, 65), (65, .lreturn, 1, 66), (66, .aload_n 0, 1, 67), (67, .iconst 0, 1, 68), (68, .invokevirtual 273, 3, 71), (71, .lreturn, 1, 72), (72, .aload_n 0, 1, 73), (73, .aload_n 0, 1, 74), (74, .invokevirtual 339, 3, 77), (77, .invokevirtual 331, 3, 80), (80, .lreturn, 1, 81), (81, .ldc2_w 307, 3, 84), (84, .lreturn, 1, 85)] : List (Nat × Instr × Nat × Nat)), mDq M7_all q := by decide +kernel
set_option maxRecDepth 100000 in
theorem d7_offBalance : ∀ q ∈ ([(0, .aload_n 0, 1, 1), (1, .iconst 0, 1, 2), (2, .putfield 69, 3, 5), (5, .aload_n 0, 1, 6), (6, .invokevirtual 334, 3, 9), (9, .ireturn, 1, 10)] : List (Nat × Instr × Nat × Nat)), mDq M7_offBalance q := by decide +kernel
set_option maxRecDepth 100000 in
theorem d7_changes : ∀ q ∈ ([(0, .aload_n 0, 1, 1), (1, .iconst 0, 1, 2), (2, .putfield 69, 3, 5), (5, .iload_n 1, 1, 6), (6, .ifCond .lt 8, 3, 9), (9, .iload_n 1, 1, 10), (10, .iconst 3, 1, 11), (11, .if_icmp .le 5, 3, 14), (14, .iconst (-1), 1, 15), (15, .ireturn, 1, 16), (16, .aload_n 0, 1, 17), (17, .invokevirtual 339, 3, 20), (20, .istore_n 2, 1, 21), (21, .iconst 0, 1, 22), (22, .istore_n 3, 1, 23), (23, .iconst 0, 1, 24), (24, .istore 4, 2, 26), (26, .iload 4, 2, 28), (28, .aload_n 0, 1, 29), (29, .invokevirtual 200, 3, 32), (32, .if_icmp .ge 125, 3, 35), (35, .iload_n 1, 1, 36), (36, .ifCond .ne 23, 3, 39), (39, .aload_n 0, 1, 40), (40, .iload 4, 2, 42), (42, .iload_n 2, 1, 43), (43, .invokevirtual 342, 3, 46), (46, .lconst 0, 1, 47), (47, .lcmp, 1, 48), (48, .ifCond .le 7, 3, 51), (51, .iconst 1, 1, 52), (52, .goto 84, 3, 55), (55, .iconst 0, 1, 56), (56, .goto 80, 3, 59), (59, .iload_n 1, 1, 60), (60, .iconst 1, 1, 61), (61, .if_icmp .ne 23, 3, 64), (64, .aload_n 0, 1, 65), (65, .iload 4, 2, 67), (67, .iload_n 2, 1, 68), (68, .invokevirtual 342, 3, 71), (71, .lconst 0, 1, 72), (72, .lcmp, 1, 73), (73, .ifCond .ge 7, 3, 76), (76, .iconst 1, 1, 77), (77, .goto 59, 3, 80), (80, .iconst 0, 1, 81), (81, .goto 55, 3, 84), (84, .iload_n 1, 1, 85), (85, .iconst 2, 1, 86), (86, .if_icmp .ne 28, 3, 89), (89, .aload_n 0, 1, 90), (90, .iload 4, 2, 92), (92, .iload_n 2, 1, 93), (93, .invokevirtual 319, 3, 96), (96, .aload_n 0, 1, 97), (97, .iload 4, 2, 99), (99, .invokevirtual 322, 3, 102), (102, .lcmp, 1, 103), (103, .ifCond .ge 7, 3, 106), (106, .iconst 1, 1, 107), (107, .goto 29, 3, 110), (110, .iconst 0, 1, 111), (111, .goto 25, 3, 114), (114, .aload_n 0, 1, 115), (115, .iload 4, 2, 117), (117, .iload_n 2, 1, 118), (118, .invokevirtual 319, 3, 121), (121, .aload_n 0, 1, 122), (122, .iload 4, 2, 124), (124, .invokevirtual 325, 3, 127), (127, .lcmp, 1, 128), (128, .ifCond .le 7, 3, 131), (131, .iconst 1, 1, 132), (132, .goto 4, 3, 135), (135, .iconst 0, 1, 136), (136, .istore 5, 2, 138), (138, .iload_n 3, 1, 139), (139, .iload 5, 2, 141), (141, .ifCond .eq 7, 3, 144), (144, .iconst 1, 1, 145), (145, .goto 4, 3, 148), (148, .iconst 0, 1, 149), (149, .iadd, 1, 150), (150, .istore_n 3, 1, 151), (151, .iinc 4 1, 3, 154), (154, .goto (-128), 3, 157), (157, .iload_n 3, 1, 158), (158, .ireturn, 1, 159)] : List (Nat × Instr × Nat × Nat)), mDq M7_changes q := by decide +kernel
set_option maxRecDepth 100000 in
theorem d7_hardest : ∀ q ∈ ([(0, .aload_n 0, 1, 1), (1, .iconst 0, 1, 2), (2, .putfield 69, 3, 5), (5, .iload_n 1, 1, 6), (6, .ifCond .lt 8, 3, 9), (9, .iload_n 1, 1, 10), (10, .iconst 1, 1, 11), (11, .if_icmp .le 5, 3, 14), (14, .iconst (-1), 1, 15), (15, .ireturn, 1, 16), (16, .aload_n 0, 1, 17), (17, .invokevirtual 339, 3, 20), (20, .istore_n 2, 1, 21), (21, .bipush (-2), 2, 23), (23, .istore_n 3, 1, 24), (24, .iconst 0, 1, 25), (25, .istore 4, 2, 27), (27, .iload 4, 2, 29), (29, .aload_n 0, 1, 30), (30, .invokevirtual 200, 3, 33), (33, .if_icmp .ge 59, 3, 36), (36, .iload_n 3, 1, 37), (37, .bipush (-2), 2, 39), (39, .if_icmp .eq 44, 3, 42), (42, .iload_n 1, 1, 43), (43, .ifCond .ne 23, 3, 46), (46, .aload_n 0, 1, 47), (47, .iload 4, 2, 49), (49, .iload_n 2, 1, 50), (50, .invokevirtual 342, 3, 53), (53, .aload_n 0, 1, 54), (54, .iload_n 3, 1, 55), (55, .iload_n 2, 1, 56), (56, .invokevirtual 342, 3, 59), (59, .lcmp, 1, 60), (60, .ifCond .le 26, 3, 63), (63, .goto 20, 3, 66), (66, .aload_n 0, 1, 67), (67, .iload 4, 2, 69), (69, .iload_n 2, 1, 70), (70, .invokevirtual 342, 3, 73), (73, .aload_n 0, 1, 74), (74, .iload_n 3, 1, 75), (75, .iload_n 2, 1, 76), (76, .invokevirtual 342, 3, 79), (79, .lcmp, 1, 80), (80, .ifCond .ge 6, 3, 83), (83, .iload 4, 2, 85), (85, .istore_n 3, 1, 86), (86, .iinc 4 1, 3, 89), (89, .goto (-62), 3, 92), (92, .iload_n 3, 1, 93), (93, .ireturn, 1, 94)] : List (Nat × Instr × Nat × Nat)), mDq M7_hardest q := by decide +kernel
set_option maxRecDepth 100000 in
theorem d7_ranked : ∀ q ∈ ([(0, .aload_n 0, 1, 1), (1, .iconst 0, 1, 2), (2, .putfield 69, 3, 5), (5, .iload_n 1, 1, 6), (6, .ifCond .ge 5, 3, 9), (9, .iconst (-1), 1, 10), (10, .ireturn, 1, 11), (11, .aload_n 0, 1, 12), (12, .invokevirtual 339, 3, 15), (15, .istore_n 2, 1, 16), (16, .iconst 0, 1, 17), (17, .istore_n 3, 1, 18), (18, .iload_n 3, 1, 19), (19, .aload_n 0, 1, 20), (20, .invokevirtual 200, 3, 23), (23, .if_icmp .ge 84, 3, 26), (26, .iconst 0, 1, 27), (27, .istore 4, 2, 29), (29, .iconst 0, 1, 30), (30, .istore 5, 2, 32), (32, .iload 5, 2, 34), (34, .aload_n 0, 1, 35), (35, .invokevirtual 200, 3, 38), (38, .if_icmp .ge 55, 3, 41), (41, .aload_n 0, 1, 42), (42, .iload 5, 2, 44), (44, .iload_n 2, 1, 45), (45, .invokevirtual 342, 3, 48), (48, .aload_n 0, 1, 49), (49, .iload_n 3, 1, 50), (50, .iload_n 2, 1, 51), (51, .invokevirtual 342, 3, 54), (54, .lsub, 1, 55), (55, .lstore 6, 2, 57), (57, .iload 4, 2, 59), (59, .lload 6, 2, 61), (61, .lconst 0, 1, 62), (62, .lcmp, 1, 63), (63, .ifCond .lt 16, 3, 66), (66, .lload 6, 2, 68), (68, .lconst 0, 1, 69), (69, .lcmp, 1, 70), (70, .ifCond .ne 13, 3, 73), (73, .iload 5, 2, 75), (75, .iload_n 3, 1, 76), (76, .if_icmp .ge 7, 3, 79), (79, .iconst 1, 1, 80), (80, .goto 4, 3, 83), (83, .iconst 0, 1, 84), (84, .iadd, 1, 85), (85, .istore 4, 2, 87), (87, .iinc 5 1, 3, 90), (90, .goto (-58), 3, 93), (93, .iload 4, 2, 95), (95, .iload_n 1, 1, 96), (96, .if_icmp .ne 5, 3, 99), (99, .iload_n 3, 1, 100), (100, .ireturn, 1, 101), (101, .iinc 3 1, 3, 104), (104, .goto (-86), 3, 107), (107, .bipush (-2), 2, 109), (109, .ireturn, 1, 110)] : List (Nat × Instr × Nat × Nat)), mDq M7_ranked q := by decide +kernel
set_option maxRecDepth 100000 in
theorem d7_goesAside : ∀ q ∈ ([(0, .aload_n 0, 1, 1), (1, .getfield 45, 3, 4), (4, .iconst 0, 1, 5), (5, .aload_n 0, 1, 6), (6, .getfield 48, 3, 9), (9, .iconst 0, 1, 10), (10, .invokestatic 196, 3, 13), (13, .return_, 1, 14)] : List (Nat × Instr × Nat × Nat)), mDq M7_goesAside q := by decide +kernel
set_option maxRecDepth 100000 in
theorem d7_comesBack : ∀ q ∈ ([(0, .aload_n 0, 1, 1), (1, .getfield 48, 3, 4), (4, .iconst 0, 1, 5), (5, .aload_n 0, 1, 6), (6, .getfield 45, 3, 9), (9, .iconst 0, 1, 10), (10, .invokestatic 196, 3, 13), (13, .return_, 1, 14)] : List (Nat × Instr × Nat × Nat)), mDq M7_comesBack q := by decide +kernel
set_option maxRecDepth 100000 in
theorem d7_leastCap : ∀ q ∈ ([(0, .aload_n 0, 1, 1), (1, .iconst 0, 1, 2), (2, .putfield 69, 3, 5), (5, .aload_n 0, 1, 6), (6, .getfield 45, 3, 9), (9, .sipush 309, 3, 12), (12, .iaload, 1, 13), (13, .istore_n 1, 1, 14), (14, .aload_n 0, 1, 15), (15, .iconst 1, 1, 16), (16, .invokevirtual 273, 3, 19), (19, .lstore_n 2, 1, 20), (20, .bipush (-2), 2, 22), (22, .istore 4, 2, 24), (24, .iconst 0, 1, 25), (25, .istore 5, 2, 27), (27, .iload 5, 2, 29), (29, .sipush 999, 3, 32), (32, .if_icmp .gt 41, 3, 35), (35, .iload 4, 2, 37), (37, .bipush (-2), 2, 39), (39, .if_icmp .ne 34, 3, 42), (42, .aload_n 0, 1, 43), (43, .getfield 45, 3, 46), (46, .sipush 309, 3, 49), (49, .iload 5, 2, 51), (51, .iastore, 1, 52), (52, .aload_n 0, 1, 53), (53, .ldc 107, 2, 55), (55, .invokevirtual 331, 3, 58), (58, .lload_n 2, 1, 59), (59, .lcmp, 1, 60), (60, .ifCond .lt 7, 3, 63), (63, .iload 5, 2, 65), (65, .istore 4, 2, 67), (67, .iinc 5 1, 3, 70), (70, .goto (-43), 3, 73), (73, .aload_n 0, 1, 74), (74, .getfield 45, 3, 77), (77, .sipush 309, 3, 80), (80, .iload_n 1, 1, 81), (81, .iastore, 1, 82), (82, .iload 4, 2, 84), (84, .ireturn, 1, 85)] : List (Nat × Instr × Nat × Nat)), mDq M7_leastCap q := by decide +kernel
set_option maxRecDepth 100000 in
theorem d7_fitted : ∀ q ∈ ([(0, .aload_n 0, 1, 1), (1, .iconst 0, 1, 2), (2, .putfield 69, 3, 5), (5, .iload_n 1, 1, 6), (6, .ifCond .lt 9, 3, 9), (9, .iload_n 1, 1, 10), (10, .bipush 100, 2, 12), (12, .if_icmp .le 5, 3, 15), (15, .iconst (-1), 1, 16), (16, .ireturn, 1, 17), (17, .aload_n 0, 1, 18), (18, .invokevirtual 348, 3, 21), (21, .bipush (-2), 2, 23), (23, .istore_n 2, 1, 24), (24, .iconst 0, 1, 25), (25, .istore_n 3, 1, 26), (26, .iload_n 3, 1, 27), (27, .iload_n 1, 1, 28), (28, .if_icmp .gt 33, 3, 31), (31, .iload_n 2, 1, 32), (32, .bipush (-2), 2, 34), (34, .if_icmp .ne 27, 3, 37), (37, .aload_n 0, 1, 38), (38, .invokevirtual 284, 3, 41), (41, .ifCond .ne 8, 3, 44), (44, .iload_n 3, 1, 45), (45, .istore_n 2, 1, 46), (46, .goto 9, 3, 49), (49, .aload_n 0, 1, 50), (50, .iconst 1, 1, 51), (51, .iconst (-1), 1, 52), (52, .invokevirtual 281, 3, 55), (55, .iinc 3 1, 3, 58), (58, .goto (-32), 3, 61), (61, .aload_n 0, 1, 62), (62, .invokevirtual 351, 3, 65), (65, .iload_n 2, 1, 66), (66, .ireturn, 1, 67)] : List (Nat × Instr × Nat × Nat)), mDq M7_fitted q := by decide +kernel
set_option maxRecDepth 100000 in
theorem d7_unbalanced : ∀ q ∈ ([(0, .aload_n 0, 1, 1), (1, .iconst 0, 1, 2), (2, .putfield 69, 3, 5), (5, .aload_n 0, 1, 6), (6, .invokevirtual 284, 3, 9), (9, .ireturn, 1, 10)] : List (Nat × Instr × Nat × Nat)), mDq M7_unbalanced q := by decide +kernel
set_option maxRecDepth 100000 in
theorem d7_isRounds : ∀ q ∈ ([(0, .iload_n 0, 1, 1), (1, .ifCond .lt 13, 3, 4), (4, .iload_n 0, 1, 5), (5, .bipush 50, 2, 7), (7, .if_icmp .gt 7, 3, 10), (10, .iconst 1, 1, 11), (11, .goto 4, 3, 14), (14, .iconst 0, 1, 15), (15, .ireturn, 1, 16)] : List (Nat × Instr × Nat × Nat)), mDq M7_isRounds q := by decide +kernel
set_option maxRecDepth 100000 in
theorem d7_withoutFactor : ∀ q ∈ ([(0, .aload_n 0, 1, 1), (1, .iconst 0, 1, 2), (2, .putfield 69, 3, 5), (5, .aload_n 0, 1, 6), (6, .iload_n 1, 1, 7), (7, .invokevirtual 203, 3, 10), (10, .ifCond .eq 10, 3, 13), (13, .iload_n 2, 1, 14), (14, .invokestatic 354, 3, 17), (17, .ifCond .ne 7, 3, 20), (20, .ldc2_w 307, 3, 23), (23, .lreturn, 1, 24), (24, .aload_n 0, 1, 25), (25, .invokevirtual 348, 3, 28), (28, .iconst 0, 1, 29), (29, .istore_n 3, 1, 30), (30, .iload_n 3, 1, 31), (31, .aload_n 0, 1, 32), (32, .getfield 23, 3, 35), (35, .iload_n 1, 1, 36), (36, .iaload, 1, 37), (37, .if_icmp .ge 27, 3, 40), (40, .aload_n 0, 1, 41), (41, .getfield 45, 3, 44), (44, .sipush 280, 3, 47), (47, .bipush 6, 2, 49), (49, .iload_n 1, 1, 50), (50, .imul, 1, 51), (51, .iadd, 1, 52), (52, .iload_n 3, 1, 53), (53, .iadd, 1, 54), (54, .sipush 10000, 3, 57), (57, .iastore, 1, 58), (58, .iinc 3 1, 3, 61), (61, .goto (-31), 3, 64), (64, .aload_n 0, 1, 65), (65, .iload_n 2, 1, 66), (66, .iload_n 1, 1, 67), (67, .invokevirtual 281, 3, 70), (70, .aload_n 0, 1, 71), (71, .invokevirtual 345, 3, 74), (74, .lstore_n 3, 1, 75), (75, .aload_n 0, 1, 76), (76, .invokevirtual 351, 3, 79), (79, .lload_n 3, 1, 80), (80, .lreturn, 1, 81)] : List (Nat × Instr × Nat × Nat)), mDq M7_withoutFactor q := by decide +kernel
set_option maxRecDepth 100000 in
theorem d7_bestJoin : ∀ q ∈ ([(0, .aload_n 0, 1, 1), (1, .iconst 0, 1, 2), (2, .putfield 69, 3, 5), (5, .aload_n 0, 1, 6), (6, .iload_n 1, 1, 7), (7, .invokevirtual 203, 3, 10), (10, .ifCond .eq 10, 3, 13), (13, .iload_n 2, 1, 14), (14, .invokestatic 354, 3, 17), (17, .ifCond .ne 5, 3, 20), (20, .iconst (-1), 1, 21), (21, .ireturn, 1, 22), (22, .bipush (-2), 2, 24), (24, .istore_n 3, 1, 25), (25, .lconst 0, 1, 26), (26, .lstore 4, 2, 28), (28, .aload_n 0, 1, 29), (29, .invokevirtual 348, 3, 32), (32, .iconst 0, 1, 33), (33, .istore 6, 2, 35), (35, .iload 6, 2, 37), (37, .aload_n 0, 1, 38), (38, .getfield 23, 3, 41), (41, .iload_n 1, 1, 42), (42, .iaload, 1, 43), (43, .iconst 1, 1, 44), (44, .isub, 1, 45), (45, .if_icmp .ge 69, 3, 48), (48, .aload_n 0, 1, 49), (49, .iload_n 1, 1, 50), (50, .iload 6, 2, 52), (52, .invokevirtual 206, 3, 55), (55, .ifCond .eq 6, 3, 58), (58, .goto 50, 3, 61), (61, .aload_n 0, 1, 62), (62, .iload_n 1, 1, 63), (63, .iload 6, 2, 65), (65, .invokevirtual 304, 3, 68), (68, .aload_n 0, 1, 69), (69, .iload_n 2, 1, 70), (70, .iconst (-1), 1, 71), (71, .invokevirtual 281, 3, 74), (74, .aload_n 0, 1, 75), (75, .invokevirtual 345, 3, 78), (78, .lstore 7, 2, 80), (80, .aload_n 0, 1, 81), (81, .invokevirtual 351, 3, 84), (84, .iload_n 3, 1, 85), (85, .bipush (-2), 2, 87), (87, .if_icmp .eq 14, 3, 90), (90, .lload 7, 2, 92), (92, .lload 4, 2, 94), (94, .lcmp, 1, 95), (95, .ifCond .lt 6, 3, 98), (98, .goto 10, 3, 101), (101, .iload 6, 2, 103), (103, .istore_n 3, 1, 104), (104, .lload 7, 2, 106), (106, .lstore 4, 2, 108), (108, .iinc 6 1, 3, 111), (111, .goto (-76), 3, 114), (114, .iload_n 3, 1, 115), (115, .ireturn, 1, 116)] : List (Nat × Instr × Nat × Nat)), mDq M7_bestJoin q := by decide +kernel
set_option maxRecDepth 100000 in
theorem d7_withoutRisk : ∀ q ∈ ([(0, .aload_n 0, 1, 1), (1, .iconst 0, 1, 2), (2, .putfield 69, 3, 5), (5, .aload_n 0, 1, 6), (6, .iload_n 1, 1, 7), (7, .invokevirtual 295, 3, 10), (10, .ifCond .eq 10, 3, 13), (13, .iload_n 2, 1, 14), (14, .invokestatic 354, 3, 17), (17, .ifCond .ne 5, 3, 20), (20, .iconst (-1), 1, 21), (21, .ireturn, 1, 22), (22, .aload_n 0, 1, 23), (23, .invokevirtual 348, 3, 26), (26, .aload_n 0, 1, 27), (27, .iload_n 1, 1, 28), (28, .invokevirtual 301, 3, 31), (31, .aload_n 0, 1, 32), (32, .iload_n 2, 1, 33), (33, .iconst (-1), 1, 34), (34, .invokevirtual 281, 3, 37), (37, .aload_n 0, 1, 38), (38, .invokevirtual 287, 3, 41), (41, .aload_n 0, 1, 42), (42, .getfield 45, 3, 45), (45, .sipush 308, 3, 48), (48, .iaload, 1, 49), (49, .istore_n 3, 1, 50), (50, .aload_n 0, 1, 51), (51, .invokevirtual 351, 3, 54), (54, .iload_n 3, 1, 55), (55, .ireturn, 1, 56)] : List (Nat × Instr × Nat × Nat)), mDq M7_withoutRisk q := by decide +kernel
set_option maxRecDepth 100000 in
theorem d7_quote : ∀ q ∈ ([(0, .aload_n 0, 1, 1), (1, .iconst 0, 1, 2), (2, .putfield 69, 3, 5), (5, .iload_n 1, 1, 6), (6, .iconst 1, 1, 7), (7, .if_icmp .lt 26, 3, 10), (10, .iload_n 1, 1, 11), (11, .bipush 99, 2, 13), (13, .if_icmp .gt 20, 3, 16), (16, .aload_n 0, 1, 17), (17, .iload_n 2, 1, 18), (18, .invokevirtual 298, 3, 21), (21, .ifCond .eq 12, 3, 24), (24, .aload_n 0, 1, 25), (25, .iload_n 1, 1, 26), (26, .iconst (-1), 1, 27), (27, .invokevirtual 227, 3, 30), (30, .goto 6, 3, 33), (33, .ldc2_w 307, 3, 36), (36, .lreturn, 1, 37)] : List (Nat × Instr × Nat × Nat)), mDq M7_quote q := by decide +kernel
set_option maxRecDepth 100000 in
theorem d7_isMet : ∀ q ∈ ([(0, .iconst 0, 1, 1), (1, .istore_n 2, 1, 2), (2, .iload_n 2, 1, 3), (3, .aload_n 0, 1, 4), (4, .invokevirtual 200, 3, 7), (7, .if_icmp .ge 87, 3, 10), (10, .iload_n 1, 1, 11), (11, .istore_n 3, 1, 12), (12, .iconst 1, 1, 13), (13, .istore 4, 2, 15), (15, .iconst 0, 1, 16), (16, .istore 5, 2, 18), (18, .iload 5, 2, 20), (20, .aload_n 0, 1, 21), (21, .invokevirtual 193, 3, 24), (24, .if_icmp .ge 57, 3, 27), (27, .iload 4, 2, 29), (29, .ifCond .eq 33, 3, 32), (32, .iload_n 3, 1, 33), (33, .aload_n 0, 1, 34), (34, .getfield 23, 3, 37), (37, .iload 5, 2, 39), (39, .iaload, 1, 40), (40, .irem, 1, 41), (41, .aload_n 0, 1, 42), (42, .getfield 45, 3, 45), (45, .bipush 7, 2, 47), (47, .iload_n 2, 1, 48), (48, .imul, 1, 49), (49, .iconst 3, 1, 50), (50, .iadd, 1, 51), (51, .iload 5, 2, 53), (53, .iadd, 1, 54), (54, .iaload, 1, 55), (55, .if_icmp .ne 7, 3, 58), (58, .iconst 1, 1, 59), (59, .goto 4, 3, 62), (62, .iconst 0, 1, 63), (63, .istore 4, 2, 65), (65, .iload_n 3, 1, 66), (66, .aload_n 0, 1, 67), (67, .getfield 23, 3, 70), (70, .iload 5, 2, 72), (72, .iaload, 1, 73), (73, .idiv, 1, 74), (74, .istore_n 3, 1, 75), (75, .iinc 5 1, 3, 78), (78, .goto (-60), 3, 81), (81, .iload 4, 2, 83), (83, .ifCond .eq 5, 3, 86), (86, .iconst 1, 1, 87), (87, .ireturn, 1, 88), (88, .iinc 2 1, 3, 91), (91, .goto (-89), 3, 94), (94, .iconst 0, 1, 95), (95, .ireturn, 1, 96)] : List (Nat × Instr × Nat × Nat)), mDq M7_isMet q := by decide +kernel
set_option maxRecDepth 100000 in
theorem d7_kinds : ∀ q ∈ ([(0, .aload_n 0, 1, 1), (1, .iconst 0, 1, 2), (2, .putfield 69, 3, 5), (5, .iload_n 1, 1, 6), (6, .ifCond .lt 8, 3, 9), (9, .iload_n 1, 1, 10), (10, .iconst 1, 1, 11), (11, .if_icmp .le 5, 3, 14), (14, .iconst (-1), 1, 15), (15, .ireturn, 1, 16), (16, .iconst 1, 1, 17), (17, .istore_n 2, 1, 18), (18, .iconst 0, 1, 19), (19, .istore_n 3, 1, 20), (20, .iload_n 3, 1, 21), (21, .aload_n 0, 1, 22), (22, .invokevirtual 193, 3, 25), (25, .if_icmp .ge 18, 3, 28), (28, .iload_n 2, 1, 29), (29, .aload_n 0, 1, 30), (30, .getfield 23, 3, 33), (33, .iload_n 3, 1, 34), (34, .iaload, 1, 35), (35, .imul, 1, 36), (36, .istore_n 2, 1, 37), (37, .iinc 3 1, 3, 40), (40, .goto (-20), 3, 43), (43, .iload_n 1, 1, 44), (44, .ifCond .ne 5, 3, 47), (47, .iload_n 2, 1, 48), (48, .ireturn, 1, 49), (49, .iconst 0, 1, 50), (50, .istore_n 3, 1, 51), (51, .iconst 0, 1, 52), (52, .istore 4, 2, 54), (54, .iload 4, 2, 56), (56, .iload_n 2, 1, 57), (57, .if_icmp .ge 26, 3, 60), (60, .iload_n 3, 1, 61), (61, .aload_n 0, 1, 62), (62, .iload 4, 2, 64), (64, .invokevirtual 357, 3, 67), (67, .ifCond .eq 7, 3, 70), (70, .iconst 0, 1, 71), (71, .goto 4, 3, 74), (74, .iconst 1, 1, 75), (75, .iadd, 1, 76), (76, .istore_n 3, 1, 77), (77, .iinc 4 1, 3, 80), (80, .goto (-26), 3, 83), (83, .iload_n 3, 1, 84), (84, .ireturn, 1, 85)] : List (Nat × Instr × Nat × Nat)), mDq M7_kinds q := by decide +kernel
set_option maxRecDepth 100000 in
theorem d7_draw : ∀ q ∈ ([(0, .aload_n 0, 1, 1), (1, .aload_n 0, 1, 2), (2, .getfield 360, 3, 5), (5, .ldc_w 363, 3, 8), (8, .imul, 1, 9), (9, .sipush 12345, 3, 12), (12, .iadd, 1, 13), (13, .ldc_w 364, 3, 16), (16, .iand, 1, 17), (17, .putfield 360, 3, 20), (20, .aload_n 0, 1, 21), (21, .getfield 360, 3, 24), (24, .bipush 16, 2, 26), (26, .ishr, 1, 27), (27, .iload_n 1, 1, 28), (28, .irem, 1, 29), (29, .ireturn, 1, 30)] : List (Nat × Instr × Nat × Nat)), mDq M7_draw q := by decide +kernel
set_option maxRecDepth 100000 in
theorem d7_chance : ∀ q ∈ ([(0, .aload_n 0, 1, 1), (1, .iconst 0, 1, 2), (2, .putfield 69, 3, 5), (5, .iload_n 1, 1, 6), (6, .iconst (-1), 1, 7), (7, .if_icmp .lt 54, 3, 10), (10, .iload_n 2, 1, 11), (11, .iconst 1, 1, 12), (12, .if_icmp .lt 49, 3, 15), (15, .iload_n 2, 1, 16), (16, .bipush 60, 2, 18), (18, .if_icmp .gt 43, 3, 21), (21, .iload_n 3, 1, 22), (22, .ifCond .lt 39, 3, 25), (25, .iload_n 3, 1, 26), (26, .ldc 107, 2, 28), (28, .if_icmp .gt 33, 3, 31), (31, .iload 4, 2, 33), (33, .ifCond .lt 28, 3, 36), (36, .iload 4, 2, 38), (38, .bipush 20, 2, 40), (40, .if_icmp .gt 21, 3, 43), (43, .iload 5, 2, 45), (45, .ifCond .lt 16, 3, 48), (48, .iload 5, 2, 50), (50, .iconst 2, 1, 51), (51, .if_icmp .gt 10, 3, 54), (54, .aload_n 0, 1, 55), (55, .invokevirtual 200, 3, 58), (58, .ifCond .ne 7, 3, 61), (61, .ldc2_w 307, 3, 64), (64, .lreturn, 1, 65), (65, .aload_n 0, 1, 66), (66, .iload_n 1, 1, 67), (67, .iconst (-1), 1, 68), (68, .if_icmp .ne 12, 3, 71), (71, .aload_n 0, 1, 72), (72, .getfield 13, 3, 75), (75, .iconst 3, 1, 76), (76, .iaload, 1, 77), (77, .goto 4, 3, 80), (80, .iload_n 1, 1, 81), (81, .putfield 360, 3, 84), (84, .aload_n 0, 1, 85), (85, .invokevirtual 348, 3, 88), (88, .iconst 0, 1, 89), (89, .istore 6, 2, 91), (91, .iload 6, 2, 93), (93, .iload_n 2, 1, 94), (94, .if_icmp .ge 38, 3, 97), (97, .aload_n 0, 1, 98), (98, .aload_n 0, 1, 99), (99, .invokevirtual 200, 3, 102), (102, .invokevirtual 365, 3, 105), (105, .istore 7, 2, 107), (107, .aload_n 0, 1, 108), (108, .getfield 45, 3, 111), (111, .bipush 7, 2, 113), (113, .iload 7, 2, 115), (115, .imul, 1, 116), (116, .iconst 1, 1, 117), (117, .iadd, 1, 118), (118, .aload_n 0, 1, 119), (119, .iload_n 3, 1, 120), (120, .iconst 1, 1, 121), (121, .iadd, 1, 122), (122, .invokevirtual 365, 3, 125), (125, .iastore, 1, 126), (126, .iinc 6 1, 3, 129), (129, .goto (-38), 3, 132), (132, .aload_n 0, 1, 133), (133, .iload 4, 2, 135), (135, .iconst (-1), 1, 136), (136, .invokevirtual 281, 3, 139), (139, .iload 5, 2, 141), (141, .ifCond .ne 10, 3, 144), (144, .aload_n 0, 1, 145), (145, .invokevirtual 345, 3, 148), (148, .goto 21, 3, 151), (151, .iload 5, 2, 153), (153, .iconst 1, 1, 154), (154, .if_icmp .ne 10, 3, 157), (157, .aload_n 0, 1, 158), (158, .invokevirtual 269, 3, 161), (161, .goto 8, 3, 164), (164, .aload_n 0, 1, 165), (165, .invokevirtual 284, 3, 168), (168, .i2l, 1, 169), (169, .lstore 6, 2, 171), (171, .aload_n 0, 1, 172), (172, .invokevirtual 351, 3, 175), (175, .lload 6, 2, 177), (177, .lreturn, 1, 178)] : List (Nat × Instr × Nat × Nat)), mDq M7_chance q := by decide +kernel
set_option maxRecDepth 100000 in
theorem d7_classes : ∀ q ∈ ([(0, .iconst 0, 1, 1), (1, .istore_n 2, 1, 2), (2, .iconst 0, 1, 3), (3, .istore_n 3, 1, 4), (4, .iload_n 3, 1, 5), (5, .aload_n 0, 1, 6), (6, .invokevirtual 193, 3, 9), (9, .if_icmp .ge 63, 3, 12), (12, .iconst 0, 1, 13), (13, .istore 4, 2, 15), (15, .iload 4, 2, 17), (17, .aload_n 0, 1, 18), (18, .getfield 23, 3, 21), (21, .iload_n 3, 1, 22), (22, .iaload, 1, 23), (23, .if_icmp .ge 43, 3, 26), (26, .iload_n 2, 1, 27), (27, .aload_n 0, 1, 28), (28, .iload_n 3, 1, 29), (29, .iload 4, 2, 31), (31, .invokevirtual 210, 3, 34), (34, .iload 4, 2, 36), (36, .if_icmp .ne 21, 3, 39), (39, .iload_n 1, 1, 40), (40, .ifCond .eq 13, 3, 43), (43, .aload_n 0, 1, 44), (44, .iload_n 3, 1, 45), (45, .iload 4, 2, 47), (47, .invokevirtual 239, 3, 50), (50, .ifCond .ne 7, 3, 53), (53, .iconst 1, 1, 54), (54, .goto 4, 3, 57), (57, .iconst 0, 1, 58), (58, .iadd, 1, 59), (59, .istore_n 2, 1, 60), (60, .iinc 4 1, 3, 63), (63, .goto (-48), 3, 66), (66, .iinc 3 1, 3, 69), (69, .goto (-65), 3, 72), (72, .iload_n 2, 1, 73), (73, .ireturn, 1, 74)] : List (Nat × Instr × Nat × Nat)), mDq M7_classes q := by decide +kernel
set_option maxRecDepth 100000 in
theorem d7_count : ∀ q ∈ ([(0, .aload_n 0, 1, 1), (1, .iconst 0, 1, 2), (2, .putfield 69, 3, 5), (5, .iload_n 1, 1, 6), (6, .tableswitch 146 0 11 #[62, 67, 72, 81, 88, 97, 103, 109, 114, 119, 128, 137], 62, 68), (68, .aload_n 0, 1, 69), (69, .invokevirtual 193, 3, 72), (72, .ireturn, 1, 73), (73, .aload_n 0, 1, 74), (74, .invokevirtual 200, 3, 77), (77, .ireturn, 1, 78), (78, .aload_n 0, 1, 79), (79, .getfield 45, 3, 82), (82, .sipush 308, 3, 85), (85, .iaload, 1, 86), (86, .ireturn, 1, 87), (87, .aload_n 0, 1, 88), (88, .getfield 13, 3, 91), (91, .iconst 1, 1, 92), (92, .iaload, 1, 93), (93, .ireturn, 1, 94), (94, .aload_n 0, 1, 95), (95, .getfield 45, 3, 98), (98, .sipush 309, 3, 101), (101, .iaload, 1, 102), (102, .ireturn, 1, 103), (103, .aload_n 0, 1, 104), (104, .iconst 0, 1, 105), (105, .invokevirtual 368, 3, 108), (108, .ireturn, 1, 109), (109, .aload_n 0, 1, 110), (110, .iconst 1, 1, 111), (111, .invokevirtual 368, 3, 114), (114, .ireturn, 1, 115), (115, .aload_n 0, 1, 116), (116, .getfield 186, 3, 119), (119, .ireturn, 1, 120), (120, .aload_n 0, 1, 121), (121, .getfield 72, 3, 124), (124, .ireturn, 1, 125), (125, .aload_n 0, 1, 126), (126, .getfield 45, 3, 129), (129, .sipush 311, 3, 132), (132, .iaload, 1, 133), (133, .ireturn, 1, 134), (134, .aload_n 0, 1, 135), (135, .getfield 45, 3, 138), (138, .sipush 312, 3, 141), (141, .iaload, 1, 142), (142, .ireturn, 1, 143), (143, .aload_n 0, 1, 144), (144, .getfield 45, 3, 147), (147, .sipush 313, 3, 150), (150, .iaload, 1, 151), (151, .ireturn, 1, 152), (152, .iconst (-1), 1, 153), (153, .ireturn, 1, 154)] : List (Nat × Instr × Nat × Nat)), mDq M7_count q := by decide +kernel
set_option maxRecDepth 100000 in
theorem dJ9_floorDiv_f86c9 : ∀ q ∈ ([(0, .lload_n 0, 1, 1), (1, .lload_n 2, 1, 2), (2, .ldiv, 1, 3), (3, .lstore 4, 2, 5), (5, .lload_n 0, 1, 6), (6, .lload_n 2, 1, 7), (7, .lxor, 1, 8), (8, .lconst 0, 1, 9), (9, .lcmp, 1, 10), (10, .ifCond .ge 17, 3, 13), (13, .lload 4, 2, 15), (15, .lload_n 2, 1, 16), (16, .lmul, 1, 17), (17, .lload_n 0, 1, 18), (18, .lcmp, 1, 19), (19, .ifCond .eq 8, 3, 22), (22, .lload 4, 2, 24), (24, .lconst 1, 1, 25), (25, .lsub, 1, 26), (26, .lreturn, 1, 27), (27, .lload 4, 2, 29), (29, .lreturn, 1, 30)] : List (Nat × Instr × Nat × Nat)), mDq MJ9_floorDiv_f86c9 q := by decide +kernel
end
