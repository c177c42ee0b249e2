theorem kw233 : Jvm.Cond.fieldLink "PlantKeeper$Coder" (72 : Nat) "PlantKeeper$Plan" "kind" "[I" ∈ zk_BW := zk_inT 233 (by decide +kernel) rfl
theorem kw237 : Jvm.Cond.fieldLink "PlantKeeper$Coder" (83 : Nat) "PlantKeeper$Plan" "node" "[I" ∈ zk_BW := zk_inT 237 (by decide +kernel) rfl
theorem kw247 : Jvm.Cond.fieldLink "PlantKeeper$Coder" (57 : Nat) "PlantKeeper$Plan" "variableCells" "[I" ∈ zk_BW := zk_inT 247 (by decide +kernel) rfl
theorem kw250 : Jvm.Cond.fieldLink "PlantKeeper$Coder" (63 : Nat) "PlantKeeper$Plan" "cells" "[I" ∈ zk_BW := zk_inT 250 (by decide +kernel) rfl
theorem kw289 : Jvm.Cond.fieldLink "PlantKeeper$Coder" (39 : Nat) "PlantKeeper$Plan" "blocks" "I" ∈ zk_BW := zk_inT 289 (by decide +kernel) rfl
theorem kw402 : Jvm.Cond.fieldLink "PlantKeeper$Prover" (61 : Nat) "PlantKeeper$Code" "op" "[B" ∈ zk_BW := zk_inT 402 (by decide +kernel) rfl
theorem kw405 : Jvm.Cond.fieldLink "PlantKeeper$Prover" (71 : Nat) "PlantKeeper$Code" "a" "[I" ∈ zk_BW := zk_inT 405 (by decide +kernel) rfl
theorem kw416 : Jvm.Cond.fieldLink "PlantKeeper$Coder" (54 : Nat) "PlantKeeper$Code" "size" "I" ∈ zk_BW := zk_inT 416 (by decide +kernel) rfl
theorem kw447 : Jvm.Cond.fieldLink "PlantKeeper$Coder" (66 : Nat) "PlantKeeper$Coder" "powers" "I" ∈ zk_BW := zk_inT 447 (by decide +kernel) rfl
theorem kw493 : Jvm.Cond.fieldLink "PlantKeeper$Prover" (74 : Nat) "PlantKeeper$Prover" "loops" "I" ∈ zk_BW := zk_inT 493 (by decide +kernel) rfl
theorem kw1263 : Jvm.Cond.instanceMethod ({ cls := "PlantKeeper$Coder", name := "codeAll", desc := "()I" } : Jvm.MethodName) ∈ zk_BW := zk_inT 1263 (by decide +kernel) rfl
theorem kw1264 : Jvm.Cond.selects "PlantKeeper$Coder" ({ cls := "PlantKeeper$Coder", name := "codeAll", desc := "()I" } : Jvm.MethodName) ({ cls := "PlantKeeper$Coder", name := "codeAll", desc := "()I" } : Jvm.MethodName) ∈ zk_BW := zk_inT 1264 (by decide +kernel) rfl
theorem kw1265 : Jvm.Cond.code ({ cls := "PlantKeeper$Coder", name := "codeAll", desc := "()I" } : Jvm.MethodName) prog_3_method_2_code (2 : Nat) (Option.some FieldType.int) ∈ zk_BW := zk_inT 1265 (by decide +kernel) rfl
theorem kw1266 : Jvm.Cond.methodLink "PlantKeeper$Coder" (34 : Nat) ({ cls := "PlantKeeper$Code", name := "forget", desc := "()V" } : Jvm.MethodName) ∈ zk_BW := zk_inT 1266 (by decide +kernel) rfl
theorem kw1270 : Jvm.Cond.methodLink "PlantKeeper$Coder" (48 : Nat) ({ cls := "PlantKeeper$Coder", name := "codeBlock", desc := "()V" } : Jvm.MethodName) ∈ zk_BW := zk_inT 1270 (by decide +kernel) rfl
theorem kw1272 : Jvm.Cond.instanceMethod ({ cls := "PlantKeeper$Coder", name := "codeBlock", desc := "()V" } : Jvm.MethodName) ∈ zk_BW := zk_inT 1272 (by decide +kernel) rfl
theorem kw1273 : Jvm.Cond.code ({ cls := "PlantKeeper$Coder", name := "codeBlock", desc := "()V" } : Jvm.MethodName) prog_3_method_3_code (4 : Nat) (Option.none : Option FieldType) ∈ zk_BW := zk_inT 1273 (by decide +kernel) rfl
theorem kw1274 : Jvm.Cond.methodLink "PlantKeeper$Coder" (77 : Nat) ({ cls := "PlantKeeper$Coder", name := "beginFunction", desc := "()V" } : Jvm.MethodName) ∈ zk_BW := zk_inT 1274 (by decide +kernel) rfl
theorem kw1346 : Jvm.Cond.methodLink "PlantKeeper$Coder" (97 : Nat) ({ cls := "PlantKeeper$Coder", name := "codeRung", desc := "(I)V" } : Jvm.MethodName) ∈ zk_BW := zk_inT 1346 (by decide +kernel) rfl
theorem kw1348 : Jvm.Cond.instanceMethod ({ cls := "PlantKeeper$Coder", name := "codeRung", desc := "(I)V" } : Jvm.MethodName) ∈ zk_BW := zk_inT 1348 (by decide +kernel) rfl
theorem kw1349 : Jvm.Cond.code ({ cls := "PlantKeeper$Coder", name := "codeRung", desc := "(I)V" } : Jvm.MethodName) prog_3_method_16_code (6 : Nat) (Option.none : Option FieldType) ∈ zk_BW := zk_inT 1349 (by decide +kernel) rfl
theorem kw1350 : Jvm.Cond.methodLink "PlantKeeper$Coder" (203 : Nat) ({ cls := "PlantKeeper$Coder", name := "layGrid", desc := "(I)V" } : Jvm.MethodName) ∈ zk_BW := zk_inT 1350 (by decide +kernel) rfl
theorem kw1358 : Jvm.Cond.methodLink "PlantKeeper$Coder" (212 : Nat) ({ cls := "PlantKeeper$Coder", name := "lastOfGroup", desc := "(II)I" } : Jvm.MethodName) ∈ zk_BW := zk_inT 1358 (by decide +kernel) rfl
theorem kw1362 : Jvm.Cond.methodLink "PlantKeeper$Coder" (215 : Nat) ({ cls := "PlantKeeper$Coder", name := "codeGroup", desc := "(III)V" } : Jvm.MethodName) ∈ zk_BW := zk_inT 1362 (by decide +kernel) rfl
theorem kw1364 : Jvm.Cond.instanceMethod ({ cls := "PlantKeeper$Coder", name := "codeGroup", desc := "(III)V" } : Jvm.MethodName) ∈ zk_BW := zk_inT 1364 (by decide +kernel) rfl
theorem kw1365 : Jvm.Cond.code ({ cls := "PlantKeeper$Coder", name := "codeGroup", desc := "(III)V" } : Jvm.MethodName) prog_3_method_21_code (7 : Nat) (Option.none : Option FieldType) ∈ zk_BW := zk_inT 1365 (by decide +kernel) rfl
theorem kw1366 : Jvm.Cond.methodLink "PlantKeeper$Coder" (225 : Nat) ({ cls := "PlantKeeper$Coder", name := "codeWay", desc := "(III)V" } : Jvm.MethodName) ∈ zk_BW := zk_inT 1366 (by decide +kernel) rfl
theorem kw1368 : Jvm.Cond.instanceMethod ({ cls := "PlantKeeper$Coder", name := "codeWay", desc := "(III)V" } : Jvm.MethodName) ∈ zk_BW := zk_inT 1368 (by decide +kernel) rfl
theorem kw1369 : Jvm.Cond.code ({ cls := "PlantKeeper$Coder", name := "codeWay", desc := "(III)V" } : Jvm.MethodName) prog_3_method_22_code (6 : Nat) (Option.none : Option FieldType) ∈ zk_BW := zk_inT 1369 (by decide +kernel) rfl
theorem kw1370 : Jvm.Cond.methodLink "PlantKeeper$Coder" (228 : Nat) ({ cls := "PlantKeeper$Coder", name := "power", desc := "(II)I" } : Jvm.MethodName) ∈ zk_BW := zk_inT 1370 (by decide +kernel) rfl
theorem kw1372 : Jvm.Cond.instanceMethod ({ cls := "PlantKeeper$Coder", name := "power", desc := "(II)I" } : Jvm.MethodName) ∈ zk_BW := zk_inT 1372 (by decide +kernel) rfl
theorem kw1373 : Jvm.Cond.code ({ cls := "PlantKeeper$Coder", name := "power", desc := "(II)I" } : Jvm.MethodName) prog_3_method_20_code (4 : Nat) (Option.some FieldType.int) ∈ zk_BW := zk_inT 1373 (by decide +kernel) rfl
theorem kw1374 : Jvm.Cond.methodLink "PlantKeeper$Coder" (231 : Nat) ({ cls := "PlantKeeper$Coder", name := "codeEdge", desc := "(IZI)V" } : Jvm.MethodName) ∈ zk_BW := zk_inT 1374 (by decide +kernel) rfl
theorem kw1378 : Jvm.Cond.methodLink "PlantKeeper$Coder" (219 : Nat) ({ cls := "PlantKeeper$Coder", name := "codeCoil", desc := "(II)V" } : Jvm.MethodName) ∈ zk_BW := zk_inT 1378 (by decide +kernel) rfl
theorem kw1380 : Jvm.Cond.instanceMethod ({ cls := "PlantKeeper$Coder", name := "codeCoil", desc := "(II)V" } : Jvm.MethodName) ∈ zk_BW := zk_inT 1380 (by decide +kernel) rfl
theorem kw1381 : Jvm.Cond.code ({ cls := "PlantKeeper$Coder", name := "codeCoil", desc := "(II)V" } : Jvm.MethodName) prog_3_method_25_code (5 : Nat) (Option.none : Option FieldType) ∈ zk_BW := zk_inT 1381 (by decide +kernel) rfl
theorem kw1382 : Jvm.Cond.methodLink "PlantKeeper$Coder" (51 : Nat) ({ cls := "PlantKeeper$Code", name := "endUnit", desc := "()V" } : Jvm.MethodName) ∈ zk_BW := zk_inT 1382 (by decide +kernel) rfl
theorem kw1383 : Jvm.Cond.instanceMethod ({ cls := "PlantKeeper$Code", name := "endUnit", desc := "()V" } : Jvm.MethodName) ∈ zk_BW := zk_inT 1383 (by decide +kernel) rfl
theorem kw1384 : Jvm.Cond.selects "PlantKeeper$Code" ({ cls := "PlantKeeper$Code", name := "endUnit", desc := "()V" } : Jvm.MethodName) ({ cls := "PlantKeeper$Code", name := "endUnit", desc := "()V" } : Jvm.MethodName) ∈ zk_BW := zk_inT 1384 (by decide +kernel) rfl
theorem kw1385 : Jvm.Cond.code ({ cls := "PlantKeeper$Code", name := "endUnit", desc := "()V" } : Jvm.MethodName) prog_2_method_3_code (1 : Nat) (Option.none : Option FieldType) ∈ zk_BW := zk_inT 1385 (by decide +kernel) rfl
theorem kw1396 : Jvm.Cond.instanceMethod ({ cls := "PlantKeeper$Prover", name := "highest", desc := "(II)I" } : Jvm.MethodName) ∈ zk_BW := zk_inT 1396 (by decide +kernel) rfl
theorem kw1397 : Jvm.Cond.code ({ cls := "PlantKeeper$Prover", name := "highest", desc := "(II)I" } : Jvm.MethodName) prog_10_method_3_code (7 : Nat) (Option.some FieldType.int) ∈ zk_BW := zk_inT 1397 (by decide +kernel) rfl
theorem kw1398 : Jvm.Cond.fieldLink "PlantKeeper$Prover" (65 : Nat) "PlantKeeper$Code" "RISE" "[I" ∈ zk_BW := zk_inT 1398 (by decide +kernel) rfl
theorem kw1400 : Jvm.Cond.methodLink "PlantKeeper$Prover" (68 : Nat) ({ cls := "java/lang/Math", name := "max", desc := "(II)I" } : Jvm.MethodName) ∈ zk_BW := zk_inT 1400 (by decide +kernel) rfl
theorem kw1405 : Jvm.Cond.constantLong "PlantKeeper$Prover" (78 : Nat) (-1 : Int64) ∈ zk_BW := zk_inT 1405 (by decide +kernel) rfl
theorem kw1406 : Jvm.Cond.methodLink "PlantKeeper$Prover" (80 : Nat) ({ cls := "PlantKeeper$Prover", name := "tell", desc := "(IJJJ)V" } : Jvm.MethodName) ∈ zk_BW := zk_inT 1406 (by decide +kernel) rfl
theorem kw1408 : Jvm.Cond.instanceMethod ({ cls := "PlantKeeper$Prover", name := "tell", desc := "(IJJJ)V" } : Jvm.MethodName) ∈ zk_BW := zk_inT 1408 (by decide +kernel) rfl
theorem kw1409 : Jvm.Cond.code ({ cls := "PlantKeeper$Prover", name := "tell", desc := "(IJJJ)V" } : Jvm.MethodName) prog_10_method_5_code (8 : Nat) (Option.none : Option FieldType) ∈ zk_BW := zk_inT 1409 (by decide +kernel) rfl
theorem kw1416 : Jvm.Cond.instanceMethod ({ cls := "PlantKeeper$Prover", name := "proveAfter", desc := "(IJI)V" } : Jvm.MethodName) ∈ zk_BW := zk_inT 1416 (by decide +kernel) rfl
theorem kw1417 : Jvm.Cond.code ({ cls := "PlantKeeper$Prover", name := "proveAfter", desc := "(IJI)V" } : Jvm.MethodName) prog_10_method_7_code (5 : Nat) (Option.none : Option FieldType) ∈ zk_BW := zk_inT 1417 (by decide +kernel) rfl
theorem kw1418 : Jvm.Cond.methodLink "PlantKeeper$Prover" (105 : Nat) ({ cls := "PlantKeeper$Prover", name := "sum", desc := "(JJ)J" } : Jvm.MethodName) ∈ zk_BW := zk_inT 1418 (by decide +kernel) rfl
theorem kw1419 : Jvm.Cond.static ({ cls := "PlantKeeper$Prover", name := "sum", desc := "(JJ)J" } : Jvm.MethodName) ∈ zk_BW := zk_inT 1419 (by decide +kernel) rfl
theorem kw1420 : Jvm.Cond.code ({ cls := "PlantKeeper$Prover", name := "sum", desc := "(JJ)J" } : Jvm.MethodName) prog_10_method_6_code (4 : Nat) (Option.some FieldType.long) ∈ zk_BW := zk_inT 1420 (by decide +kernel) rfl
theorem kw1421 : Jvm.Cond.constantLong "PlantKeeper$Prover" (103 : Nat) (1099511627776 : Int64) ∈ zk_BW := zk_inT 1421 (by decide +kernel) rfl
theorem kw1422 : Jvm.Cond.methodLink "PlantKeeper$Prover" (53 : Nat) ({ cls := "java/lang/Math", name := "min", desc := "(JJ)J" } : Jvm.MethodName) ∈ zk_BW := zk_inT 1422 (by decide +kernel) rfl
theorem kw1432 : Jvm.Cond.instanceMethod ({ cls := "PlantKeeper$Prover", name := "proveBack", desc := "(I)V" } : Jvm.MethodName) ∈ zk_BW := zk_inT 1432 (by decide +kernel) rfl
theorem kw1433 : Jvm.Cond.code ({ cls := "PlantKeeper$Prover", name := "proveBack", desc := "(I)V" } : Jvm.MethodName) prog_10_method_10_code (2 : Nat) (Option.none : Option FieldType) ∈ zk_BW := zk_inT 1433 (by decide +kernel) rfl
abbrev kc_Cd_endUnit : ByteArray := prog_2_method_3_code
def km_Cd_endUnit : zk_MT := (⟨"PlantKeeper$Code", "endUnit", "()V"⟩, kc_Cd_endUnit, 1, none, 0)
theorem ku_Cd_endUnit : zk_My km_Cd_endUnit := ⟨kw1385, kw12, by decide, by decide, by decide, by decide +kernel⟩
theorem kv_Cd_endUnit : zk_Mv km_Cd_endUnit := ⟨kw1383, kw1384⟩
abbrev kc_Cr_codeAll : ByteArray := prog_3_method_2_code
def km_Cr_codeAll : zk_MT := (⟨"PlantKeeper$Coder", "codeAll", "()I"⟩, kc_Cr_codeAll, 2, some .int, 0)
theorem ku_Cr_codeAll : zk_My km_Cr_codeAll := ⟨kw1265, kw13, by decide, by decide, by decide, by decide +kernel⟩
theorem kv_Cr_codeAll : zk_Mv km_Cr_codeAll := ⟨kw1263, kw1264⟩
abbrev kc_Cr_codeBlock : ByteArray := prog_3_method_3_code
def km_Cr_codeBlock : zk_MT := (⟨"PlantKeeper$Coder", "codeBlock", "()V"⟩, kc_Cr_codeBlock, 4, none, 0)
theorem ku_Cr_codeBlock : zk_My km_Cr_codeBlock := ⟨kw1273, kw13, by decide, by decide, by decide, by decide +kernel⟩
theorem kv_Cr_codeBlock : zk_Mv km_Cr_codeBlock := ⟨kw1272, zk_inS 83 (q := (⟨"PlantKeeper$Coder", "codeBlock", "()V"⟩, 12)) (by decide +kernel)⟩
abbrev kc_Cr_codeCoil : ByteArray := prog_3_method_25_code
def km_Cr_codeCoil : zk_MT := (⟨"PlantKeeper$Coder", "codeCoil", "(II)V"⟩, kc_Cr_codeCoil, 5, none, 2)
theorem ku_Cr_codeCoil : zk_My km_Cr_codeCoil := ⟨kw1381, kw13, by decide, by decide, by decide, by decide +kernel⟩
theorem kv_Cr_codeCoil : zk_Mv km_Cr_codeCoil := ⟨kw1380, zk_inS 105 (q := (⟨"PlantKeeper$Coder", "codeCoil", "(II)V"⟩, 12)) (by decide +kernel)⟩
abbrev kc_Cr_codeGroup : ByteArray := prog_3_method_21_code
def km_Cr_codeGroup : zk_MT := (⟨"PlantKeeper$Coder", "codeGroup", "(III)V"⟩, kc_Cr_codeGroup, 7, none, 3)
theorem ku_Cr_codeGroup : zk_My km_Cr_codeGroup := ⟨kw1365, kw13, by decide, by decide, by decide, by decide +kernel⟩
theorem kv_Cr_codeGroup : zk_Mv km_Cr_codeGroup := ⟨kw1364, zk_inS 101 (q := (⟨"PlantKeeper$Coder", "codeGroup", "(III)V"⟩, 12)) (by decide +kernel)⟩
abbrev kc_Cr_codeRung : ByteArray := prog_3_method_16_code
def km_Cr_codeRung : zk_MT := (⟨"PlantKeeper$Coder", "codeRung", "(I)V"⟩, kc_Cr_codeRung, 6, none, 1)
theorem ku_Cr_codeRung : zk_My km_Cr_codeRung := ⟨kw1349, kw13, by decide, by decide, by decide, by decide +kernel⟩
theorem kv_Cr_codeRung : zk_Mv km_Cr_codeRung := ⟨kw1348, zk_inS 97 (q := (⟨"PlantKeeper$Coder", "codeRung", "(I)V"⟩, 12)) (by decide +kernel)⟩
abbrev kc_Cr_codeWay : ByteArray := prog_3_method_22_code
def km_Cr_codeWay : zk_MT := (⟨"PlantKeeper$Coder", "codeWay", "(III)V"⟩, kc_Cr_codeWay, 6, none, 3)
theorem ku_Cr_codeWay : zk_My km_Cr_codeWay := ⟨kw1369, kw13, by decide, by decide, by decide, by decide +kernel⟩
theorem kv_Cr_codeWay : zk_Mv km_Cr_codeWay := ⟨kw1368, zk_inS 102 (q := (⟨"PlantKeeper$Coder", "codeWay", "(III)V"⟩, 12)) (by decide +kernel)⟩
abbrev kc_Cr_power : ByteArray := prog_3_method_20_code
def km_Cr_power : zk_MT := (⟨"PlantKeeper$Coder", "power", "(II)I"⟩, kc_Cr_power, 4, some .int, 2)
theorem ku_Cr_power : zk_My km_Cr_power := ⟨kw1373, kw13, by decide, by decide, by decide, by decide +kernel⟩
theorem kv_Cr_power : zk_Mv km_Cr_power := ⟨kw1372, zk_inS 103 (q := (⟨"PlantKeeper$Coder", "power", "(II)I"⟩, 12)) (by decide +kernel)⟩
abbrev kc_Pv_highest : ByteArray := prog_10_method_3_code
def km_Pv_highest : zk_MT := (⟨"PlantKeeper$Prover", "highest", "(II)I"⟩, kc_Pv_highest, 7, some .int, 2)
theorem ku_Pv_highest : zk_My km_Pv_highest := ⟨kw1397, kw14, by decide, by decide, by decide, by decide +kernel⟩
theorem kv_Pv_highest : zk_Mv km_Pv_highest := ⟨kw1396, zk_inS 107 (q := (⟨"PlantKeeper$Prover", "highest", "(II)I"⟩, 8)) (by decide +kernel)⟩
abbrev kc_Pv_proveAfter : ByteArray := prog_10_method_7_code
def km_Pv_proveAfter : zk_MT := (⟨"PlantKeeper$Prover", "proveAfter", "(IJI)V"⟩, kc_Pv_proveAfter, 5, none, 3)
theorem ku_Pv_proveAfter : zk_My km_Pv_proveAfter := ⟨kw1417, kw14, by decide, by decide, by decide, by decide +kernel⟩
theorem kv_Pv_proveAfter : zk_Mv km_Pv_proveAfter := ⟨kw1416, zk_inS 111 (q := (⟨"PlantKeeper$Prover", "proveAfter", "(IJI)V"⟩, 8)) (by decide +kernel)⟩
abbrev kc_Pv_proveBack : ByteArray := prog_10_method_10_code
def km_Pv_proveBack : zk_MT := (⟨"PlantKeeper$Prover", "proveBack", "(I)V"⟩, kc_Pv_proveBack, 2, none, 1)
theorem ku_Pv_proveBack : zk_My km_Pv_proveBack := ⟨kw1433, kw14, by decide, by decide, by decide, by decide +kernel⟩
theorem kv_Pv_proveBack : zk_Mv km_Pv_proveBack := ⟨kw1432, zk_inS 113 (q := (⟨"PlantKeeper$Prover", "proveBack", "(I)V"⟩, 8)) (by decide +kernel)⟩
abbrev kc_Pv_sum : ByteArray := prog_10_method_6_code
def km_Pv_sum : zk_MT := (⟨"PlantKeeper$Prover", "sum", "(JJ)J"⟩, kc_Pv_sum, 4, some .long, 2)
theorem ku_Pv_sum : zk_My km_Pv_sum := ⟨kw1420, kw14, by decide, by decide, by decide, by decide +kernel⟩
theorem ks_Pv_sum : Cond.static km_Pv_sum.1 ∈ zk_BW := kw1419
abbrev kc_Pv_tell : ByteArray := prog_10_method_5_code
def km_Pv_tell : zk_MT := (⟨"PlantKeeper$Prover", "tell", "(IJJJ)V"⟩, kc_Pv_tell, 8, none, 4)
theorem ku_Pv_tell : zk_My km_Pv_tell := ⟨kw1409, kw14, by decide, by decide, by decide, by decide +kernel⟩
theorem kv_Pv_tell : zk_Mv km_Pv_tell := ⟨kw1408, zk_inS 109 (q := (⟨"PlantKeeper$Prover", "tell", "(IJJJ)V"⟩, 8)) (by decide +kernel)⟩
theorem kd_Cd_endUnit_0 : decode kc_Cd_endUnit 0 = .ok (.aload_n 0, 1) := by decide +kernel
theorem kd_Cd_endUnit_1 : decode kc_Cd_endUnit 1 = .ok (.getfield 32, 3) := by decide +kernel
theorem kd_Cd_endUnit_4 : decode kc_Cd_endUnit 4 = .ok (.bipush 16, 2) := by decide +kernel
theorem kd_Cd_endUnit_6 : decode kc_Cd_endUnit 6 = .ok (.if_icmp .ge 26, 3) := by decide +kernel
theorem kd_Cd_endUnit_9 : decode kc_Cd_endUnit 9 = .ok (.aload_n 0, 1) := by decide +kernel
theorem kd_Cd_endUnit_10 : decode kc_Cd_endUnit 10 = .ok (.dup, 1) := by decide +kernel
theorem kd_Cd_endUnit_11 : decode kc_Cd_endUnit 11 = .ok (.getfield 32, 3) := by decide +kernel
theorem kd_Cd_endUnit_14 : decode kc_Cd_endUnit 14 = .ok (.iconst 1, 1) := by decide +kernel
theorem kd_Cd_endUnit_15 : decode kc_Cd_endUnit 15 = .ok (.iadd, 1) := by decide +kernel
theorem kd_Cd_endUnit_16 : decode kc_Cd_endUnit 16 = .ok (.putfield 32, 3) := by decide +kernel
theorem kd_Cd_endUnit_19 : decode kc_Cd_endUnit 19 = .ok (.aload_n 0, 1) := by decide +kernel
theorem kd_Cd_endUnit_20 : decode kc_Cd_endUnit 20 = .ok (.getfield 25, 3) := by decide +kernel
theorem kd_Cd_endUnit_23 : decode kc_Cd_endUnit 23 = .ok (.aload_n 0, 1) := by decide +kernel
theorem kd_Cd_endUnit_24 : decode kc_Cd_endUnit 24 = .ok (.getfield 32, 3) := by decide +kernel
theorem kd_Cd_endUnit_27 : decode kc_Cd_endUnit 27 = .ok (.aload_n 0, 1) := by decide +kernel
theorem kd_Cd_endUnit_28 : decode kc_Cd_endUnit 28 = .ok (.getfield 28, 3) := by decide +kernel
theorem kd_Cd_endUnit_31 : decode kc_Cd_endUnit 31 = .ok (.iastore, 1) := by decide +kernel
theorem kd_Cd_endUnit_32 : decode kc_Cd_endUnit 32 = .ok (.return_, 1) := by decide +kernel
theorem kd_Cr_codeAll_0 : decode kc_Cr_codeAll 0 = .ok (.aload_n 0, 1) := by decide +kernel
theorem kd_Cr_codeAll_1 : decode kc_Cr_codeAll 1 = .ok (.getfield 19, 3) := by decide +kernel
theorem kd_Cr_codeAll_4 : decode kc_Cr_codeAll 4 = .ok (.invokevirtual 34, 3) := by decide +kernel
theorem kd_Cr_codeAll_7 : decode kc_Cr_codeAll 7 = .ok (.aload_n 0, 1) := by decide +kernel
theorem kd_Cr_codeAll_8 : decode kc_Cr_codeAll 8 = .ok (.getfield 15, 3) := by decide +kernel
theorem kd_Cr_codeAll_11 : decode kc_Cr_codeAll 11 = .ok (.getfield 39, 3) := by decide +kernel
theorem kd_Cr_codeAll_14 : decode kc_Cr_codeAll 14 = .ok (.bipush 9, 2) := by decide +kernel
theorem kd_Cr_codeAll_16 : decode kc_Cr_codeAll 16 = .ok (.isub, 1) := by decide +kernel
theorem kd_Cr_codeAll_17 : decode kc_Cr_codeAll 17 = .ok (.bipush 16, 2) := by decide +kernel
theorem kd_Cr_codeAll_19 : decode kc_Cr_codeAll 19 = .ok (.if_icmp .le 6, 3) := by decide +kernel
theorem kd_Cr_codeAll_22 : decode kc_Cr_codeAll 22 = .ok (.bipush 50, 2) := by decide +kernel
theorem kd_Cr_codeAll_24 : decode kc_Cr_codeAll 24 = .ok (.ireturn, 1) := by decide +kernel
theorem kd_Cr_codeAll_25 : decode kc_Cr_codeAll 25 = .ok (.bipush 9, 2) := by decide +kernel
theorem kd_Cr_codeAll_27 : decode kc_Cr_codeAll 27 = .ok (.istore_n 1, 1) := by decide +kernel
theorem kd_Cr_codeAll_28 : decode kc_Cr_codeAll 28 = .ok (.iload_n 1, 1) := by decide +kernel
theorem kd_Cr_codeAll_29 : decode kc_Cr_codeAll 29 = .ok (.aload_n 0, 1) := by decide +kernel
theorem kd_Cr_codeAll_30 : decode kc_Cr_codeAll 30 = .ok (.getfield 15, 3) := by decide +kernel
theorem kd_Cr_codeAll_33 : decode kc_Cr_codeAll 33 = .ok (.getfield 39, 3) := by decide +kernel
theorem kd_Cr_codeAll_36 : decode kc_Cr_codeAll 36 = .ok (.if_icmp .ge 25, 3) := by decide +kernel
theorem kd_Cr_codeAll_39 : decode kc_Cr_codeAll 39 = .ok (.aload_n 0, 1) := by decide +kernel
theorem kd_Cr_codeAll_40 : decode kc_Cr_codeAll 40 = .ok (.iload_n 1, 1) := by decide +kernel
theorem kd_Cr_codeAll_41 : decode kc_Cr_codeAll 41 = .ok (.putfield 45, 3) := by decide +kernel
theorem kd_Cr_codeAll_44 : decode kc_Cr_codeAll 44 = .ok (.aload_n 0, 1) := by decide +kernel
theorem kd_Cr_codeAll_45 : decode kc_Cr_codeAll 45 = .ok (.invokevirtual 48, 3) := by decide +kernel
theorem kd_Cr_codeAll_48 : decode kc_Cr_codeAll 48 = .ok (.aload_n 0, 1) := by decide +kernel
theorem kd_Cr_codeAll_49 : decode kc_Cr_codeAll 49 = .ok (.getfield 19, 3) := by decide +kernel
theorem kd_Cr_codeAll_52 : decode kc_Cr_codeAll 52 = .ok (.invokevirtual 51, 3) := by decide +kernel
theorem kd_Cr_codeAll_55 : decode kc_Cr_codeAll 55 = .ok (.iinc 1 1, 3) := by decide +kernel
theorem kd_Cr_codeAll_58 : decode kc_Cr_codeAll 58 = .ok (.goto (-30), 3) := by decide +kernel
theorem kd_Cr_codeAll_61 : decode kc_Cr_codeAll 61 = .ok (.aload_n 0, 1) := by decide +kernel
theorem kd_Cr_codeAll_62 : decode kc_Cr_codeAll 62 = .ok (.getfield 19, 3) := by decide +kernel
theorem kd_Cr_codeAll_65 : decode kc_Cr_codeAll 65 = .ok (.getfield 54, 3) := by decide +kernel
theorem kd_Cr_codeAll_68 : decode kc_Cr_codeAll 68 = .ok (.sipush 4000, 3) := by decide +kernel
theorem kd_Cr_codeAll_71 : decode kc_Cr_codeAll 71 = .ok (.if_icmp .le 8, 3) := by decide +kernel
theorem kd_Cr_codeAll_74 : decode kc_Cr_codeAll 74 = .ok (.bipush 50, 2) := by decide +kernel
theorem kd_Cr_codeAll_76 : decode kc_Cr_codeAll 76 = .ok (.goto 4, 3) := by decide +kernel
theorem kd_Cr_codeAll_79 : decode kc_Cr_codeAll 79 = .ok (.iconst 0, 1) := by decide +kernel
theorem kd_Cr_codeAll_80 : decode kc_Cr_codeAll 80 = .ok (.ireturn, 1) := by decide +kernel
theorem kd_Cr_codeBlock_0 : decode kc_Cr_codeBlock 0 = .ok (.aload_n 0, 1) := by decide +kernel
theorem kd_Cr_codeBlock_1 : decode kc_Cr_codeBlock 1 = .ok (.aload_n 0, 1) := by decide +kernel
theorem kd_Cr_codeBlock_2 : decode kc_Cr_codeBlock 2 = .ok (.getfield 15, 3) := by decide +kernel
theorem kd_Cr_codeBlock_5 : decode kc_Cr_codeBlock 5 = .ok (.getfield 57, 3) := by decide +kernel
theorem kd_Cr_codeBlock_8 : decode kc_Cr_codeBlock 8 = .ok (.aload_n 0, 1) := by decide +kernel
theorem kd_Cr_codeBlock_9 : decode kc_Cr_codeBlock 9 = .ok (.getfield 45, 3) := by decide +kernel
theorem kd_Cr_codeBlock_12 : decode kc_Cr_codeBlock 12 = .ok (.iaload, 1) := by decide +kernel
theorem kd_Cr_codeBlock_13 : decode kc_Cr_codeBlock 13 = .ok (.putfield 60, 3) := by decide +kernel
theorem kd_Cr_codeBlock_16 : decode kc_Cr_codeBlock 16 = .ok (.aload_n 0, 1) := by decide +kernel
theorem kd_Cr_codeBlock_17 : decode kc_Cr_codeBlock 17 = .ok (.aload_n 0, 1) := by decide +kernel
theorem kd_Cr_codeBlock_18 : decode kc_Cr_codeBlock 18 = .ok (.getfield 15, 3) := by decide +kernel
theorem kd_Cr_codeBlock_21 : decode kc_Cr_codeBlock 21 = .ok (.getfield 63, 3) := by decide +kernel
theorem kd_Cr_codeBlock_24 : decode kc_Cr_codeBlock 24 = .ok (.aload_n 0, 1) := by decide +kernel
theorem kd_Cr_codeBlock_25 : decode kc_Cr_codeBlock 25 = .ok (.getfield 45, 3) := by decide +kernel
theorem kd_Cr_codeBlock_28 : decode kc_Cr_codeBlock 28 = .ok (.iaload, 1) := by decide +kernel
theorem kd_Cr_codeBlock_29 : decode kc_Cr_codeBlock 29 = .ok (.sipush 156, 3) := by decide +kernel
theorem kd_Cr_codeBlock_32 : decode kc_Cr_codeBlock 32 = .ok (.isub, 1) := by decide +kernel
theorem kd_Cr_codeBlock_33 : decode kc_Cr_codeBlock 33 = .ok (.putfield 66, 3) := by decide +kernel
theorem kd_Cr_codeBlock_36 : decode kc_Cr_codeBlock 36 = .ok (.aload_n 0, 1) := by decide +kernel
theorem kd_Cr_codeBlock_37 : decode kc_Cr_codeBlock 37 = .ok (.iconst (-1), 1) := by decide +kernel
theorem kd_Cr_codeBlock_38 : decode kc_Cr_codeBlock 38 = .ok (.putfield 69, 3) := by decide +kernel
theorem kd_Cr_codeBlock_41 : decode kc_Cr_codeBlock 41 = .ok (.aload_n 0, 1) := by decide +kernel
theorem kd_Cr_codeBlock_42 : decode kc_Cr_codeBlock 42 = .ok (.getfield 15, 3) := by decide +kernel
theorem kd_Cr_codeBlock_45 : decode kc_Cr_codeBlock 45 = .ok (.getfield 72, 3) := by decide +kernel
theorem kd_Cr_codeBlock_48 : decode kc_Cr_codeBlock 48 = .ok (.aload_n 0, 1) := by decide +kernel
theorem kd_Cr_codeBlock_49 : decode kc_Cr_codeBlock 49 = .ok (.getfield 45, 3) := by decide +kernel
theorem kd_Cr_codeBlock_52 : decode kc_Cr_codeBlock 52 = .ok (.iaload, 1) := by decide +kernel
theorem kd_Cr_codeBlock_53 : decode kc_Cr_codeBlock 53 = .ok (.iconst 1, 1) := by decide +kernel
theorem kd_Cr_codeBlock_54 : decode kc_Cr_codeBlock 54 = .ok (.if_icmp .ne 7, 3) := by decide +kernel
theorem kd_Cr_codeBlock_57 : decode kc_Cr_codeBlock 57 = .ok (.aload_n 0, 1) := by decide +kernel
theorem kd_Cr_codeBlock_58 : decode kc_Cr_codeBlock 58 = .ok (.invokevirtual 77, 3) := by decide +kernel
theorem kd_Cr_codeBlock_61 : decode kc_Cr_codeBlock 61 = .ok (.aload_n 0, 1) := by decide +kernel
theorem kd_Cr_codeBlock_62 : decode kc_Cr_codeBlock 62 = .ok (.getfield 9, 3) := by decide +kernel
theorem kd_Cr_codeBlock_65 : decode kc_Cr_codeBlock 65 = .ok (.getfield 80, 3) := by decide +kernel
theorem kd_Cr_codeBlock_68 : decode kc_Cr_codeBlock 68 = .ok (.aload_n 0, 1) := by decide +kernel
theorem kd_Cr_codeBlock_69 : decode kc_Cr_codeBlock 69 = .ok (.getfield 15, 3) := by decide +kernel
theorem kd_Cr_codeBlock_72 : decode kc_Cr_codeBlock 72 = .ok (.getfield 83, 3) := by decide +kernel
theorem kd_Cr_codeBlock_75 : decode kc_Cr_codeBlock 75 = .ok (.aload_n 0, 1) := by decide +kernel
theorem kd_Cr_codeBlock_76 : decode kc_Cr_codeBlock 76 = .ok (.getfield 45, 3) := by decide +kernel
theorem kd_Cr_codeBlock_79 : decode kc_Cr_codeBlock 79 = .ok (.iaload, 1) := by decide +kernel
theorem kd_Cr_codeBlock_80 : decode kc_Cr_codeBlock 80 = .ok (.iaload, 1) := by decide +kernel
theorem kd_Cr_codeBlock_81 : decode kc_Cr_codeBlock 81 = .ok (.istore_n 1, 1) := by decide +kernel
theorem kd_Cr_codeBlock_82 : decode kc_Cr_codeBlock 82 = .ok (.iconst 0, 1) := by decide +kernel
theorem kd_Cr_codeBlock_83 : decode kc_Cr_codeBlock 83 = .ok (.istore_n 2, 1) := by decide +kernel
theorem kd_Cr_codeBlock_84 : decode kc_Cr_codeBlock 84 = .ok (.iload_n 2, 1) := by decide +kernel
theorem kd_Cr_codeBlock_85 : decode kc_Cr_codeBlock 85 = .ok (.aload_n 0, 1) := by decide +kernel
theorem kd_Cr_codeBlock_86 : decode kc_Cr_codeBlock 86 = .ok (.getfield 9, 3) := by decide +kernel
theorem kd_Cr_codeBlock_89 : decode kc_Cr_codeBlock 89 = .ok (.getfield 86, 3) := by decide +kernel
theorem kd_Cr_codeBlock_92 : decode kc_Cr_codeBlock 92 = .ok (.if_icmp .ge 32, 3) := by decide +kernel
theorem kd_Cr_codeBlock_95 : decode kc_Cr_codeBlock 95 = .ok (.aload_n 0, 1) := by decide +kernel
theorem kd_Cr_codeBlock_96 : decode kc_Cr_codeBlock 96 = .ok (.getfield 9, 3) := by decide +kernel
theorem kd_Cr_codeBlock_99 : decode kc_Cr_codeBlock 99 = .ok (.getfield 87, 3) := by decide +kernel
theorem kd_Cr_codeBlock_102 : decode kc_Cr_codeBlock 102 = .ok (.iload_n 1, 1) := by decide +kernel
theorem kd_Cr_codeBlock_103 : decode kc_Cr_codeBlock 103 = .ok (.iaload, 1) := by decide +kernel
theorem kd_Cr_codeBlock_104 : decode kc_Cr_codeBlock 104 = .ok (.iconst (-1), 1) := by decide +kernel
theorem kd_Cr_codeBlock_105 : decode kc_Cr_codeBlock 105 = .ok (.if_icmp .eq 19, 3) := by decide +kernel
theorem kd_Cr_codeBlock_108 : decode kc_Cr_codeBlock 108 = .ok (.aload_n 0, 1) := by decide +kernel
theorem kd_Cr_codeBlock_109 : decode kc_Cr_codeBlock 109 = .ok (.getfield 9, 3) := by decide +kernel
theorem kd_Cr_codeBlock_112 : decode kc_Cr_codeBlock 112 = .ok (.getfield 87, 3) := by decide +kernel
theorem kd_Cr_codeBlock_115 : decode kc_Cr_codeBlock 115 = .ok (.iload_n 1, 1) := by decide +kernel
theorem kd_Cr_codeBlock_116 : decode kc_Cr_codeBlock 116 = .ok (.iaload, 1) := by decide +kernel
theorem kd_Cr_codeBlock_117 : decode kc_Cr_codeBlock 117 = .ok (.istore_n 1, 1) := by decide +kernel
theorem kd_Cr_codeBlock_118 : decode kc_Cr_codeBlock 118 = .ok (.iinc 2 1, 3) := by decide +kernel
theorem kd_Cr_codeBlock_121 : decode kc_Cr_codeBlock 121 = .ok (.goto (-37), 3) := by decide +kernel
theorem kd_Cr_codeBlock_124 : decode kc_Cr_codeBlock 124 = .ok (.aload_n 0, 1) := by decide +kernel
theorem kd_Cr_codeBlock_125 : decode kc_Cr_codeBlock 125 = .ok (.getfield 9, 3) := by decide +kernel
theorem kd_Cr_codeBlock_128 : decode kc_Cr_codeBlock 128 = .ok (.getfield 90, 3) := by decide +kernel
theorem kd_Cr_codeBlock_131 : decode kc_Cr_codeBlock 131 = .ok (.iload_n 1, 1) := by decide +kernel
theorem kd_Cr_codeBlock_132 : decode kc_Cr_codeBlock 132 = .ok (.baload, 1) := by decide +kernel
theorem kd_Cr_codeBlock_133 : decode kc_Cr_codeBlock 133 = .ok (.bipush 11, 2) := by decide +kernel
theorem kd_Cr_codeBlock_135 : decode kc_Cr_codeBlock 135 = .ok (.if_icmp .ne 10, 3) := by decide +kernel
theorem kd_Cr_codeBlock_138 : decode kc_Cr_codeBlock 138 = .ok (.aload_n 0, 1) := by decide +kernel
theorem kd_Cr_codeBlock_139 : decode kc_Cr_codeBlock 139 = .ok (.iload_n 1, 1) := by decide +kernel
theorem kd_Cr_codeBlock_140 : decode kc_Cr_codeBlock 140 = .ok (.iconst 0, 1) := by decide +kernel
theorem kd_Cr_codeBlock_141 : decode kc_Cr_codeBlock 141 = .ok (.invokevirtual 93, 3) := by decide +kernel
theorem kd_Cr_codeBlock_144 : decode kc_Cr_codeBlock 144 = .ok (.return_, 1) := by decide +kernel
theorem kd_Cr_codeBlock_145 : decode kc_Cr_codeBlock 145 = .ok (.aload_n 0, 1) := by decide +kernel
theorem kd_Cr_codeBlock_146 : decode kc_Cr_codeBlock 146 = .ok (.getfield 9, 3) := by decide +kernel
theorem kd_Cr_codeBlock_149 : decode kc_Cr_codeBlock 149 = .ok (.getfield 80, 3) := by decide +kernel
theorem kd_Cr_codeBlock_152 : decode kc_Cr_codeBlock 152 = .ok (.iload_n 1, 1) := by decide +kernel
theorem kd_Cr_codeBlock_153 : decode kc_Cr_codeBlock 153 = .ok (.iaload, 1) := by decide +kernel
theorem kd_Cr_codeBlock_154 : decode kc_Cr_codeBlock 154 = .ok (.istore_n 2, 1) := by decide +kernel
theorem kd_Cr_codeBlock_155 : decode kc_Cr_codeBlock 155 = .ok (.iconst 0, 1) := by decide +kernel
theorem kd_Cr_codeBlock_156 : decode kc_Cr_codeBlock 156 = .ok (.istore_n 3, 1) := by decide +kernel
theorem kd_Cr_codeBlock_157 : decode kc_Cr_codeBlock 157 = .ok (.iload_n 3, 1) := by decide +kernel
theorem kd_Cr_codeBlock_158 : decode kc_Cr_codeBlock 158 = .ok (.aload_n 0, 1) := by decide +kernel
theorem kd_Cr_codeBlock_159 : decode kc_Cr_codeBlock 159 = .ok (.getfield 9, 3) := by decide +kernel
theorem kd_Cr_codeBlock_162 : decode kc_Cr_codeBlock 162 = .ok (.getfield 86, 3) := by decide +kernel
theorem kd_Cr_codeBlock_165 : decode kc_Cr_codeBlock 165 = .ok (.if_icmp .ge 29, 3) := by decide +kernel
theorem kd_Cr_codeBlock_168 : decode kc_Cr_codeBlock 168 = .ok (.iload_n 2, 1) := by decide +kernel
theorem kd_Cr_codeBlock_169 : decode kc_Cr_codeBlock 169 = .ok (.iconst (-1), 1) := by decide +kernel
theorem kd_Cr_codeBlock_170 : decode kc_Cr_codeBlock 170 = .ok (.if_icmp .eq 24, 3) := by decide +kernel
theorem kd_Cr_codeBlock_173 : decode kc_Cr_codeBlock 173 = .ok (.aload_n 0, 1) := by decide +kernel
theorem kd_Cr_codeBlock_174 : decode kc_Cr_codeBlock 174 = .ok (.iload_n 2, 1) := by decide +kernel
theorem kd_Cr_codeBlock_175 : decode kc_Cr_codeBlock 175 = .ok (.invokevirtual 97, 3) := by decide +kernel
theorem kd_Cr_codeBlock_178 : decode kc_Cr_codeBlock 178 = .ok (.aload_n 0, 1) := by decide +kernel
theorem kd_Cr_codeBlock_179 : decode kc_Cr_codeBlock 179 = .ok (.getfield 9, 3) := by decide +kernel
theorem kd_Cr_codeBlock_182 : decode kc_Cr_codeBlock 182 = .ok (.getfield 87, 3) := by decide +kernel
theorem kd_Cr_codeBlock_185 : decode kc_Cr_codeBlock 185 = .ok (.iload_n 2, 1) := by decide +kernel
theorem kd_Cr_codeBlock_186 : decode kc_Cr_codeBlock 186 = .ok (.iaload, 1) := by decide +kernel
theorem kd_Cr_codeBlock_187 : decode kc_Cr_codeBlock 187 = .ok (.istore_n 2, 1) := by decide +kernel
theorem kd_Cr_codeBlock_188 : decode kc_Cr_codeBlock 188 = .ok (.iinc 3 1, 3) := by decide +kernel
theorem kd_Cr_codeBlock_191 : decode kc_Cr_codeBlock 191 = .ok (.goto (-34), 3) := by decide +kernel
theorem kd_Cr_codeBlock_194 : decode kc_Cr_codeBlock 194 = .ok (.return_, 1) := by decide +kernel
theorem kd_Cr_codeCoil_0 : decode kc_Cr_codeCoil 0 = .ok (.aload_n 0, 1) := by decide +kernel
theorem kd_Cr_codeCoil_1 : decode kc_Cr_codeCoil 1 = .ok (.getfield 9, 3) := by decide +kernel
theorem kd_Cr_codeCoil_4 : decode kc_Cr_codeCoil 4 = .ok (.getfield 135, 3) := by decide +kernel
theorem kd_Cr_codeCoil_7 : decode kc_Cr_codeCoil 7 = .ok (.iload_n 1, 1) := by decide +kernel
theorem kd_Cr_codeCoil_8 : decode kc_Cr_codeCoil 8 = .ok (.iaload, 1) := by decide +kernel
theorem kd_Cr_codeCoil_9 : decode kc_Cr_codeCoil 9 = .ok (.istore_n 3, 1) := by decide +kernel
theorem kd_Cr_codeCoil_10 : decode kc_Cr_codeCoil 10 = .ok (.aload_n 0, 1) := by decide +kernel
theorem kd_Cr_codeCoil_11 : decode kc_Cr_codeCoil 11 = .ok (.getfield 15, 3) := by decide +kernel
theorem kd_Cr_codeCoil_14 : decode kc_Cr_codeCoil 14 = .ok (.getfield 117, 3) := by decide +kernel
theorem kd_Cr_codeCoil_17 : decode kc_Cr_codeCoil 17 = .ok (.aload_n 0, 1) := by decide +kernel
theorem kd_Cr_codeCoil_18 : decode kc_Cr_codeCoil 18 = .ok (.getfield 9, 3) := by decide +kernel
theorem kd_Cr_codeCoil_21 : decode kc_Cr_codeCoil 21 = .ok (.getfield 135, 3) := by decide +kernel
theorem kd_Cr_codeCoil_24 : decode kc_Cr_codeCoil 24 = .ok (.aload_n 0, 1) := by decide +kernel
theorem kd_Cr_codeCoil_25 : decode kc_Cr_codeCoil 25 = .ok (.getfield 9, 3) := by decide +kernel
theorem kd_Cr_codeCoil_28 : decode kc_Cr_codeCoil 28 = .ok (.getfield 80, 3) := by decide +kernel
theorem kd_Cr_codeCoil_31 : decode kc_Cr_codeCoil 31 = .ok (.iload_n 1, 1) := by decide +kernel
theorem kd_Cr_codeCoil_32 : decode kc_Cr_codeCoil 32 = .ok (.iaload, 1) := by decide +kernel
theorem kd_Cr_codeCoil_33 : decode kc_Cr_codeCoil 33 = .ok (.iaload, 1) := by decide +kernel
theorem kd_Cr_codeCoil_34 : decode kc_Cr_codeCoil 34 = .ok (.iaload, 1) := by decide +kernel
theorem kd_Cr_codeCoil_35 : decode kc_Cr_codeCoil 35 = .ok (.istore 4, 2) := by decide +kernel
theorem kd_Cr_codeCoil_37 : decode kc_Cr_codeCoil 37 = .ok (.iload_n 3, 1) := by decide +kernel
theorem kd_Cr_codeCoil_38 : decode kc_Cr_codeCoil 38 = .ok (.iconst 2, 1) := by decide +kernel
theorem kd_Cr_codeCoil_39 : decode kc_Cr_codeCoil 39 = .ok (.if_icmp .lt 14, 3) := by decide +kernel
theorem kd_Cr_codeCoil_42 : decode kc_Cr_codeCoil 42 = .ok (.aload_n 0, 1) := by decide +kernel
theorem kd_Cr_codeCoil_43 : decode kc_Cr_codeCoil 43 = .ok (.getfield 19, 3) := by decide +kernel
theorem kd_Cr_codeCoil_46 : decode kc_Cr_codeCoil 46 = .ok (.iconst 1, 1) := by decide +kernel
theorem kd_Cr_codeCoil_47 : decode kc_Cr_codeCoil 47 = .ok (.iload 4, 2) := by decide +kernel
theorem kd_Cr_codeCoil_49 : decode kc_Cr_codeCoil 49 = .ok (.invokevirtual 101, 3) := by decide +kernel
theorem kd_Cr_codeCoil_52 : decode kc_Cr_codeCoil 52 = .ok (.pop, 1) := by decide +kernel
theorem kd_Cr_codeCoil_53 : decode kc_Cr_codeCoil 53 = .ok (.aload_n 0, 1) := by decide +kernel
theorem kd_Cr_codeCoil_54 : decode kc_Cr_codeCoil 54 = .ok (.getfield 206, 3) := by decide +kernel
theorem kd_Cr_codeCoil_57 : decode kc_Cr_codeCoil 57 = .ok (.iconst 1, 1) := by decide +kernel
theorem kd_Cr_codeCoil_58 : decode kc_Cr_codeCoil 58 = .ok (.if_icmp .ne 16, 3) := by decide +kernel
theorem kd_Cr_codeCoil_61 : decode kc_Cr_codeCoil 61 = .ok (.aload_n 0, 1) := by decide +kernel
theorem kd_Cr_codeCoil_62 : decode kc_Cr_codeCoil 62 = .ok (.getfield 19, 3) := by decide +kernel
theorem kd_Cr_codeCoil_65 : decode kc_Cr_codeCoil 65 = .ok (.iconst 0, 1) := by decide +kernel
theorem kd_Cr_codeCoil_66 : decode kc_Cr_codeCoil 66 = .ok (.iconst 1, 1) := by decide +kernel
theorem kd_Cr_codeCoil_67 : decode kc_Cr_codeCoil 67 = .ok (.invokevirtual 101, 3) := by decide +kernel
theorem kd_Cr_codeCoil_70 : decode kc_Cr_codeCoil 70 = .ok (.pop, 1) := by decide +kernel
theorem kd_Cr_codeCoil_71 : decode kc_Cr_codeCoil 71 = .ok (.goto 23, 3) := by decide +kernel
theorem kd_Cr_codeCoil_74 : decode kc_Cr_codeCoil 74 = .ok (.aload_n 0, 1) := by decide +kernel
theorem kd_Cr_codeCoil_75 : decode kc_Cr_codeCoil 75 = .ok (.getfield 19, 3) := by decide +kernel
theorem kd_Cr_codeCoil_78 : decode kc_Cr_codeCoil 78 = .ok (.iconst 1, 1) := by decide +kernel
theorem kd_Cr_codeCoil_79 : decode kc_Cr_codeCoil 79 = .ok (.aload_n 0, 1) := by decide +kernel
theorem kd_Cr_codeCoil_80 : decode kc_Cr_codeCoil 80 = .ok (.iload_n 2, 1) := by decide +kernel
theorem kd_Cr_codeCoil_81 : decode kc_Cr_codeCoil 81 = .ok (.aload_n 0, 1) := by decide +kernel
theorem kd_Cr_codeCoil_82 : decode kc_Cr_codeCoil 82 = .ok (.getfield 206, 3) := by decide +kernel
theorem kd_Cr_codeCoil_85 : decode kc_Cr_codeCoil 85 = .ok (.iconst 2, 1) := by decide +kernel
theorem kd_Cr_codeCoil_86 : decode kc_Cr_codeCoil 86 = .ok (.isub, 1) := by decide +kernel
theorem kd_Cr_codeCoil_87 : decode kc_Cr_codeCoil 87 = .ok (.invokevirtual 228, 3) := by decide +kernel
theorem kd_Cr_codeCoil_90 : decode kc_Cr_codeCoil 90 = .ok (.invokevirtual 101, 3) := by decide +kernel
theorem kd_Cr_codeCoil_93 : decode kc_Cr_codeCoil 93 = .ok (.pop, 1) := by decide +kernel
theorem kd_Cr_codeCoil_94 : decode kc_Cr_codeCoil 94 = .ok (.iload_n 3, 1) := by decide +kernel
theorem kd_Cr_codeCoil_95 : decode kc_Cr_codeCoil 95 = .ok (.iconst 1, 1) := by decide +kernel
theorem kd_Cr_codeCoil_96 : decode kc_Cr_codeCoil 96 = .ok (.if_icmp .eq 8, 3) := by decide +kernel
theorem kd_Cr_codeCoil_99 : decode kc_Cr_codeCoil 99 = .ok (.iload_n 3, 1) := by decide +kernel
theorem kd_Cr_codeCoil_100 : decode kc_Cr_codeCoil 100 = .ok (.iconst 3, 1) := by decide +kernel
theorem kd_Cr_codeCoil_101 : decode kc_Cr_codeCoil 101 = .ok (.if_icmp .ne 14, 3) := by decide +kernel
theorem kd_Cr_codeCoil_104 : decode kc_Cr_codeCoil 104 = .ok (.aload_n 0, 1) := by decide +kernel
theorem kd_Cr_codeCoil_105 : decode kc_Cr_codeCoil 105 = .ok (.getfield 19, 3) := by decide +kernel
theorem kd_Cr_codeCoil_108 : decode kc_Cr_codeCoil 108 = .ok (.bipush 8, 2) := by decide +kernel
theorem kd_Cr_codeCoil_110 : decode kc_Cr_codeCoil 110 = .ok (.iconst 2, 1) := by decide +kernel
theorem kd_Cr_codeCoil_111 : decode kc_Cr_codeCoil 111 = .ok (.invokevirtual 101, 3) := by decide +kernel
theorem kd_Cr_codeCoil_114 : decode kc_Cr_codeCoil 114 = .ok (.pop, 1) := by decide +kernel
theorem kd_Cr_codeCoil_115 : decode kc_Cr_codeCoil 115 = .ok (.iload_n 3, 1) := by decide +kernel
theorem kd_Cr_codeCoil_116 : decode kc_Cr_codeCoil 116 = .ok (.iconst 2, 1) := by decide +kernel
theorem kd_Cr_codeCoil_117 : decode kc_Cr_codeCoil 117 = .ok (.if_icmp .lt 25, 3) := by decide +kernel
theorem kd_Cr_codeCoil_120 : decode kc_Cr_codeCoil 120 = .ok (.aload_n 0, 1) := by decide +kernel
theorem kd_Cr_codeCoil_121 : decode kc_Cr_codeCoil 121 = .ok (.getfield 19, 3) := by decide +kernel
theorem kd_Cr_codeCoil_124 : decode kc_Cr_codeCoil 124 = .ok (.bipush 7, 2) := by decide +kernel
theorem kd_Cr_codeCoil_126 : decode kc_Cr_codeCoil 126 = .ok (.iload_n 3, 1) := by decide +kernel
theorem kd_Cr_codeCoil_127 : decode kc_Cr_codeCoil 127 = .ok (.iconst 2, 1) := by decide +kernel
theorem kd_Cr_codeCoil_128 : decode kc_Cr_codeCoil 128 = .ok (.if_icmp .ne 8, 3) := by decide +kernel
theorem kd_Cr_codeCoil_131 : decode kc_Cr_codeCoil 131 = .ok (.bipush 11, 2) := by decide +kernel
theorem kd_Cr_codeCoil_133 : decode kc_Cr_codeCoil 133 = .ok (.goto 5, 3) := by decide +kernel
theorem kd_Cr_codeCoil_136 : decode kc_Cr_codeCoil 136 = .ok (.bipush 10, 2) := by decide +kernel
theorem kd_Cr_codeCoil_138 : decode kc_Cr_codeCoil 138 = .ok (.invokevirtual 101, 3) := by decide +kernel
theorem kd_Cr_codeCoil_141 : decode kc_Cr_codeCoil 141 = .ok (.pop, 1) := by decide +kernel
theorem kd_Cr_codeCoil_142 : decode kc_Cr_codeCoil 142 = .ok (.aload_n 0, 1) := by decide +kernel
theorem kd_Cr_codeCoil_143 : decode kc_Cr_codeCoil 143 = .ok (.getfield 19, 3) := by decide +kernel
theorem kd_Cr_codeCoil_146 : decode kc_Cr_codeCoil 146 = .ok (.iconst 2, 1) := by decide +kernel
theorem kd_Cr_codeCoil_147 : decode kc_Cr_codeCoil 147 = .ok (.iload 4, 2) := by decide +kernel
theorem kd_Cr_codeCoil_149 : decode kc_Cr_codeCoil 149 = .ok (.invokevirtual 101, 3) := by decide +kernel
theorem kd_Cr_codeCoil_152 : decode kc_Cr_codeCoil 152 = .ok (.pop, 1) := by decide +kernel
theorem kd_Cr_codeCoil_153 : decode kc_Cr_codeCoil 153 = .ok (.return_, 1) := by decide +kernel
theorem kd_Cr_codeGroup_0 : decode kc_Cr_codeGroup 0 = .ok (.iconst 0, 1) := by decide +kernel
theorem kd_Cr_codeGroup_1 : decode kc_Cr_codeGroup 1 = .ok (.istore 4, 2) := by decide +kernel
theorem kd_Cr_codeGroup_3 : decode kc_Cr_codeGroup 3 = .ok (.iload_n 1, 1) := by decide +kernel
theorem kd_Cr_codeGroup_4 : decode kc_Cr_codeGroup 4 = .ok (.istore 5, 2) := by decide +kernel
theorem kd_Cr_codeGroup_6 : decode kc_Cr_codeGroup 6 = .ok (.iload 5, 2) := by decide +kernel
theorem kd_Cr_codeGroup_8 : decode kc_Cr_codeGroup 8 = .ok (.iload_n 2, 1) := by decide +kernel
theorem kd_Cr_codeGroup_9 : decode kc_Cr_codeGroup 9 = .ok (.if_icmp .gt 68, 3) := by decide +kernel
theorem kd_Cr_codeGroup_12 : decode kc_Cr_codeGroup 12 = .ok (.aload_n 0, 1) := by decide +kernel
theorem kd_Cr_codeGroup_13 : decode kc_Cr_codeGroup 13 = .ok (.getfield 23, 3) := by decide +kernel
theorem kd_Cr_codeGroup_16 : decode kc_Cr_codeGroup 16 = .ok (.iload 5, 2) := by decide +kernel
theorem kd_Cr_codeGroup_18 : decode kc_Cr_codeGroup 18 = .ok (.bipush 12, 2) := by decide +kernel
theorem kd_Cr_codeGroup_20 : decode kc_Cr_codeGroup 20 = .ok (.imul, 1) := by decide +kernel
theorem kd_Cr_codeGroup_21 : decode kc_Cr_codeGroup 21 = .ok (.iload_n 3, 1) := by decide +kernel
theorem kd_Cr_codeGroup_22 : decode kc_Cr_codeGroup 22 = .ok (.iadd, 1) := by decide +kernel
theorem kd_Cr_codeGroup_23 : decode kc_Cr_codeGroup 23 = .ok (.iaload, 1) := by decide +kernel
theorem kd_Cr_codeGroup_24 : decode kc_Cr_codeGroup 24 = .ok (.istore 6, 2) := by decide +kernel
theorem kd_Cr_codeGroup_26 : decode kc_Cr_codeGroup 26 = .ok (.aload_n 0, 1) := by decide +kernel
theorem kd_Cr_codeGroup_27 : decode kc_Cr_codeGroup 27 = .ok (.getfield 9, 3) := by decide +kernel
theorem kd_Cr_codeGroup_30 : decode kc_Cr_codeGroup 30 = .ok (.getfield 90, 3) := by decide +kernel
theorem kd_Cr_codeGroup_33 : decode kc_Cr_codeGroup 33 = .ok (.iload 6, 2) := by decide +kernel
theorem kd_Cr_codeGroup_35 : decode kc_Cr_codeGroup 35 = .ok (.baload, 1) := by decide +kernel
theorem kd_Cr_codeGroup_36 : decode kc_Cr_codeGroup 36 = .ok (.bipush 27, 2) := by decide +kernel
theorem kd_Cr_codeGroup_38 : decode kc_Cr_codeGroup 38 = .ok (.if_icmp .eq 33, 3) := by decide +kernel
theorem kd_Cr_codeGroup_41 : decode kc_Cr_codeGroup 41 = .ok (.aload_n 0, 1) := by decide +kernel
theorem kd_Cr_codeGroup_42 : decode kc_Cr_codeGroup 42 = .ok (.iload 6, 2) := by decide +kernel
theorem kd_Cr_codeGroup_44 : decode kc_Cr_codeGroup 44 = .ok (.iload 5, 2) := by decide +kernel
theorem kd_Cr_codeGroup_46 : decode kc_Cr_codeGroup 46 = .ok (.iload_n 3, 1) := by decide +kernel
theorem kd_Cr_codeGroup_47 : decode kc_Cr_codeGroup 47 = .ok (.invokevirtual 225, 3) := by decide +kernel
theorem kd_Cr_codeGroup_50 : decode kc_Cr_codeGroup 50 = .ok (.iinc 4 1, 3) := by decide +kernel
theorem kd_Cr_codeGroup_53 : decode kc_Cr_codeGroup 53 = .ok (.iload 4, 2) := by decide +kernel
theorem kd_Cr_codeGroup_55 : decode kc_Cr_codeGroup 55 = .ok (.iconst 1, 1) := by decide +kernel
theorem kd_Cr_codeGroup_56 : decode kc_Cr_codeGroup 56 = .ok (.if_icmp .le 15, 3) := by decide +kernel
theorem kd_Cr_codeGroup_59 : decode kc_Cr_codeGroup 59 = .ok (.aload_n 0, 1) := by decide +kernel
theorem kd_Cr_codeGroup_60 : decode kc_Cr_codeGroup 60 = .ok (.getfield 19, 3) := by decide +kernel
theorem kd_Cr_codeGroup_63 : decode kc_Cr_codeGroup 63 = .ok (.bipush 7, 2) := by decide +kernel
theorem kd_Cr_codeGroup_65 : decode kc_Cr_codeGroup 65 = .ok (.bipush 11, 2) := by decide +kernel
theorem kd_Cr_codeGroup_67 : decode kc_Cr_codeGroup 67 = .ok (.invokevirtual 101, 3) := by decide +kernel
theorem kd_Cr_codeGroup_70 : decode kc_Cr_codeGroup 70 = .ok (.pop, 1) := by decide +kernel
theorem kd_Cr_codeGroup_71 : decode kc_Cr_codeGroup 71 = .ok (.iinc 5 1, 3) := by decide +kernel
theorem kd_Cr_codeGroup_74 : decode kc_Cr_codeGroup 74 = .ok (.goto (-68), 3) := by decide +kernel
theorem kd_Cr_codeGroup_77 : decode kc_Cr_codeGroup 77 = .ok (.iload 4, 2) := by decide +kernel
theorem kd_Cr_codeGroup_79 : decode kc_Cr_codeGroup 79 = .ok (.ifCond .ne 13, 3) := by decide +kernel
theorem kd_Cr_codeGroup_82 : decode kc_Cr_codeGroup 82 = .ok (.aload_n 0, 1) := by decide +kernel
theorem kd_Cr_codeGroup_83 : decode kc_Cr_codeGroup 83 = .ok (.getfield 19, 3) := by decide +kernel
theorem kd_Cr_codeGroup_86 : decode kc_Cr_codeGroup 86 = .ok (.iconst 0, 1) := by decide +kernel
theorem kd_Cr_codeGroup_87 : decode kc_Cr_codeGroup 87 = .ok (.iconst 0, 1) := by decide +kernel
theorem kd_Cr_codeGroup_88 : decode kc_Cr_codeGroup 88 = .ok (.invokevirtual 101, 3) := by decide +kernel
theorem kd_Cr_codeGroup_91 : decode kc_Cr_codeGroup 91 = .ok (.pop, 1) := by decide +kernel
theorem kd_Cr_codeGroup_92 : decode kc_Cr_codeGroup 92 = .ok (.aload_n 0, 1) := by decide +kernel
theorem kd_Cr_codeGroup_93 : decode kc_Cr_codeGroup 93 = .ok (.getfield 19, 3) := by decide +kernel
theorem kd_Cr_codeGroup_96 : decode kc_Cr_codeGroup 96 = .ok (.iconst 2, 1) := by decide +kernel
theorem kd_Cr_codeGroup_97 : decode kc_Cr_codeGroup 97 = .ok (.aload_n 0, 1) := by decide +kernel
theorem kd_Cr_codeGroup_98 : decode kc_Cr_codeGroup 98 = .ok (.iload_n 1, 1) := by decide +kernel
theorem kd_Cr_codeGroup_99 : decode kc_Cr_codeGroup 99 = .ok (.iload_n 3, 1) := by decide +kernel
theorem kd_Cr_codeGroup_100 : decode kc_Cr_codeGroup 100 = .ok (.invokevirtual 228, 3) := by decide +kernel
theorem kd_Cr_codeGroup_103 : decode kc_Cr_codeGroup 103 = .ok (.invokevirtual 101, 3) := by decide +kernel
theorem kd_Cr_codeGroup_106 : decode kc_Cr_codeGroup 106 = .ok (.pop, 1) := by decide +kernel
theorem kd_Cr_codeGroup_107 : decode kc_Cr_codeGroup 107 = .ok (.return_, 1) := by decide +kernel
theorem kd_Cr_codeRung_0 : decode kc_Cr_codeRung 0 = .ok (.aload_n 0, 1) := by decide +kernel
theorem kd_Cr_codeRung_1 : decode kc_Cr_codeRung 1 = .ok (.iload_n 1, 1) := by decide +kernel
theorem kd_Cr_codeRung_2 : decode kc_Cr_codeRung 2 = .ok (.invokevirtual 203, 3) := by decide +kernel
theorem kd_Cr_codeRung_5 : decode kc_Cr_codeRung 5 = .ok (.iconst 0, 1) := by decide +kernel
theorem kd_Cr_codeRung_6 : decode kc_Cr_codeRung 6 = .ok (.istore_n 2, 1) := by decide +kernel
theorem kd_Cr_codeRung_7 : decode kc_Cr_codeRung 7 = .ok (.iload_n 2, 1) := by decide +kernel
theorem kd_Cr_codeRung_8 : decode kc_Cr_codeRung 8 = .ok (.aload_n 0, 1) := by decide +kernel
theorem kd_Cr_codeRung_9 : decode kc_Cr_codeRung 9 = .ok (.getfield 206, 3) := by decide +kernel
theorem kd_Cr_codeRung_12 : decode kc_Cr_codeRung 12 = .ok (.if_icmp .ge 80, 3) := by decide +kernel
theorem kd_Cr_codeRung_15 : decode kc_Cr_codeRung 15 = .ok (.iconst 0, 1) := by decide +kernel
theorem kd_Cr_codeRung_16 : decode kc_Cr_codeRung 16 = .ok (.istore_n 3, 1) := by decide +kernel
theorem kd_Cr_codeRung_17 : decode kc_Cr_codeRung 17 = .ok (.iconst 0, 1) := by decide +kernel
theorem kd_Cr_codeRung_18 : decode kc_Cr_codeRung 18 = .ok (.istore 4, 2) := by decide +kernel
theorem kd_Cr_codeRung_20 : decode kc_Cr_codeRung 20 = .ok (.iload 4, 2) := by decide +kernel
theorem kd_Cr_codeRung_22 : decode kc_Cr_codeRung 22 = .ok (.bipush 12, 2) := by decide +kernel
theorem kd_Cr_codeRung_24 : decode kc_Cr_codeRung 24 = .ok (.if_icmp .ge 62, 3) := by decide +kernel
theorem kd_Cr_codeRung_27 : decode kc_Cr_codeRung 27 = .ok (.iload_n 3, 1) := by decide +kernel
theorem kd_Cr_codeRung_28 : decode kc_Cr_codeRung 28 = .ok (.aload_n 0, 1) := by decide +kernel
theorem kd_Cr_codeRung_29 : decode kc_Cr_codeRung 29 = .ok (.getfield 209, 3) := by decide +kernel
theorem kd_Cr_codeRung_32 : decode kc_Cr_codeRung 32 = .ok (.if_icmp .ge 54, 3) := by decide +kernel
theorem kd_Cr_codeRung_35 : decode kc_Cr_codeRung 35 = .ok (.aload_n 0, 1) := by decide +kernel
theorem kd_Cr_codeRung_36 : decode kc_Cr_codeRung 36 = .ok (.iload_n 3, 1) := by decide +kernel
theorem kd_Cr_codeRung_37 : decode kc_Cr_codeRung 37 = .ok (.iload_n 2, 1) := by decide +kernel
theorem kd_Cr_codeRung_38 : decode kc_Cr_codeRung 38 = .ok (.invokevirtual 212, 3) := by decide +kernel
theorem kd_Cr_codeRung_41 : decode kc_Cr_codeRung 41 = .ok (.istore 5, 2) := by decide +kernel
theorem kd_Cr_codeRung_43 : decode kc_Cr_codeRung 43 = .ok (.aload_n 0, 1) := by decide +kernel
theorem kd_Cr_codeRung_44 : decode kc_Cr_codeRung 44 = .ok (.getfield 9, 3) := by decide +kernel
theorem kd_Cr_codeRung_47 : decode kc_Cr_codeRung 47 = .ok (.getfield 90, 3) := by decide +kernel
theorem kd_Cr_codeRung_50 : decode kc_Cr_codeRung 50 = .ok (.aload_n 0, 1) := by decide +kernel
theorem kd_Cr_codeRung_51 : decode kc_Cr_codeRung 51 = .ok (.getfield 23, 3) := by decide +kernel
theorem kd_Cr_codeRung_54 : decode kc_Cr_codeRung 54 = .ok (.iload_n 3, 1) := by decide +kernel
theorem kd_Cr_codeRung_55 : decode kc_Cr_codeRung 55 = .ok (.bipush 12, 2) := by decide +kernel
theorem kd_Cr_codeRung_57 : decode kc_Cr_codeRung 57 = .ok (.imul, 1) := by decide +kernel
theorem kd_Cr_codeRung_58 : decode kc_Cr_codeRung 58 = .ok (.iload_n 2, 1) := by decide +kernel
theorem kd_Cr_codeRung_59 : decode kc_Cr_codeRung 59 = .ok (.iadd, 1) := by decide +kernel
theorem kd_Cr_codeRung_60 : decode kc_Cr_codeRung 60 = .ok (.iaload, 1) := by decide +kernel
theorem kd_Cr_codeRung_61 : decode kc_Cr_codeRung 61 = .ok (.baload, 1) := by decide +kernel
theorem kd_Cr_codeRung_62 : decode kc_Cr_codeRung 62 = .ok (.bipush 28, 2) := by decide +kernel
theorem kd_Cr_codeRung_64 : decode kc_Cr_codeRung 64 = .ok (.if_icmp .eq 11, 3) := by decide +kernel
theorem kd_Cr_codeRung_67 : decode kc_Cr_codeRung 67 = .ok (.aload_n 0, 1) := by decide +kernel
theorem kd_Cr_codeRung_68 : decode kc_Cr_codeRung 68 = .ok (.iload_n 3, 1) := by decide +kernel
theorem kd_Cr_codeRung_69 : decode kc_Cr_codeRung 69 = .ok (.iload 5, 2) := by decide +kernel
theorem kd_Cr_codeRung_71 : decode kc_Cr_codeRung 71 = .ok (.iload_n 2, 1) := by decide +kernel
theorem kd_Cr_codeRung_72 : decode kc_Cr_codeRung 72 = .ok (.invokevirtual 215, 3) := by decide +kernel
theorem kd_Cr_codeRung_75 : decode kc_Cr_codeRung 75 = .ok (.iload 5, 2) := by decide +kernel
theorem kd_Cr_codeRung_77 : decode kc_Cr_codeRung 77 = .ok (.iconst 1, 1) := by decide +kernel
theorem kd_Cr_codeRung_78 : decode kc_Cr_codeRung 78 = .ok (.iadd, 1) := by decide +kernel
theorem kd_Cr_codeRung_79 : decode kc_Cr_codeRung 79 = .ok (.istore_n 3, 1) := by decide +kernel
theorem kd_Cr_codeRung_80 : decode kc_Cr_codeRung 80 = .ok (.iinc 4 1, 3) := by decide +kernel
theorem kd_Cr_codeRung_83 : decode kc_Cr_codeRung 83 = .ok (.goto (-63), 3) := by decide +kernel
theorem kd_Cr_codeRung_86 : decode kc_Cr_codeRung 86 = .ok (.iinc 2 1, 3) := by decide +kernel
theorem kd_Cr_codeRung_89 : decode kc_Cr_codeRung 89 = .ok (.goto (-82), 3) := by decide +kernel
theorem kd_Cr_codeRung_92 : decode kc_Cr_codeRung 92 = .ok (.iconst 0, 1) := by decide +kernel
theorem kd_Cr_codeRung_93 : decode kc_Cr_codeRung 93 = .ok (.istore_n 2, 1) := by decide +kernel
theorem kd_Cr_codeRung_94 : decode kc_Cr_codeRung 94 = .ok (.iload_n 2, 1) := by decide +kernel
theorem kd_Cr_codeRung_95 : decode kc_Cr_codeRung 95 = .ok (.aload_n 0, 1) := by decide +kernel
theorem kd_Cr_codeRung_96 : decode kc_Cr_codeRung 96 = .ok (.getfield 209, 3) := by decide +kernel
theorem kd_Cr_codeRung_99 : decode kc_Cr_codeRung 99 = .ok (.if_icmp .ge 46, 3) := by decide +kernel
theorem kd_Cr_codeRung_102 : decode kc_Cr_codeRung 102 = .ok (.aload_n 0, 1) := by decide +kernel
theorem kd_Cr_codeRung_103 : decode kc_Cr_codeRung 103 = .ok (.getfield 23, 3) := by decide +kernel
theorem kd_Cr_codeRung_106 : decode kc_Cr_codeRung 106 = .ok (.iload_n 2, 1) := by decide +kernel
theorem kd_Cr_codeRung_107 : decode kc_Cr_codeRung 107 = .ok (.bipush 12, 2) := by decide +kernel
theorem kd_Cr_codeRung_109 : decode kc_Cr_codeRung 109 = .ok (.imul, 1) := by decide +kernel
theorem kd_Cr_codeRung_110 : decode kc_Cr_codeRung 110 = .ok (.aload_n 0, 1) := by decide +kernel
theorem kd_Cr_codeRung_111 : decode kc_Cr_codeRung 111 = .ok (.getfield 206, 3) := by decide +kernel
theorem kd_Cr_codeRung_114 : decode kc_Cr_codeRung 114 = .ok (.iadd, 1) := by decide +kernel
theorem kd_Cr_codeRung_115 : decode kc_Cr_codeRung 115 = .ok (.iconst 1, 1) := by decide +kernel
theorem kd_Cr_codeRung_116 : decode kc_Cr_codeRung 116 = .ok (.isub, 1) := by decide +kernel
theorem kd_Cr_codeRung_117 : decode kc_Cr_codeRung 117 = .ok (.iaload, 1) := by decide +kernel
theorem kd_Cr_codeRung_118 : decode kc_Cr_codeRung 118 = .ok (.istore_n 3, 1) := by decide +kernel
theorem kd_Cr_codeRung_119 : decode kc_Cr_codeRung 119 = .ok (.aload_n 0, 1) := by decide +kernel
theorem kd_Cr_codeRung_120 : decode kc_Cr_codeRung 120 = .ok (.getfield 9, 3) := by decide +kernel
theorem kd_Cr_codeRung_123 : decode kc_Cr_codeRung 123 = .ok (.getfield 90, 3) := by decide +kernel
theorem kd_Cr_codeRung_126 : decode kc_Cr_codeRung 126 = .ok (.iload_n 3, 1) := by decide +kernel
theorem kd_Cr_codeRung_127 : decode kc_Cr_codeRung 127 = .ok (.baload, 1) := by decide +kernel
theorem kd_Cr_codeRung_128 : decode kc_Cr_codeRung 128 = .ok (.bipush 28, 2) := by decide +kernel
theorem kd_Cr_codeRung_130 : decode kc_Cr_codeRung 130 = .ok (.if_icmp .ne 9, 3) := by decide +kernel
theorem kd_Cr_codeRung_133 : decode kc_Cr_codeRung 133 = .ok (.aload_n 0, 1) := by decide +kernel
theorem kd_Cr_codeRung_134 : decode kc_Cr_codeRung 134 = .ok (.iload_n 3, 1) := by decide +kernel
theorem kd_Cr_codeRung_135 : decode kc_Cr_codeRung 135 = .ok (.iload_n 2, 1) := by decide +kernel
theorem kd_Cr_codeRung_136 : decode kc_Cr_codeRung 136 = .ok (.invokevirtual 219, 3) := by decide +kernel
theorem kd_Cr_codeRung_139 : decode kc_Cr_codeRung 139 = .ok (.iinc 2 1, 3) := by decide +kernel
theorem kd_Cr_codeRung_142 : decode kc_Cr_codeRung 142 = .ok (.goto (-48), 3) := by decide +kernel
theorem kd_Cr_codeRung_145 : decode kc_Cr_codeRung 145 = .ok (.return_, 1) := by decide +kernel
theorem kd_Cr_codeWay_0 : decode kc_Cr_codeWay 0 = .ok (.iload_n 3, 1) := by decide +kernel
theorem kd_Cr_codeWay_1 : decode kc_Cr_codeWay 1 = .ok (.ifCond .ne 16, 3) := by decide +kernel
theorem kd_Cr_codeWay_4 : decode kc_Cr_codeWay 4 = .ok (.aload_n 0, 1) := by decide +kernel
theorem kd_Cr_codeWay_5 : decode kc_Cr_codeWay 5 = .ok (.getfield 19, 3) := by decide +kernel
theorem kd_Cr_codeWay_8 : decode kc_Cr_codeWay 8 = .ok (.iconst 0, 1) := by decide +kernel
theorem kd_Cr_codeWay_9 : decode kc_Cr_codeWay 9 = .ok (.iconst 1, 1) := by decide +kernel
theorem kd_Cr_codeWay_10 : decode kc_Cr_codeWay 10 = .ok (.invokevirtual 101, 3) := by decide +kernel
theorem kd_Cr_codeWay_13 : decode kc_Cr_codeWay 13 = .ok (.pop, 1) := by decide +kernel
theorem kd_Cr_codeWay_14 : decode kc_Cr_codeWay 14 = .ok (.goto 20, 3) := by decide +kernel
theorem kd_Cr_codeWay_17 : decode kc_Cr_codeWay 17 = .ok (.aload_n 0, 1) := by decide +kernel
theorem kd_Cr_codeWay_18 : decode kc_Cr_codeWay 18 = .ok (.getfield 19, 3) := by decide +kernel
theorem kd_Cr_codeWay_21 : decode kc_Cr_codeWay 21 = .ok (.iconst 1, 1) := by decide +kernel
theorem kd_Cr_codeWay_22 : decode kc_Cr_codeWay 22 = .ok (.aload_n 0, 1) := by decide +kernel
theorem kd_Cr_codeWay_23 : decode kc_Cr_codeWay 23 = .ok (.iload_n 2, 1) := by decide +kernel
theorem kd_Cr_codeWay_24 : decode kc_Cr_codeWay 24 = .ok (.iload_n 3, 1) := by decide +kernel
theorem kd_Cr_codeWay_25 : decode kc_Cr_codeWay 25 = .ok (.iconst 1, 1) := by decide +kernel
theorem kd_Cr_codeWay_26 : decode kc_Cr_codeWay 26 = .ok (.isub, 1) := by decide +kernel
theorem kd_Cr_codeWay_27 : decode kc_Cr_codeWay 27 = .ok (.invokevirtual 228, 3) := by decide +kernel
theorem kd_Cr_codeWay_30 : decode kc_Cr_codeWay 30 = .ok (.invokevirtual 101, 3) := by decide +kernel
theorem kd_Cr_codeWay_33 : decode kc_Cr_codeWay 33 = .ok (.pop, 1) := by decide +kernel
theorem kd_Cr_codeWay_34 : decode kc_Cr_codeWay 34 = .ok (.aload_n 0, 1) := by decide +kernel
theorem kd_Cr_codeWay_35 : decode kc_Cr_codeWay 35 = .ok (.getfield 9, 3) := by decide +kernel
theorem kd_Cr_codeWay_38 : decode kc_Cr_codeWay 38 = .ok (.getfield 90, 3) := by decide +kernel
theorem kd_Cr_codeWay_41 : decode kc_Cr_codeWay 41 = .ok (.iload_n 1, 1) := by decide +kernel
theorem kd_Cr_codeWay_42 : decode kc_Cr_codeWay 42 = .ok (.baload, 1) := by decide +kernel
theorem kd_Cr_codeWay_43 : decode kc_Cr_codeWay 43 = .ok (.bipush 25, 2) := by decide +kernel
theorem kd_Cr_codeWay_45 : decode kc_Cr_codeWay 45 = .ok (.if_icmp .eq 4, 3) := by decide +kernel
theorem kd_Cr_codeWay_48 : decode kc_Cr_codeWay 48 = .ok (.return_, 1) := by decide +kernel
theorem kd_Cr_codeWay_49 : decode kc_Cr_codeWay 49 = .ok (.aload_n 0, 1) := by decide +kernel
theorem kd_Cr_codeWay_50 : decode kc_Cr_codeWay 50 = .ok (.aload_n 0, 1) := by decide +kernel
theorem kd_Cr_codeWay_51 : decode kc_Cr_codeWay 51 = .ok (.getfield 9, 3) := by decide +kernel
theorem kd_Cr_codeWay_54 : decode kc_Cr_codeWay 54 = .ok (.getfield 80, 3) := by decide +kernel
theorem kd_Cr_codeWay_57 : decode kc_Cr_codeWay 57 = .ok (.iload_n 1, 1) := by decide +kernel
theorem kd_Cr_codeWay_58 : decode kc_Cr_codeWay 58 = .ok (.iaload, 1) := by decide +kernel
theorem kd_Cr_codeWay_59 : decode kc_Cr_codeWay 59 = .ok (.invokevirtual 181, 3) := by decide +kernel
theorem kd_Cr_codeWay_62 : decode kc_Cr_codeWay 62 = .ok (.istore 4, 2) := by decide +kernel
theorem kd_Cr_codeWay_64 : decode kc_Cr_codeWay 64 = .ok (.aload_n 0, 1) := by decide +kernel
theorem kd_Cr_codeWay_65 : decode kc_Cr_codeWay 65 = .ok (.getfield 9, 3) := by decide +kernel
theorem kd_Cr_codeWay_68 : decode kc_Cr_codeWay 68 = .ok (.getfield 135, 3) := by decide +kernel
theorem kd_Cr_codeWay_71 : decode kc_Cr_codeWay 71 = .ok (.iload_n 1, 1) := by decide +kernel
theorem kd_Cr_codeWay_72 : decode kc_Cr_codeWay 72 = .ok (.iaload, 1) := by decide +kernel
theorem kd_Cr_codeWay_73 : decode kc_Cr_codeWay 73 = .ok (.istore 5, 2) := by decide +kernel
theorem kd_Cr_codeWay_75 : decode kc_Cr_codeWay 75 = .ok (.iload 5, 2) := by decide +kernel
theorem kd_Cr_codeWay_77 : decode kc_Cr_codeWay 77 = .ok (.iconst 2, 1) := by decide +kernel
theorem kd_Cr_codeWay_78 : decode kc_Cr_codeWay 78 = .ok (.if_icmp .lt 32, 3) := by decide +kernel
theorem kd_Cr_codeWay_81 : decode kc_Cr_codeWay 81 = .ok (.aload_n 0, 1) := by decide +kernel
theorem kd_Cr_codeWay_82 : decode kc_Cr_codeWay 82 = .ok (.iload 4, 2) := by decide +kernel
theorem kd_Cr_codeWay_84 : decode kc_Cr_codeWay 84 = .ok (.iload 5, 2) := by decide +kernel
theorem kd_Cr_codeWay_86 : decode kc_Cr_codeWay 86 = .ok (.iconst 2, 1) := by decide +kernel
theorem kd_Cr_codeWay_87 : decode kc_Cr_codeWay 87 = .ok (.if_icmp .ne 7, 3) := by decide +kernel
theorem kd_Cr_codeWay_90 : decode kc_Cr_codeWay 90 = .ok (.iconst 1, 1) := by decide +kernel
theorem kd_Cr_codeWay_91 : decode kc_Cr_codeWay 91 = .ok (.goto 4, 3) := by decide +kernel
theorem kd_Cr_codeWay_94 : decode kc_Cr_codeWay 94 = .ok (.iconst 0, 1) := by decide +kernel
theorem kd_Cr_codeWay_95 : decode kc_Cr_codeWay 95 = .ok (.aload_n 0, 1) := by decide +kernel
theorem kd_Cr_codeWay_96 : decode kc_Cr_codeWay 96 = .ok (.getfield 27, 3) := by decide +kernel
theorem kd_Cr_codeWay_99 : decode kc_Cr_codeWay 99 = .ok (.iload_n 2, 1) := by decide +kernel
theorem kd_Cr_codeWay_100 : decode kc_Cr_codeWay 100 = .ok (.bipush 12, 2) := by decide +kernel
theorem kd_Cr_codeWay_102 : decode kc_Cr_codeWay 102 = .ok (.imul, 1) := by decide +kernel
theorem kd_Cr_codeWay_103 : decode kc_Cr_codeWay 103 = .ok (.iload_n 3, 1) := by decide +kernel
theorem kd_Cr_codeWay_104 : decode kc_Cr_codeWay 104 = .ok (.iadd, 1) := by decide +kernel
theorem kd_Cr_codeWay_105 : decode kc_Cr_codeWay 105 = .ok (.iaload, 1) := by decide +kernel
theorem kd_Cr_codeWay_106 : decode kc_Cr_codeWay 106 = .ok (.invokevirtual 231, 3) := by decide +kernel
theorem kd_Cr_codeWay_109 : decode kc_Cr_codeWay 109 = .ok (.return_, 1) := by decide +kernel
theorem kd_Cr_codeWay_110 : decode kc_Cr_codeWay 110 = .ok (.aload_n 0, 1) := by decide +kernel
theorem kd_Cr_codeWay_111 : decode kc_Cr_codeWay 111 = .ok (.getfield 19, 3) := by decide +kernel
theorem kd_Cr_codeWay_114 : decode kc_Cr_codeWay 114 = .ok (.iconst 1, 1) := by decide +kernel
theorem kd_Cr_codeWay_115 : decode kc_Cr_codeWay 115 = .ok (.iload 4, 2) := by decide +kernel
theorem kd_Cr_codeWay_117 : decode kc_Cr_codeWay 117 = .ok (.invokevirtual 101, 3) := by decide +kernel
theorem kd_Cr_codeWay_120 : decode kc_Cr_codeWay 120 = .ok (.pop, 1) := by decide +kernel
theorem kd_Cr_codeWay_121 : decode kc_Cr_codeWay 121 = .ok (.iload 5, 2) := by decide +kernel
theorem kd_Cr_codeWay_123 : decode kc_Cr_codeWay 123 = .ok (.iconst 1, 1) := by decide +kernel
theorem kd_Cr_codeWay_124 : decode kc_Cr_codeWay 124 = .ok (.if_icmp .ne 14, 3) := by decide +kernel
theorem kd_Cr_codeWay_127 : decode kc_Cr_codeWay 127 = .ok (.aload_n 0, 1) := by decide +kernel
theorem kd_Cr_codeWay_128 : decode kc_Cr_codeWay 128 = .ok (.getfield 19, 3) := by decide +kernel
theorem kd_Cr_codeWay_131 : decode kc_Cr_codeWay 131 = .ok (.bipush 8, 2) := by decide +kernel
theorem kd_Cr_codeWay_133 : decode kc_Cr_codeWay 133 = .ok (.iconst 2, 1) := by decide +kernel
theorem kd_Cr_codeWay_134 : decode kc_Cr_codeWay 134 = .ok (.invokevirtual 101, 3) := by decide +kernel
theorem kd_Cr_codeWay_137 : decode kc_Cr_codeWay 137 = .ok (.pop, 1) := by decide +kernel
theorem kd_Cr_codeWay_138 : decode kc_Cr_codeWay 138 = .ok (.aload_n 0, 1) := by decide +kernel
theorem kd_Cr_codeWay_139 : decode kc_Cr_codeWay 139 = .ok (.getfield 19, 3) := by decide +kernel
theorem kd_Cr_codeWay_142 : decode kc_Cr_codeWay 142 = .ok (.bipush 7, 2) := by decide +kernel
theorem kd_Cr_codeWay_144 : decode kc_Cr_codeWay 144 = .ok (.bipush 10, 2) := by decide +kernel
theorem kd_Cr_codeWay_146 : decode kc_Cr_codeWay 146 = .ok (.invokevirtual 101, 3) := by decide +kernel
theorem kd_Cr_codeWay_149 : decode kc_Cr_codeWay 149 = .ok (.pop, 1) := by decide +kernel
theorem kd_Cr_codeWay_150 : decode kc_Cr_codeWay 150 = .ok (.return_, 1) := by decide +kernel
theorem kd_Cr_power_0 : decode kc_Cr_power 0 = .ok (.iload_n 1, 1) := by decide +kernel
theorem kd_Cr_power_1 : decode kc_Cr_power 1 = .ok (.istore_n 3, 1) := by decide +kernel
theorem kd_Cr_power_2 : decode kc_Cr_power 2 = .ok (.iload_n 3, 1) := by decide +kernel
theorem kd_Cr_power_3 : decode kc_Cr_power 3 = .ok (.ifCond .le 25, 3) := by decide +kernel
theorem kd_Cr_power_6 : decode kc_Cr_power 6 = .ok (.aload_n 0, 1) := by decide +kernel
theorem kd_Cr_power_7 : decode kc_Cr_power 7 = .ok (.getfield 30, 3) := by decide +kernel
theorem kd_Cr_power_10 : decode kc_Cr_power 10 = .ok (.iload_n 3, 1) := by decide +kernel
theorem kd_Cr_power_11 : decode kc_Cr_power 11 = .ok (.iconst 1, 1) := by decide +kernel
theorem kd_Cr_power_12 : decode kc_Cr_power 12 = .ok (.isub, 1) := by decide +kernel
theorem kd_Cr_power_13 : decode kc_Cr_power 13 = .ok (.bipush 12, 2) := by decide +kernel
theorem kd_Cr_power_15 : decode kc_Cr_power 15 = .ok (.imul, 1) := by decide +kernel
theorem kd_Cr_power_16 : decode kc_Cr_power 16 = .ok (.iload_n 2, 1) := by decide +kernel
theorem kd_Cr_power_17 : decode kc_Cr_power 17 = .ok (.iadd, 1) := by decide +kernel
theorem kd_Cr_power_18 : decode kc_Cr_power 18 = .ok (.baload, 1) := by decide +kernel
theorem kd_Cr_power_19 : decode kc_Cr_power 19 = .ok (.ifCond .eq 9, 3) := by decide +kernel
theorem kd_Cr_power_22 : decode kc_Cr_power 22 = .ok (.iinc 3 (-1), 3) := by decide +kernel
theorem kd_Cr_power_25 : decode kc_Cr_power 25 = .ok (.goto (-23), 3) := by decide +kernel
theorem kd_Cr_power_28 : decode kc_Cr_power 28 = .ok (.aload_n 0, 1) := by decide +kernel
theorem kd_Cr_power_29 : decode kc_Cr_power 29 = .ok (.getfield 66, 3) := by decide +kernel
theorem kd_Cr_power_32 : decode kc_Cr_power 32 = .ok (.bipush 12, 2) := by decide +kernel
theorem kd_Cr_power_34 : decode kc_Cr_power 34 = .ok (.iload_n 2, 1) := by decide +kernel
theorem kd_Cr_power_35 : decode kc_Cr_power 35 = .ok (.imul, 1) := by decide +kernel
theorem kd_Cr_power_36 : decode kc_Cr_power 36 = .ok (.iadd, 1) := by decide +kernel
theorem kd_Cr_power_37 : decode kc_Cr_power 37 = .ok (.iload_n 3, 1) := by decide +kernel
theorem kd_Cr_power_38 : decode kc_Cr_power 38 = .ok (.iadd, 1) := by decide +kernel
theorem kd_Cr_power_39 : decode kc_Cr_power 39 = .ok (.ireturn, 1) := by decide +kernel
theorem kd_Pv_highest_0 : decode kc_Pv_highest 0 = .ok (.iload_n 1, 1) := by decide +kernel
theorem kd_Pv_highest_1 : decode kc_Pv_highest 1 = .ok (.istore_n 3, 1) := by decide +kernel
theorem kd_Pv_highest_2 : decode kc_Pv_highest 2 = .ok (.iload_n 3, 1) := by decide +kernel
theorem kd_Pv_highest_3 : decode kc_Pv_highest 3 = .ok (.iload_n 2, 1) := by decide +kernel
theorem kd_Pv_highest_4 : decode kc_Pv_highest 4 = .ok (.if_icmp .gt 25, 3) := by decide +kernel
theorem kd_Pv_highest_7 : decode kc_Pv_highest 7 = .ok (.aload_n 0, 1) := by decide +kernel
theorem kd_Pv_highest_8 : decode kc_Pv_highest 8 = .ok (.getfield 19, 3) := by decide +kernel
theorem kd_Pv_highest_11 : decode kc_Pv_highest 11 = .ok (.iload_n 3, 1) := by decide +kernel
theorem kd_Pv_highest_12 : decode kc_Pv_highest 12 = .ok (.iload_n 3, 1) := by decide +kernel
theorem kd_Pv_highest_13 : decode kc_Pv_highest 13 = .ok (.iload_n 1, 1) := by decide +kernel
theorem kd_Pv_highest_14 : decode kc_Pv_highest 14 = .ok (.if_icmp .ne 7, 3) := by decide +kernel
theorem kd_Pv_highest_17 : decode kc_Pv_highest 17 = .ok (.iconst 1, 1) := by decide +kernel
theorem kd_Pv_highest_18 : decode kc_Pv_highest 18 = .ok (.goto 4, 3) := by decide +kernel
theorem kd_Pv_highest_21 : decode kc_Pv_highest 21 = .ok (.iconst 0, 1) := by decide +kernel
theorem kd_Pv_highest_22 : decode kc_Pv_highest 22 = .ok (.bastore, 1) := by decide +kernel
theorem kd_Pv_highest_23 : decode kc_Pv_highest 23 = .ok (.iinc 3 1, 3) := by decide +kernel
theorem kd_Pv_highest_26 : decode kc_Pv_highest 26 = .ok (.goto (-24), 3) := by decide +kernel
theorem kd_Pv_highest_29 : decode kc_Pv_highest 29 = .ok (.iconst 0, 1) := by decide +kernel
theorem kd_Pv_highest_30 : decode kc_Pv_highest 30 = .ok (.istore_n 3, 1) := by decide +kernel
theorem kd_Pv_highest_31 : decode kc_Pv_highest 31 = .ok (.iconst 0, 1) := by decide +kernel
theorem kd_Pv_highest_32 : decode kc_Pv_highest 32 = .ok (.istore 4, 2) := by decide +kernel
theorem kd_Pv_highest_34 : decode kc_Pv_highest 34 = .ok (.iload_n 1, 1) := by decide +kernel
theorem kd_Pv_highest_35 : decode kc_Pv_highest 35 = .ok (.istore 5, 2) := by decide +kernel
theorem kd_Pv_highest_37 : decode kc_Pv_highest 37 = .ok (.iload 5, 2) := by decide +kernel
theorem kd_Pv_highest_39 : decode kc_Pv_highest 39 = .ok (.iload_n 2, 1) := by decide +kernel
theorem kd_Pv_highest_40 : decode kc_Pv_highest 40 = .ok (.if_icmp .ge 117, 3) := by decide +kernel
theorem kd_Pv_highest_43 : decode kc_Pv_highest 43 = .ok (.aload_n 0, 1) := by decide +kernel
theorem kd_Pv_highest_44 : decode kc_Pv_highest 44 = .ok (.getfield 9, 3) := by decide +kernel
theorem kd_Pv_highest_47 : decode kc_Pv_highest 47 = .ok (.getfield 61, 3) := by decide +kernel
theorem kd_Pv_highest_50 : decode kc_Pv_highest 50 = .ok (.iload 5, 2) := by decide +kernel
theorem kd_Pv_highest_52 : decode kc_Pv_highest 52 = .ok (.baload, 1) := by decide +kernel
theorem kd_Pv_highest_53 : decode kc_Pv_highest 53 = .ok (.istore 6, 2) := by decide +kernel
theorem kd_Pv_highest_55 : decode kc_Pv_highest 55 = .ok (.iload 4, 2) := by decide +kernel
theorem kd_Pv_highest_57 : decode kc_Pv_highest 57 = .ok (.getstatic 65, 3) := by decide +kernel
theorem kd_Pv_highest_60 : decode kc_Pv_highest 60 = .ok (.iload 6, 2) := by decide +kernel
theorem kd_Pv_highest_62 : decode kc_Pv_highest 62 = .ok (.iaload, 1) := by decide +kernel
theorem kd_Pv_highest_63 : decode kc_Pv_highest 63 = .ok (.iadd, 1) := by decide +kernel
theorem kd_Pv_highest_64 : decode kc_Pv_highest 64 = .ok (.istore 4, 2) := by decide +kernel
theorem kd_Pv_highest_66 : decode kc_Pv_highest 66 = .ok (.aload_n 0, 1) := by decide +kernel
theorem kd_Pv_highest_67 : decode kc_Pv_highest 67 = .ok (.getfield 19, 3) := by decide +kernel
theorem kd_Pv_highest_70 : decode kc_Pv_highest 70 = .ok (.iload 5, 2) := by decide +kernel
theorem kd_Pv_highest_72 : decode kc_Pv_highest 72 = .ok (.baload, 1) := by decide +kernel
theorem kd_Pv_highest_73 : decode kc_Pv_highest 73 = .ok (.ifCond .eq 78, 3) := by decide +kernel
theorem kd_Pv_highest_76 : decode kc_Pv_highest 76 = .ok (.iload_n 3, 1) := by decide +kernel
theorem kd_Pv_highest_77 : decode kc_Pv_highest 77 = .ok (.iload 4, 2) := by decide +kernel
theorem kd_Pv_highest_79 : decode kc_Pv_highest 79 = .ok (.invokestatic 68, 3) := by decide +kernel
theorem kd_Pv_highest_82 : decode kc_Pv_highest 82 = .ok (.istore_n 3, 1) := by decide +kernel
theorem kd_Pv_highest_83 : decode kc_Pv_highest 83 = .ok (.iload 6, 2) := by decide +kernel
theorem kd_Pv_highest_85 : decode kc_Pv_highest 85 = .ok (.bipush 10, 2) := by decide +kernel
theorem kd_Pv_highest_87 : decode kc_Pv_highest 87 = .ok (.if_icmp .eq 17, 3) := by decide +kernel
theorem kd_Pv_highest_90 : decode kc_Pv_highest 90 = .ok (.iload 6, 2) := by decide +kernel
theorem kd_Pv_highest_92 : decode kc_Pv_highest 92 = .ok (.bipush 11, 2) := by decide +kernel
theorem kd_Pv_highest_94 : decode kc_Pv_highest 94 = .ok (.if_icmp .eq 10, 3) := by decide +kernel
theorem kd_Pv_highest_97 : decode kc_Pv_highest 97 = .ok (.iload 6, 2) := by decide +kernel
theorem kd_Pv_highest_99 : decode kc_Pv_highest 99 = .ok (.bipush 13, 2) := by decide +kernel
theorem kd_Pv_highest_101 : decode kc_Pv_highest 101 = .ok (.if_icmp .ne 19, 3) := by decide +kernel
theorem kd_Pv_highest_104 : decode kc_Pv_highest 104 = .ok (.aload_n 0, 1) := by decide +kernel
theorem kd_Pv_highest_105 : decode kc_Pv_highest 105 = .ok (.getfield 19, 3) := by decide +kernel
theorem kd_Pv_highest_108 : decode kc_Pv_highest 108 = .ok (.aload_n 0, 1) := by decide +kernel
theorem kd_Pv_highest_109 : decode kc_Pv_highest 109 = .ok (.getfield 9, 3) := by decide +kernel
theorem kd_Pv_highest_112 : decode kc_Pv_highest 112 = .ok (.getfield 71, 3) := by decide +kernel
theorem kd_Pv_highest_115 : decode kc_Pv_highest 115 = .ok (.iload 5, 2) := by decide +kernel
theorem kd_Pv_highest_117 : decode kc_Pv_highest 117 = .ok (.iaload, 1) := by decide +kernel
theorem kd_Pv_highest_118 : decode kc_Pv_highest 118 = .ok (.iconst 1, 1) := by decide +kernel
theorem kd_Pv_highest_119 : decode kc_Pv_highest 119 = .ok (.bastore, 1) := by decide +kernel
theorem kd_Pv_highest_120 : decode kc_Pv_highest 120 = .ok (.iload 6, 2) := by decide +kernel
theorem kd_Pv_highest_122 : decode kc_Pv_highest 122 = .ok (.bipush 10, 2) := by decide +kernel
theorem kd_Pv_highest_124 : decode kc_Pv_highest 124 = .ok (.if_icmp .eq 27, 3) := by decide +kernel
theorem kd_Pv_highest_127 : decode kc_Pv_highest 127 = .ok (.iload 6, 2) := by decide +kernel
theorem kd_Pv_highest_129 : decode kc_Pv_highest 129 = .ok (.bipush 18, 2) := by decide +kernel
theorem kd_Pv_highest_131 : decode kc_Pv_highest 131 = .ok (.if_icmp .eq 20, 3) := by decide +kernel
theorem kd_Pv_highest_134 : decode kc_Pv_highest 134 = .ok (.iload 6, 2) := by decide +kernel
theorem kd_Pv_highest_136 : decode kc_Pv_highest 136 = .ok (.bipush 14, 2) := by decide +kernel
theorem kd_Pv_highest_138 : decode kc_Pv_highest 138 = .ok (.if_icmp .eq 13, 3) := by decide +kernel
theorem kd_Pv_highest_141 : decode kc_Pv_highest 141 = .ok (.aload_n 0, 1) := by decide +kernel
theorem kd_Pv_highest_142 : decode kc_Pv_highest 142 = .ok (.getfield 19, 3) := by decide +kernel
theorem kd_Pv_highest_145 : decode kc_Pv_highest 145 = .ok (.iload 5, 2) := by decide +kernel
theorem kd_Pv_highest_147 : decode kc_Pv_highest 147 = .ok (.iconst 1, 1) := by decide +kernel
theorem kd_Pv_highest_148 : decode kc_Pv_highest 148 = .ok (.iadd, 1) := by decide +kernel
theorem kd_Pv_highest_149 : decode kc_Pv_highest 149 = .ok (.iconst 1, 1) := by decide +kernel
theorem kd_Pv_highest_150 : decode kc_Pv_highest 150 = .ok (.bastore, 1) := by decide +kernel
theorem kd_Pv_highest_151 : decode kc_Pv_highest 151 = .ok (.iinc 5 1, 3) := by decide +kernel
theorem kd_Pv_highest_154 : decode kc_Pv_highest 154 = .ok (.goto (-117), 3) := by decide +kernel
theorem kd_Pv_highest_157 : decode kc_Pv_highest 157 = .ok (.iload_n 3, 1) := by decide +kernel
theorem kd_Pv_highest_158 : decode kc_Pv_highest 158 = .ok (.ireturn, 1) := by decide +kernel
theorem kd_Pv_proveAfter_0 : decode kc_Pv_proveAfter 0 = .ok (.aload_n 0, 1) := by decide +kernel
theorem kd_Pv_proveAfter_1 : decode kc_Pv_proveAfter 1 = .ok (.iload_n 1, 1) := by decide +kernel
theorem kd_Pv_proveAfter_2 : decode kc_Pv_proveAfter 2 = .ok (.lload_n 2, 1) := by decide +kernel
theorem kd_Pv_proveAfter_3 : decode kc_Pv_proveAfter 3 = .ok (.aload_n 0, 1) := by decide +kernel
theorem kd_Pv_proveAfter_4 : decode kc_Pv_proveAfter 4 = .ok (.getfield 23, 3) := by decide +kernel
theorem kd_Pv_proveAfter_7 : decode kc_Pv_proveAfter 7 = .ok (.iload 4, 2) := by decide +kernel
theorem kd_Pv_proveAfter_9 : decode kc_Pv_proveAfter 9 = .ok (.laload, 1) := by decide +kernel
theorem kd_Pv_proveAfter_10 : decode kc_Pv_proveAfter 10 = .ok (.invokestatic 105, 3) := by decide +kernel
theorem kd_Pv_proveAfter_13 : decode kc_Pv_proveAfter 13 = .ok (.lload_n 2, 1) := by decide +kernel
theorem kd_Pv_proveAfter_14 : decode kc_Pv_proveAfter 14 = .ok (.aload_n 0, 1) := by decide +kernel
theorem kd_Pv_proveAfter_15 : decode kc_Pv_proveAfter 15 = .ok (.getfield 27, 3) := by decide +kernel
theorem kd_Pv_proveAfter_18 : decode kc_Pv_proveAfter 18 = .ok (.iload 4, 2) := by decide +kernel
theorem kd_Pv_proveAfter_20 : decode kc_Pv_proveAfter 20 = .ok (.laload, 1) := by decide +kernel
theorem kd_Pv_proveAfter_21 : decode kc_Pv_proveAfter 21 = .ok (.invokestatic 105, 3) := by decide +kernel
theorem kd_Pv_proveAfter_24 : decode kc_Pv_proveAfter 24 = .ok (.lload_n 2, 1) := by decide +kernel
theorem kd_Pv_proveAfter_25 : decode kc_Pv_proveAfter 25 = .ok (.aload_n 0, 1) := by decide +kernel
theorem kd_Pv_proveAfter_26 : decode kc_Pv_proveAfter 26 = .ok (.getfield 30, 3) := by decide +kernel
theorem kd_Pv_proveAfter_29 : decode kc_Pv_proveAfter 29 = .ok (.iload 4, 2) := by decide +kernel
theorem kd_Pv_proveAfter_31 : decode kc_Pv_proveAfter 31 = .ok (.laload, 1) := by decide +kernel
theorem kd_Pv_proveAfter_32 : decode kc_Pv_proveAfter 32 = .ok (.invokestatic 105, 3) := by decide +kernel
theorem kd_Pv_proveAfter_35 : decode kc_Pv_proveAfter 35 = .ok (.invokevirtual 80, 3) := by decide +kernel
theorem kd_Pv_proveAfter_38 : decode kc_Pv_proveAfter 38 = .ok (.return_, 1) := by decide +kernel
theorem kd_Pv_proveBack_0 : decode kc_Pv_proveBack 0 = .ok (.aload_n 0, 1) := by decide +kernel
theorem kd_Pv_proveBack_1 : decode kc_Pv_proveBack 1 = .ok (.getfield 74, 3) := by decide +kernel
theorem kd_Pv_proveBack_4 : decode kc_Pv_proveBack 4 = .ok (.aload_n 0, 1) := by decide +kernel
theorem kd_Pv_proveBack_5 : decode kc_Pv_proveBack 5 = .ok (.getfield 35, 3) := by decide +kernel
theorem kd_Pv_proveBack_8 : decode kc_Pv_proveBack 8 = .ok (.arraylength, 1) := by decide +kernel
theorem kd_Pv_proveBack_9 : decode kc_Pv_proveBack 9 = .ok (.if_icmp .ge 23, 3) := by decide +kernel
theorem kd_Pv_proveBack_12 : decode kc_Pv_proveBack 12 = .ok (.aload_n 0, 1) := by decide +kernel
theorem kd_Pv_proveBack_13 : decode kc_Pv_proveBack 13 = .ok (.getfield 35, 3) := by decide +kernel
theorem kd_Pv_proveBack_16 : decode kc_Pv_proveBack 16 = .ok (.aload_n 0, 1) := by decide +kernel
theorem kd_Pv_proveBack_17 : decode kc_Pv_proveBack 17 = .ok (.getfield 74, 3) := by decide +kernel
theorem kd_Pv_proveBack_20 : decode kc_Pv_proveBack 20 = .ok (.iload_n 1, 1) := by decide +kernel
theorem kd_Pv_proveBack_21 : decode kc_Pv_proveBack 21 = .ok (.iastore, 1) := by decide +kernel
theorem kd_Pv_proveBack_22 : decode kc_Pv_proveBack 22 = .ok (.aload_n 0, 1) := by decide +kernel
theorem kd_Pv_proveBack_23 : decode kc_Pv_proveBack 23 = .ok (.dup, 1) := by decide +kernel
theorem kd_Pv_proveBack_24 : decode kc_Pv_proveBack 24 = .ok (.getfield 74, 3) := by decide +kernel
theorem kd_Pv_proveBack_27 : decode kc_Pv_proveBack 27 = .ok (.iconst 1, 1) := by decide +kernel
theorem kd_Pv_proveBack_28 : decode kc_Pv_proveBack 28 = .ok (.iadd, 1) := by decide +kernel
theorem kd_Pv_proveBack_29 : decode kc_Pv_proveBack 29 = .ok (.putfield 74, 3) := by decide +kernel
theorem kd_Pv_proveBack_32 : decode kc_Pv_proveBack 32 = .ok (.aload_n 0, 1) := by decide +kernel
theorem kd_Pv_proveBack_33 : decode kc_Pv_proveBack 33 = .ok (.iload_n 1, 1) := by decide +kernel
theorem kd_Pv_proveBack_34 : decode kc_Pv_proveBack 34 = .ok (.lconst 1, 1) := by decide +kernel
theorem kd_Pv_proveBack_35 : decode kc_Pv_proveBack 35 = .ok (.ldc2_w 78, 3) := by decide +kernel
theorem kd_Pv_proveBack_38 : decode kc_Pv_proveBack 38 = .ok (.ldc2_w 78, 3) := by decide +kernel
theorem kd_Pv_proveBack_41 : decode kc_Pv_proveBack 41 = .ok (.invokevirtual 80, 3) := by decide +kernel
theorem kd_Pv_proveBack_44 : decode kc_Pv_proveBack 44 = .ok (.return_, 1) := by decide +kernel
theorem kd_Pv_sum_0 : decode kc_Pv_sum 0 = .ok (.lload_n 0, 1) := by decide +kernel
theorem kd_Pv_sum_1 : decode kc_Pv_sum 1 = .ok (.ldc2_w 78, 3) := by decide +kernel
theorem kd_Pv_sum_4 : decode kc_Pv_sum 4 = .ok (.lcmp, 1) := by decide +kernel
theorem kd_Pv_sum_5 : decode kc_Pv_sum 5 = .ok (.ifCond .eq 11, 3) := by decide +kernel
theorem kd_Pv_sum_8 : decode kc_Pv_sum 8 = .ok (.lload_n 2, 1) := by decide +kernel
theorem kd_Pv_sum_9 : decode kc_Pv_sum 9 = .ok (.ldc2_w 78, 3) := by decide +kernel
theorem kd_Pv_sum_12 : decode kc_Pv_sum 12 = .ok (.lcmp, 1) := by decide +kernel
theorem kd_Pv_sum_13 : decode kc_Pv_sum 13 = .ok (.ifCond .ne 9, 3) := by decide +kernel
theorem kd_Pv_sum_16 : decode kc_Pv_sum 16 = .ok (.ldc2_w 78, 3) := by decide +kernel
theorem kd_Pv_sum_19 : decode kc_Pv_sum 19 = .ok (.goto 12, 3) := by decide +kernel
theorem kd_Pv_sum_22 : decode kc_Pv_sum 22 = .ok (.lload_n 0, 1) := by decide +kernel
theorem kd_Pv_sum_23 : decode kc_Pv_sum 23 = .ok (.lload_n 2, 1) := by decide +kernel
theorem kd_Pv_sum_24 : decode kc_Pv_sum 24 = .ok (.ladd, 1) := by decide +kernel
theorem kd_Pv_sum_25 : decode kc_Pv_sum 25 = .ok (.ldc2_w 103, 3) := by decide +kernel
theorem kd_Pv_sum_28 : decode kc_Pv_sum 28 = .ok (.invokestatic 53, 3) := by decide +kernel
theorem kd_Pv_sum_31 : decode kc_Pv_sum 31 = .ok (.lreturn, 1) := by decide +kernel
theorem kd_Pv_tell_0 : decode kc_Pv_tell 0 = .ok (.aload_n 0, 1) := by decide +kernel
theorem kd_Pv_tell_1 : decode kc_Pv_tell 1 = .ok (.getfield 23, 3) := by decide +kernel
theorem kd_Pv_tell_4 : decode kc_Pv_tell 4 = .ok (.iload_n 1, 1) := by decide +kernel
theorem kd_Pv_tell_5 : decode kc_Pv_tell 5 = .ok (.lload_n 2, 1) := by decide +kernel
theorem kd_Pv_tell_6 : decode kc_Pv_tell 6 = .ok (.lastore, 1) := by decide +kernel
theorem kd_Pv_tell_7 : decode kc_Pv_tell 7 = .ok (.aload_n 0, 1) := by decide +kernel
theorem kd_Pv_tell_8 : decode kc_Pv_tell 8 = .ok (.getfield 27, 3) := by decide +kernel
theorem kd_Pv_tell_11 : decode kc_Pv_tell 11 = .ok (.iload_n 1, 1) := by decide +kernel
theorem kd_Pv_tell_12 : decode kc_Pv_tell 12 = .ok (.lload 4, 2) := by decide +kernel
theorem kd_Pv_tell_14 : decode kc_Pv_tell 14 = .ok (.lastore, 1) := by decide +kernel
theorem kd_Pv_tell_15 : decode kc_Pv_tell 15 = .ok (.aload_n 0, 1) := by decide +kernel
theorem kd_Pv_tell_16 : decode kc_Pv_tell 16 = .ok (.getfield 30, 3) := by decide +kernel
theorem kd_Pv_tell_19 : decode kc_Pv_tell 19 = .ok (.iload_n 1, 1) := by decide +kernel
theorem kd_Pv_tell_20 : decode kc_Pv_tell 20 = .ok (.lload 6, 2) := by decide +kernel
theorem kd_Pv_tell_22 : decode kc_Pv_tell 22 = .ok (.lastore, 1) := by decide +kernel
theorem kd_Pv_tell_23 : decode kc_Pv_tell 23 = .ok (.return_, 1) := by decide +kernel
set_option maxHeartbeats 4000000 in
set_option maxRecDepth 100000 in
theorem zb_Cr_power_28 {X : zkj_T} {S : zs_T} {P : ze_T} {l : Launch} {D : va_G} {sz0 : Nat} {rv : Int32} {h : zs_H} (C : zk_C X km_Cr_power (zs_G S l D sz0) { frames := 0, cells := 0, slots := 0, locals := 0 } (ze_E P)) (hR : zkj_R X (zd_PI S rv h) (some .int)) (x2 : Int32) (x3 : Int32) (e : f_Cr_power_28 h x2 x3 = some rv) : zk_Ab X (zs_W S h) 0 0 28 [(0, .ref (S.1 47)), (2, .int x2), (3, .int x3)] [] := by
  unfold f_Cr_power_28 at e
  refine zk_aload_n C kd_Cr_power_28 rfl 0 rfl rfl ?_
  refine zs_get (v := .int (h.1 47 5)) C 47 5 rfl rfl rfl rfl ki_Cr (by decide) kw447 kd_Cr_power_29 rfl ?_
  refine zk_bipush (v := 12) C kd_Cr_power_32 (by decide) rfl ?_
  refine zk_iload_n C kd_Cr_power_34 rfl 1 rfl rfl ?_
  refine zk_imul C kd_Cr_power_35 rfl ?_
  refine zk_iadd C kd_Cr_power_36 rfl ?_
  refine zk_iload_n C kd_Cr_power_37 rfl 2 rfl rfl ?_
  refine zk_iadd C kd_Cr_power_38 rfl ?_
  exact zk_iret C hR kd_Cr_power_39 rfl rfl (zd_rIO e)
set_option maxHeartbeats 4000000 in
set_option maxRecDepth 100000 in
theorem zb_Cr_power_2 {X : zkj_T} {S : zs_T} {P : ze_T} {l : Launch} {D : va_G} {sz0 : Nat} {rv : Int32} {h : zs_H} (C : zk_C X km_Cr_power (zs_G S l D sz0) { frames := 0, cells := 0, slots := 0, locals := 0 } (ze_E P)) (hR : zkj_R X (zd_PI S rv h) (some .int)) {k2 : Int32 → Int32 → (Option Int32)} (hk2 : ∀ (x2 : Int32) (x3 : Int32), k2 x2 x3 = some rv → zk_Ab X (zs_W S h) 0 0 2 [(0, .ref (S.1 47)), (2, .int x2), (3, .int x3)] []) (x2 : Int32) (x3 : Int32) (e : f_Cr_power_2 h k2 x2 x3 = some rv) : zk_Ab X (zs_W S h) 0 0 2 [(0, .ref (S.1 47)), (2, .int x2), (3, .int x3)] [] := by
  unfold f_Cr_power_2 at e
  refine zk_iload_n C kd_Cr_power_2 rfl 2 rfl rfl ?_
  refine zk_if_le (tgt := 28) C kd_Cr_power_3 (by decide) rfl (fun b1 => ?_) (fun b1 => ?_)
  · replace e := zd_pos b1 e
    refine zk_lvs (lv' := [(0, .ref (S.1 47)), (2, .int x2), (3, .int x3)]) [0, 1, 2] rfl ?_
    exact zb_Cr_power_28 C hR x2 x3 e
  · replace e := zd_neg b1 e
    refine zk_aload_n C kd_Cr_power_6 rfl 0 rfl rfl ?_
    refine zs_get (v := .ref (S.1 50)) C 47 9 rfl rfl rfl rfl ki_Cr (by decide) kw451 kd_Cr_power_7 rfl ?_
    refine zk_iload_n C kd_Cr_power_10 rfl 2 rfl rfl ?_
    refine zk_iconst (v := 1) C kd_Cr_power_11 (by decide) rfl ?_
    refine zk_isub C kd_Cr_power_12 rfl ?_
    refine zk_bipush (v := 12) C kd_Cr_power_13 (by decide) rfl ?_
    refine zk_imul C kd_Cr_power_15 rfl ?_
    refine zk_iload_n C kd_Cr_power_16 rfl 1 rfl rfl ?_
    refine zk_iadd C kd_Cr_power_17 rfl ?_
    obtain ⟨q2, e⟩ := zd_g e
    refine zs_zald C 50 rfl (zd_vp q2) kd_Cr_power_18 rfl ?_
    refine zk_if_eq (tgt := 28) C kd_Cr_power_19 (by decide) rfl (fun b3 => ?_) (fun b3 => ?_)
    · replace e := zd_pos b3 e
      refine zk_lvs (lv' := [(0, .ref (S.1 47)), (2, .int x2), (3, .int x3)]) [0, 1, 2] rfl ?_
      exact zb_Cr_power_28 C hR x2 x3 e
    · replace e := zd_neg b3 e
      refine zk_iinc (v := (x3 + (-1))) (lv' := [(3, _), (0, _), (2, _)]) C kd_Cr_power_22 2 rfl rfl (by decide) rfl rfl ?_
      refine zk_goto (tgt := 2) C kd_Cr_power_25 (by decide) ?_
      refine zk_lvs (lv' := [(0, .ref (S.1 47)), (2, .int x2), (3, .int (x3 + (-1)))]) [1, 2, 0] rfl ?_
      exact hk2 x2 (x3 + (-1)) e
theorem zl_Cr_power_2 {X : zkj_T} {S : zs_T} {P : ze_T} {l : Launch} {D : va_G} {sz0 : Nat} {rv : Int32} {h : zs_H} (C : zk_C X km_Cr_power (zs_G S l D sz0) { frames := 0, cells := 0, slots := 0, locals := 0 } (ze_E P)) (hR : zkj_R X (zd_PI S rv h) (some .int)) (n : Nat) : ∀ (x2 : Int32) (x3 : Int32), f_Cr_power_L2 h n x2 x3 = some rv → zk_Ab X (zs_W S h) 0 0 2 [(0, .ref (S.1 47)), (2, .int x2), (3, .int x3)] [] := by
  induction n with
  | zero => intro x2 x3 e; exact zd_no e
  | succ n ih => intro x2 x3 e; exact zb_Cr_power_2 (k2 := f_Cr_power_L2 h n) C hR ih x2 x3 e
set_option maxHeartbeats 4000000 in
set_option maxRecDepth 100000 in
theorem zc_Cr_power {l : Launch} {D : va_G} {sz0 : Nat} {S : zs_T} {P : ze_T} (h : zs_H) (x1 : Int32) (x2 : Int32) {rv : Int32} (e : f_Cr_power h x1 x2 = some rv) : zk_Sp (zs_G S l D sz0) (ze_E P) km_Cr_power { frames := 0, cells := 0, slots := 0, locals := 0 } [.ref (S.1 47), .int x1, .int x2] (zs_W S h) (zd_PI S rv h) := by
  refine zk_met ku_Cr_power (Nat.le_of_ble_eq_true rfl) (ze_Em P) ?_
  intro X C hR
  refine zk_lvs (lv' := [(0, .ref (S.1 47)), (1, .int x1), (2, .int x2)]) [0, 1, 2] rfl ?_
  unfold f_Cr_power at e
  refine zk_iload_n C kd_Cr_power_0 rfl 1 rfl rfl ?_
  refine zk_istore_n (lv' := [(3, _), (0, _), (1, _), (2, _)]) C kd_Cr_power_1 rfl (by decide) rfl rfl ?_
  refine zk_lvs (lv' := [(0, .ref (S.1 47)), (2, .int x2), (3, .int x1)]) [1, 3, 0] rfl ?_
  exact zl_Cr_power_2 C hR zF x2 x1 e
set_option maxHeartbeats 4000000 in
set_option maxRecDepth 100000 in
theorem zb_Cr_codeWay_95 {X : zkj_T} {S : zs_T} {P : ze_T} {l : Launch} {D : va_G} {sz0 : Nat} {rh : zs_H} (C : zk_C X km_Cr_codeWay (zs_G S l D sz0) { frames := 2, cells := 0, slots := 0, locals := 46 } (ze_E P)) (hR : zkj_R X (zd_PV S rh) (none)) (h : zs_H) (x2 : Int32) (x3 : Int32) (y0 : Int32) (y1 : Int32) (e : f_Cr_codeWay_95 h x2 x3 y0 y1 = some rh) : zk_Ab X (zs_W S h) 0 0 95 [(0, .ref (S.1 47)), (2, .int x2), (3, .int x3)] [.int y0, .int y1, .ref (S.1 47)] := by
  unfold f_Cr_codeWay_95 at e
  refine zk_aload_n C kd_Cr_codeWay_95 rfl 0 rfl rfl ?_
  refine zs_get (v := .ref (S.1 49)) C 47 8 rfl rfl rfl rfl ki_Cr (by decide) kw450 kd_Cr_codeWay_96 rfl ?_
  refine zk_iload_n C kd_Cr_codeWay_99 rfl 1 rfl rfl ?_
  refine zk_bipush (v := 12) C kd_Cr_codeWay_100 (by decide) rfl ?_
  refine zk_imul C kd_Cr_codeWay_102 rfl ?_
  refine zk_iload_n C kd_Cr_codeWay_103 rfl 2 rfl rfl ?_
  refine zk_iadd C kd_Cr_codeWay_104 rfl ?_
  obtain ⟨q1, e⟩ := zd_g e
  refine zs_iald C 49 rfl (zd_vp q1) kd_Cr_codeWay_105 rfl ?_
  obtain ⟨h3, c2, e⟩ := zd_b e
  refine zs_callV (k := 47) (rn := { frames := 1, cells := 0, slots := 0, locals := 23 }) (As := [.int y1, .int y0, .int (h.2.1 49 ((x2 * 12) + x3).toNatClampNeg)]) (rest := []) C (zc_Cr_codeEdge h y1 y0 (h.2.1 49 ((x2 * 12) + x3).toNatClampNeg) c2) ku_Cr_codeEdge kw1374 kv_Cr_codeEdge rfl ⟨by decide, by decide⟩ ⟨by decide, by decide⟩ rfl rfl rfl (Nat.le_of_ble_eq_true rfl) kd_Cr_codeWay_106 rfl (c1 := 0) (s1 := 0) rfl rfl (fun v w hp => ?_)
  obtain ⟨rfl, rfl⟩ := hp
  refine zk_stk (r' := []) rfl ?_
  exact zk_vret C hR kd_Cr_codeWay_109 rfl rfl (zd_rV e)
set_option maxHeartbeats 4000000 in
set_option maxRecDepth 100000 in
theorem zb_Cr_codeWay_138 {X : zkj_T} {S : zs_T} {P : ze_T} {l : Launch} {D : va_G} {sz0 : Nat} {rh : zs_H} (C : zk_C X km_Cr_codeWay (zs_G S l D sz0) { frames := 2, cells := 0, slots := 0, locals := 46 } (ze_E P)) (hR : zkj_R X (zd_PV S rh) (none)) (h : zs_H) (e : f_Cr_codeWay_138 h = some rh) : zk_Ab X (zs_W S h) 0 0 138 [(0, .ref (S.1 47))] [] := by
  unfold f_Cr_codeWay_138 at e
  refine zk_aload_n C kd_Cr_codeWay_138 rfl 0 rfl rfl ?_
  refine zs_get (v := .ref (S.1 41)) C 47 2 rfl rfl rfl rfl ki_Cr (by decide) kw444 kd_Cr_codeWay_139 rfl ?_
  refine zk_bipush (v := 7) C kd_Cr_codeWay_142 (by decide) rfl ?_
  refine zk_bipush (v := 10) C kd_Cr_codeWay_144 (by decide) rfl ?_
  obtain ⟨v2, h3, c1, e⟩ := zd_Be e
  refine zs_callV (k := 41) (rn := { frames := 0, cells := 0, slots := 0, locals := 0 }) (As := [.int 7, .int 10]) (rest := []) C (zc_Cd_emit h 7 10 c1) ku_Cd_emit kw1278 kv_Cd_emit rfl ⟨by decide, by decide⟩ ⟨by decide, by decide⟩ rfl rfl rfl (Nat.le_of_ble_eq_true rfl) kd_Cr_codeWay_146 rfl (c1 := 0) (s1 := 0) rfl rfl (fun v w hp => ?_)
  obtain ⟨rfl, rfl⟩ := hp
  refine zk_stk (r' := [.int v2]) rfl ?_
  refine zk_pop C kd_Cr_codeWay_149 rfl rfl ?_
  exact zk_vret C hR kd_Cr_codeWay_150 rfl rfl (zd_rV e)
set_option maxHeartbeats 4000000 in
set_option maxRecDepth 100000 in
theorem zb_Cr_codeWay_34 {X : zkj_T} {S : zs_T} {P : ze_T} {l : Launch} {D : va_G} {sz0 : Nat} {rh : zs_H} (C : zk_C X km_Cr_codeWay (zs_G S l D sz0) { frames := 2, cells := 0, slots := 0, locals := 46 } (ze_E P)) (hR : zkj_R X (zd_PV S rh) (none)) (h : zs_H) (x1 : Int32) (x2 : Int32) (x3 : Int32) (e : f_Cr_codeWay_34 h x1 x2 x3 = some rh) : zk_Ab X (zs_W S h) 0 0 34 [(0, .ref (S.1 47)), (1, .int x1), (2, .int x2), (3, .int x3)] [] := by
  unfold f_Cr_codeWay_34 at e
  refine zk_aload_n C kd_Cr_codeWay_34 rfl 0 rfl rfl ?_
  refine zs_get (v := .ref (S.1 12)) C 47 0 rfl rfl rfl rfl ki_Cr (by decide) kw442 kd_Cr_codeWay_35 rfl ?_
  refine zs_get (v := .ref (S.1 13)) C 12 0 rfl rfl rfl rfl ki_Tr (by decide) kw156 kd_Cr_codeWay_38 rfl ?_
  refine zk_iload_n C kd_Cr_codeWay_41 rfl 1 rfl rfl ?_
  obtain ⟨q1, e⟩ := zd_g e
  refine zs_bald C 13 rfl (zd_vp q1) kd_Cr_codeWay_42 rfl ?_
  refine zk_bipush (v := 25) C kd_Cr_codeWay_43 (by decide) rfl ?_
  refine zk_icmp_eq (tgt := 49) C kd_Cr_codeWay_45 (by decide) rfl (fun b2 => ?_) (fun b2 => ?_)
  · replace e := zd_pos b2 e
    refine zk_aload_n C kd_Cr_codeWay_49 rfl 0 rfl rfl ?_
    refine zk_aload_n C kd_Cr_codeWay_50 rfl 0 rfl rfl ?_
    refine zs_get (v := .ref (S.1 12)) C 47 0 rfl rfl rfl rfl ki_Cr (by decide) kw442 kd_Cr_codeWay_51 rfl ?_
    refine zs_get (v := .ref (S.1 17)) C 12 4 rfl rfl rfl rfl ki_Tr (by decide) kw171 kd_Cr_codeWay_54 rfl ?_
    refine zk_iload_n C kd_Cr_codeWay_57 rfl 1 rfl rfl ?_
    refine zs_iald C 17 rfl (zd_vp q1) kd_Cr_codeWay_58 rfl ?_
    obtain ⟨v4, c3, e⟩ := zd_b e
    refine zs_callV (k := 47) (rn := { frames := 0, cells := 0, slots := 0, locals := 0 }) (As := [.int (h.2.1 17 x1.toNatClampNeg)]) (rest := []) C (zc_Cr_cellOf h (h.2.1 17 x1.toNatClampNeg) c3) ku_Cr_cellOf kw1294 kv_Cr_cellOf rfl ⟨by decide, by decide⟩ ⟨by decide, by decide⟩ rfl rfl rfl (Nat.le_of_ble_eq_true rfl) kd_Cr_codeWay_59 rfl (c1 := 0) (s1 := 0) rfl rfl (fun v w hp => ?_)
    obtain ⟨rfl, rfl⟩ := hp
    refine zk_stk (r' := [.int v4]) rfl ?_
    refine zk_istore (lv' := [(4, _), (0, _), (1, _), (2, _), (3, _)]) C kd_Cr_codeWay_62 (by decide) rfl rfl ?_
    refine zk_aload_n C kd_Cr_codeWay_64 rfl 1 rfl rfl ?_
    refine zs_get (v := .ref (S.1 12)) C 47 0 rfl rfl rfl rfl ki_Cr (by decide) kw442 kd_Cr_codeWay_65 rfl ?_
    refine zs_get (v := .ref (S.1 16)) C 12 3 rfl rfl rfl rfl ki_Tr (by decide) kw167 kd_Cr_codeWay_68 rfl ?_
    refine zk_iload_n C kd_Cr_codeWay_71 rfl 2 rfl rfl ?_
    refine zs_iald C 16 rfl (zd_vp q1) kd_Cr_codeWay_72 rfl ?_
    refine zk_istore (lv' := [(5, _), (4, _), (0, _), (1, _), (2, _), (3, _)]) C kd_Cr_codeWay_73 (by decide) rfl rfl ?_
    refine zk_iload C kd_Cr_codeWay_75 0 rfl rfl ?_
    refine zk_iconst (v := 2) C kd_Cr_codeWay_77 (by decide) rfl ?_
    refine zk_icmp_lt (tgt := 110) C kd_Cr_codeWay_78 (by decide) rfl (fun b5 => ?_) (fun b5 => ?_)
    · replace e := zd_pos b5 e
      refine zk_aload_n C kd_Cr_codeWay_110 rfl 2 rfl rfl ?_
      refine zs_get (v := .ref (S.1 41)) C 47 2 rfl rfl rfl rfl ki_Cr (by decide) kw444 kd_Cr_codeWay_111 rfl ?_
      refine zk_iconst (v := 1) C kd_Cr_codeWay_114 (by decide) rfl ?_
      refine zk_iload C kd_Cr_codeWay_115 1 rfl rfl ?_
      obtain ⟨v7, h8, c6, e⟩ := zd_Be e
      refine zs_callV (k := 41) (rn := { frames := 0, cells := 0, slots := 0, locals := 0 }) (As := [.int 1, .int v4]) (rest := []) C (zc_Cd_emit h 1 v4 c6) ku_Cd_emit kw1278 kv_Cd_emit rfl ⟨by decide, by decide⟩ ⟨by decide, by decide⟩ rfl rfl rfl (Nat.le_of_ble_eq_true rfl) kd_Cr_codeWay_117 rfl (c1 := 0) (s1 := 0) rfl rfl (fun v w hp => ?_)
      obtain ⟨rfl, rfl⟩ := hp
      refine zk_stk (r' := [.int v7]) rfl ?_
      refine zk_pop C kd_Cr_codeWay_120 rfl rfl ?_
      refine zk_iload C kd_Cr_codeWay_121 0 rfl rfl ?_
      refine zk_iconst (v := 1) C kd_Cr_codeWay_123 (by decide) rfl ?_
      refine zk_icmp_ne (tgt := 138) C kd_Cr_codeWay_124 (by decide) rfl (fun b9 => ?_) (fun b9 => ?_)
      · replace e := zd_neg b9 e
        refine zk_lvs (lv' := [(0, .ref (S.1 47))]) [2] rfl ?_
        exact zb_Cr_codeWay_138 C hR h8 e
      · replace e := zd_pos b9 e
        refine zk_aload_n C kd_Cr_codeWay_127 rfl 2 rfl rfl ?_
        refine zs_get (v := .ref (S.1 41)) C 47 2 rfl rfl rfl rfl ki_Cr (by decide) kw444 kd_Cr_codeWay_128 rfl ?_
        refine zk_bipush (v := 8) C kd_Cr_codeWay_131 (by decide) rfl ?_
        refine zk_iconst (v := 2) C kd_Cr_codeWay_133 (by decide) rfl ?_
        obtain ⟨v11, h12, c10, e⟩ := zd_Be e
        refine zs_callV (k := 41) (rn := { frames := 0, cells := 0, slots := 0, locals := 0 }) (As := [.int 8, .int 2]) (rest := []) C (zc_Cd_emit h8 8 2 c10) ku_Cd_emit kw1278 kv_Cd_emit rfl ⟨by decide, by decide⟩ ⟨by decide, by decide⟩ rfl rfl rfl (Nat.le_of_ble_eq_true rfl) kd_Cr_codeWay_134 rfl (c1 := 0) (s1 := 0) rfl rfl (fun v w hp => ?_)
        obtain ⟨rfl, rfl⟩ := hp
        refine zk_stk (r' := [.int v11]) rfl ?_
        refine zk_pop C kd_Cr_codeWay_137 rfl rfl ?_
        refine zk_lvs (lv' := [(0, .ref (S.1 47))]) [2] rfl ?_
        exact zb_Cr_codeWay_138 C hR h12 e
    · replace e := zd_neg b5 e
      refine zk_aload_n C kd_Cr_codeWay_81 rfl 2 rfl rfl ?_
      refine zk_iload C kd_Cr_codeWay_82 1 rfl rfl ?_
      refine zk_iload C kd_Cr_codeWay_84 0 rfl rfl ?_
      refine zk_iconst (v := 2) C kd_Cr_codeWay_86 (by decide) rfl ?_
      refine zk_icmp_ne (tgt := 94) C kd_Cr_codeWay_87 (by decide) rfl (fun b13 => ?_) (fun b13 => ?_)
      · replace e := zd_neg b13 e
        refine zk_iconst (v := 0) C kd_Cr_codeWay_94 (by decide) rfl ?_
        refine zk_lvs (lv' := [(0, .ref (S.1 47)), (2, .int x2), (3, .int x3)]) [2, 4, 5] rfl ?_
        exact zb_Cr_codeWay_95 C hR h x2 x3 0 v4 e
      · replace e := zd_pos b13 e
        refine zk_iconst (v := 1) C kd_Cr_codeWay_90 (by decide) rfl ?_
        refine zk_goto (tgt := 95) C kd_Cr_codeWay_91 (by decide) ?_
        refine zk_lvs (lv' := [(0, .ref (S.1 47)), (2, .int x2), (3, .int x3)]) [2, 4, 5] rfl ?_
        exact zb_Cr_codeWay_95 C hR h x2 x3 1 v4 e
  · replace e := zd_neg b2 e
    exact zk_vret C hR kd_Cr_codeWay_48 rfl rfl (zd_rV e)
set_option maxHeartbeats 4000000 in
set_option maxRecDepth 100000 in
theorem zc_Cr_codeWay {l : Launch} {D : va_G} {sz0 : Nat} {S : zs_T} {P : ze_T} (h : zs_H) (x1 : Int32) (x2 : Int32) (x3 : Int32) {rh : zs_H} (e : f_Cr_codeWay h x1 x2 x3 = some rh) : zk_Sp (zs_G S l D sz0) (ze_E P) km_Cr_codeWay { frames := 2, cells := 0, slots := 0, locals := 46 } [.ref (S.1 47), .int x1, .int x2, .int x3] (zs_W S h) (zd_PV S rh) := by
  refine zk_met ku_Cr_codeWay (Nat.le_of_ble_eq_true rfl) (ze_Em P) ?_
  intro X C hR
  refine zk_lvs (lv' := [(0, .ref (S.1 47)), (1, .int x1), (2, .int x2), (3, .int x3)]) [0, 1, 2, 3] rfl ?_
  unfold f_Cr_codeWay at e
  refine zk_iload_n C kd_Cr_codeWay_0 rfl 3 rfl rfl ?_
  refine zk_if_ne (tgt := 17) C kd_Cr_codeWay_1 (by decide) rfl (fun b1 => ?_) (fun b1 => ?_)
  · replace e := zd_neg b1 e
    refine zk_aload_n C kd_Cr_codeWay_17 rfl 0 rfl rfl ?_
    refine zs_get (v := .ref (S.1 41)) C 47 2 rfl rfl rfl rfl ki_Cr (by decide) kw444 kd_Cr_codeWay_18 rfl ?_
    refine zk_iconst (v := 1) C kd_Cr_codeWay_21 (by decide) rfl ?_
    refine zk_aload_n C kd_Cr_codeWay_22 rfl 0 rfl rfl ?_
    refine zk_iload_n C kd_Cr_codeWay_23 rfl 2 rfl rfl ?_
    refine zk_iload_n C kd_Cr_codeWay_24 rfl 3 rfl rfl ?_
    refine zk_iconst (v := 1) C kd_Cr_codeWay_25 (by decide) rfl ?_
    refine zk_isub C kd_Cr_codeWay_26 rfl ?_
    obtain ⟨v3, c2, e⟩ := zd_b e
    refine zs_callV (k := 47) (rn := { frames := 0, cells := 0, slots := 0, locals := 0 }) (As := [.int x2, .int (x3 - 1)]) (rest := [.int 1, .ref (S.1 41)]) C (zc_Cr_power h x2 (x3 - 1) c2) ku_Cr_power kw1370 kv_Cr_power rfl ⟨by decide, by decide⟩ ⟨by decide, by decide⟩ rfl rfl rfl (Nat.le_of_ble_eq_true rfl) kd_Cr_codeWay_27 rfl (c1 := 0) (s1 := 0) rfl rfl (fun v w hp => ?_)
    obtain ⟨rfl, rfl⟩ := hp
    refine zk_stk (r' := [.int v3, .int 1, .ref (S.1 41)]) rfl ?_
    obtain ⟨v5, h6, c4, e⟩ := zd_Be e
    refine zs_callV (k := 41) (rn := { frames := 0, cells := 0, slots := 0, locals := 0 }) (As := [.int 1, .int v3]) (rest := []) C (zc_Cd_emit h 1 v3 c4) ku_Cd_emit kw1278 kv_Cd_emit rfl ⟨by decide, by decide⟩ ⟨by decide, by decide⟩ rfl rfl rfl (Nat.le_of_ble_eq_true rfl) kd_Cr_codeWay_30 rfl (c1 := 0) (s1 := 0) rfl rfl (fun v w hp => ?_)
    obtain ⟨rfl, rfl⟩ := hp
    refine zk_stk (r' := [.int v5]) rfl ?_
    refine zk_pop C kd_Cr_codeWay_33 rfl rfl ?_
    refine zk_lvs (lv' := [(0, .ref (S.1 47)), (1, .int x1), (2, .int x2), (3, .int x3)]) [0, 1, 2, 3] rfl ?_
    exact zb_Cr_codeWay_34 C hR h6 x1 x2 x3 e
  · replace e := zd_pos b1 e
    refine zk_aload_n C kd_Cr_codeWay_4 rfl 0 rfl rfl ?_
    refine zs_get (v := .ref (S.1 41)) C 47 2 rfl rfl rfl rfl ki_Cr (by decide) kw444 kd_Cr_codeWay_5 rfl ?_
    refine zk_iconst (v := 0) C kd_Cr_codeWay_8 (by decide) rfl ?_
    refine zk_iconst (v := 1) C kd_Cr_codeWay_9 (by decide) rfl ?_
    obtain ⟨v8, h9, c7, e⟩ := zd_Be e
    refine zs_callV (k := 41) (rn := { frames := 0, cells := 0, slots := 0, locals := 0 }) (As := [.int 0, .int 1]) (rest := []) C (zc_Cd_emit h 0 1 c7) ku_Cd_emit kw1278 kv_Cd_emit rfl ⟨by decide, by decide⟩ ⟨by decide, by decide⟩ rfl rfl rfl (Nat.le_of_ble_eq_true rfl) kd_Cr_codeWay_10 rfl (c1 := 0) (s1 := 0) rfl rfl (fun v w hp => ?_)
    obtain ⟨rfl, rfl⟩ := hp
    refine zk_stk (r' := [.int v8]) rfl ?_
    refine zk_pop C kd_Cr_codeWay_13 rfl rfl ?_
    refine zk_goto (tgt := 34) C kd_Cr_codeWay_14 (by decide) ?_
    refine zk_lvs (lv' := [(0, .ref (S.1 47)), (1, .int x1), (2, .int x2), (3, .int x3)]) [0, 1, 2, 3] rfl ?_
    exact zb_Cr_codeWay_34 C hR h9 x1 x2 x3 e
set_option maxHeartbeats 4000000 in
set_option maxRecDepth 100000 in
theorem zb_Cr_codeGroup_71 {X : zkj_T} {S : zs_T} {P : ze_T} {l : Launch} {D : va_G} {sz0 : Nat} {rh : zs_H} (C : zk_C X km_Cr_codeGroup (zs_G S l D sz0) { frames := 3, cells := 0, slots := 0, locals := 71 } (ze_E P)) (hR : zkj_R X (zd_PV S rh) (none)) {k6 : zs_H → Int32 → Int32 → Int32 → Int32 → Int32 → (Option zs_H)} (hk6 : ∀ (h : zs_H) (x1 : Int32) (x2 : Int32) (x3 : Int32) (x4 : Int32) (x5 : Int32), k6 h x1 x2 x3 x4 x5 = some rh → zk_Ab X (zs_W S h) 0 0 6 [(0, .ref (S.1 47)), (1, .int x1), (2, .int x2), (3, .int x3), (4, .int x4), (5, .int x5)] []) (h : zs_H) (x1 : Int32) (x2 : Int32) (x3 : Int32) (x4 : Int32) (x5 : Int32) (e : f_Cr_codeGroup_71 k6 h x1 x2 x3 x4 x5 = some rh) : zk_Ab X (zs_W S h) 0 0 71 [(0, .ref (S.1 47)), (1, .int x1), (2, .int x2), (3, .int x3), (4, .int x4), (5, .int x5)] [] := by
  unfold f_Cr_codeGroup_71 at e
  refine zk_iinc (v := (x5 + 1)) (lv' := [(5, _), (0, _), (1, _), (2, _), (3, _), (4, _)]) C kd_Cr_codeGroup_71 5 rfl rfl (by decide) rfl rfl ?_
  refine zk_goto (tgt := 6) C kd_Cr_codeGroup_74 (by decide) ?_
  refine zk_lvs (lv' := [(0, .ref (S.1 47)), (1, .int x1), (2, .int x2), (3, .int x3), (4, .int x4), (5, .int (x5 + 1))]) [1, 2, 3, 4, 5, 0] rfl ?_
  exact hk6 h x1 x2 x3 x4 (x5 + 1) e
set_option maxHeartbeats 4000000 in
set_option maxRecDepth 100000 in
theorem zb_Cr_codeGroup_92 {X : zkj_T} {S : zs_T} {P : ze_T} {l : Launch} {D : va_G} {sz0 : Nat} {rh : zs_H} (C : zk_C X km_Cr_codeGroup (zs_G S l D sz0) { frames := 3, cells := 0, slots := 0, locals := 71 } (ze_E P)) (hR : zkj_R X (zd_PV S rh) (none)) (h : zs_H) (x1 : Int32) (x3 : Int32) (e : f_Cr_codeGroup_92 h x1 x3 = some rh) : zk_Ab X (zs_W S h) 0 0 92 [(0, .ref (S.1 47)), (1, .int x1), (3, .int x3)] [] := by
  unfold f_Cr_codeGroup_92 at e
  refine zk_aload_n C kd_Cr_codeGroup_92 rfl 0 rfl rfl ?_
  refine zs_get (v := .ref (S.1 41)) C 47 2 rfl rfl rfl rfl ki_Cr (by decide) kw444 kd_Cr_codeGroup_93 rfl ?_
  refine zk_iconst (v := 2) C kd_Cr_codeGroup_96 (by decide) rfl ?_
  refine zk_aload_n C kd_Cr_codeGroup_97 rfl 0 rfl rfl ?_
  refine zk_iload_n C kd_Cr_codeGroup_98 rfl 1 rfl rfl ?_
  refine zk_iload_n C kd_Cr_codeGroup_99 rfl 2 rfl rfl ?_
  obtain ⟨v2, c1, e⟩ := zd_b e
  refine zs_callV (k := 47) (rn := { frames := 0, cells := 0, slots := 0, locals := 0 }) (As := [.int x1, .int x3]) (rest := [.int 2, .ref (S.1 41)]) C (zc_Cr_power h x1 x3 c1) ku_Cr_power kw1370 kv_Cr_power rfl ⟨by decide, by decide⟩ ⟨by decide, by decide⟩ rfl rfl rfl (Nat.le_of_ble_eq_true rfl) kd_Cr_codeGroup_100 rfl (c1 := 0) (s1 := 0) rfl rfl (fun v w hp => ?_)
  obtain ⟨rfl, rfl⟩ := hp
  refine zk_stk (r' := [.int v2, .int 2, .ref (S.1 41)]) rfl ?_
  obtain ⟨v4, h5, c3, e⟩ := zd_Be e
  refine zs_callV (k := 41) (rn := { frames := 0, cells := 0, slots := 0, locals := 0 }) (As := [.int 2, .int v2]) (rest := []) C (zc_Cd_emit h 2 v2 c3) ku_Cd_emit kw1278 kv_Cd_emit rfl ⟨by decide, by decide⟩ ⟨by decide, by decide⟩ rfl rfl rfl (Nat.le_of_ble_eq_true rfl) kd_Cr_codeGroup_103 rfl (c1 := 0) (s1 := 0) rfl rfl (fun v w hp => ?_)
  obtain ⟨rfl, rfl⟩ := hp
  refine zk_stk (r' := [.int v4]) rfl ?_
  refine zk_pop C kd_Cr_codeGroup_106 rfl rfl ?_
  exact zk_vret C hR kd_Cr_codeGroup_107 rfl rfl (zd_rV e)
set_option maxHeartbeats 4000000 in
set_option maxRecDepth 100000 in
theorem zb_Cr_codeGroup_6 {X : zkj_T} {S : zs_T} {P : ze_T} {l : Launch} {D : va_G} {sz0 : Nat} {rh : zs_H} (C : zk_C X km_Cr_codeGroup (zs_G S l D sz0) { frames := 3, cells := 0, slots := 0, locals := 71 } (ze_E P)) (hR : zkj_R X (zd_PV S rh) (none)) {k6 : zs_H → Int32 → Int32 → Int32 → Int32 → Int32 → (Option zs_H)} (hk6 : ∀ (h : zs_H) (x1 : Int32) (x2 : Int32) (x3 : Int32) (x4 : Int32) (x5 : Int32), k6 h x1 x2 x3 x4 x5 = some rh → zk_Ab X (zs_W S h) 0 0 6 [(0, .ref (S.1 47)), (1, .int x1), (2, .int x2), (3, .int x3), (4, .int x4), (5, .int x5)] []) (h : zs_H) (x1 : Int32) (x2 : Int32) (x3 : Int32) (x4 : Int32) (x5 : Int32) (e : f_Cr_codeGroup_6 k6 h x1 x2 x3 x4 x5 = some rh) : zk_Ab X (zs_W S h) 0 0 6 [(0, .ref (S.1 47)), (1, .int x1), (2, .int x2), (3, .int x3), (4, .int x4), (5, .int x5)] [] := by
  unfold f_Cr_codeGroup_6 at e
  refine zk_iload C kd_Cr_codeGroup_6 5 rfl rfl ?_
  refine zk_iload_n C kd_Cr_codeGroup_8 rfl 2 rfl rfl ?_
  refine zk_icmp_gt (tgt := 77) C kd_Cr_codeGroup_9 (by decide) rfl (fun b1 => ?_) (fun b1 => ?_)
  · replace e := zd_pos b1 e
    refine zk_iload C kd_Cr_codeGroup_77 4 rfl rfl ?_
    refine zk_if_ne (tgt := 92) C kd_Cr_codeGroup_79 (by decide) rfl (fun b2 => ?_) (fun b2 => ?_)
    · replace e := zd_neg b2 e
      refine zk_lvs (lv' := [(0, .ref (S.1 47)), (1, .int x1), (3, .int x3)]) [0, 1, 3] rfl ?_
      exact zb_Cr_codeGroup_92 C hR h x1 x3 e
    · replace e := zd_pos b2 e
      refine zk_aload_n C kd_Cr_codeGroup_82 rfl 0 rfl rfl ?_
      refine zs_get (v := .ref (S.1 41)) C 47 2 rfl rfl rfl rfl ki_Cr (by decide) kw444 kd_Cr_codeGroup_83 rfl ?_
      refine zk_iconst (v := 0) C kd_Cr_codeGroup_86 (by decide) rfl ?_
      refine zk_iconst (v := 0) C kd_Cr_codeGroup_87 (by decide) rfl ?_
      obtain ⟨v4, h5, c3, e⟩ := zd_Be e
      refine zs_callV (k := 41) (rn := { frames := 0, cells := 0, slots := 0, locals := 0 }) (As := [.int 0, .int 0]) (rest := []) C (zc_Cd_emit h 0 0 c3) ku_Cd_emit kw1278 kv_Cd_emit rfl ⟨by decide, by decide⟩ ⟨by decide, by decide⟩ rfl rfl rfl (Nat.le_of_ble_eq_true rfl) kd_Cr_codeGroup_88 rfl (c1 := 0) (s1 := 0) rfl rfl (fun v w hp => ?_)
      obtain ⟨rfl, rfl⟩ := hp
      refine zk_stk (r' := [.int v4]) rfl ?_
      refine zk_pop C kd_Cr_codeGroup_91 rfl rfl ?_
      refine zk_lvs (lv' := [(0, .ref (S.1 47)), (1, .int x1), (3, .int x3)]) [0, 1, 3] rfl ?_
      exact zb_Cr_codeGroup_92 C hR h5 x1 x3 e
  · replace e := zd_neg b1 e
    refine zk_aload_n C kd_Cr_codeGroup_12 rfl 0 rfl rfl ?_
    refine zs_get (v := .ref (S.1 48)) C 47 7 rfl rfl rfl rfl ki_Cr (by decide) kw449 kd_Cr_codeGroup_13 rfl ?_
    refine zk_iload C kd_Cr_codeGroup_16 5 rfl rfl ?_
    refine zk_bipush (v := 12) C kd_Cr_codeGroup_18 (by decide) rfl ?_
    refine zk_imul C kd_Cr_codeGroup_20 rfl ?_
    refine zk_iload_n C kd_Cr_codeGroup_21 rfl 3 rfl rfl ?_
    refine zk_iadd C kd_Cr_codeGroup_22 rfl ?_
    obtain ⟨q6, e⟩ := zd_g e
    refine zs_iald C 48 rfl (zd_vp q6) kd_Cr_codeGroup_23 rfl ?_
    refine zk_istore (lv' := [(6, _), (0, _), (1, _), (2, _), (3, _), (4, _), (5, _)]) C kd_Cr_codeGroup_24 (by decide) rfl rfl ?_
    refine zk_aload_n C kd_Cr_codeGroup_26 rfl 1 rfl rfl ?_
    refine zs_get (v := .ref (S.1 12)) C 47 0 rfl rfl rfl rfl ki_Cr (by decide) kw442 kd_Cr_codeGroup_27 rfl ?_
    refine zs_get (v := .ref (S.1 13)) C 12 0 rfl rfl rfl rfl ki_Tr (by decide) kw156 kd_Cr_codeGroup_30 rfl ?_
    refine zk_iload C kd_Cr_codeGroup_33 0 rfl rfl ?_
    obtain ⟨q7, e⟩ := zd_g e
    refine zs_bald C 13 rfl (zd_vp q7) kd_Cr_codeGroup_35 rfl ?_
    refine zk_bipush (v := 27) C kd_Cr_codeGroup_36 (by decide) rfl ?_
    refine zk_icmp_eq (tgt := 71) C kd_Cr_codeGroup_38 (by decide) rfl (fun b8 => ?_) (fun b8 => ?_)
    · replace e := zd_pos b8 e
      refine zk_lvs (lv' := [(0, .ref (S.1 47)), (1, .int x1), (2, .int x2), (3, .int x3), (4, .int x4), (5, .int x5)]) [1, 2, 3, 4, 5, 6] rfl ?_
      exact zb_Cr_codeGroup_71 C hR hk6 h x1 x2 x3 x4 x5 e
    · replace e := zd_neg b8 e
      refine zk_aload_n C kd_Cr_codeGroup_41 rfl 1 rfl rfl ?_
      refine zk_iload C kd_Cr_codeGroup_42 0 rfl rfl ?_
      refine zk_iload C kd_Cr_codeGroup_44 6 rfl rfl ?_
      refine zk_iload_n C kd_Cr_codeGroup_46 rfl 4 rfl rfl ?_
      obtain ⟨h10, c9, e⟩ := zd_b e
      refine zs_callV (k := 47) (rn := { frames := 2, cells := 0, slots := 0, locals := 46 }) (As := [.int (h.2.1 48 ((x5 * 12) + x3).toNatClampNeg), .int x5, .int x3]) (rest := []) C (zc_Cr_codeWay h (h.2.1 48 ((x5 * 12) + x3).toNatClampNeg) x5 x3 c9) ku_Cr_codeWay kw1366 kv_Cr_codeWay rfl ⟨by decide, by decide⟩ ⟨by decide, by decide⟩ rfl rfl rfl (Nat.le_of_ble_eq_true rfl) kd_Cr_codeGroup_47 rfl (c1 := 0) (s1 := 0) rfl rfl (fun v w hp => ?_)
      obtain ⟨rfl, rfl⟩ := hp
      refine zk_stk (r' := []) rfl ?_
      refine zk_iinc (v := (x4 + 1)) (lv' := [(4, _), (6, _), (0, _), (1, _), (2, _), (3, _), (5, _)]) C kd_Cr_codeGroup_50 5 rfl rfl (by decide) rfl rfl ?_
      refine zk_iload C kd_Cr_codeGroup_53 0 rfl rfl ?_
      refine zk_iconst (v := 1) C kd_Cr_codeGroup_55 (by decide) rfl ?_
      refine zk_icmp_le (tgt := 71) C kd_Cr_codeGroup_56 (by decide) rfl (fun b11 => ?_) (fun b11 => ?_)
      · replace e := zd_pos b11 e
        refine zk_lvs (lv' := [(0, .ref (S.1 47)), (1, .int x1), (2, .int x2), (3, .int x3), (4, .int (x4 + 1)), (5, .int x5)]) [2, 3, 4, 5, 0, 6] rfl ?_
        exact zb_Cr_codeGroup_71 C hR hk6 h10 x1 x2 x3 (x4 + 1) x5 e
      · replace e := zd_neg b11 e
        refine zk_aload_n C kd_Cr_codeGroup_59 rfl 2 rfl rfl ?_
        refine zs_get (v := .ref (S.1 41)) C 47 2 rfl rfl rfl rfl ki_Cr (by decide) kw444 kd_Cr_codeGroup_60 rfl ?_
        refine zk_bipush (v := 7) C kd_Cr_codeGroup_63 (by decide) rfl ?_
        refine zk_bipush (v := 11) C kd_Cr_codeGroup_65 (by decide) rfl ?_
        obtain ⟨v13, h14, c12, e⟩ := zd_Be e
        refine zs_callV (k := 41) (rn := { frames := 0, cells := 0, slots := 0, locals := 0 }) (As := [.int 7, .int 11]) (rest := []) C (zc_Cd_emit h10 7 11 c12) ku_Cd_emit kw1278 kv_Cd_emit rfl ⟨by decide, by decide⟩ ⟨by decide, by decide⟩ rfl rfl rfl (Nat.le_of_ble_eq_true rfl) kd_Cr_codeGroup_67 rfl (c1 := 0) (s1 := 0) rfl rfl (fun v w hp => ?_)
        obtain ⟨rfl, rfl⟩ := hp
        refine zk_stk (r' := [.int v13]) rfl ?_
        refine zk_pop C kd_Cr_codeGroup_70 rfl rfl ?_
        refine zk_lvs (lv' := [(0, .ref (S.1 47)), (1, .int x1), (2, .int x2), (3, .int x3), (4, .int (x4 + 1)), (5, .int x5)]) [2, 3, 4, 5, 0, 6] rfl ?_
        exact zb_Cr_codeGroup_71 C hR hk6 h14 x1 x2 x3 (x4 + 1) x5 e
theorem zl_Cr_codeGroup_6 {X : zkj_T} {S : zs_T} {P : ze_T} {l : Launch} {D : va_G} {sz0 : Nat} {rh : zs_H} (C : zk_C X km_Cr_codeGroup (zs_G S l D sz0) { frames := 3, cells := 0, slots := 0, locals := 71 } (ze_E P)) (hR : zkj_R X (zd_PV S rh) (none)) (n : Nat) : ∀ (h : zs_H) (x1 : Int32) (x2 : Int32) (x3 : Int32) (x4 : Int32) (x5 : Int32), f_Cr_codeGroup_L6 n h x1 x2 x3 x4 x5 = some rh → zk_Ab X (zs_W S h) 0 0 6 [(0, .ref (S.1 47)), (1, .int x1), (2, .int x2), (3, .int x3), (4, .int x4), (5, .int x5)] [] := by
  induction n with
  | zero => intro h x1 x2 x3 x4 x5 e; exact zd_no e
  | succ n ih => intro h x1 x2 x3 x4 x5 e; exact zb_Cr_codeGroup_6 (k6 := f_Cr_codeGroup_L6  n) C hR ih h x1 x2 x3 x4 x5 e
set_option maxHeartbeats 4000000 in
set_option maxRecDepth 100000 in
theorem zc_Cr_codeGroup {l : Launch} {D : va_G} {sz0 : Nat} {S : zs_T} {P : ze_T} (h : zs_H) (x1 : Int32) (x2 : Int32) (x3 : Int32) {rh : zs_H} (e : f_Cr_codeGroup h x1 x2 x3 = some rh) : zk_Sp (zs_G S l D sz0) (ze_E P) km_Cr_codeGroup { frames := 3, cells := 0, slots := 0, locals := 71 } [.ref (S.1 47), .int x1, .int x2, .int x3] (zs_W S h) (zd_PV S rh) := by
  refine zk_met ku_Cr_codeGroup (Nat.le_of_ble_eq_true rfl) (ze_Em P) ?_
  intro X C hR
  refine zk_lvs (lv' := [(0, .ref (S.1 47)), (1, .int x1), (2, .int x2), (3, .int x3)]) [0, 1, 2, 3] rfl ?_
  unfold f_Cr_codeGroup at e
  refine zk_iconst (v := 0) C kd_Cr_codeGroup_0 (by decide) rfl ?_
  refine zk_istore (lv' := [(4, _), (0, _), (1, _), (2, _), (3, _)]) C kd_Cr_codeGroup_1 (by decide) rfl rfl ?_
  refine zk_iload_n C kd_Cr_codeGroup_3 rfl 2 rfl rfl ?_
  refine zk_istore (lv' := [(5, _), (4, _), (0, _), (1, _), (2, _), (3, _)]) C kd_Cr_codeGroup_4 (by decide) rfl rfl ?_
  refine zk_lvs (lv' := [(0, .ref (S.1 47)), (1, .int x1), (2, .int x2), (3, .int x3), (4, .int 0), (5, .int x1)]) [2, 3, 4, 5, 1, 0] rfl ?_
  exact zl_Cr_codeGroup_6 C hR zF h x1 x2 x3 0 x1 e
set_option maxHeartbeats 4000000 in
set_option maxRecDepth 100000 in
theorem zb_Cr_codeCoil_142 {X : zkj_T} {S : zs_T} {P : ze_T} {l : Launch} {D : va_G} {sz0 : Nat} {rh : zs_H} (C : zk_C X km_Cr_codeCoil (zs_G S l D sz0) { frames := 1, cells := 0, slots := 0, locals := 23 } (ze_E P)) (hR : zkj_R X (zd_PV S rh) (none)) (h : zs_H) (x4 : Int32) (e : f_Cr_codeCoil_142 h x4 = some rh) : zk_Ab X (zs_W S h) 0 0 142 [(0, .ref (S.1 47)), (4, .int x4)] [] := by
  unfold f_Cr_codeCoil_142 at e
  refine zk_aload_n C kd_Cr_codeCoil_142 rfl 0 rfl rfl ?_
  refine zs_get (v := .ref (S.1 41)) C 47 2 rfl rfl rfl rfl ki_Cr (by decide) kw444 kd_Cr_codeCoil_143 rfl ?_
  refine zk_iconst (v := 2) C kd_Cr_codeCoil_146 (by decide) rfl ?_
  refine zk_iload C kd_Cr_codeCoil_147 1 rfl rfl ?_
  obtain ⟨v2, h3, c1, e⟩ := zd_Be e
  refine zs_callV (k := 41) (rn := { frames := 0, cells := 0, slots := 0, locals := 0 }) (As := [.int 2, .int x4]) (rest := []) C (zc_Cd_emit h 2 x4 c1) ku_Cd_emit kw1278 kv_Cd_emit rfl ⟨by decide, by decide⟩ ⟨by decide, by decide⟩ rfl rfl rfl (Nat.le_of_ble_eq_true rfl) kd_Cr_codeCoil_149 rfl (c1 := 0) (s1 := 0) rfl rfl (fun v w hp => ?_)
  obtain ⟨rfl, rfl⟩ := hp
  refine zk_stk (r' := [.int v2]) rfl ?_
  refine zk_pop C kd_Cr_codeCoil_152 rfl rfl ?_
  exact zk_vret C hR kd_Cr_codeCoil_153 rfl rfl (zd_rV e)
set_option maxHeartbeats 4000000 in
set_option maxRecDepth 100000 in
theorem zb_Cr_codeCoil_138 {X : zkj_T} {S : zs_T} {P : ze_T} {l : Launch} {D : va_G} {sz0 : Nat} {rh : zs_H} (C : zk_C X km_Cr_codeCoil (zs_G S l D sz0) { frames := 1, cells := 0, slots := 0, locals := 23 } (ze_E P)) (hR : zkj_R X (zd_PV S rh) (none)) (h : zs_H) (x4 : Int32) (y0 : Int32) (y1 : Int32) (e : f_Cr_codeCoil_138 h x4 y0 y1 = some rh) : zk_Ab X (zs_W S h) 0 0 138 [(0, .ref (S.1 47)), (4, .int x4)] [.int y0, .int y1, .ref (S.1 41)] := by
  unfold f_Cr_codeCoil_138 at e
  obtain ⟨v2, h3, c1, e⟩ := zd_Be e
  refine zs_callV (k := 41) (rn := { frames := 0, cells := 0, slots := 0, locals := 0 }) (As := [.int y1, .int y0]) (rest := []) C (zc_Cd_emit h y1 y0 c1) ku_Cd_emit kw1278 kv_Cd_emit rfl ⟨by decide, by decide⟩ ⟨by decide, by decide⟩ rfl rfl rfl (Nat.le_of_ble_eq_true rfl) kd_Cr_codeCoil_138 rfl (c1 := 0) (s1 := 0) rfl rfl (fun v w hp => ?_)
  obtain ⟨rfl, rfl⟩ := hp
  refine zk_stk (r' := [.int v2]) rfl ?_
  refine zk_pop C kd_Cr_codeCoil_141 rfl rfl ?_
  refine zk_lvs (lv' := [(0, .ref (S.1 47)), (4, .int x4)]) [0, 1] rfl ?_
  exact zb_Cr_codeCoil_142 C hR h3 x4 e
set_option maxHeartbeats 4000000 in
set_option maxRecDepth 100000 in
theorem zb_Cr_codeCoil_115 {X : zkj_T} {S : zs_T} {P : ze_T} {l : Launch} {D : va_G} {sz0 : Nat} {rh : zs_H} (C : zk_C X km_Cr_codeCoil (zs_G S l D sz0) { frames := 1, cells := 0, slots := 0, locals := 23 } (ze_E P)) (hR : zkj_R X (zd_PV S rh) (none)) (h : zs_H) (x3 : Int32) (x4 : Int32) (e : f_Cr_codeCoil_115 h x3 x4 = some rh) : zk_Ab X (zs_W S h) 0 0 115 [(0, .ref (S.1 47)), (3, .int x3), (4, .int x4)] [] := by
  unfold f_Cr_codeCoil_115 at e
  refine zk_iload_n C kd_Cr_codeCoil_115 rfl 1 rfl rfl ?_
  refine zk_iconst (v := 2) C kd_Cr_codeCoil_116 (by decide) rfl ?_
  refine zk_icmp_lt (tgt := 142) C kd_Cr_codeCoil_117 (by decide) rfl (fun b1 => ?_) (fun b1 => ?_)
  · replace e := zd_pos b1 e
    refine zk_lvs (lv' := [(0, .ref (S.1 47)), (4, .int x4)]) [0, 2] rfl ?_
    exact zb_Cr_codeCoil_142 C hR h x4 e
  · replace e := zd_neg b1 e
    refine zk_aload_n C kd_Cr_codeCoil_120 rfl 0 rfl rfl ?_
    refine zs_get (v := .ref (S.1 41)) C 47 2 rfl rfl rfl rfl ki_Cr (by decide) kw444 kd_Cr_codeCoil_121 rfl ?_
    refine zk_bipush (v := 7) C kd_Cr_codeCoil_124 (by decide) rfl ?_
    refine zk_iload_n C kd_Cr_codeCoil_126 rfl 1 rfl rfl ?_
    refine zk_iconst (v := 2) C kd_Cr_codeCoil_127 (by decide) rfl ?_
    refine zk_icmp_ne (tgt := 136) C kd_Cr_codeCoil_128 (by decide) rfl (fun b2 => ?_) (fun b2 => ?_)
    · replace e := zd_neg b2 e
      refine zk_bipush (v := 10) C kd_Cr_codeCoil_136 (by decide) rfl ?_
      refine zk_lvs (lv' := [(0, .ref (S.1 47)), (4, .int x4)]) [0, 2] rfl ?_
      exact zb_Cr_codeCoil_138 C hR h x4 10 7 e
    · replace e := zd_pos b2 e
      refine zk_bipush (v := 11) C kd_Cr_codeCoil_131 (by decide) rfl ?_
      refine zk_goto (tgt := 138) C kd_Cr_codeCoil_133 (by decide) ?_
      refine zk_lvs (lv' := [(0, .ref (S.1 47)), (4, .int x4)]) [0, 2] rfl ?_
      exact zb_Cr_codeCoil_138 C hR h x4 11 7 e
set_option maxHeartbeats 4000000 in
set_option maxRecDepth 100000 in
theorem zb_Cr_codeCoil_104 {X : zkj_T} {S : zs_T} {P : ze_T} {l : Launch} {D : va_G} {sz0 : Nat} {rh : zs_H} (C : zk_C X km_Cr_codeCoil (zs_G S l D sz0) { frames := 1, cells := 0, slots := 0, locals := 23 } (ze_E P)) (hR : zkj_R X (zd_PV S rh) (none)) (h : zs_H) (x3 : Int32) (x4 : Int32) (e : f_Cr_codeCoil_104 h x3 x4 = some rh) : zk_Ab X (zs_W S h) 0 0 104 [(0, .ref (S.1 47)), (3, .int x3), (4, .int x4)] [] := by
  unfold f_Cr_codeCoil_104 at e
  refine zk_aload_n C kd_Cr_codeCoil_104 rfl 0 rfl rfl ?_
  refine zs_get (v := .ref (S.1 41)) C 47 2 rfl rfl rfl rfl ki_Cr (by decide) kw444 kd_Cr_codeCoil_105 rfl ?_
  refine zk_bipush (v := 8) C kd_Cr_codeCoil_108 (by decide) rfl ?_
  refine zk_iconst (v := 2) C kd_Cr_codeCoil_110 (by decide) rfl ?_
  obtain ⟨v2, h3, c1, e⟩ := zd_Be e
  refine zs_callV (k := 41) (rn := { frames := 0, cells := 0, slots := 0, locals := 0 }) (As := [.int 8, .int 2]) (rest := []) C (zc_Cd_emit h 8 2 c1) ku_Cd_emit kw1278 kv_Cd_emit rfl ⟨by decide, by decide⟩ ⟨by decide, by decide⟩ rfl rfl rfl (Nat.le_of_ble_eq_true rfl) kd_Cr_codeCoil_111 rfl (c1 := 0) (s1 := 0) rfl rfl (fun v w hp => ?_)
  obtain ⟨rfl, rfl⟩ := hp
  refine zk_stk (r' := [.int v2]) rfl ?_
  refine zk_pop C kd_Cr_codeCoil_114 rfl rfl ?_
  refine zk_lvs (lv' := [(0, .ref (S.1 47)), (3, .int x3), (4, .int x4)]) [0, 1, 2] rfl ?_
  exact zb_Cr_codeCoil_115 C hR h3 x3 x4 e
set_option maxHeartbeats 4000000 in
set_option maxRecDepth 100000 in
theorem zb_Cr_codeCoil_94 {X : zkj_T} {S : zs_T} {P : ze_T} {l : Launch} {D : va_G} {sz0 : Nat} {rh : zs_H} (C : zk_C X km_Cr_codeCoil (zs_G S l D sz0) { frames := 1, cells := 0, slots := 0, locals := 23 } (ze_E P)) (hR : zkj_R X (zd_PV S rh) (none)) (h : zs_H) (x3 : Int32) (x4 : Int32) (e : f_Cr_codeCoil_94 h x3 x4 = some rh) : zk_Ab X (zs_W S h) 0 0 94 [(0, .ref (S.1 47)), (3, .int x3), (4, .int x4)] [] := by
  unfold f_Cr_codeCoil_94 at e
  refine zk_iload_n C kd_Cr_codeCoil_94 rfl 1 rfl rfl ?_
  refine zk_iconst (v := 1) C kd_Cr_codeCoil_95 (by decide) rfl ?_
  refine zk_icmp_eq (tgt := 104) C kd_Cr_codeCoil_96 (by decide) rfl (fun b1 => ?_) (fun b1 => ?_)
  · replace e := zd_pos b1 e
    refine zk_lvs (lv' := [(0, .ref (S.1 47)), (3, .int x3), (4, .int x4)]) [0, 1, 2] rfl ?_
    exact zb_Cr_codeCoil_104 C hR h x3 x4 e
  · replace e := zd_neg b1 e
    refine zk_iload_n C kd_Cr_codeCoil_99 rfl 1 rfl rfl ?_
    refine zk_iconst (v := 3) C kd_Cr_codeCoil_100 (by decide) rfl ?_
    refine zk_icmp_ne (tgt := 115) C kd_Cr_codeCoil_101 (by decide) rfl (fun b2 => ?_) (fun b2 => ?_)
    · replace e := zd_neg b2 e
      refine zk_lvs (lv' := [(0, .ref (S.1 47)), (3, .int x3), (4, .int x4)]) [0, 1, 2] rfl ?_
      exact zb_Cr_codeCoil_115 C hR h x3 x4 e
    · replace e := zd_pos b2 e
      refine zk_lvs (lv' := [(0, .ref (S.1 47)), (3, .int x3), (4, .int x4)]) [0, 1, 2] rfl ?_
      exact zb_Cr_codeCoil_104 C hR h x3 x4 e
set_option maxHeartbeats 4000000 in
set_option maxRecDepth 100000 in
theorem zb_Cr_codeCoil_53 {X : zkj_T} {S : zs_T} {P : ze_T} {l : Launch} {D : va_G} {sz0 : Nat} {rh : zs_H} (C : zk_C X km_Cr_codeCoil (zs_G S l D sz0) { frames := 1, cells := 0, slots := 0, locals := 23 } (ze_E P)) (hR : zkj_R X (zd_PV S rh) (none)) (h : zs_H) (x2 : Int32) (x3 : Int32) (x4 : Int32) (e : f_Cr_codeCoil_53 h x2 x3 x4 = some rh) : zk_Ab X (zs_W S h) 0 0 53 [(0, .ref (S.1 47)), (2, .int x2), (3, .int x3), (4, .int x4)] [] := by
  unfold f_Cr_codeCoil_53 at e
  refine zk_aload_n C kd_Cr_codeCoil_53 rfl 0 rfl rfl ?_
  refine zs_get (v := .int (h.1 47 11)) C 47 11 rfl rfl rfl rfl ki_Cr (by decide) kw453 kd_Cr_codeCoil_54 rfl ?_
  refine zk_iconst (v := 1) C kd_Cr_codeCoil_57 (by decide) rfl ?_
  refine zk_icmp_ne (tgt := 74) C kd_Cr_codeCoil_58 (by decide) rfl (fun b1 => ?_) (fun b1 => ?_)
  · replace e := zd_neg b1 e
    refine zk_aload_n C kd_Cr_codeCoil_74 rfl 0 rfl rfl ?_
    refine zs_get (v := .ref (S.1 41)) C 47 2 rfl rfl rfl rfl ki_Cr (by decide) kw444 kd_Cr_codeCoil_75 rfl ?_
    refine zk_iconst (v := 1) C kd_Cr_codeCoil_78 (by decide) rfl ?_
    refine zk_aload_n C kd_Cr_codeCoil_79 rfl 0 rfl rfl ?_
    refine zk_iload_n C kd_Cr_codeCoil_80 rfl 1 rfl rfl ?_
    refine zk_aload_n C kd_Cr_codeCoil_81 rfl 0 rfl rfl ?_
    refine zs_get (v := .int (h.1 47 11)) C 47 11 rfl rfl rfl rfl ki_Cr (by decide) kw453 kd_Cr_codeCoil_82 rfl ?_
    refine zk_iconst (v := 2) C kd_Cr_codeCoil_85 (by decide) rfl ?_
    refine zk_isub C kd_Cr_codeCoil_86 rfl ?_
    obtain ⟨v3, c2, e⟩ := zd_b e
    refine zs_callV (k := 47) (rn := { frames := 0, cells := 0, slots := 0, locals := 0 }) (As := [.int x2, .int ((h.1 47 11) - 2)]) (rest := [.int 1, .ref (S.1 41)]) C (zc_Cr_power h x2 ((h.1 47 11) - 2) c2) ku_Cr_power kw1370 kv_Cr_power rfl ⟨by decide, by decide⟩ ⟨by decide, by decide⟩ rfl rfl rfl (Nat.le_of_ble_eq_true rfl) kd_Cr_codeCoil_87 rfl (c1 := 0) (s1 := 0) rfl rfl (fun v w hp => ?_)
    obtain ⟨rfl, rfl⟩ := hp
    refine zk_stk (r' := [.int v3, .int 1, .ref (S.1 41)]) rfl ?_
    obtain ⟨v5, h6, c4, e⟩ := zd_Be e
    refine zs_callV (k := 41) (rn := { frames := 0, cells := 0, slots := 0, locals := 0 }) (As := [.int 1, .int v3]) (rest := []) C (zc_Cd_emit h 1 v3 c4) ku_Cd_emit kw1278 kv_Cd_emit rfl ⟨by decide, by decide⟩ ⟨by decide, by decide⟩ rfl rfl rfl (Nat.le_of_ble_eq_true rfl) kd_Cr_codeCoil_90 rfl (c1 := 0) (s1 := 0) rfl rfl (fun v w hp => ?_)
    obtain ⟨rfl, rfl⟩ := hp
    refine zk_stk (r' := [.int v5]) rfl ?_
    refine zk_pop C kd_Cr_codeCoil_93 rfl rfl ?_
    refine zk_lvs (lv' := [(0, .ref (S.1 47)), (3, .int x3), (4, .int x4)]) [0, 2, 3] rfl ?_
    exact zb_Cr_codeCoil_94 C hR h6 x3 x4 e
  · replace e := zd_pos b1 e
    refine zk_aload_n C kd_Cr_codeCoil_61 rfl 0 rfl rfl ?_
    refine zs_get (v := .ref (S.1 41)) C 47 2 rfl rfl rfl rfl ki_Cr (by decide) kw444 kd_Cr_codeCoil_62 rfl ?_
    refine zk_iconst (v := 0) C kd_Cr_codeCoil_65 (by decide) rfl ?_
    refine zk_iconst (v := 1) C kd_Cr_codeCoil_66 (by decide) rfl ?_
    obtain ⟨v8, h9, c7, e⟩ := zd_Be e
    refine zs_callV (k := 41) (rn := { frames := 0, cells := 0, slots := 0, locals := 0 }) (As := [.int 0, .int 1]) (rest := []) C (zc_Cd_emit h 0 1 c7) ku_Cd_emit kw1278 kv_Cd_emit rfl ⟨by decide, by decide⟩ ⟨by decide, by decide⟩ rfl rfl rfl (Nat.le_of_ble_eq_true rfl) kd_Cr_codeCoil_67 rfl (c1 := 0) (s1 := 0) rfl rfl (fun v w hp => ?_)
    obtain ⟨rfl, rfl⟩ := hp
    refine zk_stk (r' := [.int v8]) rfl ?_
    refine zk_pop C kd_Cr_codeCoil_70 rfl rfl ?_
    refine zk_goto (tgt := 94) C kd_Cr_codeCoil_71 (by decide) ?_
    refine zk_lvs (lv' := [(0, .ref (S.1 47)), (3, .int x3), (4, .int x4)]) [0, 2, 3] rfl ?_
    exact zb_Cr_codeCoil_94 C hR h9 x3 x4 e
set_option maxHeartbeats 4000000 in
set_option maxRecDepth 100000 in
theorem zc_Cr_codeCoil {l : Launch} {D : va_G} {sz0 : Nat} {S : zs_T} {P : ze_T} (h : zs_H) (x1 : Int32) (x2 : Int32) {rh : zs_H} (e : f_Cr_codeCoil h x1 x2 = some rh) : zk_Sp (zs_G S l D sz0) (ze_E P) km_Cr_codeCoil { frames := 1, cells := 0, slots := 0, locals := 23 } [.ref (S.1 47), .int x1, .int x2] (zs_W S h) (zd_PV S rh) := by
  refine zk_met ku_Cr_codeCoil (Nat.le_of_ble_eq_true rfl) (ze_Em P) ?_
  intro X C hR
  refine zk_lvs (lv' := [(0, .ref (S.1 47)), (1, .int x1), (2, .int x2)]) [0, 1, 2] rfl ?_
  unfold f_Cr_codeCoil at e
  refine zk_aload_n C kd_Cr_codeCoil_0 rfl 0 rfl rfl ?_
  refine zs_get (v := .ref (S.1 12)) C 47 0 rfl rfl rfl rfl ki_Cr (by decide) kw442 kd_Cr_codeCoil_1 rfl ?_
  refine zs_get (v := .ref (S.1 16)) C 12 3 rfl rfl rfl rfl ki_Tr (by decide) kw167 kd_Cr_codeCoil_4 rfl ?_
  refine zk_iload_n C kd_Cr_codeCoil_7 rfl 1 rfl rfl ?_
  obtain ⟨q1, e⟩ := zd_g e
  refine zs_iald C 16 rfl (zd_vp q1) kd_Cr_codeCoil_8 rfl ?_
  refine zk_istore_n (lv' := [(3, _), (0, _), (1, _), (2, _)]) C kd_Cr_codeCoil_9 rfl (by decide) rfl rfl ?_
  refine zk_aload_n C kd_Cr_codeCoil_10 rfl 1 rfl rfl ?_
  refine zs_get (v := .ref (S.1 20)) C 47 1 rfl rfl rfl rfl ki_Cr (by decide) kw443 kd_Cr_codeCoil_11 rfl ?_
  refine zs_get (v := .ref (S.1 32)) C 20 11 rfl rfl rfl rfl ki_Pl (by decide) kw269 kd_Cr_codeCoil_14 rfl ?_
  refine zk_aload_n C kd_Cr_codeCoil_17 rfl 1 rfl rfl ?_
  refine zs_get (v := .ref (S.1 12)) C 47 0 rfl rfl rfl rfl ki_Cr (by decide) kw442 kd_Cr_codeCoil_18 rfl ?_
  refine zs_get (v := .ref (S.1 16)) C 12 3 rfl rfl rfl rfl ki_Tr (by decide) kw167 kd_Cr_codeCoil_21 rfl ?_
  refine zk_aload_n C kd_Cr_codeCoil_24 rfl 1 rfl rfl ?_
  refine zs_get (v := .ref (S.1 12)) C 47 0 rfl rfl rfl rfl ki_Cr (by decide) kw442 kd_Cr_codeCoil_25 rfl ?_
  refine zs_get (v := .ref (S.1 17)) C 12 4 rfl rfl rfl rfl ki_Tr (by decide) kw171 kd_Cr_codeCoil_28 rfl ?_
  refine zk_iload_n C kd_Cr_codeCoil_31 rfl 2 rfl rfl ?_
  refine zs_iald C 17 rfl (zd_vp q1) kd_Cr_codeCoil_32 rfl ?_
  obtain ⟨q2, e⟩ := zd_g e
  refine zs_iald C 16 rfl (zd_vp q2) kd_Cr_codeCoil_33 rfl ?_
  obtain ⟨q3, e⟩ := zd_g e
  refine zs_iald C 32 rfl (zd_vp q3) kd_Cr_codeCoil_34 rfl ?_
  refine zk_istore (lv' := [(4, _), (3, _), (0, _), (1, _), (2, _)]) C kd_Cr_codeCoil_35 (by decide) rfl rfl ?_
  refine zk_iload_n C kd_Cr_codeCoil_37 rfl 1 rfl rfl ?_
  refine zk_iconst (v := 2) C kd_Cr_codeCoil_38 (by decide) rfl ?_
  refine zk_icmp_lt (tgt := 53) C kd_Cr_codeCoil_39 (by decide) rfl (fun b4 => ?_) (fun b4 => ?_)
  · replace e := zd_pos b4 e
    refine zk_lvs (lv' := [(0, .ref (S.1 47)), (2, .int x2), (3, .int (h.2.1 16 x1.toNatClampNeg)), (4, .int (h.2.1 32 (h.2.1 16 (h.2.1 17 x1.toNatClampNeg).toNatClampNeg).toNatClampNeg))]) [2, 4, 1, 0] rfl ?_
    exact zb_Cr_codeCoil_53 C hR h x2 (h.2.1 16 x1.toNatClampNeg) (h.2.1 32 (h.2.1 16 (h.2.1 17 x1.toNatClampNeg).toNatClampNeg).toNatClampNeg) e
  · replace e := zd_neg b4 e
    refine zk_aload_n C kd_Cr_codeCoil_42 rfl 2 rfl rfl ?_
    refine zs_get (v := .ref (S.1 41)) C 47 2 rfl rfl rfl rfl ki_Cr (by decide) kw444 kd_Cr_codeCoil_43 rfl ?_
    refine zk_iconst (v := 1) C kd_Cr_codeCoil_46 (by decide) rfl ?_
    refine zk_iload C kd_Cr_codeCoil_47 0 rfl rfl ?_
    obtain ⟨v6, h7, c5, e⟩ := zd_Be e
    refine zs_callV (k := 41) (rn := { frames := 0, cells := 0, slots := 0, locals := 0 }) (As := [.int 1, .int (h.2.1 32 (h.2.1 16 (h.2.1 17 x1.toNatClampNeg).toNatClampNeg).toNatClampNeg)]) (rest := []) C (zc_Cd_emit h 1 (h.2.1 32 (h.2.1 16 (h.2.1 17 x1.toNatClampNeg).toNatClampNeg).toNatClampNeg) c5) ku_Cd_emit kw1278 kv_Cd_emit rfl ⟨by decide, by decide⟩ ⟨by decide, by decide⟩ rfl rfl rfl (Nat.le_of_ble_eq_true rfl) kd_Cr_codeCoil_49 rfl (c1 := 0) (s1 := 0) rfl rfl (fun v w hp => ?_)
    obtain ⟨rfl, rfl⟩ := hp
    refine zk_stk (r' := [.int v6]) rfl ?_
    refine zk_pop C kd_Cr_codeCoil_52 rfl rfl ?_
    refine zk_lvs (lv' := [(0, .ref (S.1 47)), (2, .int x2), (3, .int (h.2.1 16 x1.toNatClampNeg)), (4, .int (h.2.1 32 (h.2.1 16 (h.2.1 17 x1.toNatClampNeg).toNatClampNeg).toNatClampNeg))]) [2, 4, 1, 0] rfl ?_
    exact zb_Cr_codeCoil_53 C hR h7 x2 (h.2.1 16 x1.toNatClampNeg) (h.2.1 32 (h.2.1 16 (h.2.1 17 x1.toNatClampNeg).toNatClampNeg).toNatClampNeg) e
set_option maxHeartbeats 4000000 in
set_option maxRecDepth 100000 in
theorem zb_Cr_codeRung_75 {X : zkj_T} {S : zs_T} {P : ze_T} {l : Launch} {D : va_G} {sz0 : Nat} {rh : zs_H} (C : zk_C X km_Cr_codeRung (zs_G S l D sz0) { frames := 4, cells := 0, slots := 0, locals := 97 } (ze_E P)) (hR : zkj_R X (zd_PV S rh) (none)) {k7 : zs_H → Int32 → (Option zs_H)} (hk7 : ∀ (h : zs_H) (x2 : Int32), k7 h x2 = some rh → zk_Ab X (zs_W S h) 0 0 7 [(0, .ref (S.1 47)), (2, .int x2)] []) {k20 : zs_H → Int32 → Int32 → Int32 → (Option zs_H)} (hk20 : ∀ (h : zs_H) (x2 : Int32) (x3 : Int32) (x4 : Int32), k20 h x2 x3 x4 = some rh → zk_Ab X (zs_W S h) 0 0 20 [(0, .ref (S.1 47)), (2, .int x2), (3, .int x3), (4, .int x4)] []) (h : zs_H) (x2 : Int32) (x4 : Int32) (x5 : Int32) (e : f_Cr_codeRung_75 k7 k20 h x2 x4 x5 = some rh) : zk_Ab X (zs_W S h) 0 0 75 [(0, .ref (S.1 47)), (2, .int x2), (4, .int x4), (5, .int x5)] [] := by
  unfold f_Cr_codeRung_75 at e
  refine zk_iload C kd_Cr_codeRung_75 3 rfl rfl ?_
  refine zk_iconst (v := 1) C kd_Cr_codeRung_77 (by decide) rfl ?_
  refine zk_iadd C kd_Cr_codeRung_78 rfl ?_
  refine zk_istore_n (lv' := [(3, _), (0, _), (2, _), (4, _), (5, _)]) C kd_Cr_codeRung_79 rfl (by decide) rfl rfl ?_
  refine zk_iinc (v := (x4 + 1)) (lv' := [(4, _), (3, _), (0, _), (2, _), (5, _)]) C kd_Cr_codeRung_80 3 rfl rfl (by decide) rfl rfl ?_
  refine zk_goto (tgt := 20) C kd_Cr_codeRung_83 (by decide) ?_
  refine zk_lvs (lv' := [(0, .ref (S.1 47)), (2, .int x2), (3, .int (x5 + 1)), (4, .int (x4 + 1))]) [2, 3, 1, 0] rfl ?_
  exact hk20 h x2 (x5 + 1) (x4 + 1) e
set_option maxHeartbeats 4000000 in
set_option maxRecDepth 100000 in
theorem zb_Cr_codeRung_86 {X : zkj_T} {S : zs_T} {P : ze_T} {l : Launch} {D : va_G} {sz0 : Nat} {rh : zs_H} (C : zk_C X km_Cr_codeRung (zs_G S l D sz0) { frames := 4, cells := 0, slots := 0, locals := 97 } (ze_E P)) (hR : zkj_R X (zd_PV S rh) (none)) {k7 : zs_H → Int32 → (Option zs_H)} (hk7 : ∀ (h : zs_H) (x2 : Int32), k7 h x2 = some rh → zk_Ab X (zs_W S h) 0 0 7 [(0, .ref (S.1 47)), (2, .int x2)] []) (h : zs_H) (x2 : Int32) (e : f_Cr_codeRung_86 k7 h x2 = some rh) : zk_Ab X (zs_W S h) 0 0 86 [(0, .ref (S.1 47)), (2, .int x2)] [] := by
  unfold f_Cr_codeRung_86 at e
  refine zk_iinc (v := (x2 + 1)) (lv' := [(2, _), (0, _)]) C kd_Cr_codeRung_86 1 rfl rfl (by decide) rfl rfl ?_
  refine zk_goto (tgt := 7) C kd_Cr_codeRung_89 (by decide) ?_
  refine zk_lvs (lv' := [(0, .ref (S.1 47)), (2, .int (x2 + 1))]) [1, 0] rfl ?_
  exact hk7 h (x2 + 1) e
set_option maxHeartbeats 4000000 in
set_option maxRecDepth 100000 in
theorem zb_Cr_codeRung_20 {X : zkj_T} {S : zs_T} {P : ze_T} {l : Launch} {D : va_G} {sz0 : Nat} {rh : zs_H} (C : zk_C X km_Cr_codeRung (zs_G S l D sz0) { frames := 4, cells := 0, slots := 0, locals := 97 } (ze_E P)) (hR : zkj_R X (zd_PV S rh) (none)) {k7 : zs_H → Int32 → (Option zs_H)} (hk7 : ∀ (h : zs_H) (x2 : Int32), k7 h x2 = some rh → zk_Ab X (zs_W S h) 0 0 7 [(0, .ref (S.1 47)), (2, .int x2)] []) {k20 : zs_H → Int32 → Int32 → Int32 → (Option zs_H)} (hk20 : ∀ (h : zs_H) (x2 : Int32) (x3 : Int32) (x4 : Int32), k20 h x2 x3 x4 = some rh → zk_Ab X (zs_W S h) 0 0 20 [(0, .ref (S.1 47)), (2, .int x2), (3, .int x3), (4, .int x4)] []) (h : zs_H) (x2 : Int32) (x3 : Int32) (x4 : Int32) (e : f_Cr_codeRung_20 k7 k20 h x2 x3 x4 = some rh) : zk_Ab X (zs_W S h) 0 0 20 [(0, .ref (S.1 47)), (2, .int x2), (3, .int x3), (4, .int x4)] [] := by
  unfold f_Cr_codeRung_20 at e
  refine zk_iload C kd_Cr_codeRung_20 3 rfl rfl ?_
  refine zk_bipush (v := 12) C kd_Cr_codeRung_22 (by decide) rfl ?_
  refine zk_icmp_ge (tgt := 86) C kd_Cr_codeRung_24 (by decide) rfl (fun b1 => ?_) (fun b1 => ?_)
  · replace e := zd_pos b1 e
    refine zk_lvs (lv' := [(0, .ref (S.1 47)), (2, .int x2)]) [0, 1] rfl ?_
    exact zb_Cr_codeRung_86 C hR hk7 h x2 e
  · replace e := zd_neg b1 e
    refine zk_iload_n C kd_Cr_codeRung_27 rfl 2 rfl rfl ?_
    refine zk_aload_n C kd_Cr_codeRung_28 rfl 0 rfl rfl ?_
    refine zs_get (v := .int (h.1 47 10)) C 47 10 rfl rfl rfl rfl ki_Cr (by decide) kw452 kd_Cr_codeRung_29 rfl ?_
    refine zk_icmp_ge (tgt := 86) C kd_Cr_codeRung_32 (by decide) rfl (fun b2 => ?_) (fun b2 => ?_)
    · replace e := zd_pos b2 e
      refine zk_lvs (lv' := [(0, .ref (S.1 47)), (2, .int x2)]) [0, 1] rfl ?_
      exact zb_Cr_codeRung_86 C hR hk7 h x2 e
    · replace e := zd_neg b2 e
      refine zk_aload_n C kd_Cr_codeRung_35 rfl 0 rfl rfl ?_
      refine zk_iload_n C kd_Cr_codeRung_36 rfl 2 rfl rfl ?_
      refine zk_iload_n C kd_Cr_codeRung_37 rfl 1 rfl rfl ?_
      obtain ⟨v4, c3, e⟩ := zd_b e
      refine zs_callV (k := 47) (rn := { frames := 0, cells := 0, slots := 0, locals := 0 }) (As := [.int x3, .int x2]) (rest := []) C (zc_Cr_lastOfGroup h x3 x2 c3) ku_Cr_lastOfGroup kw1358 kv_Cr_lastOfGroup rfl ⟨by decide, by decide⟩ ⟨by decide, by decide⟩ rfl rfl rfl (Nat.le_of_ble_eq_true rfl) kd_Cr_codeRung_38 rfl (c1 := 0) (s1 := 0) rfl rfl (fun v w hp => ?_)
      obtain ⟨rfl, rfl⟩ := hp
      refine zk_stk (r' := [.int v4]) rfl ?_
      refine zk_istore (lv' := [(5, _), (0, _), (2, _), (3, _), (4, _)]) C kd_Cr_codeRung_41 (by decide) rfl rfl ?_
      refine zk_aload_n C kd_Cr_codeRung_43 rfl 1 rfl rfl ?_
      refine zs_get (v := .ref (S.1 12)) C 47 0 rfl rfl rfl rfl ki_Cr (by decide) kw442 kd_Cr_codeRung_44 rfl ?_
      refine zs_get (v := .ref (S.1 13)) C 12 0 rfl rfl rfl rfl ki_Tr (by decide) kw156 kd_Cr_codeRung_47 rfl ?_
      refine zk_aload_n C kd_Cr_codeRung_50 rfl 1 rfl rfl ?_
      refine zs_get (v := .ref (S.1 48)) C 47 7 rfl rfl rfl rfl ki_Cr (by decide) kw449 kd_Cr_codeRung_51 rfl ?_
      refine zk_iload_n C kd_Cr_codeRung_54 rfl 3 rfl rfl ?_
      refine zk_bipush (v := 12) C kd_Cr_codeRung_55 (by decide) rfl ?_
      refine zk_imul C kd_Cr_codeRung_57 rfl ?_
      refine zk_iload_n C kd_Cr_codeRung_58 rfl 2 rfl rfl ?_
      refine zk_iadd C kd_Cr_codeRung_59 rfl ?_
      obtain ⟨q5, e⟩ := zd_g e
      refine zs_iald C 48 rfl (zd_vp q5) kd_Cr_codeRung_60 rfl ?_
      obtain ⟨q6, e⟩ := zd_g e
      refine zs_bald C 13 rfl (zd_vp q6) kd_Cr_codeRung_61 rfl ?_
      refine zk_bipush (v := 28) C kd_Cr_codeRung_62 (by decide) rfl ?_
      refine zk_icmp_eq (tgt := 75) C kd_Cr_codeRung_64 (by decide) rfl (fun b7 => ?_) (fun b7 => ?_)
      · replace e := zd_pos b7 e
        refine zk_lvs (lv' := [(0, .ref (S.1 47)), (2, .int x2), (4, .int x4), (5, .int v4)]) [1, 2, 4, 0] rfl ?_
        exact zb_Cr_codeRung_75 C hR hk7 hk20 h x2 x4 v4 e
      · replace e := zd_neg b7 e
        refine zk_aload_n C kd_Cr_codeRung_67 rfl 1 rfl rfl ?_
        refine zk_iload_n C kd_Cr_codeRung_68 rfl 3 rfl rfl ?_
        refine zk_iload C kd_Cr_codeRung_69 0 rfl rfl ?_
        refine zk_iload_n C kd_Cr_codeRung_71 rfl 2 rfl rfl ?_
        obtain ⟨h9, c8, e⟩ := zd_b e
        refine zs_callV (k := 47) (rn := { frames := 3, cells := 0, slots := 0, locals := 71 }) (As := [.int x3, .int v4, .int x2]) (rest := []) C (zc_Cr_codeGroup h x3 v4 x2 c8) ku_Cr_codeGroup kw1362 kv_Cr_codeGroup rfl ⟨by decide, by decide⟩ ⟨by decide, by decide⟩ rfl rfl rfl (Nat.le_of_ble_eq_true rfl) kd_Cr_codeRung_72 rfl (c1 := 0) (s1 := 0) rfl rfl (fun v w hp => ?_)
        obtain ⟨rfl, rfl⟩ := hp
        refine zk_stk (r' := []) rfl ?_
        refine zk_lvs (lv' := [(0, .ref (S.1 47)), (2, .int x2), (4, .int x4), (5, .int v4)]) [1, 2, 4, 0] rfl ?_
        exact zb_Cr_codeRung_75 C hR hk7 hk20 h9 x2 x4 v4 e
theorem zl_Cr_codeRung_20 {X : zkj_T} {S : zs_T} {P : ze_T} {l : Launch} {D : va_G} {sz0 : Nat} {rh : zs_H} (C : zk_C X km_Cr_codeRung (zs_G S l D sz0) { frames := 4, cells := 0, slots := 0, locals := 97 } (ze_E P)) (hR : zkj_R X (zd_PV S rh) (none)) {k7 : zs_H → Int32 → (Option zs_H)} (hk7 : ∀ (h : zs_H) (x2 : Int32), k7 h x2 = some rh → zk_Ab X (zs_W S h) 0 0 7 [(0, .ref (S.1 47)), (2, .int x2)] []) (n : Nat) : ∀ (h : zs_H) (x2 : Int32) (x3 : Int32) (x4 : Int32), f_Cr_codeRung_L20 k7 n h x2 x3 x4 = some rh → zk_Ab X (zs_W S h) 0 0 20 [(0, .ref (S.1 47)), (2, .int x2), (3, .int x3), (4, .int x4)] [] := by
  induction n with
  | zero => intro h x2 x3 x4 e; exact zd_no e
  | succ n ih => intro h x2 x3 x4 e; exact zb_Cr_codeRung_20 (k20 := f_Cr_codeRung_L20 k7 n) C hR hk7 ih h x2 x3 x4 e
set_option maxHeartbeats 4000000 in
set_option maxRecDepth 100000 in
theorem zb_Cr_codeRung_139 {X : zkj_T} {S : zs_T} {P : ze_T} {l : Launch} {D : va_G} {sz0 : Nat} {rh : zs_H} (C : zk_C X km_Cr_codeRung (zs_G S l D sz0) { frames := 4, cells := 0, slots := 0, locals := 97 } (ze_E P)) (hR : zkj_R X (zd_PV S rh) (none)) {k94 : zs_H → Int32 → (Option zs_H)} (hk94 : ∀ (h : zs_H) (x2 : Int32), k94 h x2 = some rh → zk_Ab X (zs_W S h) 0 0 94 [(0, .ref (S.1 47)), (2, .int x2)] []) (h : zs_H) (x2 : Int32) (e : f_Cr_codeRung_139 k94 h x2 = some rh) : zk_Ab X (zs_W S h) 0 0 139 [(0, .ref (S.1 47)), (2, .int x2)] [] := by
  unfold f_Cr_codeRung_139 at e
  refine zk_iinc (v := (x2 + 1)) (lv' := [(2, _), (0, _)]) C kd_Cr_codeRung_139 1 rfl rfl (by decide) rfl rfl ?_
  refine zk_goto (tgt := 94) C kd_Cr_codeRung_142 (by decide) ?_
  refine zk_lvs (lv' := [(0, .ref (S.1 47)), (2, .int (x2 + 1))]) [1, 0] rfl ?_
  exact hk94 h (x2 + 1) e
set_option maxHeartbeats 4000000 in
set_option maxRecDepth 100000 in
theorem zb_Cr_codeRung_94 {X : zkj_T} {S : zs_T} {P : ze_T} {l : Launch} {D : va_G} {sz0 : Nat} {rh : zs_H} (C : zk_C X km_Cr_codeRung (zs_G S l D sz0) { frames := 4, cells := 0, slots := 0, locals := 97 } (ze_E P)) (hR : zkj_R X (zd_PV S rh) (none)) {k94 : zs_H → Int32 → (Option zs_H)} (hk94 : ∀ (h : zs_H) (x2 : Int32), k94 h x2 = some rh → zk_Ab X (zs_W S h) 0 0 94 [(0, .ref (S.1 47)), (2, .int x2)] []) (h : zs_H) (x2 : Int32) (e : f_Cr_codeRung_94 k94 h x2 = some rh) : zk_Ab X (zs_W S h) 0 0 94 [(0, .ref (S.1 47)), (2, .int x2)] [] := by
  unfold f_Cr_codeRung_94 at e
  refine zk_iload_n C kd_Cr_codeRung_94 rfl 1 rfl rfl ?_
  refine zk_aload_n C kd_Cr_codeRung_95 rfl 0 rfl rfl ?_
  refine zs_get (v := .int (h.1 47 10)) C 47 10 rfl rfl rfl rfl ki_Cr (by decide) kw452 kd_Cr_codeRung_96 rfl ?_
  refine zk_icmp_ge (tgt := 145) C kd_Cr_codeRung_99 (by decide) rfl (fun b1 => ?_) (fun b1 => ?_)
  · replace e := zd_pos b1 e
    exact zk_vret C hR kd_Cr_codeRung_145 rfl rfl (zd_rV e)
  · replace e := zd_neg b1 e
    refine zk_aload_n C kd_Cr_codeRung_102 rfl 0 rfl rfl ?_
    refine zs_get (v := .ref (S.1 48)) C 47 7 rfl rfl rfl rfl ki_Cr (by decide) kw449 kd_Cr_codeRung_103 rfl ?_
    refine zk_iload_n C kd_Cr_codeRung_106 rfl 1 rfl rfl ?_
    refine zk_bipush (v := 12) C kd_Cr_codeRung_107 (by decide) rfl ?_
    refine zk_imul C kd_Cr_codeRung_109 rfl ?_
    refine zk_aload_n C kd_Cr_codeRung_110 rfl 0 rfl rfl ?_
    refine zs_get (v := .int (h.1 47 11)) C 47 11 rfl rfl rfl rfl ki_Cr (by decide) kw453 kd_Cr_codeRung_111 rfl ?_
    refine zk_iadd C kd_Cr_codeRung_114 rfl ?_
    refine zk_iconst (v := 1) C kd_Cr_codeRung_115 (by decide) rfl ?_
    refine zk_isub C kd_Cr_codeRung_116 rfl ?_
    obtain ⟨q2, e⟩ := zd_g e
    refine zs_iald C 48 rfl (zd_vp q2) kd_Cr_codeRung_117 rfl ?_
    refine zk_istore_n (lv' := [(3, _), (0, _), (2, _)]) C kd_Cr_codeRung_118 rfl (by decide) rfl rfl ?_
    refine zk_aload_n C kd_Cr_codeRung_119 rfl 1 rfl rfl ?_
    refine zs_get (v := .ref (S.1 12)) C 47 0 rfl rfl rfl rfl ki_Cr (by decide) kw442 kd_Cr_codeRung_120 rfl ?_
    refine zs_get (v := .ref (S.1 13)) C 12 0 rfl rfl rfl rfl ki_Tr (by decide) kw156 kd_Cr_codeRung_123 rfl ?_
    refine zk_iload_n C kd_Cr_codeRung_126 rfl 0 rfl rfl ?_
    obtain ⟨q3, e⟩ := zd_g e
    refine zs_bald C 13 rfl (zd_vp q3) kd_Cr_codeRung_127 rfl ?_
    refine zk_bipush (v := 28) C kd_Cr_codeRung_128 (by decide) rfl ?_
    refine zk_icmp_ne (tgt := 139) C kd_Cr_codeRung_130 (by decide) rfl (fun b4 => ?_) (fun b4 => ?_)
    · replace e := zd_neg b4 e
      refine zk_lvs (lv' := [(0, .ref (S.1 47)), (2, .int x2)]) [1, 2] rfl ?_
      exact zb_Cr_codeRung_139 C hR hk94 h x2 e
    · replace e := zd_pos b4 e
      refine zk_aload_n C kd_Cr_codeRung_133 rfl 1 rfl rfl ?_
      refine zk_iload_n C kd_Cr_codeRung_134 rfl 0 rfl rfl ?_
      refine zk_iload_n C kd_Cr_codeRung_135 rfl 2 rfl rfl ?_
      obtain ⟨h6, c5, e⟩ := zd_b e
      refine zs_callV (k := 47) (rn := { frames := 1, cells := 0, slots := 0, locals := 23 }) (As := [.int (h.2.1 48 (((x2 * 12) + (h.1 47 11)) - 1).toNatClampNeg), .int x2]) (rest := []) C (zc_Cr_codeCoil h (h.2.1 48 (((x2 * 12) + (h.1 47 11)) - 1).toNatClampNeg) x2 c5) ku_Cr_codeCoil kw1378 kv_Cr_codeCoil rfl ⟨by decide, by decide⟩ ⟨by decide, by decide⟩ rfl rfl rfl (Nat.le_of_ble_eq_true rfl) kd_Cr_codeRung_136 rfl (c1 := 0) (s1 := 0) rfl rfl (fun v w hp => ?_)
      obtain ⟨rfl, rfl⟩ := hp
      refine zk_stk (r' := []) rfl ?_
      refine zk_lvs (lv' := [(0, .ref (S.1 47)), (2, .int x2)]) [1, 2] rfl ?_
      exact zb_Cr_codeRung_139 C hR hk94 h6 x2 e
theorem zl_Cr_codeRung_94 {X : zkj_T} {S : zs_T} {P : ze_T} {l : Launch} {D : va_G} {sz0 : Nat} {rh : zs_H} (C : zk_C X km_Cr_codeRung (zs_G S l D sz0) { frames := 4, cells := 0, slots := 0, locals := 97 } (ze_E P)) (hR : zkj_R X (zd_PV S rh) (none)) (n : Nat) : ∀ (h : zs_H) (x2 : Int32), f_Cr_codeRung_L94 n h x2 = some rh → zk_Ab X (zs_W S h) 0 0 94 [(0, .ref (S.1 47)), (2, .int x2)] [] := by
  induction n with
  | zero => intro h x2 e; exact zd_no e
  | succ n ih => intro h x2 e; exact zb_Cr_codeRung_94 (k94 := f_Cr_codeRung_L94  n) C hR ih h x2 e
set_option maxHeartbeats 4000000 in
set_option maxRecDepth 100000 in
theorem zb_Cr_codeRung_7 {X : zkj_T} {S : zs_T} {P : ze_T} {l : Launch} {D : va_G} {sz0 : Nat} {rh : zs_H} (C : zk_C X km_Cr_codeRung (zs_G S l D sz0) { frames := 4, cells := 0, slots := 0, locals := 97 } (ze_E P)) (hR : zkj_R X (zd_PV S rh) (none)) {k7 : zs_H → Int32 → (Option zs_H)} (hk7 : ∀ (h : zs_H) (x2 : Int32), k7 h x2 = some rh → zk_Ab X (zs_W S h) 0 0 7 [(0, .ref (S.1 47)), (2, .int x2)] []) (h : zs_H) (x2 : Int32) (e : f_Cr_codeRung_7 k7 h x2 = some rh) : zk_Ab X (zs_W S h) 0 0 7 [(0, .ref (S.1 47)), (2, .int x2)] [] := by
  unfold f_Cr_codeRung_7 at e
  refine zk_iload_n C kd_Cr_codeRung_7 rfl 1 rfl rfl ?_
  refine zk_aload_n C kd_Cr_codeRung_8 rfl 0 rfl rfl ?_
  refine zs_get (v := .int (h.1 47 11)) C 47 11 rfl rfl rfl rfl ki_Cr (by decide) kw453 kd_Cr_codeRung_9 rfl ?_
  refine zk_icmp_ge (tgt := 92) C kd_Cr_codeRung_12 (by decide) rfl (fun b1 => ?_) (fun b1 => ?_)
  · replace e := zd_pos b1 e
    refine zk_iconst (v := 0) C kd_Cr_codeRung_92 (by decide) rfl ?_
    refine zk_istore_n (lv' := [(2, _), (0, _)]) C kd_Cr_codeRung_93 rfl (by decide) rfl rfl ?_
    refine zk_lvs (lv' := [(0, .ref (S.1 47)), (2, .int 0)]) [1, 0] rfl ?_
    exact zl_Cr_codeRung_94 C hR zF h 0 e
  · replace e := zd_neg b1 e
    refine zk_iconst (v := 0) C kd_Cr_codeRung_15 (by decide) rfl ?_
    refine zk_istore_n (lv' := [(3, _), (0, _), (2, _)]) C kd_Cr_codeRung_16 rfl (by decide) rfl rfl ?_
    refine zk_iconst (v := 0) C kd_Cr_codeRung_17 (by decide) rfl ?_
    refine zk_istore (lv' := [(4, _), (3, _), (0, _), (2, _)]) C kd_Cr_codeRung_18 (by decide) rfl rfl ?_
    refine zk_lvs (lv' := [(0, .ref (S.1 47)), (2, .int x2), (3, .int 0), (4, .int 0)]) [2, 3, 1, 0] rfl ?_
    exact zl_Cr_codeRung_20 C hR hk7 zF h x2 0 0 e
theorem zl_Cr_codeRung_7 {X : zkj_T} {S : zs_T} {P : ze_T} {l : Launch} {D : va_G} {sz0 : Nat} {rh : zs_H} (C : zk_C X km_Cr_codeRung (zs_G S l D sz0) { frames := 4, cells := 0, slots := 0, locals := 97 } (ze_E P)) (hR : zkj_R X (zd_PV S rh) (none)) (n : Nat) : ∀ (h : zs_H) (x2 : Int32), f_Cr_codeRung_L7 n h x2 = some rh → zk_Ab X (zs_W S h) 0 0 7 [(0, .ref (S.1 47)), (2, .int x2)] [] := by
  induction n with
  | zero => intro h x2 e; exact zd_no e
  | succ n ih => intro h x2 e; exact zb_Cr_codeRung_7 (k7 := f_Cr_codeRung_L7  n) C hR ih h x2 e
set_option maxHeartbeats 4000000 in
set_option maxRecDepth 100000 in
theorem zc_Cr_codeRung {l : Launch} {D : va_G} {sz0 : Nat} {S : zs_T} {P : ze_T} (h : zs_H) (x1 : Int32) {rh : zs_H} (e : f_Cr_codeRung h x1 = some rh) : zk_Sp (zs_G S l D sz0) (ze_E P) km_Cr_codeRung { frames := 4, cells := 0, slots := 0, locals := 97 } [.ref (S.1 47), .int x1] (zs_W S h) (zd_PV S rh) := by
  refine zk_met ku_Cr_codeRung (Nat.le_of_ble_eq_true rfl) (ze_Em P) ?_
  intro X C hR
  refine zk_lvs (lv' := [(0, .ref (S.1 47)), (1, .int x1)]) [0, 1] rfl ?_
  unfold f_Cr_codeRung at e
  refine zk_aload_n C kd_Cr_codeRung_0 rfl 0 rfl rfl ?_
  refine zk_iload_n C kd_Cr_codeRung_1 rfl 1 rfl rfl ?_
  obtain ⟨h2, c1, e⟩ := zd_b e
  refine zs_callV (k := 47) (rn := { frames := 1, cells := 0, slots := 0, locals := 22 }) (As := [.int x1]) (rest := []) C (zc_Cr_layGrid h x1 c1) ku_Cr_layGrid kw1350 kv_Cr_layGrid rfl ⟨by decide, by decide⟩ ⟨by decide, by decide⟩ rfl rfl rfl (Nat.le_of_ble_eq_true rfl) kd_Cr_codeRung_2 rfl (c1 := 0) (s1 := 0) rfl rfl (fun v w hp => ?_)
  obtain ⟨rfl, rfl⟩ := hp
  refine zk_stk (r' := []) rfl ?_
  refine zk_iconst (v := 0) C kd_Cr_codeRung_5 (by decide) rfl ?_
  refine zk_istore_n (lv' := [(2, _), (0, _), (1, _)]) C kd_Cr_codeRung_6 rfl (by decide) rfl rfl ?_
  refine zk_lvs (lv' := [(0, .ref (S.1 47)), (2, .int 0)]) [1, 0] rfl ?_
  exact zl_Cr_codeRung_7 C hR zF h2 0 e
set_option maxHeartbeats 4000000 in
set_option maxRecDepth 100000 in
theorem zb_Cr_codeBlock_157 {X : zkj_T} {S : zs_T} {P : ze_T} {l : Launch} {D : va_G} {sz0 : Nat} {rh : zs_H} (C : zk_C X km_Cr_codeBlock (zs_G S l D sz0) { frames := 804, cells := 0, slots := 0, locals := 22497 } (ze_E P)) (hR : zkj_R X (zd_PV S rh) (none)) {k157 : zs_H → Int32 → Int32 → (Option zs_H)} (hk157 : ∀ (h : zs_H) (x2 : Int32) (x3 : Int32), k157 h x2 x3 = some rh → zk_Ab X (zs_W S h) 0 0 157 [(0, .ref (S.1 47)), (2, .int x2), (3, .int x3)] []) (h : zs_H) (x2 : Int32) (x3 : Int32) (e : f_Cr_codeBlock_157 k157 h x2 x3 = some rh) : zk_Ab X (zs_W S h) 0 0 157 [(0, .ref (S.1 47)), (2, .int x2), (3, .int x3)] [] := by
  unfold f_Cr_codeBlock_157 at e
  refine zk_iload_n C kd_Cr_codeBlock_157 rfl 2 rfl rfl ?_
  refine zk_aload_n C kd_Cr_codeBlock_158 rfl 0 rfl rfl ?_
  refine zs_get (v := .ref (S.1 12)) C 47 0 rfl rfl rfl rfl ki_Cr (by decide) kw442 kd_Cr_codeBlock_159 rfl ?_
  refine zs_get (v := .int (h.1 12 6)) C 12 6 rfl rfl rfl rfl ki_Tr (by decide) kw178 kd_Cr_codeBlock_162 rfl ?_
  refine zk_icmp_ge (tgt := 194) C kd_Cr_codeBlock_165 (by decide) rfl (fun b1 => ?_) (fun b1 => ?_)
  · replace e := zd_pos b1 e
    exact zk_vret C hR kd_Cr_codeBlock_194 rfl rfl (zd_rV e)
  · replace e := zd_neg b1 e
    refine zk_iload_n C kd_Cr_codeBlock_168 rfl 1 rfl rfl ?_
    refine zk_iconst (v := (-1)) C kd_Cr_codeBlock_169 (by decide) rfl ?_
    refine zk_icmp_eq (tgt := 194) C kd_Cr_codeBlock_170 (by decide) rfl (fun b2 => ?_) (fun b2 => ?_)
    · replace e := zd_pos b2 e
      exact zk_vret C hR kd_Cr_codeBlock_194 rfl rfl (zd_rV e)
    · replace e := zd_neg b2 e
      refine zk_aload_n C kd_Cr_codeBlock_173 rfl 0 rfl rfl ?_
      refine zk_iload_n C kd_Cr_codeBlock_174 rfl 1 rfl rfl ?_
      obtain ⟨h4, c3, e⟩ := zd_b e
      refine zs_callV (k := 47) (rn := { frames := 4, cells := 0, slots := 0, locals := 97 }) (As := [.int x2]) (rest := []) C (zc_Cr_codeRung h x2 c3) ku_Cr_codeRung kw1346 kv_Cr_codeRung rfl ⟨by decide, by decide⟩ ⟨by decide, by decide⟩ rfl rfl rfl (Nat.le_of_ble_eq_true rfl) kd_Cr_codeBlock_175 rfl (c1 := 0) (s1 := 0) rfl rfl (fun v w hp => ?_)
      obtain ⟨rfl, rfl⟩ := hp
      refine zk_stk (r' := []) rfl ?_
      refine zk_aload_n C kd_Cr_codeBlock_178 rfl 0 rfl rfl ?_
      refine zs_get (v := .ref (S.1 12)) C 47 0 rfl rfl rfl rfl ki_Cr (by decide) kw442 kd_Cr_codeBlock_179 rfl ?_
      refine zs_get (v := .ref (S.1 18)) C 12 5 rfl rfl rfl rfl ki_Tr (by decide) kw174 kd_Cr_codeBlock_182 rfl ?_
      refine zk_iload_n C kd_Cr_codeBlock_185 rfl 1 rfl rfl ?_
      obtain ⟨q5, e⟩ := zd_g e
      refine zs_iald C 18 rfl (zd_vp q5) kd_Cr_codeBlock_186 rfl ?_
      refine zk_istore_n (lv' := [(2, _), (0, _), (3, _)]) C kd_Cr_codeBlock_187 rfl (by decide) rfl rfl ?_
      refine zk_iinc (v := (x3 + 1)) (lv' := [(3, _), (2, _), (0, _)]) C kd_Cr_codeBlock_188 2 rfl rfl (by decide) rfl rfl ?_
      refine zk_goto (tgt := 157) C kd_Cr_codeBlock_191 (by decide) ?_
      refine zk_lvs (lv' := [(0, .ref (S.1 47)), (2, .int (h4.2.1 18 x2.toNatClampNeg)), (3, .int (x3 + 1))]) [2, 1, 0] rfl ?_
      exact hk157 h4 (h4.2.1 18 x2.toNatClampNeg) (x3 + 1) e
theorem zl_Cr_codeBlock_157 {X : zkj_T} {S : zs_T} {P : ze_T} {l : Launch} {D : va_G} {sz0 : Nat} {rh : zs_H} (C : zk_C X km_Cr_codeBlock (zs_G S l D sz0) { frames := 804, cells := 0, slots := 0, locals := 22497 } (ze_E P)) (hR : zkj_R X (zd_PV S rh) (none)) (n : Nat) : ∀ (h : zs_H) (x2 : Int32) (x3 : Int32), f_Cr_codeBlock_L157 n h x2 x3 = some rh → zk_Ab X (zs_W S h) 0 0 157 [(0, .ref (S.1 47)), (2, .int x2), (3, .int x3)] [] := by
  induction n with
  | zero => intro h x2 x3 e; exact zd_no e
  | succ n ih => intro h x2 x3 e; exact zb_Cr_codeBlock_157 (k157 := f_Cr_codeBlock_L157  n) C hR ih h x2 x3 e
set_option maxHeartbeats 4000000 in
set_option maxRecDepth 100000 in
theorem zb_Cr_codeBlock_124 {X : zkj_T} {S : zs_T} {P : ze_T} {l : Launch} {D : va_G} {sz0 : Nat} {rh : zs_H} (C : zk_C X km_Cr_codeBlock (zs_G S l D sz0) { frames := 804, cells := 0, slots := 0, locals := 22497 } (ze_E P)) (hR : zkj_R X (zd_PV S rh) (none)) (h : zs_H) (x1 : Int32) (e : f_Cr_codeBlock_124 h x1 = some rh) : zk_Ab X (zs_W S h) 0 0 124 [(0, .ref (S.1 47)), (1, .int x1)] [] := by
  unfold f_Cr_codeBlock_124 at e
  refine zk_aload_n C kd_Cr_codeBlock_124 rfl 0 rfl rfl ?_
  refine zs_get (v := .ref (S.1 12)) C 47 0 rfl rfl rfl rfl ki_Cr (by decide) kw442 kd_Cr_codeBlock_125 rfl ?_
  refine zs_get (v := .ref (S.1 13)) C 12 0 rfl rfl rfl rfl ki_Tr (by decide) kw156 kd_Cr_codeBlock_128 rfl ?_
  refine zk_iload_n C kd_Cr_codeBlock_131 rfl 1 rfl rfl ?_
  obtain ⟨q1, e⟩ := zd_g e
  refine zs_bald C 13 rfl (zd_vp q1) kd_Cr_codeBlock_132 rfl ?_
  refine zk_bipush (v := 11) C kd_Cr_codeBlock_133 (by decide) rfl ?_
  refine zk_icmp_ne (tgt := 145) C kd_Cr_codeBlock_135 (by decide) rfl (fun b2 => ?_) (fun b2 => ?_)
  · replace e := zd_neg b2 e
    refine zk_aload_n C kd_Cr_codeBlock_145 rfl 0 rfl rfl ?_
    refine zs_get (v := .ref (S.1 12)) C 47 0 rfl rfl rfl rfl ki_Cr (by decide) kw442 kd_Cr_codeBlock_146 rfl ?_
    refine zs_get (v := .ref (S.1 17)) C 12 4 rfl rfl rfl rfl ki_Tr (by decide) kw171 kd_Cr_codeBlock_149 rfl ?_
    refine zk_iload_n C kd_Cr_codeBlock_152 rfl 1 rfl rfl ?_
    refine zs_iald C 17 rfl (zd_vp q1) kd_Cr_codeBlock_153 rfl ?_
    refine zk_istore_n (lv' := [(2, _), (0, _), (1, _)]) C kd_Cr_codeBlock_154 rfl (by decide) rfl rfl ?_
    refine zk_iconst (v := 0) C kd_Cr_codeBlock_155 (by decide) rfl ?_
    refine zk_istore_n (lv' := [(3, _), (2, _), (0, _), (1, _)]) C kd_Cr_codeBlock_156 rfl (by decide) rfl rfl ?_
    refine zk_lvs (lv' := [(0, .ref (S.1 47)), (2, .int (h.2.1 17 x1.toNatClampNeg)), (3, .int 0)]) [2, 1, 0] rfl ?_
    exact zl_Cr_codeBlock_157 C hR zF h (h.2.1 17 x1.toNatClampNeg) 0 e
  · replace e := zd_pos b2 e
    refine zk_aload_n C kd_Cr_codeBlock_138 rfl 0 rfl rfl ?_
    refine zk_iload_n C kd_Cr_codeBlock_139 rfl 1 rfl rfl ?_
    refine zk_iconst (v := 0) C kd_Cr_codeBlock_140 (by decide) rfl ?_
    obtain ⟨h4, c3, e⟩ := zd_b e
    refine zs_callV (k := 47) (rn := { frames := 403 + 400, cells := 0, slots := 0, locals := 10473 + 30 * 400 }) (As := [.int x1, .int 0]) (rest := []) C (zc_Cr_codeBody h x1 0 c3) ku_Cr_codeBody kw1282 kv_Cr_codeBody rfl ⟨by decide, by decide⟩ ⟨by decide, by decide⟩ rfl rfl rfl (Nat.le_of_ble_eq_true rfl) kd_Cr_codeBlock_141 rfl (c1 := 0) (s1 := 0) rfl rfl (fun v w hp => ?_)
    obtain ⟨rfl, rfl⟩ := hp
    refine zk_stk (r' := []) rfl ?_
    exact zk_vret C hR kd_Cr_codeBlock_144 rfl rfl (zd_rV e)
set_option maxHeartbeats 4000000 in
set_option maxRecDepth 100000 in
theorem zb_Cr_codeBlock_84 {X : zkj_T} {S : zs_T} {P : ze_T} {l : Launch} {D : va_G} {sz0 : Nat} {rh : zs_H} (C : zk_C X km_Cr_codeBlock (zs_G S l D sz0) { frames := 804, cells := 0, slots := 0, locals := 22497 } (ze_E P)) (hR : zkj_R X (zd_PV S rh) (none)) {k84 : zs_H → Int32 → Int32 → (Option zs_H)} (hk84 : ∀ (h : zs_H) (x1 : Int32) (x2 : Int32), k84 h x1 x2 = some rh → zk_Ab X (zs_W S h) 0 0 84 [(0, .ref (S.1 47)), (1, .int x1), (2, .int x2)] []) (h : zs_H) (x1 : Int32) (x2 : Int32) (e : f_Cr_codeBlock_84 k84 h x1 x2 = some rh) : zk_Ab X (zs_W S h) 0 0 84 [(0, .ref (S.1 47)), (1, .int x1), (2, .int x2)] [] := by
  unfold f_Cr_codeBlock_84 at e
  refine zk_iload_n C kd_Cr_codeBlock_84 rfl 2 rfl rfl ?_
  refine zk_aload_n C kd_Cr_codeBlock_85 rfl 0 rfl rfl ?_
  refine zs_get (v := .ref (S.1 12)) C 47 0 rfl rfl rfl rfl ki_Cr (by decide) kw442 kd_Cr_codeBlock_86 rfl ?_
  refine zs_get (v := .int (h.1 12 6)) C 12 6 rfl rfl rfl rfl ki_Tr (by decide) kw178 kd_Cr_codeBlock_89 rfl ?_
  refine zk_icmp_ge (tgt := 124) C kd_Cr_codeBlock_92 (by decide) rfl (fun b1 => ?_) (fun b1 => ?_)
  · replace e := zd_pos b1 e
    refine zk_lvs (lv' := [(0, .ref (S.1 47)), (1, .int x1)]) [0, 1] rfl ?_
    exact zb_Cr_codeBlock_124 C hR h x1 e
  · replace e := zd_neg b1 e
    refine zk_aload_n C kd_Cr_codeBlock_95 rfl 0 rfl rfl ?_
    refine zs_get (v := .ref (S.1 12)) C 47 0 rfl rfl rfl rfl ki_Cr (by decide) kw442 kd_Cr_codeBlock_96 rfl ?_
    refine zs_get (v := .ref (S.1 18)) C 12 5 rfl rfl rfl rfl ki_Tr (by decide) kw174 kd_Cr_codeBlock_99 rfl ?_
    refine zk_iload_n C kd_Cr_codeBlock_102 rfl 1 rfl rfl ?_
    obtain ⟨q2, e⟩ := zd_g e
    refine zs_iald C 18 rfl (zd_vp q2) kd_Cr_codeBlock_103 rfl ?_
    refine zk_iconst (v := (-1)) C kd_Cr_codeBlock_104 (by decide) rfl ?_
    refine zk_icmp_eq (tgt := 124) C kd_Cr_codeBlock_105 (by decide) rfl (fun b3 => ?_) (fun b3 => ?_)
    · replace e := zd_pos b3 e
      refine zk_lvs (lv' := [(0, .ref (S.1 47)), (1, .int x1)]) [0, 1] rfl ?_
      exact zb_Cr_codeBlock_124 C hR h x1 e
    · replace e := zd_neg b3 e
      refine zk_aload_n C kd_Cr_codeBlock_108 rfl 0 rfl rfl ?_
      refine zs_get (v := .ref (S.1 12)) C 47 0 rfl rfl rfl rfl ki_Cr (by decide) kw442 kd_Cr_codeBlock_109 rfl ?_
      refine zs_get (v := .ref (S.1 18)) C 12 5 rfl rfl rfl rfl ki_Tr (by decide) kw174 kd_Cr_codeBlock_112 rfl ?_
      refine zk_iload_n C kd_Cr_codeBlock_115 rfl 1 rfl rfl ?_
      refine zs_iald C 18 rfl (zd_vp q2) kd_Cr_codeBlock_116 rfl ?_
      refine zk_istore_n (lv' := [(1, _), (0, _), (2, _)]) C kd_Cr_codeBlock_117 rfl (by decide) rfl rfl ?_
      refine zk_iinc (v := (x2 + 1)) (lv' := [(2, _), (1, _), (0, _)]) C kd_Cr_codeBlock_118 2 rfl rfl (by decide) rfl rfl ?_
      refine zk_goto (tgt := 84) C kd_Cr_codeBlock_121 (by decide) ?_
      refine zk_lvs (lv' := [(0, .ref (S.1 47)), (1, .int (h.2.1 18 x1.toNatClampNeg)), (2, .int (x2 + 1))]) [2, 1, 0] rfl ?_
      exact hk84 h (h.2.1 18 x1.toNatClampNeg) (x2 + 1) e
theorem zl_Cr_codeBlock_84 {X : zkj_T} {S : zs_T} {P : ze_T} {l : Launch} {D : va_G} {sz0 : Nat} {rh : zs_H} (C : zk_C X km_Cr_codeBlock (zs_G S l D sz0) { frames := 804, cells := 0, slots := 0, locals := 22497 } (ze_E P)) (hR : zkj_R X (zd_PV S rh) (none)) (n : Nat) : ∀ (h : zs_H) (x1 : Int32) (x2 : Int32), f_Cr_codeBlock_L84 n h x1 x2 = some rh → zk_Ab X (zs_W S h) 0 0 84 [(0, .ref (S.1 47)), (1, .int x1), (2, .int x2)] [] := by
  induction n with
  | zero => intro h x1 x2 e; exact zd_no e
  | succ n ih => intro h x1 x2 e; exact zb_Cr_codeBlock_84 (k84 := f_Cr_codeBlock_L84  n) C hR ih h x1 x2 e
set_option maxHeartbeats 4000000 in
set_option maxRecDepth 100000 in
theorem zb_Cr_codeBlock_61 {X : zkj_T} {S : zs_T} {P : ze_T} {l : Launch} {D : va_G} {sz0 : Nat} {rh : zs_H} (C : zk_C X km_Cr_codeBlock (zs_G S l D sz0) { frames := 804, cells := 0, slots := 0, locals := 22497 } (ze_E P)) (hR : zkj_R X (zd_PV S rh) (none)) (h : zs_H) (e : f_Cr_codeBlock_61 h = some rh) : zk_Ab X (zs_W S h) 0 0 61 [(0, .ref (S.1 47))] [] := by
  unfold f_Cr_codeBlock_61 at e
  refine zk_aload_n C kd_Cr_codeBlock_61 rfl 0 rfl rfl ?_
  refine zs_get (v := .ref (S.1 12)) C 47 0 rfl rfl rfl rfl ki_Cr (by decide) kw442 kd_Cr_codeBlock_62 rfl ?_
  refine zs_get (v := .ref (S.1 17)) C 12 4 rfl rfl rfl rfl ki_Tr (by decide) kw171 kd_Cr_codeBlock_65 rfl ?_
  refine zk_aload_n C kd_Cr_codeBlock_68 rfl 0 rfl rfl ?_
  refine zs_get (v := .ref (S.1 20)) C 47 1 rfl rfl rfl rfl ki_Cr (by decide) kw443 kd_Cr_codeBlock_69 rfl ?_
  refine zs_get (v := .ref (S.1 22)) C 20 1 rfl rfl rfl rfl ki_Pl (by decide) kw237 kd_Cr_codeBlock_72 rfl ?_
  refine zk_aload_n C kd_Cr_codeBlock_75 rfl 0 rfl rfl ?_
  refine zs_get (v := .int (h.1 47 3)) C 47 3 rfl rfl rfl rfl ki_Cr (by decide) kw445 kd_Cr_codeBlock_76 rfl ?_
  obtain ⟨q1, e⟩ := zd_g e
  refine zs_iald C 22 rfl (zd_vp q1) kd_Cr_codeBlock_79 rfl ?_
  obtain ⟨q2, e⟩ := zd_g e
  refine zs_iald C 17 rfl (zd_vp q2) kd_Cr_codeBlock_80 rfl ?_
  refine zk_istore_n (lv' := [(1, _), (0, _)]) C kd_Cr_codeBlock_81 rfl (by decide) rfl rfl ?_
  refine zk_iconst (v := 0) C kd_Cr_codeBlock_82 (by decide) rfl ?_
  refine zk_istore_n (lv' := [(2, _), (1, _), (0, _)]) C kd_Cr_codeBlock_83 rfl (by decide) rfl rfl ?_
  refine zk_lvs (lv' := [(0, .ref (S.1 47)), (1, .int (h.2.1 17 (h.2.1 22 (h.1 47 3).toNatClampNeg).toNatClampNeg)), (2, .int 0)]) [2, 1, 0] rfl ?_
  exact zl_Cr_codeBlock_84 C hR zF h (h.2.1 17 (h.2.1 22 (h.1 47 3).toNatClampNeg).toNatClampNeg) 0 e
set_option maxHeartbeats 4000000 in
set_option maxRecDepth 100000 in
theorem zc_Cr_codeBlock {l : Launch} {D : va_G} {sz0 : Nat} {S : zs_T} {P : ze_T} (h : zs_H) {rh : zs_H} (e : f_Cr_codeBlock h = some rh) : zk_Sp (zs_G S l D sz0) (ze_E P) km_Cr_codeBlock { frames := 804, cells := 0, slots := 0, locals := 22497 } [.ref (S.1 47)] (zs_W S h) (zd_PV S rh) := by
  refine zk_met ku_Cr_codeBlock (Nat.le_of_ble_eq_true rfl) (ze_Em P) ?_
  intro X C hR
  refine zk_lvs (lv' := [(0, .ref (S.1 47))]) [0] rfl ?_
  unfold f_Cr_codeBlock at e
  refine zk_aload_n C kd_Cr_codeBlock_0 rfl 0 rfl rfl ?_
  refine zk_aload_n C kd_Cr_codeBlock_1 rfl 0 rfl rfl ?_
  refine zs_get (v := .ref (S.1 20)) C 47 1 rfl rfl rfl rfl ki_Cr (by decide) kw443 kd_Cr_codeBlock_2 rfl ?_
  refine zs_get (v := .ref (S.1 25)) C 20 4 rfl rfl rfl rfl ki_Pl (by decide) kw247 kd_Cr_codeBlock_5 rfl ?_
  refine zk_aload_n C kd_Cr_codeBlock_8 rfl 0 rfl rfl ?_
  refine zs_get (v := .int (h.1 47 3)) C 47 3 rfl rfl rfl rfl ki_Cr (by decide) kw445 kd_Cr_codeBlock_9 rfl ?_
  obtain ⟨q1, e⟩ := zd_g e
  refine zs_iald C 25 rfl (zd_vp q1) kd_Cr_codeBlock_12 rfl ?_
  refine zs_put (ty := .int) C 47 4 (h.2.1 25 (h.1 47 3).toNatClampNeg) rfl rfl rfl rfl ki_Cr ky_Cr ko_Cr kn_Cr (by decide) kw446 rfl rfl rfl rfl (by decide) kd_Cr_codeBlock_13 rfl ?_
  refine zk_aload_n C kd_Cr_codeBlock_16 rfl 0 rfl rfl ?_
  refine zk_aload_n C kd_Cr_codeBlock_17 rfl 0 rfl rfl ?_
  refine zs_get (v := .ref (S.1 20)) C 47 1 rfl rfl rfl rfl ki_Cr (by decide) kw443 kd_Cr_codeBlock_18 rfl ?_
  refine zs_get (v := .ref (S.1 26)) C 20 5 rfl rfl rfl rfl ki_Pl (by decide) kw250 kd_Cr_codeBlock_21 rfl ?_
  refine zk_aload_n C kd_Cr_codeBlock_24 rfl 0 rfl rfl ?_
  refine zs_get (v := .int (h.1 47 3)) C 47 3 rfl rfl rfl rfl ki_Cr (by decide) kw445 kd_Cr_codeBlock_25 rfl ?_
  refine zs_iald C 26 rfl (zd_vp q1) kd_Cr_codeBlock_28 rfl ?_
  refine zk_stk (r' := [.int (h.2.1 26 (h.1 47 3).toNatClampNeg), .ref (S.1 47)]) rfl ?_
  refine zk_sipush (v := 156) C kd_Cr_codeBlock_29 (by decide) rfl ?_
  refine zk_isub C kd_Cr_codeBlock_32 rfl ?_
  refine zs_put (ty := .int) C 47 5 ((h.2.1 26 (h.1 47 3).toNatClampNeg) - 156) rfl rfl rfl rfl ki_Cr ky_Cr ko_Cr kn_Cr (by decide) kw447 rfl rfl rfl rfl (by decide) kd_Cr_codeBlock_33 rfl ?_
  refine zk_aload_n C kd_Cr_codeBlock_36 rfl 0 rfl rfl ?_
  refine zk_iconst (v := (-1)) C kd_Cr_codeBlock_37 (by decide) rfl ?_
  refine zs_put (ty := .int) C 47 6 (-1) rfl rfl rfl rfl ki_Cr ky_Cr ko_Cr kn_Cr (by decide) kw448 rfl rfl rfl rfl (by decide) kd_Cr_codeBlock_38 rfl ?_
  refine zk_aload_n C kd_Cr_codeBlock_41 rfl 0 rfl rfl ?_
  refine zs_get (v := .ref (S.1 20)) C 47 1 rfl rfl rfl rfl ki_Cr (by decide) kw443 kd_Cr_codeBlock_42 rfl ?_
  refine zs_get (v := .ref (S.1 21)) C 20 0 rfl rfl rfl rfl ki_Pl (by decide) kw233 kd_Cr_codeBlock_45 rfl ?_
  refine zk_aload_n C kd_Cr_codeBlock_48 rfl 0 rfl rfl ?_
  refine zs_get (v := .int (h.1 47 3)) C 47 3 rfl rfl rfl rfl ki_Cr (by decide) kw445 kd_Cr_codeBlock_49 rfl ?_
  refine zs_iald C 21 rfl (zd_vp q1) kd_Cr_codeBlock_52 rfl ?_
  refine zk_stk (r' := [.int (h.2.1 21 (h.1 47 3).toNatClampNeg)]) rfl ?_
  refine zk_iconst (v := 1) C kd_Cr_codeBlock_53 (by decide) rfl ?_
  refine zk_icmp_ne (tgt := 61) C kd_Cr_codeBlock_54 (by decide) rfl (fun b2 => ?_) (fun b2 => ?_)
  · replace e := zd_neg b2 e
    refine zk_lvs (lv' := [(0, .ref (S.1 47))]) [0] rfl ?_
    exact zb_Cr_codeBlock_61 C hR (zs_uF (zs_uF (zs_uF h 47 4 (h.2.1 25 (h.1 47 3).toNatClampNeg)) 47 5 ((h.2.1 26 (h.1 47 3).toNatClampNeg) - 156)) 47 6 (-1)) e
  · replace e := zd_pos b2 e
    refine zk_aload_n C kd_Cr_codeBlock_57 rfl 0 rfl rfl ?_
    obtain ⟨h4, c3, e⟩ := zd_b e
    refine zs_callV (k := 47) (rn := { frames := 1, cells := 0, slots := 0, locals := 23 }) (As := []) (rest := []) C (zc_Cr_beginFunction (zs_uF (zs_uF (zs_uF h 47 4 (h.2.1 25 (h.1 47 3).toNatClampNeg)) 47 5 ((h.2.1 26 (h.1 47 3).toNatClampNeg) - 156)) 47 6 (-1)) c3) ku_Cr_beginFunction kw1274 kv_Cr_beginFunction rfl ⟨by decide, by decide⟩ ⟨by decide, by decide⟩ rfl rfl rfl (Nat.le_of_ble_eq_true rfl) kd_Cr_codeBlock_58 rfl (c1 := 0) (s1 := 0) rfl rfl (fun v w hp => ?_)
    obtain ⟨rfl, rfl⟩ := hp
    refine zk_stk (r' := []) rfl ?_
    refine zk_lvs (lv' := [(0, .ref (S.1 47))]) [0] rfl ?_
    exact zb_Cr_codeBlock_61 C hR h4 e
set_option maxHeartbeats 4000000 in
set_option maxRecDepth 100000 in
theorem zc_Cd_endUnit {l : Launch} {D : va_G} {sz0 : Nat} {S : zs_T} {P : ze_T} (h : zs_H) {rh : zs_H} (e : f_Cd_endUnit h = some rh) : zk_Sp (zs_G S l D sz0) (ze_E P) km_Cd_endUnit { frames := 0, cells := 0, slots := 0, locals := 0 } [.ref (S.1 41)] (zs_W S h) (zd_PV S rh) := by
  refine zk_met ku_Cd_endUnit (Nat.le_of_ble_eq_true rfl) (ze_Em P) ?_
  intro X C hR
  refine zk_lvs (lv' := [(0, .ref (S.1 41))]) [0] rfl ?_
  unfold f_Cd_endUnit at e
  refine zk_aload_n C kd_Cd_endUnit_0 rfl 0 rfl rfl ?_
  refine zs_get (v := .int (h.1 41 6)) C 41 6 rfl rfl rfl rfl ki_Cd (by decide) kw418 kd_Cd_endUnit_1 rfl ?_
  refine zk_bipush (v := 16) C kd_Cd_endUnit_4 (by decide) rfl ?_
  refine zk_icmp_ge (tgt := 32) C kd_Cd_endUnit_6 (by decide) rfl (fun b1 => ?_) (fun b1 => ?_)
  · replace e := zd_pos b1 e
    exact zk_vret C hR kd_Cd_endUnit_32 rfl rfl (zd_rV e)
  · replace e := zd_neg b1 e
    refine zk_aload_n C kd_Cd_endUnit_9 rfl 0 rfl rfl ?_
    refine zk_dup C kd_Cd_endUnit_10 rfl rfl ?_
    refine zs_get (v := .int (h.1 41 6)) C 41 6 rfl rfl rfl rfl ki_Cd (by decide) kw418 kd_Cd_endUnit_11 rfl ?_
    refine zk_iconst (v := 1) C kd_Cd_endUnit_14 (by decide) rfl ?_
    refine zk_iadd C kd_Cd_endUnit_15 rfl ?_
    refine zs_put (ty := .int) C 41 6 ((h.1 41 6) + 1) rfl rfl rfl rfl ki_Cd ky_Cd ko_Cd kn_Cd (by decide) kw418 rfl rfl rfl rfl (by decide) kd_Cd_endUnit_16 rfl ?_
    refine zk_aload_n C kd_Cd_endUnit_19 rfl 0 rfl rfl ?_
    refine zs_get (v := .ref (S.1 46)) C 41 4 rfl rfl rfl rfl ki_Cd (by decide) kw412 kd_Cd_endUnit_20 rfl ?_
    refine zk_aload_n C kd_Cd_endUnit_23 rfl 0 rfl rfl ?_
    refine zs_get (v := .int ((h.1 41 6) + 1)) C 41 6 rfl rfl rfl rfl ki_Cd (by decide) kw418 kd_Cd_endUnit_24 rfl ?_
    refine zk_aload_n C kd_Cd_endUnit_27 rfl 0 rfl rfl ?_
    refine zs_get (v := .int (h.1 41 5)) C 41 5 rfl rfl rfl rfl ki_Cd (by decide) kw415 kd_Cd_endUnit_28 rfl ?_
    obtain ⟨q2, e⟩ := zd_g e
    refine zs_iast C 46 rfl (zd_vp q2) kd_Cd_endUnit_31 rfl ?_
    exact zk_vret C hR kd_Cd_endUnit_32 rfl rfl (zd_rV e)
set_option maxHeartbeats 4000000 in
set_option maxRecDepth 100000 in
theorem zb_Cr_codeAll_28 {X : zkj_T} {S : zs_T} {P : ze_T} {l : Launch} {D : va_G} {sz0 : Nat} {rv : Int32} {rh : zs_H} (C : zk_C X km_Cr_codeAll (zs_G S l D sz0) { frames := 805, cells := 0, slots := 0, locals := 22520 } (ze_E P)) (hR : zkj_R X (zd_PI S rv rh) (some .int)) {k28 : zs_H → Int32 → (Option (Int32 × zs_H))} (hk28 : ∀ (h : zs_H) (x1 : Int32), k28 h x1 = some (rv, rh) → zk_Ab X (zs_W S h) 0 0 28 [(0, .ref (S.1 47)), (1, .int x1)] []) (h : zs_H) (x1 : Int32) (e : f_Cr_codeAll_28 k28 h x1 = some (rv, rh)) : zk_Ab X (zs_W S h) 0 0 28 [(0, .ref (S.1 47)), (1, .int x1)] [] := by
  unfold f_Cr_codeAll_28 at e
  refine zk_iload_n C kd_Cr_codeAll_28 rfl 1 rfl rfl ?_
  refine zk_aload_n C kd_Cr_codeAll_29 rfl 0 rfl rfl ?_
  refine zs_get (v := .ref (S.1 20)) C 47 1 rfl rfl rfl rfl ki_Cr (by decide) kw443 kd_Cr_codeAll_30 rfl ?_
  refine zs_get (v := .int (h.1 20 17)) C 20 17 rfl rfl rfl rfl ki_Pl (by decide) kw289 kd_Cr_codeAll_33 rfl ?_
  refine zk_icmp_ge (tgt := 61) C kd_Cr_codeAll_36 (by decide) rfl (fun b1 => ?_) (fun b1 => ?_)
  · replace e := zd_pos b1 e
    refine zk_aload_n C kd_Cr_codeAll_61 rfl 0 rfl rfl ?_
    refine zs_get (v := .ref (S.1 41)) C 47 2 rfl rfl rfl rfl ki_Cr (by decide) kw444 kd_Cr_codeAll_62 rfl ?_
    refine zs_get (v := .int (h.1 41 5)) C 41 5 rfl rfl rfl rfl ki_Cd (by decide) kw416 kd_Cr_codeAll_65 rfl ?_
    refine zk_sipush (v := 4000) C kd_Cr_codeAll_68 (by decide) rfl ?_
    refine zk_icmp_le (tgt := 79) C kd_Cr_codeAll_71 (by decide) rfl (fun b2 => ?_) (fun b2 => ?_)
    · replace e := zd_pos b2 e
      refine zk_iconst (v := 0) C kd_Cr_codeAll_79 (by decide) rfl ?_
      exact zk_iret C hR kd_Cr_codeAll_80 rfl rfl (zd_rIS e)
    · replace e := zd_neg b2 e
      refine zk_bipush (v := 50) C kd_Cr_codeAll_74 (by decide) rfl ?_
      refine zk_goto (tgt := 80) C kd_Cr_codeAll_76 (by decide) ?_
      exact zk_iret C hR kd_Cr_codeAll_80 rfl rfl (zd_rIS e)
  · replace e := zd_neg b1 e
    refine zk_aload_n C kd_Cr_codeAll_39 rfl 0 rfl rfl ?_
    refine zk_iload_n C kd_Cr_codeAll_40 rfl 1 rfl rfl ?_
    refine zs_put (ty := .int) C 47 3 x1 rfl rfl rfl rfl ki_Cr ky_Cr ko_Cr kn_Cr (by decide) kw445 rfl rfl rfl rfl (by decide) kd_Cr_codeAll_41 rfl ?_
    refine zk_aload_n C kd_Cr_codeAll_44 rfl 0 rfl rfl ?_
    obtain ⟨h4, c3, e⟩ := zd_b e
    refine zs_callV (k := 47) (rn := { frames := 804, cells := 0, slots := 0, locals := 22497 }) (As := []) (rest := []) C (zc_Cr_codeBlock (zs_uF h 47 3 x1) c3) ku_Cr_codeBlock kw1270 kv_Cr_codeBlock rfl ⟨by decide, by decide⟩ ⟨by decide, by decide⟩ rfl rfl rfl (Nat.le_of_ble_eq_true rfl) kd_Cr_codeAll_45 rfl (c1 := 0) (s1 := 0) rfl rfl (fun v w hp => ?_)
    obtain ⟨rfl, rfl⟩ := hp
    refine zk_stk (r' := []) rfl ?_
    refine zk_aload_n C kd_Cr_codeAll_48 rfl 0 rfl rfl ?_
    refine zs_get (v := .ref (S.1 41)) C 47 2 rfl rfl rfl rfl ki_Cr (by decide) kw444 kd_Cr_codeAll_49 rfl ?_
    obtain ⟨h6, c5, e⟩ := zd_b e
    refine zs_callV (k := 41) (rn := { frames := 0, cells := 0, slots := 0, locals := 0 }) (As := []) (rest := []) C (zc_Cd_endUnit h4 c5) ku_Cd_endUnit kw1382 kv_Cd_endUnit rfl ⟨by decide, by decide⟩ ⟨by decide, by decide⟩ rfl rfl rfl (Nat.le_of_ble_eq_true rfl) kd_Cr_codeAll_52 rfl (c1 := 0) (s1 := 0) rfl rfl (fun v w hp => ?_)
    obtain ⟨rfl, rfl⟩ := hp
    refine zk_stk (r' := []) rfl ?_
    refine zk_iinc (v := (x1 + 1)) (lv' := [(1, _), (0, _)]) C kd_Cr_codeAll_55 1 rfl rfl (by decide) rfl rfl ?_
    refine zk_goto (tgt := 28) C kd_Cr_codeAll_58 (by decide) ?_
    refine zk_lvs (lv' := [(0, .ref (S.1 47)), (1, .int (x1 + 1))]) [1, 0] rfl ?_
    exact hk28 h6 (x1 + 1) e
theorem zl_Cr_codeAll_28 {X : zkj_T} {S : zs_T} {P : ze_T} {l : Launch} {D : va_G} {sz0 : Nat} {rv : Int32} {rh : zs_H} (C : zk_C X km_Cr_codeAll (zs_G S l D sz0) { frames := 805, cells := 0, slots := 0, locals := 22520 } (ze_E P)) (hR : zkj_R X (zd_PI S rv rh) (some .int)) (n : Nat) : ∀ (h : zs_H) (x1 : Int32), f_Cr_codeAll_L28 n h x1 = some (rv, rh) → zk_Ab X (zs_W S h) 0 0 28 [(0, .ref (S.1 47)), (1, .int x1)] [] := by
  induction n with
  | zero => intro h x1 e; exact zd_no e
  | succ n ih => intro h x1 e; exact zb_Cr_codeAll_28 (k28 := f_Cr_codeAll_L28  n) C hR ih h x1 e
set_option maxHeartbeats 4000000 in
set_option maxRecDepth 100000 in
theorem zc_Cr_codeAll {l : Launch} {D : va_G} {sz0 : Nat} {S : zs_T} {P : ze_T} (h : zs_H) {rv : Int32} {rh : zs_H} (e : f_Cr_codeAll h = some (rv, rh)) : zk_Sp (zs_G S l D sz0) (ze_E P) km_Cr_codeAll { frames := 805, cells := 0, slots := 0, locals := 22520 } [.ref (S.1 47)] (zs_W S h) (zd_PI S rv rh) := by
  refine zk_met ku_Cr_codeAll (Nat.le_of_ble_eq_true rfl) (ze_Em P) ?_
  intro X C hR
  refine zk_lvs (lv' := [(0, .ref (S.1 47))]) [0] rfl ?_
  unfold f_Cr_codeAll at e
  refine zk_aload_n C kd_Cr_codeAll_0 rfl 0 rfl rfl ?_
  refine zs_get (v := .ref (S.1 41)) C 47 2 rfl rfl rfl rfl ki_Cr (by decide) kw444 kd_Cr_codeAll_1 rfl ?_
  obtain ⟨h2, c1, e⟩ := zd_b e
  refine zs_callV (k := 41) (rn := { frames := 0, cells := 0, slots := 0, locals := 0 }) (As := []) (rest := []) C (zc_Cd_forget h c1) ku_Cd_forget kw1266 kv_Cd_forget rfl ⟨by decide, by decide⟩ ⟨by decide, by decide⟩ rfl rfl rfl (Nat.le_of_ble_eq_true rfl) kd_Cr_codeAll_4 rfl (c1 := 0) (s1 := 0) rfl rfl (fun v w hp => ?_)
  obtain ⟨rfl, rfl⟩ := hp
  refine zk_stk (r' := []) rfl ?_
  refine zk_aload_n C kd_Cr_codeAll_7 rfl 0 rfl rfl ?_
  refine zs_get (v := .ref (S.1 20)) C 47 1 rfl rfl rfl rfl ki_Cr (by decide) kw443 kd_Cr_codeAll_8 rfl ?_
  refine zs_get (v := .int (h2.1 20 17)) C 20 17 rfl rfl rfl rfl ki_Pl (by decide) kw289 kd_Cr_codeAll_11 rfl ?_
  refine zk_bipush (v := 9) C kd_Cr_codeAll_14 (by decide) rfl ?_
  refine zk_isub C kd_Cr_codeAll_16 rfl ?_
  refine zk_bipush (v := 16) C kd_Cr_codeAll_17 (by decide) rfl ?_
  refine zk_icmp_le (tgt := 25) C kd_Cr_codeAll_19 (by decide) rfl (fun b3 => ?_) (fun b3 => ?_)
  · replace e := zd_pos b3 e
    refine zk_bipush (v := 9) C kd_Cr_codeAll_25 (by decide) rfl ?_
    refine zk_istore_n (lv' := [(1, _), (0, _)]) C kd_Cr_codeAll_27 rfl (by decide) rfl rfl ?_
    refine zk_lvs (lv' := [(0, .ref (S.1 47)), (1, .int 9)]) [1, 0] rfl ?_
    exact zl_Cr_codeAll_28 C hR zF h2 9 e
  · replace e := zd_neg b3 e
    refine zk_bipush (v := 50) C kd_Cr_codeAll_22 (by decide) rfl ?_
    exact zk_iret C hR kd_Cr_codeAll_24 rfl rfl (zd_rIS e)
set_option maxHeartbeats 4000000 in
set_option maxRecDepth 100000 in
theorem zb_Pv_highest_22 {X : zkj_T} {S : zs_T} {P : ze_T} {l : Launch} {D : va_G} {sz0 : Nat} {rv : Int32} {rh : zs_H} (C : zk_C X km_Pv_highest (zs_G S l D sz0) { frames := 1, cells := 0, slots := 0, locals := 23 } (ze_E P)) (hR : zkj_R X (zd_PI S rv rh) (some .int)) {k2 : zs_H → Int32 → Int32 → Int32 → (Option (Int32 × zs_H))} (hk2 : ∀ (h : zs_H) (x1 : Int32) (x2 : Int32) (x3 : Int32), k2 h x1 x2 x3 = some (rv, rh) → zk_Ab X (zs_W S h) 0 0 2 [(0, .ref (S.1 51)), (1, .int x1), (2, .int x2), (3, .int x3)] []) (h : zs_H) (x1 : Int32) (x2 : Int32) (x3 : Int32) (y0 : Int32) (y1 : Int32) (e : f_Pv_highest_22 k2 h x1 x2 x3 y0 y1 = some (rv, rh)) : zk_Ab X (zs_W S h) 0 0 22 [(0, .ref (S.1 51)), (1, .int x1), (2, .int x2), (3, .int x3)] [.int y0, .int y1, .ref (S.1 53)] := by
  unfold f_Pv_highest_22 at e
  obtain ⟨q1, e⟩ := zd_g e
  refine zs_zast C 53 rfl (zd_vp q1) kd_Pv_highest_22 rfl ?_
  refine zk_iinc (v := (x3 + 1)) (lv' := [(3, _), (0, _), (1, _), (2, _)]) C kd_Pv_highest_23 3 rfl rfl (by decide) rfl rfl ?_
  refine zk_goto (tgt := 2) C kd_Pv_highest_26 (by decide) ?_
  refine zk_lvs (lv' := [(0, .ref (S.1 51)), (1, .int x1), (2, .int x2), (3, .int (x3 + 1))]) [1, 2, 3, 0] rfl ?_
  exact hk2 (zs_uM h 53 y1.toNatClampNeg (vp_nar .boolean y0)) x1 x2 (x3 + 1) e
set_option maxHeartbeats 4000000 in
set_option maxRecDepth 100000 in
theorem zb_Pv_highest_151 {X : zkj_T} {S : zs_T} {P : ze_T} {l : Launch} {D : va_G} {sz0 : Nat} {rv : Int32} {rh : zs_H} (C : zk_C X km_Pv_highest (zs_G S l D sz0) { frames := 1, cells := 0, slots := 0, locals := 23 } (ze_E P)) (hR : zkj_R X (zd_PI S rv rh) (some .int)) {k37 : zs_H → Int32 → Int32 → Int32 → Int32 → (Option (Int32 × zs_H))} (hk37 : ∀ (h : zs_H) (x2 : Int32) (x3 : Int32) (x4 : Int32) (x5 : Int32), k37 h x2 x3 x4 x5 = some (rv, rh) → zk_Ab X (zs_W S h) 0 0 37 [(0, .ref (S.1 51)), (2, .int x2), (3, .int x3), (4, .int x4), (5, .int x5)] []) (h : zs_H) (x2 : Int32) (x3 : Int32) (x4 : Int32) (x5 : Int32) (e : f_Pv_highest_151 k37 h x2 x3 x4 x5 = some (rv, rh)) : zk_Ab X (zs_W S h) 0 0 151 [(0, .ref (S.1 51)), (2, .int x2), (3, .int x3), (4, .int x4), (5, .int x5)] [] := by
  unfold f_Pv_highest_151 at e
  refine zk_iinc (v := (x5 + 1)) (lv' := [(5, _), (0, _), (2, _), (3, _), (4, _)]) C kd_Pv_highest_151 4 rfl rfl (by decide) rfl rfl ?_
  refine zk_goto (tgt := 37) C kd_Pv_highest_154 (by decide) ?_
  refine zk_lvs (lv' := [(0, .ref (S.1 51)), (2, .int x2), (3, .int x3), (4, .int x4), (5, .int (x5 + 1))]) [1, 2, 3, 4, 0] rfl ?_
  exact hk37 h x2 x3 x4 (x5 + 1) e
set_option maxHeartbeats 4000000 in
set_option maxRecDepth 100000 in
theorem zb_Pv_highest_120 {X : zkj_T} {S : zs_T} {P : ze_T} {l : Launch} {D : va_G} {sz0 : Nat} {rv : Int32} {rh : zs_H} (C : zk_C X km_Pv_highest (zs_G S l D sz0) { frames := 1, cells := 0, slots := 0, locals := 23 } (ze_E P)) (hR : zkj_R X (zd_PI S rv rh) (some .int)) {k37 : zs_H → Int32 → Int32 → Int32 → Int32 → (Option (Int32 × zs_H))} (hk37 : ∀ (h : zs_H) (x2 : Int32) (x3 : Int32) (x4 : Int32) (x5 : Int32), k37 h x2 x3 x4 x5 = some (rv, rh) → zk_Ab X (zs_W S h) 0 0 37 [(0, .ref (S.1 51)), (2, .int x2), (3, .int x3), (4, .int x4), (5, .int x5)] []) (h : zs_H) (x2 : Int32) (x3 : Int32) (x4 : Int32) (x5 : Int32) (x6 : Int32) (e : f_Pv_highest_120 k37 h x2 x3 x4 x5 x6 = some (rv, rh)) : zk_Ab X (zs_W S h) 0 0 120 [(0, .ref (S.1 51)), (2, .int x2), (3, .int x3), (4, .int x4), (5, .int x5), (6, .int x6)] [] := by
  unfold f_Pv_highest_120 at e
  refine zk_iload C kd_Pv_highest_120 5 rfl rfl ?_
  refine zk_bipush (v := 10) C kd_Pv_highest_122 (by decide) rfl ?_
  refine zk_icmp_eq (tgt := 151) C kd_Pv_highest_124 (by decide) rfl (fun b1 => ?_) (fun b1 => ?_)
  · replace e := zd_pos b1 e
    refine zk_lvs (lv' := [(0, .ref (S.1 51)), (2, .int x2), (3, .int x3), (4, .int x4), (5, .int x5)]) [0, 1, 2, 3, 4] rfl ?_
    exact zb_Pv_highest_151 C hR hk37 h x2 x3 x4 x5 e
  · replace e := zd_neg b1 e
    refine zk_iload C kd_Pv_highest_127 5 rfl rfl ?_
    refine zk_bipush (v := 18) C kd_Pv_highest_129 (by decide) rfl ?_
    refine zk_icmp_eq (tgt := 151) C kd_Pv_highest_131 (by decide) rfl (fun b2 => ?_) (fun b2 => ?_)
    · replace e := zd_pos b2 e
      refine zk_lvs (lv' := [(0, .ref (S.1 51)), (2, .int x2), (3, .int x3), (4, .int x4), (5, .int x5)]) [0, 1, 2, 3, 4] rfl ?_
      exact zb_Pv_highest_151 C hR hk37 h x2 x3 x4 x5 e
    · replace e := zd_neg b2 e
      refine zk_iload C kd_Pv_highest_134 5 rfl rfl ?_
      refine zk_bipush (v := 14) C kd_Pv_highest_136 (by decide) rfl ?_
      refine zk_icmp_eq (tgt := 151) C kd_Pv_highest_138 (by decide) rfl (fun b3 => ?_) (fun b3 => ?_)
      · replace e := zd_pos b3 e
        refine zk_lvs (lv' := [(0, .ref (S.1 51)), (2, .int x2), (3, .int x3), (4, .int x4), (5, .int x5)]) [0, 1, 2, 3, 4] rfl ?_
        exact zb_Pv_highest_151 C hR hk37 h x2 x3 x4 x5 e
      · replace e := zd_neg b3 e
        refine zk_aload_n C kd_Pv_highest_141 rfl 0 rfl rfl ?_
        refine zs_get (v := .ref (S.1 53)) C 51 2 rfl rfl rfl rfl ki_Pv (by decide) kw488 kd_Pv_highest_142 rfl ?_
        refine zk_iload C kd_Pv_highest_145 4 rfl rfl ?_
        refine zk_iconst (v := 1) C kd_Pv_highest_147 (by decide) rfl ?_
        refine zk_iadd C kd_Pv_highest_148 rfl ?_
        refine zk_iconst (v := 1) C kd_Pv_highest_149 (by decide) rfl ?_
        obtain ⟨q4, e⟩ := zd_g e
        refine zs_zast C 53 rfl (zd_vp q4) kd_Pv_highest_150 rfl ?_
        refine zk_lvs (lv' := [(0, .ref (S.1 51)), (2, .int x2), (3, .int x3), (4, .int x4), (5, .int x5)]) [0, 1, 2, 3, 4] rfl ?_
        exact zb_Pv_highest_151 C hR hk37 (zs_uM h 53 (x5 + 1).toNatClampNeg (vp_nar .boolean 1)) x2 x3 x4 x5 e
set_option maxHeartbeats 4000000 in
set_option maxRecDepth 100000 in
theorem zb_Pv_highest_104 {X : zkj_T} {S : zs_T} {P : ze_T} {l : Launch} {D : va_G} {sz0 : Nat} {rv : Int32} {rh : zs_H} (C : zk_C X km_Pv_highest (zs_G S l D sz0) { frames := 1, cells := 0, slots := 0, locals := 23 } (ze_E P)) (hR : zkj_R X (zd_PI S rv rh) (some .int)) {k37 : zs_H → Int32 → Int32 → Int32 → Int32 → (Option (Int32 × zs_H))} (hk37 : ∀ (h : zs_H) (x2 : Int32) (x3 : Int32) (x4 : Int32) (x5 : Int32), k37 h x2 x3 x4 x5 = some (rv, rh) → zk_Ab X (zs_W S h) 0 0 37 [(0, .ref (S.1 51)), (2, .int x2), (3, .int x3), (4, .int x4), (5, .int x5)] []) (h : zs_H) (x2 : Int32) (x3 : Int32) (x4 : Int32) (x5 : Int32) (x6 : Int32) (e : f_Pv_highest_104 k37 h x2 x3 x4 x5 x6 = some (rv, rh)) : zk_Ab X (zs_W S h) 0 0 104 [(0, .ref (S.1 51)), (2, .int x2), (3, .int x3), (4, .int x4), (5, .int x5), (6, .int x6)] [] := by
  unfold f_Pv_highest_104 at e
  refine zk_aload_n C kd_Pv_highest_104 rfl 0 rfl rfl ?_
  refine zs_get (v := .ref (S.1 53)) C 51 2 rfl rfl rfl rfl ki_Pv (by decide) kw488 kd_Pv_highest_105 rfl ?_
  refine zk_aload_n C kd_Pv_highest_108 rfl 0 rfl rfl ?_
  refine zs_get (v := .ref (S.1 41)) C 51 1 rfl rfl rfl rfl ki_Pv (by decide) kw487 kd_Pv_highest_109 rfl ?_
  refine zs_get (v := .ref (S.1 43)) C 41 1 rfl rfl rfl rfl ki_Cd (by decide) kw405 kd_Pv_highest_112 rfl ?_
  refine zk_iload C kd_Pv_highest_115 4 rfl rfl ?_
  obtain ⟨q1, e⟩ := zd_g e
  refine zs_iald C 43 rfl (zd_vp q1) kd_Pv_highest_117 rfl ?_
  refine zk_iconst (v := 1) C kd_Pv_highest_118 (by decide) rfl ?_
  obtain ⟨q2, e⟩ := zd_g e
  refine zs_zast C 53 rfl (zd_vp q2) kd_Pv_highest_119 rfl ?_
  refine zk_lvs (lv' := [(0, .ref (S.1 51)), (2, .int x2), (3, .int x3), (4, .int x4), (5, .int x5), (6, .int x6)]) [0, 1, 2, 3, 4, 5] rfl ?_
  exact zb_Pv_highest_120 C hR hk37 (zs_uM h 53 (h.2.1 43 x5.toNatClampNeg).toNatClampNeg (vp_nar .boolean 1)) x2 x3 x4 x5 x6 e
set_option maxHeartbeats 4000000 in
set_option maxRecDepth 100000 in
theorem zb_Pv_highest_37 {X : zkj_T} {S : zs_T} {P : ze_T} {l : Launch} {D : va_G} {sz0 : Nat} {rv : Int32} {rh : zs_H} (C : zk_C X km_Pv_highest (zs_G S l D sz0) { frames := 1, cells := 0, slots := 0, locals := 23 } (ze_E P)) (hR : zkj_R X (zd_PI S rv rh) (some .int)) {k37 : zs_H → Int32 → Int32 → Int32 → Int32 → (Option (Int32 × zs_H))} (hk37 : ∀ (h : zs_H) (x2 : Int32) (x3 : Int32) (x4 : Int32) (x5 : Int32), k37 h x2 x3 x4 x5 = some (rv, rh) → zk_Ab X (zs_W S h) 0 0 37 [(0, .ref (S.1 51)), (2, .int x2), (3, .int x3), (4, .int x4), (5, .int x5)] []) (h : zs_H) (x2 : Int32) (x3 : Int32) (x4 : Int32) (x5 : Int32) (e : f_Pv_highest_37 k37 h x2 x3 x4 x5 = some (rv, rh)) : zk_Ab X (zs_W S h) 0 0 37 [(0, .ref (S.1 51)), (2, .int x2), (3, .int x3), (4, .int x4), (5, .int x5)] [] := by
  unfold f_Pv_highest_37 at e
  refine zk_iload C kd_Pv_highest_37 4 rfl rfl ?_
  refine zk_iload_n C kd_Pv_highest_39 rfl 1 rfl rfl ?_
  refine zk_icmp_ge (tgt := 157) C kd_Pv_highest_40 (by decide) rfl (fun b1 => ?_) (fun b1 => ?_)
  · replace e := zd_pos b1 e
    refine zk_iload_n C kd_Pv_highest_157 rfl 2 rfl rfl ?_
    exact zk_iret C hR kd_Pv_highest_158 rfl rfl (zd_rIS e)
  · replace e := zd_neg b1 e
    refine zk_aload_n C kd_Pv_highest_43 rfl 0 rfl rfl ?_
    refine zs_get (v := .ref (S.1 41)) C 51 1 rfl rfl rfl rfl ki_Pv (by decide) kw487 kd_Pv_highest_44 rfl ?_
    refine zs_get (v := .ref (S.1 42)) C 41 0 rfl rfl rfl rfl ki_Cd (by decide) kw402 kd_Pv_highest_47 rfl ?_
    refine zk_iload C kd_Pv_highest_50 4 rfl rfl ?_
    obtain ⟨q2, e⟩ := zd_g e
    refine zs_bald C 42 rfl (zd_vp q2) kd_Pv_highest_52 rfl ?_
    refine zk_istore (lv' := [(6, _), (0, _), (2, _), (3, _), (4, _), (5, _)]) C kd_Pv_highest_53 (by decide) rfl rfl ?_
    refine zk_iload C kd_Pv_highest_55 4 rfl rfl ?_
    refine ze_gets (j := 5) C rfl kw1398 kd_Pv_highest_57 rfl ?_
    refine zk_iload C kd_Pv_highest_60 0 rfl rfl ?_
    obtain ⟨q3, e⟩ := zd_g e
    refine ze_ti C rfl (zd_vp q3) kd_Pv_highest_62 rfl ?_
    refine zk_stk (r' := [.int (zt_5.getD (h.2.1 42 x5.toNatClampNeg).toNatClampNeg 0), .int x4]) rfl ?_
    refine zk_iadd C kd_Pv_highest_63 rfl ?_
    refine zk_istore (lv' := [(4, _), (6, _), (0, _), (2, _), (3, _), (5, _)]) C kd_Pv_highest_64 (by decide) rfl rfl ?_
    refine zk_aload_n C kd_Pv_highest_66 rfl 2 rfl rfl ?_
    refine zs_get (v := .ref (S.1 53)) C 51 2 rfl rfl rfl rfl ki_Pv (by decide) kw488 kd_Pv_highest_67 rfl ?_
    refine zk_iload C kd_Pv_highest_70 5 rfl rfl ?_
    obtain ⟨q4, e⟩ := zd_g e
    refine zs_zald C 53 rfl (zd_vp q4) kd_Pv_highest_72 rfl ?_
    refine zk_if_eq (tgt := 151) C kd_Pv_highest_73 (by decide) rfl (fun b5 => ?_) (fun b5 => ?_)
    · replace e := zd_pos b5 e
      refine zk_lvs (lv' := [(0, .ref (S.1 51)), (2, .int x2), (3, .int x3), (4, .int (x4 + (zt_5.getD (h.2.1 42 x5.toNatClampNeg).toNatClampNeg 0))), (5, .int x5)]) [2, 3, 4, 0, 5] rfl ?_
      exact zb_Pv_highest_151 C hR hk37 h x2 x3 (x4 + (zt_5.getD (h.2.1 42 x5.toNatClampNeg).toNatClampNeg 0)) x5 e
    · replace e := zd_neg b5 e
      refine zk_iload_n C kd_Pv_highest_76 rfl 4 rfl rfl ?_
      refine zk_iload C kd_Pv_highest_77 0 rfl rfl ?_
      refine zk_mmax C kw1400 kw797 kw19 (by decide) (Nat.le_of_ble_eq_true rfl) (Nat.le_refl _) (Nat.le_refl _) kd_Pv_highest_79 rfl ?_
      refine zk_istore_n (lv' := [(3, _), (4, _), (6, _), (0, _), (2, _), (5, _)]) C kd_Pv_highest_82 rfl (by decide) rfl rfl ?_
      refine zk_iload C kd_Pv_highest_83 2 rfl rfl ?_
      refine zk_bipush (v := 10) C kd_Pv_highest_85 (by decide) rfl ?_
      refine zk_icmp_eq (tgt := 104) C kd_Pv_highest_87 (by decide) rfl (fun b6 => ?_) (fun b6 => ?_)
      · replace e := zd_pos b6 e
        refine zk_lvs (lv' := [(0, .ref (S.1 51)), (2, .int x2), (3, .int (zd_max x3 (x4 + (zt_5.getD (h.2.1 42 x5.toNatClampNeg).toNatClampNeg 0)))), (4, .int (x4 + (zt_5.getD (h.2.1 42 x5.toNatClampNeg).toNatClampNeg 0))), (5, .int x5), (6, .int (h.2.1 42 x5.toNatClampNeg))]) [3, 4, 0, 1, 5, 2] rfl ?_
        exact zb_Pv_highest_104 C hR hk37 h x2 (zd_max x3 (x4 + (zt_5.getD (h.2.1 42 x5.toNatClampNeg).toNatClampNeg 0))) (x4 + (zt_5.getD (h.2.1 42 x5.toNatClampNeg).toNatClampNeg 0)) x5 (h.2.1 42 x5.toNatClampNeg) e
      · replace e := zd_neg b6 e
        refine zk_iload C kd_Pv_highest_90 2 rfl rfl ?_
        refine zk_bipush (v := 11) C kd_Pv_highest_92 (by decide) rfl ?_
        refine zk_icmp_eq (tgt := 104) C kd_Pv_highest_94 (by decide) rfl (fun b7 => ?_) (fun b7 => ?_)
        · replace e := zd_pos b7 e
          refine zk_lvs (lv' := [(0, .ref (S.1 51)), (2, .int x2), (3, .int (zd_max x3 (x4 + (zt_5.getD (h.2.1 42 x5.toNatClampNeg).toNatClampNeg 0)))), (4, .int (x4 + (zt_5.getD (h.2.1 42 x5.toNatClampNeg).toNatClampNeg 0))), (5, .int x5), (6, .int (h.2.1 42 x5.toNatClampNeg))]) [3, 4, 0, 1, 5, 2] rfl ?_
          exact zb_Pv_highest_104 C hR hk37 h x2 (zd_max x3 (x4 + (zt_5.getD (h.2.1 42 x5.toNatClampNeg).toNatClampNeg 0))) (x4 + (zt_5.getD (h.2.1 42 x5.toNatClampNeg).toNatClampNeg 0)) x5 (h.2.1 42 x5.toNatClampNeg) e
        · replace e := zd_neg b7 e
          refine zk_iload C kd_Pv_highest_97 2 rfl rfl ?_
          refine zk_bipush (v := 13) C kd_Pv_highest_99 (by decide) rfl ?_
          refine zk_icmp_ne (tgt := 120) C kd_Pv_highest_101 (by decide) rfl (fun b8 => ?_) (fun b8 => ?_)
          · replace e := zd_neg b8 e
            refine zk_lvs (lv' := [(0, .ref (S.1 51)), (2, .int x2), (3, .int (zd_max x3 (x4 + (zt_5.getD (h.2.1 42 x5.toNatClampNeg).toNatClampNeg 0)))), (4, .int (x4 + (zt_5.getD (h.2.1 42 x5.toNatClampNeg).toNatClampNeg 0))), (5, .int x5), (6, .int (h.2.1 42 x5.toNatClampNeg))]) [3, 4, 0, 1, 5, 2] rfl ?_
            exact zb_Pv_highest_120 C hR hk37 h x2 (zd_max x3 (x4 + (zt_5.getD (h.2.1 42 x5.toNatClampNeg).toNatClampNeg 0))) (x4 + (zt_5.getD (h.2.1 42 x5.toNatClampNeg).toNatClampNeg 0)) x5 (h.2.1 42 x5.toNatClampNeg) e
          · replace e := zd_pos b8 e
            refine zk_lvs (lv' := [(0, .ref (S.1 51)), (2, .int x2), (3, .int (zd_max x3 (x4 + (zt_5.getD (h.2.1 42 x5.toNatClampNeg).toNatClampNeg 0)))), (4, .int (x4 + (zt_5.getD (h.2.1 42 x5.toNatClampNeg).toNatClampNeg 0))), (5, .int x5), (6, .int (h.2.1 42 x5.toNatClampNeg))]) [3, 4, 0, 1, 5, 2] rfl ?_
            exact zb_Pv_highest_104 C hR hk37 h x2 (zd_max x3 (x4 + (zt_5.getD (h.2.1 42 x5.toNatClampNeg).toNatClampNeg 0))) (x4 + (zt_5.getD (h.2.1 42 x5.toNatClampNeg).toNatClampNeg 0)) x5 (h.2.1 42 x5.toNatClampNeg) e
theorem zl_Pv_highest_37 {X : zkj_T} {S : zs_T} {P : ze_T} {l : Launch} {D : va_G} {sz0 : Nat} {rv : Int32} {rh : zs_H} (C : zk_C X km_Pv_highest (zs_G S l D sz0) { frames := 1, cells := 0, slots := 0, locals := 23 } (ze_E P)) (hR : zkj_R X (zd_PI S rv rh) (some .int)) (n : Nat) : ∀ (h : zs_H) (x2 : Int32) (x3 : Int32) (x4 : Int32) (x5 : Int32), f_Pv_highest_L37 n h x2 x3 x4 x5 = some (rv, rh) → zk_Ab X (zs_W S h) 0 0 37 [(0, .ref (S.1 51)), (2, .int x2), (3, .int x3), (4, .int x4), (5, .int x5)] [] := by
  induction n with
  | zero => intro h x2 x3 x4 x5 e; exact zd_no e
  | succ n ih => intro h x2 x3 x4 x5 e; exact zb_Pv_highest_37 (k37 := f_Pv_highest_L37  n) C hR ih h x2 x3 x4 x5 e
set_option maxHeartbeats 4000000 in
set_option maxRecDepth 100000 in
theorem zb_Pv_highest_2 {X : zkj_T} {S : zs_T} {P : ze_T} {l : Launch} {D : va_G} {sz0 : Nat} {rv : Int32} {rh : zs_H} (C : zk_C X km_Pv_highest (zs_G S l D sz0) { frames := 1, cells := 0, slots := 0, locals := 23 } (ze_E P)) (hR : zkj_R X (zd_PI S rv rh) (some .int)) {k2 : zs_H → Int32 → Int32 → Int32 → (Option (Int32 × zs_H))} (hk2 : ∀ (h : zs_H) (x1 : Int32) (x2 : Int32) (x3 : Int32), k2 h x1 x2 x3 = some (rv, rh) → zk_Ab X (zs_W S h) 0 0 2 [(0, .ref (S.1 51)), (1, .int x1), (2, .int x2), (3, .int x3)] []) (h : zs_H) (x1 : Int32) (x2 : Int32) (x3 : Int32) (e : f_Pv_highest_2 k2 h x1 x2 x3 = some (rv, rh)) : zk_Ab X (zs_W S h) 0 0 2 [(0, .ref (S.1 51)), (1, .int x1), (2, .int x2), (3, .int x3)] [] := by
  unfold f_Pv_highest_2 at e
  refine zk_iload_n C kd_Pv_highest_2 rfl 3 rfl rfl ?_
  refine zk_iload_n C kd_Pv_highest_3 rfl 2 rfl rfl ?_
  refine zk_icmp_gt (tgt := 29) C kd_Pv_highest_4 (by decide) rfl (fun b1 => ?_) (fun b1 => ?_)
  · replace e := zd_pos b1 e
    refine zk_iconst (v := 0) C kd_Pv_highest_29 (by decide) rfl ?_
    refine zk_istore_n (lv' := [(3, _), (0, _), (1, _), (2, _)]) C kd_Pv_highest_30 rfl (by decide) rfl rfl ?_
    refine zk_iconst (v := 0) C kd_Pv_highest_31 (by decide) rfl ?_
    refine zk_istore (lv' := [(4, _), (3, _), (0, _), (1, _), (2, _)]) C kd_Pv_highest_32 (by decide) rfl rfl ?_
    refine zk_iload_n C kd_Pv_highest_34 rfl 3 rfl rfl ?_
    refine zk_istore (lv' := [(5, _), (4, _), (3, _), (0, _), (1, _), (2, _)]) C kd_Pv_highest_35 (by decide) rfl rfl ?_
    refine zk_lvs (lv' := [(0, .ref (S.1 51)), (2, .int x2), (3, .int 0), (4, .int 0), (5, .int x1)]) [3, 5, 2, 1, 0] rfl ?_
    exact zl_Pv_highest_37 C hR zF h x2 0 0 x1 e
  · replace e := zd_neg b1 e
    refine zk_aload_n C kd_Pv_highest_7 rfl 0 rfl rfl ?_
    refine zs_get (v := .ref (S.1 53)) C 51 2 rfl rfl rfl rfl ki_Pv (by decide) kw488 kd_Pv_highest_8 rfl ?_
    refine zk_iload_n C kd_Pv_highest_11 rfl 3 rfl rfl ?_
    refine zk_iload_n C kd_Pv_highest_12 rfl 3 rfl rfl ?_
    refine zk_iload_n C kd_Pv_highest_13 rfl 1 rfl rfl ?_
    refine zk_icmp_ne (tgt := 21) C kd_Pv_highest_14 (by decide) rfl (fun b2 => ?_) (fun b2 => ?_)
    · replace e := zd_neg b2 e
      refine zk_iconst (v := 0) C kd_Pv_highest_21 (by decide) rfl ?_
      refine zk_lvs (lv' := [(0, .ref (S.1 51)), (1, .int x1), (2, .int x2), (3, .int x3)]) [0, 1, 2, 3] rfl ?_
      exact zb_Pv_highest_22 C hR hk2 h x1 x2 x3 0 x3 e
    · replace e := zd_pos b2 e
      refine zk_iconst (v := 1) C kd_Pv_highest_17 (by decide) rfl ?_
      refine zk_goto (tgt := 22) C kd_Pv_highest_18 (by decide) ?_
      refine zk_lvs (lv' := [(0, .ref (S.1 51)), (1, .int x1), (2, .int x2), (3, .int x3)]) [0, 1, 2, 3] rfl ?_
      exact zb_Pv_highest_22 C hR hk2 h x1 x2 x3 1 x3 e
theorem zl_Pv_highest_2 {X : zkj_T} {S : zs_T} {P : ze_T} {l : Launch} {D : va_G} {sz0 : Nat} {rv : Int32} {rh : zs_H} (C : zk_C X km_Pv_highest (zs_G S l D sz0) { frames := 1, cells := 0, slots := 0, locals := 23 } (ze_E P)) (hR : zkj_R X (zd_PI S rv rh) (some .int)) (n : Nat) : ∀ (h : zs_H) (x1 : Int32) (x2 : Int32) (x3 : Int32), f_Pv_highest_L2 n h x1 x2 x3 = some (rv, rh) → zk_Ab X (zs_W S h) 0 0 2 [(0, .ref (S.1 51)), (1, .int x1), (2, .int x2), (3, .int x3)] [] := by
  induction n with
  | zero => intro h x1 x2 x3 e; exact zd_no e
  | succ n ih => intro h x1 x2 x3 e; exact zb_Pv_highest_2 (k2 := f_Pv_highest_L2  n) C hR ih h x1 x2 x3 e
set_option maxHeartbeats 4000000 in
set_option maxRecDepth 100000 in
theorem zc_Pv_highest {l : Launch} {D : va_G} {sz0 : Nat} {S : zs_T} {P : ze_T} (h : zs_H) (x1 : Int32) (x2 : Int32) {rv : Int32} {rh : zs_H} (e : f_Pv_highest h x1 x2 = some (rv, rh)) : zk_Sp (zs_G S l D sz0) (ze_E P) km_Pv_highest { frames := 1, cells := 0, slots := 0, locals := 23 } [.ref (S.1 51), .int x1, .int x2] (zs_W S h) (zd_PI S rv rh) := by
  refine zk_met ku_Pv_highest (Nat.le_of_ble_eq_true rfl) (ze_Em P) ?_
  intro X C hR
  refine zk_lvs (lv' := [(0, .ref (S.1 51)), (1, .int x1), (2, .int x2)]) [0, 1, 2] rfl ?_
  unfold f_Pv_highest at e
  refine zk_iload_n C kd_Pv_highest_0 rfl 1 rfl rfl ?_
  refine zk_istore_n (lv' := [(3, _), (0, _), (1, _), (2, _)]) C kd_Pv_highest_1 rfl (by decide) rfl rfl ?_
  refine zk_lvs (lv' := [(0, .ref (S.1 51)), (1, .int x1), (2, .int x2), (3, .int x1)]) [1, 2, 3, 0] rfl ?_
  exact zl_Pv_highest_2 C hR zF h x1 x2 x1 e
set_option maxHeartbeats 4000000 in
set_option maxRecDepth 100000 in
theorem zc_Pv_tell {l : Launch} {D : va_G} {sz0 : Nat} {S : zs_T} {P : ze_T} (h : zs_H) (x1 : Int32) (x2 : Int64) (x4 : Int64) (x6 : Int64) {rh : zs_H} (e : f_Pv_tell h x1 x2 x4 x6 = some rh) : zk_Sp (zs_G S l D sz0) (ze_E P) km_Pv_tell { frames := 0, cells := 0, slots := 0, locals := 0 } [.ref (S.1 51), .int x1, .long x2, .long x4, .long x6] (zs_W S h) (zd_PV S rh) := by
  refine zk_met ku_Pv_tell (Nat.le_of_ble_eq_true rfl) (ze_Em P) ?_
  intro X C hR
  refine zk_lvs (lv' := [(0, .ref (S.1 51)), (1, .int x1), (2, .long x2), (4, .long x4), (6, .long x6)]) [0, 1, 2, 3, 4] rfl ?_
  unfold f_Pv_tell at e
  refine zk_aload_n C kd_Pv_tell_0 rfl 0 rfl rfl ?_
  refine zs_get (v := .ref (S.1 54)) C 51 3 rfl rfl rfl rfl ki_Pv (by decide) kw489 kd_Pv_tell_1 rfl ?_
  refine zk_iload_n C kd_Pv_tell_4 rfl 1 rfl rfl ?_
  refine zk_lload_n C kd_Pv_tell_5 rfl 2 rfl rfl ?_
  obtain ⟨q1, e⟩ := zd_g e
  refine zs_last C 54 rfl (zd_vp q1) kd_Pv_tell_6 rfl ?_
  refine zk_aload_n C kd_Pv_tell_7 rfl 0 rfl rfl ?_
  refine zs_get (v := .ref (S.1 55)) C 51 4 rfl rfl rfl rfl ki_Pv (by decide) kw490 kd_Pv_tell_8 rfl ?_
  refine zk_iload_n C kd_Pv_tell_11 rfl 1 rfl rfl ?_
  refine zk_lload C kd_Pv_tell_12 3 rfl rfl ?_
  refine zs_last C 55 rfl (zd_vp q1) kd_Pv_tell_14 rfl ?_
  refine zk_aload_n C kd_Pv_tell_15 rfl 0 rfl rfl ?_
  refine zs_get (v := .ref (S.1 56)) C 51 5 rfl rfl rfl rfl ki_Pv (by decide) kw491 kd_Pv_tell_16 rfl ?_
  refine zk_iload_n C kd_Pv_tell_19 rfl 1 rfl rfl ?_
  refine zk_lload C kd_Pv_tell_20 4 rfl rfl ?_
  refine zs_last C 56 rfl (zd_vp q1) kd_Pv_tell_22 rfl ?_
  exact zk_vret C hR kd_Pv_tell_23 rfl rfl (zd_rV e)
set_option maxHeartbeats 4000000 in
set_option maxRecDepth 100000 in
theorem zb_Pv_sum_16 {X : zkj_T} {S : zs_T} {P : ze_T} {l : Launch} {D : va_G} {sz0 : Nat} {rv : Int64} {h : zs_H} (C : zk_C X km_Pv_sum (zs_G S l D sz0) { frames := 1, cells := 0, slots := 0, locals := 23 } (ze_E P)) (hR : zkj_R X (zd_PJ S rv h) (some .long)) (e : f_Pv_sum_16  = rv) : zk_Ab X (zs_W S h) 0 0 16 [] [] := by
  unfold f_Pv_sum_16 at e
  refine zk_ldc2 (v := (-1)) C kw1405 kd_Pv_sum_16 rfl ?_
  refine zk_goto (tgt := 31) C kd_Pv_sum_19 (by decide) ?_
  exact zk_lret C hR kd_Pv_sum_31 rfl rfl (zd_rJT e)
set_option maxHeartbeats 4000000 in
set_option maxRecDepth 100000 in
theorem zc_Pv_sum {l : Launch} {D : va_G} {sz0 : Nat} {S : zs_T} {P : ze_T} (h : zs_H) (x0 : Int64) (x2 : Int64) : zk_Sp (zs_G S l D sz0) (ze_E P) km_Pv_sum { frames := 1, cells := 0, slots := 0, locals := 23 } [.long x0, .long x2] (zs_W S h) (zd_PJ S (f_Pv_sum x0 x2) h) := by
  obtain ⟨rv, e⟩ : ∃ rv, f_Pv_sum x0 x2 = rv := ⟨_, rfl⟩
  rw [e]
  refine zk_met ku_Pv_sum (Nat.le_of_ble_eq_true rfl) (ze_Em P) ?_
  intro X C hR
  refine zk_lvs (lv' := [(0, .long x0), (2, .long x2)]) [0, 1] rfl ?_
  unfold f_Pv_sum at e
  refine zk_lload_n C kd_Pv_sum_0 rfl 0 rfl rfl ?_
  refine zk_ldc2 (v := (-1)) C kw1405 kd_Pv_sum_1 rfl ?_
  refine zk_lcmp C kd_Pv_sum_4 rfl ?_
  refine zk_if_eq (tgt := 16) C kd_Pv_sum_5 (by decide) rfl (fun b1 => ?_) (fun b1 => ?_)
  · replace e := zd_pos (zd_ceq.mp b1) e
    refine zk_lvs (lv' := []) [] rfl ?_
    exact zb_Pv_sum_16 C hR e
  · replace e := zd_neg (fun z => b1 (zd_ceq.mpr z)) e
    refine zk_lload_n C kd_Pv_sum_8 rfl 1 rfl rfl ?_
    refine zk_ldc2 (v := (-1)) C kw1405 kd_Pv_sum_9 rfl ?_
    refine zk_lcmp C kd_Pv_sum_12 rfl ?_
    refine zk_if_ne (tgt := 22) C kd_Pv_sum_13 (by decide) rfl (fun b2 => ?_) (fun b2 => ?_)
    · replace e := zd_neg (fun w => b2 (zd_ceq.mpr w)) e
      refine zk_lload_n C kd_Pv_sum_22 rfl 0 rfl rfl ?_
      refine zk_lload_n C kd_Pv_sum_23 rfl 1 rfl rfl ?_
      refine zk_ladd C kd_Pv_sum_24 rfl ?_
      refine zk_ldc2 (v := 1099511627776) C kw1421 kd_Pv_sum_25 rfl ?_
      refine zk_mminl C kw1422 kw760 kw19 (by decide) (Nat.le_of_ble_eq_true rfl) (Nat.le_refl _) (Nat.le_refl _) kd_Pv_sum_28 rfl ?_
      exact zk_lret C hR kd_Pv_sum_31 rfl rfl (zd_rJT e)
    · replace e := zd_pos (zd_ceq.mp b2) e
      refine zk_lvs (lv' := []) [] rfl ?_
      exact zb_Pv_sum_16 C hR e
set_option maxHeartbeats 4000000 in
set_option maxRecDepth 100000 in
theorem zc_Pv_proveAfter {l : Launch} {D : va_G} {sz0 : Nat} {S : zs_T} {P : ze_T} (h : zs_H) (x1 : Int32) (x2 : Int64) (x4 : Int32) {rh : zs_H} (e : f_Pv_proveAfter h x1 x2 x4 = some rh) : zk_Sp (zs_G S l D sz0) (ze_E P) km_Pv_proveAfter { frames := 2, cells := 0, slots := 0, locals := 46 } [.ref (S.1 51), .int x1, .long x2, .int x4] (zs_W S h) (zd_PV S rh) := by
  refine zk_met ku_Pv_proveAfter (Nat.le_of_ble_eq_true rfl) (ze_Em P) ?_
  intro X C hR
  refine zk_lvs (lv' := [(0, .ref (S.1 51)), (1, .int x1), (2, .long x2), (4, .int x4)]) [0, 1, 2, 3] rfl ?_
  unfold f_Pv_proveAfter at e
  refine zk_aload_n C kd_Pv_proveAfter_0 rfl 0 rfl rfl ?_
  refine zk_iload_n C kd_Pv_proveAfter_1 rfl 1 rfl rfl ?_
  refine zk_lload_n C kd_Pv_proveAfter_2 rfl 2 rfl rfl ?_
  refine zk_aload_n C kd_Pv_proveAfter_3 rfl 0 rfl rfl ?_
  refine zs_get (v := .ref (S.1 54)) C 51 3 rfl rfl rfl rfl ki_Pv (by decide) kw489 kd_Pv_proveAfter_4 rfl ?_
  refine zk_iload C kd_Pv_proveAfter_7 3 rfl rfl ?_
  obtain ⟨q1, e⟩ := zd_g e
  refine zs_lald C 54 rfl (zd_vp q1) kd_Pv_proveAfter_9 rfl ?_
  refine zk_callS (rn := { frames := 1, cells := 0, slots := 0, locals := 23 }) (As := [.long x2, .long (h.2.2 54 x4.toNatClampNeg)]) (rest := [.int x1, .ref (S.1 51)]) C (zc_Pv_sum h x2 (h.2.2 54 x4.toNatClampNeg)) ku_Pv_sum kw1418 ks_Pv_sum rfl ⟨by decide, by decide⟩ ⟨by decide, by decide⟩ rfl (Nat.le_of_ble_eq_true rfl) kd_Pv_proveAfter_10 rfl (c1 := 0) (s1 := 0) rfl rfl (fun v w hp => ?_)
  obtain ⟨rfl, rfl⟩ := hp
  refine zk_stk (r' := [.long (f_Pv_sum x2 (h.2.2 54 x4.toNatClampNeg)), .int x1, .ref (S.1 51)]) rfl ?_
  refine zk_lload_n C kd_Pv_proveAfter_13 rfl 2 rfl rfl ?_
  refine zk_aload_n C kd_Pv_proveAfter_14 rfl 0 rfl rfl ?_
  refine zs_get (v := .ref (S.1 55)) C 51 4 rfl rfl rfl rfl ki_Pv (by decide) kw490 kd_Pv_proveAfter_15 rfl ?_
  refine zk_iload C kd_Pv_proveAfter_18 3 rfl rfl ?_
  refine zs_lald C 55 rfl (zd_vp q1) kd_Pv_proveAfter_20 rfl ?_
  refine zk_callS (rn := { frames := 1, cells := 0, slots := 0, locals := 23 }) (As := [.long x2, .long (h.2.2 55 x4.toNatClampNeg)]) (rest := [.long (f_Pv_sum x2 (h.2.2 54 x4.toNatClampNeg)), .int x1, .ref (S.1 51)]) C (zc_Pv_sum h x2 (h.2.2 55 x4.toNatClampNeg)) ku_Pv_sum kw1418 ks_Pv_sum rfl ⟨by decide, by decide⟩ ⟨by decide, by decide⟩ rfl (Nat.le_of_ble_eq_true rfl) kd_Pv_proveAfter_21 rfl (c1 := 0) (s1 := 0) rfl rfl (fun v w hp => ?_)
  obtain ⟨rfl, rfl⟩ := hp
  refine zk_stk (r' := [.long (f_Pv_sum x2 (h.2.2 55 x4.toNatClampNeg)), .long (f_Pv_sum x2 (h.2.2 54 x4.toNatClampNeg)), .int x1, .ref (S.1 51)]) rfl ?_
  refine zk_lload_n C kd_Pv_proveAfter_24 rfl 2 rfl rfl ?_
  refine zk_aload_n C kd_Pv_proveAfter_25 rfl 0 rfl rfl ?_
  refine zs_get (v := .ref (S.1 56)) C 51 5 rfl rfl rfl rfl ki_Pv (by decide) kw491 kd_Pv_proveAfter_26 rfl ?_
  refine zk_iload C kd_Pv_proveAfter_29 3 rfl rfl ?_
  refine zs_lald C 56 rfl (zd_vp q1) kd_Pv_proveAfter_31 rfl ?_
  refine zk_callS (rn := { frames := 1, cells := 0, slots := 0, locals := 23 }) (As := [.long x2, .long (h.2.2 56 x4.toNatClampNeg)]) (rest := [.long (f_Pv_sum x2 (h.2.2 55 x4.toNatClampNeg)), .long (f_Pv_sum x2 (h.2.2 54 x4.toNatClampNeg)), .int x1, .ref (S.1 51)]) C (zc_Pv_sum h x2 (h.2.2 56 x4.toNatClampNeg)) ku_Pv_sum kw1418 ks_Pv_sum rfl ⟨by decide, by decide⟩ ⟨by decide, by decide⟩ rfl (Nat.le_of_ble_eq_true rfl) kd_Pv_proveAfter_32 rfl (c1 := 0) (s1 := 0) rfl rfl (fun v w hp => ?_)
  obtain ⟨rfl, rfl⟩ := hp
  refine zk_stk (r' := [.long (f_Pv_sum x2 (h.2.2 56 x4.toNatClampNeg)), .long (f_Pv_sum x2 (h.2.2 55 x4.toNatClampNeg)), .long (f_Pv_sum x2 (h.2.2 54 x4.toNatClampNeg)), .int x1, .ref (S.1 51)]) rfl ?_
  obtain ⟨h3, c2, e⟩ := zd_b e
  refine zs_callV (k := 51) (rn := { frames := 0, cells := 0, slots := 0, locals := 0 }) (As := [.int x1, .long (f_Pv_sum x2 (h.2.2 54 x4.toNatClampNeg)), .long (f_Pv_sum x2 (h.2.2 55 x4.toNatClampNeg)), .long (f_Pv_sum x2 (h.2.2 56 x4.toNatClampNeg))]) (rest := []) C (zc_Pv_tell h x1 (f_Pv_sum x2 (h.2.2 54 x4.toNatClampNeg)) (f_Pv_sum x2 (h.2.2 55 x4.toNatClampNeg)) (f_Pv_sum x2 (h.2.2 56 x4.toNatClampNeg)) c2) ku_Pv_tell kw1406 kv_Pv_tell rfl ⟨by decide, by decide⟩ ⟨by decide, by decide⟩ rfl rfl rfl (Nat.le_of_ble_eq_true rfl) kd_Pv_proveAfter_35 rfl (c1 := 0) (s1 := 0) rfl rfl (fun v w hp => ?_)
  obtain ⟨rfl, rfl⟩ := hp
  refine zk_stk (r' := []) rfl ?_
  exact zk_vret C hR kd_Pv_proveAfter_38 rfl rfl (zd_rV e)
set_option maxHeartbeats 4000000 in
set_option maxRecDepth 100000 in
theorem zb_Pv_proveBack_32 {X : zkj_T} {S : zs_T} {P : ze_T} {l : Launch} {D : va_G} {sz0 : Nat} {rh : zs_H} (C : zk_C X km_Pv_proveBack (zs_G S l D sz0) { frames := 1, cells := 0, slots := 0, locals := 27 } (ze_E P)) (hR : zkj_R X (zd_PV S rh) (none)) (h : zs_H) (x1 : Int32) (e : f_Pv_proveBack_32 h x1 = some rh) : zk_Ab X (zs_W S h) 0 0 32 [(0, .ref (S.1 51)), (1, .int x1)] [] := by
  unfold f_Pv_proveBack_32 at e
  refine zk_aload_n C kd_Pv_proveBack_32 rfl 0 rfl rfl ?_
  refine zk_iload_n C kd_Pv_proveBack_33 rfl 1 rfl rfl ?_
  refine zk_lconst (v := 1) C kd_Pv_proveBack_34 (by decide) rfl ?_
  refine zk_ldc2 (v := (-1)) C kw1405 kd_Pv_proveBack_35 rfl ?_
  refine zk_ldc2 (v := (-1)) C kw1405 kd_Pv_proveBack_38 rfl ?_
  obtain ⟨h2, c1, e⟩ := zd_b e
  refine zs_callV (k := 51) (rn := { frames := 0, cells := 0, slots := 0, locals := 0 }) (As := [.int x1, .long 1, .long (-1), .long (-1)]) (rest := []) C (zc_Pv_tell h x1 (1 : Int64) (-1 : Int64) (-1 : Int64) c1) ku_Pv_tell kw1406 kv_Pv_tell rfl ⟨by decide, by decide⟩ ⟨by decide, by decide⟩ rfl rfl rfl (Nat.le_of_ble_eq_true rfl) kd_Pv_proveBack_41 rfl (c1 := 0) (s1 := 0) rfl rfl (fun v w hp => ?_)
  obtain ⟨rfl, rfl⟩ := hp
  refine zk_stk (r' := []) rfl ?_
  exact zk_vret C hR kd_Pv_proveBack_44 rfl rfl (zd_rV e)
set_option maxHeartbeats 4000000 in
set_option maxRecDepth 100000 in
theorem zc_Pv_proveBack {l : Launch} {D : va_G} {sz0 : Nat} {S : zs_T} {P : ze_T} (h : zs_H) (x1 : Int32) {rh : zs_H} (e : f_Pv_proveBack h x1 = some rh) : zk_Sp (zs_G S l D sz0) (ze_E P) km_Pv_proveBack { frames := 1, cells := 0, slots := 0, locals := 27 } [.ref (S.1 51), .int x1] (zs_W S h) (zd_PV S rh) := by
  refine zk_met ku_Pv_proveBack (Nat.le_of_ble_eq_true rfl) (ze_Em P) ?_
  intro X C hR
  refine zk_lvs (lv' := [(0, .ref (S.1 51)), (1, .int x1)]) [0, 1] rfl ?_
  unfold f_Pv_proveBack at e
  refine zk_aload_n C kd_Pv_proveBack_0 rfl 0 rfl rfl ?_
  refine zs_get (v := .int (h.1 51 7)) C 51 7 rfl rfl rfl rfl ki_Pv (by decide) kw493 kd_Pv_proveBack_1 rfl ?_
  refine zk_aload_n C kd_Pv_proveBack_4 rfl 0 rfl rfl ?_
  refine zs_get (v := .ref (S.1 57)) C 51 6 rfl rfl rfl rfl ki_Pv (by decide) kw492 kd_Pv_proveBack_5 rfl ?_
  refine zs_alen (v := 240) C 57 rfl (by decide) rfl kd_Pv_proveBack_8 rfl ?_
  refine zk_icmp_ge (tgt := 32) C kd_Pv_proveBack_9 (by decide) rfl (fun b1 => ?_) (fun b1 => ?_)
  · replace e := zd_pos b1 e
    refine zk_lvs (lv' := [(0, .ref (S.1 51)), (1, .int x1)]) [0, 1] rfl ?_
    exact zb_Pv_proveBack_32 C hR h x1 e
  · replace e := zd_neg b1 e
    refine zk_aload_n C kd_Pv_proveBack_12 rfl 0 rfl rfl ?_
    refine zs_get (v := .ref (S.1 57)) C 51 6 rfl rfl rfl rfl ki_Pv (by decide) kw492 kd_Pv_proveBack_13 rfl ?_
    refine zk_aload_n C kd_Pv_proveBack_16 rfl 0 rfl rfl ?_
    refine zs_get (v := .int (h.1 51 7)) C 51 7 rfl rfl rfl rfl ki_Pv (by decide) kw493 kd_Pv_proveBack_17 rfl ?_
    refine zk_iload_n C kd_Pv_proveBack_20 rfl 1 rfl rfl ?_
    obtain ⟨q2, e⟩ := zd_g e
    refine zs_iast C 57 rfl (zd_vp q2) kd_Pv_proveBack_21 rfl ?_
    refine zk_aload_n C kd_Pv_proveBack_22 rfl 0 rfl rfl ?_
    refine zk_dup C kd_Pv_proveBack_23 rfl rfl ?_
    refine zs_get (v := .int (h.1 51 7)) C 51 7 rfl rfl rfl rfl ki_Pv (by decide) kw493 kd_Pv_proveBack_24 rfl ?_
    refine zk_iconst (v := 1) C kd_Pv_proveBack_27 (by decide) rfl ?_
    refine zk_iadd C kd_Pv_proveBack_28 rfl ?_
    refine zs_put (ty := .int) C 51 7 ((h.1 51 7) + 1) rfl rfl rfl rfl ki_Pv ky_Pv ko_Pv kn_Pv (by decide) kw493 rfl rfl rfl rfl (by decide) kd_Pv_proveBack_29 rfl ?_
    refine zk_lvs (lv' := [(0, .ref (S.1 51)), (1, .int x1)]) [0, 1] rfl ?_
    exact zb_Pv_proveBack_32 C hR (zs_uF (zs_uM h 57 (h.1 51 7).toNatClampNeg x1) 51 7 ((h.1 51 7) + 1)) x1 e
