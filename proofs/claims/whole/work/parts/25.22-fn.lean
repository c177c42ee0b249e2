theorem kw21 : Jvm.Cond.initialized "java/lang/System" ∈ zk_BW := zk_inT 21 (by decide +kernel) rfl
theorem kw241 : Jvm.Cond.fieldLink "PlantKeeper$Machine" (94 : Nat) "PlantKeeper$Plan" "first" "[I" ∈ zk_BW := zk_inT 241 (by decide +kernel) rfl
theorem kw245 : Jvm.Cond.fieldLink "PlantKeeper$Machine" (97 : Nat) "PlantKeeper$Plan" "behind" "[I" ∈ zk_BW := zk_inT 245 (by decide +kernel) rfl
theorem kw251 : Jvm.Cond.fieldLink "PlantKeeper$Machine" (119 : Nat) "PlantKeeper$Plan" "cells" "[I" ∈ zk_BW := zk_inT 251 (by decide +kernel) rfl
theorem kw261 : Jvm.Cond.fieldLink "PlantKeeper$Machine" (100 : Nat) "PlantKeeper$Plan" "instanceOf" "[I" ∈ zk_BW := zk_inT 261 (by decide +kernel) rfl
theorem kw270 : Jvm.Cond.fieldLink "PlantKeeper$Machine" (103 : Nat) "PlantKeeper$Plan" "cell" "[I" ∈ zk_BW := zk_inT 270 (by decide +kernel) rfl
theorem kw278 : Jvm.Cond.fieldLink "PlantKeeper$Machine" (109 : Nat) "PlantKeeper$Plan" "length" "[I" ∈ zk_BW := zk_inT 278 (by decide +kernel) rfl
theorem kw284 : Jvm.Cond.fieldLink "PlantKeeper$Machine" (112 : Nat) "PlantKeeper$Plan" "constant" "[I" ∈ zk_BW := zk_inT 284 (by decide +kernel) rfl
theorem kw297 : Jvm.Cond.fieldLink "PlantKeeper$Machine" (132 : Nat) "PlantKeeper$Plan" "program" "I" ∈ zk_BW := zk_inT 297 (by decide +kernel) rfl
theorem kw521 : Jvm.Cond.fieldLink "PlantKeeper" (191 : Nat) "PlantKeeper$Machine" "safeOutputs" "[I" ∈ zk_BW := zk_inT 521 (by decide +kernel) rfl
theorem kw525 : Jvm.Cond.fieldLink "PlantKeeper$Machine" (45 : Nat) "PlantKeeper$Machine" "stopped" "Z" ∈ zk_BW := zk_inT 525 (by decide +kernel) rfl
theorem kw527 : Jvm.Cond.fieldLink "PlantKeeper$Machine" (48 : Nat) "PlantKeeper$Machine" "bound" "I" ∈ zk_BW := zk_inT 527 (by decide +kernel) rfl
theorem kw529 : Jvm.Cond.fieldLink "PlantKeeper$Machine" (52 : Nat) "PlantKeeper$Machine" "steps" "I" ∈ zk_BW := zk_inT 529 (by decide +kernel) rfl
theorem kw531 : Jvm.Cond.fieldLink "PlantKeeper$Machine" (55 : Nat) "PlantKeeper$Machine" "scans" "I" ∈ zk_BW := zk_inT 531 (by decide +kernel) rfl
theorem kw533 : Jvm.Cond.fieldLink "PlantKeeper$Machine" (58 : Nat) "PlantKeeper$Machine" "scansAbove" "I" ∈ zk_BW := zk_inT 533 (by decide +kernel) rfl
theorem kw684 : Jvm.Cond.constant "PlantKeeper" (115 : Nat) (100000 : Int32) ∈ zk_BW := zk_inT 684 (by decide +kernel) rfl
theorem kw1449 : Jvm.Cond.methodLink "PlantKeeper$Machine" (86 : Nat) ({ cls := "PlantKeeper$Machine", name := "setConstants", desc := "(III)V" } : Jvm.MethodName) ∈ zk_BW := zk_inT 1449 (by decide +kernel) rfl
theorem kw1451 : Jvm.Cond.instanceMethod ({ cls := "PlantKeeper$Machine", name := "setConstants", desc := "(III)V" } : Jvm.MethodName) ∈ zk_BW := zk_inT 1451 (by decide +kernel) rfl
theorem kw1452 : Jvm.Cond.code ({ cls := "PlantKeeper$Machine", name := "setConstants", desc := "(III)V" } : Jvm.MethodName) prog_6_method_5_code (8 : Nat) (Option.none : Option FieldType) ∈ zk_BW := zk_inT 1452 (by decide +kernel) rfl
theorem kw1453 : Jvm.Cond.methodLink "PlantKeeper$Machine" (106 : Nat) ({ cls := "PlantKeeper$Machine", name := "beginInstance", desc := "(III)V" } : Jvm.MethodName) ∈ zk_BW := zk_inT 1453 (by decide +kernel) rfl
theorem kw1455 : Jvm.Cond.instanceMethod ({ cls := "PlantKeeper$Machine", name := "beginInstance", desc := "(III)V" } : Jvm.MethodName) ∈ zk_BW := zk_inT 1455 (by decide +kernel) rfl
theorem kw1456 : Jvm.Cond.code ({ cls := "PlantKeeper$Machine", name := "beginInstance", desc := "(III)V" } : Jvm.MethodName) prog_6_method_6_code (6 : Nat) (Option.none : Option FieldType) ∈ zk_BW := zk_inT 1456 (by decide +kernel) rfl
theorem kw1457 : Jvm.Cond.methodLink "PlantKeeper$Machine" (120 : Nat) ({ cls := "java/lang/System", name := "arraycopy", desc := "(Ljava/lang/Object;ILjava/lang/Object;II)V" } : Jvm.MethodName) ∈ zk_BW := zk_inT 1457 (by decide +kernel) rfl
theorem kw1458 : Jvm.Cond.static ({ cls := "java/lang/System", name := "arraycopy", desc := "(Ljava/lang/Object;ILjava/lang/Object;II)V" } : Jvm.MethodName) ∈ zk_BW := zk_inT 1458 (by decide +kernel) rfl
theorem kw1459 : Jvm.Cond.native ({ cls := "java/lang/System", name := "arraycopy", desc := "(Ljava/lang/Object;ILjava/lang/Object;II)V" } : Jvm.MethodName) ∈ zk_BW := zk_inT 1459 (by decide +kernel) rfl
theorem kw1464 : Jvm.Cond.methodLink "PlantKeeper$Machine" (90 : Nat) ({ cls := "PlantKeeper$Machine", name := "publish", desc := "([I)V" } : Jvm.MethodName) ∈ zk_BW := zk_inT 1464 (by decide +kernel) rfl
theorem kw1466 : Jvm.Cond.instanceMethod ({ cls := "PlantKeeper$Machine", name := "publish", desc := "([I)V" } : Jvm.MethodName) ∈ zk_BW := zk_inT 1466 (by decide +kernel) rfl
theorem kw1467 : Jvm.Cond.code ({ cls := "PlantKeeper$Machine", name := "publish", desc := "([I)V" } : Jvm.MethodName) prog_6_method_7_code (3 : Nat) (Option.none : Option FieldType) ∈ zk_BW := zk_inT 1467 (by decide +kernel) rfl
theorem kw1475 : Jvm.Cond.instanceMethod ({ cls := "PlantKeeper", name := "put", desc := "(III)I" } : Jvm.MethodName) ∈ zk_BW := zk_inT 1475 (by decide +kernel) rfl
theorem kw1476 : Jvm.Cond.selects "PlantKeeper" ({ cls := "PlantKeeper", name := "put", desc := "(III)I" } : Jvm.MethodName) ({ cls := "PlantKeeper", name := "put", desc := "(III)I" } : Jvm.MethodName) ∈ zk_BW := zk_inT 1476 (by decide +kernel) rfl
theorem kw1477 : Jvm.Cond.code ({ cls := "PlantKeeper", name := "put", desc := "(III)I" } : Jvm.MethodName) prog_1_method_9_code (4 : Nat) (Option.some FieldType.int) ∈ zk_BW := zk_inT 1477 (by decide +kernel) rfl
theorem kw1478 : Jvm.Cond.methodLink "PlantKeeper" (176 : Nat) ({ cls := "PlantKeeper", name := "isPlace", desc := "(II)Z" } : Jvm.MethodName) ∈ zk_BW := zk_inT 1478 (by decide +kernel) rfl
theorem kw1479 : Jvm.Cond.static ({ cls := "PlantKeeper", name := "isPlace", desc := "(II)Z" } : Jvm.MethodName) ∈ zk_BW := zk_inT 1479 (by decide +kernel) rfl
theorem kw1480 : Jvm.Cond.code ({ cls := "PlantKeeper", name := "isPlace", desc := "(II)Z" } : Jvm.MethodName) prog_1_method_12_code (2 : Nat) (Option.some FieldType.boolean) ∈ zk_BW := zk_inT 1480 (by decide +kernel) rfl
theorem kw1481 : Jvm.Cond.fieldLink "PlantKeeper" (194 : Nat) "PlantKeeper" "AREA_START" "[I" ∈ zk_BW := zk_inT 1481 (by decide +kernel) rfl
theorem kw1482 : Jvm.Cond.methodLink "PlantKeeper" (180 : Nat) ({ cls := "PlantKeeper", name := "isValue", desc := "(II)Z" } : Jvm.MethodName) ∈ zk_BW := zk_inT 1482 (by decide +kernel) rfl
theorem kw1483 : Jvm.Cond.static ({ cls := "PlantKeeper", name := "isValue", desc := "(II)Z" } : Jvm.MethodName) ∈ zk_BW := zk_inT 1483 (by decide +kernel) rfl
theorem kw1484 : Jvm.Cond.code ({ cls := "PlantKeeper", name := "isValue", desc := "(II)Z" } : Jvm.MethodName) prog_1_method_13_code (2 : Nat) (Option.some FieldType.boolean) ∈ zk_BW := zk_inT 1484 (by decide +kernel) rfl
theorem kw1485 : Jvm.Cond.methodLink "PlantKeeper" (183 : Nat) ({ cls := "PlantKeeper$Machine", name := "change", desc := "(III)I" } : Jvm.MethodName) ∈ zk_BW := zk_inT 1485 (by decide +kernel) rfl
theorem kw1490 : Jvm.Cond.instanceMethod ({ cls := "PlantKeeper", name := "get", desc := "(II)I" } : Jvm.MethodName) ∈ zk_BW := zk_inT 1490 (by decide +kernel) rfl
theorem kw1491 : Jvm.Cond.selects "PlantKeeper" ({ cls := "PlantKeeper", name := "get", desc := "(II)I" } : Jvm.MethodName) ({ cls := "PlantKeeper", name := "get", desc := "(II)I" } : Jvm.MethodName) ∈ zk_BW := zk_inT 1491 (by decide +kernel) rfl
theorem kw1492 : Jvm.Cond.code ({ cls := "PlantKeeper", name := "get", desc := "(II)I" } : Jvm.MethodName) prog_1_method_10_code (3 : Nat) (Option.some FieldType.int) ∈ zk_BW := zk_inT 1492 (by decide +kernel) rfl
theorem kw1493 : Jvm.Cond.methodLink "PlantKeeper" (187 : Nat) ({ cls := "PlantKeeper$Machine", name := "seen", desc := "(II)I" } : Jvm.MethodName) ∈ zk_BW := zk_inT 1493 (by decide +kernel) rfl
theorem kw1498 : Jvm.Cond.instanceMethod ({ cls := "PlantKeeper", name := "safe", desc := "(III)I" } : Jvm.MethodName) ∈ zk_BW := zk_inT 1498 (by decide +kernel) rfl
theorem kw1499 : Jvm.Cond.selects "PlantKeeper" ({ cls := "PlantKeeper", name := "safe", desc := "(III)I" } : Jvm.MethodName) ({ cls := "PlantKeeper", name := "safe", desc := "(III)I" } : Jvm.MethodName) ∈ zk_BW := zk_inT 1499 (by decide +kernel) rfl
theorem kw1500 : Jvm.Cond.code ({ cls := "PlantKeeper", name := "safe", desc := "(III)I" } : Jvm.MethodName) prog_1_method_11_code (4 : Nat) (Option.some FieldType.int) ∈ zk_BW := zk_inT 1500 (by decide +kernel) rfl
theorem kw1502 : Jvm.Cond.instanceMethod ({ cls := "PlantKeeper", name := "scan", desc := "(I)I" } : Jvm.MethodName) ∈ zk_BW := zk_inT 1502 (by decide +kernel) rfl
theorem kw1503 : Jvm.Cond.selects "PlantKeeper" ({ cls := "PlantKeeper", name := "scan", desc := "(I)I" } : Jvm.MethodName) ({ cls := "PlantKeeper", name := "scan", desc := "(I)I" } : Jvm.MethodName) ∈ zk_BW := zk_inT 1503 (by decide +kernel) rfl
theorem kw1504 : Jvm.Cond.code ({ cls := "PlantKeeper", name := "scan", desc := "(I)I" } : Jvm.MethodName) prog_1_method_14_code (2 : Nat) (Option.some FieldType.int) ∈ zk_BW := zk_inT 1504 (by decide +kernel) rfl
theorem kw1505 : Jvm.Cond.methodLink "PlantKeeper" (200 : Nat) ({ cls := "PlantKeeper$Machine", name := "scanBy", desc := "(I)I" } : Jvm.MethodName) ∈ zk_BW := zk_inT 1505 (by decide +kernel) rfl
theorem kw1506 : Jvm.Cond.instanceMethod ({ cls := "PlantKeeper$Machine", name := "scanBy", desc := "(I)I" } : Jvm.MethodName) ∈ zk_BW := zk_inT 1506 (by decide +kernel) rfl
theorem kw1507 : Jvm.Cond.selects "PlantKeeper$Machine" ({ cls := "PlantKeeper$Machine", name := "scanBy", desc := "(I)I" } : Jvm.MethodName) ({ cls := "PlantKeeper$Machine", name := "scanBy", desc := "(I)I" } : Jvm.MethodName) ∈ zk_BW := zk_inT 1507 (by decide +kernel) rfl
theorem kw1508 : Jvm.Cond.code ({ cls := "PlantKeeper$Machine", name := "scanBy", desc := "(I)I" } : Jvm.MethodName) prog_6_method_13_code (3 : Nat) (Option.some FieldType.int) ∈ zk_BW := zk_inT 1508 (by decide +kernel) rfl
theorem kw1509 : Jvm.Cond.methodLink "PlantKeeper$Machine" (129 : Nat) ({ cls := "PlantKeeper$Machine", name := "takeInputs", desc := "()V" } : Jvm.MethodName) ∈ zk_BW := zk_inT 1509 (by decide +kernel) rfl
theorem kw1513 : Jvm.Cond.methodLink "PlantKeeper$Machine" (135 : Nat) ({ cls := "PlantKeeper$Machine", name := "run", desc := "(I)I" } : Jvm.MethodName) ∈ zk_BW := zk_inT 1513 (by decide +kernel) rfl
theorem kw1515 : Jvm.Cond.instanceMethod ({ cls := "PlantKeeper$Machine", name := "run", desc := "(I)I" } : Jvm.MethodName) ∈ zk_BW := zk_inT 1515 (by decide +kernel) rfl
theorem kw1516 : Jvm.Cond.code ({ cls := "PlantKeeper$Machine", name := "run", desc := "(I)I" } : Jvm.MethodName) prog_6_method_14_code (5 : Nat) (Option.some FieldType.int) ∈ zk_BW := zk_inT 1516 (by decide +kernel) rfl
theorem kw1517 : Jvm.Cond.methodLink "PlantKeeper$Machine" (145 : Nat) ({ cls := "PlantKeeper$Machine", name := "beginUnit", desc := "(II)V" } : Jvm.MethodName) ∈ zk_BW := zk_inT 1517 (by decide +kernel) rfl
theorem kw1521 : Jvm.Cond.constant "PlantKeeper$Machine" (148 : Nat) (1000000 : Int32) ∈ zk_BW := zk_inT 1521 (by decide +kernel) rfl
theorem kw1522 : Jvm.Cond.methodLink "PlantKeeper$Machine" (154 : Nat) ({ cls := "PlantKeeper$Machine", name := "endUnit", desc := "()V" } : Jvm.MethodName) ∈ zk_BW := zk_inT 1522 (by decide +kernel) rfl
theorem kw1526 : Jvm.Cond.methodLink "PlantKeeper$Machine" (163 : Nat) ({ cls := "PlantKeeper$Machine", name := "compute", desc := "(I)I" } : Jvm.MethodName) ∈ zk_BW := zk_inT 1526 (by decide +kernel) rfl
theorem kw1553 : Jvm.Cond.methodLink "PlantKeeper$Machine" (166 : Nat) ({ cls := "PlantKeeper$Machine", name := "move", desc := "(I)I" } : Jvm.MethodName) ∈ zk_BW := zk_inT 1553 (by decide +kernel) rfl
theorem kw1555 : Jvm.Cond.instanceMethod ({ cls := "PlantKeeper$Machine", name := "move", desc := "(I)I" } : Jvm.MethodName) ∈ zk_BW := zk_inT 1555 (by decide +kernel) rfl
theorem kw1556 : Jvm.Cond.code ({ cls := "PlantKeeper$Machine", name := "move", desc := "(I)I" } : Jvm.MethodName) prog_6_method_22_code (4 : Nat) (Option.some FieldType.int) ∈ zk_BW := zk_inT 1556 (by decide +kernel) rfl
theorem kw1557 : Jvm.Cond.methodLink "PlantKeeper$Machine" (217 : Nat) ({ cls := "PlantKeeper$Machine", name := "runStandard", desc := "(II)V" } : Jvm.MethodName) ∈ zk_BW := zk_inT 1557 (by decide +kernel) rfl
theorem kw1559 : Jvm.Cond.instanceMethod ({ cls := "PlantKeeper$Machine", name := "runStandard", desc := "(II)V" } : Jvm.MethodName) ∈ zk_BW := zk_inT 1559 (by decide +kernel) rfl
theorem kw1560 : Jvm.Cond.code ({ cls := "PlantKeeper$Machine", name := "runStandard", desc := "(II)V" } : Jvm.MethodName) prog_6_method_23_code (7 : Nat) (Option.none : Option FieldType) ∈ zk_BW := zk_inT 1560 (by decide +kernel) rfl
theorem kw1561 : Jvm.Cond.methodLink "PlantKeeper$Machine" (220 : Nat) ({ cls := "PlantKeeper$Machine", name := "runTimer", desc := "(IIZ)V" } : Jvm.MethodName) ∈ zk_BW := zk_inT 1561 (by decide +kernel) rfl
theorem kw1567 : Jvm.Cond.methodLink "PlantKeeper$Machine" (224 : Nat) ({ cls := "PlantKeeper$Machine", name := "runCounter", desc := "(IIZZ)V" } : Jvm.MethodName) ∈ zk_BW := zk_inT 1567 (by decide +kernel) rfl
abbrev kc_Mc_beginInstance : ByteArray := prog_6_method_6_code
def km_Mc_beginInstance : zk_MT := (⟨"PlantKeeper$Machine", "beginInstance", "(III)V"⟩, kc_Mc_beginInstance, 6, none, 3)
theorem ku_Mc_beginInstance : zk_My km_Mc_beginInstance := ⟨kw1456, kw15, by decide, by decide, by decide, by decide +kernel⟩
theorem kv_Mc_beginInstance : zk_Mv km_Mc_beginInstance := ⟨kw1455, zk_inS 116 (q := (⟨"PlantKeeper$Machine", "beginInstance", "(III)V"⟩, 21)) (by decide +kernel)⟩
abbrev kc_Mc_move : ByteArray := prog_6_method_22_code
def km_Mc_move : zk_MT := (⟨"PlantKeeper$Machine", "move", "(I)I"⟩, kc_Mc_move, 4, some .int, 1)
theorem ku_Mc_move : zk_My km_Mc_move := ⟨kw1556, kw15, by decide, by decide, by decide, by decide +kernel⟩
theorem kv_Mc_move : zk_Mv km_Mc_move := ⟨kw1555, zk_inS 128 (q := (⟨"PlantKeeper$Machine", "move", "(I)I"⟩, 21)) (by decide +kernel)⟩
abbrev kc_Mc_publish : ByteArray := prog_6_method_7_code
def km_Mc_publish : zk_MT := (⟨"PlantKeeper$Machine", "publish", "([I)V"⟩, kc_Mc_publish, 3, none, 1)
theorem ku_Mc_publish : zk_My km_Mc_publish := ⟨kw1467, kw15, by decide, by decide, by decide, by decide +kernel⟩
theorem kv_Mc_publish : zk_Mv km_Mc_publish := ⟨kw1466, zk_inS 118 (q := (⟨"PlantKeeper$Machine", "publish", "([I)V"⟩, 21)) (by decide +kernel)⟩
abbrev kc_Mc_run : ByteArray := prog_6_method_14_code
def km_Mc_run : zk_MT := (⟨"PlantKeeper$Machine", "run", "(I)I"⟩, kc_Mc_run, 5, some .int, 1)
theorem ku_Mc_run : zk_My km_Mc_run := ⟨kw1516, kw15, by decide, by decide, by decide, by decide +kernel⟩
theorem kv_Mc_run : zk_Mv km_Mc_run := ⟨kw1515, zk_inS 120 (q := (⟨"PlantKeeper$Machine", "run", "(I)I"⟩, 21)) (by decide +kernel)⟩
abbrev kc_Mc_runStandard : ByteArray := prog_6_method_23_code
def km_Mc_runStandard : zk_MT := (⟨"PlantKeeper$Machine", "runStandard", "(II)V"⟩, kc_Mc_runStandard, 7, none, 2)
theorem ku_Mc_runStandard : zk_My km_Mc_runStandard := ⟨kw1560, kw15, by decide, by decide, by decide, by decide +kernel⟩
theorem kv_Mc_runStandard : zk_Mv km_Mc_runStandard := ⟨kw1559, zk_inS 129 (q := (⟨"PlantKeeper$Machine", "runStandard", "(II)V"⟩, 21)) (by decide +kernel)⟩
abbrev kc_Mc_scanBy : ByteArray := prog_6_method_13_code
def km_Mc_scanBy : zk_MT := (⟨"PlantKeeper$Machine", "scanBy", "(I)I"⟩, kc_Mc_scanBy, 3, some .int, 1)
theorem ku_Mc_scanBy : zk_My km_Mc_scanBy := ⟨kw1508, kw15, by decide, by decide, by decide, by decide +kernel⟩
theorem kv_Mc_scanBy : zk_Mv km_Mc_scanBy := ⟨kw1506, kw1507⟩
abbrev kc_Mc_setConstants : ByteArray := prog_6_method_5_code
def km_Mc_setConstants : zk_MT := (⟨"PlantKeeper$Machine", "setConstants", "(III)V"⟩, kc_Mc_setConstants, 8, none, 3)
theorem ku_Mc_setConstants : zk_My km_Mc_setConstants := ⟨kw1452, kw15, by decide, by decide, by decide, by decide +kernel⟩
theorem kv_Mc_setConstants : zk_Mv km_Mc_setConstants := ⟨kw1451, zk_inS 115 (q := (⟨"PlantKeeper$Machine", "setConstants", "(III)V"⟩, 21)) (by decide +kernel)⟩
abbrev kc_Pk_get : ByteArray := prog_1_method_10_code
def km_Pk_get : zk_MT := (⟨"PlantKeeper", "get", "(II)I"⟩, kc_Pk_get, 3, some .int, 2)
theorem ku_Pk_get : zk_My km_Pk_get := ⟨kw1492, kw1, by decide, by decide, by decide, by decide +kernel⟩
theorem kv_Pk_get : zk_Mv km_Pk_get := ⟨kw1490, kw1491⟩
abbrev kc_Pk_isPlace : ByteArray := prog_1_method_12_code
def km_Pk_isPlace : zk_MT := (⟨"PlantKeeper", "isPlace", "(II)Z"⟩, kc_Pk_isPlace, 2, some .boolean, 2)
theorem ku_Pk_isPlace : zk_My km_Pk_isPlace := ⟨kw1480, kw1, by decide, by decide, by decide, by decide +kernel⟩
theorem ks_Pk_isPlace : Cond.static km_Pk_isPlace.1 ∈ zk_BW := kw1479
abbrev kc_Pk_isValue : ByteArray := prog_1_method_13_code
def km_Pk_isValue : zk_MT := (⟨"PlantKeeper", "isValue", "(II)Z"⟩, kc_Pk_isValue, 2, some .boolean, 2)
theorem ku_Pk_isValue : zk_My km_Pk_isValue := ⟨kw1484, kw1, by decide, by decide, by decide, by decide +kernel⟩
theorem ks_Pk_isValue : Cond.static km_Pk_isValue.1 ∈ zk_BW := kw1483
abbrev kc_Pk_put : ByteArray := prog_1_method_9_code
def km_Pk_put : zk_MT := (⟨"PlantKeeper", "put", "(III)I"⟩, kc_Pk_put, 4, some .int, 3)
theorem ku_Pk_put : zk_My km_Pk_put := ⟨kw1477, kw1, by decide, by decide, by decide, by decide +kernel⟩
theorem kv_Pk_put : zk_Mv km_Pk_put := ⟨kw1475, kw1476⟩
abbrev kc_Pk_safe : ByteArray := prog_1_method_11_code
def km_Pk_safe : zk_MT := (⟨"PlantKeeper", "safe", "(III)I"⟩, kc_Pk_safe, 4, some .int, 3)
theorem ku_Pk_safe : zk_My km_Pk_safe := ⟨kw1500, kw1, by decide, by decide, by decide, by decide +kernel⟩
theorem kv_Pk_safe : zk_Mv km_Pk_safe := ⟨kw1498, kw1499⟩
abbrev kc_Pk_scan : ByteArray := prog_1_method_14_code
def km_Pk_scan : zk_MT := (⟨"PlantKeeper", "scan", "(I)I"⟩, kc_Pk_scan, 2, some .int, 1)
theorem ku_Pk_scan : zk_My km_Pk_scan := ⟨kw1504, kw1, by decide, by decide, by decide, by decide +kernel⟩
theorem kv_Pk_scan : zk_Mv km_Pk_scan := ⟨kw1502, kw1503⟩
theorem kd_Mc_beginInstance_0 : decode kc_Mc_beginInstance 0 = .ok (.iload_n 1, 1) := by decide +kernel
theorem kd_Mc_beginInstance_1 : decode kc_Mc_beginInstance 1 = .ok (.bipush 9, 2) := by decide +kernel
theorem kd_Mc_beginInstance_3 : decode kc_Mc_beginInstance 3 = .ok (.isub, 1) := by decide +kernel
theorem kd_Mc_beginInstance_4 : decode kc_Mc_beginInstance 4 = .ok (.istore 4, 2) := by decide +kernel
theorem kd_Mc_beginInstance_6 : decode kc_Mc_beginInstance 6 = .ok (.aload_n 0, 1) := by decide +kernel
theorem kd_Mc_beginInstance_7 : decode kc_Mc_beginInstance 7 = .ok (.getfield 15, 3) := by decide +kernel
theorem kd_Mc_beginInstance_10 : decode kc_Mc_beginInstance 10 = .ok (.getfield 119, 3) := by decide +kernel
theorem kd_Mc_beginInstance_13 : decode kc_Mc_beginInstance 13 = .ok (.iload_n 1, 1) := by decide +kernel
theorem kd_Mc_beginInstance_14 : decode kc_Mc_beginInstance 14 = .ok (.iaload, 1) := by decide +kernel
theorem kd_Mc_beginInstance_15 : decode kc_Mc_beginInstance 15 = .ok (.istore 5, 2) := by decide +kernel
theorem kd_Mc_beginInstance_17 : decode kc_Mc_beginInstance 17 = .ok (.iload 4, 2) := by decide +kernel
theorem kd_Mc_beginInstance_19 : decode kc_Mc_beginInstance 19 = .ok (.ifCond .lt 29, 3) := by decide +kernel
theorem kd_Mc_beginInstance_22 : decode kc_Mc_beginInstance 22 = .ok (.iload 4, 2) := by decide +kernel
theorem kd_Mc_beginInstance_24 : decode kc_Mc_beginInstance 24 = .ok (.aload_n 0, 1) := by decide +kernel
theorem kd_Mc_beginInstance_25 : decode kc_Mc_beginInstance 25 = .ok (.getfield 38, 3) := by decide +kernel
theorem kd_Mc_beginInstance_28 : decode kc_Mc_beginInstance 28 = .ok (.arraylength, 1) := by decide +kernel
theorem kd_Mc_beginInstance_29 : decode kc_Mc_beginInstance 29 = .ok (.if_icmp .ge 19, 3) := by decide +kernel
theorem kd_Mc_beginInstance_32 : decode kc_Mc_beginInstance 32 = .ok (.iload_n 2, 1) := by decide +kernel
theorem kd_Mc_beginInstance_33 : decode kc_Mc_beginInstance 33 = .ok (.ifCond .lt 15, 3) := by decide +kernel
theorem kd_Mc_beginInstance_36 : decode kc_Mc_beginInstance 36 = .ok (.iload_n 2, 1) := by decide +kernel
theorem kd_Mc_beginInstance_37 : decode kc_Mc_beginInstance 37 = .ok (.iload 5, 2) := by decide +kernel
theorem kd_Mc_beginInstance_39 : decode kc_Mc_beginInstance 39 = .ok (.iadd, 1) := by decide +kernel
theorem kd_Mc_beginInstance_40 : decode kc_Mc_beginInstance 40 = .ok (.aload_n 0, 1) := by decide +kernel
theorem kd_Mc_beginInstance_41 : decode kc_Mc_beginInstance 41 = .ok (.getfield 29, 3) := by decide +kernel
theorem kd_Mc_beginInstance_44 : decode kc_Mc_beginInstance 44 = .ok (.arraylength, 1) := by decide +kernel
theorem kd_Mc_beginInstance_45 : decode kc_Mc_beginInstance 45 = .ok (.if_icmp .le 4, 3) := by decide +kernel
theorem kd_Mc_beginInstance_48 : decode kc_Mc_beginInstance 48 = .ok (.return_, 1) := by decide +kernel
theorem kd_Mc_beginInstance_49 : decode kc_Mc_beginInstance 49 = .ok (.aload_n 0, 1) := by decide +kernel
theorem kd_Mc_beginInstance_50 : decode kc_Mc_beginInstance 50 = .ok (.getfield 38, 3) := by decide +kernel
theorem kd_Mc_beginInstance_53 : decode kc_Mc_beginInstance 53 = .ok (.iload 4, 2) := by decide +kernel
theorem kd_Mc_beginInstance_55 : decode kc_Mc_beginInstance 55 = .ok (.iaload, 1) := by decide +kernel
theorem kd_Mc_beginInstance_56 : decode kc_Mc_beginInstance 56 = .ok (.iconst (-1), 1) := by decide +kernel
theorem kd_Mc_beginInstance_57 : decode kc_Mc_beginInstance 57 = .ok (.if_icmp .ne 21, 3) := by decide +kernel
theorem kd_Mc_beginInstance_60 : decode kc_Mc_beginInstance 60 = .ok (.aload_n 0, 1) := by decide +kernel
theorem kd_Mc_beginInstance_61 : decode kc_Mc_beginInstance 61 = .ok (.iload_n 1, 1) := by decide +kernel
theorem kd_Mc_beginInstance_62 : decode kc_Mc_beginInstance 62 = .ok (.iload_n 2, 1) := by decide +kernel
theorem kd_Mc_beginInstance_63 : decode kc_Mc_beginInstance 63 = .ok (.iload_n 3, 1) := by decide +kernel
theorem kd_Mc_beginInstance_64 : decode kc_Mc_beginInstance 64 = .ok (.invokevirtual 86, 3) := by decide +kernel
theorem kd_Mc_beginInstance_67 : decode kc_Mc_beginInstance 67 = .ok (.aload_n 0, 1) := by decide +kernel
theorem kd_Mc_beginInstance_68 : decode kc_Mc_beginInstance 68 = .ok (.getfield 38, 3) := by decide +kernel
theorem kd_Mc_beginInstance_71 : decode kc_Mc_beginInstance 71 = .ok (.iload 4, 2) := by decide +kernel
theorem kd_Mc_beginInstance_73 : decode kc_Mc_beginInstance 73 = .ok (.iload_n 2, 1) := by decide +kernel
theorem kd_Mc_beginInstance_74 : decode kc_Mc_beginInstance 74 = .ok (.iastore, 1) := by decide +kernel
theorem kd_Mc_beginInstance_75 : decode kc_Mc_beginInstance 75 = .ok (.goto 24, 3) := by decide +kernel
theorem kd_Mc_beginInstance_78 : decode kc_Mc_beginInstance 78 = .ok (.aload_n 0, 1) := by decide +kernel
theorem kd_Mc_beginInstance_79 : decode kc_Mc_beginInstance 79 = .ok (.getfield 29, 3) := by decide +kernel
theorem kd_Mc_beginInstance_82 : decode kc_Mc_beginInstance 82 = .ok (.aload_n 0, 1) := by decide +kernel
theorem kd_Mc_beginInstance_83 : decode kc_Mc_beginInstance 83 = .ok (.getfield 38, 3) := by decide +kernel
theorem kd_Mc_beginInstance_86 : decode kc_Mc_beginInstance 86 = .ok (.iload 4, 2) := by decide +kernel
theorem kd_Mc_beginInstance_88 : decode kc_Mc_beginInstance 88 = .ok (.iaload, 1) := by decide +kernel
theorem kd_Mc_beginInstance_89 : decode kc_Mc_beginInstance 89 = .ok (.aload_n 0, 1) := by decide +kernel
theorem kd_Mc_beginInstance_90 : decode kc_Mc_beginInstance 90 = .ok (.getfield 29, 3) := by decide +kernel
theorem kd_Mc_beginInstance_93 : decode kc_Mc_beginInstance 93 = .ok (.iload_n 2, 1) := by decide +kernel
theorem kd_Mc_beginInstance_94 : decode kc_Mc_beginInstance 94 = .ok (.iload 5, 2) := by decide +kernel
theorem kd_Mc_beginInstance_96 : decode kc_Mc_beginInstance 96 = .ok (.invokestatic 120, 3) := by decide +kernel
theorem kd_Mc_beginInstance_99 : decode kc_Mc_beginInstance 99 = .ok (.return_, 1) := by decide +kernel
theorem kd_Mc_move_0 : decode kc_Mc_move 0 = .ok (.aload_n 0, 1) := by decide +kernel
theorem kd_Mc_move_1 : decode kc_Mc_move 1 = .ok (.getfield 9, 3) := by decide +kernel
theorem kd_Mc_move_4 : decode kc_Mc_move 4 = .ok (.getfield 178, 3) := by decide +kernel
theorem kd_Mc_move_7 : decode kc_Mc_move 7 = .ok (.iload_n 1, 1) := by decide +kernel
theorem kd_Mc_move_8 : decode kc_Mc_move 8 = .ok (.iaload, 1) := by decide +kernel
theorem kd_Mc_move_9 : decode kc_Mc_move 9 = .ok (.istore_n 2, 1) := by decide +kernel
theorem kd_Mc_move_10 : decode kc_Mc_move 10 = .ok (.aload_n 0, 1) := by decide +kernel
theorem kd_Mc_move_11 : decode kc_Mc_move 11 = .ok (.getfield 9, 3) := by decide +kernel
theorem kd_Mc_move_14 : decode kc_Mc_move 14 = .ok (.getfield 157, 3) := by decide +kernel
theorem kd_Mc_move_17 : decode kc_Mc_move 17 = .ok (.iload_n 1, 1) := by decide +kernel
theorem kd_Mc_move_18 : decode kc_Mc_move 18 = .ok (.baload, 1) := by decide +kernel
theorem kd_Mc_move_19 : decode kc_Mc_move 19 = .ok (.tableswitch 216 10 17 #[45, 53, 75, 97, 45, 152, 174, 194], 45) := by decide +kernel
theorem kd_Mc_move_64 : decode kc_Mc_move 64 = .ok (.aload_n 0, 1) := by decide +kernel
theorem kd_Mc_move_65 : decode kc_Mc_move 65 = .ok (.iload_n 2, 1) := by decide +kernel
theorem kd_Mc_move_66 : decode kc_Mc_move 66 = .ok (.putfield 149, 3) := by decide +kernel
theorem kd_Mc_move_69 : decode kc_Mc_move 69 = .ok (.goto 174, 3) := by decide +kernel
theorem kd_Mc_move_72 : decode kc_Mc_move 72 = .ok (.aload_n 0, 1) := by decide +kernel
theorem kd_Mc_move_73 : decode kc_Mc_move 73 = .ok (.aload_n 0, 1) := by decide +kernel
theorem kd_Mc_move_74 : decode kc_Mc_move 74 = .ok (.invokevirtual 188, 3) := by decide +kernel
theorem kd_Mc_move_77 : decode kc_Mc_move 77 = .ok (.ifCond .ne 7, 3) := by decide +kernel
theorem kd_Mc_move_80 : decode kc_Mc_move 80 = .ok (.iload_n 2, 1) := by decide +kernel
theorem kd_Mc_move_81 : decode kc_Mc_move 81 = .ok (.goto 7, 3) := by decide +kernel
theorem kd_Mc_move_84 : decode kc_Mc_move 84 = .ok (.aload_n 0, 1) := by decide +kernel
theorem kd_Mc_move_85 : decode kc_Mc_move 85 = .ok (.getfield 149, 3) := by decide +kernel
theorem kd_Mc_move_88 : decode kc_Mc_move 88 = .ok (.putfield 149, 3) := by decide +kernel
theorem kd_Mc_move_91 : decode kc_Mc_move 91 = .ok (.goto 152, 3) := by decide +kernel
theorem kd_Mc_move_94 : decode kc_Mc_move 94 = .ok (.aload_n 0, 1) := by decide +kernel
theorem kd_Mc_move_95 : decode kc_Mc_move 95 = .ok (.aload_n 0, 1) := by decide +kernel
theorem kd_Mc_move_96 : decode kc_Mc_move 96 = .ok (.getfield 172, 3) := by decide +kernel
theorem kd_Mc_move_99 : decode kc_Mc_move 99 = .ok (.iload_n 2, 1) := by decide +kernel
theorem kd_Mc_move_100 : decode kc_Mc_move 100 = .ok (.iadd, 1) := by decide +kernel
theorem kd_Mc_move_101 : decode kc_Mc_move 101 = .ok (.aload_n 0, 1) := by decide +kernel
theorem kd_Mc_move_102 : decode kc_Mc_move 102 = .ok (.getfield 9, 3) := by decide +kernel
theorem kd_Mc_move_105 : decode kc_Mc_move 105 = .ok (.getfield 196, 3) := by decide +kernel
theorem kd_Mc_move_108 : decode kc_Mc_move 108 = .ok (.iload_n 1, 1) := by decide +kernel
theorem kd_Mc_move_109 : decode kc_Mc_move 109 = .ok (.iaload, 1) := by decide +kernel
theorem kd_Mc_move_110 : decode kc_Mc_move 110 = .ok (.invokevirtual 115, 3) := by decide +kernel
theorem kd_Mc_move_113 : decode kc_Mc_move 113 = .ok (.goto 130, 3) := by decide +kernel
theorem kd_Mc_move_116 : decode kc_Mc_move 116 = .ok (.aload_n 0, 1) := by decide +kernel
theorem kd_Mc_move_117 : decode kc_Mc_move 117 = .ok (.aload_n 0, 1) := by decide +kernel
theorem kd_Mc_move_118 : decode kc_Mc_move 118 = .ok (.getfield 172, 3) := by decide +kernel
theorem kd_Mc_move_121 : decode kc_Mc_move 121 = .ok (.aload_n 0, 1) := by decide +kernel
theorem kd_Mc_move_122 : decode kc_Mc_move 122 = .ok (.getfield 9, 3) := by decide +kernel
theorem kd_Mc_move_125 : decode kc_Mc_move 125 = .ok (.getfield 196, 3) := by decide +kernel
theorem kd_Mc_move_128 : decode kc_Mc_move 128 = .ok (.iload_n 1, 1) := by decide +kernel
theorem kd_Mc_move_129 : decode kc_Mc_move 129 = .ok (.iaload, 1) := by decide +kernel
theorem kd_Mc_move_130 : decode kc_Mc_move 130 = .ok (.iadd, 1) := by decide +kernel
theorem kd_Mc_move_131 : decode kc_Mc_move 131 = .ok (.invokevirtual 185, 3) := by decide +kernel
theorem kd_Mc_move_134 : decode kc_Mc_move 134 = .ok (.istore_n 3, 1) := by decide +kernel
theorem kd_Mc_move_135 : decode kc_Mc_move 135 = .ok (.iload_n 3, 1) := by decide +kernel
theorem kd_Mc_move_136 : decode kc_Mc_move 136 = .ok (.ifCond .ne 11, 3) := by decide +kernel
theorem kd_Mc_move_139 : decode kc_Mc_move 139 = .ok (.aload_n 0, 1) := by decide +kernel
theorem kd_Mc_move_140 : decode kc_Mc_move 140 = .ok (.iload_n 2, 1) := by decide +kernel
theorem kd_Mc_move_141 : decode kc_Mc_move 141 = .ok (.putfield 149, 3) := by decide +kernel
theorem kd_Mc_move_144 : decode kc_Mc_move 144 = .ok (.goto 99, 3) := by decide +kernel
theorem kd_Mc_move_147 : decode kc_Mc_move 147 = .ok (.aload_n 0, 1) := by decide +kernel
theorem kd_Mc_move_148 : decode kc_Mc_move 148 = .ok (.aload_n 0, 1) := by decide +kernel
theorem kd_Mc_move_149 : decode kc_Mc_move 149 = .ok (.getfield 172, 3) := by decide +kernel
theorem kd_Mc_move_152 : decode kc_Mc_move 152 = .ok (.aload_n 0, 1) := by decide +kernel
theorem kd_Mc_move_153 : decode kc_Mc_move 153 = .ok (.getfield 9, 3) := by decide +kernel
theorem kd_Mc_move_156 : decode kc_Mc_move 156 = .ok (.getfield 196, 3) := by decide +kernel
theorem kd_Mc_move_159 : decode kc_Mc_move 159 = .ok (.iload_n 1, 1) := by decide +kernel
theorem kd_Mc_move_160 : decode kc_Mc_move 160 = .ok (.iaload, 1) := by decide +kernel
theorem kd_Mc_move_161 : decode kc_Mc_move 161 = .ok (.iadd, 1) := by decide +kernel
theorem kd_Mc_move_162 : decode kc_Mc_move 162 = .ok (.iload_n 3, 1) := by decide +kernel
theorem kd_Mc_move_163 : decode kc_Mc_move 163 = .ok (.iconst 1, 1) := by decide +kernel
theorem kd_Mc_move_164 : decode kc_Mc_move 164 = .ok (.isub, 1) := by decide +kernel
theorem kd_Mc_move_165 : decode kc_Mc_move 165 = .ok (.invokevirtual 115, 3) := by decide +kernel
theorem kd_Mc_move_168 : decode kc_Mc_move 168 = .ok (.goto 75, 3) := by decide +kernel
theorem kd_Mc_move_171 : decode kc_Mc_move 171 = .ok (.aload_n 0, 1) := by decide +kernel
theorem kd_Mc_move_172 : decode kc_Mc_move 172 = .ok (.iload_n 2, 1) := by decide +kernel
theorem kd_Mc_move_173 : decode kc_Mc_move 173 = .ok (.aload_n 0, 1) := by decide +kernel
theorem kd_Mc_move_174 : decode kc_Mc_move 174 = .ok (.getfield 172, 3) := by decide +kernel
theorem kd_Mc_move_177 : decode kc_Mc_move 177 = .ok (.aload_n 0, 1) := by decide +kernel
theorem kd_Mc_move_178 : decode kc_Mc_move 178 = .ok (.getfield 9, 3) := by decide +kernel
theorem kd_Mc_move_181 : decode kc_Mc_move 181 = .ok (.getfield 196, 3) := by decide +kernel
theorem kd_Mc_move_184 : decode kc_Mc_move 184 = .ok (.iload_n 1, 1) := by decide +kernel
theorem kd_Mc_move_185 : decode kc_Mc_move 185 = .ok (.iaload, 1) := by decide +kernel
theorem kd_Mc_move_186 : decode kc_Mc_move 186 = .ok (.iadd, 1) := by decide +kernel
theorem kd_Mc_move_187 : decode kc_Mc_move 187 = .ok (.invokevirtual 145, 3) := by decide +kernel
theorem kd_Mc_move_190 : decode kc_Mc_move 190 = .ok (.goto 53, 3) := by decide +kernel
theorem kd_Mc_move_193 : decode kc_Mc_move 193 = .ok (.aload_n 0, 1) := by decide +kernel
theorem kd_Mc_move_194 : decode kc_Mc_move 194 = .ok (.iload_n 2, 1) := by decide +kernel
theorem kd_Mc_move_195 : decode kc_Mc_move 195 = .ok (.aload_n 0, 1) := by decide +kernel
theorem kd_Mc_move_196 : decode kc_Mc_move 196 = .ok (.getfield 15, 3) := by decide +kernel
theorem kd_Mc_move_199 : decode kc_Mc_move 199 = .ok (.getfield 83, 3) := by decide +kernel
theorem kd_Mc_move_202 : decode kc_Mc_move 202 = .ok (.bipush 9, 2) := by decide +kernel
theorem kd_Mc_move_204 : decode kc_Mc_move 204 = .ok (.iload_n 2, 1) := by decide +kernel
theorem kd_Mc_move_205 : decode kc_Mc_move 205 = .ok (.iadd, 1) := by decide +kernel
theorem kd_Mc_move_206 : decode kc_Mc_move 206 = .ok (.iaload, 1) := by decide +kernel
theorem kd_Mc_move_207 : decode kc_Mc_move 207 = .ok (.invokevirtual 145, 3) := by decide +kernel
theorem kd_Mc_move_210 : decode kc_Mc_move 210 = .ok (.goto 33, 3) := by decide +kernel
theorem kd_Mc_move_213 : decode kc_Mc_move 213 = .ok (.aload_n 0, 1) := by decide +kernel
theorem kd_Mc_move_214 : decode kc_Mc_move 214 = .ok (.iload_n 2, 1) := by decide +kernel
theorem kd_Mc_move_215 : decode kc_Mc_move 215 = .ok (.aload_n 0, 1) := by decide +kernel
theorem kd_Mc_move_216 : decode kc_Mc_move 216 = .ok (.getfield 172, 3) := by decide +kernel
theorem kd_Mc_move_219 : decode kc_Mc_move 219 = .ok (.aload_n 0, 1) := by decide +kernel
theorem kd_Mc_move_220 : decode kc_Mc_move 220 = .ok (.getfield 9, 3) := by decide +kernel
theorem kd_Mc_move_223 : decode kc_Mc_move 223 = .ok (.getfield 196, 3) := by decide +kernel
theorem kd_Mc_move_226 : decode kc_Mc_move 226 = .ok (.iload_n 1, 1) := by decide +kernel
theorem kd_Mc_move_227 : decode kc_Mc_move 227 = .ok (.iaload, 1) := by decide +kernel
theorem kd_Mc_move_228 : decode kc_Mc_move 228 = .ok (.iadd, 1) := by decide +kernel
theorem kd_Mc_move_229 : decode kc_Mc_move 229 = .ok (.invokevirtual 217, 3) := by decide +kernel
theorem kd_Mc_move_232 : decode kc_Mc_move 232 = .ok (.goto 11, 3) := by decide +kernel
theorem kd_Mc_move_235 : decode kc_Mc_move 235 = .ok (.aload_n 0, 1) := by decide +kernel
theorem kd_Mc_move_236 : decode kc_Mc_move 236 = .ok (.aload_n 0, 1) := by decide +kernel
theorem kd_Mc_move_237 : decode kc_Mc_move 237 = .ok (.getfield 152, 3) := by decide +kernel
theorem kd_Mc_move_240 : decode kc_Mc_move 240 = .ok (.putfield 149, 3) := by decide +kernel
theorem kd_Mc_move_243 : decode kc_Mc_move 243 = .ok (.iconst 0, 1) := by decide +kernel
theorem kd_Mc_move_244 : decode kc_Mc_move 244 = .ok (.ireturn, 1) := by decide +kernel
theorem kd_Mc_publish_0 : decode kc_Mc_publish 0 = .ok (.getstatic 126, 3) := by decide +kernel
theorem kd_Mc_publish_3 : decode kc_Mc_publish 3 = .ok (.iconst 1, 1) := by decide +kernel
theorem kd_Mc_publish_4 : decode kc_Mc_publish 4 = .ok (.iaload, 1) := by decide +kernel
theorem kd_Mc_publish_5 : decode kc_Mc_publish 5 = .ok (.istore_n 2, 1) := by decide +kernel
theorem kd_Mc_publish_6 : decode kc_Mc_publish 6 = .ok (.iload_n 2, 1) := by decide +kernel
theorem kd_Mc_publish_7 : decode kc_Mc_publish 7 = .ok (.getstatic 126, 3) := by decide +kernel
theorem kd_Mc_publish_10 : decode kc_Mc_publish 10 = .ok (.iconst 2, 1) := by decide +kernel
theorem kd_Mc_publish_11 : decode kc_Mc_publish 11 = .ok (.iaload, 1) := by decide +kernel
theorem kd_Mc_publish_12 : decode kc_Mc_publish 12 = .ok (.if_icmp .ge 18, 3) := by decide +kernel
theorem kd_Mc_publish_15 : decode kc_Mc_publish 15 = .ok (.aload_n 0, 1) := by decide +kernel
theorem kd_Mc_publish_16 : decode kc_Mc_publish 16 = .ok (.getfield 23, 3) := by decide +kernel
theorem kd_Mc_publish_19 : decode kc_Mc_publish 19 = .ok (.iload_n 2, 1) := by decide +kernel
theorem kd_Mc_publish_20 : decode kc_Mc_publish 20 = .ok (.aload_n 1, 1) := by decide +kernel
theorem kd_Mc_publish_21 : decode kc_Mc_publish 21 = .ok (.iload_n 2, 1) := by decide +kernel
theorem kd_Mc_publish_22 : decode kc_Mc_publish 22 = .ok (.iaload, 1) := by decide +kernel
theorem kd_Mc_publish_23 : decode kc_Mc_publish 23 = .ok (.iastore, 1) := by decide +kernel
theorem kd_Mc_publish_24 : decode kc_Mc_publish 24 = .ok (.iinc 2 1, 3) := by decide +kernel
theorem kd_Mc_publish_27 : decode kc_Mc_publish 27 = .ok (.goto (-21), 3) := by decide +kernel
theorem kd_Mc_publish_30 : decode kc_Mc_publish 30 = .ok (.getstatic 126, 3) := by decide +kernel
theorem kd_Mc_publish_33 : decode kc_Mc_publish 33 = .ok (.iconst 4, 1) := by decide +kernel
theorem kd_Mc_publish_34 : decode kc_Mc_publish 34 = .ok (.iaload, 1) := by decide +kernel
theorem kd_Mc_publish_35 : decode kc_Mc_publish 35 = .ok (.istore_n 2, 1) := by decide +kernel
theorem kd_Mc_publish_36 : decode kc_Mc_publish 36 = .ok (.iload_n 2, 1) := by decide +kernel
theorem kd_Mc_publish_37 : decode kc_Mc_publish 37 = .ok (.getstatic 126, 3) := by decide +kernel
theorem kd_Mc_publish_40 : decode kc_Mc_publish 40 = .ok (.iconst 5, 1) := by decide +kernel
theorem kd_Mc_publish_41 : decode kc_Mc_publish 41 = .ok (.iaload, 1) := by decide +kernel
theorem kd_Mc_publish_42 : decode kc_Mc_publish 42 = .ok (.if_icmp .ge 18, 3) := by decide +kernel
theorem kd_Mc_publish_45 : decode kc_Mc_publish 45 = .ok (.aload_n 0, 1) := by decide +kernel
theorem kd_Mc_publish_46 : decode kc_Mc_publish 46 = .ok (.getfield 23, 3) := by decide +kernel
theorem kd_Mc_publish_49 : decode kc_Mc_publish 49 = .ok (.iload_n 2, 1) := by decide +kernel
theorem kd_Mc_publish_50 : decode kc_Mc_publish 50 = .ok (.aload_n 1, 1) := by decide +kernel
theorem kd_Mc_publish_51 : decode kc_Mc_publish 51 = .ok (.iload_n 2, 1) := by decide +kernel
theorem kd_Mc_publish_52 : decode kc_Mc_publish 52 = .ok (.iaload, 1) := by decide +kernel
theorem kd_Mc_publish_53 : decode kc_Mc_publish 53 = .ok (.iastore, 1) := by decide +kernel
theorem kd_Mc_publish_54 : decode kc_Mc_publish 54 = .ok (.iinc 2 1, 3) := by decide +kernel
theorem kd_Mc_publish_57 : decode kc_Mc_publish 57 = .ok (.goto (-21), 3) := by decide +kernel
theorem kd_Mc_publish_60 : decode kc_Mc_publish 60 = .ok (.return_, 1) := by decide +kernel
theorem kd_Mc_run_0 : decode kc_Mc_run 0 = .ok (.aload_n 0, 1) := by decide +kernel
theorem kd_Mc_run_1 : decode kc_Mc_run 1 = .ok (.iconst 0, 1) := by decide +kernel
theorem kd_Mc_run_2 : decode kc_Mc_run 2 = .ok (.putfield 52, 3) := by decide +kernel
theorem kd_Mc_run_5 : decode kc_Mc_run 5 = .ok (.aload_n 0, 1) := by decide +kernel
theorem kd_Mc_run_6 : decode kc_Mc_run 6 = .ok (.iconst 0, 1) := by decide +kernel
theorem kd_Mc_run_7 : decode kc_Mc_run 7 = .ok (.putfield 139, 3) := by decide +kernel
theorem kd_Mc_run_10 : decode kc_Mc_run 10 = .ok (.aload_n 0, 1) := by decide +kernel
theorem kd_Mc_run_11 : decode kc_Mc_run 11 = .ok (.iconst 0, 1) := by decide +kernel
theorem kd_Mc_run_12 : decode kc_Mc_run 12 = .ok (.putfield 142, 3) := by decide +kernel
theorem kd_Mc_run_15 : decode kc_Mc_run 15 = .ok (.aload_n 0, 1) := by decide +kernel
theorem kd_Mc_run_16 : decode kc_Mc_run 16 = .ok (.iload_n 1, 1) := by decide +kernel
theorem kd_Mc_run_17 : decode kc_Mc_run 17 = .ok (.iconst 0, 1) := by decide +kernel
theorem kd_Mc_run_18 : decode kc_Mc_run 18 = .ok (.invokevirtual 145, 3) := by decide +kernel
theorem kd_Mc_run_21 : decode kc_Mc_run 21 = .ok (.iconst 0, 1) := by decide +kernel
theorem kd_Mc_run_22 : decode kc_Mc_run 22 = .ok (.istore_n 2, 1) := by decide +kernel
theorem kd_Mc_run_23 : decode kc_Mc_run 23 = .ok (.iconst 0, 1) := by decide +kernel
theorem kd_Mc_run_24 : decode kc_Mc_run 24 = .ok (.istore_n 3, 1) := by decide +kernel
theorem kd_Mc_run_25 : decode kc_Mc_run 25 = .ok (.iload_n 3, 1) := by decide +kernel
theorem kd_Mc_run_26 : decode kc_Mc_run 26 = .ok (.ldc 148, 2) := by decide +kernel
theorem kd_Mc_run_28 : decode kc_Mc_run 28 = .ok (.if_icmp .ge 95, 3) := by decide +kernel
theorem kd_Mc_run_31 : decode kc_Mc_run 31 = .ok (.aload_n 0, 1) := by decide +kernel
theorem kd_Mc_run_32 : decode kc_Mc_run 32 = .ok (.getfield 142, 3) := by decide +kernel
theorem kd_Mc_run_35 : decode kc_Mc_run 35 = .ok (.ifCond .le 88, 3) := by decide +kernel
theorem kd_Mc_run_38 : decode kc_Mc_run 38 = .ok (.iload_n 2, 1) := by decide +kernel
theorem kd_Mc_run_39 : decode kc_Mc_run 39 = .ok (.ifCond .ne 84, 3) := by decide +kernel
theorem kd_Mc_run_42 : decode kc_Mc_run 42 = .ok (.aload_n 0, 1) := by decide +kernel
theorem kd_Mc_run_43 : decode kc_Mc_run 43 = .ok (.getfield 149, 3) := by decide +kernel
theorem kd_Mc_run_46 : decode kc_Mc_run 46 = .ok (.aload_n 0, 1) := by decide +kernel
theorem kd_Mc_run_47 : decode kc_Mc_run 47 = .ok (.getfield 152, 3) := by decide +kernel
theorem kd_Mc_run_50 : decode kc_Mc_run 50 = .ok (.if_icmp .lt 10, 3) := by decide +kernel
theorem kd_Mc_run_53 : decode kc_Mc_run 53 = .ok (.aload_n 0, 1) := by decide +kernel
theorem kd_Mc_run_54 : decode kc_Mc_run 54 = .ok (.invokevirtual 154, 3) := by decide +kernel
theorem kd_Mc_run_57 : decode kc_Mc_run 57 = .ok (.goto 60, 3) := by decide +kernel
theorem kd_Mc_run_60 : decode kc_Mc_run 60 = .ok (.aload_n 0, 1) := by decide +kernel
theorem kd_Mc_run_61 : decode kc_Mc_run 61 = .ok (.getfield 149, 3) := by decide +kernel
theorem kd_Mc_run_64 : decode kc_Mc_run 64 = .ok (.istore 4, 2) := by decide +kernel
theorem kd_Mc_run_66 : decode kc_Mc_run 66 = .ok (.aload_n 0, 1) := by decide +kernel
theorem kd_Mc_run_67 : decode kc_Mc_run 67 = .ok (.dup, 1) := by decide +kernel
theorem kd_Mc_run_68 : decode kc_Mc_run 68 = .ok (.getfield 149, 3) := by decide +kernel
theorem kd_Mc_run_71 : decode kc_Mc_run 71 = .ok (.iconst 1, 1) := by decide +kernel
theorem kd_Mc_run_72 : decode kc_Mc_run 72 = .ok (.iadd, 1) := by decide +kernel
theorem kd_Mc_run_73 : decode kc_Mc_run 73 = .ok (.putfield 149, 3) := by decide +kernel
theorem kd_Mc_run_76 : decode kc_Mc_run 76 = .ok (.aload_n 0, 1) := by decide +kernel
theorem kd_Mc_run_77 : decode kc_Mc_run 77 = .ok (.dup, 1) := by decide +kernel
theorem kd_Mc_run_78 : decode kc_Mc_run 78 = .ok (.getfield 52, 3) := by decide +kernel
theorem kd_Mc_run_81 : decode kc_Mc_run 81 = .ok (.iconst 1, 1) := by decide +kernel
theorem kd_Mc_run_82 : decode kc_Mc_run 82 = .ok (.iadd, 1) := by decide +kernel
theorem kd_Mc_run_83 : decode kc_Mc_run 83 = .ok (.putfield 52, 3) := by decide +kernel
theorem kd_Mc_run_86 : decode kc_Mc_run 86 = .ok (.aload_n 0, 1) := by decide +kernel
theorem kd_Mc_run_87 : decode kc_Mc_run 87 = .ok (.getfield 9, 3) := by decide +kernel
theorem kd_Mc_run_90 : decode kc_Mc_run 90 = .ok (.getfield 157, 3) := by decide +kernel
theorem kd_Mc_run_93 : decode kc_Mc_run 93 = .ok (.iload 4, 2) := by decide +kernel
theorem kd_Mc_run_95 : decode kc_Mc_run 95 = .ok (.baload, 1) := by decide +kernel
theorem kd_Mc_run_96 : decode kc_Mc_run 96 = .ok (.bipush 10, 2) := by decide +kernel
theorem kd_Mc_run_98 : decode kc_Mc_run 98 = .ok (.if_icmp .ge 12, 3) := by decide +kernel
theorem kd_Mc_run_101 : decode kc_Mc_run 101 = .ok (.aload_n 0, 1) := by decide +kernel
theorem kd_Mc_run_102 : decode kc_Mc_run 102 = .ok (.iload 4, 2) := by decide +kernel
theorem kd_Mc_run_104 : decode kc_Mc_run 104 = .ok (.invokevirtual 163, 3) := by decide +kernel
theorem kd_Mc_run_107 : decode kc_Mc_run 107 = .ok (.goto 9, 3) := by decide +kernel
theorem kd_Mc_run_110 : decode kc_Mc_run 110 = .ok (.aload_n 0, 1) := by decide +kernel
theorem kd_Mc_run_111 : decode kc_Mc_run 111 = .ok (.iload 4, 2) := by decide +kernel
theorem kd_Mc_run_113 : decode kc_Mc_run 113 = .ok (.invokevirtual 166, 3) := by decide +kernel
theorem kd_Mc_run_116 : decode kc_Mc_run 116 = .ok (.istore_n 2, 1) := by decide +kernel
theorem kd_Mc_run_117 : decode kc_Mc_run 117 = .ok (.iinc 3 1, 3) := by decide +kernel
theorem kd_Mc_run_120 : decode kc_Mc_run 120 = .ok (.goto (-95), 3) := by decide +kernel
theorem kd_Mc_run_123 : decode kc_Mc_run 123 = .ok (.iload_n 2, 1) := by decide +kernel
theorem kd_Mc_run_124 : decode kc_Mc_run 124 = .ok (.ireturn, 1) := by decide +kernel
theorem kd_Mc_runStandard_0 : decode kc_Mc_runStandard 0 = .ok (.aload_n 0, 1) := by decide +kernel
theorem kd_Mc_runStandard_1 : decode kc_Mc_runStandard 1 = .ok (.iload_n 2, 1) := by decide +kernel
theorem kd_Mc_runStandard_2 : decode kc_Mc_runStandard 2 = .ok (.invokevirtual 185, 3) := by decide +kernel
theorem kd_Mc_runStandard_5 : decode kc_Mc_runStandard 5 = .ok (.ifCond .eq 7, 3) := by decide +kernel
theorem kd_Mc_runStandard_8 : decode kc_Mc_runStandard 8 = .ok (.iconst 1, 1) := by decide +kernel
theorem kd_Mc_runStandard_9 : decode kc_Mc_runStandard 9 = .ok (.goto 4, 3) := by decide +kernel
theorem kd_Mc_runStandard_12 : decode kc_Mc_runStandard 12 = .ok (.iconst 0, 1) := by decide +kernel
theorem kd_Mc_runStandard_13 : decode kc_Mc_runStandard 13 = .ok (.istore_n 3, 1) := by decide +kernel
theorem kd_Mc_runStandard_14 : decode kc_Mc_runStandard 14 = .ok (.aload_n 0, 1) := by decide +kernel
theorem kd_Mc_runStandard_15 : decode kc_Mc_runStandard 15 = .ok (.iload_n 2, 1) := by decide +kernel
theorem kd_Mc_runStandard_16 : decode kc_Mc_runStandard 16 = .ok (.iconst 1, 1) := by decide +kernel
theorem kd_Mc_runStandard_17 : decode kc_Mc_runStandard 17 = .ok (.iadd, 1) := by decide +kernel
theorem kd_Mc_runStandard_18 : decode kc_Mc_runStandard 18 = .ok (.invokevirtual 185, 3) := by decide +kernel
theorem kd_Mc_runStandard_21 : decode kc_Mc_runStandard 21 = .ok (.ifCond .eq 7, 3) := by decide +kernel
theorem kd_Mc_runStandard_24 : decode kc_Mc_runStandard 24 = .ok (.iconst 1, 1) := by decide +kernel
theorem kd_Mc_runStandard_25 : decode kc_Mc_runStandard 25 = .ok (.goto 4, 3) := by decide +kernel
theorem kd_Mc_runStandard_28 : decode kc_Mc_runStandard 28 = .ok (.iconst 0, 1) := by decide +kernel
theorem kd_Mc_runStandard_29 : decode kc_Mc_runStandard 29 = .ok (.istore 4, 2) := by decide +kernel
theorem kd_Mc_runStandard_31 : decode kc_Mc_runStandard 31 = .ok (.iload_n 1, 1) := by decide +kernel
theorem kd_Mc_runStandard_32 : decode kc_Mc_runStandard 32 = .ok (.iconst 2, 1) := by decide +kernel
theorem kd_Mc_runStandard_33 : decode kc_Mc_runStandard 33 = .ok (.if_icmp .gt 13, 3) := by decide +kernel
theorem kd_Mc_runStandard_36 : decode kc_Mc_runStandard 36 = .ok (.aload_n 0, 1) := by decide +kernel
theorem kd_Mc_runStandard_37 : decode kc_Mc_runStandard 37 = .ok (.iload_n 1, 1) := by decide +kernel
theorem kd_Mc_runStandard_38 : decode kc_Mc_runStandard 38 = .ok (.iload_n 2, 1) := by decide +kernel
theorem kd_Mc_runStandard_39 : decode kc_Mc_runStandard 39 = .ok (.iload_n 3, 1) := by decide +kernel
theorem kd_Mc_runStandard_40 : decode kc_Mc_runStandard 40 = .ok (.invokevirtual 220, 3) := by decide +kernel
theorem kd_Mc_runStandard_43 : decode kc_Mc_runStandard 43 = .ok (.goto 200, 3) := by decide +kernel
theorem kd_Mc_runStandard_46 : decode kc_Mc_runStandard 46 = .ok (.iload_n 1, 1) := by decide +kernel
theorem kd_Mc_runStandard_47 : decode kc_Mc_runStandard 47 = .ok (.iconst 4, 1) := by decide +kernel
theorem kd_Mc_runStandard_48 : decode kc_Mc_runStandard 48 = .ok (.if_icmp .gt 15, 3) := by decide +kernel
theorem kd_Mc_runStandard_51 : decode kc_Mc_runStandard 51 = .ok (.aload_n 0, 1) := by decide +kernel
theorem kd_Mc_runStandard_52 : decode kc_Mc_runStandard 52 = .ok (.iload_n 1, 1) := by decide +kernel
theorem kd_Mc_runStandard_53 : decode kc_Mc_runStandard 53 = .ok (.iload_n 2, 1) := by decide +kernel
theorem kd_Mc_runStandard_54 : decode kc_Mc_runStandard 54 = .ok (.iload_n 3, 1) := by decide +kernel
theorem kd_Mc_runStandard_55 : decode kc_Mc_runStandard 55 = .ok (.iload 4, 2) := by decide +kernel
theorem kd_Mc_runStandard_57 : decode kc_Mc_runStandard 57 = .ok (.invokevirtual 224, 3) := by decide +kernel
theorem kd_Mc_runStandard_60 : decode kc_Mc_runStandard 60 = .ok (.goto 183, 3) := by decide +kernel
theorem kd_Mc_runStandard_63 : decode kc_Mc_runStandard 63 = .ok (.iload_n 1, 1) := by decide +kernel
theorem kd_Mc_runStandard_64 : decode kc_Mc_runStandard 64 = .ok (.bipush 6, 2) := by decide +kernel
theorem kd_Mc_runStandard_66 : decode kc_Mc_runStandard 66 = .ok (.if_icmp .gt 94, 3) := by decide +kernel
theorem kd_Mc_runStandard_69 : decode kc_Mc_runStandard 69 = .ok (.aload_n 0, 1) := by decide +kernel
theorem kd_Mc_runStandard_70 : decode kc_Mc_runStandard 70 = .ok (.iload_n 2, 1) := by decide +kernel
theorem kd_Mc_runStandard_71 : decode kc_Mc_runStandard 71 = .ok (.iconst 2, 1) := by decide +kernel
theorem kd_Mc_runStandard_72 : decode kc_Mc_runStandard 72 = .ok (.iadd, 1) := by decide +kernel
theorem kd_Mc_runStandard_73 : decode kc_Mc_runStandard 73 = .ok (.invokevirtual 185, 3) := by decide +kernel
theorem kd_Mc_runStandard_76 : decode kc_Mc_runStandard 76 = .ok (.ifCond .eq 7, 3) := by decide +kernel
theorem kd_Mc_runStandard_79 : decode kc_Mc_runStandard 79 = .ok (.iconst 1, 1) := by decide +kernel
theorem kd_Mc_runStandard_80 : decode kc_Mc_runStandard 80 = .ok (.goto 4, 3) := by decide +kernel
theorem kd_Mc_runStandard_83 : decode kc_Mc_runStandard 83 = .ok (.iconst 0, 1) := by decide +kernel
theorem kd_Mc_runStandard_84 : decode kc_Mc_runStandard 84 = .ok (.istore 5, 2) := by decide +kernel
theorem kd_Mc_runStandard_86 : decode kc_Mc_runStandard 86 = .ok (.iload_n 1, 1) := by decide +kernel
theorem kd_Mc_runStandard_87 : decode kc_Mc_runStandard 87 = .ok (.iconst 5, 1) := by decide +kernel
theorem kd_Mc_runStandard_88 : decode kc_Mc_runStandard 88 = .ok (.if_icmp .ne 20, 3) := by decide +kernel
theorem kd_Mc_runStandard_91 : decode kc_Mc_runStandard 91 = .ok (.iload_n 3, 1) := by decide +kernel
theorem kd_Mc_runStandard_92 : decode kc_Mc_runStandard 92 = .ok (.ifCond .eq 12, 3) := by decide +kernel
theorem kd_Mc_runStandard_95 : decode kc_Mc_runStandard 95 = .ok (.iload 5, 2) := by decide +kernel
theorem kd_Mc_runStandard_97 : decode kc_Mc_runStandard 97 = .ok (.ifCond .ne 7, 3) := by decide +kernel
theorem kd_Mc_runStandard_100 : decode kc_Mc_runStandard 100 = .ok (.iconst 1, 1) := by decide +kernel
theorem kd_Mc_runStandard_101 : decode kc_Mc_runStandard 101 = .ok (.goto 21, 3) := by decide +kernel
theorem kd_Mc_runStandard_104 : decode kc_Mc_runStandard 104 = .ok (.iconst 0, 1) := by decide +kernel
theorem kd_Mc_runStandard_105 : decode kc_Mc_runStandard 105 = .ok (.goto 17, 3) := by decide +kernel
theorem kd_Mc_runStandard_108 : decode kc_Mc_runStandard 108 = .ok (.iload_n 3, 1) := by decide +kernel
theorem kd_Mc_runStandard_109 : decode kc_Mc_runStandard 109 = .ok (.ifCond .ne 12, 3) := by decide +kernel
theorem kd_Mc_runStandard_112 : decode kc_Mc_runStandard 112 = .ok (.iload 5, 2) := by decide +kernel
theorem kd_Mc_runStandard_114 : decode kc_Mc_runStandard 114 = .ok (.ifCond .eq 7, 3) := by decide +kernel
theorem kd_Mc_runStandard_117 : decode kc_Mc_runStandard 117 = .ok (.iconst 1, 1) := by decide +kernel
theorem kd_Mc_runStandard_118 : decode kc_Mc_runStandard 118 = .ok (.goto 4, 3) := by decide +kernel
theorem kd_Mc_runStandard_121 : decode kc_Mc_runStandard 121 = .ok (.iconst 0, 1) := by decide +kernel
theorem kd_Mc_runStandard_122 : decode kc_Mc_runStandard 122 = .ok (.istore 6, 2) := by decide +kernel
theorem kd_Mc_runStandard_124 : decode kc_Mc_runStandard 124 = .ok (.aload_n 0, 1) := by decide +kernel
theorem kd_Mc_runStandard_125 : decode kc_Mc_runStandard 125 = .ok (.iload_n 2, 1) := by decide +kernel
theorem kd_Mc_runStandard_126 : decode kc_Mc_runStandard 126 = .ok (.iconst 1, 1) := by decide +kernel
theorem kd_Mc_runStandard_127 : decode kc_Mc_runStandard 127 = .ok (.iadd, 1) := by decide +kernel
theorem kd_Mc_runStandard_128 : decode kc_Mc_runStandard 128 = .ok (.iload 6, 2) := by decide +kernel
theorem kd_Mc_runStandard_130 : decode kc_Mc_runStandard 130 = .ok (.ifCond .eq 7, 3) := by decide +kernel
theorem kd_Mc_runStandard_133 : decode kc_Mc_runStandard 133 = .ok (.iconst 1, 1) := by decide +kernel
theorem kd_Mc_runStandard_134 : decode kc_Mc_runStandard 134 = .ok (.goto 4, 3) := by decide +kernel
theorem kd_Mc_runStandard_137 : decode kc_Mc_runStandard 137 = .ok (.iconst 0, 1) := by decide +kernel
theorem kd_Mc_runStandard_138 : decode kc_Mc_runStandard 138 = .ok (.invokevirtual 115, 3) := by decide +kernel
theorem kd_Mc_runStandard_141 : decode kc_Mc_runStandard 141 = .ok (.aload_n 0, 1) := by decide +kernel
theorem kd_Mc_runStandard_142 : decode kc_Mc_runStandard 142 = .ok (.iload_n 2, 1) := by decide +kernel
theorem kd_Mc_runStandard_143 : decode kc_Mc_runStandard 143 = .ok (.iconst 2, 1) := by decide +kernel
theorem kd_Mc_runStandard_144 : decode kc_Mc_runStandard 144 = .ok (.iadd, 1) := by decide +kernel
theorem kd_Mc_runStandard_145 : decode kc_Mc_runStandard 145 = .ok (.iload_n 3, 1) := by decide +kernel
theorem kd_Mc_runStandard_146 : decode kc_Mc_runStandard 146 = .ok (.ifCond .eq 7, 3) := by decide +kernel
theorem kd_Mc_runStandard_149 : decode kc_Mc_runStandard 149 = .ok (.iconst 1, 1) := by decide +kernel
theorem kd_Mc_runStandard_150 : decode kc_Mc_runStandard 150 = .ok (.goto 4, 3) := by decide +kernel
theorem kd_Mc_runStandard_153 : decode kc_Mc_runStandard 153 = .ok (.iconst 0, 1) := by decide +kernel
theorem kd_Mc_runStandard_154 : decode kc_Mc_runStandard 154 = .ok (.invokevirtual 115, 3) := by decide +kernel
theorem kd_Mc_runStandard_157 : decode kc_Mc_runStandard 157 = .ok (.goto 86, 3) := by decide +kernel
theorem kd_Mc_runStandard_160 : decode kc_Mc_runStandard 160 = .ok (.aload_n 0, 1) := by decide +kernel
theorem kd_Mc_runStandard_161 : decode kc_Mc_runStandard 161 = .ok (.iload_n 2, 1) := by decide +kernel
theorem kd_Mc_runStandard_162 : decode kc_Mc_runStandard 162 = .ok (.iconst 2, 1) := by decide +kernel
theorem kd_Mc_runStandard_163 : decode kc_Mc_runStandard 163 = .ok (.iadd, 1) := by decide +kernel
theorem kd_Mc_runStandard_164 : decode kc_Mc_runStandard 164 = .ok (.invokevirtual 185, 3) := by decide +kernel
theorem kd_Mc_runStandard_167 : decode kc_Mc_runStandard 167 = .ok (.ifCond .eq 7, 3) := by decide +kernel
theorem kd_Mc_runStandard_170 : decode kc_Mc_runStandard 170 = .ok (.iconst 1, 1) := by decide +kernel
theorem kd_Mc_runStandard_171 : decode kc_Mc_runStandard 171 = .ok (.goto 4, 3) := by decide +kernel
theorem kd_Mc_runStandard_174 : decode kc_Mc_runStandard 174 = .ok (.iconst 0, 1) := by decide +kernel
theorem kd_Mc_runStandard_175 : decode kc_Mc_runStandard 175 = .ok (.istore 5, 2) := by decide +kernel
theorem kd_Mc_runStandard_177 : decode kc_Mc_runStandard 177 = .ok (.iload_n 1, 1) := by decide +kernel
theorem kd_Mc_runStandard_178 : decode kc_Mc_runStandard 178 = .ok (.bipush 7, 2) := by decide +kernel
theorem kd_Mc_runStandard_180 : decode kc_Mc_runStandard 180 = .ok (.if_icmp .ne 25, 3) := by decide +kernel
theorem kd_Mc_runStandard_183 : decode kc_Mc_runStandard 183 = .ok (.iload_n 3, 1) := by decide +kernel
theorem kd_Mc_runStandard_184 : decode kc_Mc_runStandard 184 = .ok (.ifCond .ne 13, 3) := by decide +kernel
theorem kd_Mc_runStandard_187 : decode kc_Mc_runStandard 187 = .ok (.iload 4, 2) := by decide +kernel
theorem kd_Mc_runStandard_189 : decode kc_Mc_runStandard 189 = .ok (.ifCond .ne 12, 3) := by decide +kernel
theorem kd_Mc_runStandard_192 : decode kc_Mc_runStandard 192 = .ok (.iload 5, 2) := by decide +kernel
theorem kd_Mc_runStandard_194 : decode kc_Mc_runStandard 194 = .ok (.ifCond .eq 7, 3) := by decide +kernel
theorem kd_Mc_runStandard_197 : decode kc_Mc_runStandard 197 = .ok (.iconst 1, 1) := by decide +kernel
theorem kd_Mc_runStandard_198 : decode kc_Mc_runStandard 198 = .ok (.goto 26, 3) := by decide +kernel
theorem kd_Mc_runStandard_201 : decode kc_Mc_runStandard 201 = .ok (.iconst 0, 1) := by decide +kernel
theorem kd_Mc_runStandard_202 : decode kc_Mc_runStandard 202 = .ok (.goto 22, 3) := by decide +kernel
theorem kd_Mc_runStandard_205 : decode kc_Mc_runStandard 205 = .ok (.iload 4, 2) := by decide +kernel
theorem kd_Mc_runStandard_207 : decode kc_Mc_runStandard 207 = .ok (.ifCond .ne 16, 3) := by decide +kernel
theorem kd_Mc_runStandard_210 : decode kc_Mc_runStandard 210 = .ok (.iload_n 3, 1) := by decide +kernel
theorem kd_Mc_runStandard_211 : decode kc_Mc_runStandard 211 = .ok (.ifCond .ne 8, 3) := by decide +kernel
theorem kd_Mc_runStandard_214 : decode kc_Mc_runStandard 214 = .ok (.iload 5, 2) := by decide +kernel
theorem kd_Mc_runStandard_216 : decode kc_Mc_runStandard 216 = .ok (.ifCond .eq 7, 3) := by decide +kernel
theorem kd_Mc_runStandard_219 : decode kc_Mc_runStandard 219 = .ok (.iconst 1, 1) := by decide +kernel
theorem kd_Mc_runStandard_220 : decode kc_Mc_runStandard 220 = .ok (.goto 4, 3) := by decide +kernel
theorem kd_Mc_runStandard_223 : decode kc_Mc_runStandard 223 = .ok (.iconst 0, 1) := by decide +kernel
theorem kd_Mc_runStandard_224 : decode kc_Mc_runStandard 224 = .ok (.istore 6, 2) := by decide +kernel
theorem kd_Mc_runStandard_226 : decode kc_Mc_runStandard 226 = .ok (.aload_n 0, 1) := by decide +kernel
theorem kd_Mc_runStandard_227 : decode kc_Mc_runStandard 227 = .ok (.iload_n 2, 1) := by decide +kernel
theorem kd_Mc_runStandard_228 : decode kc_Mc_runStandard 228 = .ok (.iconst 2, 1) := by decide +kernel
theorem kd_Mc_runStandard_229 : decode kc_Mc_runStandard 229 = .ok (.iadd, 1) := by decide +kernel
theorem kd_Mc_runStandard_230 : decode kc_Mc_runStandard 230 = .ok (.iload 6, 2) := by decide +kernel
theorem kd_Mc_runStandard_232 : decode kc_Mc_runStandard 232 = .ok (.ifCond .eq 7, 3) := by decide +kernel
theorem kd_Mc_runStandard_235 : decode kc_Mc_runStandard 235 = .ok (.iconst 1, 1) := by decide +kernel
theorem kd_Mc_runStandard_236 : decode kc_Mc_runStandard 236 = .ok (.goto 4, 3) := by decide +kernel
theorem kd_Mc_runStandard_239 : decode kc_Mc_runStandard 239 = .ok (.iconst 0, 1) := by decide +kernel
theorem kd_Mc_runStandard_240 : decode kc_Mc_runStandard 240 = .ok (.invokevirtual 115, 3) := by decide +kernel
theorem kd_Mc_runStandard_243 : decode kc_Mc_runStandard 243 = .ok (.return_, 1) := by decide +kernel
theorem kd_Mc_scanBy_0 : decode kc_Mc_scanBy 0 = .ok (.aload_n 0, 1) := by decide +kernel
theorem kd_Mc_scanBy_1 : decode kc_Mc_scanBy 1 = .ok (.dup, 1) := by decide +kernel
theorem kd_Mc_scanBy_2 : decode kc_Mc_scanBy 2 = .ok (.getfield 61, 3) := by decide +kernel
theorem kd_Mc_scanBy_5 : decode kc_Mc_scanBy 5 = .ok (.iload_n 1, 1) := by decide +kernel
theorem kd_Mc_scanBy_6 : decode kc_Mc_scanBy 6 = .ok (.iadd, 1) := by decide +kernel
theorem kd_Mc_scanBy_7 : decode kc_Mc_scanBy 7 = .ok (.putfield 61, 3) := by decide +kernel
theorem kd_Mc_scanBy_10 : decode kc_Mc_scanBy 10 = .ok (.aload_n 0, 1) := by decide +kernel
theorem kd_Mc_scanBy_11 : decode kc_Mc_scanBy 11 = .ok (.invokevirtual 129, 3) := by decide +kernel
theorem kd_Mc_scanBy_14 : decode kc_Mc_scanBy 14 = .ok (.aload_n 0, 1) := by decide +kernel
theorem kd_Mc_scanBy_15 : decode kc_Mc_scanBy 15 = .ok (.aload_n 0, 1) := by decide +kernel
theorem kd_Mc_scanBy_16 : decode kc_Mc_scanBy 16 = .ok (.getfield 15, 3) := by decide +kernel
theorem kd_Mc_scanBy_19 : decode kc_Mc_scanBy 19 = .ok (.getfield 132, 3) := by decide +kernel
theorem kd_Mc_scanBy_22 : decode kc_Mc_scanBy 22 = .ok (.bipush 9, 2) := by decide +kernel
theorem kd_Mc_scanBy_24 : decode kc_Mc_scanBy 24 = .ok (.isub, 1) := by decide +kernel
theorem kd_Mc_scanBy_25 : decode kc_Mc_scanBy 25 = .ok (.invokevirtual 135, 3) := by decide +kernel
theorem kd_Mc_scanBy_28 : decode kc_Mc_scanBy 28 = .ok (.istore_n 2, 1) := by decide +kernel
theorem kd_Mc_scanBy_29 : decode kc_Mc_scanBy 29 = .ok (.aload_n 0, 1) := by decide +kernel
theorem kd_Mc_scanBy_30 : decode kc_Mc_scanBy 30 = .ok (.dup, 1) := by decide +kernel
theorem kd_Mc_scanBy_31 : decode kc_Mc_scanBy 31 = .ok (.getfield 55, 3) := by decide +kernel
theorem kd_Mc_scanBy_34 : decode kc_Mc_scanBy 34 = .ok (.iconst 1, 1) := by decide +kernel
theorem kd_Mc_scanBy_35 : decode kc_Mc_scanBy 35 = .ok (.iadd, 1) := by decide +kernel
theorem kd_Mc_scanBy_36 : decode kc_Mc_scanBy 36 = .ok (.putfield 55, 3) := by decide +kernel
theorem kd_Mc_scanBy_39 : decode kc_Mc_scanBy 39 = .ok (.aload_n 0, 1) := by decide +kernel
theorem kd_Mc_scanBy_40 : decode kc_Mc_scanBy 40 = .ok (.dup, 1) := by decide +kernel
theorem kd_Mc_scanBy_41 : decode kc_Mc_scanBy 41 = .ok (.getfield 58, 3) := by decide +kernel
theorem kd_Mc_scanBy_44 : decode kc_Mc_scanBy 44 = .ok (.aload_n 0, 1) := by decide +kernel
theorem kd_Mc_scanBy_45 : decode kc_Mc_scanBy 45 = .ok (.getfield 52, 3) := by decide +kernel
theorem kd_Mc_scanBy_48 : decode kc_Mc_scanBy 48 = .ok (.aload_n 0, 1) := by decide +kernel
theorem kd_Mc_scanBy_49 : decode kc_Mc_scanBy 49 = .ok (.getfield 48, 3) := by decide +kernel
theorem kd_Mc_scanBy_52 : decode kc_Mc_scanBy 52 = .ok (.if_icmp .le 7, 3) := by decide +kernel
theorem kd_Mc_scanBy_55 : decode kc_Mc_scanBy 55 = .ok (.iconst 1, 1) := by decide +kernel
theorem kd_Mc_scanBy_56 : decode kc_Mc_scanBy 56 = .ok (.goto 4, 3) := by decide +kernel
theorem kd_Mc_scanBy_59 : decode kc_Mc_scanBy 59 = .ok (.iconst 0, 1) := by decide +kernel
theorem kd_Mc_scanBy_60 : decode kc_Mc_scanBy 60 = .ok (.iadd, 1) := by decide +kernel
theorem kd_Mc_scanBy_61 : decode kc_Mc_scanBy 61 = .ok (.putfield 58, 3) := by decide +kernel
theorem kd_Mc_scanBy_64 : decode kc_Mc_scanBy 64 = .ok (.aload_n 0, 1) := by decide +kernel
theorem kd_Mc_scanBy_65 : decode kc_Mc_scanBy 65 = .ok (.iload_n 2, 1) := by decide +kernel
theorem kd_Mc_scanBy_66 : decode kc_Mc_scanBy 66 = .ok (.ifCond .eq 7, 3) := by decide +kernel
theorem kd_Mc_scanBy_69 : decode kc_Mc_scanBy 69 = .ok (.iconst 1, 1) := by decide +kernel
theorem kd_Mc_scanBy_70 : decode kc_Mc_scanBy 70 = .ok (.goto 4, 3) := by decide +kernel
theorem kd_Mc_scanBy_73 : decode kc_Mc_scanBy 73 = .ok (.iconst 0, 1) := by decide +kernel
theorem kd_Mc_scanBy_74 : decode kc_Mc_scanBy 74 = .ok (.putfield 45, 3) := by decide +kernel
theorem kd_Mc_scanBy_77 : decode kc_Mc_scanBy 77 = .ok (.aload_n 0, 1) := by decide +kernel
theorem kd_Mc_scanBy_78 : decode kc_Mc_scanBy 78 = .ok (.aload_n 0, 1) := by decide +kernel
theorem kd_Mc_scanBy_79 : decode kc_Mc_scanBy 79 = .ok (.getfield 45, 3) := by decide +kernel
theorem kd_Mc_scanBy_82 : decode kc_Mc_scanBy 82 = .ok (.ifCond .eq 10, 3) := by decide +kernel
theorem kd_Mc_scanBy_85 : decode kc_Mc_scanBy 85 = .ok (.aload_n 0, 1) := by decide +kernel
theorem kd_Mc_scanBy_86 : decode kc_Mc_scanBy 86 = .ok (.getfield 26, 3) := by decide +kernel
theorem kd_Mc_scanBy_89 : decode kc_Mc_scanBy 89 = .ok (.goto 7, 3) := by decide +kernel
theorem kd_Mc_scanBy_92 : decode kc_Mc_scanBy 92 = .ok (.aload_n 0, 1) := by decide +kernel
theorem kd_Mc_scanBy_93 : decode kc_Mc_scanBy 93 = .ok (.getfield 29, 3) := by decide +kernel
theorem kd_Mc_scanBy_96 : decode kc_Mc_scanBy 96 = .ok (.invokevirtual 90, 3) := by decide +kernel
theorem kd_Mc_scanBy_99 : decode kc_Mc_scanBy 99 = .ok (.aload_n 0, 1) := by decide +kernel
theorem kd_Mc_scanBy_100 : decode kc_Mc_scanBy 100 = .ok (.getfield 45, 3) := by decide +kernel
theorem kd_Mc_scanBy_103 : decode kc_Mc_scanBy 103 = .ok (.ifCond .eq 7, 3) := by decide +kernel
theorem kd_Mc_scanBy_106 : decode kc_Mc_scanBy 106 = .ok (.iload_n 2, 1) := by decide +kernel
theorem kd_Mc_scanBy_107 : decode kc_Mc_scanBy 107 = .ok (.goto 7, 3) := by decide +kernel
theorem kd_Mc_scanBy_110 : decode kc_Mc_scanBy 110 = .ok (.aload_n 0, 1) := by decide +kernel
theorem kd_Mc_scanBy_111 : decode kc_Mc_scanBy 111 = .ok (.getfield 52, 3) := by decide +kernel
theorem kd_Mc_scanBy_114 : decode kc_Mc_scanBy 114 = .ok (.ireturn, 1) := by decide +kernel
theorem kd_Mc_setConstants_0 : decode kc_Mc_setConstants 0 = .ok (.iload_n 3, 1) := by decide +kernel
theorem kd_Mc_setConstants_1 : decode kc_Mc_setConstants 1 = .ok (.bipush 16, 2) := by decide +kernel
theorem kd_Mc_setConstants_3 : decode kc_Mc_setConstants 3 = .ok (.if_icmp .le 4, 3) := by decide +kernel
theorem kd_Mc_setConstants_6 : decode kc_Mc_setConstants 6 = .ok (.return_, 1) := by decide +kernel
theorem kd_Mc_setConstants_7 : decode kc_Mc_setConstants 7 = .ok (.aload_n 0, 1) := by decide +kernel
theorem kd_Mc_setConstants_8 : decode kc_Mc_setConstants 8 = .ok (.getfield 15, 3) := by decide +kernel
theorem kd_Mc_setConstants_11 : decode kc_Mc_setConstants 11 = .ok (.getfield 94, 3) := by decide +kernel
theorem kd_Mc_setConstants_14 : decode kc_Mc_setConstants 14 = .ok (.iload_n 1, 1) := by decide +kernel
theorem kd_Mc_setConstants_15 : decode kc_Mc_setConstants 15 = .ok (.iaload, 1) := by decide +kernel
theorem kd_Mc_setConstants_16 : decode kc_Mc_setConstants 16 = .ok (.istore 4, 2) := by decide +kernel
theorem kd_Mc_setConstants_18 : decode kc_Mc_setConstants 18 = .ok (.iload 4, 2) := by decide +kernel
theorem kd_Mc_setConstants_20 : decode kc_Mc_setConstants 20 = .ok (.aload_n 0, 1) := by decide +kernel
theorem kd_Mc_setConstants_21 : decode kc_Mc_setConstants 21 = .ok (.getfield 15, 3) := by decide +kernel
theorem kd_Mc_setConstants_24 : decode kc_Mc_setConstants 24 = .ok (.getfield 97, 3) := by decide +kernel
theorem kd_Mc_setConstants_27 : decode kc_Mc_setConstants 27 = .ok (.iload_n 1, 1) := by decide +kernel
theorem kd_Mc_setConstants_28 : decode kc_Mc_setConstants 28 = .ok (.iaload, 1) := by decide +kernel
theorem kd_Mc_setConstants_29 : decode kc_Mc_setConstants 29 = .ok (.if_icmp .ge 104, 3) := by decide +kernel
theorem kd_Mc_setConstants_32 : decode kc_Mc_setConstants 32 = .ok (.aload_n 0, 1) := by decide +kernel
theorem kd_Mc_setConstants_33 : decode kc_Mc_setConstants 33 = .ok (.getfield 15, 3) := by decide +kernel
theorem kd_Mc_setConstants_36 : decode kc_Mc_setConstants 36 = .ok (.getfield 100, 3) := by decide +kernel
theorem kd_Mc_setConstants_39 : decode kc_Mc_setConstants 39 = .ok (.iload 4, 2) := by decide +kernel
theorem kd_Mc_setConstants_41 : decode kc_Mc_setConstants 41 = .ok (.iaload, 1) := by decide +kernel
theorem kd_Mc_setConstants_42 : decode kc_Mc_setConstants 42 = .ok (.istore 5, 2) := by decide +kernel
theorem kd_Mc_setConstants_44 : decode kc_Mc_setConstants 44 = .ok (.iload_n 2, 1) := by decide +kernel
theorem kd_Mc_setConstants_45 : decode kc_Mc_setConstants 45 = .ok (.aload_n 0, 1) := by decide +kernel
theorem kd_Mc_setConstants_46 : decode kc_Mc_setConstants 46 = .ok (.getfield 15, 3) := by decide +kernel
theorem kd_Mc_setConstants_49 : decode kc_Mc_setConstants 49 = .ok (.getfield 103, 3) := by decide +kernel
theorem kd_Mc_setConstants_52 : decode kc_Mc_setConstants 52 = .ok (.iload 4, 2) := by decide +kernel
theorem kd_Mc_setConstants_54 : decode kc_Mc_setConstants 54 = .ok (.iaload, 1) := by decide +kernel
theorem kd_Mc_setConstants_55 : decode kc_Mc_setConstants 55 = .ok (.iadd, 1) := by decide +kernel
theorem kd_Mc_setConstants_56 : decode kc_Mc_setConstants 56 = .ok (.istore 6, 2) := by decide +kernel
theorem kd_Mc_setConstants_58 : decode kc_Mc_setConstants 58 = .ok (.iload 5, 2) := by decide +kernel
theorem kd_Mc_setConstants_60 : decode kc_Mc_setConstants 60 = .ok (.bipush 9, 2) := by decide +kernel
theorem kd_Mc_setConstants_62 : decode kc_Mc_setConstants 62 = .ok (.if_icmp .lt 17, 3) := by decide +kernel
theorem kd_Mc_setConstants_65 : decode kc_Mc_setConstants 65 = .ok (.aload_n 0, 1) := by decide +kernel
theorem kd_Mc_setConstants_66 : decode kc_Mc_setConstants 66 = .ok (.iload 5, 2) := by decide +kernel
theorem kd_Mc_setConstants_68 : decode kc_Mc_setConstants 68 = .ok (.iload 6, 2) := by decide +kernel
theorem kd_Mc_setConstants_70 : decode kc_Mc_setConstants 70 = .ok (.iload_n 3, 1) := by decide +kernel
theorem kd_Mc_setConstants_71 : decode kc_Mc_setConstants 71 = .ok (.iconst 1, 1) := by decide +kernel
theorem kd_Mc_setConstants_72 : decode kc_Mc_setConstants 72 = .ok (.iadd, 1) := by decide +kernel
theorem kd_Mc_setConstants_73 : decode kc_Mc_setConstants 73 = .ok (.invokevirtual 106, 3) := by decide +kernel
theorem kd_Mc_setConstants_76 : decode kc_Mc_setConstants 76 = .ok (.goto 51, 3) := by decide +kernel
theorem kd_Mc_setConstants_79 : decode kc_Mc_setConstants 79 = .ok (.iload 5, 2) := by decide +kernel
theorem kd_Mc_setConstants_81 : decode kc_Mc_setConstants 81 = .ok (.ifCond .ge 46, 3) := by decide +kernel
theorem kd_Mc_setConstants_84 : decode kc_Mc_setConstants 84 = .ok (.iconst 0, 1) := by decide +kernel
theorem kd_Mc_setConstants_85 : decode kc_Mc_setConstants 85 = .ok (.istore 7, 2) := by decide +kernel
theorem kd_Mc_setConstants_87 : decode kc_Mc_setConstants 87 = .ok (.iload 7, 2) := by decide +kernel
theorem kd_Mc_setConstants_89 : decode kc_Mc_setConstants 89 = .ok (.aload_n 0, 1) := by decide +kernel
theorem kd_Mc_setConstants_90 : decode kc_Mc_setConstants 90 = .ok (.getfield 15, 3) := by decide +kernel
theorem kd_Mc_setConstants_93 : decode kc_Mc_setConstants 93 = .ok (.getfield 109, 3) := by decide +kernel
theorem kd_Mc_setConstants_96 : decode kc_Mc_setConstants 96 = .ok (.iload 4, 2) := by decide +kernel
theorem kd_Mc_setConstants_98 : decode kc_Mc_setConstants 98 = .ok (.iaload, 1) := by decide +kernel
theorem kd_Mc_setConstants_99 : decode kc_Mc_setConstants 99 = .ok (.if_icmp .ge 28, 3) := by decide +kernel
theorem kd_Mc_setConstants_102 : decode kc_Mc_setConstants 102 = .ok (.aload_n 0, 1) := by decide +kernel
theorem kd_Mc_setConstants_103 : decode kc_Mc_setConstants 103 = .ok (.iload 6, 2) := by decide +kernel
theorem kd_Mc_setConstants_105 : decode kc_Mc_setConstants 105 = .ok (.iload 7, 2) := by decide +kernel
theorem kd_Mc_setConstants_107 : decode kc_Mc_setConstants 107 = .ok (.iadd, 1) := by decide +kernel
theorem kd_Mc_setConstants_108 : decode kc_Mc_setConstants 108 = .ok (.aload_n 0, 1) := by decide +kernel
theorem kd_Mc_setConstants_109 : decode kc_Mc_setConstants 109 = .ok (.getfield 15, 3) := by decide +kernel
theorem kd_Mc_setConstants_112 : decode kc_Mc_setConstants 112 = .ok (.getfield 112, 3) := by decide +kernel
theorem kd_Mc_setConstants_115 : decode kc_Mc_setConstants 115 = .ok (.iload 4, 2) := by decide +kernel
theorem kd_Mc_setConstants_117 : decode kc_Mc_setConstants 117 = .ok (.iaload, 1) := by decide +kernel
theorem kd_Mc_setConstants_118 : decode kc_Mc_setConstants 118 = .ok (.invokevirtual 115, 3) := by decide +kernel
theorem kd_Mc_setConstants_121 : decode kc_Mc_setConstants 121 = .ok (.iinc 7 1, 3) := by decide +kernel
theorem kd_Mc_setConstants_124 : decode kc_Mc_setConstants 124 = .ok (.goto (-37), 3) := by decide +kernel
theorem kd_Mc_setConstants_127 : decode kc_Mc_setConstants 127 = .ok (.iinc 4 1, 3) := by decide +kernel
theorem kd_Mc_setConstants_130 : decode kc_Mc_setConstants 130 = .ok (.goto (-112), 3) := by decide +kernel
theorem kd_Mc_setConstants_133 : decode kc_Mc_setConstants 133 = .ok (.return_, 1) := by decide +kernel
theorem kd_Pk_get_0 : decode kc_Pk_get 0 = .ok (.iload_n 1, 1) := by decide +kernel
theorem kd_Pk_get_1 : decode kc_Pk_get 1 = .ok (.iload_n 2, 1) := by decide +kernel
theorem kd_Pk_get_2 : decode kc_Pk_get 2 = .ok (.invokestatic 176, 3) := by decide +kernel
theorem kd_Pk_get_5 : decode kc_Pk_get 5 = .ok (.ifCond .ne 5, 3) := by decide +kernel
theorem kd_Pk_get_8 : decode kc_Pk_get 8 = .ok (.iconst (-1), 1) := by decide +kernel
theorem kd_Pk_get_9 : decode kc_Pk_get 9 = .ok (.ireturn, 1) := by decide +kernel
theorem kd_Pk_get_10 : decode kc_Pk_get 10 = .ok (.aload_n 0, 1) := by decide +kernel
theorem kd_Pk_get_11 : decode kc_Pk_get 11 = .ok (.getfield 95, 3) := by decide +kernel
theorem kd_Pk_get_14 : decode kc_Pk_get 14 = .ok (.getfield 169, 3) := by decide +kernel
theorem kd_Pk_get_17 : decode kc_Pk_get 17 = .ok (.ifCond .ne 15, 3) := by decide +kernel
theorem kd_Pk_get_20 : decode kc_Pk_get 20 = .ok (.iload_n 1, 1) := by decide +kernel
theorem kd_Pk_get_21 : decode kc_Pk_get 21 = .ok (.ifCond .eq 11, 3) := by decide +kernel
theorem kd_Pk_get_24 : decode kc_Pk_get 24 = .ok (.iload_n 1, 1) := by decide +kernel
theorem kd_Pk_get_25 : decode kc_Pk_get 25 = .ok (.iconst 3, 1) := by decide +kernel
theorem kd_Pk_get_26 : decode kc_Pk_get 26 = .ok (.if_icmp .eq 6, 3) := by decide +kernel
theorem kd_Pk_get_29 : decode kc_Pk_get 29 = .ok (.bipush (-5), 2) := by decide +kernel
theorem kd_Pk_get_31 : decode kc_Pk_get 31 = .ok (.ireturn, 1) := by decide +kernel
theorem kd_Pk_get_32 : decode kc_Pk_get 32 = .ok (.aload_n 0, 1) := by decide +kernel
theorem kd_Pk_get_33 : decode kc_Pk_get 33 = .ok (.getfield 95, 3) := by decide +kernel
theorem kd_Pk_get_36 : decode kc_Pk_get 36 = .ok (.iload_n 1, 1) := by decide +kernel
theorem kd_Pk_get_37 : decode kc_Pk_get 37 = .ok (.iload_n 2, 1) := by decide +kernel
theorem kd_Pk_get_38 : decode kc_Pk_get 38 = .ok (.invokevirtual 187, 3) := by decide +kernel
theorem kd_Pk_get_41 : decode kc_Pk_get 41 = .ok (.ireturn, 1) := by decide +kernel
theorem kd_Pk_isPlace_0 : decode kc_Pk_isPlace 0 = .ok (.iload_n 0, 1) := by decide +kernel
theorem kd_Pk_isPlace_1 : decode kc_Pk_isPlace 1 = .ok (.ifCond .lt 33, 3) := by decide +kernel
theorem kd_Pk_isPlace_4 : decode kc_Pk_isPlace 4 = .ok (.iload_n 0, 1) := by decide +kernel
theorem kd_Pk_isPlace_5 : decode kc_Pk_isPlace 5 = .ok (.iconst 5, 1) := by decide +kernel
theorem kd_Pk_isPlace_6 : decode kc_Pk_isPlace 6 = .ok (.if_icmp .gt 28, 3) := by decide +kernel
theorem kd_Pk_isPlace_9 : decode kc_Pk_isPlace 9 = .ok (.iload_n 1, 1) := by decide +kernel
theorem kd_Pk_isPlace_10 : decode kc_Pk_isPlace 10 = .ok (.ifCond .lt 24, 3) := by decide +kernel
theorem kd_Pk_isPlace_13 : decode kc_Pk_isPlace 13 = .ok (.iload_n 1, 1) := by decide +kernel
theorem kd_Pk_isPlace_14 : decode kc_Pk_isPlace 14 = .ok (.getstatic 194, 3) := by decide +kernel
theorem kd_Pk_isPlace_17 : decode kc_Pk_isPlace 17 = .ok (.iload_n 0, 1) := by decide +kernel
theorem kd_Pk_isPlace_18 : decode kc_Pk_isPlace 18 = .ok (.iconst 1, 1) := by decide +kernel
theorem kd_Pk_isPlace_19 : decode kc_Pk_isPlace 19 = .ok (.iadd, 1) := by decide +kernel
theorem kd_Pk_isPlace_20 : decode kc_Pk_isPlace 20 = .ok (.iaload, 1) := by decide +kernel
theorem kd_Pk_isPlace_21 : decode kc_Pk_isPlace 21 = .ok (.getstatic 194, 3) := by decide +kernel
theorem kd_Pk_isPlace_24 : decode kc_Pk_isPlace 24 = .ok (.iload_n 0, 1) := by decide +kernel
theorem kd_Pk_isPlace_25 : decode kc_Pk_isPlace 25 = .ok (.iaload, 1) := by decide +kernel
theorem kd_Pk_isPlace_26 : decode kc_Pk_isPlace 26 = .ok (.isub, 1) := by decide +kernel
theorem kd_Pk_isPlace_27 : decode kc_Pk_isPlace 27 = .ok (.if_icmp .ge 7, 3) := by decide +kernel
theorem kd_Pk_isPlace_30 : decode kc_Pk_isPlace 30 = .ok (.iconst 1, 1) := by decide +kernel
theorem kd_Pk_isPlace_31 : decode kc_Pk_isPlace 31 = .ok (.goto 4, 3) := by decide +kernel
theorem kd_Pk_isPlace_34 : decode kc_Pk_isPlace 34 = .ok (.iconst 0, 1) := by decide +kernel
theorem kd_Pk_isPlace_35 : decode kc_Pk_isPlace 35 = .ok (.ireturn, 1) := by decide +kernel
theorem kd_Pk_isValue_0 : decode kc_Pk_isValue 0 = .ok (.iload_n 0, 1) := by decide +kernel
theorem kd_Pk_isValue_1 : decode kc_Pk_isValue 1 = .ok (.iconst 3, 1) := by decide +kernel
theorem kd_Pk_isValue_2 : decode kc_Pk_isValue 2 = .ok (.if_icmp .ge 20, 3) := by decide +kernel
theorem kd_Pk_isValue_5 : decode kc_Pk_isValue 5 = .ok (.iload_n 1, 1) := by decide +kernel
theorem kd_Pk_isValue_6 : decode kc_Pk_isValue 6 = .ok (.ifCond .eq 8, 3) := by decide +kernel
theorem kd_Pk_isValue_9 : decode kc_Pk_isValue 9 = .ok (.iload_n 1, 1) := by decide +kernel
theorem kd_Pk_isValue_10 : decode kc_Pk_isValue 10 = .ok (.iconst 1, 1) := by decide +kernel
theorem kd_Pk_isValue_11 : decode kc_Pk_isValue 11 = .ok (.if_icmp .ne 7, 3) := by decide +kernel
theorem kd_Pk_isValue_14 : decode kc_Pk_isValue 14 = .ok (.iconst 1, 1) := by decide +kernel
theorem kd_Pk_isValue_15 : decode kc_Pk_isValue 15 = .ok (.goto 26, 3) := by decide +kernel
theorem kd_Pk_isValue_18 : decode kc_Pk_isValue 18 = .ok (.iconst 0, 1) := by decide +kernel
theorem kd_Pk_isValue_19 : decode kc_Pk_isValue 19 = .ok (.goto 22, 3) := by decide +kernel
theorem kd_Pk_isValue_22 : decode kc_Pk_isValue 22 = .ok (.iload_n 1, 1) := by decide +kernel
theorem kd_Pk_isValue_23 : decode kc_Pk_isValue 23 = .ok (.sipush (-32768), 3) := by decide +kernel
theorem kd_Pk_isValue_26 : decode kc_Pk_isValue 26 = .ok (.if_icmp .lt 14, 3) := by decide +kernel
theorem kd_Pk_isValue_29 : decode kc_Pk_isValue 29 = .ok (.iload_n 1, 1) := by decide +kernel
theorem kd_Pk_isValue_30 : decode kc_Pk_isValue 30 = .ok (.sipush 32767, 3) := by decide +kernel
theorem kd_Pk_isValue_33 : decode kc_Pk_isValue 33 = .ok (.if_icmp .gt 7, 3) := by decide +kernel
theorem kd_Pk_isValue_36 : decode kc_Pk_isValue 36 = .ok (.iconst 1, 1) := by decide +kernel
theorem kd_Pk_isValue_37 : decode kc_Pk_isValue 37 = .ok (.goto 4, 3) := by decide +kernel
theorem kd_Pk_isValue_40 : decode kc_Pk_isValue 40 = .ok (.iconst 0, 1) := by decide +kernel
theorem kd_Pk_isValue_41 : decode kc_Pk_isValue 41 = .ok (.ireturn, 1) := by decide +kernel
theorem kd_Pk_put_0 : decode kc_Pk_put 0 = .ok (.iload_n 1, 1) := by decide +kernel
theorem kd_Pk_put_1 : decode kc_Pk_put 1 = .ok (.iload_n 2, 1) := by decide +kernel
theorem kd_Pk_put_2 : decode kc_Pk_put 2 = .ok (.invokestatic 176, 3) := by decide +kernel
theorem kd_Pk_put_5 : decode kc_Pk_put 5 = .ok (.ifCond .eq 21, 3) := by decide +kernel
theorem kd_Pk_put_8 : decode kc_Pk_put 8 = .ok (.iload_n 1, 1) := by decide +kernel
theorem kd_Pk_put_9 : decode kc_Pk_put 9 = .ok (.iconst 1, 1) := by decide +kernel
theorem kd_Pk_put_10 : decode kc_Pk_put 10 = .ok (.if_icmp .eq 16, 3) := by decide +kernel
theorem kd_Pk_put_13 : decode kc_Pk_put 13 = .ok (.iload_n 1, 1) := by decide +kernel
theorem kd_Pk_put_14 : decode kc_Pk_put 14 = .ok (.iconst 4, 1) := by decide +kernel
theorem kd_Pk_put_15 : decode kc_Pk_put 15 = .ok (.if_icmp .eq 11, 3) := by decide +kernel
theorem kd_Pk_put_18 : decode kc_Pk_put 18 = .ok (.iload_n 1, 1) := by decide +kernel
theorem kd_Pk_put_19 : decode kc_Pk_put 19 = .ok (.iload_n 3, 1) := by decide +kernel
theorem kd_Pk_put_20 : decode kc_Pk_put 20 = .ok (.invokestatic 180, 3) := by decide +kernel
theorem kd_Pk_put_23 : decode kc_Pk_put 23 = .ok (.ifCond .ne 5, 3) := by decide +kernel
theorem kd_Pk_put_26 : decode kc_Pk_put 26 = .ok (.iconst (-1), 1) := by decide +kernel
theorem kd_Pk_put_27 : decode kc_Pk_put 27 = .ok (.ireturn, 1) := by decide +kernel
theorem kd_Pk_put_28 : decode kc_Pk_put 28 = .ok (.aload_n 0, 1) := by decide +kernel
theorem kd_Pk_put_29 : decode kc_Pk_put 29 = .ok (.getfield 95, 3) := by decide +kernel
theorem kd_Pk_put_32 : decode kc_Pk_put 32 = .ok (.iload_n 1, 1) := by decide +kernel
theorem kd_Pk_put_33 : decode kc_Pk_put 33 = .ok (.iload_n 2, 1) := by decide +kernel
theorem kd_Pk_put_34 : decode kc_Pk_put 34 = .ok (.iload_n 3, 1) := by decide +kernel
theorem kd_Pk_put_35 : decode kc_Pk_put 35 = .ok (.invokevirtual 183, 3) := by decide +kernel
theorem kd_Pk_put_38 : decode kc_Pk_put 38 = .ok (.ireturn, 1) := by decide +kernel
theorem kd_Pk_safe_0 : decode kc_Pk_safe 0 = .ok (.iload_n 1, 1) := by decide +kernel
theorem kd_Pk_safe_1 : decode kc_Pk_safe 1 = .ok (.iconst 1, 1) := by decide +kernel
theorem kd_Pk_safe_2 : decode kc_Pk_safe 2 = .ok (.if_icmp .eq 8, 3) := by decide +kernel
theorem kd_Pk_safe_5 : decode kc_Pk_safe 5 = .ok (.iload_n 1, 1) := by decide +kernel
theorem kd_Pk_safe_6 : decode kc_Pk_safe 6 = .ok (.iconst 4, 1) := by decide +kernel
theorem kd_Pk_safe_7 : decode kc_Pk_safe 7 = .ok (.if_icmp .ne 19, 3) := by decide +kernel
theorem kd_Pk_safe_10 : decode kc_Pk_safe 10 = .ok (.iload_n 1, 1) := by decide +kernel
theorem kd_Pk_safe_11 : decode kc_Pk_safe 11 = .ok (.iload_n 2, 1) := by decide +kernel
theorem kd_Pk_safe_12 : decode kc_Pk_safe 12 = .ok (.invokestatic 176, 3) := by decide +kernel
theorem kd_Pk_safe_15 : decode kc_Pk_safe 15 = .ok (.ifCond .eq 11, 3) := by decide +kernel
theorem kd_Pk_safe_18 : decode kc_Pk_safe 18 = .ok (.iload_n 1, 1) := by decide +kernel
theorem kd_Pk_safe_19 : decode kc_Pk_safe 19 = .ok (.iload_n 3, 1) := by decide +kernel
theorem kd_Pk_safe_20 : decode kc_Pk_safe 20 = .ok (.invokestatic 180, 3) := by decide +kernel
theorem kd_Pk_safe_23 : decode kc_Pk_safe 23 = .ok (.ifCond .ne 5, 3) := by decide +kernel
theorem kd_Pk_safe_26 : decode kc_Pk_safe 26 = .ok (.iconst (-1), 1) := by decide +kernel
theorem kd_Pk_safe_27 : decode kc_Pk_safe 27 = .ok (.ireturn, 1) := by decide +kernel
theorem kd_Pk_safe_28 : decode kc_Pk_safe 28 = .ok (.aload_n 0, 1) := by decide +kernel
theorem kd_Pk_safe_29 : decode kc_Pk_safe 29 = .ok (.getfield 95, 3) := by decide +kernel
theorem kd_Pk_safe_32 : decode kc_Pk_safe 32 = .ok (.getfield 191, 3) := by decide +kernel
theorem kd_Pk_safe_35 : decode kc_Pk_safe 35 = .ok (.getstatic 194, 3) := by decide +kernel
theorem kd_Pk_safe_38 : decode kc_Pk_safe 38 = .ok (.iload_n 1, 1) := by decide +kernel
theorem kd_Pk_safe_39 : decode kc_Pk_safe 39 = .ok (.iaload, 1) := by decide +kernel
theorem kd_Pk_safe_40 : decode kc_Pk_safe 40 = .ok (.iload_n 2, 1) := by decide +kernel
theorem kd_Pk_safe_41 : decode kc_Pk_safe 41 = .ok (.iadd, 1) := by decide +kernel
theorem kd_Pk_safe_42 : decode kc_Pk_safe 42 = .ok (.iload_n 3, 1) := by decide +kernel
theorem kd_Pk_safe_43 : decode kc_Pk_safe 43 = .ok (.iastore, 1) := by decide +kernel
theorem kd_Pk_safe_44 : decode kc_Pk_safe 44 = .ok (.iconst 0, 1) := by decide +kernel
theorem kd_Pk_safe_45 : decode kc_Pk_safe 45 = .ok (.ireturn, 1) := by decide +kernel
theorem kd_Pk_scan_0 : decode kc_Pk_scan 0 = .ok (.iload_n 1, 1) := by decide +kernel
theorem kd_Pk_scan_1 : decode kc_Pk_scan 1 = .ok (.ifCond .lt 9, 3) := by decide +kernel
theorem kd_Pk_scan_4 : decode kc_Pk_scan 4 = .ok (.iload_n 1, 1) := by decide +kernel
theorem kd_Pk_scan_5 : decode kc_Pk_scan 5 = .ok (.ldc 115, 2) := by decide +kernel
theorem kd_Pk_scan_7 : decode kc_Pk_scan 7 = .ok (.if_icmp .le 5, 3) := by decide +kernel
theorem kd_Pk_scan_10 : decode kc_Pk_scan 10 = .ok (.iconst (-1), 1) := by decide +kernel
theorem kd_Pk_scan_11 : decode kc_Pk_scan 11 = .ok (.ireturn, 1) := by decide +kernel
theorem kd_Pk_scan_12 : decode kc_Pk_scan 12 = .ok (.aload_n 0, 1) := by decide +kernel
theorem kd_Pk_scan_13 : decode kc_Pk_scan 13 = .ok (.getfield 95, 3) := by decide +kernel
theorem kd_Pk_scan_16 : decode kc_Pk_scan 16 = .ok (.getfield 169, 3) := by decide +kernel
theorem kd_Pk_scan_19 : decode kc_Pk_scan 19 = .ok (.ifCond .ne 6, 3) := by decide +kernel
theorem kd_Pk_scan_22 : decode kc_Pk_scan 22 = .ok (.bipush (-5), 2) := by decide +kernel
theorem kd_Pk_scan_24 : decode kc_Pk_scan 24 = .ok (.ireturn, 1) := by decide +kernel
theorem kd_Pk_scan_25 : decode kc_Pk_scan 25 = .ok (.aload_n 0, 1) := by decide +kernel
theorem kd_Pk_scan_26 : decode kc_Pk_scan 26 = .ok (.getfield 95, 3) := by decide +kernel
theorem kd_Pk_scan_29 : decode kc_Pk_scan 29 = .ok (.getfield 197, 3) := by decide +kernel
theorem kd_Pk_scan_32 : decode kc_Pk_scan 32 = .ok (.ifCond .eq 8, 3) := by decide +kernel
theorem kd_Pk_scan_35 : decode kc_Pk_scan 35 = .ok (.bipush (-2), 2) := by decide +kernel
theorem kd_Pk_scan_37 : decode kc_Pk_scan 37 = .ok (.goto 11, 3) := by decide +kernel
theorem kd_Pk_scan_40 : decode kc_Pk_scan 40 = .ok (.aload_n 0, 1) := by decide +kernel
theorem kd_Pk_scan_41 : decode kc_Pk_scan 41 = .ok (.getfield 95, 3) := by decide +kernel
theorem kd_Pk_scan_44 : decode kc_Pk_scan 44 = .ok (.iload_n 1, 1) := by decide +kernel
theorem kd_Pk_scan_45 : decode kc_Pk_scan 45 = .ok (.invokevirtual 200, 3) := by decide +kernel
theorem kd_Pk_scan_48 : decode kc_Pk_scan 48 = .ok (.ireturn, 1) := by decide +kernel
set_option maxHeartbeats 4000000 in
set_option maxRecDepth 100000 in
theorem zb_Mc_runStandard_154 {X : zkj_T} {S : zs_T} {P : ze_T} {l : Launch} {D : va_G} {sz0 : Nat} {rh : zs_H} (C : zk_C X km_Mc_runStandard (zs_G S l D sz0) { frames := 2, cells := 0, slots := 0, locals := 53 } (ze_E P)) (hR : zkj_R X (zd_PV S rh) (none)) (h : zs_H) (y0 : Int32) (y1 : Int32) (e : f_Mc_runStandard_154 h y0 y1 = some rh) : zk_Ab X (zs_W S h) 0 0 154 [] [.int y0, .int y1, .ref (S.1 58)] := by
  unfold f_Mc_runStandard_154 at e
  obtain ⟨h2, c1, e⟩ := zd_b e
  refine zs_callV (k := 58) (rn := { frames := 0, cells := 0, slots := 0, locals := 0 }) (As := [.int y1, .int y0]) (rest := []) C (zc_Mc_become h y1 y0 c1) ku_Mc_become kw1460 kv_Mc_become rfl ⟨by decide, by decide⟩ ⟨by decide, by decide⟩ rfl rfl rfl (Nat.le_of_ble_eq_true rfl) kd_Mc_runStandard_154 rfl (c1 := 0) (s1 := 0) rfl rfl (fun v w hp => ?_)
  obtain ⟨rfl, rfl⟩ := hp
  refine zk_stk (r' := []) rfl ?_
  refine zk_goto (tgt := 243) C kd_Mc_runStandard_157 (by decide) ?_
  exact zk_vret C hR kd_Mc_runStandard_243 rfl rfl (zd_rV e)
set_option maxHeartbeats 4000000 in
set_option maxRecDepth 100000 in
theorem zb_Mc_runStandard_138 {X : zkj_T} {S : zs_T} {P : ze_T} {l : Launch} {D : va_G} {sz0 : Nat} {rh : zs_H} (C : zk_C X km_Mc_runStandard (zs_G S l D sz0) { frames := 2, cells := 0, slots := 0, locals := 53 } (ze_E P)) (hR : zkj_R X (zd_PV S rh) (none)) (h : zs_H) (x2 : Int32) (x3 : Int32) (y0 : Int32) (y1 : Int32) (e : f_Mc_runStandard_138 h x2 x3 y0 y1 = some rh) : zk_Ab X (zs_W S h) 0 0 138 [(0, .ref (S.1 58)), (2, .int x2), (3, .int x3)] [.int y0, .int y1, .ref (S.1 58)] := by
  unfold f_Mc_runStandard_138 at e
  obtain ⟨h2, c1, e⟩ := zd_b e
  refine zs_callV (k := 58) (rn := { frames := 0, cells := 0, slots := 0, locals := 0 }) (As := [.int y1, .int y0]) (rest := []) C (zc_Mc_become h y1 y0 c1) ku_Mc_become kw1460 kv_Mc_become rfl ⟨by decide, by decide⟩ ⟨by decide, by decide⟩ rfl rfl rfl (Nat.le_of_ble_eq_true rfl) kd_Mc_runStandard_138 rfl (c1 := 0) (s1 := 0) rfl rfl (fun v w hp => ?_)
  obtain ⟨rfl, rfl⟩ := hp
  refine zk_stk (r' := []) rfl ?_
  refine zk_aload_n C kd_Mc_runStandard_141 rfl 0 rfl rfl ?_
  refine zk_iload_n C kd_Mc_runStandard_142 rfl 1 rfl rfl ?_
  refine zk_iconst (v := 2) C kd_Mc_runStandard_143 (by decide) rfl ?_
  refine zk_iadd C kd_Mc_runStandard_144 rfl ?_
  refine zk_iload_n C kd_Mc_runStandard_145 rfl 2 rfl rfl ?_
  refine zk_if_eq (tgt := 153) C kd_Mc_runStandard_146 (by decide) rfl (fun b3 => ?_) (fun b3 => ?_)
  · replace e := zd_pos b3 e
    refine zk_iconst (v := 0) C kd_Mc_runStandard_153 (by decide) rfl ?_
    refine zk_lvs (lv' := []) [] rfl ?_
    exact zb_Mc_runStandard_154 C hR h2 0 (x2 + 2) e
  · replace e := zd_neg b3 e
    refine zk_iconst (v := 1) C kd_Mc_runStandard_149 (by decide) rfl ?_
    refine zk_goto (tgt := 154) C kd_Mc_runStandard_150 (by decide) ?_
    refine zk_lvs (lv' := []) [] rfl ?_
    exact zb_Mc_runStandard_154 C hR h2 1 (x2 + 2) e
set_option maxHeartbeats 4000000 in
set_option maxRecDepth 100000 in
theorem zb_Mc_runStandard_122 {X : zkj_T} {S : zs_T} {P : ze_T} {l : Launch} {D : va_G} {sz0 : Nat} {rh : zs_H} (C : zk_C X km_Mc_runStandard (zs_G S l D sz0) { frames := 2, cells := 0, slots := 0, locals := 53 } (ze_E P)) (hR : zkj_R X (zd_PV S rh) (none)) (h : zs_H) (x2 : Int32) (x3 : Int32) (y0 : Int32) (e : f_Mc_runStandard_122 h x2 x3 y0 = some rh) : zk_Ab X (zs_W S h) 0 0 122 [(0, .ref (S.1 58)), (2, .int x2), (3, .int x3)] [.int y0] := by
  unfold f_Mc_runStandard_122 at e
  refine zk_istore (lv' := [(6, _), (0, _), (2, _), (3, _)]) C kd_Mc_runStandard_122 (by decide) rfl rfl ?_
  refine zk_aload_n C kd_Mc_runStandard_124 rfl 1 rfl rfl ?_
  refine zk_iload_n C kd_Mc_runStandard_125 rfl 2 rfl rfl ?_
  refine zk_iconst (v := 1) C kd_Mc_runStandard_126 (by decide) rfl ?_
  refine zk_iadd C kd_Mc_runStandard_127 rfl ?_
  refine zk_iload C kd_Mc_runStandard_128 0 rfl rfl ?_
  refine zk_if_eq (tgt := 137) C kd_Mc_runStandard_130 (by decide) rfl (fun b1 => ?_) (fun b1 => ?_)
  · replace e := zd_pos b1 e
    refine zk_iconst (v := 0) C kd_Mc_runStandard_137 (by decide) rfl ?_
    refine zk_lvs (lv' := [(0, .ref (S.1 58)), (2, .int x2), (3, .int x3)]) [1, 2, 3] rfl ?_
    exact zb_Mc_runStandard_138 C hR h x2 x3 0 (x2 + 1) e
  · replace e := zd_neg b1 e
    refine zk_iconst (v := 1) C kd_Mc_runStandard_133 (by decide) rfl ?_
    refine zk_goto (tgt := 138) C kd_Mc_runStandard_134 (by decide) ?_
    refine zk_lvs (lv' := [(0, .ref (S.1 58)), (2, .int x2), (3, .int x3)]) [1, 2, 3] rfl ?_
    exact zb_Mc_runStandard_138 C hR h x2 x3 1 (x2 + 1) e
set_option maxHeartbeats 4000000 in
set_option maxRecDepth 100000 in
theorem zb_Mc_runStandard_104 {X : zkj_T} {S : zs_T} {P : ze_T} {l : Launch} {D : va_G} {sz0 : Nat} {rh : zs_H} (C : zk_C X km_Mc_runStandard (zs_G S l D sz0) { frames := 2, cells := 0, slots := 0, locals := 53 } (ze_E P)) (hR : zkj_R X (zd_PV S rh) (none)) (h : zs_H) (x2 : Int32) (x3 : Int32) (e : f_Mc_runStandard_104 h x2 x3 = some rh) : zk_Ab X (zs_W S h) 0 0 104 [(0, .ref (S.1 58)), (2, .int x2), (3, .int x3)] [] := by
  unfold f_Mc_runStandard_104 at e
  refine zk_iconst (v := 0) C kd_Mc_runStandard_104 (by decide) rfl ?_
  refine zk_goto (tgt := 122) C kd_Mc_runStandard_105 (by decide) ?_
  refine zk_lvs (lv' := [(0, .ref (S.1 58)), (2, .int x2), (3, .int x3)]) [0, 1, 2] rfl ?_
  exact zb_Mc_runStandard_122 C hR h x2 x3 0 e
set_option maxHeartbeats 4000000 in
set_option maxRecDepth 100000 in
theorem zb_Mc_runStandard_121 {X : zkj_T} {S : zs_T} {P : ze_T} {l : Launch} {D : va_G} {sz0 : Nat} {rh : zs_H} (C : zk_C X km_Mc_runStandard (zs_G S l D sz0) { frames := 2, cells := 0, slots := 0, locals := 53 } (ze_E P)) (hR : zkj_R X (zd_PV S rh) (none)) (h : zs_H) (x2 : Int32) (x3 : Int32) (e : f_Mc_runStandard_121 h x2 x3 = some rh) : zk_Ab X (zs_W S h) 0 0 121 [(0, .ref (S.1 58)), (2, .int x2), (3, .int x3)] [] := by
  unfold f_Mc_runStandard_121 at e
  refine zk_iconst (v := 0) C kd_Mc_runStandard_121 (by decide) rfl ?_
  refine zk_lvs (lv' := [(0, .ref (S.1 58)), (2, .int x2), (3, .int x3)]) [0, 1, 2] rfl ?_
  exact zb_Mc_runStandard_122 C hR h x2 x3 0 e
set_option maxHeartbeats 4000000 in
set_option maxRecDepth 100000 in
theorem zb_Mc_runStandard_84 {X : zkj_T} {S : zs_T} {P : ze_T} {l : Launch} {D : va_G} {sz0 : Nat} {rh : zs_H} (C : zk_C X km_Mc_runStandard (zs_G S l D sz0) { frames := 2, cells := 0, slots := 0, locals := 53 } (ze_E P)) (hR : zkj_R X (zd_PV S rh) (none)) (h : zs_H) (x1 : Int32) (x2 : Int32) (x3 : Int32) (y0 : Int32) (e : f_Mc_runStandard_84 h x1 x2 x3 y0 = some rh) : zk_Ab X (zs_W S h) 0 0 84 [(0, .ref (S.1 58)), (1, .int x1), (2, .int x2), (3, .int x3)] [.int y0] := by
  unfold f_Mc_runStandard_84 at e
  refine zk_istore (lv' := [(5, _), (0, _), (1, _), (2, _), (3, _)]) C kd_Mc_runStandard_84 (by decide) rfl rfl ?_
  refine zk_iload_n C kd_Mc_runStandard_86 rfl 2 rfl rfl ?_
  refine zk_iconst (v := 5) C kd_Mc_runStandard_87 (by decide) rfl ?_
  refine zk_icmp_ne (tgt := 108) C kd_Mc_runStandard_88 (by decide) rfl (fun b1 => ?_) (fun b1 => ?_)
  · replace e := zd_neg b1 e
    refine zk_iload_n C kd_Mc_runStandard_108 rfl 4 rfl rfl ?_
    refine zk_if_ne (tgt := 121) C kd_Mc_runStandard_109 (by decide) rfl (fun b2 => ?_) (fun b2 => ?_)
    · replace e := zd_neg b2 e
      refine zk_lvs (lv' := [(0, .ref (S.1 58)), (2, .int x2), (3, .int x3)]) [1, 3, 4] rfl ?_
      exact zb_Mc_runStandard_121 C hR h x2 x3 e
    · replace e := zd_pos b2 e
      refine zk_iload C kd_Mc_runStandard_112 0 rfl rfl ?_
      refine zk_if_eq (tgt := 121) C kd_Mc_runStandard_114 (by decide) rfl (fun b3 => ?_) (fun b3 => ?_)
      · replace e := zd_pos b3 e
        refine zk_lvs (lv' := [(0, .ref (S.1 58)), (2, .int x2), (3, .int x3)]) [1, 3, 4] rfl ?_
        exact zb_Mc_runStandard_121 C hR h x2 x3 e
      · replace e := zd_neg b3 e
        refine zk_iconst (v := 1) C kd_Mc_runStandard_117 (by decide) rfl ?_
        refine zk_goto (tgt := 122) C kd_Mc_runStandard_118 (by decide) ?_
        refine zk_lvs (lv' := [(0, .ref (S.1 58)), (2, .int x2), (3, .int x3)]) [1, 3, 4] rfl ?_
        exact zb_Mc_runStandard_122 C hR h x2 x3 1 e
  · replace e := zd_pos b1 e
    refine zk_iload_n C kd_Mc_runStandard_91 rfl 4 rfl rfl ?_
    refine zk_if_eq (tgt := 104) C kd_Mc_runStandard_92 (by decide) rfl (fun b4 => ?_) (fun b4 => ?_)
    · replace e := zd_pos b4 e
      refine zk_lvs (lv' := [(0, .ref (S.1 58)), (2, .int x2), (3, .int x3)]) [1, 3, 4] rfl ?_
      exact zb_Mc_runStandard_104 C hR h x2 x3 e
    · replace e := zd_neg b4 e
      refine zk_iload C kd_Mc_runStandard_95 0 rfl rfl ?_
      refine zk_if_ne (tgt := 104) C kd_Mc_runStandard_97 (by decide) rfl (fun b5 => ?_) (fun b5 => ?_)
      · replace e := zd_neg b5 e
        refine zk_lvs (lv' := [(0, .ref (S.1 58)), (2, .int x2), (3, .int x3)]) [1, 3, 4] rfl ?_
        exact zb_Mc_runStandard_104 C hR h x2 x3 e
      · replace e := zd_pos b5 e
        refine zk_iconst (v := 1) C kd_Mc_runStandard_100 (by decide) rfl ?_
        refine zk_goto (tgt := 122) C kd_Mc_runStandard_101 (by decide) ?_
        refine zk_lvs (lv' := [(0, .ref (S.1 58)), (2, .int x2), (3, .int x3)]) [1, 3, 4] rfl ?_
        exact zb_Mc_runStandard_122 C hR h x2 x3 1 e
set_option maxHeartbeats 4000000 in
set_option maxRecDepth 100000 in
theorem zb_Mc_runStandard_240 {X : zkj_T} {S : zs_T} {P : ze_T} {l : Launch} {D : va_G} {sz0 : Nat} {rh : zs_H} (C : zk_C X km_Mc_runStandard (zs_G S l D sz0) { frames := 2, cells := 0, slots := 0, locals := 53 } (ze_E P)) (hR : zkj_R X (zd_PV S rh) (none)) (h : zs_H) (y0 : Int32) (y1 : Int32) (e : f_Mc_runStandard_240 h y0 y1 = some rh) : zk_Ab X (zs_W S h) 0 0 240 [] [.int y0, .int y1, .ref (S.1 58)] := by
  unfold f_Mc_runStandard_240 at e
  obtain ⟨h2, c1, e⟩ := zd_b e
  refine zs_callV (k := 58) (rn := { frames := 0, cells := 0, slots := 0, locals := 0 }) (As := [.int y1, .int y0]) (rest := []) C (zc_Mc_become h y1 y0 c1) ku_Mc_become kw1460 kv_Mc_become rfl ⟨by decide, by decide⟩ ⟨by decide, by decide⟩ rfl rfl rfl (Nat.le_of_ble_eq_true rfl) kd_Mc_runStandard_240 rfl (c1 := 0) (s1 := 0) rfl rfl (fun v w hp => ?_)
  obtain ⟨rfl, rfl⟩ := hp
  refine zk_stk (r' := []) rfl ?_
  exact zk_vret C hR kd_Mc_runStandard_243 rfl rfl (zd_rV e)
set_option maxHeartbeats 4000000 in
set_option maxRecDepth 100000 in
theorem zb_Mc_runStandard_224 {X : zkj_T} {S : zs_T} {P : ze_T} {l : Launch} {D : va_G} {sz0 : Nat} {rh : zs_H} (C : zk_C X km_Mc_runStandard (zs_G S l D sz0) { frames := 2, cells := 0, slots := 0, locals := 53 } (ze_E P)) (hR : zkj_R X (zd_PV S rh) (none)) (h : zs_H) (x2 : Int32) (y0 : Int32) (e : f_Mc_runStandard_224 h x2 y0 = some rh) : zk_Ab X (zs_W S h) 0 0 224 [(0, .ref (S.1 58)), (2, .int x2)] [.int y0] := by
  unfold f_Mc_runStandard_224 at e
  refine zk_istore (lv' := [(6, _), (0, _), (2, _)]) C kd_Mc_runStandard_224 (by decide) rfl rfl ?_
  refine zk_aload_n C kd_Mc_runStandard_226 rfl 1 rfl rfl ?_
  refine zk_iload_n C kd_Mc_runStandard_227 rfl 2 rfl rfl ?_
  refine zk_iconst (v := 2) C kd_Mc_runStandard_228 (by decide) rfl ?_
  refine zk_iadd C kd_Mc_runStandard_229 rfl ?_
  refine zk_iload C kd_Mc_runStandard_230 0 rfl rfl ?_
  refine zk_if_eq (tgt := 239) C kd_Mc_runStandard_232 (by decide) rfl (fun b1 => ?_) (fun b1 => ?_)
  · replace e := zd_pos b1 e
    refine zk_iconst (v := 0) C kd_Mc_runStandard_239 (by decide) rfl ?_
    refine zk_lvs (lv' := []) [] rfl ?_
    exact zb_Mc_runStandard_240 C hR h 0 (x2 + 2) e
  · replace e := zd_neg b1 e
    refine zk_iconst (v := 1) C kd_Mc_runStandard_235 (by decide) rfl ?_
    refine zk_goto (tgt := 240) C kd_Mc_runStandard_236 (by decide) ?_
    refine zk_lvs (lv' := []) [] rfl ?_
    exact zb_Mc_runStandard_240 C hR h 1 (x2 + 2) e
set_option maxHeartbeats 4000000 in
set_option maxRecDepth 100000 in
theorem zb_Mc_runStandard_197 {X : zkj_T} {S : zs_T} {P : ze_T} {l : Launch} {D : va_G} {sz0 : Nat} {rh : zs_H} (C : zk_C X km_Mc_runStandard (zs_G S l D sz0) { frames := 2, cells := 0, slots := 0, locals := 53 } (ze_E P)) (hR : zkj_R X (zd_PV S rh) (none)) (h : zs_H) (x2 : Int32) (e : f_Mc_runStandard_197 h x2 = some rh) : zk_Ab X (zs_W S h) 0 0 197 [(0, .ref (S.1 58)), (2, .int x2)] [] := by
  unfold f_Mc_runStandard_197 at e
  refine zk_iconst (v := 1) C kd_Mc_runStandard_197 (by decide) rfl ?_
  refine zk_goto (tgt := 224) C kd_Mc_runStandard_198 (by decide) ?_
  refine zk_lvs (lv' := [(0, .ref (S.1 58)), (2, .int x2)]) [0, 1] rfl ?_
  exact zb_Mc_runStandard_224 C hR h x2 1 e
set_option maxHeartbeats 4000000 in
set_option maxRecDepth 100000 in
theorem zb_Mc_runStandard_201 {X : zkj_T} {S : zs_T} {P : ze_T} {l : Launch} {D : va_G} {sz0 : Nat} {rh : zs_H} (C : zk_C X km_Mc_runStandard (zs_G S l D sz0) { frames := 2, cells := 0, slots := 0, locals := 53 } (ze_E P)) (hR : zkj_R X (zd_PV S rh) (none)) (h : zs_H) (x2 : Int32) (e : f_Mc_runStandard_201 h x2 = some rh) : zk_Ab X (zs_W S h) 0 0 201 [(0, .ref (S.1 58)), (2, .int x2)] [] := by
  unfold f_Mc_runStandard_201 at e
  refine zk_iconst (v := 0) C kd_Mc_runStandard_201 (by decide) rfl ?_
  refine zk_goto (tgt := 224) C kd_Mc_runStandard_202 (by decide) ?_
  refine zk_lvs (lv' := [(0, .ref (S.1 58)), (2, .int x2)]) [0, 1] rfl ?_
  exact zb_Mc_runStandard_224 C hR h x2 0 e
set_option maxHeartbeats 4000000 in
set_option maxRecDepth 100000 in
theorem zb_Mc_runStandard_219 {X : zkj_T} {S : zs_T} {P : ze_T} {l : Launch} {D : va_G} {sz0 : Nat} {rh : zs_H} (C : zk_C X km_Mc_runStandard (zs_G S l D sz0) { frames := 2, cells := 0, slots := 0, locals := 53 } (ze_E P)) (hR : zkj_R X (zd_PV S rh) (none)) (h : zs_H) (x2 : Int32) (e : f_Mc_runStandard_219 h x2 = some rh) : zk_Ab X (zs_W S h) 0 0 219 [(0, .ref (S.1 58)), (2, .int x2)] [] := by
  unfold f_Mc_runStandard_219 at e
  refine zk_iconst (v := 1) C kd_Mc_runStandard_219 (by decide) rfl ?_
  refine zk_goto (tgt := 224) C kd_Mc_runStandard_220 (by decide) ?_
  refine zk_lvs (lv' := [(0, .ref (S.1 58)), (2, .int x2)]) [0, 1] rfl ?_
  exact zb_Mc_runStandard_224 C hR h x2 1 e
set_option maxHeartbeats 4000000 in
set_option maxRecDepth 100000 in
theorem zb_Mc_runStandard_223 {X : zkj_T} {S : zs_T} {P : ze_T} {l : Launch} {D : va_G} {sz0 : Nat} {rh : zs_H} (C : zk_C X km_Mc_runStandard (zs_G S l D sz0) { frames := 2, cells := 0, slots := 0, locals := 53 } (ze_E P)) (hR : zkj_R X (zd_PV S rh) (none)) (h : zs_H) (x2 : Int32) (e : f_Mc_runStandard_223 h x2 = some rh) : zk_Ab X (zs_W S h) 0 0 223 [(0, .ref (S.1 58)), (2, .int x2)] [] := by
  unfold f_Mc_runStandard_223 at e
  refine zk_iconst (v := 0) C kd_Mc_runStandard_223 (by decide) rfl ?_
  refine zk_lvs (lv' := [(0, .ref (S.1 58)), (2, .int x2)]) [0, 1] rfl ?_
  exact zb_Mc_runStandard_224 C hR h x2 0 e
set_option maxHeartbeats 4000000 in
set_option maxRecDepth 100000 in
theorem zb_Mc_runStandard_175 {X : zkj_T} {S : zs_T} {P : ze_T} {l : Launch} {D : va_G} {sz0 : Nat} {rh : zs_H} (C : zk_C X km_Mc_runStandard (zs_G S l D sz0) { frames := 2, cells := 0, slots := 0, locals := 53 } (ze_E P)) (hR : zkj_R X (zd_PV S rh) (none)) (h : zs_H) (x1 : Int32) (x2 : Int32) (x3 : Int32) (x4 : Int32) (y0 : Int32) (e : f_Mc_runStandard_175 h x1 x2 x3 x4 y0 = some rh) : zk_Ab X (zs_W S h) 0 0 175 [(0, .ref (S.1 58)), (1, .int x1), (2, .int x2), (3, .int x3), (4, .int x4)] [.int y0] := by
  unfold f_Mc_runStandard_175 at e
  refine zk_istore (lv' := [(5, _), (0, _), (1, _), (2, _), (3, _), (4, _)]) C kd_Mc_runStandard_175 (by decide) rfl rfl ?_
  refine zk_iload_n C kd_Mc_runStandard_177 rfl 2 rfl rfl ?_
  refine zk_bipush (v := 7) C kd_Mc_runStandard_178 (by decide) rfl ?_
  refine zk_icmp_ne (tgt := 205) C kd_Mc_runStandard_180 (by decide) rfl (fun b1 => ?_) (fun b1 => ?_)
  · replace e := zd_neg b1 e
    refine zk_iload C kd_Mc_runStandard_205 5 rfl rfl ?_
    refine zk_if_ne (tgt := 223) C kd_Mc_runStandard_207 (by decide) rfl (fun b2 => ?_) (fun b2 => ?_)
    · replace e := zd_neg b2 e
      refine zk_lvs (lv' := [(0, .ref (S.1 58)), (2, .int x2)]) [1, 3] rfl ?_
      exact zb_Mc_runStandard_223 C hR h x2 e
    · replace e := zd_pos b2 e
      refine zk_iload_n C kd_Mc_runStandard_210 rfl 4 rfl rfl ?_
      refine zk_if_ne (tgt := 219) C kd_Mc_runStandard_211 (by decide) rfl (fun b3 => ?_) (fun b3 => ?_)
      · replace e := zd_neg b3 e
        refine zk_lvs (lv' := [(0, .ref (S.1 58)), (2, .int x2)]) [1, 3] rfl ?_
        exact zb_Mc_runStandard_219 C hR h x2 e
      · replace e := zd_pos b3 e
        refine zk_iload C kd_Mc_runStandard_214 0 rfl rfl ?_
        refine zk_if_eq (tgt := 223) C kd_Mc_runStandard_216 (by decide) rfl (fun b4 => ?_) (fun b4 => ?_)
        · replace e := zd_pos b4 e
          refine zk_lvs (lv' := [(0, .ref (S.1 58)), (2, .int x2)]) [1, 3] rfl ?_
          exact zb_Mc_runStandard_223 C hR h x2 e
        · replace e := zd_neg b4 e
          refine zk_lvs (lv' := [(0, .ref (S.1 58)), (2, .int x2)]) [1, 3] rfl ?_
          exact zb_Mc_runStandard_219 C hR h x2 e
  · replace e := zd_pos b1 e
    refine zk_iload_n C kd_Mc_runStandard_183 rfl 4 rfl rfl ?_
    refine zk_if_ne (tgt := 197) C kd_Mc_runStandard_184 (by decide) rfl (fun b5 => ?_) (fun b5 => ?_)
    · replace e := zd_neg b5 e
      refine zk_lvs (lv' := [(0, .ref (S.1 58)), (2, .int x2)]) [1, 3] rfl ?_
      exact zb_Mc_runStandard_197 C hR h x2 e
    · replace e := zd_pos b5 e
      refine zk_iload C kd_Mc_runStandard_187 5 rfl rfl ?_
      refine zk_if_ne (tgt := 201) C kd_Mc_runStandard_189 (by decide) rfl (fun b6 => ?_) (fun b6 => ?_)
      · replace e := zd_neg b6 e
        refine zk_lvs (lv' := [(0, .ref (S.1 58)), (2, .int x2)]) [1, 3] rfl ?_
        exact zb_Mc_runStandard_201 C hR h x2 e
      · replace e := zd_pos b6 e
        refine zk_iload C kd_Mc_runStandard_192 0 rfl rfl ?_
        refine zk_if_eq (tgt := 201) C kd_Mc_runStandard_194 (by decide) rfl (fun b7 => ?_) (fun b7 => ?_)
        · replace e := zd_pos b7 e
          refine zk_lvs (lv' := [(0, .ref (S.1 58)), (2, .int x2)]) [1, 3] rfl ?_
          exact zb_Mc_runStandard_201 C hR h x2 e
        · replace e := zd_neg b7 e
          refine zk_lvs (lv' := [(0, .ref (S.1 58)), (2, .int x2)]) [1, 3] rfl ?_
          exact zb_Mc_runStandard_197 C hR h x2 e
set_option maxHeartbeats 4000000 in
set_option maxRecDepth 100000 in
theorem zb_Mc_runStandard_29 {X : zkj_T} {S : zs_T} {P : ze_T} {l : Launch} {D : va_G} {sz0 : Nat} {rh : zs_H} (C : zk_C X km_Mc_runStandard (zs_G S l D sz0) { frames := 2, cells := 0, slots := 0, locals := 53 } (ze_E P)) (hR : zkj_R X (zd_PV S rh) (none)) (h : zs_H) (x1 : Int32) (x2 : Int32) (x3 : Int32) (y0 : Int32) (e : f_Mc_runStandard_29 h x1 x2 x3 y0 = some rh) : zk_Ab X (zs_W S h) 0 0 29 [(0, .ref (S.1 58)), (1, .int x1), (2, .int x2), (3, .int x3)] [.int y0] := by
  unfold f_Mc_runStandard_29 at e
  refine zk_istore (lv' := [(4, _), (0, _), (1, _), (2, _), (3, _)]) C kd_Mc_runStandard_29 (by decide) rfl rfl ?_
  refine zk_iload_n C kd_Mc_runStandard_31 rfl 2 rfl rfl ?_
  refine zk_iconst (v := 2) C kd_Mc_runStandard_32 (by decide) rfl ?_
  refine zk_icmp_gt (tgt := 46) C kd_Mc_runStandard_33 (by decide) rfl (fun b1 => ?_) (fun b1 => ?_)
  · replace e := zd_pos b1 e
    refine zk_iload_n C kd_Mc_runStandard_46 rfl 2 rfl rfl ?_
    refine zk_iconst (v := 4) C kd_Mc_runStandard_47 (by decide) rfl ?_
    refine zk_icmp_gt (tgt := 63) C kd_Mc_runStandard_48 (by decide) rfl (fun b2 => ?_) (fun b2 => ?_)
    · replace e := zd_pos b2 e
      refine zk_iload_n C kd_Mc_runStandard_63 rfl 2 rfl rfl ?_
      refine zk_bipush (v := 6) C kd_Mc_runStandard_64 (by decide) rfl ?_
      refine zk_icmp_gt (tgt := 160) C kd_Mc_runStandard_66 (by decide) rfl (fun b3 => ?_) (fun b3 => ?_)
      · replace e := zd_pos b3 e
        refine zk_aload_n C kd_Mc_runStandard_160 rfl 1 rfl rfl ?_
        refine zk_iload_n C kd_Mc_runStandard_161 rfl 3 rfl rfl ?_
        refine zk_iconst (v := 2) C kd_Mc_runStandard_162 (by decide) rfl ?_
        refine zk_iadd C kd_Mc_runStandard_163 rfl ?_
        obtain ⟨v5, c4, e⟩ := zd_b e
        refine zs_callV (k := 58) (rn := { frames := 0, cells := 0, slots := 0, locals := 0 }) (As := [.int (x2 + 2)]) (rest := []) C (zc_Mc_cellAt h (x2 + 2) c4) ku_Mc_cellAt kw1534 kv_Mc_cellAt rfl ⟨by decide, by decide⟩ ⟨by decide, by decide⟩ rfl rfl rfl (Nat.le_of_ble_eq_true rfl) kd_Mc_runStandard_164 rfl (c1 := 0) (s1 := 0) rfl rfl (fun v w hp => ?_)
        obtain ⟨rfl, rfl⟩ := hp
        refine zk_stk (r' := [.int v5]) rfl ?_
        refine zk_if_eq (tgt := 174) C kd_Mc_runStandard_167 (by decide) rfl (fun b6 => ?_) (fun b6 => ?_)
        · replace e := zd_pos b6 e
          refine zk_iconst (v := 0) C kd_Mc_runStandard_174 (by decide) rfl ?_
          refine zk_lvs (lv' := [(0, .ref (S.1 58)), (1, .int x1), (2, .int x2), (3, .int x3), (4, .int y0)]) [1, 2, 3, 4, 0] rfl ?_
          exact zb_Mc_runStandard_175 C hR h x1 x2 x3 y0 0 e
        · replace e := zd_neg b6 e
          refine zk_iconst (v := 1) C kd_Mc_runStandard_170 (by decide) rfl ?_
          refine zk_goto (tgt := 175) C kd_Mc_runStandard_171 (by decide) ?_
          refine zk_lvs (lv' := [(0, .ref (S.1 58)), (1, .int x1), (2, .int x2), (3, .int x3), (4, .int y0)]) [1, 2, 3, 4, 0] rfl ?_
          exact zb_Mc_runStandard_175 C hR h x1 x2 x3 y0 1 e
      · replace e := zd_neg b3 e
        refine zk_aload_n C kd_Mc_runStandard_69 rfl 1 rfl rfl ?_
        refine zk_iload_n C kd_Mc_runStandard_70 rfl 3 rfl rfl ?_
        refine zk_iconst (v := 2) C kd_Mc_runStandard_71 (by decide) rfl ?_
        refine zk_iadd C kd_Mc_runStandard_72 rfl ?_
        obtain ⟨v8, c7, e⟩ := zd_b e
        refine zs_callV (k := 58) (rn := { frames := 0, cells := 0, slots := 0, locals := 0 }) (As := [.int (x2 + 2)]) (rest := []) C (zc_Mc_cellAt h (x2 + 2) c7) ku_Mc_cellAt kw1534 kv_Mc_cellAt rfl ⟨by decide, by decide⟩ ⟨by decide, by decide⟩ rfl rfl rfl (Nat.le_of_ble_eq_true rfl) kd_Mc_runStandard_73 rfl (c1 := 0) (s1 := 0) rfl rfl (fun v w hp => ?_)
        obtain ⟨rfl, rfl⟩ := hp
        refine zk_stk (r' := [.int v8]) rfl ?_
        refine zk_if_eq (tgt := 83) C kd_Mc_runStandard_76 (by decide) rfl (fun b9 => ?_) (fun b9 => ?_)
        · replace e := zd_pos b9 e
          refine zk_iconst (v := 0) C kd_Mc_runStandard_83 (by decide) rfl ?_
          refine zk_lvs (lv' := [(0, .ref (S.1 58)), (1, .int x1), (2, .int x2), (3, .int x3)]) [1, 2, 3, 4] rfl ?_
          exact zb_Mc_runStandard_84 C hR h x1 x2 x3 0 e
        · replace e := zd_neg b9 e
          refine zk_iconst (v := 1) C kd_Mc_runStandard_79 (by decide) rfl ?_
          refine zk_goto (tgt := 84) C kd_Mc_runStandard_80 (by decide) ?_
          refine zk_lvs (lv' := [(0, .ref (S.1 58)), (1, .int x1), (2, .int x2), (3, .int x3)]) [1, 2, 3, 4] rfl ?_
          exact zb_Mc_runStandard_84 C hR h x1 x2 x3 1 e
    · replace e := zd_neg b2 e
      refine zk_aload_n C kd_Mc_runStandard_51 rfl 1 rfl rfl ?_
      refine zk_iload_n C kd_Mc_runStandard_52 rfl 2 rfl rfl ?_
      refine zk_iload_n C kd_Mc_runStandard_53 rfl 3 rfl rfl ?_
      refine zk_iload_n C kd_Mc_runStandard_54 rfl 4 rfl rfl ?_
      refine zk_iload C kd_Mc_runStandard_55 0 rfl rfl ?_
      obtain ⟨h11, c10, e⟩ := zd_b e
      refine zs_callV (k := 58) (rn := { frames := 1, cells := 0, slots := 0, locals := 22 }) (As := [.int x1, .int x2, .int x3, .int y0]) (rest := []) C (zc_Mc_runCounter h x1 x2 x3 y0 c10) ku_Mc_runCounter kw1567 kv_Mc_runCounter rfl ⟨by decide, by decide⟩ ⟨by decide, by decide⟩ rfl rfl rfl (Nat.le_of_ble_eq_true rfl) kd_Mc_runStandard_57 rfl (c1 := 0) (s1 := 0) rfl rfl (fun v w hp => ?_)
      obtain ⟨rfl, rfl⟩ := hp
      refine zk_stk (r' := []) rfl ?_
      refine zk_goto (tgt := 243) C kd_Mc_runStandard_60 (by decide) ?_
      exact zk_vret C hR kd_Mc_runStandard_243 rfl rfl (zd_rV e)
  · replace e := zd_neg b1 e
    refine zk_aload_n C kd_Mc_runStandard_36 rfl 1 rfl rfl ?_
    refine zk_iload_n C kd_Mc_runStandard_37 rfl 2 rfl rfl ?_
    refine zk_iload_n C kd_Mc_runStandard_38 rfl 3 rfl rfl ?_
    refine zk_iload_n C kd_Mc_runStandard_39 rfl 4 rfl rfl ?_
    obtain ⟨h13, c12, e⟩ := zd_b e
    refine zs_callV (k := 58) (rn := { frames := 1, cells := 0, slots := 0, locals := 23 }) (As := [.int x1, .int x2, .int x3]) (rest := []) C (zc_Mc_runTimer h x1 x2 x3 c12) ku_Mc_runTimer kw1561 kv_Mc_runTimer rfl ⟨by decide, by decide⟩ ⟨by decide, by decide⟩ rfl rfl rfl (Nat.le_of_ble_eq_true rfl) kd_Mc_runStandard_40 rfl (c1 := 0) (s1 := 0) rfl rfl (fun v w hp => ?_)
    obtain ⟨rfl, rfl⟩ := hp
    refine zk_stk (r' := []) rfl ?_
    refine zk_goto (tgt := 243) C kd_Mc_runStandard_43 (by decide) ?_
    exact zk_vret C hR kd_Mc_runStandard_243 rfl rfl (zd_rV e)
set_option maxHeartbeats 4000000 in
set_option maxRecDepth 100000 in
theorem zb_Mc_runStandard_13 {X : zkj_T} {S : zs_T} {P : ze_T} {l : Launch} {D : va_G} {sz0 : Nat} {rh : zs_H} (C : zk_C X km_Mc_runStandard (zs_G S l D sz0) { frames := 2, cells := 0, slots := 0, locals := 53 } (ze_E P)) (hR : zkj_R X (zd_PV S rh) (none)) (h : zs_H) (x1 : Int32) (x2 : Int32) (y0 : Int32) (e : f_Mc_runStandard_13 h x1 x2 y0 = some rh) : zk_Ab X (zs_W S h) 0 0 13 [(0, .ref (S.1 58)), (1, .int x1), (2, .int x2)] [.int y0] := by
  unfold f_Mc_runStandard_13 at e
  refine zk_istore_n (lv' := [(3, _), (0, _), (1, _), (2, _)]) C kd_Mc_runStandard_13 rfl (by decide) rfl rfl ?_
  refine zk_aload_n C kd_Mc_runStandard_14 rfl 1 rfl rfl ?_
  refine zk_iload_n C kd_Mc_runStandard_15 rfl 3 rfl rfl ?_
  refine zk_iconst (v := 1) C kd_Mc_runStandard_16 (by decide) rfl ?_
  refine zk_iadd C kd_Mc_runStandard_17 rfl ?_
  obtain ⟨v2, c1, e⟩ := zd_b e
  refine zs_callV (k := 58) (rn := { frames := 0, cells := 0, slots := 0, locals := 0 }) (As := [.int (x2 + 1)]) (rest := []) C (zc_Mc_cellAt h (x2 + 1) c1) ku_Mc_cellAt kw1534 kv_Mc_cellAt rfl ⟨by decide, by decide⟩ ⟨by decide, by decide⟩ rfl rfl rfl (Nat.le_of_ble_eq_true rfl) kd_Mc_runStandard_18 rfl (c1 := 0) (s1 := 0) rfl rfl (fun v w hp => ?_)
  obtain ⟨rfl, rfl⟩ := hp
  refine zk_stk (r' := [.int v2]) rfl ?_
  refine zk_if_eq (tgt := 28) C kd_Mc_runStandard_21 (by decide) rfl (fun b3 => ?_) (fun b3 => ?_)
  · replace e := zd_pos b3 e
    refine zk_iconst (v := 0) C kd_Mc_runStandard_28 (by decide) rfl ?_
    refine zk_lvs (lv' := [(0, .ref (S.1 58)), (1, .int x1), (2, .int x2), (3, .int y0)]) [1, 2, 3, 0] rfl ?_
    exact zb_Mc_runStandard_29 C hR h x1 x2 y0 0 e
  · replace e := zd_neg b3 e
    refine zk_iconst (v := 1) C kd_Mc_runStandard_24 (by decide) rfl ?_
    refine zk_goto (tgt := 29) C kd_Mc_runStandard_25 (by decide) ?_
    refine zk_lvs (lv' := [(0, .ref (S.1 58)), (1, .int x1), (2, .int x2), (3, .int y0)]) [1, 2, 3, 0] rfl ?_
    exact zb_Mc_runStandard_29 C hR h x1 x2 y0 1 e
set_option maxHeartbeats 4000000 in
set_option maxRecDepth 100000 in
theorem zc_Mc_runStandard {l : Launch} {D : va_G} {sz0 : Nat} {S : zs_T} {P : ze_T} (h : zs_H) (x1 : Int32) (x2 : Int32) {rh : zs_H} (e : f_Mc_runStandard h x1 x2 = some rh) : zk_Sp (zs_G S l D sz0) (ze_E P) km_Mc_runStandard { frames := 2, cells := 0, slots := 0, locals := 53 } [.ref (S.1 58), .int x1, .int x2] (zs_W S h) (zd_PV S rh) := by
  refine zk_met ku_Mc_runStandard (Nat.le_of_ble_eq_true rfl) (ze_Em P) ?_
  intro X C hR
  refine zk_lvs (lv' := [(0, .ref (S.1 58)), (1, .int x1), (2, .int x2)]) [0, 1, 2] rfl ?_
  unfold f_Mc_runStandard at e
  refine zk_aload_n C kd_Mc_runStandard_0 rfl 0 rfl rfl ?_
  refine zk_iload_n C kd_Mc_runStandard_1 rfl 2 rfl rfl ?_
  obtain ⟨v2, c1, e⟩ := zd_b e
  refine zs_callV (k := 58) (rn := { frames := 0, cells := 0, slots := 0, locals := 0 }) (As := [.int x2]) (rest := []) C (zc_Mc_cellAt h x2 c1) ku_Mc_cellAt kw1534 kv_Mc_cellAt rfl ⟨by decide, by decide⟩ ⟨by decide, by decide⟩ rfl rfl rfl (Nat.le_of_ble_eq_true rfl) kd_Mc_runStandard_2 rfl (c1 := 0) (s1 := 0) rfl rfl (fun v w hp => ?_)
  obtain ⟨rfl, rfl⟩ := hp
  refine zk_stk (r' := [.int v2]) rfl ?_
  refine zk_if_eq (tgt := 12) C kd_Mc_runStandard_5 (by decide) rfl (fun b3 => ?_) (fun b3 => ?_)
  · replace e := zd_pos b3 e
    refine zk_iconst (v := 0) C kd_Mc_runStandard_12 (by decide) rfl ?_
    refine zk_lvs (lv' := [(0, .ref (S.1 58)), (1, .int x1), (2, .int x2)]) [0, 1, 2] rfl ?_
    exact zb_Mc_runStandard_13 C hR h x1 x2 0 e
  · replace e := zd_neg b3 e
    refine zk_iconst (v := 1) C kd_Mc_runStandard_8 (by decide) rfl ?_
    refine zk_goto (tgt := 13) C kd_Mc_runStandard_9 (by decide) ?_
    refine zk_lvs (lv' := [(0, .ref (S.1 58)), (1, .int x1), (2, .int x2)]) [0, 1, 2] rfl ?_
    exact zb_Mc_runStandard_13 C hR h x1 x2 1 e
set_option maxHeartbeats 4000000 in
set_option maxRecDepth 100000 in
theorem zb_Mc_move_88 {X : zkj_T} {S : zs_T} {P : ze_T} {l : Launch} {D : va_G} {sz0 : Nat} {rv : Int32} {rh : zs_H} (C : zk_C X km_Mc_move (zs_G S l D sz0) { frames := 3, cells := 0, slots := 0, locals := 79 } (ze_E P)) (hR : zkj_R X (zd_PI S rv rh) (some .int)) (h : zs_H) (y0 : Int32) (e : f_Mc_move_88 h y0 = some (rv, rh)) : zk_Ab X (zs_W S h) 0 0 88 [] [.int y0, .ref (S.1 58)] := by
  unfold f_Mc_move_88 at e
  refine zs_put (ty := .int) C 58 18 y0 rfl rfl rfl rfl ki_Mc ky_Mc ko_Mc kn_Mc (by decide) kw545 rfl rfl rfl rfl (by decide) kd_Mc_move_88 rfl ?_
  refine zk_goto (tgt := 243) C kd_Mc_move_91 (by decide) ?_
  refine zk_iconst (v := 0) C kd_Mc_move_243 (by decide) rfl ?_
  exact zk_iret C hR kd_Mc_move_244 rfl rfl (zd_rIS e)
set_option maxHeartbeats 4000000 in
set_option maxRecDepth 100000 in
theorem zc_Mc_move {l : Launch} {D : va_G} {sz0 : Nat} {S : zs_T} {P : ze_T} (h : zs_H) (x1 : Int32) {rv : Int32} {rh : zs_H} (e : f_Mc_move h x1 = some (rv, rh)) : zk_Sp (zs_G S l D sz0) (ze_E P) km_Mc_move { frames := 3, cells := 0, slots := 0, locals := 79 } [.ref (S.1 58), .int x1] (zs_W S h) (zd_PI S rv rh) := by
  refine zk_met ku_Mc_move (Nat.le_of_ble_eq_true rfl) (ze_Em P) ?_
  intro X C hR
  refine zk_lvs (lv' := [(0, .ref (S.1 58)), (1, .int x1)]) [0, 1] rfl ?_
  unfold f_Mc_move at e
  refine zk_aload_n C kd_Mc_move_0 rfl 0 rfl rfl ?_
  refine zs_get (v := .ref (S.1 41)) C 58 10 rfl rfl rfl rfl ki_Mc (by decide) kw537 kd_Mc_move_1 rfl ?_
  refine zs_get (v := .ref (S.1 43)) C 41 1 rfl rfl rfl rfl ki_Cd (by decide) kw406 kd_Mc_move_4 rfl ?_
  refine zk_iload_n C kd_Mc_move_7 rfl 1 rfl rfl ?_
  obtain ⟨q1, e⟩ := zd_g e
  refine zs_iald C 43 rfl (zd_vp q1) kd_Mc_move_8 rfl ?_
  refine zk_istore_n (lv' := [(2, _), (0, _), (1, _)]) C kd_Mc_move_9 rfl (by decide) rfl rfl ?_
  refine zk_aload_n C kd_Mc_move_10 rfl 1 rfl rfl ?_
  refine zs_get (v := .ref (S.1 41)) C 58 10 rfl rfl rfl rfl ki_Mc (by decide) kw537 kd_Mc_move_11 rfl ?_
  refine zs_get (v := .ref (S.1 42)) C 41 0 rfl rfl rfl rfl ki_Cd (by decide) kw403 kd_Mc_move_14 rfl ?_
  refine zk_iload_n C kd_Mc_move_17 rfl 2 rfl rfl ?_
  refine zs_bald C 42 rfl (zd_vp q1) kd_Mc_move_18 rfl ?_
  by_cases b2 : (h.2.1 42 x1.toNatClampNeg) = 10
  · replace e := zd_pos b2 e
    refine zk_tableIn (tgt := 64) C kd_Mc_move_19 (by rw [b2]; decide) (by rw [b2]; decide) (by rw [b2]; rfl) (by decide) ?_
    refine zk_aload_n C kd_Mc_move_64 rfl 1 rfl rfl ?_
    refine zk_iload_n C kd_Mc_move_65 rfl 0 rfl rfl ?_
    refine zs_put (ty := .int) C 58 18 (h.2.1 43 x1.toNatClampNeg) rfl rfl rfl rfl ki_Mc ky_Mc ko_Mc kn_Mc (by decide) kw545 rfl rfl rfl rfl (by decide) kd_Mc_move_66 rfl ?_
    refine zk_goto (tgt := 243) C kd_Mc_move_69 (by decide) ?_
    refine zk_iconst (v := 0) C kd_Mc_move_243 (by decide) rfl ?_
    exact zk_iret C hR kd_Mc_move_244 rfl rfl (zd_rIS e)
  replace e := zd_neg b2 e
  by_cases b3 : (h.2.1 42 x1.toNatClampNeg) = 11
  · replace e := zd_pos b3 e
    refine zk_tableIn (tgt := 72) C kd_Mc_move_19 (by rw [b3]; decide) (by rw [b3]; decide) (by rw [b3]; rfl) (by decide) ?_
    refine zk_aload_n C kd_Mc_move_72 rfl 1 rfl rfl ?_
    refine zk_aload_n C kd_Mc_move_73 rfl 1 rfl rfl ?_
    obtain ⟨v5, h6, c4, e⟩ := zd_Be e
    refine zs_callV (k := 58) (rn := { frames := 0, cells := 0, slots := 0, locals := 0 }) (As := []) (rest := [.ref (S.1 58)]) C (zc_Mc_takeOff h c4) ku_Mc_takeOff kw1538 kv_Mc_takeOff rfl ⟨by decide, by decide⟩ ⟨by decide, by decide⟩ rfl rfl rfl (Nat.le_of_ble_eq_true rfl) kd_Mc_move_74 rfl (c1 := 0) (s1 := 0) rfl rfl (fun v w hp => ?_)
    obtain ⟨rfl, rfl⟩ := hp
    refine zk_stk (r' := [.int v5, .ref (S.1 58)]) rfl ?_
    refine zk_if_ne (tgt := 84) C kd_Mc_move_77 (by decide) rfl (fun b7 => ?_) (fun b7 => ?_)
    · replace e := zd_neg b7 e
      refine zk_aload_n C kd_Mc_move_84 rfl 1 rfl rfl ?_
      refine zs_get (v := .int (h6.1 58 18)) C 58 18 rfl rfl rfl rfl ki_Mc (by decide) kw545 kd_Mc_move_85 rfl ?_
      refine zk_lvs (lv' := []) [] rfl ?_
      exact zb_Mc_move_88 C hR h6 (h6.1 58 18) e
    · replace e := zd_pos b7 e
      refine zk_iload_n C kd_Mc_move_80 rfl 0 rfl rfl ?_
      refine zk_goto (tgt := 88) C kd_Mc_move_81 (by decide) ?_
      refine zk_lvs (lv' := []) [] rfl ?_
      exact zb_Mc_move_88 C hR h6 (h.2.1 43 x1.toNatClampNeg) e
  replace e := zd_neg b3 e
  by_cases b8 : (h.2.1 42 x1.toNatClampNeg) = 12
  · replace e := zd_pos b8 e
    refine zk_tableIn (tgt := 94) C kd_Mc_move_19 (by rw [b8]; decide) (by rw [b8]; decide) (by rw [b8]; rfl) (by decide) ?_
    refine zk_aload_n C kd_Mc_move_94 rfl 1 rfl rfl ?_
    refine zk_aload_n C kd_Mc_move_95 rfl 1 rfl rfl ?_
    refine zs_get (v := .int (h.1 58 20)) C 58 20 rfl rfl rfl rfl ki_Mc (by decide) kw547 kd_Mc_move_96 rfl ?_
    refine zk_iload_n C kd_Mc_move_99 rfl 0 rfl rfl ?_
    refine zk_iadd C kd_Mc_move_100 rfl ?_
    refine zk_aload_n C kd_Mc_move_101 rfl 1 rfl rfl ?_
    refine zs_get (v := .ref (S.1 41)) C 58 10 rfl rfl rfl rfl ki_Mc (by decide) kw537 kd_Mc_move_102 rfl ?_
    refine zs_get (v := .ref (S.1 44)) C 41 2 rfl rfl rfl rfl ki_Cd (by decide) kw409 kd_Mc_move_105 rfl ?_
    refine zk_iload_n C kd_Mc_move_108 rfl 2 rfl rfl ?_
    refine zs_iald C 44 rfl (zd_vp q1) kd_Mc_move_109 rfl ?_
    obtain ⟨h10, c9, e⟩ := zd_b e
    refine zs_callV (k := 58) (rn := { frames := 0, cells := 0, slots := 0, locals := 0 }) (As := [.int ((h.1 58 20) + (h.2.1 43 x1.toNatClampNeg)), .int (h.2.1 44 x1.toNatClampNeg)]) (rest := []) C (zc_Mc_become h ((h.1 58 20) + (h.2.1 43 x1.toNatClampNeg)) (h.2.1 44 x1.toNatClampNeg) c9) ku_Mc_become kw1460 kv_Mc_become rfl ⟨by decide, by decide⟩ ⟨by decide, by decide⟩ rfl rfl rfl (Nat.le_of_ble_eq_true rfl) kd_Mc_move_110 rfl (c1 := 0) (s1 := 0) rfl rfl (fun v w hp => ?_)
    obtain ⟨rfl, rfl⟩ := hp
    refine zk_stk (r' := []) rfl ?_
    refine zk_goto (tgt := 243) C kd_Mc_move_113 (by decide) ?_
    refine zk_iconst (v := 0) C kd_Mc_move_243 (by decide) rfl ?_
    exact zk_iret C hR kd_Mc_move_244 rfl rfl (zd_rIS e)
  replace e := zd_neg b8 e
  by_cases b11 : (h.2.1 42 x1.toNatClampNeg) = 13
  · replace e := zd_pos b11 e
    refine zk_tableIn (tgt := 116) C kd_Mc_move_19 (by rw [b11]; decide) (by rw [b11]; decide) (by rw [b11]; rfl) (by decide) ?_
    refine zk_aload_n C kd_Mc_move_116 rfl 1 rfl rfl ?_
    refine zk_aload_n C kd_Mc_move_117 rfl 1 rfl rfl ?_
    refine zs_get (v := .int (h.1 58 20)) C 58 20 rfl rfl rfl rfl ki_Mc (by decide) kw547 kd_Mc_move_118 rfl ?_
    refine zk_aload_n C kd_Mc_move_121 rfl 1 rfl rfl ?_
    refine zs_get (v := .ref (S.1 41)) C 58 10 rfl rfl rfl rfl ki_Mc (by decide) kw537 kd_Mc_move_122 rfl ?_
    refine zs_get (v := .ref (S.1 44)) C 41 2 rfl rfl rfl rfl ki_Cd (by decide) kw409 kd_Mc_move_125 rfl ?_
    refine zk_iload_n C kd_Mc_move_128 rfl 2 rfl rfl ?_
    refine zs_iald C 44 rfl (zd_vp q1) kd_Mc_move_129 rfl ?_
    refine zk_iadd C kd_Mc_move_130 rfl ?_
    obtain ⟨v13, c12, e⟩ := zd_b e
    refine zs_callV (k := 58) (rn := { frames := 0, cells := 0, slots := 0, locals := 0 }) (As := [.int ((h.1 58 20) + (h.2.1 44 x1.toNatClampNeg))]) (rest := []) C (zc_Mc_cellAt h ((h.1 58 20) + (h.2.1 44 x1.toNatClampNeg)) c12) ku_Mc_cellAt kw1534 kv_Mc_cellAt rfl ⟨by decide, by decide⟩ ⟨by decide, by decide⟩ rfl rfl rfl (Nat.le_of_ble_eq_true rfl) kd_Mc_move_131 rfl (c1 := 0) (s1 := 0) rfl rfl (fun v w hp => ?_)
    obtain ⟨rfl, rfl⟩ := hp
    refine zk_stk (r' := [.int v13]) rfl ?_
    refine zk_istore_n (lv' := [(3, _), (2, _), (0, _), (1, _)]) C kd_Mc_move_134 rfl (by decide) rfl rfl ?_
    refine zk_iload_n C kd_Mc_move_135 rfl 0 rfl rfl ?_
    refine zk_if_ne (tgt := 147) C kd_Mc_move_136 (by decide) rfl (fun b14 => ?_) (fun b14 => ?_)
    · replace e := zd_neg b14 e
      refine zk_aload_n C kd_Mc_move_147 rfl 2 rfl rfl ?_
      refine zk_aload_n C kd_Mc_move_148 rfl 2 rfl rfl ?_
      refine zs_get (v := .int (h.1 58 20)) C 58 20 rfl rfl rfl rfl ki_Mc (by decide) kw547 kd_Mc_move_149 rfl ?_
      refine zk_aload_n C kd_Mc_move_152 rfl 2 rfl rfl ?_
      refine zs_get (v := .ref (S.1 41)) C 58 10 rfl rfl rfl rfl ki_Mc (by decide) kw537 kd_Mc_move_153 rfl ?_
      refine zs_get (v := .ref (S.1 44)) C 41 2 rfl rfl rfl rfl ki_Cd (by decide) kw409 kd_Mc_move_156 rfl ?_
      refine zk_iload_n C kd_Mc_move_159 rfl 3 rfl rfl ?_
      refine zs_iald C 44 rfl (zd_vp q1) kd_Mc_move_160 rfl ?_
      refine zk_iadd C kd_Mc_move_161 rfl ?_
      refine zk_iload_n C kd_Mc_move_162 rfl 0 rfl rfl ?_
      refine zk_iconst (v := 1) C kd_Mc_move_163 (by decide) rfl ?_
      refine zk_isub C kd_Mc_move_164 rfl ?_
      obtain ⟨h16, c15, e⟩ := zd_b e
      refine zs_callV (k := 58) (rn := { frames := 0, cells := 0, slots := 0, locals := 0 }) (As := [.int ((h.1 58 20) + (h.2.1 44 x1.toNatClampNeg)), .int (v13 - 1)]) (rest := []) C (zc_Mc_become h ((h.1 58 20) + (h.2.1 44 x1.toNatClampNeg)) (v13 - 1) c15) ku_Mc_become kw1460 kv_Mc_become rfl ⟨by decide, by decide⟩ ⟨by decide, by decide⟩ rfl rfl rfl (Nat.le_of_ble_eq_true rfl) kd_Mc_move_165 rfl (c1 := 0) (s1 := 0) rfl rfl (fun v w hp => ?_)
      obtain ⟨rfl, rfl⟩ := hp
      refine zk_stk (r' := []) rfl ?_
      refine zk_goto (tgt := 243) C kd_Mc_move_168 (by decide) ?_
      refine zk_iconst (v := 0) C kd_Mc_move_243 (by decide) rfl ?_
      exact zk_iret C hR kd_Mc_move_244 rfl rfl (zd_rIS e)
    · replace e := zd_pos b14 e
      refine zk_aload_n C kd_Mc_move_139 rfl 2 rfl rfl ?_
      refine zk_iload_n C kd_Mc_move_140 rfl 1 rfl rfl ?_
      refine zs_put (ty := .int) C 58 18 (h.2.1 43 x1.toNatClampNeg) rfl rfl rfl rfl ki_Mc ky_Mc ko_Mc kn_Mc (by decide) kw545 rfl rfl rfl rfl (by decide) kd_Mc_move_141 rfl ?_
      refine zk_goto (tgt := 243) C kd_Mc_move_144 (by decide) ?_
      refine zk_iconst (v := 0) C kd_Mc_move_243 (by decide) rfl ?_
      exact zk_iret C hR kd_Mc_move_244 rfl rfl (zd_rIS e)
  replace e := zd_neg b11 e
  by_cases b17 : (h.2.1 42 x1.toNatClampNeg) = 14
  · replace e := zd_pos b17 e
    refine zk_tableIn (tgt := 64) C kd_Mc_move_19 (by rw [b17]; decide) (by rw [b17]; decide) (by rw [b17]; rfl) (by decide) ?_
    refine zk_aload_n C kd_Mc_move_64 rfl 1 rfl rfl ?_
    refine zk_iload_n C kd_Mc_move_65 rfl 0 rfl rfl ?_
    refine zs_put (ty := .int) C 58 18 (h.2.1 43 x1.toNatClampNeg) rfl rfl rfl rfl ki_Mc ky_Mc ko_Mc kn_Mc (by decide) kw545 rfl rfl rfl rfl (by decide) kd_Mc_move_66 rfl ?_
    refine zk_goto (tgt := 243) C kd_Mc_move_69 (by decide) ?_
    refine zk_iconst (v := 0) C kd_Mc_move_243 (by decide) rfl ?_
    exact zk_iret C hR kd_Mc_move_244 rfl rfl (zd_rIS e)
  replace e := zd_neg b17 e
  by_cases b18 : (h.2.1 42 x1.toNatClampNeg) = 15
  · replace e := zd_pos b18 e
    refine zk_tableIn (tgt := 171) C kd_Mc_move_19 (by rw [b18]; decide) (by rw [b18]; decide) (by rw [b18]; rfl) (by decide) ?_
    refine zk_aload_n C kd_Mc_move_171 rfl 1 rfl rfl ?_
    refine zk_iload_n C kd_Mc_move_172 rfl 0 rfl rfl ?_
    refine zk_aload_n C kd_Mc_move_173 rfl 1 rfl rfl ?_
    refine zs_get (v := .int (h.1 58 20)) C 58 20 rfl rfl rfl rfl ki_Mc (by decide) kw547 kd_Mc_move_174 rfl ?_
    refine zk_aload_n C kd_Mc_move_177 rfl 1 rfl rfl ?_
    refine zs_get (v := .ref (S.1 41)) C 58 10 rfl rfl rfl rfl ki_Mc (by decide) kw537 kd_Mc_move_178 rfl ?_
    refine zs_get (v := .ref (S.1 44)) C 41 2 rfl rfl rfl rfl ki_Cd (by decide) kw409 kd_Mc_move_181 rfl ?_
    refine zk_iload_n C kd_Mc_move_184 rfl 2 rfl rfl ?_
    refine zs_iald C 44 rfl (zd_vp q1) kd_Mc_move_185 rfl ?_
    refine zk_iadd C kd_Mc_move_186 rfl ?_
    obtain ⟨h20, c19, e⟩ := zd_b e
    refine zs_callV (k := 58) (rn := { frames := 0, cells := 0, slots := 0, locals := 0 }) (As := [.int (h.2.1 43 x1.toNatClampNeg), .int ((h.1 58 20) + (h.2.1 44 x1.toNatClampNeg))]) (rest := []) C (zc_Mc_beginUnit h (h.2.1 43 x1.toNatClampNeg) ((h.1 58 20) + (h.2.1 44 x1.toNatClampNeg)) c19) ku_Mc_beginUnit kw1517 kv_Mc_beginUnit rfl ⟨by decide, by decide⟩ ⟨by decide, by decide⟩ rfl rfl rfl (Nat.le_of_ble_eq_true rfl) kd_Mc_move_187 rfl (c1 := 0) (s1 := 0) rfl rfl (fun v w hp => ?_)
    obtain ⟨rfl, rfl⟩ := hp
    refine zk_stk (r' := []) rfl ?_
    refine zk_goto (tgt := 243) C kd_Mc_move_190 (by decide) ?_
    refine zk_iconst (v := 0) C kd_Mc_move_243 (by decide) rfl ?_
    exact zk_iret C hR kd_Mc_move_244 rfl rfl (zd_rIS e)
  replace e := zd_neg b18 e
  by_cases b21 : (h.2.1 42 x1.toNatClampNeg) = 16
  · replace e := zd_pos b21 e
    refine zk_tableIn (tgt := 193) C kd_Mc_move_19 (by rw [b21]; decide) (by rw [b21]; decide) (by rw [b21]; rfl) (by decide) ?_
    refine zk_aload_n C kd_Mc_move_193 rfl 1 rfl rfl ?_
    refine zk_iload_n C kd_Mc_move_194 rfl 0 rfl rfl ?_
    refine zk_aload_n C kd_Mc_move_195 rfl 1 rfl rfl ?_
    refine zs_get (v := .ref (S.1 20)) C 58 11 rfl rfl rfl rfl ki_Mc (by decide) kw538 kd_Mc_move_196 rfl ?_
    refine zs_get (v := .ref (S.1 27)) C 20 6 rfl rfl rfl rfl ki_Pl (by decide) kw254 kd_Mc_move_199 rfl ?_
    refine zk_bipush (v := 9) C kd_Mc_move_202 (by decide) rfl ?_
    refine zk_iload_n C kd_Mc_move_204 rfl 0 rfl rfl ?_
    refine zk_iadd C kd_Mc_move_205 rfl ?_
    obtain ⟨q22, e⟩ := zd_g e
    refine zs_iald C 27 rfl (zd_vp q22) kd_Mc_move_206 rfl ?_
    obtain ⟨h24, c23, e⟩ := zd_b e
    refine zs_callV (k := 58) (rn := { frames := 0, cells := 0, slots := 0, locals := 0 }) (As := [.int (h.2.1 43 x1.toNatClampNeg), .int (h.2.1 27 (9 + (h.2.1 43 x1.toNatClampNeg)).toNatClampNeg)]) (rest := []) C (zc_Mc_beginUnit h (h.2.1 43 x1.toNatClampNeg) (h.2.1 27 (9 + (h.2.1 43 x1.toNatClampNeg)).toNatClampNeg) c23) ku_Mc_beginUnit kw1517 kv_Mc_beginUnit rfl ⟨by decide, by decide⟩ ⟨by decide, by decide⟩ rfl rfl rfl (Nat.le_of_ble_eq_true rfl) kd_Mc_move_207 rfl (c1 := 0) (s1 := 0) rfl rfl (fun v w hp => ?_)
    obtain ⟨rfl, rfl⟩ := hp
    refine zk_stk (r' := []) rfl ?_
    refine zk_goto (tgt := 243) C kd_Mc_move_210 (by decide) ?_
    refine zk_iconst (v := 0) C kd_Mc_move_243 (by decide) rfl ?_
    exact zk_iret C hR kd_Mc_move_244 rfl rfl (zd_rIS e)
  replace e := zd_neg b21 e
  by_cases b25 : (h.2.1 42 x1.toNatClampNeg) = 17
  · replace e := zd_pos b25 e
    refine zk_tableIn (tgt := 213) C kd_Mc_move_19 (by rw [b25]; decide) (by rw [b25]; decide) (by rw [b25]; rfl) (by decide) ?_
    refine zk_aload_n C kd_Mc_move_213 rfl 1 rfl rfl ?_
    refine zk_iload_n C kd_Mc_move_214 rfl 0 rfl rfl ?_
    refine zk_aload_n C kd_Mc_move_215 rfl 1 rfl rfl ?_
    refine zs_get (v := .int (h.1 58 20)) C 58 20 rfl rfl rfl rfl ki_Mc (by decide) kw547 kd_Mc_move_216 rfl ?_
    refine zk_aload_n C kd_Mc_move_219 rfl 1 rfl rfl ?_
    refine zs_get (v := .ref (S.1 41)) C 58 10 rfl rfl rfl rfl ki_Mc (by decide) kw537 kd_Mc_move_220 rfl ?_
    refine zs_get (v := .ref (S.1 44)) C 41 2 rfl rfl rfl rfl ki_Cd (by decide) kw409 kd_Mc_move_223 rfl ?_
    refine zk_iload_n C kd_Mc_move_226 rfl 2 rfl rfl ?_
    refine zs_iald C 44 rfl (zd_vp q1) kd_Mc_move_227 rfl ?_
    refine zk_iadd C kd_Mc_move_228 rfl ?_
    obtain ⟨h27, c26, e⟩ := zd_b e
    refine zs_callV (k := 58) (rn := { frames := 2, cells := 0, slots := 0, locals := 53 }) (As := [.int (h.2.1 43 x1.toNatClampNeg), .int ((h.1 58 20) + (h.2.1 44 x1.toNatClampNeg))]) (rest := []) C (zc_Mc_runStandard h (h.2.1 43 x1.toNatClampNeg) ((h.1 58 20) + (h.2.1 44 x1.toNatClampNeg)) c26) ku_Mc_runStandard kw1557 kv_Mc_runStandard rfl ⟨by decide, by decide⟩ ⟨by decide, by decide⟩ rfl rfl rfl (Nat.le_of_ble_eq_true rfl) kd_Mc_move_229 rfl (c1 := 0) (s1 := 0) rfl rfl (fun v w hp => ?_)
    obtain ⟨rfl, rfl⟩ := hp
    refine zk_stk (r' := []) rfl ?_
    refine zk_goto (tgt := 243) C kd_Mc_move_232 (by decide) ?_
    refine zk_iconst (v := 0) C kd_Mc_move_243 (by decide) rfl ?_
    exact zk_iret C hR kd_Mc_move_244 rfl rfl (zd_rIS e)
  replace e := zd_neg b25 e
  refine zk_tableOut (tgt := 235) C kd_Mc_move_19 (by have := lv_neT b2 (a := 10) (by decide); have := lv_neT b3 (a := 11) (by decide); have := lv_neT b8 (a := 12) (by decide); have := lv_neT b11 (a := 13) (by decide); have := lv_neT b17 (a := 14) (by decide); have := lv_neT b18 (a := 15) (by decide); have := lv_neT b21 (a := 16) (by decide); have := lv_neT b25 (a := 17) (by decide); omega) (by decide) ?_
  refine zk_aload_n C kd_Mc_move_235 rfl 1 rfl rfl ?_
  refine zk_aload_n C kd_Mc_move_236 rfl 1 rfl rfl ?_
  refine zs_get (v := .int (h.1 58 19)) C 58 19 rfl rfl rfl rfl ki_Mc (by decide) kw546 kd_Mc_move_237 rfl ?_
  refine zs_put (ty := .int) C 58 18 (h.1 58 19) rfl rfl rfl rfl ki_Mc ky_Mc ko_Mc kn_Mc (by decide) kw545 rfl rfl rfl rfl (by decide) kd_Mc_move_240 rfl ?_
  refine zk_iconst (v := 0) C kd_Mc_move_243 (by decide) rfl ?_
  exact zk_iret C hR kd_Mc_move_244 rfl rfl (zd_rIS e)
set_option maxHeartbeats 4000000 in
set_option maxRecDepth 100000 in
theorem zb_Mc_run_117 {X : zkj_T} {S : zs_T} {P : ze_T} {l : Launch} {D : va_G} {sz0 : Nat} {rv : Int32} {rh : zs_H} (C : zk_C X km_Mc_run (zs_G S l D sz0) { frames := 4, cells := 0, slots := 0, locals := 102 } (ze_E P)) (hR : zkj_R X (zd_PI S rv rh) (some .int)) {k25 : zs_H → Int32 → Int32 → (Option (Int32 × zs_H))} (hk25 : ∀ (h : zs_H) (x2 : Int32) (x3 : Int32), k25 h x2 x3 = some (rv, rh) → zk_Ab X (zs_W S h) 0 0 25 [(0, .ref (S.1 58)), (2, .int x2), (3, .int x3)] []) (h : zs_H) (x2 : Int32) (x3 : Int32) (e : f_Mc_run_117 k25 h x2 x3 = some (rv, rh)) : zk_Ab X (zs_W S h) 0 0 117 [(0, .ref (S.1 58)), (2, .int x2), (3, .int x3)] [] := by
  unfold f_Mc_run_117 at e
  refine zk_iinc (v := (x3 + 1)) (lv' := [(3, _), (0, _), (2, _)]) C kd_Mc_run_117 2 rfl rfl (by decide) rfl rfl ?_
  refine zk_goto (tgt := 25) C kd_Mc_run_120 (by decide) ?_
  refine zk_lvs (lv' := [(0, .ref (S.1 58)), (2, .int x2), (3, .int (x3 + 1))]) [1, 2, 0] rfl ?_
  exact hk25 h x2 (x3 + 1) e
set_option maxHeartbeats 4000000 in
set_option maxRecDepth 100000 in
theorem zb_Mc_run_116 {X : zkj_T} {S : zs_T} {P : ze_T} {l : Launch} {D : va_G} {sz0 : Nat} {rv : Int32} {rh : zs_H} (C : zk_C X km_Mc_run (zs_G S l D sz0) { frames := 4, cells := 0, slots := 0, locals := 102 } (ze_E P)) (hR : zkj_R X (zd_PI S rv rh) (some .int)) {k25 : zs_H → Int32 → Int32 → (Option (Int32 × zs_H))} (hk25 : ∀ (h : zs_H) (x2 : Int32) (x3 : Int32), k25 h x2 x3 = some (rv, rh) → zk_Ab X (zs_W S h) 0 0 25 [(0, .ref (S.1 58)), (2, .int x2), (3, .int x3)] []) (h : zs_H) (x3 : Int32) (y0 : Int32) (e : f_Mc_run_116 k25 h x3 y0 = some (rv, rh)) : zk_Ab X (zs_W S h) 0 0 116 [(0, .ref (S.1 58)), (3, .int x3)] [.int y0] := by
  unfold f_Mc_run_116 at e
  refine zk_istore_n (lv' := [(2, _), (0, _), (3, _)]) C kd_Mc_run_116 rfl (by decide) rfl rfl ?_
  refine zk_lvs (lv' := [(0, .ref (S.1 58)), (2, .int y0), (3, .int x3)]) [1, 0, 2] rfl ?_
  exact zb_Mc_run_117 C hR hk25 h y0 x3 e
set_option maxHeartbeats 4000000 in
set_option maxRecDepth 100000 in
theorem zb_Mc_run_25 {X : zkj_T} {S : zs_T} {P : ze_T} {l : Launch} {D : va_G} {sz0 : Nat} {rv : Int32} {rh : zs_H} (C : zk_C X km_Mc_run (zs_G S l D sz0) { frames := 4, cells := 0, slots := 0, locals := 102 } (ze_E P)) (hR : zkj_R X (zd_PI S rv rh) (some .int)) {k25 : zs_H → Int32 → Int32 → (Option (Int32 × zs_H))} (hk25 : ∀ (h : zs_H) (x2 : Int32) (x3 : Int32), k25 h x2 x3 = some (rv, rh) → zk_Ab X (zs_W S h) 0 0 25 [(0, .ref (S.1 58)), (2, .int x2), (3, .int x3)] []) (h : zs_H) (x2 : Int32) (x3 : Int32) (e : f_Mc_run_25 k25 h x2 x3 = some (rv, rh)) : zk_Ab X (zs_W S h) 0 0 25 [(0, .ref (S.1 58)), (2, .int x2), (3, .int x3)] [] := by
  unfold f_Mc_run_25 at e
  refine zk_iload_n C kd_Mc_run_25 rfl 2 rfl rfl ?_
  refine zk_ldc (v := 1000000) C kw1521 kd_Mc_run_26 rfl ?_
  refine zk_icmp_ge (tgt := 123) C kd_Mc_run_28 (by decide) rfl (fun b1 => ?_) (fun b1 => ?_)
  · replace e := zd_pos b1 e
    refine zk_iload_n C kd_Mc_run_123 rfl 1 rfl rfl ?_
    exact zk_iret C hR kd_Mc_run_124 rfl rfl (zd_rIS e)
  · replace e := zd_neg b1 e
    refine zk_aload_n C kd_Mc_run_31 rfl 0 rfl rfl ?_
    refine zs_get (v := .int (h.1 58 17)) C 58 17 rfl rfl rfl rfl ki_Mc (by decide) kw544 kd_Mc_run_32 rfl ?_
    refine zk_if_le (tgt := 123) C kd_Mc_run_35 (by decide) rfl (fun b2 => ?_) (fun b2 => ?_)
    · replace e := zd_pos b2 e
      refine zk_iload_n C kd_Mc_run_123 rfl 1 rfl rfl ?_
      exact zk_iret C hR kd_Mc_run_124 rfl rfl (zd_rIS e)
    · replace e := zd_neg b2 e
      refine zk_iload_n C kd_Mc_run_38 rfl 1 rfl rfl ?_
      refine zk_if_ne (tgt := 123) C kd_Mc_run_39 (by decide) rfl (fun b3 => ?_) (fun b3 => ?_)
      · replace e := zd_neg b3 e
        refine zk_iload_n C kd_Mc_run_123 rfl 1 rfl rfl ?_
        exact zk_iret C hR kd_Mc_run_124 rfl rfl (zd_rIS e)
      · replace e := zd_pos b3 e
        refine zk_aload_n C kd_Mc_run_42 rfl 0 rfl rfl ?_
        refine zs_get (v := .int (h.1 58 18)) C 58 18 rfl rfl rfl rfl ki_Mc (by decide) kw545 kd_Mc_run_43 rfl ?_
        refine zk_aload_n C kd_Mc_run_46 rfl 0 rfl rfl ?_
        refine zs_get (v := .int (h.1 58 19)) C 58 19 rfl rfl rfl rfl ki_Mc (by decide) kw546 kd_Mc_run_47 rfl ?_
        refine zk_icmp_lt (tgt := 60) C kd_Mc_run_50 (by decide) rfl (fun b4 => ?_) (fun b4 => ?_)
        · replace e := zd_pos b4 e
          refine zk_aload_n C kd_Mc_run_60 rfl 0 rfl rfl ?_
          refine zs_get (v := .int (h.1 58 18)) C 58 18 rfl rfl rfl rfl ki_Mc (by decide) kw545 kd_Mc_run_61 rfl ?_
          refine zk_istore (lv' := [(4, _), (0, _), (2, _), (3, _)]) C kd_Mc_run_64 (by decide) rfl rfl ?_
          refine zk_aload_n C kd_Mc_run_66 rfl 1 rfl rfl ?_
          refine zk_dup C kd_Mc_run_67 rfl rfl ?_
          refine zs_get (v := .int (h.1 58 18)) C 58 18 rfl rfl rfl rfl ki_Mc (by decide) kw545 kd_Mc_run_68 rfl ?_
          refine zk_iconst (v := 1) C kd_Mc_run_71 (by decide) rfl ?_
          refine zk_iadd C kd_Mc_run_72 rfl ?_
          refine zs_put (ty := .int) C 58 18 ((h.1 58 18) + 1) rfl rfl rfl rfl ki_Mc ky_Mc ko_Mc kn_Mc (by decide) kw545 rfl rfl rfl rfl (by decide) kd_Mc_run_73 rfl ?_
          refine zk_aload_n C kd_Mc_run_76 rfl 1 rfl rfl ?_
          refine zk_dup C kd_Mc_run_77 rfl rfl ?_
          refine zs_get (v := .int (h.1 58 6)) C 58 6 rfl rfl rfl rfl ki_Mc (by decide) kw529 kd_Mc_run_78 rfl ?_
          refine zk_iconst (v := 1) C kd_Mc_run_81 (by decide) rfl ?_
          refine zk_iadd C kd_Mc_run_82 rfl ?_
          refine zs_put (ty := .int) C 58 6 ((h.1 58 6) + 1) rfl rfl rfl rfl ki_Mc ky_Mc ko_Mc kn_Mc (by decide) kw529 rfl rfl rfl rfl (by decide) kd_Mc_run_83 rfl ?_
          refine zk_aload_n C kd_Mc_run_86 rfl 1 rfl rfl ?_
          refine zs_get (v := .ref (S.1 41)) C 58 10 rfl rfl rfl rfl ki_Mc (by decide) kw537 kd_Mc_run_87 rfl ?_
          refine zs_get (v := .ref (S.1 42)) C 41 0 rfl rfl rfl rfl ki_Cd (by decide) kw403 kd_Mc_run_90 rfl ?_
          refine zk_iload C kd_Mc_run_93 0 rfl rfl ?_
          obtain ⟨q5, e⟩ := zd_g e
          refine zs_bald C 42 rfl (zd_vp q5) kd_Mc_run_95 rfl ?_
          refine zk_stk (r' := [.int (h.2.1 42 (h.1 58 18).toNatClampNeg)]) rfl ?_
          refine zk_bipush (v := 10) C kd_Mc_run_96 (by decide) rfl ?_
          refine zk_icmp_ge (tgt := 110) C kd_Mc_run_98 (by decide) rfl (fun b6 => ?_) (fun b6 => ?_)
          · replace e := zd_pos b6 e
            refine zk_aload_n C kd_Mc_run_110 rfl 1 rfl rfl ?_
            refine zk_iload C kd_Mc_run_111 0 rfl rfl ?_
            obtain ⟨v8, h9, c7, e⟩ := zd_Be e
            refine zs_callV (k := 58) (rn := { frames := 3, cells := 0, slots := 0, locals := 79 }) (As := [.int (h.1 58 18)]) (rest := []) C (zc_Mc_move (zs_uF (zs_uF h 58 18 ((h.1 58 18) + 1)) 58 6 ((h.1 58 6) + 1)) (h.1 58 18) c7) ku_Mc_move kw1553 kv_Mc_move rfl ⟨by decide, by decide⟩ ⟨by decide, by decide⟩ rfl rfl rfl (Nat.le_of_ble_eq_true rfl) kd_Mc_run_113 rfl (c1 := 0) (s1 := 0) rfl rfl (fun v w hp => ?_)
            obtain ⟨rfl, rfl⟩ := hp
            refine zk_stk (r' := [.int v8]) rfl ?_
            refine zk_lvs (lv' := [(0, .ref (S.1 58)), (3, .int x3)]) [1, 3] rfl ?_
            exact zb_Mc_run_116 C hR hk25 h9 x3 v8 e
          · replace e := zd_neg b6 e
            refine zk_aload_n C kd_Mc_run_101 rfl 1 rfl rfl ?_
            refine zk_iload C kd_Mc_run_102 0 rfl rfl ?_
            obtain ⟨v11, h12, c10, e⟩ := zd_Be e
            refine zs_callV (k := 58) (rn := { frames := 3, cells := 0, slots := 0, locals := 68 }) (As := [.int (h.1 58 18)]) (rest := []) C (zc_Mc_compute (zs_uF (zs_uF h 58 18 ((h.1 58 18) + 1)) 58 6 ((h.1 58 6) + 1)) (h.1 58 18) c10) ku_Mc_compute kw1526 kv_Mc_compute rfl ⟨by decide, by decide⟩ ⟨by decide, by decide⟩ rfl rfl rfl (Nat.le_of_ble_eq_true rfl) kd_Mc_run_104 rfl (c1 := 0) (s1 := 0) rfl rfl (fun v w hp => ?_)
            obtain ⟨rfl, rfl⟩ := hp
            refine zk_stk (r' := [.int v11]) rfl ?_
            refine zk_goto (tgt := 116) C kd_Mc_run_107 (by decide) ?_
            refine zk_lvs (lv' := [(0, .ref (S.1 58)), (3, .int x3)]) [1, 3] rfl ?_
            exact zb_Mc_run_116 C hR hk25 h12 x3 v11 e
        · replace e := zd_neg b4 e
          refine zk_aload_n C kd_Mc_run_53 rfl 0 rfl rfl ?_
          obtain ⟨h14, c13, e⟩ := zd_b e
          refine zs_callV (k := 58) (rn := { frames := 0, cells := 0, slots := 0, locals := 0 }) (As := []) (rest := []) C (zc_Mc_endUnit h c13) ku_Mc_endUnit kw1522 kv_Mc_endUnit rfl ⟨by decide, by decide⟩ ⟨by decide, by decide⟩ rfl rfl rfl (Nat.le_of_ble_eq_true rfl) kd_Mc_run_54 rfl (c1 := 0) (s1 := 0) rfl rfl (fun v w hp => ?_)
          obtain ⟨rfl, rfl⟩ := hp
          refine zk_stk (r' := []) rfl ?_
          refine zk_goto (tgt := 117) C kd_Mc_run_57 (by decide) ?_
          refine zk_lvs (lv' := [(0, .ref (S.1 58)), (2, .int x2), (3, .int x3)]) [0, 1, 2] rfl ?_
          exact zb_Mc_run_117 C hR hk25 h14 x2 x3 e
theorem zl_Mc_run_25 {X : zkj_T} {S : zs_T} {P : ze_T} {l : Launch} {D : va_G} {sz0 : Nat} {rv : Int32} {rh : zs_H} (C : zk_C X km_Mc_run (zs_G S l D sz0) { frames := 4, cells := 0, slots := 0, locals := 102 } (ze_E P)) (hR : zkj_R X (zd_PI S rv rh) (some .int)) (n : Nat) : ∀ (h : zs_H) (x2 : Int32) (x3 : Int32), f_Mc_run_L25 n h x2 x3 = some (rv, rh) → zk_Ab X (zs_W S h) 0 0 25 [(0, .ref (S.1 58)), (2, .int x2), (3, .int x3)] [] := by
  induction n with
  | zero => intro h x2 x3 e; exact zd_no e
  | succ n ih => intro h x2 x3 e; exact zb_Mc_run_25 (k25 := f_Mc_run_L25  n) C hR ih h x2 x3 e
set_option maxHeartbeats 4000000 in
set_option maxRecDepth 100000 in
theorem zc_Mc_run {l : Launch} {D : va_G} {sz0 : Nat} {S : zs_T} {P : ze_T} (h : zs_H) (x1 : Int32) {rv : Int32} {rh : zs_H} (e : f_Mc_run h x1 = some (rv, rh)) : zk_Sp (zs_G S l D sz0) (ze_E P) km_Mc_run { frames := 4, cells := 0, slots := 0, locals := 102 } [.ref (S.1 58), .int x1] (zs_W S h) (zd_PI S rv rh) := by
  refine zk_met ku_Mc_run (Nat.le_of_ble_eq_true rfl) (ze_Em P) ?_
  intro X C hR
  refine zk_lvs (lv' := [(0, .ref (S.1 58)), (1, .int x1)]) [0, 1] rfl ?_
  unfold f_Mc_run at e
  refine zk_aload_n C kd_Mc_run_0 rfl 0 rfl rfl ?_
  refine zk_iconst (v := 0) C kd_Mc_run_1 (by decide) rfl ?_
  refine zs_put (ty := .int) C 58 6 0 rfl rfl rfl rfl ki_Mc ky_Mc ko_Mc kn_Mc (by decide) kw529 rfl rfl rfl rfl (by decide) kd_Mc_run_2 rfl ?_
  refine zk_aload_n C kd_Mc_run_5 rfl 0 rfl rfl ?_
  refine zk_iconst (v := 0) C kd_Mc_run_6 (by decide) rfl ?_
  refine zs_put (ty := .int) C 58 14 0 rfl rfl rfl rfl ki_Mc ky_Mc ko_Mc kn_Mc (by decide) kw541 rfl rfl rfl rfl (by decide) kd_Mc_run_7 rfl ?_
  refine zk_aload_n C kd_Mc_run_10 rfl 0 rfl rfl ?_
  refine zk_iconst (v := 0) C kd_Mc_run_11 (by decide) rfl ?_
  refine zs_put (ty := .int) C 58 17 0 rfl rfl rfl rfl ki_Mc ky_Mc ko_Mc kn_Mc (by decide) kw544 rfl rfl rfl rfl (by decide) kd_Mc_run_12 rfl ?_
  refine zk_aload_n C kd_Mc_run_15 rfl 0 rfl rfl ?_
  refine zk_iload_n C kd_Mc_run_16 rfl 1 rfl rfl ?_
  refine zk_iconst (v := 0) C kd_Mc_run_17 (by decide) rfl ?_
  obtain ⟨h2, c1, e⟩ := zd_b e
  refine zs_callV (k := 58) (rn := { frames := 0, cells := 0, slots := 0, locals := 0 }) (As := [.int x1, .int 0]) (rest := []) C (zc_Mc_beginUnit (zs_uF (zs_uF (zs_uF h 58 6 0) 58 14 0) 58 17 0) x1 0 c1) ku_Mc_beginUnit kw1517 kv_Mc_beginUnit rfl ⟨by decide, by decide⟩ ⟨by decide, by decide⟩ rfl rfl rfl (Nat.le_of_ble_eq_true rfl) kd_Mc_run_18 rfl (c1 := 0) (s1 := 0) rfl rfl (fun v w hp => ?_)
  obtain ⟨rfl, rfl⟩ := hp
  refine zk_stk (r' := []) rfl ?_
  refine zk_iconst (v := 0) C kd_Mc_run_21 (by decide) rfl ?_
  refine zk_istore_n (lv' := [(2, _), (0, _), (1, _)]) C kd_Mc_run_22 rfl (by decide) rfl rfl ?_
  refine zk_iconst (v := 0) C kd_Mc_run_23 (by decide) rfl ?_
  refine zk_istore_n (lv' := [(3, _), (2, _), (0, _), (1, _)]) C kd_Mc_run_24 rfl (by decide) rfl rfl ?_
  refine zk_lvs (lv' := [(0, .ref (S.1 58)), (2, .int 0), (3, .int 0)]) [2, 1, 0] rfl ?_
  exact zl_Mc_run_25 C hR zF h2 0 0 e
set_option maxHeartbeats 4000000 in
set_option maxRecDepth 100000 in
theorem zb_Mc_publish_c61_36 {X : zkj_T} {S : zs_T} {P : ze_T} {l : Launch} {D : va_G} {sz0 : Nat} {rh : zs_H} (C : zk_C X km_Mc_publish (zs_G S l D sz0) { frames := 0, cells := 0, slots := 0, locals := 0 } (ze_E P)) (hR : zkj_R X (zd_PV S rh) (none)) {k36 : zs_H → Int32 → (Option zs_H)} (hk36 : ∀ (h : zs_H) (x2 : Int32), k36 h x2 = some rh → zk_Ab X (zs_W S h) 0 0 36 [(0, .ref (S.1 58)), (1, .ref (S.1 61)), (2, .int x2)] []) (h : zs_H) (x2 : Int32) (e : f_Mc_publish_c61_36 k36 h x2 = some rh) : zk_Ab X (zs_W S h) 0 0 36 [(0, .ref (S.1 58)), (1, .ref (S.1 61)), (2, .int x2)] [] := by
  unfold f_Mc_publish_c61_36 at e
  refine zk_iload_n C kd_Mc_publish_36 rfl 2 rfl rfl ?_
  refine ze_getsN (j := 3) (host := "PlantKeeper") C rfl (by decide +kernel) kd_Mc_publish_37 rfl ?_
  refine zk_iconst (v := 5) C kd_Mc_publish_40 (by decide) rfl ?_
  refine ze_ti C rfl (zp_dec rfl) kd_Mc_publish_41 rfl ?_
  refine zk_stk (r' := [.int 896, .int x2]) rfl ?_
  refine zk_icmp_ge (tgt := 60) C kd_Mc_publish_42 (by decide) rfl (fun b1 => ?_) (fun b1 => ?_)
  · replace e := zd_pos b1 e
    exact zk_vret C hR kd_Mc_publish_60 rfl rfl (zd_rV e)
  · replace e := zd_neg b1 e
    refine zk_aload_n C kd_Mc_publish_45 rfl 0 rfl rfl ?_
    refine zs_get (v := .ref (S.1 60)) C 58 1 rfl rfl rfl rfl ki_Mc (by decide) kw519 kd_Mc_publish_46 rfl ?_
    refine zk_iload_n C kd_Mc_publish_49 rfl 2 rfl rfl ?_
    refine zk_aload_n C kd_Mc_publish_50 rfl 1 rfl rfl ?_
    refine zk_iload_n C kd_Mc_publish_51 rfl 2 rfl rfl ?_
    obtain ⟨q2, e⟩ := zd_g e
    refine zs_iald C 61 rfl (zd_vp q2) kd_Mc_publish_52 rfl ?_
    refine zs_iast C 60 rfl (zd_vp q2) kd_Mc_publish_53 rfl ?_
    refine zk_iinc (v := (x2 + 1)) (lv' := [(2, _), (0, _), (1, _)]) C kd_Mc_publish_54 2 rfl rfl (by decide) rfl rfl ?_
    refine zk_goto (tgt := 36) C kd_Mc_publish_57 (by decide) ?_
    refine zk_lvs (lv' := [(0, .ref (S.1 58)), (1, .ref (S.1 61)), (2, .int (x2 + 1))]) [1, 2, 0] rfl ?_
    exact hk36 (zs_uM h 60 x2.toNatClampNeg (h.2.1 61 x2.toNatClampNeg)) (x2 + 1) e
theorem zl_Mc_publish_c61_36 {X : zkj_T} {S : zs_T} {P : ze_T} {l : Launch} {D : va_G} {sz0 : Nat} {rh : zs_H} (C : zk_C X km_Mc_publish (zs_G S l D sz0) { frames := 0, cells := 0, slots := 0, locals := 0 } (ze_E P)) (hR : zkj_R X (zd_PV S rh) (none)) (n : Nat) : ∀ (h : zs_H) (x2 : Int32), f_Mc_publish_c61_L36 n h x2 = some rh → zk_Ab X (zs_W S h) 0 0 36 [(0, .ref (S.1 58)), (1, .ref (S.1 61)), (2, .int x2)] [] := by
  induction n with
  | zero => intro h x2 e; exact zd_no e
  | succ n ih => intro h x2 e; exact zb_Mc_publish_c61_36 (k36 := f_Mc_publish_c61_L36  n) C hR ih h x2 e
set_option maxHeartbeats 4000000 in
set_option maxRecDepth 100000 in
theorem zb_Mc_publish_c61_6 {X : zkj_T} {S : zs_T} {P : ze_T} {l : Launch} {D : va_G} {sz0 : Nat} {rh : zs_H} (C : zk_C X km_Mc_publish (zs_G S l D sz0) { frames := 0, cells := 0, slots := 0, locals := 0 } (ze_E P)) (hR : zkj_R X (zd_PV S rh) (none)) {k6 : zs_H → Int32 → (Option zs_H)} (hk6 : ∀ (h : zs_H) (x2 : Int32), k6 h x2 = some rh → zk_Ab X (zs_W S h) 0 0 6 [(0, .ref (S.1 58)), (1, .ref (S.1 61)), (2, .int x2)] []) (h : zs_H) (x2 : Int32) (e : f_Mc_publish_c61_6 k6 h x2 = some rh) : zk_Ab X (zs_W S h) 0 0 6 [(0, .ref (S.1 58)), (1, .ref (S.1 61)), (2, .int x2)] [] := by
  unfold f_Mc_publish_c61_6 at e
  refine zk_iload_n C kd_Mc_publish_6 rfl 2 rfl rfl ?_
  refine ze_getsN (j := 3) (host := "PlantKeeper") C rfl (by decide +kernel) kd_Mc_publish_7 rfl ?_
  refine zk_iconst (v := 2) C kd_Mc_publish_10 (by decide) rfl ?_
  refine ze_ti C rfl (zp_dec rfl) kd_Mc_publish_11 rfl ?_
  refine zk_stk (r' := [.int 512, .int x2]) rfl ?_
  refine zk_icmp_ge (tgt := 30) C kd_Mc_publish_12 (by decide) rfl (fun b1 => ?_) (fun b1 => ?_)
  · replace e := zd_pos b1 e
    refine ze_getsN (j := 3) (host := "PlantKeeper") C rfl (by decide +kernel) kd_Mc_publish_30 rfl ?_
    refine zk_iconst (v := 4) C kd_Mc_publish_33 (by decide) rfl ?_
    refine ze_ti C rfl (zp_dec rfl) kd_Mc_publish_34 rfl ?_
    refine zk_stk (r' := [.int 832]) rfl ?_
    refine zk_istore_n (lv' := [(2, _), (0, _), (1, _)]) C kd_Mc_publish_35 rfl (by decide) rfl rfl ?_
    refine zk_lvs (lv' := [(0, .ref (S.1 58)), (1, .ref (S.1 61)), (2, .int 832)]) [1, 2, 0] rfl ?_
    exact zl_Mc_publish_c61_36 C hR zF h 832 e
  · replace e := zd_neg b1 e
    refine zk_aload_n C kd_Mc_publish_15 rfl 0 rfl rfl ?_
    refine zs_get (v := .ref (S.1 60)) C 58 1 rfl rfl rfl rfl ki_Mc (by decide) kw519 kd_Mc_publish_16 rfl ?_
    refine zk_iload_n C kd_Mc_publish_19 rfl 2 rfl rfl ?_
    refine zk_aload_n C kd_Mc_publish_20 rfl 1 rfl rfl ?_
    refine zk_iload_n C kd_Mc_publish_21 rfl 2 rfl rfl ?_
    obtain ⟨q2, e⟩ := zd_g e
    refine zs_iald C 61 rfl (zd_vp q2) kd_Mc_publish_22 rfl ?_
    refine zs_iast C 60 rfl (zd_vp q2) kd_Mc_publish_23 rfl ?_
    refine zk_iinc (v := (x2 + 1)) (lv' := [(2, _), (0, _), (1, _)]) C kd_Mc_publish_24 2 rfl rfl (by decide) rfl rfl ?_
    refine zk_goto (tgt := 6) C kd_Mc_publish_27 (by decide) ?_
    refine zk_lvs (lv' := [(0, .ref (S.1 58)), (1, .ref (S.1 61)), (2, .int (x2 + 1))]) [1, 2, 0] rfl ?_
    exact hk6 (zs_uM h 60 x2.toNatClampNeg (h.2.1 61 x2.toNatClampNeg)) (x2 + 1) e
theorem zl_Mc_publish_c61_6 {X : zkj_T} {S : zs_T} {P : ze_T} {l : Launch} {D : va_G} {sz0 : Nat} {rh : zs_H} (C : zk_C X km_Mc_publish (zs_G S l D sz0) { frames := 0, cells := 0, slots := 0, locals := 0 } (ze_E P)) (hR : zkj_R X (zd_PV S rh) (none)) (n : Nat) : ∀ (h : zs_H) (x2 : Int32), f_Mc_publish_c61_L6 n h x2 = some rh → zk_Ab X (zs_W S h) 0 0 6 [(0, .ref (S.1 58)), (1, .ref (S.1 61)), (2, .int x2)] [] := by
  induction n with
  | zero => intro h x2 e; exact zd_no e
  | succ n ih => intro h x2 e; exact zb_Mc_publish_c61_6 (k6 := f_Mc_publish_c61_L6  n) C hR ih h x2 e
set_option maxHeartbeats 4000000 in
set_option maxRecDepth 100000 in
theorem zc_Mc_publish_c61 {l : Launch} {D : va_G} {sz0 : Nat} {S : zs_T} {P : ze_T} (h : zs_H) {rh : zs_H} (e : f_Mc_publish_c61 h = some rh) : zk_Sp (zs_G S l D sz0) (ze_E P) km_Mc_publish { frames := 0, cells := 0, slots := 0, locals := 0 } [.ref (S.1 58), .ref (S.1 61)] (zs_W S h) (zd_PV S rh) := by
  refine zk_met ku_Mc_publish (Nat.le_of_ble_eq_true rfl) (ze_Em P) ?_
  intro X C hR
  refine zk_lvs (lv' := [(0, .ref (S.1 58)), (1, .ref (S.1 61))]) [0, 1] rfl ?_
  unfold f_Mc_publish_c61 at e
  refine ze_getsN (j := 3) (host := "PlantKeeper") C rfl (by decide +kernel) kd_Mc_publish_0 rfl ?_
  refine zk_iconst (v := 1) C kd_Mc_publish_3 (by decide) rfl ?_
  refine ze_ti C rfl (zp_dec rfl) kd_Mc_publish_4 rfl ?_
  refine zk_stk (r' := [.int 256]) rfl ?_
  refine zk_istore_n (lv' := [(2, _), (0, _), (1, _)]) C kd_Mc_publish_5 rfl (by decide) rfl rfl ?_
  refine zk_lvs (lv' := [(0, .ref (S.1 58)), (1, .ref (S.1 61)), (2, .int 256)]) [1, 2, 0] rfl ?_
  exact zl_Mc_publish_c61_6 C hR zF h 256 e
set_option maxHeartbeats 4000000 in
set_option maxRecDepth 100000 in
theorem zb_Mc_publish_c62_36 {X : zkj_T} {S : zs_T} {P : ze_T} {l : Launch} {D : va_G} {sz0 : Nat} {rh : zs_H} (C : zk_C X km_Mc_publish (zs_G S l D sz0) { frames := 0, cells := 0, slots := 0, locals := 0 } (ze_E P)) (hR : zkj_R X (zd_PV S rh) (none)) {k36 : zs_H → Int32 → (Option zs_H)} (hk36 : ∀ (h : zs_H) (x2 : Int32), k36 h x2 = some rh → zk_Ab X (zs_W S h) 0 0 36 [(0, .ref (S.1 58)), (1, .ref (S.1 62)), (2, .int x2)] []) (h : zs_H) (x2 : Int32) (e : f_Mc_publish_c62_36 k36 h x2 = some rh) : zk_Ab X (zs_W S h) 0 0 36 [(0, .ref (S.1 58)), (1, .ref (S.1 62)), (2, .int x2)] [] := by
  unfold f_Mc_publish_c62_36 at e
  refine zk_iload_n C kd_Mc_publish_36 rfl 2 rfl rfl ?_
  refine ze_getsN (j := 3) (host := "PlantKeeper") C rfl (by decide +kernel) kd_Mc_publish_37 rfl ?_
  refine zk_iconst (v := 5) C kd_Mc_publish_40 (by decide) rfl ?_
  refine ze_ti C rfl (zp_dec rfl) kd_Mc_publish_41 rfl ?_
  refine zk_stk (r' := [.int 896, .int x2]) rfl ?_
  refine zk_icmp_ge (tgt := 60) C kd_Mc_publish_42 (by decide) rfl (fun b1 => ?_) (fun b1 => ?_)
  · replace e := zd_pos b1 e
    exact zk_vret C hR kd_Mc_publish_60 rfl rfl (zd_rV e)
  · replace e := zd_neg b1 e
    refine zk_aload_n C kd_Mc_publish_45 rfl 0 rfl rfl ?_
    refine zs_get (v := .ref (S.1 60)) C 58 1 rfl rfl rfl rfl ki_Mc (by decide) kw519 kd_Mc_publish_46 rfl ?_
    refine zk_iload_n C kd_Mc_publish_49 rfl 2 rfl rfl ?_
    refine zk_aload_n C kd_Mc_publish_50 rfl 1 rfl rfl ?_
    refine zk_iload_n C kd_Mc_publish_51 rfl 2 rfl rfl ?_
    obtain ⟨q2, e⟩ := zd_g e
    refine zs_iald C 62 rfl (zd_vp q2) kd_Mc_publish_52 rfl ?_
    obtain ⟨q3, e⟩ := zd_g e
    refine zs_iast C 60 rfl (zd_vp q3) kd_Mc_publish_53 rfl ?_
    refine zk_iinc (v := (x2 + 1)) (lv' := [(2, _), (0, _), (1, _)]) C kd_Mc_publish_54 2 rfl rfl (by decide) rfl rfl ?_
    refine zk_goto (tgt := 36) C kd_Mc_publish_57 (by decide) ?_
    refine zk_lvs (lv' := [(0, .ref (S.1 58)), (1, .ref (S.1 62)), (2, .int (x2 + 1))]) [1, 2, 0] rfl ?_
    exact hk36 (zs_uM h 60 x2.toNatClampNeg (h.2.1 62 x2.toNatClampNeg)) (x2 + 1) e
theorem zl_Mc_publish_c62_36 {X : zkj_T} {S : zs_T} {P : ze_T} {l : Launch} {D : va_G} {sz0 : Nat} {rh : zs_H} (C : zk_C X km_Mc_publish (zs_G S l D sz0) { frames := 0, cells := 0, slots := 0, locals := 0 } (ze_E P)) (hR : zkj_R X (zd_PV S rh) (none)) (n : Nat) : ∀ (h : zs_H) (x2 : Int32), f_Mc_publish_c62_L36 n h x2 = some rh → zk_Ab X (zs_W S h) 0 0 36 [(0, .ref (S.1 58)), (1, .ref (S.1 62)), (2, .int x2)] [] := by
  induction n with
  | zero => intro h x2 e; exact zd_no e
  | succ n ih => intro h x2 e; exact zb_Mc_publish_c62_36 (k36 := f_Mc_publish_c62_L36  n) C hR ih h x2 e
set_option maxHeartbeats 4000000 in
set_option maxRecDepth 100000 in
theorem zb_Mc_publish_c62_6 {X : zkj_T} {S : zs_T} {P : ze_T} {l : Launch} {D : va_G} {sz0 : Nat} {rh : zs_H} (C : zk_C X km_Mc_publish (zs_G S l D sz0) { frames := 0, cells := 0, slots := 0, locals := 0 } (ze_E P)) (hR : zkj_R X (zd_PV S rh) (none)) {k6 : zs_H → Int32 → (Option zs_H)} (hk6 : ∀ (h : zs_H) (x2 : Int32), k6 h x2 = some rh → zk_Ab X (zs_W S h) 0 0 6 [(0, .ref (S.1 58)), (1, .ref (S.1 62)), (2, .int x2)] []) (h : zs_H) (x2 : Int32) (e : f_Mc_publish_c62_6 k6 h x2 = some rh) : zk_Ab X (zs_W S h) 0 0 6 [(0, .ref (S.1 58)), (1, .ref (S.1 62)), (2, .int x2)] [] := by
  unfold f_Mc_publish_c62_6 at e
  refine zk_iload_n C kd_Mc_publish_6 rfl 2 rfl rfl ?_
  refine ze_getsN (j := 3) (host := "PlantKeeper") C rfl (by decide +kernel) kd_Mc_publish_7 rfl ?_
  refine zk_iconst (v := 2) C kd_Mc_publish_10 (by decide) rfl ?_
  refine ze_ti C rfl (zp_dec rfl) kd_Mc_publish_11 rfl ?_
  refine zk_stk (r' := [.int 512, .int x2]) rfl ?_
  refine zk_icmp_ge (tgt := 30) C kd_Mc_publish_12 (by decide) rfl (fun b1 => ?_) (fun b1 => ?_)
  · replace e := zd_pos b1 e
    refine ze_getsN (j := 3) (host := "PlantKeeper") C rfl (by decide +kernel) kd_Mc_publish_30 rfl ?_
    refine zk_iconst (v := 4) C kd_Mc_publish_33 (by decide) rfl ?_
    refine ze_ti C rfl (zp_dec rfl) kd_Mc_publish_34 rfl ?_
    refine zk_stk (r' := [.int 832]) rfl ?_
    refine zk_istore_n (lv' := [(2, _), (0, _), (1, _)]) C kd_Mc_publish_35 rfl (by decide) rfl rfl ?_
    refine zk_lvs (lv' := [(0, .ref (S.1 58)), (1, .ref (S.1 62)), (2, .int 832)]) [1, 2, 0] rfl ?_
    exact zl_Mc_publish_c62_36 C hR zF h 832 e
  · replace e := zd_neg b1 e
    refine zk_aload_n C kd_Mc_publish_15 rfl 0 rfl rfl ?_
    refine zs_get (v := .ref (S.1 60)) C 58 1 rfl rfl rfl rfl ki_Mc (by decide) kw519 kd_Mc_publish_16 rfl ?_
    refine zk_iload_n C kd_Mc_publish_19 rfl 2 rfl rfl ?_
    refine zk_aload_n C kd_Mc_publish_20 rfl 1 rfl rfl ?_
    refine zk_iload_n C kd_Mc_publish_21 rfl 2 rfl rfl ?_
    obtain ⟨q2, e⟩ := zd_g e
    refine zs_iald C 62 rfl (zd_vp q2) kd_Mc_publish_22 rfl ?_
    obtain ⟨q3, e⟩ := zd_g e
    refine zs_iast C 60 rfl (zd_vp q3) kd_Mc_publish_23 rfl ?_
    refine zk_iinc (v := (x2 + 1)) (lv' := [(2, _), (0, _), (1, _)]) C kd_Mc_publish_24 2 rfl rfl (by decide) rfl rfl ?_
    refine zk_goto (tgt := 6) C kd_Mc_publish_27 (by decide) ?_
    refine zk_lvs (lv' := [(0, .ref (S.1 58)), (1, .ref (S.1 62)), (2, .int (x2 + 1))]) [1, 2, 0] rfl ?_
    exact hk6 (zs_uM h 60 x2.toNatClampNeg (h.2.1 62 x2.toNatClampNeg)) (x2 + 1) e
theorem zl_Mc_publish_c62_6 {X : zkj_T} {S : zs_T} {P : ze_T} {l : Launch} {D : va_G} {sz0 : Nat} {rh : zs_H} (C : zk_C X km_Mc_publish (zs_G S l D sz0) { frames := 0, cells := 0, slots := 0, locals := 0 } (ze_E P)) (hR : zkj_R X (zd_PV S rh) (none)) (n : Nat) : ∀ (h : zs_H) (x2 : Int32), f_Mc_publish_c62_L6 n h x2 = some rh → zk_Ab X (zs_W S h) 0 0 6 [(0, .ref (S.1 58)), (1, .ref (S.1 62)), (2, .int x2)] [] := by
  induction n with
  | zero => intro h x2 e; exact zd_no e
  | succ n ih => intro h x2 e; exact zb_Mc_publish_c62_6 (k6 := f_Mc_publish_c62_L6  n) C hR ih h x2 e
set_option maxHeartbeats 4000000 in
set_option maxRecDepth 100000 in
theorem zc_Mc_publish_c62 {l : Launch} {D : va_G} {sz0 : Nat} {S : zs_T} {P : ze_T} (h : zs_H) {rh : zs_H} (e : f_Mc_publish_c62 h = some rh) : zk_Sp (zs_G S l D sz0) (ze_E P) km_Mc_publish { frames := 0, cells := 0, slots := 0, locals := 0 } [.ref (S.1 58), .ref (S.1 62)] (zs_W S h) (zd_PV S rh) := by
  refine zk_met ku_Mc_publish (Nat.le_of_ble_eq_true rfl) (ze_Em P) ?_
  intro X C hR
  refine zk_lvs (lv' := [(0, .ref (S.1 58)), (1, .ref (S.1 62))]) [0, 1] rfl ?_
  unfold f_Mc_publish_c62 at e
  refine ze_getsN (j := 3) (host := "PlantKeeper") C rfl (by decide +kernel) kd_Mc_publish_0 rfl ?_
  refine zk_iconst (v := 1) C kd_Mc_publish_3 (by decide) rfl ?_
  refine ze_ti C rfl (zp_dec rfl) kd_Mc_publish_4 rfl ?_
  refine zk_stk (r' := [.int 256]) rfl ?_
  refine zk_istore_n (lv' := [(2, _), (0, _), (1, _)]) C kd_Mc_publish_5 rfl (by decide) rfl rfl ?_
  refine zk_lvs (lv' := [(0, .ref (S.1 58)), (1, .ref (S.1 62)), (2, .int 256)]) [1, 2, 0] rfl ?_
  exact zl_Mc_publish_c62_6 C hR zF h 256 e
set_option maxHeartbeats 4000000 in
set_option maxRecDepth 100000 in
theorem zb_Mc_scanBy_74 {X : zkj_T} {S : zs_T} {P : ze_T} {l : Launch} {D : va_G} {sz0 : Nat} {rv : Int32} {rh : zs_H} (C : zk_C X km_Mc_scanBy (zs_G S l D sz0) { frames := 5, cells := 0, slots := 0, locals := 126 } (ze_E P)) (hR : zkj_R X (zd_PI S rv rh) (some .int)) (h : zs_H) (x2 : Int32) (y0 : Int32) (e : f_Mc_scanBy_74 h x2 y0 = some (rv, rh)) : zk_Ab X (zs_W S h) 0 0 74 [(0, .ref (S.1 58)), (2, .int x2)] [.int y0, .ref (S.1 58)] := by
  unfold f_Mc_scanBy_74 at e
  obtain ⟨q1, e⟩ := zd_g e
  refine zs_put (ty := .boolean) C 58 4 y0 rfl rfl rfl rfl ki_Mc ky_Mc ko_Mc kn_Mc (by decide) kw525 rfl rfl (zd_nb q1) (zd_fb q1) (by decide) kd_Mc_scanBy_74 rfl ?_
  refine zk_aload_n C kd_Mc_scanBy_77 rfl 0 rfl rfl ?_
  refine zk_aload_n C kd_Mc_scanBy_78 rfl 0 rfl rfl ?_
  refine zs_get (v := .int y0) C 58 4 rfl rfl rfl rfl ki_Mc (by decide) kw525 kd_Mc_scanBy_79 rfl ?_
  refine zk_if_eq (tgt := 92) C kd_Mc_scanBy_82 (by decide) rfl (fun b2 => ?_) (fun b2 => ?_)
  · replace e := zd_pos b2 e
    refine zk_aload_n C kd_Mc_scanBy_92 rfl 0 rfl rfl ?_
    refine zs_get (v := .ref (S.1 62)) C 58 12 rfl rfl rfl rfl ki_Mc (by decide) kw539 kd_Mc_scanBy_93 rfl ?_
    obtain ⟨h4, c3, e⟩ := zd_b e
    refine zs_callV (k := 58) (rn := { frames := 0, cells := 0, slots := 0, locals := 0 }) (As := [.ref (S.1 62)]) (rest := []) C (zc_Mc_publish_c62 (zs_uF h 58 4 y0) c3) ku_Mc_publish kw1464 kv_Mc_publish rfl ⟨by decide, by decide⟩ ⟨by decide, by decide⟩ rfl rfl rfl (Nat.le_of_ble_eq_true rfl) kd_Mc_scanBy_96 rfl (c1 := 0) (s1 := 0) rfl rfl (fun v w hp => ?_)
    obtain ⟨rfl, rfl⟩ := hp
    refine zk_stk (r' := []) rfl ?_
    refine zk_aload_n C kd_Mc_scanBy_99 rfl 0 rfl rfl ?_
    refine zs_get (v := .int (h4.1 58 4)) C 58 4 rfl rfl rfl rfl ki_Mc (by decide) kw525 kd_Mc_scanBy_100 rfl ?_
    refine zk_if_eq (tgt := 110) C kd_Mc_scanBy_103 (by decide) rfl (fun b5 => ?_) (fun b5 => ?_)
    · replace e := zd_pos b5 e
      refine zk_aload_n C kd_Mc_scanBy_110 rfl 0 rfl rfl ?_
      refine zs_get (v := .int (h4.1 58 6)) C 58 6 rfl rfl rfl rfl ki_Mc (by decide) kw529 kd_Mc_scanBy_111 rfl ?_
      exact zk_iret C hR kd_Mc_scanBy_114 rfl rfl (zd_rIS e)
    · replace e := zd_neg b5 e
      refine zk_iload_n C kd_Mc_scanBy_106 rfl 1 rfl rfl ?_
      refine zk_goto (tgt := 114) C kd_Mc_scanBy_107 (by decide) ?_
      exact zk_iret C hR kd_Mc_scanBy_114 rfl rfl (zd_rIS e)
  · replace e := zd_neg b2 e
    refine zk_aload_n C kd_Mc_scanBy_85 rfl 0 rfl rfl ?_
    refine zs_get (v := .ref (S.1 61)) C 58 2 rfl rfl rfl rfl ki_Mc (by decide) kw520 kd_Mc_scanBy_86 rfl ?_
    refine zk_goto (tgt := 96) C kd_Mc_scanBy_89 (by decide) ?_
    obtain ⟨h7, c6, e⟩ := zd_b e
    refine zs_callV (k := 58) (rn := { frames := 0, cells := 0, slots := 0, locals := 0 }) (As := [.ref (S.1 61)]) (rest := []) C (zc_Mc_publish_c61 (zs_uF h 58 4 y0) c6) ku_Mc_publish kw1464 kv_Mc_publish rfl ⟨by decide, by decide⟩ ⟨by decide, by decide⟩ rfl rfl rfl (Nat.le_of_ble_eq_true rfl) kd_Mc_scanBy_96 rfl (c1 := 0) (s1 := 0) rfl rfl (fun v w hp => ?_)
    obtain ⟨rfl, rfl⟩ := hp
    refine zk_stk (r' := []) rfl ?_
    refine zk_aload_n C kd_Mc_scanBy_99 rfl 0 rfl rfl ?_
    refine zs_get (v := .int (h7.1 58 4)) C 58 4 rfl rfl rfl rfl ki_Mc (by decide) kw525 kd_Mc_scanBy_100 rfl ?_
    refine zk_if_eq (tgt := 110) C kd_Mc_scanBy_103 (by decide) rfl (fun b8 => ?_) (fun b8 => ?_)
    · replace e := zd_pos b8 e
      refine zk_aload_n C kd_Mc_scanBy_110 rfl 0 rfl rfl ?_
      refine zs_get (v := .int (h7.1 58 6)) C 58 6 rfl rfl rfl rfl ki_Mc (by decide) kw529 kd_Mc_scanBy_111 rfl ?_
      exact zk_iret C hR kd_Mc_scanBy_114 rfl rfl (zd_rIS e)
    · replace e := zd_neg b8 e
      refine zk_iload_n C kd_Mc_scanBy_106 rfl 1 rfl rfl ?_
      refine zk_goto (tgt := 114) C kd_Mc_scanBy_107 (by decide) ?_
      exact zk_iret C hR kd_Mc_scanBy_114 rfl rfl (zd_rIS e)
set_option maxHeartbeats 4000000 in
set_option maxRecDepth 100000 in
theorem zb_Mc_scanBy_60 {X : zkj_T} {S : zs_T} {P : ze_T} {l : Launch} {D : va_G} {sz0 : Nat} {rv : Int32} {rh : zs_H} (C : zk_C X km_Mc_scanBy (zs_G S l D sz0) { frames := 5, cells := 0, slots := 0, locals := 126 } (ze_E P)) (hR : zkj_R X (zd_PI S rv rh) (some .int)) (h : zs_H) (x2 : Int32) (y0 : Int32) (y1 : Int32) (e : f_Mc_scanBy_60 h x2 y0 y1 = some (rv, rh)) : zk_Ab X (zs_W S h) 0 0 60 [(0, .ref (S.1 58)), (2, .int x2)] [.int y0, .int y1, .ref (S.1 58)] := by
  unfold f_Mc_scanBy_60 at e
  refine zk_iadd C kd_Mc_scanBy_60 rfl ?_
  refine zs_put (ty := .int) C 58 8 (y1 + y0) rfl rfl rfl rfl ki_Mc ky_Mc ko_Mc kn_Mc (by decide) kw533 rfl rfl rfl rfl (by decide) kd_Mc_scanBy_61 rfl ?_
  refine zk_aload_n C kd_Mc_scanBy_64 rfl 0 rfl rfl ?_
  refine zk_iload_n C kd_Mc_scanBy_65 rfl 1 rfl rfl ?_
  refine zk_if_eq (tgt := 73) C kd_Mc_scanBy_66 (by decide) rfl (fun b1 => ?_) (fun b1 => ?_)
  · replace e := zd_pos b1 e
    refine zk_iconst (v := 0) C kd_Mc_scanBy_73 (by decide) rfl ?_
    refine zk_lvs (lv' := [(0, .ref (S.1 58)), (2, .int x2)]) [0, 1] rfl ?_
    exact zb_Mc_scanBy_74 C hR (zs_uF h 58 8 (y1 + y0)) x2 0 e
  · replace e := zd_neg b1 e
    refine zk_iconst (v := 1) C kd_Mc_scanBy_69 (by decide) rfl ?_
    refine zk_goto (tgt := 74) C kd_Mc_scanBy_70 (by decide) ?_
    refine zk_lvs (lv' := [(0, .ref (S.1 58)), (2, .int x2)]) [0, 1] rfl ?_
    exact zb_Mc_scanBy_74 C hR (zs_uF h 58 8 (y1 + y0)) x2 1 e
set_option maxHeartbeats 4000000 in
set_option maxRecDepth 100000 in
theorem zc_Mc_scanBy {l : Launch} {D : va_G} {sz0 : Nat} {S : zs_T} {P : ze_T} (h : zs_H) (x1 : Int32) {rv : Int32} {rh : zs_H} (e : f_Mc_scanBy h x1 = some (rv, rh)) : zk_Sp (zs_G S l D sz0) (ze_E P) km_Mc_scanBy { frames := 5, cells := 0, slots := 0, locals := 126 } [.ref (S.1 58), .int x1] (zs_W S h) (zd_PI S rv rh) := by
  refine zk_met ku_Mc_scanBy (Nat.le_of_ble_eq_true rfl) (ze_Em P) ?_
  intro X C hR
  refine zk_lvs (lv' := [(0, .ref (S.1 58)), (1, .int x1)]) [0, 1] rfl ?_
  unfold f_Mc_scanBy at e
  refine zk_aload_n C kd_Mc_scanBy_0 rfl 0 rfl rfl ?_
  refine zk_dup C kd_Mc_scanBy_1 rfl rfl ?_
  refine zs_get (v := .int (h.1 58 9)) C 58 9 rfl rfl rfl rfl ki_Mc (by decide) kw535 kd_Mc_scanBy_2 rfl ?_
  refine zk_iload_n C kd_Mc_scanBy_5 rfl 1 rfl rfl ?_
  refine zk_iadd C kd_Mc_scanBy_6 rfl ?_
  refine zs_put (ty := .int) C 58 9 ((h.1 58 9) + x1) rfl rfl rfl rfl ki_Mc ky_Mc ko_Mc kn_Mc (by decide) kw535 rfl rfl rfl rfl (by decide) kd_Mc_scanBy_7 rfl ?_
  refine zk_aload_n C kd_Mc_scanBy_10 rfl 0 rfl rfl ?_
  obtain ⟨h2, c1, e⟩ := zd_b e
  refine zs_callV (k := 58) (rn := { frames := 0, cells := 0, slots := 0, locals := 0 }) (As := []) (rest := []) C (zc_Mc_takeInputs (zs_uF h 58 9 ((h.1 58 9) + x1)) c1) ku_Mc_takeInputs kw1509 kv_Mc_takeInputs rfl ⟨by decide, by decide⟩ ⟨by decide, by decide⟩ rfl rfl rfl (Nat.le_of_ble_eq_true rfl) kd_Mc_scanBy_11 rfl (c1 := 0) (s1 := 0) rfl rfl (fun v w hp => ?_)
  obtain ⟨rfl, rfl⟩ := hp
  refine zk_stk (r' := []) rfl ?_
  refine zk_aload_n C kd_Mc_scanBy_14 rfl 0 rfl rfl ?_
  refine zk_aload_n C kd_Mc_scanBy_15 rfl 0 rfl rfl ?_
  refine zs_get (v := .ref (S.1 20)) C 58 11 rfl rfl rfl rfl ki_Mc (by decide) kw538 kd_Mc_scanBy_16 rfl ?_
  refine zs_get (v := .int (h2.1 20 19)) C 20 19 rfl rfl rfl rfl ki_Pl (by decide) kw297 kd_Mc_scanBy_19 rfl ?_
  refine zk_bipush (v := 9) C kd_Mc_scanBy_22 (by decide) rfl ?_
  refine zk_isub C kd_Mc_scanBy_24 rfl ?_
  obtain ⟨v4, h5, c3, e⟩ := zd_Be e
  refine zs_callV (k := 58) (rn := { frames := 4, cells := 0, slots := 0, locals := 102 }) (As := [.int ((h2.1 20 19) - 9)]) (rest := []) C (zc_Mc_run h2 ((h2.1 20 19) - 9) c3) ku_Mc_run kw1513 kv_Mc_run rfl ⟨by decide, by decide⟩ ⟨by decide, by decide⟩ rfl rfl rfl (Nat.le_of_ble_eq_true rfl) kd_Mc_scanBy_25 rfl (c1 := 0) (s1 := 0) rfl rfl (fun v w hp => ?_)
  obtain ⟨rfl, rfl⟩ := hp
  refine zk_stk (r' := [.int v4]) rfl ?_
  refine zk_istore_n (lv' := [(2, _), (0, _), (1, _)]) C kd_Mc_scanBy_28 rfl (by decide) rfl rfl ?_
  refine zk_aload_n C kd_Mc_scanBy_29 rfl 1 rfl rfl ?_
  refine zk_dup C kd_Mc_scanBy_30 rfl rfl ?_
  refine zs_get (v := .int (h5.1 58 7)) C 58 7 rfl rfl rfl rfl ki_Mc (by decide) kw531 kd_Mc_scanBy_31 rfl ?_
  refine zk_iconst (v := 1) C kd_Mc_scanBy_34 (by decide) rfl ?_
  refine zk_iadd C kd_Mc_scanBy_35 rfl ?_
  refine zs_put (ty := .int) C 58 7 ((h5.1 58 7) + 1) rfl rfl rfl rfl ki_Mc ky_Mc ko_Mc kn_Mc (by decide) kw531 rfl rfl rfl rfl (by decide) kd_Mc_scanBy_36 rfl ?_
  refine zk_aload_n C kd_Mc_scanBy_39 rfl 1 rfl rfl ?_
  refine zk_dup C kd_Mc_scanBy_40 rfl rfl ?_
  refine zs_get (v := .int (h5.1 58 8)) C 58 8 rfl rfl rfl rfl ki_Mc (by decide) kw533 kd_Mc_scanBy_41 rfl ?_
  refine zk_aload_n C kd_Mc_scanBy_44 rfl 1 rfl rfl ?_
  refine zs_get (v := .int (h5.1 58 6)) C 58 6 rfl rfl rfl rfl ki_Mc (by decide) kw529 kd_Mc_scanBy_45 rfl ?_
  refine zk_aload_n C kd_Mc_scanBy_48 rfl 1 rfl rfl ?_
  refine zs_get (v := .int (h5.1 58 5)) C 58 5 rfl rfl rfl rfl ki_Mc (by decide) kw527 kd_Mc_scanBy_49 rfl ?_
  refine zk_icmp_le (tgt := 59) C kd_Mc_scanBy_52 (by decide) rfl (fun b6 => ?_) (fun b6 => ?_)
  · replace e := zd_pos b6 e
    refine zk_iconst (v := 0) C kd_Mc_scanBy_59 (by decide) rfl ?_
    refine zk_lvs (lv' := [(0, .ref (S.1 58)), (2, .int v4)]) [1, 0] rfl ?_
    exact zb_Mc_scanBy_60 C hR (zs_uF h5 58 7 ((h5.1 58 7) + 1)) v4 0 (h5.1 58 8) e
  · replace e := zd_neg b6 e
    refine zk_iconst (v := 1) C kd_Mc_scanBy_55 (by decide) rfl ?_
    refine zk_goto (tgt := 60) C kd_Mc_scanBy_56 (by decide) ?_
    refine zk_lvs (lv' := [(0, .ref (S.1 58)), (2, .int v4)]) [1, 0] rfl ?_
    exact zb_Mc_scanBy_60 C hR (zs_uF h5 58 7 ((h5.1 58 7) + 1)) v4 1 (h5.1 58 8) e
set_option maxHeartbeats 4000000 in
set_option maxRecDepth 100000 in
theorem zc_Pk_scan {l : Launch} {D : va_G} {sz0 : Nat} {S : zs_T} {P : ze_T} (h : zs_H) (x1 : Int32) {rv : Int32} {rh : zs_H} (e : f_Pk_scan h x1 = some (rv, rh)) : zk_Sp (zs_G S l D sz0) (ze_E P) km_Pk_scan { frames := 6, cells := 0, slots := 0, locals := 148 } [.ref (S.1 0), .int x1] (zs_W S h) (zd_PI S rv rh) := by
  refine zk_met ku_Pk_scan (Nat.le_of_ble_eq_true rfl) (ze_Em P) ?_
  intro X C hR
  refine zk_lvs (lv' := [(0, .ref (S.1 0)), (1, .int x1)]) [0, 1] rfl ?_
  unfold f_Pk_scan at e
  refine zk_iload_n C kd_Pk_scan_0 rfl 1 rfl rfl ?_
  refine zk_if_lt (tgt := 10) C kd_Pk_scan_1 (by decide) rfl (fun b1 => ?_) (fun b1 => ?_)
  · replace e := zd_pos b1 e
    refine zk_iconst (v := (-1)) C kd_Pk_scan_10 (by decide) rfl ?_
    exact zk_iret C hR kd_Pk_scan_11 rfl rfl (zd_rIS e)
  · replace e := zd_neg b1 e
    refine zk_iload_n C kd_Pk_scan_4 rfl 1 rfl rfl ?_
    refine zk_ldc (v := 100000) C kw684 kd_Pk_scan_5 rfl ?_
    refine zk_icmp_le (tgt := 12) C kd_Pk_scan_7 (by decide) rfl (fun b2 => ?_) (fun b2 => ?_)
    · replace e := zd_pos b2 e
      refine zk_aload_n C kd_Pk_scan_12 rfl 0 rfl rfl ?_
      refine zs_get (v := .ref (S.1 58)) C 0 14 rfl rfl rfl rfl ki_Pk (by decide) kw633 kd_Pk_scan_13 rfl ?_
      refine zs_get (v := .int (h.1 58 3)) C 58 3 rfl rfl rfl rfl ki_Mc (by decide) kw524 kd_Pk_scan_16 rfl ?_
      refine zk_if_ne (tgt := 25) C kd_Pk_scan_19 (by decide) rfl (fun b3 => ?_) (fun b3 => ?_)
      · replace e := zd_neg b3 e
        refine zk_aload_n C kd_Pk_scan_25 rfl 0 rfl rfl ?_
        refine zs_get (v := .ref (S.1 58)) C 0 14 rfl rfl rfl rfl ki_Pk (by decide) kw633 kd_Pk_scan_26 rfl ?_
        refine zs_get (v := .int (h.1 58 4)) C 58 4 rfl rfl rfl rfl ki_Mc (by decide) kw526 kd_Pk_scan_29 rfl ?_
        refine zk_if_eq (tgt := 40) C kd_Pk_scan_32 (by decide) rfl (fun b4 => ?_) (fun b4 => ?_)
        · replace e := zd_pos b4 e
          refine zk_aload_n C kd_Pk_scan_40 rfl 0 rfl rfl ?_
          refine zs_get (v := .ref (S.1 58)) C 0 14 rfl rfl rfl rfl ki_Pk (by decide) kw633 kd_Pk_scan_41 rfl ?_
          refine zk_iload_n C kd_Pk_scan_44 rfl 1 rfl rfl ?_
          obtain ⟨v6, h7, c5, e⟩ := zd_Be e
          refine zs_callV (k := 58) (rn := { frames := 5, cells := 0, slots := 0, locals := 126 }) (As := [.int x1]) (rest := []) C (zc_Mc_scanBy h x1 c5) ku_Mc_scanBy kw1505 kv_Mc_scanBy rfl ⟨by decide, by decide⟩ ⟨by decide, by decide⟩ rfl rfl rfl (Nat.le_of_ble_eq_true rfl) kd_Pk_scan_45 rfl (c1 := 0) (s1 := 0) rfl rfl (fun v w hp => ?_)
          obtain ⟨rfl, rfl⟩ := hp
          refine zk_stk (r' := [.int v6]) rfl ?_
          exact zk_iret C hR kd_Pk_scan_48 rfl rfl (zd_rIS e)
        · replace e := zd_neg b4 e
          refine zk_bipush (v := (-2)) C kd_Pk_scan_35 (by decide) rfl ?_
          refine zk_goto (tgt := 48) C kd_Pk_scan_37 (by decide) ?_
          exact zk_iret C hR kd_Pk_scan_48 rfl rfl (zd_rIS e)
      · replace e := zd_pos b3 e
        refine zk_bipush (v := (-5)) C kd_Pk_scan_22 (by decide) rfl ?_
        exact zk_iret C hR kd_Pk_scan_24 rfl rfl (zd_rIS e)
    · replace e := zd_neg b2 e
      refine zk_iconst (v := (-1)) C kd_Pk_scan_10 (by decide) rfl ?_
      exact zk_iret C hR kd_Pk_scan_11 rfl rfl (zd_rIS e)
set_option maxHeartbeats 4000000 in
set_option maxRecDepth 100000 in
theorem zc_Pk_isPlace {l : Launch} {D : va_G} {sz0 : Nat} {S : zs_T} {P : ze_T} (h : zs_H) (x0 : Int32) (x1 : Int32) {rv : Int32} (e : f_Pk_isPlace x0 x1 = some rv) : zk_Sp (zs_G S l D sz0) (ze_E P) km_Pk_isPlace { frames := 0, cells := 0, slots := 0, locals := 0 } [.int x0, .int x1] (zs_W S h) (zd_PZ S rv h) := by
  refine zk_met ku_Pk_isPlace (Nat.le_of_ble_eq_true rfl) (ze_Em P) ?_
  intro X C hR
  refine zk_lvs (lv' := [(0, .int x0), (1, .int x1)]) [0, 1] rfl ?_
  unfold f_Pk_isPlace at e
  refine zk_iload_n C kd_Pk_isPlace_0 rfl 0 rfl rfl ?_
  refine zk_if_lt (tgt := 34) C kd_Pk_isPlace_1 (by decide) rfl (fun b1 => ?_) (fun b1 => ?_)
  · replace e := zd_pos b1 e
    refine zk_iconst (v := 0) C kd_Pk_isPlace_34 (by decide) rfl ?_
    exact zk_zret C hR (zd_nb (Or.inl rfl)) kd_Pk_isPlace_35 rfl rfl (zd_rZO (Or.inl rfl) e)
  · replace e := zd_neg b1 e
    refine zk_iload_n C kd_Pk_isPlace_4 rfl 0 rfl rfl ?_
    refine zk_iconst (v := 5) C kd_Pk_isPlace_5 (by decide) rfl ?_
    refine zk_icmp_gt (tgt := 34) C kd_Pk_isPlace_6 (by decide) rfl (fun b2 => ?_) (fun b2 => ?_)
    · replace e := zd_pos b2 e
      refine zk_iconst (v := 0) C kd_Pk_isPlace_34 (by decide) rfl ?_
      exact zk_zret C hR (zd_nb (Or.inl rfl)) kd_Pk_isPlace_35 rfl rfl (zd_rZO (Or.inl rfl) e)
    · replace e := zd_neg b2 e
      refine zk_iload_n C kd_Pk_isPlace_9 rfl 1 rfl rfl ?_
      refine zk_if_lt (tgt := 34) C kd_Pk_isPlace_10 (by decide) rfl (fun b3 => ?_) (fun b3 => ?_)
      · replace e := zd_pos b3 e
        refine zk_iconst (v := 0) C kd_Pk_isPlace_34 (by decide) rfl ?_
        exact zk_zret C hR (zd_nb (Or.inl rfl)) kd_Pk_isPlace_35 rfl rfl (zd_rZO (Or.inl rfl) e)
      · replace e := zd_neg b3 e
        refine zk_iload_n C kd_Pk_isPlace_13 rfl 1 rfl rfl ?_
        refine ze_gets (j := 3) C rfl kw1481 kd_Pk_isPlace_14 rfl ?_
        refine zk_iload_n C kd_Pk_isPlace_17 rfl 0 rfl rfl ?_
        refine zk_iconst (v := 1) C kd_Pk_isPlace_18 (by decide) rfl ?_
        refine zk_iadd C kd_Pk_isPlace_19 rfl ?_
        obtain ⟨q4, e⟩ := zd_g e
        refine ze_ti C rfl (zd_vp q4) kd_Pk_isPlace_20 rfl ?_
        refine zk_stk (r' := [.int (zt_3.getD (x0 + 1).toNatClampNeg 0), .int x1]) rfl ?_
        refine ze_gets (j := 3) C rfl kw1481 kd_Pk_isPlace_21 rfl ?_
        refine zk_iload_n C kd_Pk_isPlace_24 rfl 0 rfl rfl ?_
        obtain ⟨q5, e⟩ := zd_g e
        refine ze_ti C rfl (zd_vp q5) kd_Pk_isPlace_25 rfl ?_
        refine zk_stk (r' := [.int (zt_3.getD x0.toNatClampNeg 0), .int (zt_3.getD (x0 + 1).toNatClampNeg 0), .int x1]) rfl ?_
        refine zk_isub C kd_Pk_isPlace_26 rfl ?_
        refine zk_icmp_ge (tgt := 34) C kd_Pk_isPlace_27 (by decide) rfl (fun b6 => ?_) (fun b6 => ?_)
        · replace e := zd_pos b6 e
          refine zk_iconst (v := 0) C kd_Pk_isPlace_34 (by decide) rfl ?_
          exact zk_zret C hR (zd_nb (Or.inl rfl)) kd_Pk_isPlace_35 rfl rfl (zd_rZO (Or.inl rfl) e)
        · replace e := zd_neg b6 e
          refine zk_iconst (v := 1) C kd_Pk_isPlace_30 (by decide) rfl ?_
          refine zk_goto (tgt := 35) C kd_Pk_isPlace_31 (by decide) ?_
          exact zk_zret C hR (zd_nb (Or.inr rfl)) kd_Pk_isPlace_35 rfl rfl (zd_rZO (Or.inr rfl) e)
set_option maxHeartbeats 4000000 in
set_option maxRecDepth 100000 in
theorem zc_Pk_isValue {l : Launch} {D : va_G} {sz0 : Nat} {S : zs_T} {P : ze_T} (h : zs_H) (x0 : Int32) (x1 : Int32) : zk_Sp (zs_G S l D sz0) (ze_E P) km_Pk_isValue { frames := 0, cells := 0, slots := 0, locals := 0 } [.int x0, .int x1] (zs_W S h) (zd_PZ S (f_Pk_isValue x0 x1) h) := by
  obtain ⟨rv, e⟩ : ∃ rv, f_Pk_isValue x0 x1 = rv := ⟨_, rfl⟩
  rw [e]
  refine zk_met ku_Pk_isValue (Nat.le_of_ble_eq_true rfl) (ze_Em P) ?_
  intro X C hR
  refine zk_lvs (lv' := [(0, .int x0), (1, .int x1)]) [0, 1] rfl ?_
  unfold f_Pk_isValue at e
  refine zk_iload_n C kd_Pk_isValue_0 rfl 0 rfl rfl ?_
  refine zk_iconst (v := 3) C kd_Pk_isValue_1 (by decide) rfl ?_
  refine zk_icmp_ge (tgt := 22) C kd_Pk_isValue_2 (by decide) rfl (fun b1 => ?_) (fun b1 => ?_)
  · replace e := zd_pos b1 e
    refine zk_iload_n C kd_Pk_isValue_22 rfl 1 rfl rfl ?_
    refine zk_sipush (v := (-32768)) C kd_Pk_isValue_23 (by decide) rfl ?_
    refine zk_icmp_lt (tgt := 40) C kd_Pk_isValue_26 (by decide) rfl (fun b2 => ?_) (fun b2 => ?_)
    · replace e := zd_pos b2 e
      refine zk_iconst (v := 0) C kd_Pk_isValue_40 (by decide) rfl ?_
      exact zk_zret C hR (zd_nb (Or.inl rfl)) kd_Pk_isValue_41 rfl rfl (zd_rZT (Or.inl rfl) e)
    · replace e := zd_neg b2 e
      refine zk_iload_n C kd_Pk_isValue_29 rfl 1 rfl rfl ?_
      refine zk_sipush (v := 32767) C kd_Pk_isValue_30 (by decide) rfl ?_
      refine zk_icmp_gt (tgt := 40) C kd_Pk_isValue_33 (by decide) rfl (fun b3 => ?_) (fun b3 => ?_)
      · replace e := zd_pos b3 e
        refine zk_iconst (v := 0) C kd_Pk_isValue_40 (by decide) rfl ?_
        exact zk_zret C hR (zd_nb (Or.inl rfl)) kd_Pk_isValue_41 rfl rfl (zd_rZT (Or.inl rfl) e)
      · replace e := zd_neg b3 e
        refine zk_iconst (v := 1) C kd_Pk_isValue_36 (by decide) rfl ?_
        refine zk_goto (tgt := 41) C kd_Pk_isValue_37 (by decide) ?_
        exact zk_zret C hR (zd_nb (Or.inr rfl)) kd_Pk_isValue_41 rfl rfl (zd_rZT (Or.inr rfl) e)
  · replace e := zd_neg b1 e
    refine zk_iload_n C kd_Pk_isValue_5 rfl 1 rfl rfl ?_
    refine zk_if_eq (tgt := 14) C kd_Pk_isValue_6 (by decide) rfl (fun b4 => ?_) (fun b4 => ?_)
    · replace e := zd_pos b4 e
      refine zk_iconst (v := 1) C kd_Pk_isValue_14 (by decide) rfl ?_
      refine zk_goto (tgt := 41) C kd_Pk_isValue_15 (by decide) ?_
      exact zk_zret C hR (zd_nb (Or.inr rfl)) kd_Pk_isValue_41 rfl rfl (zd_rZT (Or.inr rfl) e)
    · replace e := zd_neg b4 e
      refine zk_iload_n C kd_Pk_isValue_9 rfl 1 rfl rfl ?_
      refine zk_iconst (v := 1) C kd_Pk_isValue_10 (by decide) rfl ?_
      refine zk_icmp_ne (tgt := 18) C kd_Pk_isValue_11 (by decide) rfl (fun b5 => ?_) (fun b5 => ?_)
      · replace e := zd_neg b5 e
        refine zk_iconst (v := 0) C kd_Pk_isValue_18 (by decide) rfl ?_
        refine zk_goto (tgt := 41) C kd_Pk_isValue_19 (by decide) ?_
        exact zk_zret C hR (zd_nb (Or.inl rfl)) kd_Pk_isValue_41 rfl rfl (zd_rZT (Or.inl rfl) e)
      · replace e := zd_pos b5 e
        refine zk_iconst (v := 1) C kd_Pk_isValue_14 (by decide) rfl ?_
        refine zk_goto (tgt := 41) C kd_Pk_isValue_15 (by decide) ?_
        exact zk_zret C hR (zd_nb (Or.inr rfl)) kd_Pk_isValue_41 rfl rfl (zd_rZT (Or.inr rfl) e)
set_option maxHeartbeats 4000000 in
set_option maxRecDepth 100000 in
theorem zb_Pk_safe_10 {X : zkj_T} {S : zs_T} {P : ze_T} {l : Launch} {D : va_G} {sz0 : Nat} {rv : Int32} {rh : zs_H} (C : zk_C X km_Pk_safe (zs_G S l D sz0) { frames := 1, cells := 0, slots := 0, locals := 21 } (ze_E P)) (hR : zkj_R X (zd_PI S rv rh) (some .int)) (h : zs_H) (x1 : Int32) (x2 : Int32) (x3 : Int32) (e : f_Pk_safe_10 h x1 x2 x3 = some (rv, rh)) : zk_Ab X (zs_W S h) 0 0 10 [(0, .ref (S.1 0)), (1, .int x1), (2, .int x2), (3, .int x3)] [] := by
  unfold f_Pk_safe_10 at e
  refine zk_iload_n C kd_Pk_safe_10 rfl 1 rfl rfl ?_
  refine zk_iload_n C kd_Pk_safe_11 rfl 2 rfl rfl ?_
  obtain ⟨v2, c1, e⟩ := zd_b e
  refine zk_callS (rn := { frames := 0, cells := 0, slots := 0, locals := 0 }) (As := [.int x1, .int x2]) (rest := []) C (zc_Pk_isPlace h x1 x2 c1) ku_Pk_isPlace kw1478 ks_Pk_isPlace rfl ⟨by decide, by decide⟩ ⟨by decide, by decide⟩ rfl (Nat.le_of_ble_eq_true rfl) kd_Pk_safe_12 rfl (c1 := 0) (s1 := 0) rfl rfl (fun v w hp => ?_)
  obtain ⟨rfl, rfl, z3⟩ := hp
  refine zk_stk (r' := [.int v2]) rfl ?_
  refine zk_if_eq (tgt := 26) C kd_Pk_safe_15 (by decide) rfl (fun b4 => ?_) (fun b4 => ?_)
  · replace e := zd_pos b4 e
    refine zk_iconst (v := (-1)) C kd_Pk_safe_26 (by decide) rfl ?_
    exact zk_iret C hR kd_Pk_safe_27 rfl rfl (zd_rIS e)
  · replace e := zd_neg b4 e
    refine zk_iload_n C kd_Pk_safe_18 rfl 1 rfl rfl ?_
    refine zk_iload_n C kd_Pk_safe_19 rfl 3 rfl rfl ?_
    refine zk_callS (rn := { frames := 0, cells := 0, slots := 0, locals := 0 }) (As := [.int x1, .int x3]) (rest := []) C (zc_Pk_isValue h x1 x3) ku_Pk_isValue kw1482 ks_Pk_isValue rfl ⟨by decide, by decide⟩ ⟨by decide, by decide⟩ rfl (Nat.le_of_ble_eq_true rfl) kd_Pk_safe_20 rfl (c1 := 0) (s1 := 0) rfl rfl (fun v w hp => ?_)
    obtain ⟨rfl, rfl, z5⟩ := hp
    refine zk_stk (r' := [.int (f_Pk_isValue x1 x3)]) rfl ?_
    refine zk_if_ne (tgt := 28) C kd_Pk_safe_23 (by decide) rfl (fun b6 => ?_) (fun b6 => ?_)
    · replace e := zd_neg b6 e
      refine zk_aload_n C kd_Pk_safe_28 rfl 0 rfl rfl ?_
      refine zs_get (v := .ref (S.1 58)) C 0 14 rfl rfl rfl rfl ki_Pk (by decide) kw633 kd_Pk_safe_29 rfl ?_
      refine zs_get (v := .ref (S.1 61)) C 58 2 rfl rfl rfl rfl ki_Mc (by decide) kw521 kd_Pk_safe_32 rfl ?_
      refine ze_gets (j := 3) C rfl kw1481 kd_Pk_safe_35 rfl ?_
      refine zk_iload_n C kd_Pk_safe_38 rfl 1 rfl rfl ?_
      obtain ⟨q7, e⟩ := zd_g e
      refine ze_ti C rfl (zd_vp q7) kd_Pk_safe_39 rfl ?_
      refine zk_stk (r' := [.int (zt_3.getD x1.toNatClampNeg 0), .ref (S.1 61)]) rfl ?_
      refine zk_iload_n C kd_Pk_safe_40 rfl 2 rfl rfl ?_
      refine zk_iadd C kd_Pk_safe_41 rfl ?_
      refine zk_iload_n C kd_Pk_safe_42 rfl 3 rfl rfl ?_
      obtain ⟨q8, e⟩ := zd_g e
      refine zs_iast C 61 rfl (zd_vp q8) kd_Pk_safe_43 rfl ?_
      refine zk_iconst (v := 0) C kd_Pk_safe_44 (by decide) rfl ?_
      exact zk_iret C hR kd_Pk_safe_45 rfl rfl (zd_rIS e)
    · replace e := zd_pos b6 e
      refine zk_iconst (v := (-1)) C kd_Pk_safe_26 (by decide) rfl ?_
      exact zk_iret C hR kd_Pk_safe_27 rfl rfl (zd_rIS e)
set_option maxHeartbeats 4000000 in
set_option maxRecDepth 100000 in
theorem zc_Pk_safe {l : Launch} {D : va_G} {sz0 : Nat} {S : zs_T} {P : ze_T} (h : zs_H) (x1 : Int32) (x2 : Int32) (x3 : Int32) {rv : Int32} {rh : zs_H} (e : f_Pk_safe h x1 x2 x3 = some (rv, rh)) : zk_Sp (zs_G S l D sz0) (ze_E P) km_Pk_safe { frames := 1, cells := 0, slots := 0, locals := 21 } [.ref (S.1 0), .int x1, .int x2, .int x3] (zs_W S h) (zd_PI S rv rh) := by
  refine zk_met ku_Pk_safe (Nat.le_of_ble_eq_true rfl) (ze_Em P) ?_
  intro X C hR
  refine zk_lvs (lv' := [(0, .ref (S.1 0)), (1, .int x1), (2, .int x2), (3, .int x3)]) [0, 1, 2, 3] rfl ?_
  unfold f_Pk_safe at e
  refine zk_iload_n C kd_Pk_safe_0 rfl 1 rfl rfl ?_
  refine zk_iconst (v := 1) C kd_Pk_safe_1 (by decide) rfl ?_
  refine zk_icmp_eq (tgt := 10) C kd_Pk_safe_2 (by decide) rfl (fun b1 => ?_) (fun b1 => ?_)
  · replace e := zd_pos b1 e
    refine zk_lvs (lv' := [(0, .ref (S.1 0)), (1, .int x1), (2, .int x2), (3, .int x3)]) [0, 1, 2, 3] rfl ?_
    exact zb_Pk_safe_10 C hR h x1 x2 x3 e
  · replace e := zd_neg b1 e
    refine zk_iload_n C kd_Pk_safe_5 rfl 1 rfl rfl ?_
    refine zk_iconst (v := 4) C kd_Pk_safe_6 (by decide) rfl ?_
    refine zk_icmp_ne (tgt := 26) C kd_Pk_safe_7 (by decide) rfl (fun b2 => ?_) (fun b2 => ?_)
    · replace e := zd_neg b2 e
      refine zk_iconst (v := (-1)) C kd_Pk_safe_26 (by decide) rfl ?_
      exact zk_iret C hR kd_Pk_safe_27 rfl rfl (zd_rIS e)
    · replace e := zd_pos b2 e
      refine zk_lvs (lv' := [(0, .ref (S.1 0)), (1, .int x1), (2, .int x2), (3, .int x3)]) [0, 1, 2, 3] rfl ?_
      exact zb_Pk_safe_10 C hR h x1 x2 x3 e
set_option maxHeartbeats 4000000 in
set_option maxRecDepth 100000 in
theorem zb_Pk_get_32 {X : zkj_T} {S : zs_T} {P : ze_T} {l : Launch} {D : va_G} {sz0 : Nat} {rv : Int32} {h : zs_H} (C : zk_C X km_Pk_get (zs_G S l D sz0) { frames := 1, cells := 0, slots := 0, locals := 23 } (ze_E P)) (hR : zkj_R X (zd_PI S rv h) (some .int)) (x1 : Int32) (x2 : Int32) (e : f_Pk_get_32 h x1 x2 = some rv) : zk_Ab X (zs_W S h) 0 0 32 [(0, .ref (S.1 0)), (1, .int x1), (2, .int x2)] [] := by
  unfold f_Pk_get_32 at e
  refine zk_aload_n C kd_Pk_get_32 rfl 0 rfl rfl ?_
  refine zs_get (v := .ref (S.1 58)) C 0 14 rfl rfl rfl rfl ki_Pk (by decide) kw633 kd_Pk_get_33 rfl ?_
  refine zk_iload_n C kd_Pk_get_36 rfl 1 rfl rfl ?_
  refine zk_iload_n C kd_Pk_get_37 rfl 2 rfl rfl ?_
  obtain ⟨v2, c1, e⟩ := zd_b e
  refine zs_callV (k := 58) (rn := { frames := 0, cells := 0, slots := 0, locals := 0 }) (As := [.int x1, .int x2]) (rest := []) C (zc_Mc_seen h x1 x2 c1) ku_Mc_seen kw1493 kv_Mc_seen rfl ⟨by decide, by decide⟩ ⟨by decide, by decide⟩ rfl rfl rfl (Nat.le_of_ble_eq_true rfl) kd_Pk_get_38 rfl (c1 := 0) (s1 := 0) rfl rfl (fun v w hp => ?_)
  obtain ⟨rfl, rfl⟩ := hp
  refine zk_stk (r' := [.int v2]) rfl ?_
  exact zk_iret C hR kd_Pk_get_41 rfl rfl (zd_rIO e)
set_option maxHeartbeats 4000000 in
set_option maxRecDepth 100000 in
theorem zc_Pk_get {l : Launch} {D : va_G} {sz0 : Nat} {S : zs_T} {P : ze_T} (h : zs_H) (x1 : Int32) (x2 : Int32) {rv : Int32} (e : f_Pk_get h x1 x2 = some rv) : zk_Sp (zs_G S l D sz0) (ze_E P) km_Pk_get { frames := 1, cells := 0, slots := 0, locals := 23 } [.ref (S.1 0), .int x1, .int x2] (zs_W S h) (zd_PI S rv h) := by
  refine zk_met ku_Pk_get (Nat.le_of_ble_eq_true rfl) (ze_Em P) ?_
  intro X C hR
  refine zk_lvs (lv' := [(0, .ref (S.1 0)), (1, .int x1), (2, .int x2)]) [0, 1, 2] rfl ?_
  unfold f_Pk_get at e
  refine zk_iload_n C kd_Pk_get_0 rfl 1 rfl rfl ?_
  refine zk_iload_n C kd_Pk_get_1 rfl 2 rfl rfl ?_
  obtain ⟨v2, c1, e⟩ := zd_b e
  refine zk_callS (rn := { frames := 0, cells := 0, slots := 0, locals := 0 }) (As := [.int x1, .int x2]) (rest := []) C (zc_Pk_isPlace h x1 x2 c1) ku_Pk_isPlace kw1478 ks_Pk_isPlace rfl ⟨by decide, by decide⟩ ⟨by decide, by decide⟩ rfl (Nat.le_of_ble_eq_true rfl) kd_Pk_get_2 rfl (c1 := 0) (s1 := 0) rfl rfl (fun v w hp => ?_)
  obtain ⟨rfl, rfl, z3⟩ := hp
  refine zk_stk (r' := [.int v2]) rfl ?_
  refine zk_if_ne (tgt := 10) C kd_Pk_get_5 (by decide) rfl (fun b4 => ?_) (fun b4 => ?_)
  · replace e := zd_neg b4 e
    refine zk_aload_n C kd_Pk_get_10 rfl 0 rfl rfl ?_
    refine zs_get (v := .ref (S.1 58)) C 0 14 rfl rfl rfl rfl ki_Pk (by decide) kw633 kd_Pk_get_11 rfl ?_
    refine zs_get (v := .int (h.1 58 3)) C 58 3 rfl rfl rfl rfl ki_Mc (by decide) kw524 kd_Pk_get_14 rfl ?_
    refine zk_if_ne (tgt := 32) C kd_Pk_get_17 (by decide) rfl (fun b5 => ?_) (fun b5 => ?_)
    · replace e := zd_neg b5 e
      refine zk_lvs (lv' := [(0, .ref (S.1 0)), (1, .int x1), (2, .int x2)]) [0, 1, 2] rfl ?_
      exact zb_Pk_get_32 C hR x1 x2 e
    · replace e := zd_pos b5 e
      refine zk_iload_n C kd_Pk_get_20 rfl 1 rfl rfl ?_
      refine zk_if_eq (tgt := 32) C kd_Pk_get_21 (by decide) rfl (fun b6 => ?_) (fun b6 => ?_)
      · replace e := zd_pos b6 e
        refine zk_lvs (lv' := [(0, .ref (S.1 0)), (1, .int x1), (2, .int x2)]) [0, 1, 2] rfl ?_
        exact zb_Pk_get_32 C hR x1 x2 e
      · replace e := zd_neg b6 e
        refine zk_iload_n C kd_Pk_get_24 rfl 1 rfl rfl ?_
        refine zk_iconst (v := 3) C kd_Pk_get_25 (by decide) rfl ?_
        refine zk_icmp_eq (tgt := 32) C kd_Pk_get_26 (by decide) rfl (fun b7 => ?_) (fun b7 => ?_)
        · replace e := zd_pos b7 e
          refine zk_lvs (lv' := [(0, .ref (S.1 0)), (1, .int x1), (2, .int x2)]) [0, 1, 2] rfl ?_
          exact zb_Pk_get_32 C hR x1 x2 e
        · replace e := zd_neg b7 e
          refine zk_bipush (v := (-5)) C kd_Pk_get_29 (by decide) rfl ?_
          exact zk_iret C hR kd_Pk_get_31 rfl rfl (zd_rIO e)
  · replace e := zd_pos b4 e
    refine zk_iconst (v := (-1)) C kd_Pk_get_8 (by decide) rfl ?_
    exact zk_iret C hR kd_Pk_get_9 rfl rfl (zd_rIO e)
set_option maxHeartbeats 4000000 in
set_option maxRecDepth 100000 in
theorem zc_Pk_put {l : Launch} {D : va_G} {sz0 : Nat} {S : zs_T} {P : ze_T} (h : zs_H) (x1 : Int32) (x2 : Int32) (x3 : Int32) {rv : Int32} {rh : zs_H} (e : f_Pk_put h x1 x2 x3 = some (rv, rh)) : zk_Sp (zs_G S l D sz0) (ze_E P) km_Pk_put { frames := 1, cells := 0, slots := 0, locals := 24 } [.ref (S.1 0), .int x1, .int x2, .int x3] (zs_W S h) (zd_PI S rv rh) := by
  refine zk_met ku_Pk_put (Nat.le_of_ble_eq_true rfl) (ze_Em P) ?_
  intro X C hR
  refine zk_lvs (lv' := [(0, .ref (S.1 0)), (1, .int x1), (2, .int x2), (3, .int x3)]) [0, 1, 2, 3] rfl ?_
  unfold f_Pk_put at e
  refine zk_iload_n C kd_Pk_put_0 rfl 1 rfl rfl ?_
  refine zk_iload_n C kd_Pk_put_1 rfl 2 rfl rfl ?_
  obtain ⟨v2, c1, e⟩ := zd_b e
  refine zk_callS (rn := { frames := 0, cells := 0, slots := 0, locals := 0 }) (As := [.int x1, .int x2]) (rest := []) C (zc_Pk_isPlace h x1 x2 c1) ku_Pk_isPlace kw1478 ks_Pk_isPlace rfl ⟨by decide, by decide⟩ ⟨by decide, by decide⟩ rfl (Nat.le_of_ble_eq_true rfl) kd_Pk_put_2 rfl (c1 := 0) (s1 := 0) rfl rfl (fun v w hp => ?_)
  obtain ⟨rfl, rfl, z3⟩ := hp
  refine zk_stk (r' := [.int v2]) rfl ?_
  refine zk_if_eq (tgt := 26) C kd_Pk_put_5 (by decide) rfl (fun b4 => ?_) (fun b4 => ?_)
  · replace e := zd_pos b4 e
    refine zk_iconst (v := (-1)) C kd_Pk_put_26 (by decide) rfl ?_
    exact zk_iret C hR kd_Pk_put_27 rfl rfl (zd_rIS e)
  · replace e := zd_neg b4 e
    refine zk_iload_n C kd_Pk_put_8 rfl 1 rfl rfl ?_
    refine zk_iconst (v := 1) C kd_Pk_put_9 (by decide) rfl ?_
    refine zk_icmp_eq (tgt := 26) C kd_Pk_put_10 (by decide) rfl (fun b5 => ?_) (fun b5 => ?_)
    · replace e := zd_pos b5 e
      refine zk_iconst (v := (-1)) C kd_Pk_put_26 (by decide) rfl ?_
      exact zk_iret C hR kd_Pk_put_27 rfl rfl (zd_rIS e)
    · replace e := zd_neg b5 e
      refine zk_iload_n C kd_Pk_put_13 rfl 1 rfl rfl ?_
      refine zk_iconst (v := 4) C kd_Pk_put_14 (by decide) rfl ?_
      refine zk_icmp_eq (tgt := 26) C kd_Pk_put_15 (by decide) rfl (fun b6 => ?_) (fun b6 => ?_)
      · replace e := zd_pos b6 e
        refine zk_iconst (v := (-1)) C kd_Pk_put_26 (by decide) rfl ?_
        exact zk_iret C hR kd_Pk_put_27 rfl rfl (zd_rIS e)
      · replace e := zd_neg b6 e
        refine zk_iload_n C kd_Pk_put_18 rfl 1 rfl rfl ?_
        refine zk_iload_n C kd_Pk_put_19 rfl 3 rfl rfl ?_
        refine zk_callS (rn := { frames := 0, cells := 0, slots := 0, locals := 0 }) (As := [.int x1, .int x3]) (rest := []) C (zc_Pk_isValue h x1 x3) ku_Pk_isValue kw1482 ks_Pk_isValue rfl ⟨by decide, by decide⟩ ⟨by decide, by decide⟩ rfl (Nat.le_of_ble_eq_true rfl) kd_Pk_put_20 rfl (c1 := 0) (s1 := 0) rfl rfl (fun v w hp => ?_)
        obtain ⟨rfl, rfl, z7⟩ := hp
        refine zk_stk (r' := [.int (f_Pk_isValue x1 x3)]) rfl ?_
        refine zk_if_ne (tgt := 28) C kd_Pk_put_23 (by decide) rfl (fun b8 => ?_) (fun b8 => ?_)
        · replace e := zd_neg b8 e
          refine zk_aload_n C kd_Pk_put_28 rfl 0 rfl rfl ?_
          refine zs_get (v := .ref (S.1 58)) C 0 14 rfl rfl rfl rfl ki_Pk (by decide) kw633 kd_Pk_put_29 rfl ?_
          refine zk_iload_n C kd_Pk_put_32 rfl 1 rfl rfl ?_
          refine zk_iload_n C kd_Pk_put_33 rfl 2 rfl rfl ?_
          refine zk_iload_n C kd_Pk_put_34 rfl 3 rfl rfl ?_
          obtain ⟨v10, h11, c9, e⟩ := zd_Be e
          refine zs_callV (k := 58) (rn := { frames := 0, cells := 0, slots := 0, locals := 0 }) (As := [.int x1, .int x2, .int x3]) (rest := []) C (zc_Mc_change h x1 x2 x3 c9) ku_Mc_change kw1485 kv_Mc_change rfl ⟨by decide, by decide⟩ ⟨by decide, by decide⟩ rfl rfl rfl (Nat.le_of_ble_eq_true rfl) kd_Pk_put_35 rfl (c1 := 0) (s1 := 0) rfl rfl (fun v w hp => ?_)
          obtain ⟨rfl, rfl⟩ := hp
          refine zk_stk (r' := [.int v10]) rfl ?_
          exact zk_iret C hR kd_Pk_put_38 rfl rfl (zd_rIS e)
        · replace e := zd_pos b8 e
          refine zk_iconst (v := (-1)) C kd_Pk_put_26 (by decide) rfl ?_
          exact zk_iret C hR kd_Pk_put_27 rfl rfl (zd_rIS e)
set_option maxHeartbeats 4000000 in
set_option maxRecDepth 100000 in
theorem zg_Mc_beginInstance {l : Launch} {D : va_G} {sz0 : Nat} {S : zs_T} {P : ze_T} {d : Nat} {r_Mc_setConstants : zs_H → Int32 → Int32 → Int32 → (Option zs_H)} (hr_Mc_setConstants : ∀ (h : zs_H) (x0 : Int32) (x1 : Int32) (x2 : Int32) {rh : zs_H}, r_Mc_setConstants h x0 x1 x2 = some rh → zk_Sp (zs_G S l D sz0) (ze_E P) km_Mc_setConstants { frames := 1 + d, cells := 0, slots := 0, locals := 60 + 27 * d } [.ref (S.1 58), .int x0, .int x1, .int x2] (zs_W S h) (zd_PV S rh)) (h : zs_H) (x1 : Int32) (x2 : Int32) (x3 : Int32) {rh : zs_H} (e : g_Mc_beginInstance r_Mc_setConstants h x1 x2 x3 = some rh) : zk_Sp (zs_G S l D sz0) (ze_E P) km_Mc_beginInstance { frames := 1 + (d + 1), cells := 0, slots := 0, locals := 60 + 27 * (d + 1) } [.ref (S.1 58), .int x1, .int x2, .int x3] (zs_W S h) (zd_PV S rh) := by
  refine zk_met ku_Mc_beginInstance (Nat.le_of_ble_eq_true rfl) (ze_Em P) ?_
  intro X C hR
  refine zk_lvs (lv' := [(0, .ref (S.1 58)), (1, .int x1), (2, .int x2), (3, .int x3)]) [0, 1, 2, 3] rfl ?_
  unfold g_Mc_beginInstance at e
  refine zk_iload_n C kd_Mc_beginInstance_0 rfl 1 rfl rfl ?_
  refine zk_bipush (v := 9) C kd_Mc_beginInstance_1 (by decide) rfl ?_
  refine zk_isub C kd_Mc_beginInstance_3 rfl ?_
  refine zk_istore (lv' := [(4, _), (0, _), (1, _), (2, _), (3, _)]) C kd_Mc_beginInstance_4 (by decide) rfl rfl ?_
  refine zk_aload_n C kd_Mc_beginInstance_6 rfl 1 rfl rfl ?_
  refine zs_get (v := .ref (S.1 20)) C 58 11 rfl rfl rfl rfl ki_Mc (by decide) kw538 kd_Mc_beginInstance_7 rfl ?_
  refine zs_get (v := .ref (S.1 26)) C 20 5 rfl rfl rfl rfl ki_Pl (by decide) kw251 kd_Mc_beginInstance_10 rfl ?_
  refine zk_iload_n C kd_Mc_beginInstance_13 rfl 2 rfl rfl ?_
  obtain ⟨q1, e⟩ := zd_g e
  refine zs_iald C 26 rfl (zd_vp q1) kd_Mc_beginInstance_14 rfl ?_
  refine zk_istore (lv' := [(5, _), (4, _), (0, _), (1, _), (2, _), (3, _)]) C kd_Mc_beginInstance_15 (by decide) rfl rfl ?_
  refine zk_iload C kd_Mc_beginInstance_17 1 rfl rfl ?_
  refine zk_if_lt (tgt := 48) C kd_Mc_beginInstance_19 (by decide) rfl (fun b2 => ?_) (fun b2 => ?_)
  · replace e := zd_pos b2 e
    exact zk_vret C hR kd_Mc_beginInstance_48 rfl rfl (zd_rV e)
  · replace e := zd_neg b2 e
    refine zk_iload C kd_Mc_beginInstance_22 1 rfl rfl ?_
    refine zk_aload_n C kd_Mc_beginInstance_24 rfl 2 rfl rfl ?_
    refine zs_get (v := .ref (S.1 65)) C 58 16 rfl rfl rfl rfl ki_Mc (by decide) kw543 kd_Mc_beginInstance_25 rfl ?_
    refine zs_alen (v := 16) C 65 rfl (by decide) rfl kd_Mc_beginInstance_28 rfl ?_
    refine zk_icmp_ge (tgt := 48) C kd_Mc_beginInstance_29 (by decide) rfl (fun b3 => ?_) (fun b3 => ?_)
    · replace e := zd_pos b3 e
      exact zk_vret C hR kd_Mc_beginInstance_48 rfl rfl (zd_rV e)
    · replace e := zd_neg b3 e
      refine zk_iload_n C kd_Mc_beginInstance_32 rfl 4 rfl rfl ?_
      refine zk_if_lt (tgt := 48) C kd_Mc_beginInstance_33 (by decide) rfl (fun b4 => ?_) (fun b4 => ?_)
      · replace e := zd_pos b4 e
        exact zk_vret C hR kd_Mc_beginInstance_48 rfl rfl (zd_rV e)
      · replace e := zd_neg b4 e
        refine zk_iload_n C kd_Mc_beginInstance_36 rfl 4 rfl rfl ?_
        refine zk_iload C kd_Mc_beginInstance_37 0 rfl rfl ?_
        refine zk_iadd C kd_Mc_beginInstance_39 rfl ?_
        refine zk_aload_n C kd_Mc_beginInstance_40 rfl 2 rfl rfl ?_
        refine zs_get (v := .ref (S.1 62)) C 58 12 rfl rfl rfl rfl ki_Mc (by decide) kw539 kd_Mc_beginInstance_41 rfl ?_
        refine zs_alen (v := 8192) C 62 rfl (by decide) rfl kd_Mc_beginInstance_44 rfl ?_
        refine zk_icmp_le (tgt := 49) C kd_Mc_beginInstance_45 (by decide) rfl (fun b5 => ?_) (fun b5 => ?_)
        · replace e := zd_pos b5 e
          refine zk_aload_n C kd_Mc_beginInstance_49 rfl 2 rfl rfl ?_
          refine zs_get (v := .ref (S.1 65)) C 58 16 rfl rfl rfl rfl ki_Mc (by decide) kw543 kd_Mc_beginInstance_50 rfl ?_
          refine zk_iload C kd_Mc_beginInstance_53 1 rfl rfl ?_
          obtain ⟨q6, e⟩ := zd_g e
          refine zs_iald C 65 rfl (zd_vp q6) kd_Mc_beginInstance_55 rfl ?_
          refine zk_iconst (v := (-1)) C kd_Mc_beginInstance_56 (by decide) rfl ?_
          refine zk_icmp_ne (tgt := 78) C kd_Mc_beginInstance_57 (by decide) rfl (fun b7 => ?_) (fun b7 => ?_)
          · replace e := zd_neg b7 e
            refine zk_aload_n C kd_Mc_beginInstance_78 rfl 2 rfl rfl ?_
            refine zs_get (v := .ref (S.1 62)) C 58 12 rfl rfl rfl rfl ki_Mc (by decide) kw539 kd_Mc_beginInstance_79 rfl ?_
            refine zk_aload_n C kd_Mc_beginInstance_82 rfl 2 rfl rfl ?_
            refine zs_get (v := .ref (S.1 65)) C 58 16 rfl rfl rfl rfl ki_Mc (by decide) kw543 kd_Mc_beginInstance_83 rfl ?_
            refine zk_iload C kd_Mc_beginInstance_86 1 rfl rfl ?_
            refine zs_iald C 65 rfl (zd_vp q6) kd_Mc_beginInstance_88 rfl ?_
            refine zk_aload_n C kd_Mc_beginInstance_89 rfl 2 rfl rfl ?_
            refine zs_get (v := .ref (S.1 62)) C 58 12 rfl rfl rfl rfl ki_Mc (by decide) kw539 kd_Mc_beginInstance_90 rfl ?_
            refine zk_iload_n C kd_Mc_beginInstance_93 rfl 4 rfl rfl ?_
            refine zk_iload C kd_Mc_beginInstance_94 0 rfl rfl ?_
            obtain ⟨q8, e⟩ := zd_g e
            refine zs_copy C 62 rfl q8 kw1457 kw1459 kw1458 kw21 (by show 1 ≤ _ + (_ + 1); omega) (Nat.le_trans (m := 60) (Nat.le_of_ble_eq_true rfl) (Nat.le_add_right _ _)) kd_Mc_beginInstance_96 rfl ?_
            exact zk_vret C hR kd_Mc_beginInstance_99 rfl rfl (zd_rV e)
          · replace e := zd_pos b7 e
            refine zk_aload_n C kd_Mc_beginInstance_60 rfl 2 rfl rfl ?_
            refine zk_iload_n C kd_Mc_beginInstance_61 rfl 3 rfl rfl ?_
            refine zk_iload_n C kd_Mc_beginInstance_62 rfl 4 rfl rfl ?_
            refine zk_iload_n C kd_Mc_beginInstance_63 rfl 5 rfl rfl ?_
            obtain ⟨h10, c9, e⟩ := zd_b e
            refine zs_callV (k := 58) (rn := { frames := 1 + d, cells := 0, slots := 0, locals := 60 + 27 * d }) (As := [.int x1, .int x2, .int x3]) (rest := []) C (hr_Mc_setConstants h x1 x2 x3 c9) ku_Mc_setConstants kw1449 kv_Mc_setConstants rfl (zd_rmI (by decide)) ⟨Nat.le_refl _, Nat.le_refl _⟩ rfl rfl rfl (Nat.le_of_ble_eq_true rfl) kd_Mc_beginInstance_64 rfl (c1 := 0) (s1 := 0) rfl rfl (fun v w hp => ?_)
            obtain ⟨rfl, rfl⟩ := hp
            refine zk_stk (r' := []) rfl ?_
            refine zk_aload_n C kd_Mc_beginInstance_67 rfl 2 rfl rfl ?_
            refine zs_get (v := .ref (S.1 65)) C 58 16 rfl rfl rfl rfl ki_Mc (by decide) kw543 kd_Mc_beginInstance_68 rfl ?_
            refine zk_iload C kd_Mc_beginInstance_71 1 rfl rfl ?_
            refine zk_iload_n C kd_Mc_beginInstance_73 rfl 4 rfl rfl ?_
            obtain ⟨q11, e⟩ := zd_g e
            refine zs_iast C 65 rfl (zd_vp q11) kd_Mc_beginInstance_74 rfl ?_
            refine zk_goto (tgt := 99) C kd_Mc_beginInstance_75 (by decide) ?_
            exact zk_vret C hR kd_Mc_beginInstance_99 rfl rfl (zd_rV e)
        · replace e := zd_neg b5 e
          exact zk_vret C hR kd_Mc_beginInstance_48 rfl rfl (zd_rV e)
set_option maxHeartbeats 4000000 in
set_option maxRecDepth 100000 in
theorem zb_Mc_setConstants_127 {X : zkj_T} {S : zs_T} {P : ze_T} {l : Launch} {D : va_G} {sz0 : Nat} {d : Nat} {rh : zs_H} (C : zk_C X km_Mc_setConstants (zs_G S l D sz0) { frames := 1 + (d + 1), cells := 0, slots := 0, locals := 60 + 27 * (d + 1) } (ze_E P)) (hR : zkj_R X (zd_PV S rh) (none)) {r_Mc_beginInstance : zs_H → Int32 → Int32 → Int32 → (Option zs_H)} (hr_Mc_beginInstance : ∀ (h : zs_H) (x0 : Int32) (x1 : Int32) (x2 : Int32) {rh : zs_H}, r_Mc_beginInstance h x0 x1 x2 = some rh → zk_Sp (zs_G S l D sz0) (ze_E P) km_Mc_beginInstance { frames := 1 + d, cells := 0, slots := 0, locals := 60 + 27 * d } [.ref (S.1 58), .int x0, .int x1, .int x2] (zs_W S h) (zd_PV S rh)) {k18 : zs_H → Int32 → Int32 → Int32 → Int32 → (Option zs_H)} (hk18 : ∀ (h : zs_H) (x1 : Int32) (x2 : Int32) (x3 : Int32) (x4 : Int32), k18 h x1 x2 x3 x4 = some rh → zk_Ab X (zs_W S h) 0 0 18 [(0, .ref (S.1 58)), (1, .int x1), (2, .int x2), (3, .int x3), (4, .int x4)] []) (h : zs_H) (x1 : Int32) (x2 : Int32) (x3 : Int32) (x4 : Int32) (e : f_Mc_setConstants_127 r_Mc_beginInstance k18 h x1 x2 x3 x4 = some rh) : zk_Ab X (zs_W S h) 0 0 127 [(0, .ref (S.1 58)), (1, .int x1), (2, .int x2), (3, .int x3), (4, .int x4)] [] := by
  unfold f_Mc_setConstants_127 at e
  refine zk_iinc (v := (x4 + 1)) (lv' := [(4, _), (0, _), (1, _), (2, _), (3, _)]) C kd_Mc_setConstants_127 4 rfl rfl (by decide) rfl rfl ?_
  refine zk_goto (tgt := 18) C kd_Mc_setConstants_130 (by decide) ?_
  refine zk_lvs (lv' := [(0, .ref (S.1 58)), (1, .int x1), (2, .int x2), (3, .int x3), (4, .int (x4 + 1))]) [1, 2, 3, 4, 0] rfl ?_
  exact hk18 h x1 x2 x3 (x4 + 1) e
set_option maxHeartbeats 4000000 in
set_option maxRecDepth 100000 in
theorem zb_Mc_setConstants_87 {X : zkj_T} {S : zs_T} {P : ze_T} {l : Launch} {D : va_G} {sz0 : Nat} {d : Nat} {rh : zs_H} (C : zk_C X km_Mc_setConstants (zs_G S l D sz0) { frames := 1 + (d + 1), cells := 0, slots := 0, locals := 60 + 27 * (d + 1) } (ze_E P)) (hR : zkj_R X (zd_PV S rh) (none)) {r_Mc_beginInstance : zs_H → Int32 → Int32 → Int32 → (Option zs_H)} (hr_Mc_beginInstance : ∀ (h : zs_H) (x0 : Int32) (x1 : Int32) (x2 : Int32) {rh : zs_H}, r_Mc_beginInstance h x0 x1 x2 = some rh → zk_Sp (zs_G S l D sz0) (ze_E P) km_Mc_beginInstance { frames := 1 + d, cells := 0, slots := 0, locals := 60 + 27 * d } [.ref (S.1 58), .int x0, .int x1, .int x2] (zs_W S h) (zd_PV S rh)) {k18 : zs_H → Int32 → Int32 → Int32 → Int32 → (Option zs_H)} (hk18 : ∀ (h : zs_H) (x1 : Int32) (x2 : Int32) (x3 : Int32) (x4 : Int32), k18 h x1 x2 x3 x4 = some rh → zk_Ab X (zs_W S h) 0 0 18 [(0, .ref (S.1 58)), (1, .int x1), (2, .int x2), (3, .int x3), (4, .int x4)] []) {k87 : zs_H → Int32 → Int32 → Int32 → Int32 → Int32 → Int32 → (Option zs_H)} (hk87 : ∀ (h : zs_H) (x1 : Int32) (x2 : Int32) (x3 : Int32) (x4 : Int32) (x6 : Int32) (x7 : Int32), k87 h x1 x2 x3 x4 x6 x7 = some rh → zk_Ab X (zs_W S h) 0 0 87 [(0, .ref (S.1 58)), (1, .int x1), (2, .int x2), (3, .int x3), (4, .int x4), (6, .int x6), (7, .int x7)] []) (h : zs_H) (x1 : Int32) (x2 : Int32) (x3 : Int32) (x4 : Int32) (x6 : Int32) (x7 : Int32) (e : f_Mc_setConstants_87 r_Mc_beginInstance k18 k87 h x1 x2 x3 x4 x6 x7 = some rh) : zk_Ab X (zs_W S h) 0 0 87 [(0, .ref (S.1 58)), (1, .int x1), (2, .int x2), (3, .int x3), (4, .int x4), (6, .int x6), (7, .int x7)] [] := by
  unfold f_Mc_setConstants_87 at e
  refine zk_iload C kd_Mc_setConstants_87 6 rfl rfl ?_
  refine zk_aload_n C kd_Mc_setConstants_89 rfl 0 rfl rfl ?_
  refine zs_get (v := .ref (S.1 20)) C 58 11 rfl rfl rfl rfl ki_Mc (by decide) kw538 kd_Mc_setConstants_90 rfl ?_
  refine zs_get (v := .ref (S.1 34)) C 20 13 rfl rfl rfl rfl ki_Pl (by decide) kw278 kd_Mc_setConstants_93 rfl ?_
  refine zk_iload C kd_Mc_setConstants_96 4 rfl rfl ?_
  obtain ⟨q1, e⟩ := zd_g e
  refine zs_iald C 34 rfl (zd_vp q1) kd_Mc_setConstants_98 rfl ?_
  refine zk_icmp_ge (tgt := 127) C kd_Mc_setConstants_99 (by decide) rfl (fun b2 => ?_) (fun b2 => ?_)
  · replace e := zd_pos b2 e
    refine zk_lvs (lv' := [(0, .ref (S.1 58)), (1, .int x1), (2, .int x2), (3, .int x3), (4, .int x4)]) [0, 1, 2, 3, 4] rfl ?_
    exact zb_Mc_setConstants_127 C hR hr_Mc_beginInstance hk18 h x1 x2 x3 x4 e
  · replace e := zd_neg b2 e
    refine zk_aload_n C kd_Mc_setConstants_102 rfl 0 rfl rfl ?_
    refine zk_iload C kd_Mc_setConstants_103 5 rfl rfl ?_
    refine zk_iload C kd_Mc_setConstants_105 6 rfl rfl ?_
    refine zk_iadd C kd_Mc_setConstants_107 rfl ?_
    refine zk_aload_n C kd_Mc_setConstants_108 rfl 0 rfl rfl ?_
    refine zs_get (v := .ref (S.1 20)) C 58 11 rfl rfl rfl rfl ki_Mc (by decide) kw538 kd_Mc_setConstants_109 rfl ?_
    refine zs_get (v := .ref (S.1 35)) C 20 14 rfl rfl rfl rfl ki_Pl (by decide) kw284 kd_Mc_setConstants_112 rfl ?_
    refine zk_iload C kd_Mc_setConstants_115 4 rfl rfl ?_
    refine zs_iald C 35 rfl (zd_vp q1) kd_Mc_setConstants_117 rfl ?_
    obtain ⟨h4, c3, e⟩ := zd_b e
    refine zs_callV (k := 58) (rn := { frames := 0, cells := 0, slots := 0, locals := 0 }) (As := [.int (x6 + x7), .int (h.2.1 35 x4.toNatClampNeg)]) (rest := []) C (zc_Mc_become h (x6 + x7) (h.2.1 35 x4.toNatClampNeg) c3) ku_Mc_become kw1460 kv_Mc_become rfl (zd_rmO (by decide) (by decide)) ⟨Nat.le_refl _, Nat.le_refl _⟩ rfl rfl rfl (Nat.le_of_ble_eq_true rfl) kd_Mc_setConstants_118 rfl (c1 := 0) (s1 := 0) rfl rfl (fun v w hp => ?_)
    obtain ⟨rfl, rfl⟩ := hp
    refine zk_stk (r' := []) rfl ?_
    refine zk_iinc (v := (x7 + 1)) (lv' := [(7, _), (0, _), (1, _), (2, _), (3, _), (4, _), (6, _)]) C kd_Mc_setConstants_121 6 rfl rfl (by decide) rfl rfl ?_
    refine zk_goto (tgt := 87) C kd_Mc_setConstants_124 (by decide) ?_
    refine zk_lvs (lv' := [(0, .ref (S.1 58)), (1, .int x1), (2, .int x2), (3, .int x3), (4, .int x4), (6, .int x6), (7, .int (x7 + 1))]) [1, 2, 3, 4, 5, 6, 0] rfl ?_
    exact hk87 h4 x1 x2 x3 x4 x6 (x7 + 1) e
theorem zl_Mc_setConstants_87 {X : zkj_T} {S : zs_T} {P : ze_T} {l : Launch} {D : va_G} {sz0 : Nat} {d : Nat} {rh : zs_H} (C : zk_C X km_Mc_setConstants (zs_G S l D sz0) { frames := 1 + (d + 1), cells := 0, slots := 0, locals := 60 + 27 * (d + 1) } (ze_E P)) (hR : zkj_R X (zd_PV S rh) (none)) {r_Mc_beginInstance : zs_H → Int32 → Int32 → Int32 → (Option zs_H)} (hr_Mc_beginInstance : ∀ (h : zs_H) (x0 : Int32) (x1 : Int32) (x2 : Int32) {rh : zs_H}, r_Mc_beginInstance h x0 x1 x2 = some rh → zk_Sp (zs_G S l D sz0) (ze_E P) km_Mc_beginInstance { frames := 1 + d, cells := 0, slots := 0, locals := 60 + 27 * d } [.ref (S.1 58), .int x0, .int x1, .int x2] (zs_W S h) (zd_PV S rh)) {k18 : zs_H → Int32 → Int32 → Int32 → Int32 → (Option zs_H)} (hk18 : ∀ (h : zs_H) (x1 : Int32) (x2 : Int32) (x3 : Int32) (x4 : Int32), k18 h x1 x2 x3 x4 = some rh → zk_Ab X (zs_W S h) 0 0 18 [(0, .ref (S.1 58)), (1, .int x1), (2, .int x2), (3, .int x3), (4, .int x4)] []) (n : Nat) : ∀ (h : zs_H) (x1 : Int32) (x2 : Int32) (x3 : Int32) (x4 : Int32) (x6 : Int32) (x7 : Int32), f_Mc_setConstants_L87 r_Mc_beginInstance k18 n h x1 x2 x3 x4 x6 x7 = some rh → zk_Ab X (zs_W S h) 0 0 87 [(0, .ref (S.1 58)), (1, .int x1), (2, .int x2), (3, .int x3), (4, .int x4), (6, .int x6), (7, .int x7)] [] := by
  induction n with
  | zero => intro h x1 x2 x3 x4 x6 x7 e; exact zd_no e
  | succ n ih => intro h x1 x2 x3 x4 x6 x7 e; exact zb_Mc_setConstants_87 (k87 := f_Mc_setConstants_L87 r_Mc_beginInstance k18 n) C hR hr_Mc_beginInstance hk18 ih h x1 x2 x3 x4 x6 x7 e
set_option maxHeartbeats 4000000 in
set_option maxRecDepth 100000 in
theorem zb_Mc_setConstants_18 {X : zkj_T} {S : zs_T} {P : ze_T} {l : Launch} {D : va_G} {sz0 : Nat} {d : Nat} {rh : zs_H} (C : zk_C X km_Mc_setConstants (zs_G S l D sz0) { frames := 1 + (d + 1), cells := 0, slots := 0, locals := 60 + 27 * (d + 1) } (ze_E P)) (hR : zkj_R X (zd_PV S rh) (none)) {r_Mc_beginInstance : zs_H → Int32 → Int32 → Int32 → (Option zs_H)} (hr_Mc_beginInstance : ∀ (h : zs_H) (x0 : Int32) (x1 : Int32) (x2 : Int32) {rh : zs_H}, r_Mc_beginInstance h x0 x1 x2 = some rh → zk_Sp (zs_G S l D sz0) (ze_E P) km_Mc_beginInstance { frames := 1 + d, cells := 0, slots := 0, locals := 60 + 27 * d } [.ref (S.1 58), .int x0, .int x1, .int x2] (zs_W S h) (zd_PV S rh)) {k18 : zs_H → Int32 → Int32 → Int32 → Int32 → (Option zs_H)} (hk18 : ∀ (h : zs_H) (x1 : Int32) (x2 : Int32) (x3 : Int32) (x4 : Int32), k18 h x1 x2 x3 x4 = some rh → zk_Ab X (zs_W S h) 0 0 18 [(0, .ref (S.1 58)), (1, .int x1), (2, .int x2), (3, .int x3), (4, .int x4)] []) (h : zs_H) (x1 : Int32) (x2 : Int32) (x3 : Int32) (x4 : Int32) (e : f_Mc_setConstants_18 r_Mc_beginInstance k18 h x1 x2 x3 x4 = some rh) : zk_Ab X (zs_W S h) 0 0 18 [(0, .ref (S.1 58)), (1, .int x1), (2, .int x2), (3, .int x3), (4, .int x4)] [] := by
  unfold f_Mc_setConstants_18 at e
  refine zk_iload C kd_Mc_setConstants_18 4 rfl rfl ?_
  refine zk_aload_n C kd_Mc_setConstants_20 rfl 0 rfl rfl ?_
  refine zs_get (v := .ref (S.1 20)) C 58 11 rfl rfl rfl rfl ki_Mc (by decide) kw538 kd_Mc_setConstants_21 rfl ?_
  refine zs_get (v := .ref (S.1 24)) C 20 3 rfl rfl rfl rfl ki_Pl (by decide) kw245 kd_Mc_setConstants_24 rfl ?_
  refine zk_iload_n C kd_Mc_setConstants_27 rfl 1 rfl rfl ?_
  obtain ⟨q1, e⟩ := zd_g e
  refine zs_iald C 24 rfl (zd_vp q1) kd_Mc_setConstants_28 rfl ?_
  refine zk_icmp_ge (tgt := 133) C kd_Mc_setConstants_29 (by decide) rfl (fun b2 => ?_) (fun b2 => ?_)
  · replace e := zd_pos b2 e
    exact zk_vret C hR kd_Mc_setConstants_133 rfl rfl (zd_rV e)
  · replace e := zd_neg b2 e
    refine zk_aload_n C kd_Mc_setConstants_32 rfl 0 rfl rfl ?_
    refine zs_get (v := .ref (S.1 20)) C 58 11 rfl rfl rfl rfl ki_Mc (by decide) kw538 kd_Mc_setConstants_33 rfl ?_
    refine zs_get (v := .ref (S.1 30)) C 20 9 rfl rfl rfl rfl ki_Pl (by decide) kw261 kd_Mc_setConstants_36 rfl ?_
    refine zk_iload C kd_Mc_setConstants_39 4 rfl rfl ?_
    obtain ⟨q3, e⟩ := zd_g e
    refine zs_iald C 30 rfl (zd_vp q3) kd_Mc_setConstants_41 rfl ?_
    refine zk_istore (lv' := [(5, _), (0, _), (1, _), (2, _), (3, _), (4, _)]) C kd_Mc_setConstants_42 (by decide) rfl rfl ?_
    refine zk_iload_n C kd_Mc_setConstants_44 rfl 3 rfl rfl ?_
    refine zk_aload_n C kd_Mc_setConstants_45 rfl 1 rfl rfl ?_
    refine zs_get (v := .ref (S.1 20)) C 58 11 rfl rfl rfl rfl ki_Mc (by decide) kw538 kd_Mc_setConstants_46 rfl ?_
    refine zs_get (v := .ref (S.1 32)) C 20 11 rfl rfl rfl rfl ki_Pl (by decide) kw270 kd_Mc_setConstants_49 rfl ?_
    refine zk_iload C kd_Mc_setConstants_52 5 rfl rfl ?_
    refine zs_iald C 32 rfl (zd_vp q3) kd_Mc_setConstants_54 rfl ?_
    refine zk_iadd C kd_Mc_setConstants_55 rfl ?_
    refine zk_istore (lv' := [(6, _), (5, _), (0, _), (1, _), (2, _), (3, _), (4, _)]) C kd_Mc_setConstants_56 (by decide) rfl rfl ?_
    refine zk_iload C kd_Mc_setConstants_58 1 rfl rfl ?_
    refine zk_bipush (v := 9) C kd_Mc_setConstants_60 (by decide) rfl ?_
    refine zk_icmp_lt (tgt := 79) C kd_Mc_setConstants_62 (by decide) rfl (fun b4 => ?_) (fun b4 => ?_)
    · replace e := zd_pos b4 e
      refine zk_iload C kd_Mc_setConstants_79 1 rfl rfl ?_
      refine zk_if_ge (tgt := 127) C kd_Mc_setConstants_81 (by decide) rfl (fun b5 => ?_) (fun b5 => ?_)
      · replace e := zd_pos b5 e
        refine zk_lvs (lv' := [(0, .ref (S.1 58)), (1, .int x1), (2, .int x2), (3, .int x3), (4, .int x4)]) [2, 3, 4, 5, 6] rfl ?_
        exact zb_Mc_setConstants_127 C hR hr_Mc_beginInstance hk18 h x1 x2 x3 x4 e
      · replace e := zd_neg b5 e
        refine zk_iconst (v := 0) C kd_Mc_setConstants_84 (by decide) rfl ?_
        refine zk_istore (lv' := [(7, _), (6, _), (5, _), (0, _), (1, _), (2, _), (3, _), (4, _)]) C kd_Mc_setConstants_85 (by decide) rfl rfl ?_
        refine zk_lvs (lv' := [(0, .ref (S.1 58)), (1, .int x1), (2, .int x2), (3, .int x3), (4, .int x4), (6, .int (x2 + (h.2.1 32 x4.toNatClampNeg))), (7, .int 0)]) [3, 4, 5, 6, 7, 1, 0] rfl ?_
        exact zl_Mc_setConstants_87 C hR hr_Mc_beginInstance hk18 zF h x1 x2 x3 x4 (x2 + (h.2.1 32 x4.toNatClampNeg)) 0 e
    · replace e := zd_neg b4 e
      refine zk_aload_n C kd_Mc_setConstants_65 rfl 2 rfl rfl ?_
      refine zk_iload C kd_Mc_setConstants_66 1 rfl rfl ?_
      refine zk_iload C kd_Mc_setConstants_68 0 rfl rfl ?_
      refine zk_iload_n C kd_Mc_setConstants_70 rfl 5 rfl rfl ?_
      refine zk_iconst (v := 1) C kd_Mc_setConstants_71 (by decide) rfl ?_
      refine zk_iadd C kd_Mc_setConstants_72 rfl ?_
      obtain ⟨h7, c6, e⟩ := zd_b e
      refine zs_callV (k := 58) (rn := { frames := 1 + d, cells := 0, slots := 0, locals := 60 + 27 * d }) (As := [.int (h.2.1 30 x4.toNatClampNeg), .int (x2 + (h.2.1 32 x4.toNatClampNeg)), .int (x3 + 1)]) (rest := []) C (hr_Mc_beginInstance h (h.2.1 30 x4.toNatClampNeg) (x2 + (h.2.1 32 x4.toNatClampNeg)) (x3 + 1) c6) ku_Mc_beginInstance kw1453 kv_Mc_beginInstance rfl (zd_rmI (by decide)) ⟨Nat.le_refl _, Nat.le_refl _⟩ rfl rfl rfl (Nat.le_of_ble_eq_true rfl) kd_Mc_setConstants_73 rfl (c1 := 0) (s1 := 0) rfl rfl (fun v w hp => ?_)
      obtain ⟨rfl, rfl⟩ := hp
      refine zk_stk (r' := []) rfl ?_
      refine zk_goto (tgt := 127) C kd_Mc_setConstants_76 (by decide) ?_
      refine zk_lvs (lv' := [(0, .ref (S.1 58)), (1, .int x1), (2, .int x2), (3, .int x3), (4, .int x4)]) [2, 3, 4, 5, 6] rfl ?_
      exact zb_Mc_setConstants_127 C hR hr_Mc_beginInstance hk18 h7 x1 x2 x3 x4 e
theorem zl_Mc_setConstants_18 {X : zkj_T} {S : zs_T} {P : ze_T} {l : Launch} {D : va_G} {sz0 : Nat} {d : Nat} {rh : zs_H} (C : zk_C X km_Mc_setConstants (zs_G S l D sz0) { frames := 1 + (d + 1), cells := 0, slots := 0, locals := 60 + 27 * (d + 1) } (ze_E P)) (hR : zkj_R X (zd_PV S rh) (none)) {r_Mc_beginInstance : zs_H → Int32 → Int32 → Int32 → (Option zs_H)} (hr_Mc_beginInstance : ∀ (h : zs_H) (x0 : Int32) (x1 : Int32) (x2 : Int32) {rh : zs_H}, r_Mc_beginInstance h x0 x1 x2 = some rh → zk_Sp (zs_G S l D sz0) (ze_E P) km_Mc_beginInstance { frames := 1 + d, cells := 0, slots := 0, locals := 60 + 27 * d } [.ref (S.1 58), .int x0, .int x1, .int x2] (zs_W S h) (zd_PV S rh)) (n : Nat) : ∀ (h : zs_H) (x1 : Int32) (x2 : Int32) (x3 : Int32) (x4 : Int32), f_Mc_setConstants_L18 r_Mc_beginInstance n h x1 x2 x3 x4 = some rh → zk_Ab X (zs_W S h) 0 0 18 [(0, .ref (S.1 58)), (1, .int x1), (2, .int x2), (3, .int x3), (4, .int x4)] [] := by
  induction n with
  | zero => intro h x1 x2 x3 x4 e; exact zd_no e
  | succ n ih => intro h x1 x2 x3 x4 e; exact zb_Mc_setConstants_18 (k18 := f_Mc_setConstants_L18 r_Mc_beginInstance n) C hR hr_Mc_beginInstance ih h x1 x2 x3 x4 e
set_option maxHeartbeats 4000000 in
set_option maxRecDepth 100000 in
theorem zg_Mc_setConstants {l : Launch} {D : va_G} {sz0 : Nat} {S : zs_T} {P : ze_T} {d : Nat} {r_Mc_beginInstance : zs_H → Int32 → Int32 → Int32 → (Option zs_H)} (hr_Mc_beginInstance : ∀ (h : zs_H) (x0 : Int32) (x1 : Int32) (x2 : Int32) {rh : zs_H}, r_Mc_beginInstance h x0 x1 x2 = some rh → zk_Sp (zs_G S l D sz0) (ze_E P) km_Mc_beginInstance { frames := 1 + d, cells := 0, slots := 0, locals := 60 + 27 * d } [.ref (S.1 58), .int x0, .int x1, .int x2] (zs_W S h) (zd_PV S rh)) (h : zs_H) (x1 : Int32) (x2 : Int32) (x3 : Int32) {rh : zs_H} (e : g_Mc_setConstants r_Mc_beginInstance h x1 x2 x3 = some rh) : zk_Sp (zs_G S l D sz0) (ze_E P) km_Mc_setConstants { frames := 1 + (d + 1), cells := 0, slots := 0, locals := 60 + 27 * (d + 1) } [.ref (S.1 58), .int x1, .int x2, .int x3] (zs_W S h) (zd_PV S rh) := by
  refine zk_met ku_Mc_setConstants (Nat.le_of_ble_eq_true rfl) (ze_Em P) ?_
  intro X C hR
  refine zk_lvs (lv' := [(0, .ref (S.1 58)), (1, .int x1), (2, .int x2), (3, .int x3)]) [0, 1, 2, 3] rfl ?_
  unfold g_Mc_setConstants at e
  refine zk_iload_n C kd_Mc_setConstants_0 rfl 3 rfl rfl ?_
  refine zk_bipush (v := 16) C kd_Mc_setConstants_1 (by decide) rfl ?_
  refine zk_icmp_le (tgt := 7) C kd_Mc_setConstants_3 (by decide) rfl (fun b1 => ?_) (fun b1 => ?_)
  · replace e := zd_pos b1 e
    refine zk_aload_n C kd_Mc_setConstants_7 rfl 0 rfl rfl ?_
    refine zs_get (v := .ref (S.1 20)) C 58 11 rfl rfl rfl rfl ki_Mc (by decide) kw538 kd_Mc_setConstants_8 rfl ?_
    refine zs_get (v := .ref (S.1 23)) C 20 2 rfl rfl rfl rfl ki_Pl (by decide) kw241 kd_Mc_setConstants_11 rfl ?_
    refine zk_iload_n C kd_Mc_setConstants_14 rfl 1 rfl rfl ?_
    obtain ⟨q2, e⟩ := zd_g e
    refine zs_iald C 23 rfl (zd_vp q2) kd_Mc_setConstants_15 rfl ?_
    refine zk_istore (lv' := [(4, _), (0, _), (1, _), (2, _), (3, _)]) C kd_Mc_setConstants_16 (by decide) rfl rfl ?_
    refine zk_lvs (lv' := [(0, .ref (S.1 58)), (1, .int x1), (2, .int x2), (3, .int x3), (4, .int (h.2.1 23 x1.toNatClampNeg))]) [1, 2, 3, 4, 0] rfl ?_
    exact zl_Mc_setConstants_18 C hR hr_Mc_beginInstance zF h x1 x2 x3 (h.2.1 23 x1.toNatClampNeg) e
  · replace e := zd_neg b1 e
    exact zk_vret C hR kd_Mc_setConstants_6 rfl rfl (zd_rV e)
theorem zs_Mc_beginInstance {l : Launch} {D : va_G} {sz0 : Nat} {S : zs_T} {P : ze_T} (d : Nat) : (∀ (h : zs_H) (x0 : Int32) (x1 : Int32) (x2 : Int32) {rh : zs_H}, f_Mc_beginInstance d h x0 x1 x2 = some rh → zk_Sp (zs_G S l D sz0) (ze_E P) km_Mc_beginInstance { frames := 1 + d, cells := 0, slots := 0, locals := 60 + 27 * d } [.ref (S.1 58), .int x0, .int x1, .int x2] (zs_W S h) (zd_PV S rh)) ∧ (∀ (h : zs_H) (x0 : Int32) (x1 : Int32) (x2 : Int32) {rh : zs_H}, f_Mc_setConstants d h x0 x1 x2 = some rh → zk_Sp (zs_G S l D sz0) (ze_E P) km_Mc_setConstants { frames := 1 + d, cells := 0, slots := 0, locals := 60 + 27 * d } [.ref (S.1 58), .int x0, .int x1, .int x2] (zs_W S h) (zd_PV S rh)) := by
  induction d with
  | zero => exact ⟨(fun h x0 x1 x2 _ e => zd_no e), (fun h x0 x1 x2 _ e => zd_no e)⟩
  | succ d ih =>
    obtain ⟨q0, q1⟩ := ih
    exact ⟨(fun h x0 x1 x2 _ e => zg_Mc_beginInstance (r_Mc_setConstants := f_Mc_setConstants d) q1 h x0 x1 x2 e), (fun h x0 x1 x2 _ e => zg_Mc_setConstants (r_Mc_beginInstance := f_Mc_beginInstance d) q0 h x0 x1 x2 e)⟩
theorem zc_Mc_beginInstance {l : Launch} {D : va_G} {sz0 : Nat} {S : zs_T} {P : ze_T} (h : zs_H) (x0 : Int32) (x1 : Int32) (x2 : Int32) {rh : zs_H} (e : f_Mc_beginInstance 400 h x0 x1 x2 = some rh) : zk_Sp (zs_G S l D sz0) (ze_E P) km_Mc_beginInstance { frames := 1 + 400, cells := 0, slots := 0, locals := 60 + 27 * 400 } [.ref (S.1 58), .int x0, .int x1, .int x2] (zs_W S h) (zd_PV S rh) := (zs_Mc_beginInstance 400).1 h x0 x1 x2 e
theorem zc_Mc_setConstants {l : Launch} {D : va_G} {sz0 : Nat} {S : zs_T} {P : ze_T} (h : zs_H) (x0 : Int32) (x1 : Int32) (x2 : Int32) {rh : zs_H} (e : f_Mc_setConstants 400 h x0 x1 x2 = some rh) : zk_Sp (zs_G S l D sz0) (ze_E P) km_Mc_setConstants { frames := 1 + 400, cells := 0, slots := 0, locals := 60 + 27 * 400 } [.ref (S.1 58), .int x0, .int x1, .int x2] (zs_W S h) (zd_PV S rh) := (zs_Mc_beginInstance 400).2 h x0 x1 x2 e
