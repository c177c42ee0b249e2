theorem kw264 : Jvm.Cond.fieldLink "PlantKeeper" (219 : Nat) "PlantKeeper$Plan" "instanceOf" "[I" ∈ zk_BW := zk_inT 264 (by decide +kernel) rfl
theorem kw267 : Jvm.Cond.fieldLink "PlantKeeper" (256 : Nat) "PlantKeeper$Plan" "type" "[I" ∈ zk_BW := zk_inT 267 (by decide +kernel) rfl
theorem kw271 : Jvm.Cond.fieldLink "PlantKeeper" (216 : Nat) "PlantKeeper$Plan" "cell" "[I" ∈ zk_BW := zk_inT 271 (by decide +kernel) rfl
theorem kw275 : Jvm.Cond.fieldLink "PlantKeeper" (244 : Nat) "PlantKeeper$Plan" "low" "[I" ∈ zk_BW := zk_inT 275 (by decide +kernel) rfl
theorem kw280 : Jvm.Cond.fieldLink "PlantKeeper" (247 : Nat) "PlantKeeper$Plan" "length" "[I" ∈ zk_BW := zk_inT 280 (by decide +kernel) rfl
theorem kw295 : Jvm.Cond.fieldLink "PlantKeeper" (149 : Nat) "PlantKeeper$Plan" "program" "I" ∈ zk_BW := zk_inT 295 (by decide +kernel) rfl
theorem kw414 : Jvm.Cond.fieldLink "PlantKeeper$Machine" (175 : Nat) "PlantKeeper$Code" "start" "[I" ∈ zk_BW := zk_inT 414 (by decide +kernel) rfl
theorem kw420 : Jvm.Cond.fieldLink "PlantKeeper$Machine" (169 : Nat) "PlantKeeper$Code" "units" "I" ∈ zk_BW := zk_inT 420 (by decide +kernel) rfl
theorem kw523 : Jvm.Cond.fieldLink "PlantKeeper$Line" (30 : Nat) "PlantKeeper$Machine" "loaded" "Z" ∈ zk_BW := zk_inT 523 (by decide +kernel) rfl
theorem kw541 : Jvm.Cond.fieldLink "PlantKeeper$Machine" (139 : Nat) "PlantKeeper$Machine" "top" "I" ∈ zk_BW := zk_inT 541 (by decide +kernel) rfl
theorem kw544 : Jvm.Cond.fieldLink "PlantKeeper$Machine" (142 : Nat) "PlantKeeper$Machine" "depth" "I" ∈ zk_BW := zk_inT 544 (by decide +kernel) rfl
theorem kw545 : Jvm.Cond.fieldLink "PlantKeeper$Machine" (149 : Nat) "PlantKeeper$Machine" "at" "I" ∈ zk_BW := zk_inT 545 (by decide +kernel) rfl
theorem kw546 : Jvm.Cond.fieldLink "PlantKeeper$Machine" (152 : Nat) "PlantKeeper$Machine" "behind" "I" ∈ zk_BW := zk_inT 546 (by decide +kernel) rfl
theorem kw547 : Jvm.Cond.fieldLink "PlantKeeper$Machine" (172 : Nat) "PlantKeeper$Machine" "base" "I" ∈ zk_BW := zk_inT 547 (by decide +kernel) rfl
theorem kw620 : Jvm.Cond.fieldLink "PlantKeeper" (108 : Nat) "PlantKeeper" "tapeSize" "I" ∈ zk_BW := zk_inT 620 (by decide +kernel) rfl
theorem kw623 : Jvm.Cond.fieldLink "PlantKeeper" (253 : Nat) "PlantKeeper" "watchedValue" "I" ∈ zk_BW := zk_inT 623 (by decide +kernel) rfl
theorem kw701 : Jvm.Cond.instanceMethod ({ cls := "PlantKeeper$Names", name := "find", desc := "([BII)I" } : Jvm.MethodName) ∈ zk_BW := zk_inT 701 (by decide +kernel) rfl
theorem kw702 : Jvm.Cond.selects "PlantKeeper$Names" ({ cls := "PlantKeeper$Names", name := "find", desc := "([BII)I" } : Jvm.MethodName) ({ cls := "PlantKeeper$Names", name := "find", desc := "([BII)I" } : Jvm.MethodName) ∈ zk_BW := zk_inT 702 (by decide +kernel) rfl
theorem kw703 : Jvm.Cond.code ({ cls := "PlantKeeper$Names", name := "find", desc := "([BII)I" } : Jvm.MethodName) prog_7_method_8_code (6 : Nat) (Option.some FieldType.int) ∈ zk_BW := zk_inT 703 (by decide +kernel) rfl
theorem kw704 : Jvm.Cond.methodLink "PlantKeeper$Names" (68 : Nat) ({ cls := "PlantKeeper$Names", name := "headOf", desc := "([BII)I" } : Jvm.MethodName) ∈ zk_BW := zk_inT 704 (by decide +kernel) rfl
theorem kw705 : Jvm.Cond.static ({ cls := "PlantKeeper$Names", name := "headOf", desc := "([BII)I" } : Jvm.MethodName) ∈ zk_BW := zk_inT 705 (by decide +kernel) rfl
theorem kw706 : Jvm.Cond.code ({ cls := "PlantKeeper$Names", name := "headOf", desc := "([BII)I" } : Jvm.MethodName) prog_7_method_10_code (5 : Nat) (Option.some FieldType.int) ∈ zk_BW := zk_inT 706 (by decide +kernel) rfl
theorem kw707 : Jvm.Cond.methodLink "PlantKeeper$Names" (78 : Nat) ({ cls := "PlantKeeper$Names", name := "great", desc := "(I)I" } : Jvm.MethodName) ∈ zk_BW := zk_inT 707 (by decide +kernel) rfl
theorem kw708 : Jvm.Cond.static ({ cls := "PlantKeeper$Names", name := "great", desc := "(I)I" } : Jvm.MethodName) ∈ zk_BW := zk_inT 708 (by decide +kernel) rfl
theorem kw709 : Jvm.Cond.code ({ cls := "PlantKeeper$Names", name := "great", desc := "(I)I" } : Jvm.MethodName) prog_7_method_7_code (1 : Nat) (Option.some FieldType.int) ∈ zk_BW := zk_inT 709 (by decide +kernel) rfl
theorem kw710 : Jvm.Cond.methodLink "PlantKeeper$Names" (71 : Nat) ({ cls := "PlantKeeper$Names", name := "isSame", desc := "(I[BII)Z" } : Jvm.MethodName) ∈ zk_BW := zk_inT 710 (by decide +kernel) rfl
theorem kw712 : Jvm.Cond.instanceMethod ({ cls := "PlantKeeper$Names", name := "isSame", desc := "(I[BII)Z" } : Jvm.MethodName) ∈ zk_BW := zk_inT 712 (by decide +kernel) rfl
theorem kw713 : Jvm.Cond.code ({ cls := "PlantKeeper$Names", name := "isSame", desc := "(I[BII)Z" } : Jvm.MethodName) prog_7_method_11_code (6 : Nat) (Option.some FieldType.boolean) ∈ zk_BW := zk_inT 713 (by decide +kernel) rfl
theorem kw767 : Jvm.Cond.static ({ cls := "PlantKeeper$Names", name := "isPart", desc := "(I)Z" } : Jvm.MethodName) ∈ zk_BW := zk_inT 767 (by decide +kernel) rfl
theorem kw768 : Jvm.Cond.code ({ cls := "PlantKeeper$Names", name := "isPart", desc := "(I)Z" } : Jvm.MethodName) prog_7_method_6_code (1 : Nat) (Option.some FieldType.boolean) ∈ zk_BW := zk_inT 768 (by decide +kernel) rfl
theorem kw769 : Jvm.Cond.methodLink "PlantKeeper$Names" (64 : Nat) ({ cls := "PlantKeeper$Names", name := "isLetter", desc := "(I)Z" } : Jvm.MethodName) ∈ zk_BW := zk_inT 769 (by decide +kernel) rfl
theorem kw770 : Jvm.Cond.static ({ cls := "PlantKeeper$Names", name := "isLetter", desc := "(I)Z" } : Jvm.MethodName) ∈ zk_BW := zk_inT 770 (by decide +kernel) rfl
theorem kw771 : Jvm.Cond.code ({ cls := "PlantKeeper$Names", name := "isLetter", desc := "(I)Z" } : Jvm.MethodName) prog_7_method_5_code (1 : Nat) (Option.some FieldType.boolean) ∈ zk_BW := zk_inT 771 (by decide +kernel) rfl
theorem kw1135 : Jvm.Cond.instanceMethod ({ cls := "PlantKeeper$Plan", name := "variableOf", desc := "(II)I" } : Jvm.MethodName) ∈ zk_BW := zk_inT 1135 (by decide +kernel) rfl
theorem kw1136 : Jvm.Cond.selects "PlantKeeper$Plan" ({ cls := "PlantKeeper$Plan", name := "variableOf", desc := "(II)I" } : Jvm.MethodName) ({ cls := "PlantKeeper$Plan", name := "variableOf", desc := "(II)I" } : Jvm.MethodName) ∈ zk_BW := zk_inT 1136 (by decide +kernel) rfl
theorem kw1137 : Jvm.Cond.code ({ cls := "PlantKeeper$Plan", name := "variableOf", desc := "(II)I" } : Jvm.MethodName) prog_9_method_7_code (4 : Nat) (Option.some FieldType.int) ∈ zk_BW := zk_inT 1137 (by decide +kernel) rfl
theorem kw1225 : Jvm.Cond.static ({ cls := "PlantKeeper$Code", name := "one", desc := "(II)I" } : Jvm.MethodName) ∈ zk_BW := zk_inT 1225 (by decide +kernel) rfl
theorem kw1226 : Jvm.Cond.code ({ cls := "PlantKeeper$Code", name := "one", desc := "(II)I" } : Jvm.MethodName) prog_2_method_13_code (2 : Nat) (Option.some FieldType.int) ∈ zk_BW := zk_inT 1226 (by decide +kernel) rfl
theorem kw1227 : Jvm.Cond.methodLink "PlantKeeper$Code" (58 : Nat) ({ cls := "java/lang/Math", name := "abs", desc := "(I)I" } : Jvm.MethodName) ∈ zk_BW := zk_inT 1227 (by decide +kernel) rfl
theorem kw1228 : Jvm.Cond.static ({ cls := "java/lang/Math", name := "abs", desc := "(I)I" } : Jvm.MethodName) ∈ zk_BW := zk_inT 1228 (by decide +kernel) rfl
theorem kw1251 : Jvm.Cond.static ({ cls := "PlantKeeper$Code", name := "isByZero", desc := "(II)Z" } : Jvm.MethodName) ∈ zk_BW := zk_inT 1251 (by decide +kernel) rfl
theorem kw1252 : Jvm.Cond.code ({ cls := "PlantKeeper$Code", name := "isByZero", desc := "(II)Z" } : Jvm.MethodName) prog_2_method_11_code (2 : Nat) (Option.some FieldType.boolean) ∈ zk_BW := zk_inT 1252 (by decide +kernel) rfl
theorem kw1511 : Jvm.Cond.instanceMethod ({ cls := "PlantKeeper$Machine", name := "takeInputs", desc := "()V" } : Jvm.MethodName) ∈ zk_BW := zk_inT 1511 (by decide +kernel) rfl
theorem kw1512 : Jvm.Cond.code ({ cls := "PlantKeeper$Machine", name := "takeInputs", desc := "()V" } : Jvm.MethodName) prog_6_method_8_code (2 : Nat) (Option.none : Option FieldType) ∈ zk_BW := zk_inT 1512 (by decide +kernel) rfl
theorem kw1519 : Jvm.Cond.instanceMethod ({ cls := "PlantKeeper$Machine", name := "beginUnit", desc := "(II)V" } : Jvm.MethodName) ∈ zk_BW := zk_inT 1519 (by decide +kernel) rfl
theorem kw1520 : Jvm.Cond.code ({ cls := "PlantKeeper$Machine", name := "beginUnit", desc := "(II)V" } : Jvm.MethodName) prog_6_method_15_code (4 : Nat) (Option.none : Option FieldType) ∈ zk_BW := zk_inT 1520 (by decide +kernel) rfl
theorem kw1524 : Jvm.Cond.instanceMethod ({ cls := "PlantKeeper$Machine", name := "endUnit", desc := "()V" } : Jvm.MethodName) ∈ zk_BW := zk_inT 1524 (by decide +kernel) rfl
theorem kw1525 : Jvm.Cond.code ({ cls := "PlantKeeper$Machine", name := "endUnit", desc := "()V" } : Jvm.MethodName) prog_6_method_16_code (1 : Nat) (Option.none : Option FieldType) ∈ zk_BW := zk_inT 1525 (by decide +kernel) rfl
theorem kw1532 : Jvm.Cond.instanceMethod ({ cls := "PlantKeeper$Machine", name := "lay", desc := "(I)V" } : Jvm.MethodName) ∈ zk_BW := zk_inT 1532 (by decide +kernel) rfl
theorem kw1533 : Jvm.Cond.code ({ cls := "PlantKeeper$Machine", name := "lay", desc := "(I)V" } : Jvm.MethodName) prog_6_method_17_code (2 : Nat) (Option.none : Option FieldType) ∈ zk_BW := zk_inT 1533 (by decide +kernel) rfl
theorem kw1535 : Jvm.Cond.instanceMethod ({ cls := "PlantKeeper$Machine", name := "cellAt", desc := "(I)I" } : Jvm.MethodName) ∈ zk_BW := zk_inT 1535 (by decide +kernel) rfl
theorem kw1536 : Jvm.Cond.selects "PlantKeeper$Machine" ({ cls := "PlantKeeper$Machine", name := "cellAt", desc := "(I)I" } : Jvm.MethodName) ({ cls := "PlantKeeper$Machine", name := "cellAt", desc := "(I)I" } : Jvm.MethodName) ∈ zk_BW := zk_inT 1536 (by decide +kernel) rfl
theorem kw1537 : Jvm.Cond.code ({ cls := "PlantKeeper$Machine", name := "cellAt", desc := "(I)I" } : Jvm.MethodName) prog_6_method_9_code (2 : Nat) (Option.some FieldType.int) ∈ zk_BW := zk_inT 1537 (by decide +kernel) rfl
theorem kw1540 : Jvm.Cond.instanceMethod ({ cls := "PlantKeeper$Machine", name := "takeOff", desc := "()I" } : Jvm.MethodName) ∈ zk_BW := zk_inT 1540 (by decide +kernel) rfl
theorem kw1541 : Jvm.Cond.code ({ cls := "PlantKeeper$Machine", name := "takeOff", desc := "()I" } : Jvm.MethodName) prog_6_method_18_code (1 : Nat) (Option.some FieldType.int) ∈ zk_BW := zk_inT 1541 (by decide +kernel) rfl
theorem kw1572 : Jvm.Cond.instanceMethod ({ cls := "PlantKeeper", name := "watch", desc := "()I" } : Jvm.MethodName) ∈ zk_BW := zk_inT 1572 (by decide +kernel) rfl
theorem kw1573 : Jvm.Cond.selects "PlantKeeper" ({ cls := "PlantKeeper", name := "watch", desc := "()I" } : Jvm.MethodName) ({ cls := "PlantKeeper", name := "watch", desc := "()I" } : Jvm.MethodName) ∈ zk_BW := zk_inT 1573 (by decide +kernel) rfl
theorem kw1574 : Jvm.Cond.code ({ cls := "PlantKeeper", name := "watch", desc := "()I" } : Jvm.MethodName) prog_1_method_15_code (2 : Nat) (Option.some FieldType.int) ∈ zk_BW := zk_inT 1574 (by decide +kernel) rfl
theorem kw1575 : Jvm.Cond.methodLink "PlantKeeper" (203 : Nat) ({ cls := "PlantKeeper", name := "follow", desc := "(I)I" } : Jvm.MethodName) ∈ zk_BW := zk_inT 1575 (by decide +kernel) rfl
theorem kw1577 : Jvm.Cond.instanceMethod ({ cls := "PlantKeeper", name := "follow", desc := "(I)I" } : Jvm.MethodName) ∈ zk_BW := zk_inT 1577 (by decide +kernel) rfl
theorem kw1578 : Jvm.Cond.code ({ cls := "PlantKeeper", name := "follow", desc := "(I)I" } : Jvm.MethodName) prog_1_method_16_code (9 : Nat) (Option.some FieldType.int) ∈ zk_BW := zk_inT 1578 (by decide +kernel) rfl
theorem kw1579 : Jvm.Cond.methodLink "PlantKeeper" (206 : Nat) ({ cls := "PlantKeeper", name := "nameEnd", desc := "(II)I" } : Jvm.MethodName) ∈ zk_BW := zk_inT 1579 (by decide +kernel) rfl
theorem kw1581 : Jvm.Cond.instanceMethod ({ cls := "PlantKeeper", name := "nameEnd", desc := "(II)I" } : Jvm.MethodName) ∈ zk_BW := zk_inT 1581 (by decide +kernel) rfl
theorem kw1582 : Jvm.Cond.code ({ cls := "PlantKeeper", name := "nameEnd", desc := "(II)I" } : Jvm.MethodName) prog_1_method_17_code (4 : Nat) (Option.some FieldType.int) ∈ zk_BW := zk_inT 1582 (by decide +kernel) rfl
theorem kw1583 : Jvm.Cond.methodLink "PlantKeeper" (228 : Nat) ({ cls := "PlantKeeper$Names", name := "isPart", desc := "(I)Z" } : Jvm.MethodName) ∈ zk_BW := zk_inT 1583 (by decide +kernel) rfl
theorem kw1584 : Jvm.Cond.methodLink "PlantKeeper" (209 : Nat) ({ cls := "PlantKeeper$Names", name := "find", desc := "([BII)I" } : Jvm.MethodName) ∈ zk_BW := zk_inT 1584 (by decide +kernel) rfl
theorem kw1585 : Jvm.Cond.methodLink "PlantKeeper" (213 : Nat) ({ cls := "PlantKeeper$Plan", name := "variableOf", desc := "(II)I" } : Jvm.MethodName) ∈ zk_BW := zk_inT 1585 (by decide +kernel) rfl
theorem kw1586 : Jvm.Cond.methodLink "PlantKeeper" (222 : Nat) ({ cls := "PlantKeeper", name := "show", desc := "(II)I" } : Jvm.MethodName) ∈ zk_BW := zk_inT 1586 (by decide +kernel) rfl
theorem kw1588 : Jvm.Cond.instanceMethod ({ cls := "PlantKeeper", name := "show", desc := "(II)I" } : Jvm.MethodName) ∈ zk_BW := zk_inT 1588 (by decide +kernel) rfl
theorem kw1589 : Jvm.Cond.code ({ cls := "PlantKeeper", name := "show", desc := "(II)I" } : Jvm.MethodName) prog_1_method_19_code (3 : Nat) (Option.some FieldType.int) ∈ zk_BW := zk_inT 1589 (by decide +kernel) rfl
theorem kw1590 : Jvm.Cond.methodLink "PlantKeeper" (250 : Nat) ({ cls := "PlantKeeper$Machine", name := "cellAt", desc := "(I)I" } : Jvm.MethodName) ∈ zk_BW := zk_inT 1590 (by decide +kernel) rfl
theorem kw1591 : Jvm.Cond.methodLink "PlantKeeper" (225 : Nat) ({ cls := "PlantKeeper", name := "indexOnTape", desc := "(III)I" } : Jvm.MethodName) ∈ zk_BW := zk_inT 1591 (by decide +kernel) rfl
theorem kw1593 : Jvm.Cond.instanceMethod ({ cls := "PlantKeeper", name := "indexOnTape", desc := "(III)I" } : Jvm.MethodName) ∈ zk_BW := zk_inT 1593 (by decide +kernel) rfl
theorem kw1594 : Jvm.Cond.code ({ cls := "PlantKeeper", name := "indexOnTape", desc := "(III)I" } : Jvm.MethodName) prog_1_method_18_code (10 : Nat) (Option.some FieldType.int) ∈ zk_BW := zk_inT 1594 (by decide +kernel) rfl
theorem kw1595 : Jvm.Cond.constantLong "PlantKeeper" (232 : Nat) (10 : Int64) ∈ zk_BW := zk_inT 1595 (by decide +kernel) rfl
theorem kw1596 : Jvm.Cond.constantLong "PlantKeeper" (234 : Nat) (48 : Int64) ∈ zk_BW := zk_inT 1596 (by decide +kernel) rfl
theorem kw1597 : Jvm.Cond.constantLong "PlantKeeper" (236 : Nat) (1099511627776 : Int64) ∈ zk_BW := zk_inT 1597 (by decide +kernel) rfl
theorem kw1598 : Jvm.Cond.methodLink "PlantKeeper" (238 : Nat) ({ cls := "java/lang/Math", name := "min", desc := "(JJ)J" } : Jvm.MethodName) ∈ zk_BW := zk_inT 1598 (by decide +kernel) rfl
theorem kw1600 : Jvm.Cond.instanceMethod ({ cls := "PlantKeeper", name := "watched", desc := "()I" } : Jvm.MethodName) ∈ zk_BW := zk_inT 1600 (by decide +kernel) rfl
theorem kw1601 : Jvm.Cond.selects "PlantKeeper" ({ cls := "PlantKeeper", name := "watched", desc := "()I" } : Jvm.MethodName) ({ cls := "PlantKeeper", name := "watched", desc := "()I" } : Jvm.MethodName) ∈ zk_BW := zk_inT 1601 (by decide +kernel) rfl
theorem kw1602 : Jvm.Cond.code ({ cls := "PlantKeeper", name := "watched", desc := "()I" } : Jvm.MethodName) prog_1_method_20_code (1 : Nat) (Option.some FieldType.int) ∈ zk_BW := zk_inT 1602 (by decide +kernel) rfl
theorem kw1604 : Jvm.Cond.instanceMethod ({ cls := "PlantKeeper", name := "frame", desc := "()I" } : Jvm.MethodName) ∈ zk_BW := zk_inT 1604 (by decide +kernel) rfl
theorem kw1605 : Jvm.Cond.selects "PlantKeeper" ({ cls := "PlantKeeper", name := "frame", desc := "()I" } : Jvm.MethodName) ({ cls := "PlantKeeper", name := "frame", desc := "()I" } : Jvm.MethodName) ∈ zk_BW := zk_inT 1605 (by decide +kernel) rfl
theorem kw1606 : Jvm.Cond.code ({ cls := "PlantKeeper", name := "frame", desc := "()I" } : Jvm.MethodName) prog_1_method_21_code (2 : Nat) (Option.some FieldType.int) ∈ zk_BW := zk_inT 1606 (by decide +kernel) rfl
theorem kw1607 : Jvm.Cond.methodLink "PlantKeeper" (259 : Nat) ({ cls := "PlantKeeper$Line", name := "answer", desc := "([BI)I" } : Jvm.MethodName) ∈ zk_BW := zk_inT 1607 (by decide +kernel) rfl
theorem kw1608 : Jvm.Cond.instanceMethod ({ cls := "PlantKeeper$Line", name := "answer", desc := "([BI)I" } : Jvm.MethodName) ∈ zk_BW := zk_inT 1608 (by decide +kernel) rfl
theorem kw1609 : Jvm.Cond.selects "PlantKeeper$Line" ({ cls := "PlantKeeper$Line", name := "answer", desc := "([BI)I" } : Jvm.MethodName) ({ cls := "PlantKeeper$Line", name := "answer", desc := "([BI)I" } : Jvm.MethodName) ∈ zk_BW := zk_inT 1609 (by decide +kernel) rfl
theorem kw1610 : Jvm.Cond.code ({ cls := "PlantKeeper$Line", name := "answer", desc := "([BI)I" } : Jvm.MethodName) prog_5_method_2_code (8 : Nat) (Option.some FieldType.int) ∈ zk_BW := zk_inT 1610 (by decide +kernel) rfl
theorem kw1611 : Jvm.Cond.methodLink "PlantKeeper$Line" (26 : Nat) ({ cls := "PlantKeeper$Line", name := "checkSum", desc := "([BI)I" } : Jvm.MethodName) ∈ zk_BW := zk_inT 1611 (by decide +kernel) rfl
theorem kw1616 : Jvm.Cond.methodLink "PlantKeeper$Line" (42 : Nat) ({ cls := "PlantKeeper$Line", name := "refusal", desc := "(I)I" } : Jvm.MethodName) ∈ zk_BW := zk_inT 1616 (by decide +kernel) rfl
theorem kw1636 : Jvm.Cond.methodLink "PlantKeeper$Line" (46 : Nat) ({ cls := "PlantKeeper$Line", name := "write", desc := "(I)V" } : Jvm.MethodName) ∈ zk_BW := zk_inT 1636 (by decide +kernel) rfl
theorem kw1645 : Jvm.Cond.methodLink "PlantKeeper$Line" (53 : Nat) ({ cls := "PlantKeeper$Line", name := "reply", desc := "(I)V" } : Jvm.MethodName) ∈ zk_BW := zk_inT 1645 (by decide +kernel) rfl
abbrev kc_Cd_isByZero : ByteArray := prog_2_method_11_code
def km_Cd_isByZero : zk_MT := (⟨"PlantKeeper$Code", "isByZero", "(II)Z"⟩, kc_Cd_isByZero, 2, some .boolean, 2)
theorem ku_Cd_isByZero : zk_My km_Cd_isByZero := ⟨kw1252, kw12, by decide, by decide, by decide, by decide +kernel⟩
theorem ks_Cd_isByZero : Cond.static km_Cd_isByZero.1 ∈ zk_BW := kw1251
abbrev kc_Cd_one : ByteArray := prog_2_method_13_code
def km_Cd_one : zk_MT := (⟨"PlantKeeper$Code", "one", "(II)I"⟩, kc_Cd_one, 2, some .int, 2)
theorem ku_Cd_one : zk_My km_Cd_one := ⟨kw1226, kw12, by decide, by decide, by decide, by decide +kernel⟩
theorem ks_Cd_one : Cond.static km_Cd_one.1 ∈ zk_BW := kw1225
abbrev kc_Ln_answer : ByteArray := prog_5_method_2_code
def km_Ln_answer : zk_MT := (⟨"PlantKeeper$Line", "answer", "([BI)I"⟩, kc_Ln_answer, 8, some .int, 2)
theorem ku_Ln_answer : zk_My km_Ln_answer := ⟨kw1610, kw16, by decide, by decide, by decide, by decide +kernel⟩
theorem kv_Ln_answer : zk_Mv km_Ln_answer := ⟨kw1608, kw1609⟩
abbrev kc_Mc_beginUnit : ByteArray := prog_6_method_15_code
def km_Mc_beginUnit : zk_MT := (⟨"PlantKeeper$Machine", "beginUnit", "(II)V"⟩, kc_Mc_beginUnit, 4, none, 2)
theorem ku_Mc_beginUnit : zk_My km_Mc_beginUnit := ⟨kw1520, kw15, by decide, by decide, by decide, by decide +kernel⟩
theorem kv_Mc_beginUnit : zk_Mv km_Mc_beginUnit := ⟨kw1519, zk_inS 121 (q := (⟨"PlantKeeper$Machine", "beginUnit", "(II)V"⟩, 21)) (by decide +kernel)⟩
abbrev kc_Mc_cellAt : ByteArray := prog_6_method_9_code
def km_Mc_cellAt : zk_MT := (⟨"PlantKeeper$Machine", "cellAt", "(I)I"⟩, kc_Mc_cellAt, 2, some .int, 1)
theorem ku_Mc_cellAt : zk_My km_Mc_cellAt := ⟨kw1537, kw15, by decide, by decide, by decide, by decide +kernel⟩
theorem kv_Mc_cellAt : zk_Mv km_Mc_cellAt := ⟨kw1535, kw1536⟩
abbrev kc_Mc_endUnit : ByteArray := prog_6_method_16_code
def km_Mc_endUnit : zk_MT := (⟨"PlantKeeper$Machine", "endUnit", "()V"⟩, kc_Mc_endUnit, 1, none, 0)
theorem ku_Mc_endUnit : zk_My km_Mc_endUnit := ⟨kw1525, kw15, by decide, by decide, by decide, by decide +kernel⟩
theorem kv_Mc_endUnit : zk_Mv km_Mc_endUnit := ⟨kw1524, zk_inS 122 (q := (⟨"PlantKeeper$Machine", "endUnit", "()V"⟩, 21)) (by decide +kernel)⟩
abbrev kc_Mc_lay : ByteArray := prog_6_method_17_code
def km_Mc_lay : zk_MT := (⟨"PlantKeeper$Machine", "lay", "(I)V"⟩, kc_Mc_lay, 2, none, 1)
theorem ku_Mc_lay : zk_My km_Mc_lay := ⟨kw1533, kw15, by decide, by decide, by decide, by decide +kernel⟩
theorem kv_Mc_lay : zk_Mv km_Mc_lay := ⟨kw1532, zk_inS 124 (q := (⟨"PlantKeeper$Machine", "lay", "(I)V"⟩, 21)) (by decide +kernel)⟩
abbrev kc_Mc_takeInputs : ByteArray := prog_6_method_8_code
def km_Mc_takeInputs : zk_MT := (⟨"PlantKeeper$Machine", "takeInputs", "()V"⟩, kc_Mc_takeInputs, 2, none, 0)
theorem ku_Mc_takeInputs : zk_My km_Mc_takeInputs := ⟨kw1512, kw15, by decide, by decide, by decide, by decide +kernel⟩
theorem kv_Mc_takeInputs : zk_Mv km_Mc_takeInputs := ⟨kw1511, zk_inS 119 (q := (⟨"PlantKeeper$Machine", "takeInputs", "()V"⟩, 21)) (by decide +kernel)⟩
abbrev kc_Mc_takeOff : ByteArray := prog_6_method_18_code
def km_Mc_takeOff : zk_MT := (⟨"PlantKeeper$Machine", "takeOff", "()I"⟩, kc_Mc_takeOff, 1, some .int, 0)
theorem ku_Mc_takeOff : zk_My km_Mc_takeOff := ⟨kw1541, kw15, by decide, by decide, by decide, by decide +kernel⟩
theorem kv_Mc_takeOff : zk_Mv km_Mc_takeOff := ⟨kw1540, zk_inS 125 (q := (⟨"PlantKeeper$Machine", "takeOff", "()I"⟩, 21)) (by decide +kernel)⟩
abbrev kc_Nm_find : ByteArray := prog_7_method_8_code
def km_Nm_find : zk_MT := (⟨"PlantKeeper$Names", "find", "([BII)I"⟩, kc_Nm_find, 6, some .int, 3)
theorem ku_Nm_find : zk_My km_Nm_find := ⟨kw703, kw2, by decide, by decide, by decide, by decide +kernel⟩
theorem kv_Nm_find : zk_Mv km_Nm_find := ⟨kw701, kw702⟩
abbrev kc_Nm_great : ByteArray := prog_7_method_7_code
def km_Nm_great : zk_MT := (⟨"PlantKeeper$Names", "great", "(I)I"⟩, kc_Nm_great, 1, some .int, 1)
theorem ku_Nm_great : zk_My km_Nm_great := ⟨kw709, kw2, by decide, by decide, by decide, by decide +kernel⟩
theorem ks_Nm_great : Cond.static km_Nm_great.1 ∈ zk_BW := kw708
abbrev kc_Nm_headOf : ByteArray := prog_7_method_10_code
def km_Nm_headOf : zk_MT := (⟨"PlantKeeper$Names", "headOf", "([BII)I"⟩, kc_Nm_headOf, 5, some .int, 3)
theorem ku_Nm_headOf : zk_My km_Nm_headOf := ⟨kw706, kw2, by decide, by decide, by decide, by decide +kernel⟩
theorem ks_Nm_headOf : Cond.static km_Nm_headOf.1 ∈ zk_BW := kw705
abbrev kc_Nm_isLetter : ByteArray := prog_7_method_5_code
def km_Nm_isLetter : zk_MT := (⟨"PlantKeeper$Names", "isLetter", "(I)Z"⟩, kc_Nm_isLetter, 1, some .boolean, 1)
theorem ku_Nm_isLetter : zk_My km_Nm_isLetter := ⟨kw771, kw2, by decide, by decide, by decide, by decide +kernel⟩
theorem ks_Nm_isLetter : Cond.static km_Nm_isLetter.1 ∈ zk_BW := kw770
abbrev kc_Nm_isPart : ByteArray := prog_7_method_6_code
def km_Nm_isPart : zk_MT := (⟨"PlantKeeper$Names", "isPart", "(I)Z"⟩, kc_Nm_isPart, 1, some .boolean, 1)
theorem ku_Nm_isPart : zk_My km_Nm_isPart := ⟨kw768, kw2, by decide, by decide, by decide, by decide +kernel⟩
theorem ks_Nm_isPart : Cond.static km_Nm_isPart.1 ∈ zk_BW := kw767
abbrev kc_Nm_isSame : ByteArray := prog_7_method_11_code
def km_Nm_isSame : zk_MT := (⟨"PlantKeeper$Names", "isSame", "(I[BII)Z"⟩, kc_Nm_isSame, 6, some .boolean, 4)
theorem ku_Nm_isSame : zk_My km_Nm_isSame := ⟨kw713, kw2, by decide, by decide, by decide, by decide +kernel⟩
theorem kv_Nm_isSame : zk_Mv km_Nm_isSame := ⟨kw712, zk_inS 1 (q := (⟨"PlantKeeper$Names", "isSame", "(I[BII)Z"⟩, 6)) (by decide +kernel)⟩
abbrev kc_Pk_follow : ByteArray := prog_1_method_16_code
def km_Pk_follow : zk_MT := (⟨"PlantKeeper", "follow", "(I)I"⟩, kc_Pk_follow, 9, some .int, 1)
theorem ku_Pk_follow : zk_My km_Pk_follow := ⟨kw1578, kw1, by decide, by decide, by decide, by decide +kernel⟩
theorem kv_Pk_follow : zk_Mv km_Pk_follow := ⟨kw1577, zk_inS 132 (q := (⟨"PlantKeeper", "follow", "(I)I"⟩, 16)) (by decide +kernel)⟩
abbrev kc_Pk_frame : ByteArray := prog_1_method_21_code
def km_Pk_frame : zk_MT := (⟨"PlantKeeper", "frame", "()I"⟩, kc_Pk_frame, 2, some .int, 0)
theorem ku_Pk_frame : zk_My km_Pk_frame := ⟨kw1606, kw1, by decide, by decide, by decide, by decide +kernel⟩
theorem kv_Pk_frame : zk_Mv km_Pk_frame := ⟨kw1604, kw1605⟩
abbrev kc_Pk_indexOnTape : ByteArray := prog_1_method_18_code
def km_Pk_indexOnTape : zk_MT := (⟨"PlantKeeper", "indexOnTape", "(III)I"⟩, kc_Pk_indexOnTape, 10, some .int, 3)
theorem ku_Pk_indexOnTape : zk_My km_Pk_indexOnTape := ⟨kw1594, kw1, by decide, by decide, by decide, by decide +kernel⟩
theorem kv_Pk_indexOnTape : zk_Mv km_Pk_indexOnTape := ⟨kw1593, zk_inS 135 (q := (⟨"PlantKeeper", "indexOnTape", "(III)I"⟩, 16)) (by decide +kernel)⟩
abbrev kc_Pk_nameEnd : ByteArray := prog_1_method_17_code
def km_Pk_nameEnd : zk_MT := (⟨"PlantKeeper", "nameEnd", "(II)I"⟩, kc_Pk_nameEnd, 4, some .int, 2)
theorem ku_Pk_nameEnd : zk_My km_Pk_nameEnd := ⟨kw1582, kw1, by decide, by decide, by decide, by decide +kernel⟩
theorem kv_Pk_nameEnd : zk_Mv km_Pk_nameEnd := ⟨kw1581, zk_inS 133 (q := (⟨"PlantKeeper", "nameEnd", "(II)I"⟩, 16)) (by decide +kernel)⟩
abbrev kc_Pk_show : ByteArray := prog_1_method_19_code
def km_Pk_show : zk_MT := (⟨"PlantKeeper", "show", "(II)I"⟩, kc_Pk_show, 3, some .int, 2)
theorem ku_Pk_show : zk_My km_Pk_show := ⟨kw1589, kw1, by decide, by decide, by decide, by decide +kernel⟩
theorem kv_Pk_show : zk_Mv km_Pk_show := ⟨kw1588, zk_inS 134 (q := (⟨"PlantKeeper", "show", "(II)I"⟩, 16)) (by decide +kernel)⟩
abbrev kc_Pk_watch : ByteArray := prog_1_method_15_code
def km_Pk_watch : zk_MT := (⟨"PlantKeeper", "watch", "()I"⟩, kc_Pk_watch, 2, some .int, 0)
theorem ku_Pk_watch : zk_My km_Pk_watch := ⟨kw1574, kw1, by decide, by decide, by decide, by decide +kernel⟩
theorem kv_Pk_watch : zk_Mv km_Pk_watch := ⟨kw1572, kw1573⟩
abbrev kc_Pk_watched : ByteArray := prog_1_method_20_code
def km_Pk_watched : zk_MT := (⟨"PlantKeeper", "watched", "()I"⟩, kc_Pk_watched, 1, some .int, 0)
theorem ku_Pk_watched : zk_My km_Pk_watched := ⟨kw1602, kw1, by decide, by decide, by decide, by decide +kernel⟩
theorem kv_Pk_watched : zk_Mv km_Pk_watched := ⟨kw1600, kw1601⟩
abbrev kc_Pl_variableOf : ByteArray := prog_9_method_7_code
def km_Pl_variableOf : zk_MT := (⟨"PlantKeeper$Plan", "variableOf", "(II)I"⟩, kc_Pl_variableOf, 4, some .int, 2)
theorem ku_Pl_variableOf : zk_My km_Pl_variableOf := ⟨kw1137, kw10, by decide, by decide, by decide, by decide +kernel⟩
theorem kv_Pl_variableOf : zk_Mv km_Pl_variableOf := ⟨kw1135, kw1136⟩
theorem kd_Cd_isByZero_0 : decode kc_Cd_isByZero 0 = .ok (.iload_n 1, 1) := by decide +kernel
theorem kd_Cd_isByZero_1 : decode kc_Cd_isByZero 1 = .ok (.ifCond .ne 29, 3) := by decide +kernel
theorem kd_Cd_isByZero_4 : decode kc_Cd_isByZero 4 = .ok (.iload_n 0, 1) := by decide +kernel
theorem kd_Cd_isByZero_5 : decode kc_Cd_isByZero 5 = .ok (.iconst 3, 1) := by decide +kernel
theorem kd_Cd_isByZero_6 : decode kc_Cd_isByZero 6 = .ok (.if_icmp .eq 20, 3) := by decide +kernel
theorem kd_Cd_isByZero_9 : decode kc_Cd_isByZero 9 = .ok (.iload_n 0, 1) := by decide +kernel
theorem kd_Cd_isByZero_10 : decode kc_Cd_isByZero 10 = .ok (.iconst 4, 1) := by decide +kernel
theorem kd_Cd_isByZero_11 : decode kc_Cd_isByZero 11 = .ok (.if_icmp .eq 15, 3) := by decide +kernel
theorem kd_Cd_isByZero_14 : decode kc_Cd_isByZero 14 = .ok (.iload_n 0, 1) := by decide +kernel
theorem kd_Cd_isByZero_15 : decode kc_Cd_isByZero 15 = .ok (.bipush 8, 2) := by decide +kernel
theorem kd_Cd_isByZero_17 : decode kc_Cd_isByZero 17 = .ok (.if_icmp .eq 9, 3) := by decide +kernel
theorem kd_Cd_isByZero_20 : decode kc_Cd_isByZero 20 = .ok (.iload_n 0, 1) := by decide +kernel
theorem kd_Cd_isByZero_21 : decode kc_Cd_isByZero 21 = .ok (.bipush 9, 2) := by decide +kernel
theorem kd_Cd_isByZero_23 : decode kc_Cd_isByZero 23 = .ok (.if_icmp .ne 7, 3) := by decide +kernel
theorem kd_Cd_isByZero_26 : decode kc_Cd_isByZero 26 = .ok (.iconst 1, 1) := by decide +kernel
theorem kd_Cd_isByZero_27 : decode kc_Cd_isByZero 27 = .ok (.goto 4, 3) := by decide +kernel
theorem kd_Cd_isByZero_30 : decode kc_Cd_isByZero 30 = .ok (.iconst 0, 1) := by decide +kernel
theorem kd_Cd_isByZero_31 : decode kc_Cd_isByZero 31 = .ok (.ireturn, 1) := by decide +kernel
theorem kd_Cd_one_0 : decode kc_Cd_one 0 = .ok (.iload_n 0, 1) := by decide +kernel
theorem kd_Cd_one_1 : decode kc_Cd_one 1 = .ok (.tableswitch 78 0 6 #[43, 47, 50, 60, 64, 70, 75], 43) := by decide +kernel
theorem kd_Cd_one_44 : decode kc_Cd_one 44 = .ok (.iload_n 1, 1) := by decide +kernel
theorem kd_Cd_one_45 : decode kc_Cd_one 45 = .ok (.ineg, 1) := by decide +kernel
theorem kd_Cd_one_46 : decode kc_Cd_one 46 = .ok (.i2s, 1) := by decide +kernel
theorem kd_Cd_one_47 : decode kc_Cd_one 47 = .ok (.ireturn, 1) := by decide +kernel
theorem kd_Cd_one_48 : decode kc_Cd_one 48 = .ok (.iload_n 1, 1) := by decide +kernel
theorem kd_Cd_one_49 : decode kc_Cd_one 49 = .ok (.ineg, 1) := by decide +kernel
theorem kd_Cd_one_50 : decode kc_Cd_one 50 = .ok (.ireturn, 1) := by decide +kernel
theorem kd_Cd_one_51 : decode kc_Cd_one 51 = .ok (.iload_n 1, 1) := by decide +kernel
theorem kd_Cd_one_52 : decode kc_Cd_one 52 = .ok (.ifCond .ne 7, 3) := by decide +kernel
theorem kd_Cd_one_55 : decode kc_Cd_one 55 = .ok (.iconst 1, 1) := by decide +kernel
theorem kd_Cd_one_56 : decode kc_Cd_one 56 = .ok (.goto 4, 3) := by decide +kernel
theorem kd_Cd_one_59 : decode kc_Cd_one 59 = .ok (.iconst 0, 1) := by decide +kernel
theorem kd_Cd_one_60 : decode kc_Cd_one 60 = .ok (.ireturn, 1) := by decide +kernel
theorem kd_Cd_one_61 : decode kc_Cd_one 61 = .ok (.iload_n 1, 1) := by decide +kernel
theorem kd_Cd_one_62 : decode kc_Cd_one 62 = .ok (.iconst (-1), 1) := by decide +kernel
theorem kd_Cd_one_63 : decode kc_Cd_one 63 = .ok (.ixor, 1) := by decide +kernel
theorem kd_Cd_one_64 : decode kc_Cd_one 64 = .ok (.ireturn, 1) := by decide +kernel
theorem kd_Cd_one_65 : decode kc_Cd_one 65 = .ok (.iload_n 1, 1) := by decide +kernel
theorem kd_Cd_one_66 : decode kc_Cd_one 66 = .ok (.invokestatic 58, 3) := by decide +kernel
theorem kd_Cd_one_69 : decode kc_Cd_one 69 = .ok (.i2s, 1) := by decide +kernel
theorem kd_Cd_one_70 : decode kc_Cd_one 70 = .ok (.ireturn, 1) := by decide +kernel
theorem kd_Cd_one_71 : decode kc_Cd_one 71 = .ok (.iload_n 1, 1) := by decide +kernel
theorem kd_Cd_one_72 : decode kc_Cd_one 72 = .ok (.invokestatic 58, 3) := by decide +kernel
theorem kd_Cd_one_75 : decode kc_Cd_one 75 = .ok (.ireturn, 1) := by decide +kernel
theorem kd_Cd_one_76 : decode kc_Cd_one 76 = .ok (.iload_n 1, 1) := by decide +kernel
theorem kd_Cd_one_77 : decode kc_Cd_one 77 = .ok (.i2s, 1) := by decide +kernel
theorem kd_Cd_one_78 : decode kc_Cd_one 78 = .ok (.ireturn, 1) := by decide +kernel
theorem kd_Cd_one_79 : decode kc_Cd_one 79 = .ok (.iload_n 1, 1) := by decide +kernel
theorem kd_Cd_one_80 : decode kc_Cd_one 80 = .ok (.ifCond .ne 7, 3) := by decide +kernel
theorem kd_Cd_one_83 : decode kc_Cd_one 83 = .ok (.iconst 0, 1) := by decide +kernel
theorem kd_Cd_one_84 : decode kc_Cd_one 84 = .ok (.goto 4, 3) := by decide +kernel
theorem kd_Cd_one_87 : decode kc_Cd_one 87 = .ok (.iconst 1, 1) := by decide +kernel
theorem kd_Cd_one_88 : decode kc_Cd_one 88 = .ok (.ireturn, 1) := by decide +kernel
theorem kd_Ln_answer_0 : decode kc_Ln_answer 0 = .ok (.aload_n 0, 1) := by decide +kernel
theorem kd_Ln_answer_1 : decode kc_Ln_answer 1 = .ok (.iconst 0, 1) := by decide +kernel
theorem kd_Ln_answer_2 : decode kc_Ln_answer 2 = .ok (.putfield 23, 3) := by decide +kernel
theorem kd_Ln_answer_5 : decode kc_Ln_answer 5 = .ok (.iload_n 2, 1) := by decide +kernel
theorem kd_Ln_answer_6 : decode kc_Ln_answer 6 = .ok (.iconst 4, 1) := by decide +kernel
theorem kd_Ln_answer_7 : decode kc_Ln_answer 7 = .ok (.if_icmp .lt 47, 3) := by decide +kernel
theorem kd_Ln_answer_10 : decode kc_Ln_answer 10 = .ok (.iload_n 2, 1) := by decide +kernel
theorem kd_Ln_answer_11 : decode kc_Ln_answer 11 = .ok (.sipush 256, 3) := by decide +kernel
theorem kd_Ln_answer_14 : decode kc_Ln_answer 14 = .ok (.if_icmp .gt 40, 3) := by decide +kernel
theorem kd_Ln_answer_17 : decode kc_Ln_answer 17 = .ok (.aload_n 1, 1) := by decide +kernel
theorem kd_Ln_answer_18 : decode kc_Ln_answer 18 = .ok (.iload_n 2, 1) := by decide +kernel
theorem kd_Ln_answer_19 : decode kc_Ln_answer 19 = .ok (.iconst 2, 1) := by decide +kernel
theorem kd_Ln_answer_20 : decode kc_Ln_answer 20 = .ok (.isub, 1) := by decide +kernel
theorem kd_Ln_answer_21 : decode kc_Ln_answer 21 = .ok (.invokestatic 26, 3) := by decide +kernel
theorem kd_Ln_answer_24 : decode kc_Ln_answer 24 = .ok (.aload_n 1, 1) := by decide +kernel
theorem kd_Ln_answer_25 : decode kc_Ln_answer 25 = .ok (.iload_n 2, 1) := by decide +kernel
theorem kd_Ln_answer_26 : decode kc_Ln_answer 26 = .ok (.iconst 2, 1) := by decide +kernel
theorem kd_Ln_answer_27 : decode kc_Ln_answer 27 = .ok (.isub, 1) := by decide +kernel
theorem kd_Ln_answer_28 : decode kc_Ln_answer 28 = .ok (.baload, 1) := by decide +kernel
theorem kd_Ln_answer_29 : decode kc_Ln_answer 29 = .ok (.sipush 255, 3) := by decide +kernel
theorem kd_Ln_answer_32 : decode kc_Ln_answer 32 = .ok (.iand, 1) := by decide +kernel
theorem kd_Ln_answer_33 : decode kc_Ln_answer 33 = .ok (.sipush 256, 3) := by decide +kernel
theorem kd_Ln_answer_36 : decode kc_Ln_answer 36 = .ok (.aload_n 1, 1) := by decide +kernel
theorem kd_Ln_answer_37 : decode kc_Ln_answer 37 = .ok (.iload_n 2, 1) := by decide +kernel
theorem kd_Ln_answer_38 : decode kc_Ln_answer 38 = .ok (.iconst 1, 1) := by decide +kernel
theorem kd_Ln_answer_39 : decode kc_Ln_answer 39 = .ok (.isub, 1) := by decide +kernel
theorem kd_Ln_answer_40 : decode kc_Ln_answer 40 = .ok (.baload, 1) := by decide +kernel
theorem kd_Ln_answer_41 : decode kc_Ln_answer 41 = .ok (.sipush 255, 3) := by decide +kernel
theorem kd_Ln_answer_44 : decode kc_Ln_answer 44 = .ok (.iand, 1) := by decide +kernel
theorem kd_Ln_answer_45 : decode kc_Ln_answer 45 = .ok (.imul, 1) := by decide +kernel
theorem kd_Ln_answer_46 : decode kc_Ln_answer 46 = .ok (.iadd, 1) := by decide +kernel
theorem kd_Ln_answer_47 : decode kc_Ln_answer 47 = .ok (.if_icmp .ne 7, 3) := by decide +kernel
theorem kd_Ln_answer_50 : decode kc_Ln_answer 50 = .ok (.iconst 1, 1) := by decide +kernel
theorem kd_Ln_answer_51 : decode kc_Ln_answer 51 = .ok (.goto 4, 3) := by decide +kernel
theorem kd_Ln_answer_54 : decode kc_Ln_answer 54 = .ok (.iconst 0, 1) := by decide +kernel
theorem kd_Ln_answer_55 : decode kc_Ln_answer 55 = .ok (.istore_n 3, 1) := by decide +kernel
theorem kd_Ln_answer_56 : decode kc_Ln_answer 56 = .ok (.aload_n 1, 1) := by decide +kernel
theorem kd_Ln_answer_57 : decode kc_Ln_answer 57 = .ok (.iconst 0, 1) := by decide +kernel
theorem kd_Ln_answer_58 : decode kc_Ln_answer 58 = .ok (.baload, 1) := by decide +kernel
theorem kd_Ln_answer_59 : decode kc_Ln_answer 59 = .ok (.sipush 255, 3) := by decide +kernel
theorem kd_Ln_answer_62 : decode kc_Ln_answer 62 = .ok (.iand, 1) := by decide +kernel
theorem kd_Ln_answer_63 : decode kc_Ln_answer 63 = .ok (.istore 4, 2) := by decide +kernel
theorem kd_Ln_answer_65 : decode kc_Ln_answer 65 = .ok (.aload_n 0, 1) := by decide +kernel
theorem kd_Ln_answer_66 : decode kc_Ln_answer 66 = .ok (.getfield 9, 3) := by decide +kernel
theorem kd_Ln_answer_69 : decode kc_Ln_answer 69 = .ok (.getfield 30, 3) := by decide +kernel
theorem kd_Ln_answer_72 : decode kc_Ln_answer 72 = .ok (.ifCond .eq 21, 3) := by decide +kernel
theorem kd_Ln_answer_75 : decode kc_Ln_answer 75 = .ok (.iload_n 3, 1) := by decide +kernel
theorem kd_Ln_answer_76 : decode kc_Ln_answer 76 = .ok (.ifCond .eq 17, 3) := by decide +kernel
theorem kd_Ln_answer_79 : decode kc_Ln_answer 79 = .ok (.iload 4, 2) := by decide +kernel
theorem kd_Ln_answer_81 : decode kc_Ln_answer 81 = .ok (.ifCond .eq 14, 3) := by decide +kernel
theorem kd_Ln_answer_84 : decode kc_Ln_answer 84 = .ok (.iload 4, 2) := by decide +kernel
theorem kd_Ln_answer_86 : decode kc_Ln_answer 86 = .ok (.aload_n 0, 1) := by decide +kernel
theorem kd_Ln_answer_87 : decode kc_Ln_answer 87 = .ok (.getfield 19, 3) := by decide +kernel
theorem kd_Ln_answer_90 : decode kc_Ln_answer 90 = .ok (.if_icmp .eq 5, 3) := by decide +kernel
theorem kd_Ln_answer_93 : decode kc_Ln_answer 93 = .ok (.iconst 0, 1) := by decide +kernel
theorem kd_Ln_answer_94 : decode kc_Ln_answer 94 = .ok (.ireturn, 1) := by decide +kernel
theorem kd_Ln_answer_95 : decode kc_Ln_answer 95 = .ok (.aload_n 0, 1) := by decide +kernel
theorem kd_Ln_answer_96 : decode kc_Ln_answer 96 = .ok (.aload_n 1, 1) := by decide +kernel
theorem kd_Ln_answer_97 : decode kc_Ln_answer 97 = .ok (.putfield 36, 3) := by decide +kernel
theorem kd_Ln_answer_100 : decode kc_Ln_answer 100 = .ok (.aload_n 0, 1) := by decide +kernel
theorem kd_Ln_answer_101 : decode kc_Ln_answer 101 = .ok (.iload_n 2, 1) := by decide +kernel
theorem kd_Ln_answer_102 : decode kc_Ln_answer 102 = .ok (.iconst 4, 1) := by decide +kernel
theorem kd_Ln_answer_103 : decode kc_Ln_answer 103 = .ok (.isub, 1) := by decide +kernel
theorem kd_Ln_answer_104 : decode kc_Ln_answer 104 = .ok (.putfield 39, 3) := by decide +kernel
theorem kd_Ln_answer_107 : decode kc_Ln_answer 107 = .ok (.aload_n 1, 1) := by decide +kernel
theorem kd_Ln_answer_108 : decode kc_Ln_answer 108 = .ok (.iconst 1, 1) := by decide +kernel
theorem kd_Ln_answer_109 : decode kc_Ln_answer 109 = .ok (.baload, 1) := by decide +kernel
theorem kd_Ln_answer_110 : decode kc_Ln_answer 110 = .ok (.sipush 255, 3) := by decide +kernel
theorem kd_Ln_answer_113 : decode kc_Ln_answer 113 = .ok (.iand, 1) := by decide +kernel
theorem kd_Ln_answer_114 : decode kc_Ln_answer 114 = .ok (.istore 5, 2) := by decide +kernel
theorem kd_Ln_answer_116 : decode kc_Ln_answer 116 = .ok (.aload_n 0, 1) := by decide +kernel
theorem kd_Ln_answer_117 : decode kc_Ln_answer 117 = .ok (.iload 5, 2) := by decide +kernel
theorem kd_Ln_answer_119 : decode kc_Ln_answer 119 = .ok (.invokevirtual 42, 3) := by decide +kernel
theorem kd_Ln_answer_122 : decode kc_Ln_answer 122 = .ok (.istore 6, 2) := by decide +kernel
theorem kd_Ln_answer_124 : decode kc_Ln_answer 124 = .ok (.iload 6, 2) := by decide +kernel
theorem kd_Ln_answer_126 : decode kc_Ln_answer 126 = .ok (.ifCond .ne 9, 3) := by decide +kernel
theorem kd_Ln_answer_129 : decode kc_Ln_answer 129 = .ok (.aload_n 0, 1) := by decide +kernel
theorem kd_Ln_answer_130 : decode kc_Ln_answer 130 = .ok (.iload 5, 2) := by decide +kernel
theorem kd_Ln_answer_132 : decode kc_Ln_answer 132 = .ok (.invokevirtual 46, 3) := by decide +kernel
theorem kd_Ln_answer_135 : decode kc_Ln_answer 135 = .ok (.iload 4, 2) := by decide +kernel
theorem kd_Ln_answer_137 : decode kc_Ln_answer 137 = .ok (.ifCond .eq 67, 3) := by decide +kernel
theorem kd_Ln_answer_140 : decode kc_Ln_answer 140 = .ok (.aload_n 0, 1) := by decide +kernel
theorem kd_Ln_answer_141 : decode kc_Ln_answer 141 = .ok (.iload 4, 2) := by decide +kernel
theorem kd_Ln_answer_143 : decode kc_Ln_answer 143 = .ok (.invokevirtual 50, 3) := by decide +kernel
theorem kd_Ln_answer_146 : decode kc_Ln_answer 146 = .ok (.iload 6, 2) := by decide +kernel
theorem kd_Ln_answer_148 : decode kc_Ln_answer 148 = .ok (.ifCond .ne 12, 3) := by decide +kernel
theorem kd_Ln_answer_151 : decode kc_Ln_answer 151 = .ok (.aload_n 0, 1) := by decide +kernel
theorem kd_Ln_answer_152 : decode kc_Ln_answer 152 = .ok (.iload 5, 2) := by decide +kernel
theorem kd_Ln_answer_154 : decode kc_Ln_answer 154 = .ok (.invokevirtual 53, 3) := by decide +kernel
theorem kd_Ln_answer_157 : decode kc_Ln_answer 157 = .ok (.goto 19, 3) := by decide +kernel
theorem kd_Ln_answer_160 : decode kc_Ln_answer 160 = .ok (.aload_n 0, 1) := by decide +kernel
theorem kd_Ln_answer_161 : decode kc_Ln_answer 161 = .ok (.iload 5, 2) := by decide +kernel
theorem kd_Ln_answer_163 : decode kc_Ln_answer 163 = .ok (.sipush 128, 3) := by decide +kernel
theorem kd_Ln_answer_166 : decode kc_Ln_answer 166 = .ok (.ior, 1) := by decide +kernel
theorem kd_Ln_answer_167 : decode kc_Ln_answer 167 = .ok (.invokevirtual 50, 3) := by decide +kernel
theorem kd_Ln_answer_170 : decode kc_Ln_answer 170 = .ok (.aload_n 0, 1) := by decide +kernel
theorem kd_Ln_answer_171 : decode kc_Ln_answer 171 = .ok (.iload 6, 2) := by decide +kernel
theorem kd_Ln_answer_173 : decode kc_Ln_answer 173 = .ok (.invokevirtual 50, 3) := by decide +kernel
theorem kd_Ln_answer_176 : decode kc_Ln_answer 176 = .ok (.aload_n 0, 1) := by decide +kernel
theorem kd_Ln_answer_177 : decode kc_Ln_answer 177 = .ok (.getfield 15, 3) := by decide +kernel
theorem kd_Ln_answer_180 : decode kc_Ln_answer 180 = .ok (.aload_n 0, 1) := by decide +kernel
theorem kd_Ln_answer_181 : decode kc_Ln_answer 181 = .ok (.getfield 23, 3) := by decide +kernel
theorem kd_Ln_answer_184 : decode kc_Ln_answer 184 = .ok (.invokestatic 26, 3) := by decide +kernel
theorem kd_Ln_answer_187 : decode kc_Ln_answer 187 = .ok (.istore 7, 2) := by decide +kernel
theorem kd_Ln_answer_189 : decode kc_Ln_answer 189 = .ok (.aload_n 0, 1) := by decide +kernel
theorem kd_Ln_answer_190 : decode kc_Ln_answer 190 = .ok (.iload 7, 2) := by decide +kernel
theorem kd_Ln_answer_192 : decode kc_Ln_answer 192 = .ok (.invokevirtual 50, 3) := by decide +kernel
theorem kd_Ln_answer_195 : decode kc_Ln_answer 195 = .ok (.aload_n 0, 1) := by decide +kernel
theorem kd_Ln_answer_196 : decode kc_Ln_answer 196 = .ok (.iload 7, 2) := by decide +kernel
theorem kd_Ln_answer_198 : decode kc_Ln_answer 198 = .ok (.bipush 8, 2) := by decide +kernel
theorem kd_Ln_answer_200 : decode kc_Ln_answer 200 = .ok (.ishr, 1) := by decide +kernel
theorem kd_Ln_answer_201 : decode kc_Ln_answer 201 = .ok (.invokevirtual 50, 3) := by decide +kernel
theorem kd_Ln_answer_204 : decode kc_Ln_answer 204 = .ok (.aload_n 0, 1) := by decide +kernel
theorem kd_Ln_answer_205 : decode kc_Ln_answer 205 = .ok (.getfield 23, 3) := by decide +kernel
theorem kd_Ln_answer_208 : decode kc_Ln_answer 208 = .ok (.ireturn, 1) := by decide +kernel
theorem kd_Mc_beginUnit_0 : decode kc_Mc_beginUnit 0 = .ok (.iconst 3, 1) := by decide +kernel
theorem kd_Mc_beginUnit_1 : decode kc_Mc_beginUnit 1 = .ok (.aload_n 0, 1) := by decide +kernel
theorem kd_Mc_beginUnit_2 : decode kc_Mc_beginUnit 2 = .ok (.getfield 142, 3) := by decide +kernel
theorem kd_Mc_beginUnit_5 : decode kc_Mc_beginUnit 5 = .ok (.imul, 1) := by decide +kernel
theorem kd_Mc_beginUnit_6 : decode kc_Mc_beginUnit 6 = .ok (.istore_n 3, 1) := by decide +kernel
theorem kd_Mc_beginUnit_7 : decode kc_Mc_beginUnit 7 = .ok (.iload_n 3, 1) := by decide +kernel
theorem kd_Mc_beginUnit_8 : decode kc_Mc_beginUnit 8 = .ok (.iconst 2, 1) := by decide +kernel
theorem kd_Mc_beginUnit_9 : decode kc_Mc_beginUnit 9 = .ok (.iadd, 1) := by decide +kernel
theorem kd_Mc_beginUnit_10 : decode kc_Mc_beginUnit 10 = .ok (.aload_n 0, 1) := by decide +kernel
theorem kd_Mc_beginUnit_11 : decode kc_Mc_beginUnit 11 = .ok (.getfield 35, 3) := by decide +kernel
theorem kd_Mc_beginUnit_14 : decode kc_Mc_beginUnit 14 = .ok (.arraylength, 1) := by decide +kernel
theorem kd_Mc_beginUnit_15 : decode kc_Mc_beginUnit 15 = .ok (.if_icmp .ge 95, 3) := by decide +kernel
theorem kd_Mc_beginUnit_18 : decode kc_Mc_beginUnit 18 = .ok (.iload_n 1, 1) := by decide +kernel
theorem kd_Mc_beginUnit_19 : decode kc_Mc_beginUnit 19 = .ok (.ifCond .lt 91, 3) := by decide +kernel
theorem kd_Mc_beginUnit_22 : decode kc_Mc_beginUnit 22 = .ok (.iload_n 1, 1) := by decide +kernel
theorem kd_Mc_beginUnit_23 : decode kc_Mc_beginUnit 23 = .ok (.aload_n 0, 1) := by decide +kernel
theorem kd_Mc_beginUnit_24 : decode kc_Mc_beginUnit 24 = .ok (.getfield 9, 3) := by decide +kernel
theorem kd_Mc_beginUnit_27 : decode kc_Mc_beginUnit 27 = .ok (.getfield 169, 3) := by decide +kernel
theorem kd_Mc_beginUnit_30 : decode kc_Mc_beginUnit 30 = .ok (.if_icmp .ge 80, 3) := by decide +kernel
theorem kd_Mc_beginUnit_33 : decode kc_Mc_beginUnit 33 = .ok (.aload_n 0, 1) := by decide +kernel
theorem kd_Mc_beginUnit_34 : decode kc_Mc_beginUnit 34 = .ok (.getfield 35, 3) := by decide +kernel
theorem kd_Mc_beginUnit_37 : decode kc_Mc_beginUnit 37 = .ok (.iload_n 3, 1) := by decide +kernel
theorem kd_Mc_beginUnit_38 : decode kc_Mc_beginUnit 38 = .ok (.aload_n 0, 1) := by decide +kernel
theorem kd_Mc_beginUnit_39 : decode kc_Mc_beginUnit 39 = .ok (.getfield 149, 3) := by decide +kernel
theorem kd_Mc_beginUnit_42 : decode kc_Mc_beginUnit 42 = .ok (.iastore, 1) := by decide +kernel
theorem kd_Mc_beginUnit_43 : decode kc_Mc_beginUnit 43 = .ok (.aload_n 0, 1) := by decide +kernel
theorem kd_Mc_beginUnit_44 : decode kc_Mc_beginUnit 44 = .ok (.getfield 35, 3) := by decide +kernel
theorem kd_Mc_beginUnit_47 : decode kc_Mc_beginUnit 47 = .ok (.iload_n 3, 1) := by decide +kernel
theorem kd_Mc_beginUnit_48 : decode kc_Mc_beginUnit 48 = .ok (.iconst 1, 1) := by decide +kernel
theorem kd_Mc_beginUnit_49 : decode kc_Mc_beginUnit 49 = .ok (.iadd, 1) := by decide +kernel
theorem kd_Mc_beginUnit_50 : decode kc_Mc_beginUnit 50 = .ok (.aload_n 0, 1) := by decide +kernel
theorem kd_Mc_beginUnit_51 : decode kc_Mc_beginUnit 51 = .ok (.getfield 152, 3) := by decide +kernel
theorem kd_Mc_beginUnit_54 : decode kc_Mc_beginUnit 54 = .ok (.iastore, 1) := by decide +kernel
theorem kd_Mc_beginUnit_55 : decode kc_Mc_beginUnit 55 = .ok (.aload_n 0, 1) := by decide +kernel
theorem kd_Mc_beginUnit_56 : decode kc_Mc_beginUnit 56 = .ok (.getfield 35, 3) := by decide +kernel
theorem kd_Mc_beginUnit_59 : decode kc_Mc_beginUnit 59 = .ok (.iload_n 3, 1) := by decide +kernel
theorem kd_Mc_beginUnit_60 : decode kc_Mc_beginUnit 60 = .ok (.iconst 2, 1) := by decide +kernel
theorem kd_Mc_beginUnit_61 : decode kc_Mc_beginUnit 61 = .ok (.iadd, 1) := by decide +kernel
theorem kd_Mc_beginUnit_62 : decode kc_Mc_beginUnit 62 = .ok (.aload_n 0, 1) := by decide +kernel
theorem kd_Mc_beginUnit_63 : decode kc_Mc_beginUnit 63 = .ok (.getfield 172, 3) := by decide +kernel
theorem kd_Mc_beginUnit_66 : decode kc_Mc_beginUnit 66 = .ok (.iastore, 1) := by decide +kernel
theorem kd_Mc_beginUnit_67 : decode kc_Mc_beginUnit 67 = .ok (.aload_n 0, 1) := by decide +kernel
theorem kd_Mc_beginUnit_68 : decode kc_Mc_beginUnit 68 = .ok (.dup, 1) := by decide +kernel
theorem kd_Mc_beginUnit_69 : decode kc_Mc_beginUnit 69 = .ok (.getfield 142, 3) := by decide +kernel
theorem kd_Mc_beginUnit_72 : decode kc_Mc_beginUnit 72 = .ok (.iconst 1, 1) := by decide +kernel
theorem kd_Mc_beginUnit_73 : decode kc_Mc_beginUnit 73 = .ok (.iadd, 1) := by decide +kernel
theorem kd_Mc_beginUnit_74 : decode kc_Mc_beginUnit 74 = .ok (.putfield 142, 3) := by decide +kernel
theorem kd_Mc_beginUnit_77 : decode kc_Mc_beginUnit 77 = .ok (.aload_n 0, 1) := by decide +kernel
theorem kd_Mc_beginUnit_78 : decode kc_Mc_beginUnit 78 = .ok (.aload_n 0, 1) := by decide +kernel
theorem kd_Mc_beginUnit_79 : decode kc_Mc_beginUnit 79 = .ok (.getfield 9, 3) := by decide +kernel
theorem kd_Mc_beginUnit_82 : decode kc_Mc_beginUnit 82 = .ok (.getfield 175, 3) := by decide +kernel
theorem kd_Mc_beginUnit_85 : decode kc_Mc_beginUnit 85 = .ok (.iload_n 1, 1) := by decide +kernel
theorem kd_Mc_beginUnit_86 : decode kc_Mc_beginUnit 86 = .ok (.iaload, 1) := by decide +kernel
theorem kd_Mc_beginUnit_87 : decode kc_Mc_beginUnit 87 = .ok (.putfield 149, 3) := by decide +kernel
theorem kd_Mc_beginUnit_90 : decode kc_Mc_beginUnit 90 = .ok (.aload_n 0, 1) := by decide +kernel
theorem kd_Mc_beginUnit_91 : decode kc_Mc_beginUnit 91 = .ok (.aload_n 0, 1) := by decide +kernel
theorem kd_Mc_beginUnit_92 : decode kc_Mc_beginUnit 92 = .ok (.getfield 9, 3) := by decide +kernel
theorem kd_Mc_beginUnit_95 : decode kc_Mc_beginUnit 95 = .ok (.getfield 175, 3) := by decide +kernel
theorem kd_Mc_beginUnit_98 : decode kc_Mc_beginUnit 98 = .ok (.iload_n 1, 1) := by decide +kernel
theorem kd_Mc_beginUnit_99 : decode kc_Mc_beginUnit 99 = .ok (.iconst 1, 1) := by decide +kernel
theorem kd_Mc_beginUnit_100 : decode kc_Mc_beginUnit 100 = .ok (.iadd, 1) := by decide +kernel
theorem kd_Mc_beginUnit_101 : decode kc_Mc_beginUnit 101 = .ok (.iaload, 1) := by decide +kernel
theorem kd_Mc_beginUnit_102 : decode kc_Mc_beginUnit 102 = .ok (.putfield 152, 3) := by decide +kernel
theorem kd_Mc_beginUnit_105 : decode kc_Mc_beginUnit 105 = .ok (.aload_n 0, 1) := by decide +kernel
theorem kd_Mc_beginUnit_106 : decode kc_Mc_beginUnit 106 = .ok (.iload_n 2, 1) := by decide +kernel
theorem kd_Mc_beginUnit_107 : decode kc_Mc_beginUnit 107 = .ok (.putfield 172, 3) := by decide +kernel
theorem kd_Mc_beginUnit_110 : decode kc_Mc_beginUnit 110 = .ok (.return_, 1) := by decide +kernel
theorem kd_Mc_cellAt_0 : decode kc_Mc_cellAt 0 = .ok (.iload_n 1, 1) := by decide +kernel
theorem kd_Mc_cellAt_1 : decode kc_Mc_cellAt 1 = .ok (.ifCond .lt 21, 3) := by decide +kernel
theorem kd_Mc_cellAt_4 : decode kc_Mc_cellAt 4 = .ok (.iload_n 1, 1) := by decide +kernel
theorem kd_Mc_cellAt_5 : decode kc_Mc_cellAt 5 = .ok (.aload_n 0, 1) := by decide +kernel
theorem kd_Mc_cellAt_6 : decode kc_Mc_cellAt 6 = .ok (.getfield 29, 3) := by decide +kernel
theorem kd_Mc_cellAt_9 : decode kc_Mc_cellAt 9 = .ok (.arraylength, 1) := by decide +kernel
theorem kd_Mc_cellAt_10 : decode kc_Mc_cellAt 10 = .ok (.if_icmp .ge 12, 3) := by decide +kernel
theorem kd_Mc_cellAt_13 : decode kc_Mc_cellAt 13 = .ok (.aload_n 0, 1) := by decide +kernel
theorem kd_Mc_cellAt_14 : decode kc_Mc_cellAt 14 = .ok (.getfield 29, 3) := by decide +kernel
theorem kd_Mc_cellAt_17 : decode kc_Mc_cellAt 17 = .ok (.iload_n 1, 1) := by decide +kernel
theorem kd_Mc_cellAt_18 : decode kc_Mc_cellAt 18 = .ok (.iaload, 1) := by decide +kernel
theorem kd_Mc_cellAt_19 : decode kc_Mc_cellAt 19 = .ok (.goto 4, 3) := by decide +kernel
theorem kd_Mc_cellAt_22 : decode kc_Mc_cellAt 22 = .ok (.iconst 0, 1) := by decide +kernel
theorem kd_Mc_cellAt_23 : decode kc_Mc_cellAt 23 = .ok (.ireturn, 1) := by decide +kernel
theorem kd_Mc_endUnit_0 : decode kc_Mc_endUnit 0 = .ok (.aload_n 0, 1) := by decide +kernel
theorem kd_Mc_endUnit_1 : decode kc_Mc_endUnit 1 = .ok (.dup, 1) := by decide +kernel
theorem kd_Mc_endUnit_2 : decode kc_Mc_endUnit 2 = .ok (.getfield 142, 3) := by decide +kernel
theorem kd_Mc_endUnit_5 : decode kc_Mc_endUnit 5 = .ok (.iconst 1, 1) := by decide +kernel
theorem kd_Mc_endUnit_6 : decode kc_Mc_endUnit 6 = .ok (.isub, 1) := by decide +kernel
theorem kd_Mc_endUnit_7 : decode kc_Mc_endUnit 7 = .ok (.putfield 142, 3) := by decide +kernel
theorem kd_Mc_endUnit_10 : decode kc_Mc_endUnit 10 = .ok (.aload_n 0, 1) := by decide +kernel
theorem kd_Mc_endUnit_11 : decode kc_Mc_endUnit 11 = .ok (.aload_n 0, 1) := by decide +kernel
theorem kd_Mc_endUnit_12 : decode kc_Mc_endUnit 12 = .ok (.getfield 35, 3) := by decide +kernel
theorem kd_Mc_endUnit_15 : decode kc_Mc_endUnit 15 = .ok (.iconst 3, 1) := by decide +kernel
theorem kd_Mc_endUnit_16 : decode kc_Mc_endUnit 16 = .ok (.aload_n 0, 1) := by decide +kernel
theorem kd_Mc_endUnit_17 : decode kc_Mc_endUnit 17 = .ok (.getfield 142, 3) := by decide +kernel
theorem kd_Mc_endUnit_20 : decode kc_Mc_endUnit 20 = .ok (.imul, 1) := by decide +kernel
theorem kd_Mc_endUnit_21 : decode kc_Mc_endUnit 21 = .ok (.iaload, 1) := by decide +kernel
theorem kd_Mc_endUnit_22 : decode kc_Mc_endUnit 22 = .ok (.putfield 149, 3) := by decide +kernel
theorem kd_Mc_endUnit_25 : decode kc_Mc_endUnit 25 = .ok (.aload_n 0, 1) := by decide +kernel
theorem kd_Mc_endUnit_26 : decode kc_Mc_endUnit 26 = .ok (.aload_n 0, 1) := by decide +kernel
theorem kd_Mc_endUnit_27 : decode kc_Mc_endUnit 27 = .ok (.getfield 35, 3) := by decide +kernel
theorem kd_Mc_endUnit_30 : decode kc_Mc_endUnit 30 = .ok (.iconst 3, 1) := by decide +kernel
theorem kd_Mc_endUnit_31 : decode kc_Mc_endUnit 31 = .ok (.aload_n 0, 1) := by decide +kernel
theorem kd_Mc_endUnit_32 : decode kc_Mc_endUnit 32 = .ok (.getfield 142, 3) := by decide +kernel
theorem kd_Mc_endUnit_35 : decode kc_Mc_endUnit 35 = .ok (.imul, 1) := by decide +kernel
theorem kd_Mc_endUnit_36 : decode kc_Mc_endUnit 36 = .ok (.iconst 1, 1) := by decide +kernel
theorem kd_Mc_endUnit_37 : decode kc_Mc_endUnit 37 = .ok (.iadd, 1) := by decide +kernel
theorem kd_Mc_endUnit_38 : decode kc_Mc_endUnit 38 = .ok (.iaload, 1) := by decide +kernel
theorem kd_Mc_endUnit_39 : decode kc_Mc_endUnit 39 = .ok (.putfield 152, 3) := by decide +kernel
theorem kd_Mc_endUnit_42 : decode kc_Mc_endUnit 42 = .ok (.aload_n 0, 1) := by decide +kernel
theorem kd_Mc_endUnit_43 : decode kc_Mc_endUnit 43 = .ok (.aload_n 0, 1) := by decide +kernel
theorem kd_Mc_endUnit_44 : decode kc_Mc_endUnit 44 = .ok (.getfield 35, 3) := by decide +kernel
theorem kd_Mc_endUnit_47 : decode kc_Mc_endUnit 47 = .ok (.iconst 3, 1) := by decide +kernel
theorem kd_Mc_endUnit_48 : decode kc_Mc_endUnit 48 = .ok (.aload_n 0, 1) := by decide +kernel
theorem kd_Mc_endUnit_49 : decode kc_Mc_endUnit 49 = .ok (.getfield 142, 3) := by decide +kernel
theorem kd_Mc_endUnit_52 : decode kc_Mc_endUnit 52 = .ok (.imul, 1) := by decide +kernel
theorem kd_Mc_endUnit_53 : decode kc_Mc_endUnit 53 = .ok (.iconst 2, 1) := by decide +kernel
theorem kd_Mc_endUnit_54 : decode kc_Mc_endUnit 54 = .ok (.iadd, 1) := by decide +kernel
theorem kd_Mc_endUnit_55 : decode kc_Mc_endUnit 55 = .ok (.iaload, 1) := by decide +kernel
theorem kd_Mc_endUnit_56 : decode kc_Mc_endUnit 56 = .ok (.putfield 172, 3) := by decide +kernel
theorem kd_Mc_endUnit_59 : decode kc_Mc_endUnit 59 = .ok (.return_, 1) := by decide +kernel
theorem kd_Mc_lay_0 : decode kc_Mc_lay 0 = .ok (.aload_n 0, 1) := by decide +kernel
theorem kd_Mc_lay_1 : decode kc_Mc_lay 1 = .ok (.getfield 139, 3) := by decide +kernel
theorem kd_Mc_lay_4 : decode kc_Mc_lay 4 = .ok (.aload_n 0, 1) := by decide +kernel
theorem kd_Mc_lay_5 : decode kc_Mc_lay 5 = .ok (.getfield 32, 3) := by decide +kernel
theorem kd_Mc_lay_8 : decode kc_Mc_lay 8 = .ok (.arraylength, 1) := by decide +kernel
theorem kd_Mc_lay_9 : decode kc_Mc_lay 9 = .ok (.if_icmp .ge 23, 3) := by decide +kernel
theorem kd_Mc_lay_12 : decode kc_Mc_lay 12 = .ok (.aload_n 0, 1) := by decide +kernel
theorem kd_Mc_lay_13 : decode kc_Mc_lay 13 = .ok (.getfield 32, 3) := by decide +kernel
theorem kd_Mc_lay_16 : decode kc_Mc_lay 16 = .ok (.aload_n 0, 1) := by decide +kernel
theorem kd_Mc_lay_17 : decode kc_Mc_lay 17 = .ok (.getfield 139, 3) := by decide +kernel
theorem kd_Mc_lay_20 : decode kc_Mc_lay 20 = .ok (.iload_n 1, 1) := by decide +kernel
theorem kd_Mc_lay_21 : decode kc_Mc_lay 21 = .ok (.iastore, 1) := by decide +kernel
theorem kd_Mc_lay_22 : decode kc_Mc_lay 22 = .ok (.aload_n 0, 1) := by decide +kernel
theorem kd_Mc_lay_23 : decode kc_Mc_lay 23 = .ok (.dup, 1) := by decide +kernel
theorem kd_Mc_lay_24 : decode kc_Mc_lay 24 = .ok (.getfield 139, 3) := by decide +kernel
theorem kd_Mc_lay_27 : decode kc_Mc_lay 27 = .ok (.iconst 1, 1) := by decide +kernel
theorem kd_Mc_lay_28 : decode kc_Mc_lay 28 = .ok (.iadd, 1) := by decide +kernel
theorem kd_Mc_lay_29 : decode kc_Mc_lay 29 = .ok (.putfield 139, 3) := by decide +kernel
theorem kd_Mc_lay_32 : decode kc_Mc_lay 32 = .ok (.return_, 1) := by decide +kernel
theorem kd_Mc_takeInputs_0 : decode kc_Mc_takeInputs 0 = .ok (.getstatic 126, 3) := by decide +kernel
theorem kd_Mc_takeInputs_3 : decode kc_Mc_takeInputs 3 = .ok (.iconst 0, 1) := by decide +kernel
theorem kd_Mc_takeInputs_4 : decode kc_Mc_takeInputs 4 = .ok (.iaload, 1) := by decide +kernel
theorem kd_Mc_takeInputs_5 : decode kc_Mc_takeInputs 5 = .ok (.istore_n 1, 1) := by decide +kernel
theorem kd_Mc_takeInputs_6 : decode kc_Mc_takeInputs 6 = .ok (.iload_n 1, 1) := by decide +kernel
theorem kd_Mc_takeInputs_7 : decode kc_Mc_takeInputs 7 = .ok (.getstatic 126, 3) := by decide +kernel
theorem kd_Mc_takeInputs_10 : decode kc_Mc_takeInputs 10 = .ok (.iconst 1, 1) := by decide +kernel
theorem kd_Mc_takeInputs_11 : decode kc_Mc_takeInputs 11 = .ok (.iaload, 1) := by decide +kernel
theorem kd_Mc_takeInputs_12 : decode kc_Mc_takeInputs 12 = .ok (.if_icmp .ge 21, 3) := by decide +kernel
theorem kd_Mc_takeInputs_15 : decode kc_Mc_takeInputs 15 = .ok (.aload_n 0, 1) := by decide +kernel
theorem kd_Mc_takeInputs_16 : decode kc_Mc_takeInputs 16 = .ok (.getfield 29, 3) := by decide +kernel
theorem kd_Mc_takeInputs_19 : decode kc_Mc_takeInputs 19 = .ok (.iload_n 1, 1) := by decide +kernel
theorem kd_Mc_takeInputs_20 : decode kc_Mc_takeInputs 20 = .ok (.aload_n 0, 1) := by decide +kernel
theorem kd_Mc_takeInputs_21 : decode kc_Mc_takeInputs 21 = .ok (.getfield 19, 3) := by decide +kernel
theorem kd_Mc_takeInputs_24 : decode kc_Mc_takeInputs 24 = .ok (.iload_n 1, 1) := by decide +kernel
theorem kd_Mc_takeInputs_25 : decode kc_Mc_takeInputs 25 = .ok (.iaload, 1) := by decide +kernel
theorem kd_Mc_takeInputs_26 : decode kc_Mc_takeInputs 26 = .ok (.iastore, 1) := by decide +kernel
theorem kd_Mc_takeInputs_27 : decode kc_Mc_takeInputs 27 = .ok (.iinc 1 1, 3) := by decide +kernel
theorem kd_Mc_takeInputs_30 : decode kc_Mc_takeInputs 30 = .ok (.goto (-24), 3) := by decide +kernel
theorem kd_Mc_takeInputs_33 : decode kc_Mc_takeInputs 33 = .ok (.getstatic 126, 3) := by decide +kernel
theorem kd_Mc_takeInputs_36 : decode kc_Mc_takeInputs 36 = .ok (.iconst 3, 1) := by decide +kernel
theorem kd_Mc_takeInputs_37 : decode kc_Mc_takeInputs 37 = .ok (.iaload, 1) := by decide +kernel
theorem kd_Mc_takeInputs_38 : decode kc_Mc_takeInputs 38 = .ok (.istore_n 1, 1) := by decide +kernel
theorem kd_Mc_takeInputs_39 : decode kc_Mc_takeInputs 39 = .ok (.iload_n 1, 1) := by decide +kernel
theorem kd_Mc_takeInputs_40 : decode kc_Mc_takeInputs 40 = .ok (.getstatic 126, 3) := by decide +kernel
theorem kd_Mc_takeInputs_43 : decode kc_Mc_takeInputs 43 = .ok (.iconst 4, 1) := by decide +kernel
theorem kd_Mc_takeInputs_44 : decode kc_Mc_takeInputs 44 = .ok (.iaload, 1) := by decide +kernel
theorem kd_Mc_takeInputs_45 : decode kc_Mc_takeInputs 45 = .ok (.if_icmp .ge 21, 3) := by decide +kernel
theorem kd_Mc_takeInputs_48 : decode kc_Mc_takeInputs 48 = .ok (.aload_n 0, 1) := by decide +kernel
theorem kd_Mc_takeInputs_49 : decode kc_Mc_takeInputs 49 = .ok (.getfield 29, 3) := by decide +kernel
theorem kd_Mc_takeInputs_52 : decode kc_Mc_takeInputs 52 = .ok (.iload_n 1, 1) := by decide +kernel
theorem kd_Mc_takeInputs_53 : decode kc_Mc_takeInputs 53 = .ok (.aload_n 0, 1) := by decide +kernel
theorem kd_Mc_takeInputs_54 : decode kc_Mc_takeInputs 54 = .ok (.getfield 19, 3) := by decide +kernel
theorem kd_Mc_takeInputs_57 : decode kc_Mc_takeInputs 57 = .ok (.iload_n 1, 1) := by decide +kernel
theorem kd_Mc_takeInputs_58 : decode kc_Mc_takeInputs 58 = .ok (.iaload, 1) := by decide +kernel
theorem kd_Mc_takeInputs_59 : decode kc_Mc_takeInputs 59 = .ok (.iastore, 1) := by decide +kernel
theorem kd_Mc_takeInputs_60 : decode kc_Mc_takeInputs 60 = .ok (.iinc 1 1, 3) := by decide +kernel
theorem kd_Mc_takeInputs_63 : decode kc_Mc_takeInputs 63 = .ok (.goto (-24), 3) := by decide +kernel
theorem kd_Mc_takeInputs_66 : decode kc_Mc_takeInputs 66 = .ok (.return_, 1) := by decide +kernel
theorem kd_Mc_takeOff_0 : decode kc_Mc_takeOff 0 = .ok (.aload_n 0, 1) := by decide +kernel
theorem kd_Mc_takeOff_1 : decode kc_Mc_takeOff 1 = .ok (.getfield 139, 3) := by decide +kernel
theorem kd_Mc_takeOff_4 : decode kc_Mc_takeOff 4 = .ok (.ifCond .ne 5, 3) := by decide +kernel
theorem kd_Mc_takeOff_7 : decode kc_Mc_takeOff 7 = .ok (.iconst 0, 1) := by decide +kernel
theorem kd_Mc_takeOff_8 : decode kc_Mc_takeOff 8 = .ok (.ireturn, 1) := by decide +kernel
theorem kd_Mc_takeOff_9 : decode kc_Mc_takeOff 9 = .ok (.aload_n 0, 1) := by decide +kernel
theorem kd_Mc_takeOff_10 : decode kc_Mc_takeOff 10 = .ok (.dup, 1) := by decide +kernel
theorem kd_Mc_takeOff_11 : decode kc_Mc_takeOff 11 = .ok (.getfield 139, 3) := by decide +kernel
theorem kd_Mc_takeOff_14 : decode kc_Mc_takeOff 14 = .ok (.iconst 1, 1) := by decide +kernel
theorem kd_Mc_takeOff_15 : decode kc_Mc_takeOff 15 = .ok (.isub, 1) := by decide +kernel
theorem kd_Mc_takeOff_16 : decode kc_Mc_takeOff 16 = .ok (.putfield 139, 3) := by decide +kernel
theorem kd_Mc_takeOff_19 : decode kc_Mc_takeOff 19 = .ok (.aload_n 0, 1) := by decide +kernel
theorem kd_Mc_takeOff_20 : decode kc_Mc_takeOff 20 = .ok (.getfield 32, 3) := by decide +kernel
theorem kd_Mc_takeOff_23 : decode kc_Mc_takeOff 23 = .ok (.aload_n 0, 1) := by decide +kernel
theorem kd_Mc_takeOff_24 : decode kc_Mc_takeOff 24 = .ok (.getfield 139, 3) := by decide +kernel
theorem kd_Mc_takeOff_27 : decode kc_Mc_takeOff 27 = .ok (.iaload, 1) := by decide +kernel
theorem kd_Mc_takeOff_28 : decode kc_Mc_takeOff 28 = .ok (.ireturn, 1) := by decide +kernel
theorem kd_Nm_find_0 : decode kc_Nm_find 0 = .ok (.iload_n 3, 1) := by decide +kernel
theorem kd_Nm_find_1 : decode kc_Nm_find 1 = .ok (.iconst 1, 1) := by decide +kernel
theorem kd_Nm_find_2 : decode kc_Nm_find 2 = .ok (.if_icmp .lt 21, 3) := by decide +kernel
theorem kd_Nm_find_5 : decode kc_Nm_find 5 = .ok (.iload_n 3, 1) := by decide +kernel
theorem kd_Nm_find_6 : decode kc_Nm_find 6 = .ok (.bipush 32, 2) := by decide +kernel
theorem kd_Nm_find_8 : decode kc_Nm_find 8 = .ok (.if_icmp .gt 15, 3) := by decide +kernel
theorem kd_Nm_find_11 : decode kc_Nm_find 11 = .ok (.iload_n 2, 1) := by decide +kernel
theorem kd_Nm_find_12 : decode kc_Nm_find 12 = .ok (.ifCond .lt 11, 3) := by decide +kernel
theorem kd_Nm_find_15 : decode kc_Nm_find 15 = .ok (.iload_n 2, 1) := by decide +kernel
theorem kd_Nm_find_16 : decode kc_Nm_find 16 = .ok (.iload_n 3, 1) := by decide +kernel
theorem kd_Nm_find_17 : decode kc_Nm_find 17 = .ok (.iadd, 1) := by decide +kernel
theorem kd_Nm_find_18 : decode kc_Nm_find 18 = .ok (.aload_n 1, 1) := by decide +kernel
theorem kd_Nm_find_19 : decode kc_Nm_find 19 = .ok (.arraylength, 1) := by decide +kernel
theorem kd_Nm_find_20 : decode kc_Nm_find 20 = .ok (.if_icmp .le 5, 3) := by decide +kernel
theorem kd_Nm_find_23 : decode kc_Nm_find 23 = .ok (.iconst (-1), 1) := by decide +kernel
theorem kd_Nm_find_24 : decode kc_Nm_find 24 = .ok (.ireturn, 1) := by decide +kernel
theorem kd_Nm_find_25 : decode kc_Nm_find 25 = .ok (.aload_n 0, 1) := by decide +kernel
theorem kd_Nm_find_26 : decode kc_Nm_find 26 = .ok (.getfield 43, 3) := by decide +kernel
theorem kd_Nm_find_29 : decode kc_Nm_find 29 = .ok (.aload_n 1, 1) := by decide +kernel
theorem kd_Nm_find_30 : decode kc_Nm_find 30 = .ok (.iload_n 2, 1) := by decide +kernel
theorem kd_Nm_find_31 : decode kc_Nm_find 31 = .ok (.iload_n 3, 1) := by decide +kernel
theorem kd_Nm_find_32 : decode kc_Nm_find 32 = .ok (.invokestatic 68, 3) := by decide +kernel
theorem kd_Nm_find_35 : decode kc_Nm_find 35 = .ok (.iaload, 1) := by decide +kernel
theorem kd_Nm_find_36 : decode kc_Nm_find 36 = .ok (.istore 4, 2) := by decide +kernel
theorem kd_Nm_find_38 : decode kc_Nm_find 38 = .ok (.iconst 0, 1) := by decide +kernel
theorem kd_Nm_find_39 : decode kc_Nm_find 39 = .ok (.istore 5, 2) := by decide +kernel
theorem kd_Nm_find_41 : decode kc_Nm_find 41 = .ok (.iload 5, 2) := by decide +kernel
theorem kd_Nm_find_43 : decode kc_Nm_find 43 = .ok (.sipush 6000, 3) := by decide +kernel
theorem kd_Nm_find_46 : decode kc_Nm_find 46 = .ok (.if_icmp .ge 39, 3) := by decide +kernel
theorem kd_Nm_find_49 : decode kc_Nm_find 49 = .ok (.iload 4, 2) := by decide +kernel
theorem kd_Nm_find_51 : decode kc_Nm_find 51 = .ok (.iconst (-1), 1) := by decide +kernel
theorem kd_Nm_find_52 : decode kc_Nm_find 52 = .ok (.if_icmp .eq 33, 3) := by decide +kernel
theorem kd_Nm_find_55 : decode kc_Nm_find 55 = .ok (.aload_n 0, 1) := by decide +kernel
theorem kd_Nm_find_56 : decode kc_Nm_find 56 = .ok (.iload 4, 2) := by decide +kernel
theorem kd_Nm_find_58 : decode kc_Nm_find 58 = .ok (.aload_n 1, 1) := by decide +kernel
theorem kd_Nm_find_59 : decode kc_Nm_find 59 = .ok (.iload_n 2, 1) := by decide +kernel
theorem kd_Nm_find_60 : decode kc_Nm_find 60 = .ok (.iload_n 3, 1) := by decide +kernel
theorem kd_Nm_find_61 : decode kc_Nm_find 61 = .ok (.invokevirtual 71, 3) := by decide +kernel
theorem kd_Nm_find_64 : decode kc_Nm_find 64 = .ok (.ifCond .eq 6, 3) := by decide +kernel
theorem kd_Nm_find_67 : decode kc_Nm_find 67 = .ok (.iload 4, 2) := by decide +kernel
theorem kd_Nm_find_69 : decode kc_Nm_find 69 = .ok (.ireturn, 1) := by decide +kernel
theorem kd_Nm_find_70 : decode kc_Nm_find 70 = .ok (.aload_n 0, 1) := by decide +kernel
theorem kd_Nm_find_71 : decode kc_Nm_find 71 = .ok (.getfield 40, 3) := by decide +kernel
theorem kd_Nm_find_74 : decode kc_Nm_find 74 = .ok (.iload 4, 2) := by decide +kernel
theorem kd_Nm_find_76 : decode kc_Nm_find 76 = .ok (.iaload, 1) := by decide +kernel
theorem kd_Nm_find_77 : decode kc_Nm_find 77 = .ok (.istore 4, 2) := by decide +kernel
theorem kd_Nm_find_79 : decode kc_Nm_find 79 = .ok (.iinc 5 1, 3) := by decide +kernel
theorem kd_Nm_find_82 : decode kc_Nm_find 82 = .ok (.goto (-41), 3) := by decide +kernel
theorem kd_Nm_find_85 : decode kc_Nm_find 85 = .ok (.iconst (-1), 1) := by decide +kernel
theorem kd_Nm_find_86 : decode kc_Nm_find 86 = .ok (.ireturn, 1) := by decide +kernel
theorem kd_Nm_great_0 : decode kc_Nm_great 0 = .ok (.iload_n 0, 1) := by decide +kernel
theorem kd_Nm_great_1 : decode kc_Nm_great 1 = .ok (.bipush 97, 2) := by decide +kernel
theorem kd_Nm_great_3 : decode kc_Nm_great 3 = .ok (.if_icmp .lt 16, 3) := by decide +kernel
theorem kd_Nm_great_6 : decode kc_Nm_great 6 = .ok (.iload_n 0, 1) := by decide +kernel
theorem kd_Nm_great_7 : decode kc_Nm_great 7 = .ok (.bipush 122, 2) := by decide +kernel
theorem kd_Nm_great_9 : decode kc_Nm_great 9 = .ok (.if_icmp .gt 10, 3) := by decide +kernel
theorem kd_Nm_great_12 : decode kc_Nm_great 12 = .ok (.iload_n 0, 1) := by decide +kernel
theorem kd_Nm_great_13 : decode kc_Nm_great 13 = .ok (.bipush 32, 2) := by decide +kernel
theorem kd_Nm_great_15 : decode kc_Nm_great 15 = .ok (.isub, 1) := by decide +kernel
theorem kd_Nm_great_16 : decode kc_Nm_great 16 = .ok (.goto 4, 3) := by decide +kernel
theorem kd_Nm_great_19 : decode kc_Nm_great 19 = .ok (.iload_n 0, 1) := by decide +kernel
theorem kd_Nm_great_20 : decode kc_Nm_great 20 = .ok (.ireturn, 1) := by decide +kernel
theorem kd_Nm_headOf_0 : decode kc_Nm_headOf 0 = .ok (.iload_n 2, 1) := by decide +kernel
theorem kd_Nm_headOf_1 : decode kc_Nm_headOf 1 = .ok (.istore_n 3, 1) := by decide +kernel
theorem kd_Nm_headOf_2 : decode kc_Nm_headOf 2 = .ok (.iconst 0, 1) := by decide +kernel
theorem kd_Nm_headOf_3 : decode kc_Nm_headOf 3 = .ok (.istore 4, 2) := by decide +kernel
theorem kd_Nm_headOf_5 : decode kc_Nm_headOf 5 = .ok (.iload 4, 2) := by decide +kernel
theorem kd_Nm_headOf_7 : decode kc_Nm_headOf 7 = .ok (.iload_n 2, 1) := by decide +kernel
theorem kd_Nm_headOf_8 : decode kc_Nm_headOf 8 = .ok (.if_icmp .ge 24, 3) := by decide +kernel
theorem kd_Nm_headOf_11 : decode kc_Nm_headOf 11 = .ok (.iload_n 3, 1) := by decide +kernel
theorem kd_Nm_headOf_12 : decode kc_Nm_headOf 12 = .ok (.bipush 31, 2) := by decide +kernel
theorem kd_Nm_headOf_14 : decode kc_Nm_headOf 14 = .ok (.imul, 1) := by decide +kernel
theorem kd_Nm_headOf_15 : decode kc_Nm_headOf 15 = .ok (.aload_n 0, 1) := by decide +kernel
theorem kd_Nm_headOf_16 : decode kc_Nm_headOf 16 = .ok (.iload_n 1, 1) := by decide +kernel
theorem kd_Nm_headOf_17 : decode kc_Nm_headOf 17 = .ok (.iload 4, 2) := by decide +kernel
theorem kd_Nm_headOf_19 : decode kc_Nm_headOf 19 = .ok (.iadd, 1) := by decide +kernel
theorem kd_Nm_headOf_20 : decode kc_Nm_headOf 20 = .ok (.baload, 1) := by decide +kernel
theorem kd_Nm_headOf_21 : decode kc_Nm_headOf 21 = .ok (.invokestatic 78, 3) := by decide +kernel
theorem kd_Nm_headOf_24 : decode kc_Nm_headOf 24 = .ok (.iadd, 1) := by decide +kernel
theorem kd_Nm_headOf_25 : decode kc_Nm_headOf 25 = .ok (.istore_n 3, 1) := by decide +kernel
theorem kd_Nm_headOf_26 : decode kc_Nm_headOf 26 = .ok (.iinc 4 1, 3) := by decide +kernel
theorem kd_Nm_headOf_29 : decode kc_Nm_headOf 29 = .ok (.goto (-24), 3) := by decide +kernel
theorem kd_Nm_headOf_32 : decode kc_Nm_headOf 32 = .ok (.iload_n 3, 1) := by decide +kernel
theorem kd_Nm_headOf_33 : decode kc_Nm_headOf 33 = .ok (.iload_n 3, 1) := by decide +kernel
theorem kd_Nm_headOf_34 : decode kc_Nm_headOf 34 = .ok (.bipush 11, 2) := by decide +kernel
theorem kd_Nm_headOf_36 : decode kc_Nm_headOf 36 = .ok (.iushr, 1) := by decide +kernel
theorem kd_Nm_headOf_37 : decode kc_Nm_headOf 37 = .ok (.ixor, 1) := by decide +kernel
theorem kd_Nm_headOf_38 : decode kc_Nm_headOf 38 = .ok (.sipush 1023, 3) := by decide +kernel
theorem kd_Nm_headOf_41 : decode kc_Nm_headOf 41 = .ok (.iand, 1) := by decide +kernel
theorem kd_Nm_headOf_42 : decode kc_Nm_headOf 42 = .ok (.ireturn, 1) := by decide +kernel
theorem kd_Nm_isLetter_0 : decode kc_Nm_isLetter 0 = .ok (.iload_n 0, 1) := by decide +kernel
theorem kd_Nm_isLetter_1 : decode kc_Nm_isLetter 1 = .ok (.bipush 65, 2) := by decide +kernel
theorem kd_Nm_isLetter_3 : decode kc_Nm_isLetter 3 = .ok (.if_icmp .lt 9, 3) := by decide +kernel
theorem kd_Nm_isLetter_6 : decode kc_Nm_isLetter 6 = .ok (.iload_n 0, 1) := by decide +kernel
theorem kd_Nm_isLetter_7 : decode kc_Nm_isLetter 7 = .ok (.bipush 90, 2) := by decide +kernel
theorem kd_Nm_isLetter_9 : decode kc_Nm_isLetter 9 = .ok (.if_icmp .le 21, 3) := by decide +kernel
theorem kd_Nm_isLetter_12 : decode kc_Nm_isLetter 12 = .ok (.iload_n 0, 1) := by decide +kernel
theorem kd_Nm_isLetter_13 : decode kc_Nm_isLetter 13 = .ok (.bipush 97, 2) := by decide +kernel
theorem kd_Nm_isLetter_15 : decode kc_Nm_isLetter 15 = .ok (.if_icmp .lt 9, 3) := by decide +kernel
theorem kd_Nm_isLetter_18 : decode kc_Nm_isLetter 18 = .ok (.iload_n 0, 1) := by decide +kernel
theorem kd_Nm_isLetter_19 : decode kc_Nm_isLetter 19 = .ok (.bipush 122, 2) := by decide +kernel
theorem kd_Nm_isLetter_21 : decode kc_Nm_isLetter 21 = .ok (.if_icmp .le 9, 3) := by decide +kernel
theorem kd_Nm_isLetter_24 : decode kc_Nm_isLetter 24 = .ok (.iload_n 0, 1) := by decide +kernel
theorem kd_Nm_isLetter_25 : decode kc_Nm_isLetter 25 = .ok (.bipush 95, 2) := by decide +kernel
theorem kd_Nm_isLetter_27 : decode kc_Nm_isLetter 27 = .ok (.if_icmp .ne 7, 3) := by decide +kernel
theorem kd_Nm_isLetter_30 : decode kc_Nm_isLetter 30 = .ok (.iconst 1, 1) := by decide +kernel
theorem kd_Nm_isLetter_31 : decode kc_Nm_isLetter 31 = .ok (.goto 4, 3) := by decide +kernel
theorem kd_Nm_isLetter_34 : decode kc_Nm_isLetter 34 = .ok (.iconst 0, 1) := by decide +kernel
theorem kd_Nm_isLetter_35 : decode kc_Nm_isLetter 35 = .ok (.ireturn, 1) := by decide +kernel
theorem kd_Nm_isPart_0 : decode kc_Nm_isPart 0 = .ok (.iload_n 0, 1) := by decide +kernel
theorem kd_Nm_isPart_1 : decode kc_Nm_isPart 1 = .ok (.invokestatic 64, 3) := by decide +kernel
theorem kd_Nm_isPart_4 : decode kc_Nm_isPart 4 = .ok (.ifCond .ne 15, 3) := by decide +kernel
theorem kd_Nm_isPart_7 : decode kc_Nm_isPart 7 = .ok (.iload_n 0, 1) := by decide +kernel
theorem kd_Nm_isPart_8 : decode kc_Nm_isPart 8 = .ok (.bipush 48, 2) := by decide +kernel
theorem kd_Nm_isPart_10 : decode kc_Nm_isPart 10 = .ok (.if_icmp .lt 13, 3) := by decide +kernel
theorem kd_Nm_isPart_13 : decode kc_Nm_isPart 13 = .ok (.iload_n 0, 1) := by decide +kernel
theorem kd_Nm_isPart_14 : decode kc_Nm_isPart 14 = .ok (.bipush 57, 2) := by decide +kernel
theorem kd_Nm_isPart_16 : decode kc_Nm_isPart 16 = .ok (.if_icmp .gt 7, 3) := by decide +kernel
theorem kd_Nm_isPart_19 : decode kc_Nm_isPart 19 = .ok (.iconst 1, 1) := by decide +kernel
theorem kd_Nm_isPart_20 : decode kc_Nm_isPart 20 = .ok (.goto 4, 3) := by decide +kernel
theorem kd_Nm_isPart_23 : decode kc_Nm_isPart 23 = .ok (.iconst 0, 1) := by decide +kernel
theorem kd_Nm_isPart_24 : decode kc_Nm_isPart 24 = .ok (.ireturn, 1) := by decide +kernel
theorem kd_Nm_isSame_0 : decode kc_Nm_isSame 0 = .ok (.aload_n 0, 1) := by decide +kernel
theorem kd_Nm_isSame_1 : decode kc_Nm_isSame 1 = .ok (.getfield 36, 3) := by decide +kernel
theorem kd_Nm_isSame_4 : decode kc_Nm_isSame 4 = .ok (.iload_n 1, 1) := by decide +kernel
theorem kd_Nm_isSame_5 : decode kc_Nm_isSame 5 = .ok (.iconst 1, 1) := by decide +kernel
theorem kd_Nm_isSame_6 : decode kc_Nm_isSame 6 = .ok (.iadd, 1) := by decide +kernel
theorem kd_Nm_isSame_7 : decode kc_Nm_isSame 7 = .ok (.iaload, 1) := by decide +kernel
theorem kd_Nm_isSame_8 : decode kc_Nm_isSame 8 = .ok (.aload_n 0, 1) := by decide +kernel
theorem kd_Nm_isSame_9 : decode kc_Nm_isSame 9 = .ok (.getfield 36, 3) := by decide +kernel
theorem kd_Nm_isSame_12 : decode kc_Nm_isSame 12 = .ok (.iload_n 1, 1) := by decide +kernel
theorem kd_Nm_isSame_13 : decode kc_Nm_isSame 13 = .ok (.iaload, 1) := by decide +kernel
theorem kd_Nm_isSame_14 : decode kc_Nm_isSame 14 = .ok (.isub, 1) := by decide +kernel
theorem kd_Nm_isSame_15 : decode kc_Nm_isSame 15 = .ok (.iload 4, 2) := by decide +kernel
theorem kd_Nm_isSame_17 : decode kc_Nm_isSame 17 = .ok (.if_icmp .eq 5, 3) := by decide +kernel
theorem kd_Nm_isSame_20 : decode kc_Nm_isSame 20 = .ok (.iconst 0, 1) := by decide +kernel
theorem kd_Nm_isSame_21 : decode kc_Nm_isSame 21 = .ok (.ireturn, 1) := by decide +kernel
theorem kd_Nm_isSame_22 : decode kc_Nm_isSame 22 = .ok (.iconst 0, 1) := by decide +kernel
theorem kd_Nm_isSame_23 : decode kc_Nm_isSame 23 = .ok (.istore 5, 2) := by decide +kernel
theorem kd_Nm_isSame_25 : decode kc_Nm_isSame 25 = .ok (.iload 5, 2) := by decide +kernel
theorem kd_Nm_isSame_27 : decode kc_Nm_isSame 27 = .ok (.iload 4, 2) := by decide +kernel
theorem kd_Nm_isSame_29 : decode kc_Nm_isSame 29 = .ok (.if_icmp .ge 37, 3) := by decide +kernel
theorem kd_Nm_isSame_32 : decode kc_Nm_isSame 32 = .ok (.aload_n 0, 1) := by decide +kernel
theorem kd_Nm_isSame_33 : decode kc_Nm_isSame 33 = .ok (.getfield 33, 3) := by decide +kernel
theorem kd_Nm_isSame_36 : decode kc_Nm_isSame 36 = .ok (.aload_n 0, 1) := by decide +kernel
theorem kd_Nm_isSame_37 : decode kc_Nm_isSame 37 = .ok (.getfield 36, 3) := by decide +kernel
theorem kd_Nm_isSame_40 : decode kc_Nm_isSame 40 = .ok (.iload_n 1, 1) := by decide +kernel
theorem kd_Nm_isSame_41 : decode kc_Nm_isSame 41 = .ok (.iaload, 1) := by decide +kernel
theorem kd_Nm_isSame_42 : decode kc_Nm_isSame 42 = .ok (.iload 5, 2) := by decide +kernel
theorem kd_Nm_isSame_44 : decode kc_Nm_isSame 44 = .ok (.iadd, 1) := by decide +kernel
theorem kd_Nm_isSame_45 : decode kc_Nm_isSame 45 = .ok (.baload, 1) := by decide +kernel
theorem kd_Nm_isSame_46 : decode kc_Nm_isSame 46 = .ok (.aload_n 2, 1) := by decide +kernel
theorem kd_Nm_isSame_47 : decode kc_Nm_isSame 47 = .ok (.iload_n 3, 1) := by decide +kernel
theorem kd_Nm_isSame_48 : decode kc_Nm_isSame 48 = .ok (.iload 5, 2) := by decide +kernel
theorem kd_Nm_isSame_50 : decode kc_Nm_isSame 50 = .ok (.iadd, 1) := by decide +kernel
theorem kd_Nm_isSame_51 : decode kc_Nm_isSame 51 = .ok (.baload, 1) := by decide +kernel
theorem kd_Nm_isSame_52 : decode kc_Nm_isSame 52 = .ok (.invokestatic 78, 3) := by decide +kernel
theorem kd_Nm_isSame_55 : decode kc_Nm_isSame 55 = .ok (.if_icmp .eq 5, 3) := by decide +kernel
theorem kd_Nm_isSame_58 : decode kc_Nm_isSame 58 = .ok (.iconst 0, 1) := by decide +kernel
theorem kd_Nm_isSame_59 : decode kc_Nm_isSame 59 = .ok (.ireturn, 1) := by decide +kernel
theorem kd_Nm_isSame_60 : decode kc_Nm_isSame 60 = .ok (.iinc 5 1, 3) := by decide +kernel
theorem kd_Nm_isSame_63 : decode kc_Nm_isSame 63 = .ok (.goto (-38), 3) := by decide +kernel
theorem kd_Nm_isSame_66 : decode kc_Nm_isSame 66 = .ok (.iconst 1, 1) := by decide +kernel
theorem kd_Nm_isSame_67 : decode kc_Nm_isSame 67 = .ok (.ireturn, 1) := by decide +kernel
theorem kd_Pk_follow_0 : decode kc_Pk_follow 0 = .ok (.aload_n 0, 1) := by decide +kernel
theorem kd_Pk_follow_1 : decode kc_Pk_follow 1 = .ok (.getfield 52, 3) := by decide +kernel
theorem kd_Pk_follow_4 : decode kc_Pk_follow 4 = .ok (.getfield 149, 3) := by decide +kernel
theorem kd_Pk_follow_7 : decode kc_Pk_follow 7 = .ok (.istore_n 2, 1) := by decide +kernel
theorem kd_Pk_follow_8 : decode kc_Pk_follow 8 = .ok (.iconst 0, 1) := by decide +kernel
theorem kd_Pk_follow_9 : decode kc_Pk_follow 9 = .ok (.istore_n 3, 1) := by decide +kernel
theorem kd_Pk_follow_10 : decode kc_Pk_follow 10 = .ok (.iconst 0, 1) := by decide +kernel
theorem kd_Pk_follow_11 : decode kc_Pk_follow 11 = .ok (.istore 4, 2) := by decide +kernel
theorem kd_Pk_follow_13 : decode kc_Pk_follow 13 = .ok (.iconst 0, 1) := by decide +kernel
theorem kd_Pk_follow_14 : decode kc_Pk_follow 14 = .ok (.istore 5, 2) := by decide +kernel
theorem kd_Pk_follow_16 : decode kc_Pk_follow 16 = .ok (.iload 5, 2) := by decide +kernel
theorem kd_Pk_follow_18 : decode kc_Pk_follow 18 = .ok (.sipush 16384, 3) := by decide +kernel
theorem kd_Pk_follow_21 : decode kc_Pk_follow 21 = .ok (.if_icmp .ge 170, 3) := by decide +kernel
theorem kd_Pk_follow_24 : decode kc_Pk_follow 24 = .ok (.iload_n 2, 1) := by decide +kernel
theorem kd_Pk_follow_25 : decode kc_Pk_follow 25 = .ok (.iconst (-1), 1) := by decide +kernel
theorem kd_Pk_follow_26 : decode kc_Pk_follow 26 = .ok (.if_icmp .eq 165, 3) := by decide +kernel
theorem kd_Pk_follow_29 : decode kc_Pk_follow 29 = .ok (.aload_n 0, 1) := by decide +kernel
theorem kd_Pk_follow_30 : decode kc_Pk_follow 30 = .ok (.iload 4, 2) := by decide +kernel
theorem kd_Pk_follow_32 : decode kc_Pk_follow 32 = .ok (.iload_n 1, 1) := by decide +kernel
theorem kd_Pk_follow_33 : decode kc_Pk_follow 33 = .ok (.invokevirtual 206, 3) := by decide +kernel
theorem kd_Pk_follow_36 : decode kc_Pk_follow 36 = .ok (.istore 6, 2) := by decide +kernel
theorem kd_Pk_follow_38 : decode kc_Pk_follow 38 = .ok (.aload_n 0, 1) := by decide +kernel
theorem kd_Pk_follow_39 : decode kc_Pk_follow 39 = .ok (.getfield 52, 3) := by decide +kernel
theorem kd_Pk_follow_42 : decode kc_Pk_follow 42 = .ok (.iload_n 2, 1) := by decide +kernel
theorem kd_Pk_follow_43 : decode kc_Pk_follow 43 = .ok (.aload_n 0, 1) := by decide +kernel
theorem kd_Pk_follow_44 : decode kc_Pk_follow 44 = .ok (.getfield 20, 3) := by decide +kernel
theorem kd_Pk_follow_47 : decode kc_Pk_follow 47 = .ok (.aload_n 0, 1) := by decide +kernel
theorem kd_Pk_follow_48 : decode kc_Pk_follow 48 = .ok (.getfield 9, 3) := by decide +kernel
theorem kd_Pk_follow_51 : decode kc_Pk_follow 51 = .ok (.iload 4, 2) := by decide +kernel
theorem kd_Pk_follow_53 : decode kc_Pk_follow 53 = .ok (.iload 6, 2) := by decide +kernel
theorem kd_Pk_follow_55 : decode kc_Pk_follow 55 = .ok (.iload 4, 2) := by decide +kernel
theorem kd_Pk_follow_57 : decode kc_Pk_follow 57 = .ok (.isub, 1) := by decide +kernel
theorem kd_Pk_follow_58 : decode kc_Pk_follow 58 = .ok (.invokevirtual 209, 3) := by decide +kernel
theorem kd_Pk_follow_61 : decode kc_Pk_follow 61 = .ok (.invokevirtual 213, 3) := by decide +kernel
theorem kd_Pk_follow_64 : decode kc_Pk_follow 64 = .ok (.istore 7, 2) := by decide +kernel
theorem kd_Pk_follow_66 : decode kc_Pk_follow 66 = .ok (.iload 7, 2) := by decide +kernel
theorem kd_Pk_follow_68 : decode kc_Pk_follow 68 = .ok (.iconst (-1), 1) := by decide +kernel
theorem kd_Pk_follow_69 : decode kc_Pk_follow 69 = .ok (.if_icmp .ne 5, 3) := by decide +kernel
theorem kd_Pk_follow_72 : decode kc_Pk_follow 72 = .ok (.iconst (-1), 1) := by decide +kernel
theorem kd_Pk_follow_73 : decode kc_Pk_follow 73 = .ok (.ireturn, 1) := by decide +kernel
theorem kd_Pk_follow_74 : decode kc_Pk_follow 74 = .ok (.iload_n 3, 1) := by decide +kernel
theorem kd_Pk_follow_75 : decode kc_Pk_follow 75 = .ok (.aload_n 0, 1) := by decide +kernel
theorem kd_Pk_follow_76 : decode kc_Pk_follow 76 = .ok (.getfield 52, 3) := by decide +kernel
theorem kd_Pk_follow_79 : decode kc_Pk_follow 79 = .ok (.getfield 216, 3) := by decide +kernel
theorem kd_Pk_follow_82 : decode kc_Pk_follow 82 = .ok (.iload 7, 2) := by decide +kernel
theorem kd_Pk_follow_84 : decode kc_Pk_follow 84 = .ok (.iaload, 1) := by decide +kernel
theorem kd_Pk_follow_85 : decode kc_Pk_follow 85 = .ok (.iadd, 1) := by decide +kernel
theorem kd_Pk_follow_86 : decode kc_Pk_follow 86 = .ok (.istore_n 3, 1) := by decide +kernel
theorem kd_Pk_follow_87 : decode kc_Pk_follow 87 = .ok (.aload_n 0, 1) := by decide +kernel
theorem kd_Pk_follow_88 : decode kc_Pk_follow 88 = .ok (.getfield 52, 3) := by decide +kernel
theorem kd_Pk_follow_91 : decode kc_Pk_follow 91 = .ok (.getfield 219, 3) := by decide +kernel
theorem kd_Pk_follow_94 : decode kc_Pk_follow 94 = .ok (.iload 7, 2) := by decide +kernel
theorem kd_Pk_follow_96 : decode kc_Pk_follow 96 = .ok (.iaload, 1) := by decide +kernel
theorem kd_Pk_follow_97 : decode kc_Pk_follow 97 = .ok (.istore_n 2, 1) := by decide +kernel
theorem kd_Pk_follow_98 : decode kc_Pk_follow 98 = .ok (.iload_n 2, 1) := by decide +kernel
theorem kd_Pk_follow_99 : decode kc_Pk_follow 99 = .ok (.iconst (-1), 1) := by decide +kernel
theorem kd_Pk_follow_100 : decode kc_Pk_follow 100 = .ok (.if_icmp .ne 21, 3) := by decide +kernel
theorem kd_Pk_follow_103 : decode kc_Pk_follow 103 = .ok (.iload 6, 2) := by decide +kernel
theorem kd_Pk_follow_105 : decode kc_Pk_follow 105 = .ok (.iload_n 1, 1) := by decide +kernel
theorem kd_Pk_follow_106 : decode kc_Pk_follow 106 = .ok (.if_icmp .ne 13, 3) := by decide +kernel
theorem kd_Pk_follow_109 : decode kc_Pk_follow 109 = .ok (.aload_n 0, 1) := by decide +kernel
theorem kd_Pk_follow_110 : decode kc_Pk_follow 110 = .ok (.iload 7, 2) := by decide +kernel
theorem kd_Pk_follow_112 : decode kc_Pk_follow 112 = .ok (.iload_n 3, 1) := by decide +kernel
theorem kd_Pk_follow_113 : decode kc_Pk_follow 113 = .ok (.invokevirtual 222, 3) := by decide +kernel
theorem kd_Pk_follow_116 : decode kc_Pk_follow 116 = .ok (.goto 4, 3) := by decide +kernel
theorem kd_Pk_follow_119 : decode kc_Pk_follow 119 = .ok (.iconst (-1), 1) := by decide +kernel
theorem kd_Pk_follow_120 : decode kc_Pk_follow 120 = .ok (.ireturn, 1) := by decide +kernel
theorem kd_Pk_follow_121 : decode kc_Pk_follow 121 = .ok (.iload_n 2, 1) := by decide +kernel
theorem kd_Pk_follow_122 : decode kc_Pk_follow 122 = .ok (.bipush (-2), 2) := by decide +kernel
theorem kd_Pk_follow_124 : decode kc_Pk_follow 124 = .ok (.if_icmp .ne 35, 3) := by decide +kernel
theorem kd_Pk_follow_127 : decode kc_Pk_follow 127 = .ok (.aload_n 0, 1) := by decide +kernel
theorem kd_Pk_follow_128 : decode kc_Pk_follow 128 = .ok (.iload 7, 2) := by decide +kernel
theorem kd_Pk_follow_130 : decode kc_Pk_follow 130 = .ok (.iload 6, 2) := by decide +kernel
theorem kd_Pk_follow_132 : decode kc_Pk_follow 132 = .ok (.iload_n 1, 1) := by decide +kernel
theorem kd_Pk_follow_133 : decode kc_Pk_follow 133 = .ok (.invokevirtual 225, 3) := by decide +kernel
theorem kd_Pk_follow_136 : decode kc_Pk_follow 136 = .ok (.istore 8, 2) := by decide +kernel
theorem kd_Pk_follow_138 : decode kc_Pk_follow 138 = .ok (.iload 8, 2) := by decide +kernel
theorem kd_Pk_follow_140 : decode kc_Pk_follow 140 = .ok (.iconst (-1), 1) := by decide +kernel
theorem kd_Pk_follow_141 : decode kc_Pk_follow 141 = .ok (.if_icmp .ne 7, 3) := by decide +kernel
theorem kd_Pk_follow_144 : decode kc_Pk_follow 144 = .ok (.iconst (-1), 1) := by decide +kernel
theorem kd_Pk_follow_145 : decode kc_Pk_follow 145 = .ok (.goto 13, 3) := by decide +kernel
theorem kd_Pk_follow_148 : decode kc_Pk_follow 148 = .ok (.aload_n 0, 1) := by decide +kernel
theorem kd_Pk_follow_149 : decode kc_Pk_follow 149 = .ok (.iload 7, 2) := by decide +kernel
theorem kd_Pk_follow_151 : decode kc_Pk_follow 151 = .ok (.iload_n 3, 1) := by decide +kernel
theorem kd_Pk_follow_152 : decode kc_Pk_follow 152 = .ok (.iload 8, 2) := by decide +kernel
theorem kd_Pk_follow_154 : decode kc_Pk_follow 154 = .ok (.iadd, 1) := by decide +kernel
theorem kd_Pk_follow_155 : decode kc_Pk_follow 155 = .ok (.invokevirtual 222, 3) := by decide +kernel
theorem kd_Pk_follow_158 : decode kc_Pk_follow 158 = .ok (.ireturn, 1) := by decide +kernel
theorem kd_Pk_follow_159 : decode kc_Pk_follow 159 = .ok (.iload 6, 2) := by decide +kernel
theorem kd_Pk_follow_161 : decode kc_Pk_follow 161 = .ok (.iload_n 1, 1) := by decide +kernel
theorem kd_Pk_follow_162 : decode kc_Pk_follow 162 = .ok (.if_icmp .ge 15, 3) := by decide +kernel
theorem kd_Pk_follow_165 : decode kc_Pk_follow 165 = .ok (.aload_n 0, 1) := by decide +kernel
theorem kd_Pk_follow_166 : decode kc_Pk_follow 166 = .ok (.getfield 9, 3) := by decide +kernel
theorem kd_Pk_follow_169 : decode kc_Pk_follow 169 = .ok (.iload 6, 2) := by decide +kernel
theorem kd_Pk_follow_171 : decode kc_Pk_follow 171 = .ok (.baload, 1) := by decide +kernel
theorem kd_Pk_follow_172 : decode kc_Pk_follow 172 = .ok (.bipush 46, 2) := by decide +kernel
theorem kd_Pk_follow_174 : decode kc_Pk_follow 174 = .ok (.if_icmp .eq 5, 3) := by decide +kernel
theorem kd_Pk_follow_177 : decode kc_Pk_follow 177 = .ok (.iconst (-1), 1) := by decide +kernel
theorem kd_Pk_follow_178 : decode kc_Pk_follow 178 = .ok (.ireturn, 1) := by decide +kernel
theorem kd_Pk_follow_179 : decode kc_Pk_follow 179 = .ok (.iload 6, 2) := by decide +kernel
theorem kd_Pk_follow_181 : decode kc_Pk_follow 181 = .ok (.iconst 1, 1) := by decide +kernel
theorem kd_Pk_follow_182 : decode kc_Pk_follow 182 = .ok (.iadd, 1) := by decide +kernel
theorem kd_Pk_follow_183 : decode kc_Pk_follow 183 = .ok (.istore 4, 2) := by decide +kernel
theorem kd_Pk_follow_185 : decode kc_Pk_follow 185 = .ok (.iinc 5 1, 3) := by decide +kernel
theorem kd_Pk_follow_188 : decode kc_Pk_follow 188 = .ok (.goto (-172), 3) := by decide +kernel
theorem kd_Pk_follow_191 : decode kc_Pk_follow 191 = .ok (.iconst (-1), 1) := by decide +kernel
theorem kd_Pk_follow_192 : decode kc_Pk_follow 192 = .ok (.ireturn, 1) := by decide +kernel
theorem kd_Pk_frame_0 : decode kc_Pk_frame 0 = .ok (.aload_n 0, 1) := by decide +kernel
theorem kd_Pk_frame_1 : decode kc_Pk_frame 1 = .ok (.getfield 108, 3) := by decide +kernel
theorem kd_Pk_frame_4 : decode kc_Pk_frame 4 = .ok (.istore_n 1, 1) := by decide +kernel
theorem kd_Pk_frame_5 : decode kc_Pk_frame 5 = .ok (.aload_n 0, 1) := by decide +kernel
theorem kd_Pk_frame_6 : decode kc_Pk_frame 6 = .ok (.iconst 0, 1) := by decide +kernel
theorem kd_Pk_frame_7 : decode kc_Pk_frame 7 = .ok (.putfield 108, 3) := by decide +kernel
theorem kd_Pk_frame_10 : decode kc_Pk_frame 10 = .ok (.aload_n 0, 1) := by decide +kernel
theorem kd_Pk_frame_11 : decode kc_Pk_frame 11 = .ok (.getfield 104, 3) := by decide +kernel
theorem kd_Pk_frame_14 : decode kc_Pk_frame 14 = .ok (.aload_n 0, 1) := by decide +kernel
theorem kd_Pk_frame_15 : decode kc_Pk_frame 15 = .ok (.getfield 9, 3) := by decide +kernel
theorem kd_Pk_frame_18 : decode kc_Pk_frame 18 = .ok (.iload_n 1, 1) := by decide +kernel
theorem kd_Pk_frame_19 : decode kc_Pk_frame 19 = .ok (.invokevirtual 259, 3) := by decide +kernel
theorem kd_Pk_frame_22 : decode kc_Pk_frame 22 = .ok (.ireturn, 1) := by decide +kernel
theorem kd_Pk_indexOnTape_0 : decode kc_Pk_indexOnTape 0 = .ok (.iload_n 2, 1) := by decide +kernel
theorem kd_Pk_indexOnTape_1 : decode kc_Pk_indexOnTape 1 = .ok (.iload_n 3, 1) := by decide +kernel
theorem kd_Pk_indexOnTape_2 : decode kc_Pk_indexOnTape 2 = .ok (.if_icmp .ge 27, 3) := by decide +kernel
theorem kd_Pk_indexOnTape_5 : decode kc_Pk_indexOnTape 5 = .ok (.aload_n 0, 1) := by decide +kernel
theorem kd_Pk_indexOnTape_6 : decode kc_Pk_indexOnTape 6 = .ok (.getfield 9, 3) := by decide +kernel
theorem kd_Pk_indexOnTape_9 : decode kc_Pk_indexOnTape 9 = .ok (.iload_n 2, 1) := by decide +kernel
theorem kd_Pk_indexOnTape_10 : decode kc_Pk_indexOnTape 10 = .ok (.baload, 1) := by decide +kernel
theorem kd_Pk_indexOnTape_11 : decode kc_Pk_indexOnTape 11 = .ok (.bipush 91, 2) := by decide +kernel
theorem kd_Pk_indexOnTape_13 : decode kc_Pk_indexOnTape 13 = .ok (.if_icmp .ne 16, 3) := by decide +kernel
theorem kd_Pk_indexOnTape_16 : decode kc_Pk_indexOnTape 16 = .ok (.aload_n 0, 1) := by decide +kernel
theorem kd_Pk_indexOnTape_17 : decode kc_Pk_indexOnTape 17 = .ok (.getfield 9, 3) := by decide +kernel
theorem kd_Pk_indexOnTape_20 : decode kc_Pk_indexOnTape 20 = .ok (.iload_n 3, 1) := by decide +kernel
theorem kd_Pk_indexOnTape_21 : decode kc_Pk_indexOnTape 21 = .ok (.iconst 1, 1) := by decide +kernel
theorem kd_Pk_indexOnTape_22 : decode kc_Pk_indexOnTape 22 = .ok (.isub, 1) := by decide +kernel
theorem kd_Pk_indexOnTape_23 : decode kc_Pk_indexOnTape 23 = .ok (.baload, 1) := by decide +kernel
theorem kd_Pk_indexOnTape_24 : decode kc_Pk_indexOnTape 24 = .ok (.bipush 93, 2) := by decide +kernel
theorem kd_Pk_indexOnTape_26 : decode kc_Pk_indexOnTape 26 = .ok (.if_icmp .eq 5, 3) := by decide +kernel
theorem kd_Pk_indexOnTape_29 : decode kc_Pk_indexOnTape 29 = .ok (.iconst (-1), 1) := by decide +kernel
theorem kd_Pk_indexOnTape_30 : decode kc_Pk_indexOnTape 30 = .ok (.ireturn, 1) := by decide +kernel
theorem kd_Pk_indexOnTape_31 : decode kc_Pk_indexOnTape 31 = .ok (.iload_n 2, 1) := by decide +kernel
theorem kd_Pk_indexOnTape_32 : decode kc_Pk_indexOnTape 32 = .ok (.iconst 1, 1) := by decide +kernel
theorem kd_Pk_indexOnTape_33 : decode kc_Pk_indexOnTape 33 = .ok (.iadd, 1) := by decide +kernel
theorem kd_Pk_indexOnTape_34 : decode kc_Pk_indexOnTape 34 = .ok (.iload_n 3, 1) := by decide +kernel
theorem kd_Pk_indexOnTape_35 : decode kc_Pk_indexOnTape 35 = .ok (.if_icmp .ge 20, 3) := by decide +kernel
theorem kd_Pk_indexOnTape_38 : decode kc_Pk_indexOnTape 38 = .ok (.aload_n 0, 1) := by decide +kernel
theorem kd_Pk_indexOnTape_39 : decode kc_Pk_indexOnTape 39 = .ok (.getfield 9, 3) := by decide +kernel
theorem kd_Pk_indexOnTape_42 : decode kc_Pk_indexOnTape 42 = .ok (.iload_n 2, 1) := by decide +kernel
theorem kd_Pk_indexOnTape_43 : decode kc_Pk_indexOnTape 43 = .ok (.iconst 1, 1) := by decide +kernel
theorem kd_Pk_indexOnTape_44 : decode kc_Pk_indexOnTape 44 = .ok (.iadd, 1) := by decide +kernel
theorem kd_Pk_indexOnTape_45 : decode kc_Pk_indexOnTape 45 = .ok (.baload, 1) := by decide +kernel
theorem kd_Pk_indexOnTape_46 : decode kc_Pk_indexOnTape 46 = .ok (.bipush 45, 2) := by decide +kernel
theorem kd_Pk_indexOnTape_48 : decode kc_Pk_indexOnTape 48 = .ok (.if_icmp .ne 7, 3) := by decide +kernel
theorem kd_Pk_indexOnTape_51 : decode kc_Pk_indexOnTape 51 = .ok (.iconst 1, 1) := by decide +kernel
theorem kd_Pk_indexOnTape_52 : decode kc_Pk_indexOnTape 52 = .ok (.goto 4, 3) := by decide +kernel
theorem kd_Pk_indexOnTape_55 : decode kc_Pk_indexOnTape 55 = .ok (.iconst 0, 1) := by decide +kernel
theorem kd_Pk_indexOnTape_56 : decode kc_Pk_indexOnTape 56 = .ok (.istore 4, 2) := by decide +kernel
theorem kd_Pk_indexOnTape_58 : decode kc_Pk_indexOnTape 58 = .ok (.iload 4, 2) := by decide +kernel
theorem kd_Pk_indexOnTape_60 : decode kc_Pk_indexOnTape 60 = .ok (.ifCond .eq 9, 3) := by decide +kernel
theorem kd_Pk_indexOnTape_63 : decode kc_Pk_indexOnTape 63 = .ok (.iload_n 2, 1) := by decide +kernel
theorem kd_Pk_indexOnTape_64 : decode kc_Pk_indexOnTape 64 = .ok (.iconst 2, 1) := by decide +kernel
theorem kd_Pk_indexOnTape_65 : decode kc_Pk_indexOnTape 65 = .ok (.iadd, 1) := by decide +kernel
theorem kd_Pk_indexOnTape_66 : decode kc_Pk_indexOnTape 66 = .ok (.goto 6, 3) := by decide +kernel
theorem kd_Pk_indexOnTape_69 : decode kc_Pk_indexOnTape 69 = .ok (.iload_n 2, 1) := by decide +kernel
theorem kd_Pk_indexOnTape_70 : decode kc_Pk_indexOnTape 70 = .ok (.iconst 1, 1) := by decide +kernel
theorem kd_Pk_indexOnTape_71 : decode kc_Pk_indexOnTape 71 = .ok (.iadd, 1) := by decide +kernel
theorem kd_Pk_indexOnTape_72 : decode kc_Pk_indexOnTape 72 = .ok (.istore 5, 2) := by decide +kernel
theorem kd_Pk_indexOnTape_74 : decode kc_Pk_indexOnTape 74 = .ok (.iload 5, 2) := by decide +kernel
theorem kd_Pk_indexOnTape_76 : decode kc_Pk_indexOnTape 76 = .ok (.iload_n 3, 1) := by decide +kernel
theorem kd_Pk_indexOnTape_77 : decode kc_Pk_indexOnTape 77 = .ok (.iconst 1, 1) := by decide +kernel
theorem kd_Pk_indexOnTape_78 : decode kc_Pk_indexOnTape 78 = .ok (.isub, 1) := by decide +kernel
theorem kd_Pk_indexOnTape_79 : decode kc_Pk_indexOnTape 79 = .ok (.if_icmp .lt 5, 3) := by decide +kernel
theorem kd_Pk_indexOnTape_82 : decode kc_Pk_indexOnTape 82 = .ok (.iconst (-1), 1) := by decide +kernel
theorem kd_Pk_indexOnTape_83 : decode kc_Pk_indexOnTape 83 = .ok (.ireturn, 1) := by decide +kernel
theorem kd_Pk_indexOnTape_84 : decode kc_Pk_indexOnTape 84 = .ok (.lconst 0, 1) := by decide +kernel
theorem kd_Pk_indexOnTape_85 : decode kc_Pk_indexOnTape 85 = .ok (.lstore 6, 2) := by decide +kernel
theorem kd_Pk_indexOnTape_87 : decode kc_Pk_indexOnTape 87 = .ok (.iload 5, 2) := by decide +kernel
theorem kd_Pk_indexOnTape_89 : decode kc_Pk_indexOnTape 89 = .ok (.istore 8, 2) := by decide +kernel
theorem kd_Pk_indexOnTape_91 : decode kc_Pk_indexOnTape 91 = .ok (.iload 8, 2) := by decide +kernel
theorem kd_Pk_indexOnTape_93 : decode kc_Pk_indexOnTape 93 = .ok (.iload_n 3, 1) := by decide +kernel
theorem kd_Pk_indexOnTape_94 : decode kc_Pk_indexOnTape 94 = .ok (.iconst 1, 1) := by decide +kernel
theorem kd_Pk_indexOnTape_95 : decode kc_Pk_indexOnTape 95 = .ok (.isub, 1) := by decide +kernel
theorem kd_Pk_indexOnTape_96 : decode kc_Pk_indexOnTape 96 = .ok (.if_icmp .ge 62, 3) := by decide +kernel
theorem kd_Pk_indexOnTape_99 : decode kc_Pk_indexOnTape 99 = .ok (.aload_n 0, 1) := by decide +kernel
theorem kd_Pk_indexOnTape_100 : decode kc_Pk_indexOnTape 100 = .ok (.getfield 9, 3) := by decide +kernel
theorem kd_Pk_indexOnTape_103 : decode kc_Pk_indexOnTape 103 = .ok (.iload 8, 2) := by decide +kernel
theorem kd_Pk_indexOnTape_105 : decode kc_Pk_indexOnTape 105 = .ok (.baload, 1) := by decide +kernel
theorem kd_Pk_indexOnTape_106 : decode kc_Pk_indexOnTape 106 = .ok (.bipush 48, 2) := by decide +kernel
theorem kd_Pk_indexOnTape_108 : decode kc_Pk_indexOnTape 108 = .ok (.if_icmp .lt 15, 3) := by decide +kernel
theorem kd_Pk_indexOnTape_111 : decode kc_Pk_indexOnTape 111 = .ok (.aload_n 0, 1) := by decide +kernel
theorem kd_Pk_indexOnTape_112 : decode kc_Pk_indexOnTape 112 = .ok (.getfield 9, 3) := by decide +kernel
theorem kd_Pk_indexOnTape_115 : decode kc_Pk_indexOnTape 115 = .ok (.iload 8, 2) := by decide +kernel
theorem kd_Pk_indexOnTape_117 : decode kc_Pk_indexOnTape 117 = .ok (.baload, 1) := by decide +kernel
theorem kd_Pk_indexOnTape_118 : decode kc_Pk_indexOnTape 118 = .ok (.bipush 57, 2) := by decide +kernel
theorem kd_Pk_indexOnTape_120 : decode kc_Pk_indexOnTape 120 = .ok (.if_icmp .le 5, 3) := by decide +kernel
theorem kd_Pk_indexOnTape_123 : decode kc_Pk_indexOnTape 123 = .ok (.iconst (-1), 1) := by decide +kernel
theorem kd_Pk_indexOnTape_124 : decode kc_Pk_indexOnTape 124 = .ok (.ireturn, 1) := by decide +kernel
theorem kd_Pk_indexOnTape_125 : decode kc_Pk_indexOnTape 125 = .ok (.lload 6, 2) := by decide +kernel
theorem kd_Pk_indexOnTape_127 : decode kc_Pk_indexOnTape 127 = .ok (.ldc2_w 232, 3) := by decide +kernel
theorem kd_Pk_indexOnTape_130 : decode kc_Pk_indexOnTape 130 = .ok (.lmul, 1) := by decide +kernel
theorem kd_Pk_indexOnTape_131 : decode kc_Pk_indexOnTape 131 = .ok (.aload_n 0, 1) := by decide +kernel
theorem kd_Pk_indexOnTape_132 : decode kc_Pk_indexOnTape 132 = .ok (.getfield 9, 3) := by decide +kernel
theorem kd_Pk_indexOnTape_135 : decode kc_Pk_indexOnTape 135 = .ok (.iload 8, 2) := by decide +kernel
theorem kd_Pk_indexOnTape_137 : decode kc_Pk_indexOnTape 137 = .ok (.baload, 1) := by decide +kernel
theorem kd_Pk_indexOnTape_138 : decode kc_Pk_indexOnTape 138 = .ok (.i2l, 1) := by decide +kernel
theorem kd_Pk_indexOnTape_139 : decode kc_Pk_indexOnTape 139 = .ok (.ladd, 1) := by decide +kernel
theorem kd_Pk_indexOnTape_140 : decode kc_Pk_indexOnTape 140 = .ok (.ldc2_w 234, 3) := by decide +kernel
theorem kd_Pk_indexOnTape_143 : decode kc_Pk_indexOnTape 143 = .ok (.lsub, 1) := by decide +kernel
theorem kd_Pk_indexOnTape_144 : decode kc_Pk_indexOnTape 144 = .ok (.ldc2_w 236, 3) := by decide +kernel
theorem kd_Pk_indexOnTape_147 : decode kc_Pk_indexOnTape 147 = .ok (.invokestatic 238, 3) := by decide +kernel
theorem kd_Pk_indexOnTape_150 : decode kc_Pk_indexOnTape 150 = .ok (.lstore 6, 2) := by decide +kernel
theorem kd_Pk_indexOnTape_152 : decode kc_Pk_indexOnTape 152 = .ok (.iinc 8 1, 3) := by decide +kernel
theorem kd_Pk_indexOnTape_155 : decode kc_Pk_indexOnTape 155 = .ok (.goto (-64), 3) := by decide +kernel
theorem kd_Pk_indexOnTape_158 : decode kc_Pk_indexOnTape 158 = .ok (.iload 4, 2) := by decide +kernel
theorem kd_Pk_indexOnTape_160 : decode kc_Pk_indexOnTape 160 = .ok (.ifCond .eq 9, 3) := by decide +kernel
theorem kd_Pk_indexOnTape_163 : decode kc_Pk_indexOnTape 163 = .ok (.lload 6, 2) := by decide +kernel
theorem kd_Pk_indexOnTape_165 : decode kc_Pk_indexOnTape 165 = .ok (.lneg, 1) := by decide +kernel
theorem kd_Pk_indexOnTape_166 : decode kc_Pk_indexOnTape 166 = .ok (.goto 5, 3) := by decide +kernel
theorem kd_Pk_indexOnTape_169 : decode kc_Pk_indexOnTape 169 = .ok (.lload 6, 2) := by decide +kernel
theorem kd_Pk_indexOnTape_171 : decode kc_Pk_indexOnTape 171 = .ok (.aload_n 0, 1) := by decide +kernel
theorem kd_Pk_indexOnTape_172 : decode kc_Pk_indexOnTape 172 = .ok (.getfield 52, 3) := by decide +kernel
theorem kd_Pk_indexOnTape_175 : decode kc_Pk_indexOnTape 175 = .ok (.getfield 244, 3) := by decide +kernel
theorem kd_Pk_indexOnTape_178 : decode kc_Pk_indexOnTape 178 = .ok (.iload_n 1, 1) := by decide +kernel
theorem kd_Pk_indexOnTape_179 : decode kc_Pk_indexOnTape 179 = .ok (.iaload, 1) := by decide +kernel
theorem kd_Pk_indexOnTape_180 : decode kc_Pk_indexOnTape 180 = .ok (.i2l, 1) := by decide +kernel
theorem kd_Pk_indexOnTape_181 : decode kc_Pk_indexOnTape 181 = .ok (.lsub, 1) := by decide +kernel
theorem kd_Pk_indexOnTape_182 : decode kc_Pk_indexOnTape 182 = .ok (.lstore 8, 2) := by decide +kernel
theorem kd_Pk_indexOnTape_184 : decode kc_Pk_indexOnTape 184 = .ok (.lload 8, 2) := by decide +kernel
theorem kd_Pk_indexOnTape_186 : decode kc_Pk_indexOnTape 186 = .ok (.lconst 0, 1) := by decide +kernel
theorem kd_Pk_indexOnTape_187 : decode kc_Pk_indexOnTape 187 = .ok (.lcmp, 1) := by decide +kernel
theorem kd_Pk_indexOnTape_188 : decode kc_Pk_indexOnTape 188 = .ok (.ifCond .lt 25, 3) := by decide +kernel
theorem kd_Pk_indexOnTape_191 : decode kc_Pk_indexOnTape 191 = .ok (.lload 8, 2) := by decide +kernel
theorem kd_Pk_indexOnTape_193 : decode kc_Pk_indexOnTape 193 = .ok (.aload_n 0, 1) := by decide +kernel
theorem kd_Pk_indexOnTape_194 : decode kc_Pk_indexOnTape 194 = .ok (.getfield 52, 3) := by decide +kernel
theorem kd_Pk_indexOnTape_197 : decode kc_Pk_indexOnTape 197 = .ok (.getfield 247, 3) := by decide +kernel
theorem kd_Pk_indexOnTape_200 : decode kc_Pk_indexOnTape 200 = .ok (.iload_n 1, 1) := by decide +kernel
theorem kd_Pk_indexOnTape_201 : decode kc_Pk_indexOnTape 201 = .ok (.iaload, 1) := by decide +kernel
theorem kd_Pk_indexOnTape_202 : decode kc_Pk_indexOnTape 202 = .ok (.i2l, 1) := by decide +kernel
theorem kd_Pk_indexOnTape_203 : decode kc_Pk_indexOnTape 203 = .ok (.lcmp, 1) := by decide +kernel
theorem kd_Pk_indexOnTape_204 : decode kc_Pk_indexOnTape 204 = .ok (.ifCond .ge 9, 3) := by decide +kernel
theorem kd_Pk_indexOnTape_207 : decode kc_Pk_indexOnTape 207 = .ok (.lload 8, 2) := by decide +kernel
theorem kd_Pk_indexOnTape_209 : decode kc_Pk_indexOnTape 209 = .ok (.l2i, 1) := by decide +kernel
theorem kd_Pk_indexOnTape_210 : decode kc_Pk_indexOnTape 210 = .ok (.goto 4, 3) := by decide +kernel
theorem kd_Pk_indexOnTape_213 : decode kc_Pk_indexOnTape 213 = .ok (.iconst (-1), 1) := by decide +kernel
theorem kd_Pk_indexOnTape_214 : decode kc_Pk_indexOnTape 214 = .ok (.ireturn, 1) := by decide +kernel
theorem kd_Pk_nameEnd_0 : decode kc_Pk_nameEnd 0 = .ok (.iload_n 1, 1) := by decide +kernel
theorem kd_Pk_nameEnd_1 : decode kc_Pk_nameEnd 1 = .ok (.istore_n 3, 1) := by decide +kernel
theorem kd_Pk_nameEnd_2 : decode kc_Pk_nameEnd 2 = .ok (.iload_n 3, 1) := by decide +kernel
theorem kd_Pk_nameEnd_3 : decode kc_Pk_nameEnd 3 = .ok (.iload_n 2, 1) := by decide +kernel
theorem kd_Pk_nameEnd_4 : decode kc_Pk_nameEnd 4 = .ok (.if_icmp .ge 21, 3) := by decide +kernel
theorem kd_Pk_nameEnd_7 : decode kc_Pk_nameEnd 7 = .ok (.aload_n 0, 1) := by decide +kernel
theorem kd_Pk_nameEnd_8 : decode kc_Pk_nameEnd 8 = .ok (.getfield 9, 3) := by decide +kernel
theorem kd_Pk_nameEnd_11 : decode kc_Pk_nameEnd 11 = .ok (.iload_n 3, 1) := by decide +kernel
theorem kd_Pk_nameEnd_12 : decode kc_Pk_nameEnd 12 = .ok (.baload, 1) := by decide +kernel
theorem kd_Pk_nameEnd_13 : decode kc_Pk_nameEnd 13 = .ok (.invokestatic 228, 3) := by decide +kernel
theorem kd_Pk_nameEnd_16 : decode kc_Pk_nameEnd 16 = .ok (.ifCond .eq 9, 3) := by decide +kernel
theorem kd_Pk_nameEnd_19 : decode kc_Pk_nameEnd 19 = .ok (.iinc 3 1, 3) := by decide +kernel
theorem kd_Pk_nameEnd_22 : decode kc_Pk_nameEnd 22 = .ok (.goto (-20), 3) := by decide +kernel
theorem kd_Pk_nameEnd_25 : decode kc_Pk_nameEnd 25 = .ok (.iload_n 3, 1) := by decide +kernel
theorem kd_Pk_nameEnd_26 : decode kc_Pk_nameEnd 26 = .ok (.ireturn, 1) := by decide +kernel
theorem kd_Pk_show_0 : decode kc_Pk_show 0 = .ok (.aload_n 0, 1) := by decide +kernel
theorem kd_Pk_show_1 : decode kc_Pk_show 1 = .ok (.aload_n 0, 1) := by decide +kernel
theorem kd_Pk_show_2 : decode kc_Pk_show 2 = .ok (.getfield 95, 3) := by decide +kernel
theorem kd_Pk_show_5 : decode kc_Pk_show 5 = .ok (.iload_n 2, 1) := by decide +kernel
theorem kd_Pk_show_6 : decode kc_Pk_show 6 = .ok (.invokevirtual 250, 3) := by decide +kernel
theorem kd_Pk_show_9 : decode kc_Pk_show 9 = .ok (.putfield 253, 3) := by decide +kernel
theorem kd_Pk_show_12 : decode kc_Pk_show 12 = .ok (.aload_n 0, 1) := by decide +kernel
theorem kd_Pk_show_13 : decode kc_Pk_show 13 = .ok (.getfield 52, 3) := by decide +kernel
theorem kd_Pk_show_16 : decode kc_Pk_show 16 = .ok (.getfield 256, 3) := by decide +kernel
theorem kd_Pk_show_19 : decode kc_Pk_show 19 = .ok (.iload_n 1, 1) := by decide +kernel
theorem kd_Pk_show_20 : decode kc_Pk_show 20 = .ok (.iaload, 1) := by decide +kernel
theorem kd_Pk_show_21 : decode kc_Pk_show 21 = .ok (.ireturn, 1) := by decide +kernel
theorem kd_Pk_watch_0 : decode kc_Pk_watch 0 = .ok (.aload_n 0, 1) := by decide +kernel
theorem kd_Pk_watch_1 : decode kc_Pk_watch 1 = .ok (.getfield 108, 3) := by decide +kernel
theorem kd_Pk_watch_4 : decode kc_Pk_watch 4 = .ok (.istore_n 1, 1) := by decide +kernel
theorem kd_Pk_watch_5 : decode kc_Pk_watch 5 = .ok (.aload_n 0, 1) := by decide +kernel
theorem kd_Pk_watch_6 : decode kc_Pk_watch 6 = .ok (.iconst 0, 1) := by decide +kernel
theorem kd_Pk_watch_7 : decode kc_Pk_watch 7 = .ok (.putfield 108, 3) := by decide +kernel
theorem kd_Pk_watch_10 : decode kc_Pk_watch 10 = .ok (.aload_n 0, 1) := by decide +kernel
theorem kd_Pk_watch_11 : decode kc_Pk_watch 11 = .ok (.getfield 95, 3) := by decide +kernel
theorem kd_Pk_watch_14 : decode kc_Pk_watch 14 = .ok (.getfield 169, 3) := by decide +kernel
theorem kd_Pk_watch_17 : decode kc_Pk_watch 17 = .ok (.ifCond .ne 6, 3) := by decide +kernel
theorem kd_Pk_watch_20 : decode kc_Pk_watch 20 = .ok (.bipush (-5), 2) := by decide +kernel
theorem kd_Pk_watch_22 : decode kc_Pk_watch 22 = .ok (.ireturn, 1) := by decide +kernel
theorem kd_Pk_watch_23 : decode kc_Pk_watch 23 = .ok (.aload_n 0, 1) := by decide +kernel
theorem kd_Pk_watch_24 : decode kc_Pk_watch 24 = .ok (.iload_n 1, 1) := by decide +kernel
theorem kd_Pk_watch_25 : decode kc_Pk_watch 25 = .ok (.invokevirtual 203, 3) := by decide +kernel
theorem kd_Pk_watch_28 : decode kc_Pk_watch 28 = .ok (.ireturn, 1) := by decide +kernel
theorem kd_Pk_watched_0 : decode kc_Pk_watched 0 = .ok (.aload_n 0, 1) := by decide +kernel
theorem kd_Pk_watched_1 : decode kc_Pk_watched 1 = .ok (.getfield 253, 3) := by decide +kernel
theorem kd_Pk_watched_4 : decode kc_Pk_watched 4 = .ok (.ireturn, 1) := by decide +kernel
theorem kd_Pl_variableOf_0 : decode kc_Pl_variableOf 0 = .ok (.aload_n 0, 1) := by decide +kernel
theorem kd_Pl_variableOf_1 : decode kc_Pl_variableOf 1 = .ok (.getfield 18, 3) := by decide +kernel
theorem kd_Pl_variableOf_4 : decode kc_Pl_variableOf 4 = .ok (.iload_n 1, 1) := by decide +kernel
theorem kd_Pl_variableOf_5 : decode kc_Pl_variableOf 5 = .ok (.iaload, 1) := by decide +kernel
theorem kd_Pl_variableOf_6 : decode kc_Pl_variableOf 6 = .ok (.istore_n 3, 1) := by decide +kernel
theorem kd_Pl_variableOf_7 : decode kc_Pl_variableOf 7 = .ok (.iload_n 3, 1) := by decide +kernel
theorem kd_Pl_variableOf_8 : decode kc_Pl_variableOf 8 = .ok (.aload_n 0, 1) := by decide +kernel
theorem kd_Pl_variableOf_9 : decode kc_Pl_variableOf 9 = .ok (.getfield 21, 3) := by decide +kernel
theorem kd_Pl_variableOf_12 : decode kc_Pl_variableOf 12 = .ok (.iload_n 1, 1) := by decide +kernel
theorem kd_Pl_variableOf_13 : decode kc_Pl_variableOf 13 = .ok (.iaload, 1) := by decide +kernel
theorem kd_Pl_variableOf_14 : decode kc_Pl_variableOf 14 = .ok (.if_icmp .ge 21, 3) := by decide +kernel
theorem kd_Pl_variableOf_17 : decode kc_Pl_variableOf 17 = .ok (.aload_n 0, 1) := by decide +kernel
theorem kd_Pl_variableOf_18 : decode kc_Pl_variableOf 18 = .ok (.getfield 33, 3) := by decide +kernel
theorem kd_Pl_variableOf_21 : decode kc_Pl_variableOf 21 = .ok (.iload_n 3, 1) := by decide +kernel
theorem kd_Pl_variableOf_22 : decode kc_Pl_variableOf 22 = .ok (.iaload, 1) := by decide +kernel
theorem kd_Pl_variableOf_23 : decode kc_Pl_variableOf 23 = .ok (.iload_n 2, 1) := by decide +kernel
theorem kd_Pl_variableOf_24 : decode kc_Pl_variableOf 24 = .ok (.if_icmp .ne 5, 3) := by decide +kernel
theorem kd_Pl_variableOf_27 : decode kc_Pl_variableOf 27 = .ok (.iload_n 3, 1) := by decide +kernel
theorem kd_Pl_variableOf_28 : decode kc_Pl_variableOf 28 = .ok (.ireturn, 1) := by decide +kernel
theorem kd_Pl_variableOf_29 : decode kc_Pl_variableOf 29 = .ok (.iinc 3 1, 3) := by decide +kernel
theorem kd_Pl_variableOf_32 : decode kc_Pl_variableOf 32 = .ok (.goto (-25), 3) := by decide +kernel
theorem kd_Pl_variableOf_35 : decode kc_Pl_variableOf 35 = .ok (.iconst (-1), 1) := by decide +kernel
theorem kd_Pl_variableOf_36 : decode kc_Pl_variableOf 36 = .ok (.ireturn, 1) := by decide +kernel
set_option maxHeartbeats 4000000 in
set_option maxRecDepth 100000 in
theorem zb_Ln_answer_c1_204 {X : zkj_T} {S : zs_T} {P : ze_T} {l : Launch} {D : va_G} {sz0 : Nat} {rv : Int32} {rh : zs_H} (C : zk_C X km_Ln_answer (zs_G S l D sz0) { frames := 4, cells := 0, slots := 0, locals := 95 } (ze_E P)) (hR : zkj_R X (zd_PI S rv rh) (some .int)) (h : zs_H) (e : f_Ln_answer_c1_204 h = some (rv, rh)) : zk_Ab X (zs_W S h) 0 0 204 [(0, .ref (S.1 66))] [] := by
  unfold f_Ln_answer_c1_204 at e
  refine zk_aload_n C kd_Ln_answer_204 rfl 0 rfl rfl ?_
  refine zs_get (v := .int (h.1 66 1)) C 66 1 rfl rfl rfl rfl ki_Ln (by decide) kw599 kd_Ln_answer_205 rfl ?_
  exact zk_iret C hR kd_Ln_answer_208 rfl rfl (zd_rIS e)
set_option maxHeartbeats 4000000 in
set_option maxRecDepth 100000 in
theorem zb_Ln_answer_c1_176 {X : zkj_T} {S : zs_T} {P : ze_T} {l : Launch} {D : va_G} {sz0 : Nat} {rv : Int32} {rh : zs_H} (C : zk_C X km_Ln_answer (zs_G S l D sz0) { frames := 4, cells := 0, slots := 0, locals := 95 } (ze_E P)) (hR : zkj_R X (zd_PI S rv rh) (some .int)) (h : zs_H) (e : f_Ln_answer_c1_176 h = some (rv, rh)) : zk_Ab X (zs_W S h) 0 0 176 [(0, .ref (S.1 66))] [] := by
  unfold f_Ln_answer_c1_176 at e
  refine zk_aload_n C kd_Ln_answer_176 rfl 0 rfl rfl ?_
  refine zs_get (v := .ref (S.1 67)) C 66 0 rfl rfl rfl rfl ki_Ln (by decide) kw597 kd_Ln_answer_177 rfl ?_
  refine zk_aload_n C kd_Ln_answer_180 rfl 0 rfl rfl ?_
  refine zs_get (v := .int (h.1 66 1)) C 66 1 rfl rfl rfl rfl ki_Ln (by decide) kw599 kd_Ln_answer_181 rfl ?_
  obtain ⟨v2, c1, e⟩ := zd_b e
  refine zk_callS (rn := { frames := 0, cells := 0, slots := 0, locals := 0 }) (As := [.ref (S.1 67), .int (h.1 66 1)]) (rest := []) C (zc_Ln_checkSum_c67 h (h.1 66 1) c1) ku_Ln_checkSum kw1611 ks_Ln_checkSum rfl ⟨by decide, by decide⟩ ⟨by decide, by decide⟩ rfl (Nat.le_of_ble_eq_true rfl) kd_Ln_answer_184 rfl (c1 := 0) (s1 := 0) rfl rfl (fun v w hp => ?_)
  obtain ⟨rfl, rfl⟩ := hp
  refine zk_stk (r' := [.int v2]) rfl ?_
  refine zk_istore (lv' := [(7, _), (0, _)]) C kd_Ln_answer_187 (by decide) rfl rfl ?_
  refine zk_aload_n C kd_Ln_answer_189 rfl 1 rfl rfl ?_
  refine zk_iload C kd_Ln_answer_190 0 rfl rfl ?_
  obtain ⟨h4, c3, e⟩ := zd_b e
  refine zs_callV (k := 66) (rn := { frames := 0, cells := 0, slots := 0, locals := 0 }) (As := [.int v2]) (rest := []) C (zc_Ln_send h v2 c3) ku_Ln_send kw1641 kv_Ln_send rfl ⟨by decide, by decide⟩ ⟨by decide, by decide⟩ rfl rfl rfl (Nat.le_of_ble_eq_true rfl) kd_Ln_answer_192 rfl (c1 := 0) (s1 := 0) rfl rfl (fun v w hp => ?_)
  obtain ⟨rfl, rfl⟩ := hp
  refine zk_stk (r' := []) rfl ?_
  refine zk_aload_n C kd_Ln_answer_195 rfl 1 rfl rfl ?_
  refine zk_iload C kd_Ln_answer_196 0 rfl rfl ?_
  refine zk_bipush (v := 8) C kd_Ln_answer_198 (by decide) rfl ?_
  refine zk_ishr C kd_Ln_answer_200 rfl ?_
  obtain ⟨h6, c5, e⟩ := zd_b e
  refine zs_callV (k := 66) (rn := { frames := 0, cells := 0, slots := 0, locals := 0 }) (As := [.int (v2 >>> ((8 : Int32) &&& 31))]) (rest := []) C (zc_Ln_send h4 (v2 >>> ((8 : Int32) &&& 31)) c5) ku_Ln_send kw1641 kv_Ln_send rfl ⟨by decide, by decide⟩ ⟨by decide, by decide⟩ rfl rfl rfl (Nat.le_of_ble_eq_true rfl) kd_Ln_answer_201 rfl (c1 := 0) (s1 := 0) rfl rfl (fun v w hp => ?_)
  obtain ⟨rfl, rfl⟩ := hp
  refine zk_stk (r' := []) rfl ?_
  refine zk_lvs (lv' := [(0, .ref (S.1 66))]) [1] rfl ?_
  exact zb_Ln_answer_c1_204 C hR h6 e
set_option maxHeartbeats 4000000 in
set_option maxRecDepth 100000 in
theorem zb_Ln_answer_c1_135 {X : zkj_T} {S : zs_T} {P : ze_T} {l : Launch} {D : va_G} {sz0 : Nat} {rv : Int32} {rh : zs_H} (C : zk_C X km_Ln_answer (zs_G S l D sz0) { frames := 4, cells := 0, slots := 0, locals := 95 } (ze_E P)) (hR : zkj_R X (zd_PI S rv rh) (some .int)) (h : zs_H) (x4 : Int32) (x5 : Int32) (x6 : Int32) (e : f_Ln_answer_c1_135 h x4 x5 x6 = some (rv, rh)) : zk_Ab X (zs_W S h) 0 0 135 [(0, .ref (S.1 66)), (4, .int x4), (5, .int x5), (6, .int x6)] [] := by
  unfold f_Ln_answer_c1_135 at e
  refine zk_iload C kd_Ln_answer_135 1 rfl rfl ?_
  refine zk_if_eq (tgt := 204) C kd_Ln_answer_137 (by decide) rfl (fun b1 => ?_) (fun b1 => ?_)
  · replace e := zd_pos b1 e
    refine zk_lvs (lv' := [(0, .ref (S.1 66))]) [0] rfl ?_
    exact zb_Ln_answer_c1_204 C hR h e
  · replace e := zd_neg b1 e
    refine zk_aload_n C kd_Ln_answer_140 rfl 0 rfl rfl ?_
    refine zk_iload C kd_Ln_answer_141 1 rfl rfl ?_
    obtain ⟨h3, c2, e⟩ := zd_b e
    refine zs_callV (k := 66) (rn := { frames := 0, cells := 0, slots := 0, locals := 0 }) (As := [.int x4]) (rest := []) C (zc_Ln_send h x4 c2) ku_Ln_send kw1641 kv_Ln_send rfl ⟨by decide, by decide⟩ ⟨by decide, by decide⟩ rfl rfl rfl (Nat.le_of_ble_eq_true rfl) kd_Ln_answer_143 rfl (c1 := 0) (s1 := 0) rfl rfl (fun v w hp => ?_)
    obtain ⟨rfl, rfl⟩ := hp
    refine zk_stk (r' := []) rfl ?_
    refine zk_iload C kd_Ln_answer_146 3 rfl rfl ?_
    refine zk_if_ne (tgt := 160) C kd_Ln_answer_148 (by decide) rfl (fun b4 => ?_) (fun b4 => ?_)
    · replace e := zd_neg b4 e
      refine zk_aload_n C kd_Ln_answer_160 rfl 0 rfl rfl ?_
      refine zk_iload C kd_Ln_answer_161 2 rfl rfl ?_
      refine zk_sipush (v := 128) C kd_Ln_answer_163 (by decide) rfl ?_
      refine zk_ior C kd_Ln_answer_166 rfl ?_
      obtain ⟨h6, c5, e⟩ := zd_b e
      refine zs_callV (k := 66) (rn := { frames := 0, cells := 0, slots := 0, locals := 0 }) (As := [.int (x5 ||| 128)]) (rest := []) C (zc_Ln_send h3 (x5 ||| 128) c5) ku_Ln_send kw1641 kv_Ln_send rfl ⟨by decide, by decide⟩ ⟨by decide, by decide⟩ rfl rfl rfl (Nat.le_of_ble_eq_true rfl) kd_Ln_answer_167 rfl (c1 := 0) (s1 := 0) rfl rfl (fun v w hp => ?_)
      obtain ⟨rfl, rfl⟩ := hp
      refine zk_stk (r' := []) rfl ?_
      refine zk_aload_n C kd_Ln_answer_170 rfl 0 rfl rfl ?_
      refine zk_iload C kd_Ln_answer_171 3 rfl rfl ?_
      obtain ⟨h8, c7, e⟩ := zd_b e
      refine zs_callV (k := 66) (rn := { frames := 0, cells := 0, slots := 0, locals := 0 }) (As := [.int x6]) (rest := []) C (zc_Ln_send h6 x6 c7) ku_Ln_send kw1641 kv_Ln_send rfl ⟨by decide, by decide⟩ ⟨by decide, by decide⟩ rfl rfl rfl (Nat.le_of_ble_eq_true rfl) kd_Ln_answer_173 rfl (c1 := 0) (s1 := 0) rfl rfl (fun v w hp => ?_)
      obtain ⟨rfl, rfl⟩ := hp
      refine zk_stk (r' := []) rfl ?_
      refine zk_lvs (lv' := [(0, .ref (S.1 66))]) [0] rfl ?_
      exact zb_Ln_answer_c1_176 C hR h8 e
    · replace e := zd_pos b4 e
      refine zk_aload_n C kd_Ln_answer_151 rfl 0 rfl rfl ?_
      refine zk_iload C kd_Ln_answer_152 2 rfl rfl ?_
      obtain ⟨h10, c9, e⟩ := zd_b e
      refine zs_callV (k := 66) (rn := { frames := 3, cells := 0, slots := 0, locals := 70 }) (As := [.int x5]) (rest := []) C (zc_Ln_reply h3 x5 c9) ku_Ln_reply kw1645 kv_Ln_reply rfl ⟨by decide, by decide⟩ ⟨by decide, by decide⟩ rfl rfl rfl (Nat.le_of_ble_eq_true rfl) kd_Ln_answer_154 rfl (c1 := 0) (s1 := 0) rfl rfl (fun v w hp => ?_)
      obtain ⟨rfl, rfl⟩ := hp
      refine zk_stk (r' := []) rfl ?_
      refine zk_goto (tgt := 176) C kd_Ln_answer_157 (by decide) ?_
      refine zk_lvs (lv' := [(0, .ref (S.1 66))]) [0] rfl ?_
      exact zb_Ln_answer_c1_176 C hR h10 e
set_option maxHeartbeats 4000000 in
set_option maxRecDepth 100000 in
theorem zb_Ln_answer_c1_95 {X : zkj_T} {S : zs_T} {P : ze_T} {l : Launch} {D : va_G} {sz0 : Nat} {rv : Int32} {rh : zs_H} (C : zk_C X km_Ln_answer (zs_G S l D sz0) { frames := 4, cells := 0, slots := 0, locals := 95 } (ze_E P)) (hR : zkj_R X (zd_PI S rv rh) (some .int)) (h : zs_H) (x2 : Int32) (x4 : Int32) (e : f_Ln_answer_c1_95 h x2 x4 = some (rv, rh)) : zk_Ab X (zs_W S h) 0 0 95 [(0, .ref (S.1 66)), (1, .ref (S.1 1)), (2, .int x2), (4, .int x4)] [] := by
  unfold f_Ln_answer_c1_95 at e
  refine zk_aload_n C kd_Ln_answer_95 rfl 0 rfl rfl ?_
  refine zk_aload_n C kd_Ln_answer_96 rfl 1 rfl rfl ?_
  refine zs_put (ty := .array .byte) C 66 4 1 rfl rfl rfl rfl ki_Ln ky_Ln ko_Ln kn_Ln (by decide) kw604 rfl rfl rfl rfl (by decide) kd_Ln_answer_97 rfl ?_
  refine zk_aload_n C kd_Ln_answer_100 rfl 0 rfl rfl ?_
  refine zk_iload_n C kd_Ln_answer_101 rfl 2 rfl rfl ?_
  refine zk_iconst (v := 4) C kd_Ln_answer_102 (by decide) rfl ?_
  refine zk_isub C kd_Ln_answer_103 rfl ?_
  refine zs_put (ty := .int) C 66 5 (x2 - 4) rfl rfl rfl rfl ki_Ln ky_Ln ko_Ln kn_Ln (by decide) kw605 rfl rfl rfl rfl (by decide) kd_Ln_answer_104 rfl ?_
  refine zk_aload_n C kd_Ln_answer_107 rfl 1 rfl rfl ?_
  refine zk_iconst (v := 1) C kd_Ln_answer_108 (by decide) rfl ?_
  refine zs_bald C 1 rfl (zp_dec rfl) kd_Ln_answer_109 rfl ?_
  refine zk_stk (r' := [.int (h.2.1 1 1)]) rfl ?_
  refine zk_sipush (v := 255) C kd_Ln_answer_110 (by decide) rfl ?_
  refine zk_iand C kd_Ln_answer_113 rfl ?_
  refine zk_istore (lv' := [(5, _), (0, _), (1, _), (2, _), (4, _)]) C kd_Ln_answer_114 (by decide) rfl rfl ?_
  refine zk_aload_n C kd_Ln_answer_116 rfl 1 rfl rfl ?_
  refine zk_iload C kd_Ln_answer_117 0 rfl rfl ?_
  obtain ⟨v2, c1, e⟩ := zd_b e
  refine zs_callV (k := 66) (rn := { frames := 2, cells := 0, slots := 0, locals := 43 }) (As := [.int ((h.2.1 1 1) &&& 255)]) (rest := []) C (zc_Ln_refusal (zs_uF (zs_uF h 66 4 1) 66 5 (x2 - 4)) ((h.2.1 1 1) &&& 255) c1) ku_Ln_refusal kw1616 kv_Ln_refusal rfl ⟨by decide, by decide⟩ ⟨by decide, by decide⟩ rfl rfl rfl (Nat.le_of_ble_eq_true rfl) kd_Ln_answer_119 rfl (c1 := 0) (s1 := 0) rfl rfl (fun v w hp => ?_)
  obtain ⟨rfl, rfl⟩ := hp
  refine zk_stk (r' := [.int v2]) rfl ?_
  refine zk_istore (lv' := [(6, _), (5, _), (0, _), (1, _), (2, _), (4, _)]) C kd_Ln_answer_122 (by decide) rfl rfl ?_
  refine zk_iload C kd_Ln_answer_124 0 rfl rfl ?_
  refine zk_if_ne (tgt := 135) C kd_Ln_answer_126 (by decide) rfl (fun b3 => ?_) (fun b3 => ?_)
  · replace e := zd_neg b3 e
    refine zk_lvs (lv' := [(0, .ref (S.1 66)), (4, .int x4), (5, .int ((h.2.1 1 1) &&& 255)), (6, .int v2)]) [2, 5, 1, 0] rfl ?_
    exact zb_Ln_answer_c1_135 C hR (zs_uF (zs_uF h 66 4 1) 66 5 (x2 - 4)) x4 ((h.2.1 1 1) &&& 255) v2 e
  · replace e := zd_pos b3 e
    refine zk_aload_n C kd_Ln_answer_129 rfl 2 rfl rfl ?_
    refine zk_iload C kd_Ln_answer_130 1 rfl rfl ?_
    obtain ⟨h5, c4, e⟩ := zd_b e
    refine zs_callV (k := 66) (rn := { frames := 2, cells := 0, slots := 0, locals := 42 }) (As := [.int ((h.2.1 1 1) &&& 255)]) (rest := []) C (zc_Ln_write (zs_uF (zs_uF h 66 4 1) 66 5 (x2 - 4)) ((h.2.1 1 1) &&& 255) c4) ku_Ln_write kw1636 kv_Ln_write rfl ⟨by decide, by decide⟩ ⟨by decide, by decide⟩ rfl rfl rfl (Nat.le_of_ble_eq_true rfl) kd_Ln_answer_132 rfl (c1 := 0) (s1 := 0) rfl rfl (fun v w hp => ?_)
    obtain ⟨rfl, rfl⟩ := hp
    refine zk_stk (r' := []) rfl ?_
    refine zk_lvs (lv' := [(0, .ref (S.1 66)), (4, .int x4), (5, .int ((h.2.1 1 1) &&& 255)), (6, .int v2)]) [2, 5, 1, 0] rfl ?_
    exact zb_Ln_answer_c1_135 C hR h5 x4 ((h.2.1 1 1) &&& 255) v2 e
set_option maxHeartbeats 4000000 in
set_option maxRecDepth 100000 in
theorem zb_Ln_answer_c1_55 {X : zkj_T} {S : zs_T} {P : ze_T} {l : Launch} {D : va_G} {sz0 : Nat} {rv : Int32} {rh : zs_H} (C : zk_C X km_Ln_answer (zs_G S l D sz0) { frames := 4, cells := 0, slots := 0, locals := 95 } (ze_E P)) (hR : zkj_R X (zd_PI S rv rh) (some .int)) (h : zs_H) (x2 : Int32) (y0 : Int32) (e : f_Ln_answer_c1_55 h x2 y0 = some (rv, rh)) : zk_Ab X (zs_W S h) 0 0 55 [(0, .ref (S.1 66)), (1, .ref (S.1 1)), (2, .int x2)] [.int y0] := by
  unfold f_Ln_answer_c1_55 at e
  refine zk_istore_n (lv' := [(3, _), (0, _), (1, _), (2, _)]) C kd_Ln_answer_55 rfl (by decide) rfl rfl ?_
  refine zk_aload_n C kd_Ln_answer_56 rfl 2 rfl rfl ?_
  refine zk_iconst (v := 0) C kd_Ln_answer_57 (by decide) rfl ?_
  refine zs_bald C 1 rfl (zp_dec rfl) kd_Ln_answer_58 rfl ?_
  refine zk_stk (r' := [.int (h.2.1 1 0)]) rfl ?_
  refine zk_sipush (v := 255) C kd_Ln_answer_59 (by decide) rfl ?_
  refine zk_iand C kd_Ln_answer_62 rfl ?_
  refine zk_istore (lv' := [(4, _), (3, _), (0, _), (1, _), (2, _)]) C kd_Ln_answer_63 (by decide) rfl rfl ?_
  refine zk_aload_n C kd_Ln_answer_65 rfl 2 rfl rfl ?_
  refine zs_get (v := .ref (S.1 58)) C 66 3 rfl rfl rfl rfl ki_Ln (by decide) kw603 kd_Ln_answer_66 rfl ?_
  refine zs_get (v := .int (h.1 58 3)) C 58 3 rfl rfl rfl rfl ki_Mc (by decide) kw523 kd_Ln_answer_69 rfl ?_
  refine zk_if_eq (tgt := 93) C kd_Ln_answer_72 (by decide) rfl (fun b1 => ?_) (fun b1 => ?_)
  · replace e := zd_pos b1 e
    refine zk_iconst (v := 0) C kd_Ln_answer_93 (by decide) rfl ?_
    exact zk_iret C hR kd_Ln_answer_94 rfl rfl (zd_rIS e)
  · replace e := zd_neg b1 e
    refine zk_iload_n C kd_Ln_answer_75 rfl 1 rfl rfl ?_
    refine zk_if_eq (tgt := 93) C kd_Ln_answer_76 (by decide) rfl (fun b2 => ?_) (fun b2 => ?_)
    · replace e := zd_pos b2 e
      refine zk_iconst (v := 0) C kd_Ln_answer_93 (by decide) rfl ?_
      exact zk_iret C hR kd_Ln_answer_94 rfl rfl (zd_rIS e)
    · replace e := zd_neg b2 e
      refine zk_iload C kd_Ln_answer_79 0 rfl rfl ?_
      refine zk_if_eq (tgt := 95) C kd_Ln_answer_81 (by decide) rfl (fun b3 => ?_) (fun b3 => ?_)
      · replace e := zd_pos b3 e
        refine zk_lvs (lv' := [(0, .ref (S.1 66)), (1, .ref (S.1 1)), (2, .int x2), (4, .int ((h.2.1 1 0) &&& 255))]) [2, 3, 4, 0] rfl ?_
        exact zb_Ln_answer_c1_95 C hR h x2 ((h.2.1 1 0) &&& 255) e
      · replace e := zd_neg b3 e
        refine zk_iload C kd_Ln_answer_84 0 rfl rfl ?_
        refine zk_aload_n C kd_Ln_answer_86 rfl 2 rfl rfl ?_
        refine zs_get (v := .int (h.1 66 2)) C 66 2 rfl rfl rfl rfl ki_Ln (by decide) kw601 kd_Ln_answer_87 rfl ?_
        refine zk_icmp_eq (tgt := 95) C kd_Ln_answer_90 (by decide) rfl (fun b4 => ?_) (fun b4 => ?_)
        · replace e := zd_pos b4 e
          refine zk_lvs (lv' := [(0, .ref (S.1 66)), (1, .ref (S.1 1)), (2, .int x2), (4, .int ((h.2.1 1 0) &&& 255))]) [2, 3, 4, 0] rfl ?_
          exact zb_Ln_answer_c1_95 C hR h x2 ((h.2.1 1 0) &&& 255) e
        · replace e := zd_neg b4 e
          refine zk_iconst (v := 0) C kd_Ln_answer_93 (by decide) rfl ?_
          exact zk_iret C hR kd_Ln_answer_94 rfl rfl (zd_rIS e)
set_option maxHeartbeats 4000000 in
set_option maxRecDepth 100000 in
theorem zb_Ln_answer_c1_54 {X : zkj_T} {S : zs_T} {P : ze_T} {l : Launch} {D : va_G} {sz0 : Nat} {rv : Int32} {rh : zs_H} (C : zk_C X km_Ln_answer (zs_G S l D sz0) { frames := 4, cells := 0, slots := 0, locals := 95 } (ze_E P)) (hR : zkj_R X (zd_PI S rv rh) (some .int)) (h : zs_H) (x2 : Int32) (e : f_Ln_answer_c1_54 h x2 = some (rv, rh)) : zk_Ab X (zs_W S h) 0 0 54 [(0, .ref (S.1 66)), (1, .ref (S.1 1)), (2, .int x2)] [] := by
  unfold f_Ln_answer_c1_54 at e
  refine zk_iconst (v := 0) C kd_Ln_answer_54 (by decide) rfl ?_
  refine zk_lvs (lv' := [(0, .ref (S.1 66)), (1, .ref (S.1 1)), (2, .int x2)]) [0, 1, 2] rfl ?_
  exact zb_Ln_answer_c1_55 C hR h x2 0 e
set_option maxHeartbeats 4000000 in
set_option maxRecDepth 100000 in
theorem zc_Ln_answer_c1 {l : Launch} {D : va_G} {sz0 : Nat} {S : zs_T} {P : ze_T} (h : zs_H) (x2 : Int32) {rv : Int32} {rh : zs_H} (e : f_Ln_answer_c1 h x2 = some (rv, rh)) : zk_Sp (zs_G S l D sz0) (ze_E P) km_Ln_answer { frames := 4, cells := 0, slots := 0, locals := 95 } [.ref (S.1 66), .ref (S.1 1), .int x2] (zs_W S h) (zd_PI S rv rh) := by
  refine zk_met ku_Ln_answer (Nat.le_of_ble_eq_true rfl) (ze_Em P) ?_
  intro X C hR
  refine zk_lvs (lv' := [(0, .ref (S.1 66)), (1, .ref (S.1 1)), (2, .int x2)]) [0, 1, 2] rfl ?_
  unfold f_Ln_answer_c1 at e
  refine zk_aload_n C kd_Ln_answer_0 rfl 0 rfl rfl ?_
  refine zk_iconst (v := 0) C kd_Ln_answer_1 (by decide) rfl ?_
  refine zs_put (ty := .int) C 66 1 0 rfl rfl rfl rfl ki_Ln ky_Ln ko_Ln kn_Ln (by decide) kw599 rfl rfl rfl rfl (by decide) kd_Ln_answer_2 rfl ?_
  refine zk_iload_n C kd_Ln_answer_5 rfl 2 rfl rfl ?_
  refine zk_iconst (v := 4) C kd_Ln_answer_6 (by decide) rfl ?_
  refine zk_icmp_lt (tgt := 54) C kd_Ln_answer_7 (by decide) rfl (fun b1 => ?_) (fun b1 => ?_)
  · replace e := zd_pos b1 e
    refine zk_lvs (lv' := [(0, .ref (S.1 66)), (1, .ref (S.1 1)), (2, .int x2)]) [0, 1, 2] rfl ?_
    exact zb_Ln_answer_c1_54 C hR (zs_uF h 66 1 0) x2 e
  · replace e := zd_neg b1 e
    refine zk_iload_n C kd_Ln_answer_10 rfl 2 rfl rfl ?_
    refine zk_sipush (v := 256) C kd_Ln_answer_11 (by decide) rfl ?_
    refine zk_icmp_gt (tgt := 54) C kd_Ln_answer_14 (by decide) rfl (fun b2 => ?_) (fun b2 => ?_)
    · replace e := zd_pos b2 e
      refine zk_lvs (lv' := [(0, .ref (S.1 66)), (1, .ref (S.1 1)), (2, .int x2)]) [0, 1, 2] rfl ?_
      exact zb_Ln_answer_c1_54 C hR (zs_uF h 66 1 0) x2 e
    · replace e := zd_neg b2 e
      refine zk_aload_n C kd_Ln_answer_17 rfl 1 rfl rfl ?_
      refine zk_iload_n C kd_Ln_answer_18 rfl 2 rfl rfl ?_
      refine zk_iconst (v := 2) C kd_Ln_answer_19 (by decide) rfl ?_
      refine zk_isub C kd_Ln_answer_20 rfl ?_
      obtain ⟨v4, c3, e⟩ := zd_b e
      refine zk_callS (rn := { frames := 0, cells := 0, slots := 0, locals := 0 }) (As := [.ref (S.1 1), .int (x2 - 2)]) (rest := []) C (zc_Ln_checkSum_c1 (zs_uF h 66 1 0) (x2 - 2) c3) ku_Ln_checkSum kw1611 ks_Ln_checkSum rfl ⟨by decide, by decide⟩ ⟨by decide, by decide⟩ rfl (Nat.le_of_ble_eq_true rfl) kd_Ln_answer_21 rfl (c1 := 0) (s1 := 0) rfl rfl (fun v w hp => ?_)
      obtain ⟨rfl, rfl⟩ := hp
      refine zk_stk (r' := [.int v4]) rfl ?_
      refine zk_aload_n C kd_Ln_answer_24 rfl 1 rfl rfl ?_
      refine zk_iload_n C kd_Ln_answer_25 rfl 2 rfl rfl ?_
      refine zk_iconst (v := 2) C kd_Ln_answer_26 (by decide) rfl ?_
      refine zk_isub C kd_Ln_answer_27 rfl ?_
      obtain ⟨q5, e⟩ := zd_g e
      refine zs_bald C 1 rfl (zd_vp q5) kd_Ln_answer_28 rfl ?_
      refine zk_stk (r' := [.int (h.2.1 1 (x2 - 2).toNatClampNeg), .int v4]) rfl ?_
      refine zk_sipush (v := 255) C kd_Ln_answer_29 (by decide) rfl ?_
      refine zk_iand C kd_Ln_answer_32 rfl ?_
      refine zk_sipush (v := 256) C kd_Ln_answer_33 (by decide) rfl ?_
      refine zk_aload_n C kd_Ln_answer_36 rfl 1 rfl rfl ?_
      refine zk_iload_n C kd_Ln_answer_37 rfl 2 rfl rfl ?_
      refine zk_iconst (v := 1) C kd_Ln_answer_38 (by decide) rfl ?_
      refine zk_isub C kd_Ln_answer_39 rfl ?_
      obtain ⟨q6, e⟩ := zd_g e
      refine zs_bald C 1 rfl (zd_vp q6) kd_Ln_answer_40 rfl ?_
      refine zk_stk (r' := [.int (h.2.1 1 (x2 - 1).toNatClampNeg), .int 256, .int ((h.2.1 1 (x2 - 2).toNatClampNeg) &&& 255), .int v4]) rfl ?_
      refine zk_sipush (v := 255) C kd_Ln_answer_41 (by decide) rfl ?_
      refine zk_iand C kd_Ln_answer_44 rfl ?_
      refine zk_imul C kd_Ln_answer_45 rfl ?_
      refine zk_iadd C kd_Ln_answer_46 rfl ?_
      refine zk_icmp_ne (tgt := 54) C kd_Ln_answer_47 (by decide) rfl (fun b7 => ?_) (fun b7 => ?_)
      · replace e := zd_neg b7 e
        refine zk_lvs (lv' := [(0, .ref (S.1 66)), (1, .ref (S.1 1)), (2, .int x2)]) [0, 1, 2] rfl ?_
        exact zb_Ln_answer_c1_54 C hR (zs_uF h 66 1 0) x2 e
      · replace e := zd_pos b7 e
        refine zk_iconst (v := 1) C kd_Ln_answer_50 (by decide) rfl ?_
        refine zk_goto (tgt := 55) C kd_Ln_answer_51 (by decide) ?_
        refine zk_lvs (lv' := [(0, .ref (S.1 66)), (1, .ref (S.1 1)), (2, .int x2)]) [0, 1, 2] rfl ?_
        exact zb_Ln_answer_c1_55 C hR (zs_uF h 66 1 0) x2 1 e
set_option maxHeartbeats 4000000 in
set_option maxRecDepth 100000 in
theorem zc_Pk_frame {l : Launch} {D : va_G} {sz0 : Nat} {S : zs_T} {P : ze_T} (h : zs_H) {rv : Int32} {rh : zs_H} (e : f_Pk_frame h = some (rv, rh)) : zk_Sp (zs_G S l D sz0) (ze_E P) km_Pk_frame { frames := 5, cells := 0, slots := 0, locals := 122 } [.ref (S.1 0)] (zs_W S h) (zd_PI S rv rh) := by
  refine zk_met ku_Pk_frame (Nat.le_of_ble_eq_true rfl) (ze_Em P) ?_
  intro X C hR
  refine zk_lvs (lv' := [(0, .ref (S.1 0))]) [0] rfl ?_
  unfold f_Pk_frame at e
  refine zk_aload_n C kd_Pk_frame_0 rfl 0 rfl rfl ?_
  refine zs_get (v := .int (h.1 0 1)) C 0 1 rfl rfl rfl rfl ki_Pk (by decide) kw620 kd_Pk_frame_1 rfl ?_
  refine zk_istore_n (lv' := [(1, _), (0, _)]) C kd_Pk_frame_4 rfl (by decide) rfl rfl ?_
  refine zk_aload_n C kd_Pk_frame_5 rfl 1 rfl rfl ?_
  refine zk_iconst (v := 0) C kd_Pk_frame_6 (by decide) rfl ?_
  refine zs_put (ty := .int) C 0 1 0 rfl rfl rfl rfl ki_Pk ky_Pk ko_Pk kn_Pk (by decide) kw620 rfl rfl rfl rfl (by decide) kd_Pk_frame_7 rfl ?_
  refine zk_aload_n C kd_Pk_frame_10 rfl 1 rfl rfl ?_
  refine zs_get (v := .ref (S.1 66)) C 0 15 rfl rfl rfl rfl ki_Pk (by decide) kw634 kd_Pk_frame_11 rfl ?_
  refine zk_aload_n C kd_Pk_frame_14 rfl 1 rfl rfl ?_
  refine zs_get (v := .ref (S.1 1)) C 0 0 rfl rfl rfl rfl ki_Pk (by decide) kw619 kd_Pk_frame_15 rfl ?_
  refine zk_iload_n C kd_Pk_frame_18 rfl 0 rfl rfl ?_
  obtain ⟨v2, h3, c1, e⟩ := zd_Be e
  refine zs_callV (k := 66) (rn := { frames := 4, cells := 0, slots := 0, locals := 95 }) (As := [.ref (S.1 1), .int (h.1 0 1)]) (rest := []) C (zc_Ln_answer_c1 (zs_uF h 0 1 0) (h.1 0 1) c1) ku_Ln_answer kw1607 kv_Ln_answer rfl ⟨by decide, by decide⟩ ⟨by decide, by decide⟩ rfl rfl rfl (Nat.le_of_ble_eq_true rfl) kd_Pk_frame_19 rfl (c1 := 0) (s1 := 0) rfl rfl (fun v w hp => ?_)
  obtain ⟨rfl, rfl⟩ := hp
  refine zk_stk (r' := [.int v2]) rfl ?_
  exact zk_iret C hR kd_Pk_frame_22 rfl rfl (zd_rIS e)
set_option maxHeartbeats 4000000 in
set_option maxRecDepth 100000 in
theorem zc_Pk_watched {l : Launch} {D : va_G} {sz0 : Nat} {S : zs_T} {P : ze_T} (h : zs_H) : zk_Sp (zs_G S l D sz0) (ze_E P) km_Pk_watched { frames := 0, cells := 0, slots := 0, locals := 0 } [.ref (S.1 0)] (zs_W S h) (zd_PI S (f_Pk_watched h) h) := by
  obtain ⟨rv, e⟩ : ∃ rv, f_Pk_watched h = rv := ⟨_, rfl⟩
  rw [e]
  refine zk_met ku_Pk_watched (Nat.le_of_ble_eq_true rfl) (ze_Em P) ?_
  intro X C hR
  refine zk_lvs (lv' := [(0, .ref (S.1 0))]) [0] rfl ?_
  unfold f_Pk_watched at e
  refine zk_aload_n C kd_Pk_watched_0 rfl 0 rfl rfl ?_
  refine zs_get (v := .int (h.1 0 4)) C 0 4 rfl rfl rfl rfl ki_Pk (by decide) kw623 kd_Pk_watched_1 rfl ?_
  exact zk_iret C hR kd_Pk_watched_4 rfl rfl (zd_rIT e)
set_option maxHeartbeats 4000000 in
set_option maxRecDepth 100000 in
theorem zb_Nm_isLetter_24 {X : zkj_T} {S : zs_T} {P : ze_T} {l : Launch} {D : va_G} {sz0 : Nat} {rv : Int32} {h : zs_H} (C : zk_C X km_Nm_isLetter (zs_G S l D sz0) { frames := 0, cells := 0, slots := 0, locals := 0 } (ze_E P)) (hR : zkj_R X (zd_PZ S rv h) (some .boolean)) (x0 : Int32) (e : f_Nm_isLetter_24 x0 = rv) : zk_Ab X (zs_W S h) 0 0 24 [(0, .int x0)] [] := by
  unfold f_Nm_isLetter_24 at e
  refine zk_iload_n C kd_Nm_isLetter_24 rfl 0 rfl rfl ?_
  refine zk_bipush (v := 95) C kd_Nm_isLetter_25 (by decide) rfl ?_
  refine zk_icmp_ne (tgt := 34) C kd_Nm_isLetter_27 (by decide) rfl (fun b1 => ?_) (fun b1 => ?_)
  · replace e := zd_neg b1 e
    refine zk_iconst (v := 0) C kd_Nm_isLetter_34 (by decide) rfl ?_
    exact zk_zret C hR (zd_nb (Or.inl rfl)) kd_Nm_isLetter_35 rfl rfl (zd_rZT (Or.inl rfl) e)
  · replace e := zd_pos b1 e
    refine zk_iconst (v := 1) C kd_Nm_isLetter_30 (by decide) rfl ?_
    refine zk_goto (tgt := 35) C kd_Nm_isLetter_31 (by decide) ?_
    exact zk_zret C hR (zd_nb (Or.inr rfl)) kd_Nm_isLetter_35 rfl rfl (zd_rZT (Or.inr rfl) e)
set_option maxHeartbeats 4000000 in
set_option maxRecDepth 100000 in
theorem zb_Nm_isLetter_12 {X : zkj_T} {S : zs_T} {P : ze_T} {l : Launch} {D : va_G} {sz0 : Nat} {rv : Int32} {h : zs_H} (C : zk_C X km_Nm_isLetter (zs_G S l D sz0) { frames := 0, cells := 0, slots := 0, locals := 0 } (ze_E P)) (hR : zkj_R X (zd_PZ S rv h) (some .boolean)) (x0 : Int32) (e : f_Nm_isLetter_12 x0 = rv) : zk_Ab X (zs_W S h) 0 0 12 [(0, .int x0)] [] := by
  unfold f_Nm_isLetter_12 at e
  refine zk_iload_n C kd_Nm_isLetter_12 rfl 0 rfl rfl ?_
  refine zk_bipush (v := 97) C kd_Nm_isLetter_13 (by decide) rfl ?_
  refine zk_icmp_lt (tgt := 24) C kd_Nm_isLetter_15 (by decide) rfl (fun b1 => ?_) (fun b1 => ?_)
  · replace e := zd_pos b1 e
    refine zk_lvs (lv' := [(0, .int x0)]) [0] rfl ?_
    exact zb_Nm_isLetter_24 C hR x0 e
  · replace e := zd_neg b1 e
    refine zk_iload_n C kd_Nm_isLetter_18 rfl 0 rfl rfl ?_
    refine zk_bipush (v := 122) C kd_Nm_isLetter_19 (by decide) rfl ?_
    refine zk_icmp_le (tgt := 30) C kd_Nm_isLetter_21 (by decide) rfl (fun b2 => ?_) (fun b2 => ?_)
    · replace e := zd_pos b2 e
      refine zk_iconst (v := 1) C kd_Nm_isLetter_30 (by decide) rfl ?_
      refine zk_goto (tgt := 35) C kd_Nm_isLetter_31 (by decide) ?_
      exact zk_zret C hR (zd_nb (Or.inr rfl)) kd_Nm_isLetter_35 rfl rfl (zd_rZT (Or.inr rfl) e)
    · replace e := zd_neg b2 e
      refine zk_lvs (lv' := [(0, .int x0)]) [0] rfl ?_
      exact zb_Nm_isLetter_24 C hR x0 e
set_option maxHeartbeats 4000000 in
set_option maxRecDepth 100000 in
theorem zc_Nm_isLetter {l : Launch} {D : va_G} {sz0 : Nat} {S : zs_T} {P : ze_T} (h : zs_H) (x0 : Int32) : zk_Sp (zs_G S l D sz0) (ze_E P) km_Nm_isLetter { frames := 0, cells := 0, slots := 0, locals := 0 } [.int x0] (zs_W S h) (zd_PZ S (f_Nm_isLetter x0) h) := by
  obtain ⟨rv, e⟩ : ∃ rv, f_Nm_isLetter x0 = rv := ⟨_, rfl⟩
  rw [e]
  refine zk_met ku_Nm_isLetter (Nat.le_of_ble_eq_true rfl) (ze_Em P) ?_
  intro X C hR
  refine zk_lvs (lv' := [(0, .int x0)]) [0] rfl ?_
  unfold f_Nm_isLetter at e
  refine zk_iload_n C kd_Nm_isLetter_0 rfl 0 rfl rfl ?_
  refine zk_bipush (v := 65) C kd_Nm_isLetter_1 (by decide) rfl ?_
  refine zk_icmp_lt (tgt := 12) C kd_Nm_isLetter_3 (by decide) rfl (fun b1 => ?_) (fun b1 => ?_)
  · replace e := zd_pos b1 e
    refine zk_lvs (lv' := [(0, .int x0)]) [0] rfl ?_
    exact zb_Nm_isLetter_12 C hR x0 e
  · replace e := zd_neg b1 e
    refine zk_iload_n C kd_Nm_isLetter_6 rfl 0 rfl rfl ?_
    refine zk_bipush (v := 90) C kd_Nm_isLetter_7 (by decide) rfl ?_
    refine zk_icmp_le (tgt := 30) C kd_Nm_isLetter_9 (by decide) rfl (fun b2 => ?_) (fun b2 => ?_)
    · replace e := zd_pos b2 e
      refine zk_iconst (v := 1) C kd_Nm_isLetter_30 (by decide) rfl ?_
      refine zk_goto (tgt := 35) C kd_Nm_isLetter_31 (by decide) ?_
      exact zk_zret C hR (zd_nb (Or.inr rfl)) kd_Nm_isLetter_35 rfl rfl (zd_rZT (Or.inr rfl) e)
    · replace e := zd_neg b2 e
      refine zk_lvs (lv' := [(0, .int x0)]) [0] rfl ?_
      exact zb_Nm_isLetter_12 C hR x0 e
set_option maxHeartbeats 4000000 in
set_option maxRecDepth 100000 in
theorem zc_Nm_isPart {l : Launch} {D : va_G} {sz0 : Nat} {S : zs_T} {P : ze_T} (h : zs_H) (x0 : Int32) : zk_Sp (zs_G S l D sz0) (ze_E P) km_Nm_isPart { frames := 1, cells := 0, slots := 0, locals := 20 } [.int x0] (zs_W S h) (zd_PZ S (f_Nm_isPart x0) h) := by
  obtain ⟨rv, e⟩ : ∃ rv, f_Nm_isPart x0 = rv := ⟨_, rfl⟩
  rw [e]
  refine zk_met ku_Nm_isPart (Nat.le_of_ble_eq_true rfl) (ze_Em P) ?_
  intro X C hR
  refine zk_lvs (lv' := [(0, .int x0)]) [0] rfl ?_
  unfold f_Nm_isPart at e
  refine zk_iload_n C kd_Nm_isPart_0 rfl 0 rfl rfl ?_
  refine zk_callS (rn := { frames := 0, cells := 0, slots := 0, locals := 0 }) (As := [.int x0]) (rest := []) C (zc_Nm_isLetter h x0) ku_Nm_isLetter kw769 ks_Nm_isLetter rfl ⟨by decide, by decide⟩ ⟨by decide, by decide⟩ rfl (Nat.le_of_ble_eq_true rfl) kd_Nm_isPart_1 rfl (c1 := 0) (s1 := 0) rfl rfl (fun v w hp => ?_)
  obtain ⟨rfl, rfl, z1⟩ := hp
  refine zk_stk (r' := [.int (f_Nm_isLetter x0)]) rfl ?_
  refine zk_if_ne (tgt := 19) C kd_Nm_isPart_4 (by decide) rfl (fun b2 => ?_) (fun b2 => ?_)
  · replace e := zd_neg b2 e
    refine zk_iconst (v := 1) C kd_Nm_isPart_19 (by decide) rfl ?_
    refine zk_goto (tgt := 24) C kd_Nm_isPart_20 (by decide) ?_
    exact zk_zret C hR (zd_nb (Or.inr rfl)) kd_Nm_isPart_24 rfl rfl (zd_rZT (Or.inr rfl) e)
  · replace e := zd_pos b2 e
    refine zk_iload_n C kd_Nm_isPart_7 rfl 0 rfl rfl ?_
    refine zk_bipush (v := 48) C kd_Nm_isPart_8 (by decide) rfl ?_
    refine zk_icmp_lt (tgt := 23) C kd_Nm_isPart_10 (by decide) rfl (fun b3 => ?_) (fun b3 => ?_)
    · replace e := zd_pos b3 e
      refine zk_iconst (v := 0) C kd_Nm_isPart_23 (by decide) rfl ?_
      exact zk_zret C hR (zd_nb (Or.inl rfl)) kd_Nm_isPart_24 rfl rfl (zd_rZT (Or.inl rfl) e)
    · replace e := zd_neg b3 e
      refine zk_iload_n C kd_Nm_isPart_13 rfl 0 rfl rfl ?_
      refine zk_bipush (v := 57) C kd_Nm_isPart_14 (by decide) rfl ?_
      refine zk_icmp_gt (tgt := 23) C kd_Nm_isPart_16 (by decide) rfl (fun b4 => ?_) (fun b4 => ?_)
      · replace e := zd_pos b4 e
        refine zk_iconst (v := 0) C kd_Nm_isPart_23 (by decide) rfl ?_
        exact zk_zret C hR (zd_nb (Or.inl rfl)) kd_Nm_isPart_24 rfl rfl (zd_rZT (Or.inl rfl) e)
      · replace e := zd_neg b4 e
        refine zk_iconst (v := 1) C kd_Nm_isPart_19 (by decide) rfl ?_
        refine zk_goto (tgt := 24) C kd_Nm_isPart_20 (by decide) ?_
        exact zk_zret C hR (zd_nb (Or.inr rfl)) kd_Nm_isPart_24 rfl rfl (zd_rZT (Or.inr rfl) e)
set_option maxHeartbeats 4000000 in
set_option maxRecDepth 100000 in
theorem zb_Pk_nameEnd_2 {X : zkj_T} {S : zs_T} {P : ze_T} {l : Launch} {D : va_G} {sz0 : Nat} {rv : Int32} {h : zs_H} (C : zk_C X km_Pk_nameEnd (zs_G S l D sz0) { frames := 2, cells := 0, slots := 0, locals := 40 } (ze_E P)) (hR : zkj_R X (zd_PI S rv h) (some .int)) {k2 : Int32 → Int32 → (Option Int32)} (hk2 : ∀ (x2 : Int32) (x3 : Int32), k2 x2 x3 = some rv → zk_Ab X (zs_W S h) 0 0 2 [(0, .ref (S.1 0)), (2, .int x2), (3, .int x3)] []) (x2 : Int32) (x3 : Int32) (e : f_Pk_nameEnd_2 h k2 x2 x3 = some rv) : zk_Ab X (zs_W S h) 0 0 2 [(0, .ref (S.1 0)), (2, .int x2), (3, .int x3)] [] := by
  unfold f_Pk_nameEnd_2 at e
  refine zk_iload_n C kd_Pk_nameEnd_2 rfl 2 rfl rfl ?_
  refine zk_iload_n C kd_Pk_nameEnd_3 rfl 1 rfl rfl ?_
  refine zk_icmp_ge (tgt := 25) C kd_Pk_nameEnd_4 (by decide) rfl (fun b1 => ?_) (fun b1 => ?_)
  · replace e := zd_pos b1 e
    refine zk_iload_n C kd_Pk_nameEnd_25 rfl 2 rfl rfl ?_
    exact zk_iret C hR kd_Pk_nameEnd_26 rfl rfl (zd_rIO e)
  · replace e := zd_neg b1 e
    refine zk_aload_n C kd_Pk_nameEnd_7 rfl 0 rfl rfl ?_
    refine zs_get (v := .ref (S.1 1)) C 0 0 rfl rfl rfl rfl ki_Pk (by decide) kw619 kd_Pk_nameEnd_8 rfl ?_
    refine zk_iload_n C kd_Pk_nameEnd_11 rfl 2 rfl rfl ?_
    obtain ⟨q2, e⟩ := zd_g e
    refine zs_bald C 1 rfl (zd_vp q2) kd_Pk_nameEnd_12 rfl ?_
    refine zk_callS (rn := { frames := 1, cells := 0, slots := 0, locals := 20 }) (As := [.int (h.2.1 1 x3.toNatClampNeg)]) (rest := []) C (zc_Nm_isPart h (h.2.1 1 x3.toNatClampNeg)) ku_Nm_isPart kw1583 ks_Nm_isPart rfl ⟨by decide, by decide⟩ ⟨by decide, by decide⟩ rfl (Nat.le_of_ble_eq_true rfl) kd_Pk_nameEnd_13 rfl (c1 := 0) (s1 := 0) rfl rfl (fun v w hp => ?_)
    obtain ⟨rfl, rfl, z3⟩ := hp
    refine zk_stk (r' := [.int (f_Nm_isPart (h.2.1 1 x3.toNatClampNeg))]) rfl ?_
    refine zk_if_eq (tgt := 25) C kd_Pk_nameEnd_16 (by decide) rfl (fun b4 => ?_) (fun b4 => ?_)
    · replace e := zd_pos b4 e
      refine zk_iload_n C kd_Pk_nameEnd_25 rfl 2 rfl rfl ?_
      exact zk_iret C hR kd_Pk_nameEnd_26 rfl rfl (zd_rIO e)
    · replace e := zd_neg b4 e
      refine zk_iinc (v := (x3 + 1)) (lv' := [(3, _), (0, _), (2, _)]) C kd_Pk_nameEnd_19 2 rfl rfl (by decide) rfl rfl ?_
      refine zk_goto (tgt := 2) C kd_Pk_nameEnd_22 (by decide) ?_
      refine zk_lvs (lv' := [(0, .ref (S.1 0)), (2, .int x2), (3, .int (x3 + 1))]) [1, 2, 0] rfl ?_
      exact hk2 x2 (x3 + 1) e
theorem zl_Pk_nameEnd_2 {X : zkj_T} {S : zs_T} {P : ze_T} {l : Launch} {D : va_G} {sz0 : Nat} {rv : Int32} {h : zs_H} (C : zk_C X km_Pk_nameEnd (zs_G S l D sz0) { frames := 2, cells := 0, slots := 0, locals := 40 } (ze_E P)) (hR : zkj_R X (zd_PI S rv h) (some .int)) (n : Nat) : ∀ (x2 : Int32) (x3 : Int32), f_Pk_nameEnd_L2 h n x2 x3 = some rv → zk_Ab X (zs_W S h) 0 0 2 [(0, .ref (S.1 0)), (2, .int x2), (3, .int x3)] [] := by
  induction n with
  | zero => intro x2 x3 e; exact zd_no e
  | succ n ih => intro x2 x3 e; exact zb_Pk_nameEnd_2 (k2 := f_Pk_nameEnd_L2 h n) C hR ih x2 x3 e
set_option maxHeartbeats 4000000 in
set_option maxRecDepth 100000 in
theorem zc_Pk_nameEnd {l : Launch} {D : va_G} {sz0 : Nat} {S : zs_T} {P : ze_T} (h : zs_H) (x1 : Int32) (x2 : Int32) {rv : Int32} (e : f_Pk_nameEnd h x1 x2 = some rv) : zk_Sp (zs_G S l D sz0) (ze_E P) km_Pk_nameEnd { frames := 2, cells := 0, slots := 0, locals := 40 } [.ref (S.1 0), .int x1, .int x2] (zs_W S h) (zd_PI S rv h) := by
  refine zk_met ku_Pk_nameEnd (Nat.le_of_ble_eq_true rfl) (ze_Em P) ?_
  intro X C hR
  refine zk_lvs (lv' := [(0, .ref (S.1 0)), (1, .int x1), (2, .int x2)]) [0, 1, 2] rfl ?_
  unfold f_Pk_nameEnd at e
  refine zk_iload_n C kd_Pk_nameEnd_0 rfl 1 rfl rfl ?_
  refine zk_istore_n (lv' := [(3, _), (0, _), (1, _), (2, _)]) C kd_Pk_nameEnd_1 rfl (by decide) rfl rfl ?_
  refine zk_lvs (lv' := [(0, .ref (S.1 0)), (2, .int x2), (3, .int x1)]) [1, 3, 0] rfl ?_
  exact zl_Pk_nameEnd_2 C hR zF x2 x1 e
set_option maxHeartbeats 4000000 in
set_option maxRecDepth 100000 in
theorem zc_Nm_great {l : Launch} {D : va_G} {sz0 : Nat} {S : zs_T} {P : ze_T} (h : zs_H) (x0 : Int32) : zk_Sp (zs_G S l D sz0) (ze_E P) km_Nm_great { frames := 0, cells := 0, slots := 0, locals := 0 } [.int x0] (zs_W S h) (zd_PI S (f_Nm_great x0) h) := by
  obtain ⟨rv, e⟩ : ∃ rv, f_Nm_great x0 = rv := ⟨_, rfl⟩
  rw [e]
  refine zk_met ku_Nm_great (Nat.le_of_ble_eq_true rfl) (ze_Em P) ?_
  intro X C hR
  refine zk_lvs (lv' := [(0, .int x0)]) [0] rfl ?_
  unfold f_Nm_great at e
  refine zk_iload_n C kd_Nm_great_0 rfl 0 rfl rfl ?_
  refine zk_bipush (v := 97) C kd_Nm_great_1 (by decide) rfl ?_
  refine zk_icmp_lt (tgt := 19) C kd_Nm_great_3 (by decide) rfl (fun b1 => ?_) (fun b1 => ?_)
  · replace e := zd_pos b1 e
    refine zk_iload_n C kd_Nm_great_19 rfl 0 rfl rfl ?_
    exact zk_iret C hR kd_Nm_great_20 rfl rfl (zd_rIT e)
  · replace e := zd_neg b1 e
    refine zk_iload_n C kd_Nm_great_6 rfl 0 rfl rfl ?_
    refine zk_bipush (v := 122) C kd_Nm_great_7 (by decide) rfl ?_
    refine zk_icmp_gt (tgt := 19) C kd_Nm_great_9 (by decide) rfl (fun b2 => ?_) (fun b2 => ?_)
    · replace e := zd_pos b2 e
      refine zk_iload_n C kd_Nm_great_19 rfl 0 rfl rfl ?_
      exact zk_iret C hR kd_Nm_great_20 rfl rfl (zd_rIT e)
    · replace e := zd_neg b2 e
      refine zk_iload_n C kd_Nm_great_12 rfl 0 rfl rfl ?_
      refine zk_bipush (v := 32) C kd_Nm_great_13 (by decide) rfl ?_
      refine zk_isub C kd_Nm_great_15 rfl ?_
      refine zk_goto (tgt := 20) C kd_Nm_great_16 (by decide) ?_
      exact zk_iret C hR kd_Nm_great_20 rfl rfl (zd_rIT e)
set_option maxHeartbeats 4000000 in
set_option maxRecDepth 100000 in
theorem zb_Nm_headOf_c1_5 {X : zkj_T} {S : zs_T} {P : ze_T} {l : Launch} {D : va_G} {sz0 : Nat} {rv : Int32} {h : zs_H} (C : zk_C X km_Nm_headOf (zs_G S l D sz0) { frames := 1, cells := 0, slots := 0, locals := 20 } (ze_E P)) (hR : zkj_R X (zd_PI S rv h) (some .int)) {k5 : Int32 → Int32 → Int32 → Int32 → (Option Int32)} (hk5 : ∀ (x1 : Int32) (x2 : Int32) (x3 : Int32) (x4 : Int32), k5 x1 x2 x3 x4 = some rv → zk_Ab X (zs_W S h) 0 0 5 [(0, .ref (S.1 1)), (1, .int x1), (2, .int x2), (3, .int x3), (4, .int x4)] []) (x1 : Int32) (x2 : Int32) (x3 : Int32) (x4 : Int32) (e : f_Nm_headOf_c1_5 h k5 x1 x2 x3 x4 = some rv) : zk_Ab X (zs_W S h) 0 0 5 [(0, .ref (S.1 1)), (1, .int x1), (2, .int x2), (3, .int x3), (4, .int x4)] [] := by
  unfold f_Nm_headOf_c1_5 at e
  refine zk_iload C kd_Nm_headOf_5 4 rfl rfl ?_
  refine zk_iload_n C kd_Nm_headOf_7 rfl 2 rfl rfl ?_
  refine zk_icmp_ge (tgt := 32) C kd_Nm_headOf_8 (by decide) rfl (fun b1 => ?_) (fun b1 => ?_)
  · replace e := zd_pos b1 e
    refine zk_iload_n C kd_Nm_headOf_32 rfl 3 rfl rfl ?_
    refine zk_iload_n C kd_Nm_headOf_33 rfl 3 rfl rfl ?_
    refine zk_bipush (v := 11) C kd_Nm_headOf_34 (by decide) rfl ?_
    refine zk_iushr C kd_Nm_headOf_36 rfl ?_
    refine zk_ixor C kd_Nm_headOf_37 rfl ?_
    refine zk_sipush (v := 1023) C kd_Nm_headOf_38 (by decide) rfl ?_
    refine zk_iand C kd_Nm_headOf_41 rfl ?_
    exact zk_iret C hR kd_Nm_headOf_42 rfl rfl (zd_rIO e)
  · replace e := zd_neg b1 e
    refine zk_iload_n C kd_Nm_headOf_11 rfl 3 rfl rfl ?_
    refine zk_bipush (v := 31) C kd_Nm_headOf_12 (by decide) rfl ?_
    refine zk_imul C kd_Nm_headOf_14 rfl ?_
    refine zk_aload_n C kd_Nm_headOf_15 rfl 0 rfl rfl ?_
    refine zk_iload_n C kd_Nm_headOf_16 rfl 1 rfl rfl ?_
    refine zk_iload C kd_Nm_headOf_17 4 rfl rfl ?_
    refine zk_iadd C kd_Nm_headOf_19 rfl ?_
    obtain ⟨q2, e⟩ := zd_g e
    refine zs_bald C 1 rfl (zd_vp q2) kd_Nm_headOf_20 rfl ?_
    refine zk_callS (rn := { frames := 0, cells := 0, slots := 0, locals := 0 }) (As := [.int (h.2.1 1 (x1 + x4).toNatClampNeg)]) (rest := [.int (x3 * 31)]) C (zc_Nm_great h (h.2.1 1 (x1 + x4).toNatClampNeg)) ku_Nm_great kw707 ks_Nm_great rfl ⟨by decide, by decide⟩ ⟨by decide, by decide⟩ rfl (Nat.le_of_ble_eq_true rfl) kd_Nm_headOf_21 rfl (c1 := 0) (s1 := 0) rfl rfl (fun v w hp => ?_)
    obtain ⟨rfl, rfl⟩ := hp
    refine zk_stk (r' := [.int (f_Nm_great (h.2.1 1 (x1 + x4).toNatClampNeg)), .int (x3 * 31)]) rfl ?_
    refine zk_iadd C kd_Nm_headOf_24 rfl ?_
    refine zk_istore_n (lv' := [(3, _), (0, _), (1, _), (2, _), (4, _)]) C kd_Nm_headOf_25 rfl (by decide) rfl rfl ?_
    refine zk_iinc (v := (x4 + 1)) (lv' := [(4, _), (3, _), (0, _), (1, _), (2, _)]) C kd_Nm_headOf_26 4 rfl rfl (by decide) rfl rfl ?_
    refine zk_goto (tgt := 5) C kd_Nm_headOf_29 (by decide) ?_
    refine zk_lvs (lv' := [(0, .ref (S.1 1)), (1, .int x1), (2, .int x2), (3, .int ((x3 * 31) + (f_Nm_great (h.2.1 1 (x1 + x4).toNatClampNeg)))), (4, .int (x4 + 1))]) [2, 3, 4, 1, 0] rfl ?_
    exact hk5 x1 x2 ((x3 * 31) + (f_Nm_great (h.2.1 1 (x1 + x4).toNatClampNeg))) (x4 + 1) e
theorem zl_Nm_headOf_c1_5 {X : zkj_T} {S : zs_T} {P : ze_T} {l : Launch} {D : va_G} {sz0 : Nat} {rv : Int32} {h : zs_H} (C : zk_C X km_Nm_headOf (zs_G S l D sz0) { frames := 1, cells := 0, slots := 0, locals := 20 } (ze_E P)) (hR : zkj_R X (zd_PI S rv h) (some .int)) (n : Nat) : ∀ (x1 : Int32) (x2 : Int32) (x3 : Int32) (x4 : Int32), f_Nm_headOf_c1_L5 h n x1 x2 x3 x4 = some rv → zk_Ab X (zs_W S h) 0 0 5 [(0, .ref (S.1 1)), (1, .int x1), (2, .int x2), (3, .int x3), (4, .int x4)] [] := by
  induction n with
  | zero => intro x1 x2 x3 x4 e; exact zd_no e
  | succ n ih => intro x1 x2 x3 x4 e; exact zb_Nm_headOf_c1_5 (k5 := f_Nm_headOf_c1_L5 h n) C hR ih x1 x2 x3 x4 e
set_option maxHeartbeats 4000000 in
set_option maxRecDepth 100000 in
theorem zc_Nm_headOf_c1 {l : Launch} {D : va_G} {sz0 : Nat} {S : zs_T} {P : ze_T} (h : zs_H) (x1 : Int32) (x2 : Int32) {rv : Int32} (e : f_Nm_headOf_c1 h x1 x2 = some rv) : zk_Sp (zs_G S l D sz0) (ze_E P) km_Nm_headOf { frames := 1, cells := 0, slots := 0, locals := 20 } [.ref (S.1 1), .int x1, .int x2] (zs_W S h) (zd_PI S rv h) := by
  refine zk_met ku_Nm_headOf (Nat.le_of_ble_eq_true rfl) (ze_Em P) ?_
  intro X C hR
  refine zk_lvs (lv' := [(0, .ref (S.1 1)), (1, .int x1), (2, .int x2)]) [0, 1, 2] rfl ?_
  unfold f_Nm_headOf_c1 at e
  refine zk_iload_n C kd_Nm_headOf_0 rfl 2 rfl rfl ?_
  refine zk_istore_n (lv' := [(3, _), (0, _), (1, _), (2, _)]) C kd_Nm_headOf_1 rfl (by decide) rfl rfl ?_
  refine zk_iconst (v := 0) C kd_Nm_headOf_2 (by decide) rfl ?_
  refine zk_istore (lv' := [(4, _), (3, _), (0, _), (1, _), (2, _)]) C kd_Nm_headOf_3 (by decide) rfl rfl ?_
  refine zk_lvs (lv' := [(0, .ref (S.1 1)), (1, .int x1), (2, .int x2), (3, .int x2), (4, .int 0)]) [2, 3, 4, 1, 0] rfl ?_
  exact zl_Nm_headOf_c1_5 C hR zF x1 x2 x2 0 e
set_option maxHeartbeats 4000000 in
set_option maxRecDepth 100000 in
theorem zb_Nm_isSame_c1_25 {X : zkj_T} {S : zs_T} {P : ze_T} {l : Launch} {D : va_G} {sz0 : Nat} {rv : Int32} {h : zs_H} (C : zk_C X km_Nm_isSame (zs_G S l D sz0) { frames := 1, cells := 0, slots := 0, locals := 20 } (ze_E P)) (hR : zkj_R X (zd_PZ S rv h) (some .boolean)) {k25 : Int32 → Int32 → Int32 → Int32 → (Option Int32)} (hk25 : ∀ (x1 : Int32) (x3 : Int32) (x4 : Int32) (x5 : Int32), k25 x1 x3 x4 x5 = some rv → zk_Ab X (zs_W S h) 0 0 25 [(0, .ref (S.1 2)), (1, .int x1), (2, .ref (S.1 1)), (3, .int x3), (4, .int x4), (5, .int x5)] []) (x1 : Int32) (x3 : Int32) (x4 : Int32) (x5 : Int32) (e : f_Nm_isSame_c1_25 h k25 x1 x3 x4 x5 = some rv) : zk_Ab X (zs_W S h) 0 0 25 [(0, .ref (S.1 2)), (1, .int x1), (2, .ref (S.1 1)), (3, .int x3), (4, .int x4), (5, .int x5)] [] := by
  unfold f_Nm_isSame_c1_25 at e
  refine zk_iload C kd_Nm_isSame_25 5 rfl rfl ?_
  refine zk_iload C kd_Nm_isSame_27 4 rfl rfl ?_
  refine zk_icmp_ge (tgt := 66) C kd_Nm_isSame_29 (by decide) rfl (fun b1 => ?_) (fun b1 => ?_)
  · replace e := zd_pos b1 e
    refine zk_iconst (v := 1) C kd_Nm_isSame_66 (by decide) rfl ?_
    exact zk_zret C hR (zd_nb (Or.inr rfl)) kd_Nm_isSame_67 rfl rfl (zd_rZO (Or.inr rfl) e)
  · replace e := zd_neg b1 e
    refine zk_aload_n C kd_Nm_isSame_32 rfl 0 rfl rfl ?_
    refine zs_get (v := .ref (S.1 4)) C 2 1 rfl rfl rfl rfl ki_Nm (by decide) kw92 kd_Nm_isSame_33 rfl ?_
    refine zk_aload_n C kd_Nm_isSame_36 rfl 0 rfl rfl ?_
    refine zs_get (v := .ref (S.1 5)) C 2 2 rfl rfl rfl rfl ki_Nm (by decide) kw93 kd_Nm_isSame_37 rfl ?_
    refine zk_iload_n C kd_Nm_isSame_40 rfl 1 rfl rfl ?_
    obtain ⟨q2, e⟩ := zd_g e
    refine zs_iald C 5 rfl (zd_vp q2) kd_Nm_isSame_41 rfl ?_
    refine zk_iload C kd_Nm_isSame_42 5 rfl rfl ?_
    refine zk_iadd C kd_Nm_isSame_44 rfl ?_
    obtain ⟨q3, e⟩ := zd_g e
    refine zs_bald C 4 rfl (zd_vp q3) kd_Nm_isSame_45 rfl ?_
    refine zk_aload_n C kd_Nm_isSame_46 rfl 2 rfl rfl ?_
    refine zk_iload_n C kd_Nm_isSame_47 rfl 3 rfl rfl ?_
    refine zk_iload C kd_Nm_isSame_48 5 rfl rfl ?_
    refine zk_iadd C kd_Nm_isSame_50 rfl ?_
    obtain ⟨q4, e⟩ := zd_g e
    refine zs_bald C 1 rfl (zd_vp q4) kd_Nm_isSame_51 rfl ?_
    refine zk_callS (rn := { frames := 0, cells := 0, slots := 0, locals := 0 }) (As := [.int (h.2.1 1 (x3 + x5).toNatClampNeg)]) (rest := [.int (h.2.1 4 ((h.2.1 5 x1.toNatClampNeg) + x5).toNatClampNeg)]) C (zc_Nm_great h (h.2.1 1 (x3 + x5).toNatClampNeg)) ku_Nm_great kw707 ks_Nm_great rfl ⟨by decide, by decide⟩ ⟨by decide, by decide⟩ rfl (Nat.le_of_ble_eq_true rfl) kd_Nm_isSame_52 rfl (c1 := 0) (s1 := 0) rfl rfl (fun v w hp => ?_)
    obtain ⟨rfl, rfl⟩ := hp
    refine zk_stk (r' := [.int (f_Nm_great (h.2.1 1 (x3 + x5).toNatClampNeg)), .int (h.2.1 4 ((h.2.1 5 x1.toNatClampNeg) + x5).toNatClampNeg)]) rfl ?_
    refine zk_icmp_eq (tgt := 60) C kd_Nm_isSame_55 (by decide) rfl (fun b5 => ?_) (fun b5 => ?_)
    · replace e := zd_pos b5 e
      refine zk_iinc (v := (x5 + 1)) (lv' := [(5, _), (0, _), (1, _), (2, _), (3, _), (4, _)]) C kd_Nm_isSame_60 5 rfl rfl (by decide) rfl rfl ?_
      refine zk_goto (tgt := 25) C kd_Nm_isSame_63 (by decide) ?_
      refine zk_lvs (lv' := [(0, .ref (S.1 2)), (1, .int x1), (2, .ref (S.1 1)), (3, .int x3), (4, .int x4), (5, .int (x5 + 1))]) [1, 2, 3, 4, 5, 0] rfl ?_
      exact hk25 x1 x3 x4 (x5 + 1) e
    · replace e := zd_neg b5 e
      refine zk_iconst (v := 0) C kd_Nm_isSame_58 (by decide) rfl ?_
      exact zk_zret C hR (zd_nb (Or.inl rfl)) kd_Nm_isSame_59 rfl rfl (zd_rZO (Or.inl rfl) e)
theorem zl_Nm_isSame_c1_25 {X : zkj_T} {S : zs_T} {P : ze_T} {l : Launch} {D : va_G} {sz0 : Nat} {rv : Int32} {h : zs_H} (C : zk_C X km_Nm_isSame (zs_G S l D sz0) { frames := 1, cells := 0, slots := 0, locals := 20 } (ze_E P)) (hR : zkj_R X (zd_PZ S rv h) (some .boolean)) (n : Nat) : ∀ (x1 : Int32) (x3 : Int32) (x4 : Int32) (x5 : Int32), f_Nm_isSame_c1_L25 h n x1 x3 x4 x5 = some rv → zk_Ab X (zs_W S h) 0 0 25 [(0, .ref (S.1 2)), (1, .int x1), (2, .ref (S.1 1)), (3, .int x3), (4, .int x4), (5, .int x5)] [] := by
  induction n with
  | zero => intro x1 x3 x4 x5 e; exact zd_no e
  | succ n ih => intro x1 x3 x4 x5 e; exact zb_Nm_isSame_c1_25 (k25 := f_Nm_isSame_c1_L25 h n) C hR ih x1 x3 x4 x5 e
set_option maxHeartbeats 4000000 in
set_option maxRecDepth 100000 in
theorem zc_Nm_isSame_c1 {l : Launch} {D : va_G} {sz0 : Nat} {S : zs_T} {P : ze_T} (h : zs_H) (x1 : Int32) (x3 : Int32) (x4 : Int32) {rv : Int32} (e : f_Nm_isSame_c1 h x1 x3 x4 = some rv) : zk_Sp (zs_G S l D sz0) (ze_E P) km_Nm_isSame { frames := 1, cells := 0, slots := 0, locals := 20 } [.ref (S.1 2), .int x1, .ref (S.1 1), .int x3, .int x4] (zs_W S h) (zd_PZ S rv h) := by
  refine zk_met ku_Nm_isSame (Nat.le_of_ble_eq_true rfl) (ze_Em P) ?_
  intro X C hR
  refine zk_lvs (lv' := [(0, .ref (S.1 2)), (1, .int x1), (2, .ref (S.1 1)), (3, .int x3), (4, .int x4)]) [0, 1, 2, 3, 4] rfl ?_
  unfold f_Nm_isSame_c1 at e
  refine zk_aload_n C kd_Nm_isSame_0 rfl 0 rfl rfl ?_
  refine zs_get (v := .ref (S.1 5)) C 2 2 rfl rfl rfl rfl ki_Nm (by decide) kw93 kd_Nm_isSame_1 rfl ?_
  refine zk_iload_n C kd_Nm_isSame_4 rfl 1 rfl rfl ?_
  refine zk_iconst (v := 1) C kd_Nm_isSame_5 (by decide) rfl ?_
  refine zk_iadd C kd_Nm_isSame_6 rfl ?_
  obtain ⟨q1, e⟩ := zd_g e
  refine zs_iald C 5 rfl (zd_vp q1) kd_Nm_isSame_7 rfl ?_
  refine zk_aload_n C kd_Nm_isSame_8 rfl 0 rfl rfl ?_
  refine zs_get (v := .ref (S.1 5)) C 2 2 rfl rfl rfl rfl ki_Nm (by decide) kw93 kd_Nm_isSame_9 rfl ?_
  refine zk_iload_n C kd_Nm_isSame_12 rfl 1 rfl rfl ?_
  obtain ⟨q2, e⟩ := zd_g e
  refine zs_iald C 5 rfl (zd_vp q2) kd_Nm_isSame_13 rfl ?_
  refine zk_isub C kd_Nm_isSame_14 rfl ?_
  refine zk_iload C kd_Nm_isSame_15 4 rfl rfl ?_
  refine zk_icmp_eq (tgt := 22) C kd_Nm_isSame_17 (by decide) rfl (fun b3 => ?_) (fun b3 => ?_)
  · replace e := zd_pos b3 e
    refine zk_iconst (v := 0) C kd_Nm_isSame_22 (by decide) rfl ?_
    refine zk_istore (lv' := [(5, _), (0, _), (1, _), (2, _), (3, _), (4, _)]) C kd_Nm_isSame_23 (by decide) rfl rfl ?_
    refine zk_lvs (lv' := [(0, .ref (S.1 2)), (1, .int x1), (2, .ref (S.1 1)), (3, .int x3), (4, .int x4), (5, .int 0)]) [1, 2, 3, 4, 5, 0] rfl ?_
    exact zl_Nm_isSame_c1_25 C hR zF x1 x3 x4 0 e
  · replace e := zd_neg b3 e
    refine zk_iconst (v := 0) C kd_Nm_isSame_20 (by decide) rfl ?_
    exact zk_zret C hR (zd_nb (Or.inl rfl)) kd_Nm_isSame_21 rfl rfl (zd_rZO (Or.inl rfl) e)
set_option maxHeartbeats 4000000 in
set_option maxRecDepth 100000 in
theorem zb_Nm_find_c1_41 {X : zkj_T} {S : zs_T} {P : ze_T} {l : Launch} {D : va_G} {sz0 : Nat} {rv : Int32} {h : zs_H} (C : zk_C X km_Nm_find (zs_G S l D sz0) { frames := 2, cells := 0, slots := 0, locals := 45 } (ze_E P)) (hR : zkj_R X (zd_PI S rv h) (some .int)) {k41 : Int32 → Int32 → Int32 → Int32 → (Option Int32)} (hk41 : ∀ (x2 : Int32) (x3 : Int32) (x4 : Int32) (x5 : Int32), k41 x2 x3 x4 x5 = some rv → zk_Ab X (zs_W S h) 0 0 41 [(0, .ref (S.1 2)), (1, .ref (S.1 1)), (2, .int x2), (3, .int x3), (4, .int x4), (5, .int x5)] []) (x2 : Int32) (x3 : Int32) (x4 : Int32) (x5 : Int32) (e : f_Nm_find_c1_41 h k41 x2 x3 x4 x5 = some rv) : zk_Ab X (zs_W S h) 0 0 41 [(0, .ref (S.1 2)), (1, .ref (S.1 1)), (2, .int x2), (3, .int x3), (4, .int x4), (5, .int x5)] [] := by
  unfold f_Nm_find_c1_41 at e
  refine zk_iload C kd_Nm_find_41 5 rfl rfl ?_
  refine zk_sipush (v := 6000) C kd_Nm_find_43 (by decide) rfl ?_
  refine zk_icmp_ge (tgt := 85) C kd_Nm_find_46 (by decide) rfl (fun b1 => ?_) (fun b1 => ?_)
  · replace e := zd_pos b1 e
    refine zk_iconst (v := (-1)) C kd_Nm_find_85 (by decide) rfl ?_
    exact zk_iret C hR kd_Nm_find_86 rfl rfl (zd_rIO e)
  · replace e := zd_neg b1 e
    refine zk_iload C kd_Nm_find_49 4 rfl rfl ?_
    refine zk_iconst (v := (-1)) C kd_Nm_find_51 (by decide) rfl ?_
    refine zk_icmp_eq (tgt := 85) C kd_Nm_find_52 (by decide) rfl (fun b2 => ?_) (fun b2 => ?_)
    · replace e := zd_pos b2 e
      refine zk_iconst (v := (-1)) C kd_Nm_find_85 (by decide) rfl ?_
      exact zk_iret C hR kd_Nm_find_86 rfl rfl (zd_rIO e)
    · replace e := zd_neg b2 e
      refine zk_aload_n C kd_Nm_find_55 rfl 0 rfl rfl ?_
      refine zk_iload C kd_Nm_find_56 4 rfl rfl ?_
      refine zk_aload_n C kd_Nm_find_58 rfl 1 rfl rfl ?_
      refine zk_iload_n C kd_Nm_find_59 rfl 2 rfl rfl ?_
      refine zk_iload_n C kd_Nm_find_60 rfl 3 rfl rfl ?_
      obtain ⟨v4, c3, e⟩ := zd_b e
      refine zs_callV (k := 2) (rn := { frames := 1, cells := 0, slots := 0, locals := 20 }) (As := [.int x4, .ref (S.1 1), .int x2, .int x3]) (rest := []) C (zc_Nm_isSame_c1 h x4 x2 x3 c3) ku_Nm_isSame kw710 kv_Nm_isSame rfl ⟨by decide, by decide⟩ ⟨by decide, by decide⟩ rfl rfl rfl (Nat.le_of_ble_eq_true rfl) kd_Nm_find_61 rfl (c1 := 0) (s1 := 0) rfl rfl (fun v w hp => ?_)
      obtain ⟨rfl, rfl, z5⟩ := hp
      refine zk_stk (r' := [.int v4]) rfl ?_
      refine zk_if_eq (tgt := 70) C kd_Nm_find_64 (by decide) rfl (fun b6 => ?_) (fun b6 => ?_)
      · replace e := zd_pos b6 e
        refine zk_aload_n C kd_Nm_find_70 rfl 0 rfl rfl ?_
        refine zs_get (v := .ref (S.1 6)) C 2 3 rfl rfl rfl rfl ki_Nm (by decide) kw94 kd_Nm_find_71 rfl ?_
        refine zk_iload C kd_Nm_find_74 4 rfl rfl ?_
        obtain ⟨q7, e⟩ := zd_g e
        refine zs_iald C 6 rfl (zd_vp q7) kd_Nm_find_76 rfl ?_
        refine zk_istore (lv' := [(4, _), (0, _), (1, _), (2, _), (3, _), (5, _)]) C kd_Nm_find_77 (by decide) rfl rfl ?_
        refine zk_iinc (v := (x5 + 1)) (lv' := [(5, _), (4, _), (0, _), (1, _), (2, _), (3, _)]) C kd_Nm_find_79 5 rfl rfl (by decide) rfl rfl ?_
        refine zk_goto (tgt := 41) C kd_Nm_find_82 (by decide) ?_
        refine zk_lvs (lv' := [(0, .ref (S.1 2)), (1, .ref (S.1 1)), (2, .int x2), (3, .int x3), (4, .int (h.2.1 6 x4.toNatClampNeg)), (5, .int (x5 + 1))]) [2, 3, 4, 5, 1, 0] rfl ?_
        exact hk41 x2 x3 (h.2.1 6 x4.toNatClampNeg) (x5 + 1) e
      · replace e := zd_neg b6 e
        refine zk_iload C kd_Nm_find_67 4 rfl rfl ?_
        exact zk_iret C hR kd_Nm_find_69 rfl rfl (zd_rIO e)
theorem zl_Nm_find_c1_41 {X : zkj_T} {S : zs_T} {P : ze_T} {l : Launch} {D : va_G} {sz0 : Nat} {rv : Int32} {h : zs_H} (C : zk_C X km_Nm_find (zs_G S l D sz0) { frames := 2, cells := 0, slots := 0, locals := 45 } (ze_E P)) (hR : zkj_R X (zd_PI S rv h) (some .int)) (n : Nat) : ∀ (x2 : Int32) (x3 : Int32) (x4 : Int32) (x5 : Int32), f_Nm_find_c1_L41 h n x2 x3 x4 x5 = some rv → zk_Ab X (zs_W S h) 0 0 41 [(0, .ref (S.1 2)), (1, .ref (S.1 1)), (2, .int x2), (3, .int x3), (4, .int x4), (5, .int x5)] [] := by
  induction n with
  | zero => intro x2 x3 x4 x5 e; exact zd_no e
  | succ n ih => intro x2 x3 x4 x5 e; exact zb_Nm_find_c1_41 (k41 := f_Nm_find_c1_L41 h n) C hR ih x2 x3 x4 x5 e
set_option maxHeartbeats 4000000 in
set_option maxRecDepth 100000 in
theorem zc_Nm_find_c1 {l : Launch} {D : va_G} {sz0 : Nat} {S : zs_T} {P : ze_T} (h : zs_H) (x2 : Int32) (x3 : Int32) {rv : Int32} (e : f_Nm_find_c1 h x2 x3 = some rv) : zk_Sp (zs_G S l D sz0) (ze_E P) km_Nm_find { frames := 2, cells := 0, slots := 0, locals := 45 } [.ref (S.1 2), .ref (S.1 1), .int x2, .int x3] (zs_W S h) (zd_PI S rv h) := by
  refine zk_met ku_Nm_find (Nat.le_of_ble_eq_true rfl) (ze_Em P) ?_
  intro X C hR
  refine zk_lvs (lv' := [(0, .ref (S.1 2)), (1, .ref (S.1 1)), (2, .int x2), (3, .int x3)]) [0, 1, 2, 3] rfl ?_
  unfold f_Nm_find_c1 at e
  refine zk_iload_n C kd_Nm_find_0 rfl 3 rfl rfl ?_
  refine zk_iconst (v := 1) C kd_Nm_find_1 (by decide) rfl ?_
  refine zk_icmp_lt (tgt := 23) C kd_Nm_find_2 (by decide) rfl (fun b1 => ?_) (fun b1 => ?_)
  · replace e := zd_pos b1 e
    refine zk_iconst (v := (-1)) C kd_Nm_find_23 (by decide) rfl ?_
    exact zk_iret C hR kd_Nm_find_24 rfl rfl (zd_rIO e)
  · replace e := zd_neg b1 e
    refine zk_iload_n C kd_Nm_find_5 rfl 3 rfl rfl ?_
    refine zk_bipush (v := 32) C kd_Nm_find_6 (by decide) rfl ?_
    refine zk_icmp_gt (tgt := 23) C kd_Nm_find_8 (by decide) rfl (fun b2 => ?_) (fun b2 => ?_)
    · replace e := zd_pos b2 e
      refine zk_iconst (v := (-1)) C kd_Nm_find_23 (by decide) rfl ?_
      exact zk_iret C hR kd_Nm_find_24 rfl rfl (zd_rIO e)
    · replace e := zd_neg b2 e
      refine zk_iload_n C kd_Nm_find_11 rfl 2 rfl rfl ?_
      refine zk_if_lt (tgt := 23) C kd_Nm_find_12 (by decide) rfl (fun b3 => ?_) (fun b3 => ?_)
      · replace e := zd_pos b3 e
        refine zk_iconst (v := (-1)) C kd_Nm_find_23 (by decide) rfl ?_
        exact zk_iret C hR kd_Nm_find_24 rfl rfl (zd_rIO e)
      · replace e := zd_neg b3 e
        refine zk_iload_n C kd_Nm_find_15 rfl 2 rfl rfl ?_
        refine zk_iload_n C kd_Nm_find_16 rfl 3 rfl rfl ?_
        refine zk_iadd C kd_Nm_find_17 rfl ?_
        refine zk_aload_n C kd_Nm_find_18 rfl 1 rfl rfl ?_
        refine zs_alen (v := 16384) C 1 rfl (by decide) rfl kd_Nm_find_19 rfl ?_
        refine zk_icmp_le (tgt := 25) C kd_Nm_find_20 (by decide) rfl (fun b4 => ?_) (fun b4 => ?_)
        · replace e := zd_pos b4 e
          refine zk_aload_n C kd_Nm_find_25 rfl 0 rfl rfl ?_
          refine zs_get (v := .ref (S.1 7)) C 2 4 rfl rfl rfl rfl ki_Nm (by decide) kw95 kd_Nm_find_26 rfl ?_
          refine zk_aload_n C kd_Nm_find_29 rfl 1 rfl rfl ?_
          refine zk_iload_n C kd_Nm_find_30 rfl 2 rfl rfl ?_
          refine zk_iload_n C kd_Nm_find_31 rfl 3 rfl rfl ?_
          obtain ⟨v6, c5, e⟩ := zd_b e
          refine zk_callS (rn := { frames := 1, cells := 0, slots := 0, locals := 20 }) (As := [.ref (S.1 1), .int x2, .int x3]) (rest := [.ref (S.1 7)]) C (zc_Nm_headOf_c1 h x2 x3 c5) ku_Nm_headOf kw704 ks_Nm_headOf rfl ⟨by decide, by decide⟩ ⟨by decide, by decide⟩ rfl (Nat.le_of_ble_eq_true rfl) kd_Nm_find_32 rfl (c1 := 0) (s1 := 0) rfl rfl (fun v w hp => ?_)
          obtain ⟨rfl, rfl⟩ := hp
          refine zk_stk (r' := [.int v6, .ref (S.1 7)]) rfl ?_
          obtain ⟨q7, e⟩ := zd_g e
          refine zs_iald C 7 rfl (zd_vp q7) kd_Nm_find_35 rfl ?_
          refine zk_istore (lv' := [(4, _), (0, _), (1, _), (2, _), (3, _)]) C kd_Nm_find_36 (by decide) rfl rfl ?_
          refine zk_iconst (v := 0) C kd_Nm_find_38 (by decide) rfl ?_
          refine zk_istore (lv' := [(5, _), (4, _), (0, _), (1, _), (2, _), (3, _)]) C kd_Nm_find_39 (by decide) rfl rfl ?_
          refine zk_lvs (lv' := [(0, .ref (S.1 2)), (1, .ref (S.1 1)), (2, .int x2), (3, .int x3), (4, .int (h.2.1 7 v6.toNatClampNeg)), (5, .int 0)]) [2, 3, 4, 5, 1, 0] rfl ?_
          exact zl_Nm_find_c1_41 C hR zF x2 x3 (h.2.1 7 v6.toNatClampNeg) 0 e
        · replace e := zd_neg b4 e
          refine zk_iconst (v := (-1)) C kd_Nm_find_23 (by decide) rfl ?_
          exact zk_iret C hR kd_Nm_find_24 rfl rfl (zd_rIO e)
set_option maxHeartbeats 4000000 in
set_option maxRecDepth 100000 in
theorem zb_Pl_variableOf_7 {X : zkj_T} {S : zs_T} {P : ze_T} {l : Launch} {D : va_G} {sz0 : Nat} {rv : Int32} {h : zs_H} (C : zk_C X km_Pl_variableOf (zs_G S l D sz0) { frames := 0, cells := 0, slots := 0, locals := 0 } (ze_E P)) (hR : zkj_R X (zd_PI S rv h) (some .int)) {k7 : Int32 → Int32 → Int32 → (Option Int32)} (hk7 : ∀ (x1 : Int32) (x2 : Int32) (x3 : Int32), k7 x1 x2 x3 = some rv → zk_Ab X (zs_W S h) 0 0 7 [(0, .ref (S.1 20)), (1, .int x1), (2, .int x2), (3, .int x3)] []) (x1 : Int32) (x2 : Int32) (x3 : Int32) (e : f_Pl_variableOf_7 h k7 x1 x2 x3 = some rv) : zk_Ab X (zs_W S h) 0 0 7 [(0, .ref (S.1 20)), (1, .int x1), (2, .int x2), (3, .int x3)] [] := by
  unfold f_Pl_variableOf_7 at e
  refine zk_iload_n C kd_Pl_variableOf_7 rfl 3 rfl rfl ?_
  refine zk_aload_n C kd_Pl_variableOf_8 rfl 0 rfl rfl ?_
  refine zs_get (v := .ref (S.1 24)) C 20 3 rfl rfl rfl rfl ki_Pl (by decide) kw243 kd_Pl_variableOf_9 rfl ?_
  refine zk_iload_n C kd_Pl_variableOf_12 rfl 1 rfl rfl ?_
  obtain ⟨q1, e⟩ := zd_g e
  refine zs_iald C 24 rfl (zd_vp q1) kd_Pl_variableOf_13 rfl ?_
  refine zk_icmp_ge (tgt := 35) C kd_Pl_variableOf_14 (by decide) rfl (fun b2 => ?_) (fun b2 => ?_)
  · replace e := zd_pos b2 e
    refine zk_iconst (v := (-1)) C kd_Pl_variableOf_35 (by decide) rfl ?_
    exact zk_iret C hR kd_Pl_variableOf_36 rfl rfl (zd_rIO e)
  · replace e := zd_neg b2 e
    refine zk_aload_n C kd_Pl_variableOf_17 rfl 0 rfl rfl ?_
    refine zs_get (v := .ref (S.1 28)) C 20 7 rfl rfl rfl rfl ki_Pl (by decide) kw255 kd_Pl_variableOf_18 rfl ?_
    refine zk_iload_n C kd_Pl_variableOf_21 rfl 3 rfl rfl ?_
    obtain ⟨q3, e⟩ := zd_g e
    refine zs_iald C 28 rfl (zd_vp q3) kd_Pl_variableOf_22 rfl ?_
    refine zk_iload_n C kd_Pl_variableOf_23 rfl 2 rfl rfl ?_
    refine zk_icmp_ne (tgt := 29) C kd_Pl_variableOf_24 (by decide) rfl (fun b4 => ?_) (fun b4 => ?_)
    · replace e := zd_neg b4 e
      refine zk_iinc (v := (x3 + 1)) (lv' := [(3, _), (0, _), (1, _), (2, _)]) C kd_Pl_variableOf_29 3 rfl rfl (by decide) rfl rfl ?_
      refine zk_goto (tgt := 7) C kd_Pl_variableOf_32 (by decide) ?_
      refine zk_lvs (lv' := [(0, .ref (S.1 20)), (1, .int x1), (2, .int x2), (3, .int (x3 + 1))]) [1, 2, 3, 0] rfl ?_
      exact hk7 x1 x2 (x3 + 1) e
    · replace e := zd_pos b4 e
      refine zk_iload_n C kd_Pl_variableOf_27 rfl 3 rfl rfl ?_
      exact zk_iret C hR kd_Pl_variableOf_28 rfl rfl (zd_rIO e)
theorem zl_Pl_variableOf_7 {X : zkj_T} {S : zs_T} {P : ze_T} {l : Launch} {D : va_G} {sz0 : Nat} {rv : Int32} {h : zs_H} (C : zk_C X km_Pl_variableOf (zs_G S l D sz0) { frames := 0, cells := 0, slots := 0, locals := 0 } (ze_E P)) (hR : zkj_R X (zd_PI S rv h) (some .int)) (n : Nat) : ∀ (x1 : Int32) (x2 : Int32) (x3 : Int32), f_Pl_variableOf_L7 h n x1 x2 x3 = some rv → zk_Ab X (zs_W S h) 0 0 7 [(0, .ref (S.1 20)), (1, .int x1), (2, .int x2), (3, .int x3)] [] := by
  induction n with
  | zero => intro x1 x2 x3 e; exact zd_no e
  | succ n ih => intro x1 x2 x3 e; exact zb_Pl_variableOf_7 (k7 := f_Pl_variableOf_L7 h n) C hR ih x1 x2 x3 e
set_option maxHeartbeats 4000000 in
set_option maxRecDepth 100000 in
theorem zc_Pl_variableOf {l : Launch} {D : va_G} {sz0 : Nat} {S : zs_T} {P : ze_T} (h : zs_H) (x1 : Int32) (x2 : Int32) {rv : Int32} (e : f_Pl_variableOf h x1 x2 = some rv) : zk_Sp (zs_G S l D sz0) (ze_E P) km_Pl_variableOf { frames := 0, cells := 0, slots := 0, locals := 0 } [.ref (S.1 20), .int x1, .int x2] (zs_W S h) (zd_PI S rv h) := by
  refine zk_met ku_Pl_variableOf (Nat.le_of_ble_eq_true rfl) (ze_Em P) ?_
  intro X C hR
  refine zk_lvs (lv' := [(0, .ref (S.1 20)), (1, .int x1), (2, .int x2)]) [0, 1, 2] rfl ?_
  unfold f_Pl_variableOf at e
  refine zk_aload_n C kd_Pl_variableOf_0 rfl 0 rfl rfl ?_
  refine zs_get (v := .ref (S.1 23)) C 20 2 rfl rfl rfl rfl ki_Pl (by decide) kw239 kd_Pl_variableOf_1 rfl ?_
  refine zk_iload_n C kd_Pl_variableOf_4 rfl 1 rfl rfl ?_
  obtain ⟨q1, e⟩ := zd_g e
  refine zs_iald C 23 rfl (zd_vp q1) kd_Pl_variableOf_5 rfl ?_
  refine zk_istore_n (lv' := [(3, _), (0, _), (1, _), (2, _)]) C kd_Pl_variableOf_6 rfl (by decide) rfl rfl ?_
  refine zk_lvs (lv' := [(0, .ref (S.1 20)), (1, .int x1), (2, .int x2), (3, .int (h.2.1 23 x1.toNatClampNeg))]) [1, 2, 3, 0] rfl ?_
  exact zl_Pl_variableOf_7 C hR zF x1 x2 (h.2.1 23 x1.toNatClampNeg) e
set_option maxHeartbeats 4000000 in
set_option maxRecDepth 100000 in
theorem zc_Mc_cellAt {l : Launch} {D : va_G} {sz0 : Nat} {S : zs_T} {P : ze_T} (h : zs_H) (x1 : Int32) {rv : Int32} (e : f_Mc_cellAt h x1 = some rv) : zk_Sp (zs_G S l D sz0) (ze_E P) km_Mc_cellAt { frames := 0, cells := 0, slots := 0, locals := 0 } [.ref (S.1 58), .int x1] (zs_W S h) (zd_PI S rv h) := by
  refine zk_met ku_Mc_cellAt (Nat.le_of_ble_eq_true rfl) (ze_Em P) ?_
  intro X C hR
  refine zk_lvs (lv' := [(0, .ref (S.1 58)), (1, .int x1)]) [0, 1] rfl ?_
  unfold f_Mc_cellAt at e
  refine zk_iload_n C kd_Mc_cellAt_0 rfl 1 rfl rfl ?_
  refine zk_if_lt (tgt := 22) C kd_Mc_cellAt_1 (by decide) rfl (fun b1 => ?_) (fun b1 => ?_)
  · replace e := zd_pos b1 e
    refine zk_iconst (v := 0) C kd_Mc_cellAt_22 (by decide) rfl ?_
    exact zk_iret C hR kd_Mc_cellAt_23 rfl rfl (zd_rIO e)
  · replace e := zd_neg b1 e
    refine zk_iload_n C kd_Mc_cellAt_4 rfl 1 rfl rfl ?_
    refine zk_aload_n C kd_Mc_cellAt_5 rfl 0 rfl rfl ?_
    refine zs_get (v := .ref (S.1 62)) C 58 12 rfl rfl rfl rfl ki_Mc (by decide) kw539 kd_Mc_cellAt_6 rfl ?_
    refine zs_alen (v := 8192) C 62 rfl (by decide) rfl kd_Mc_cellAt_9 rfl ?_
    refine zk_icmp_ge (tgt := 22) C kd_Mc_cellAt_10 (by decide) rfl (fun b2 => ?_) (fun b2 => ?_)
    · replace e := zd_pos b2 e
      refine zk_iconst (v := 0) C kd_Mc_cellAt_22 (by decide) rfl ?_
      exact zk_iret C hR kd_Mc_cellAt_23 rfl rfl (zd_rIO e)
    · replace e := zd_neg b2 e
      refine zk_aload_n C kd_Mc_cellAt_13 rfl 0 rfl rfl ?_
      refine zs_get (v := .ref (S.1 62)) C 58 12 rfl rfl rfl rfl ki_Mc (by decide) kw539 kd_Mc_cellAt_14 rfl ?_
      refine zk_iload_n C kd_Mc_cellAt_17 rfl 1 rfl rfl ?_
      obtain ⟨q3, e⟩ := zd_g e
      refine zs_iald C 62 rfl (zd_vp q3) kd_Mc_cellAt_18 rfl ?_
      refine zk_goto (tgt := 23) C kd_Mc_cellAt_19 (by decide) ?_
      exact zk_iret C hR kd_Mc_cellAt_23 rfl rfl (zd_rIO e)
set_option maxHeartbeats 4000000 in
set_option maxRecDepth 100000 in
theorem zc_Pk_show {l : Launch} {D : va_G} {sz0 : Nat} {S : zs_T} {P : ze_T} (h : zs_H) (x1 : Int32) (x2 : Int32) {rv : Int32} {rh : zs_H} (e : f_Pk_show h x1 x2 = some (rv, rh)) : zk_Sp (zs_G S l D sz0) (ze_E P) km_Pk_show { frames := 1, cells := 0, slots := 0, locals := 21 } [.ref (S.1 0), .int x1, .int x2] (zs_W S h) (zd_PI S rv rh) := by
  refine zk_met ku_Pk_show (Nat.le_of_ble_eq_true rfl) (ze_Em P) ?_
  intro X C hR
  refine zk_lvs (lv' := [(0, .ref (S.1 0)), (1, .int x1), (2, .int x2)]) [0, 1, 2] rfl ?_
  unfold f_Pk_show at e
  refine zk_aload_n C kd_Pk_show_0 rfl 0 rfl rfl ?_
  refine zk_aload_n C kd_Pk_show_1 rfl 0 rfl rfl ?_
  refine zs_get (v := .ref (S.1 58)) C 0 14 rfl rfl rfl rfl ki_Pk (by decide) kw633 kd_Pk_show_2 rfl ?_
  refine zk_iload_n C kd_Pk_show_5 rfl 2 rfl rfl ?_
  obtain ⟨v2, c1, e⟩ := zd_b e
  refine zs_callV (k := 58) (rn := { frames := 0, cells := 0, slots := 0, locals := 0 }) (As := [.int x2]) (rest := [.ref (S.1 0)]) C (zc_Mc_cellAt h x2 c1) ku_Mc_cellAt kw1590 kv_Mc_cellAt rfl ⟨by decide, by decide⟩ ⟨by decide, by decide⟩ rfl rfl rfl (Nat.le_of_ble_eq_true rfl) kd_Pk_show_6 rfl (c1 := 0) (s1 := 0) rfl rfl (fun v w hp => ?_)
  obtain ⟨rfl, rfl⟩ := hp
  refine zk_stk (r' := [.int v2, .ref (S.1 0)]) rfl ?_
  refine zs_put (ty := .int) C 0 4 v2 rfl rfl rfl rfl ki_Pk ky_Pk ko_Pk kn_Pk (by decide) kw623 rfl rfl rfl rfl (by decide) kd_Pk_show_9 rfl ?_
  refine zk_aload_n C kd_Pk_show_12 rfl 0 rfl rfl ?_
  refine zs_get (v := .ref (S.1 20)) C 0 9 rfl rfl rfl rfl ki_Pk (by decide) kw628 kd_Pk_show_13 rfl ?_
  refine zs_get (v := .ref (S.1 31)) C 20 10 rfl rfl rfl rfl ki_Pl (by decide) kw267 kd_Pk_show_16 rfl ?_
  refine zk_iload_n C kd_Pk_show_19 rfl 1 rfl rfl ?_
  obtain ⟨q3, e⟩ := zd_g e
  refine zs_iald C 31 rfl (zd_vp q3) kd_Pk_show_20 rfl ?_
  refine zk_stk (r' := [.int (h.2.1 31 x1.toNatClampNeg)]) rfl ?_
  exact zk_iret C hR kd_Pk_show_21 rfl rfl (zd_rIS e)
set_option maxHeartbeats 4000000 in
set_option maxRecDepth 100000 in
theorem zb_Pk_indexOnTape_171 {X : zkj_T} {S : zs_T} {P : ze_T} {l : Launch} {D : va_G} {sz0 : Nat} {rv : Int32} {h : zs_H} (C : zk_C X km_Pk_indexOnTape (zs_G S l D sz0) { frames := 1, cells := 0, slots := 0, locals := 23 } (ze_E P)) (hR : zkj_R X (zd_PI S rv h) (some .int)) (x1 : Int32) (y0 : Int64) (e : f_Pk_indexOnTape_171 h x1 y0 = some rv) : zk_Ab X (zs_W S h) 0 0 171 [(0, .ref (S.1 0)), (1, .int x1)] [.long y0] := by
  unfold f_Pk_indexOnTape_171 at e
  refine zk_aload_n C kd_Pk_indexOnTape_171 rfl 0 rfl rfl ?_
  refine zs_get (v := .ref (S.1 20)) C 0 9 rfl rfl rfl rfl ki_Pk (by decide) kw628 kd_Pk_indexOnTape_172 rfl ?_
  refine zs_get (v := .ref (S.1 33)) C 20 12 rfl rfl rfl rfl ki_Pl (by decide) kw275 kd_Pk_indexOnTape_175 rfl ?_
  refine zk_iload_n C kd_Pk_indexOnTape_178 rfl 1 rfl rfl ?_
  obtain ⟨q1, e⟩ := zd_g e
  refine zs_iald C 33 rfl (zd_vp q1) kd_Pk_indexOnTape_179 rfl ?_
  refine zk_i2l C kd_Pk_indexOnTape_180 rfl ?_
  refine zk_lsub C kd_Pk_indexOnTape_181 rfl ?_
  refine zk_lstore (lv' := [(8, _), (0, _), (1, _)]) C kd_Pk_indexOnTape_182 (by decide) rfl rfl ?_
  refine zk_lload C kd_Pk_indexOnTape_184 0 rfl rfl ?_
  refine zk_lconst (v := 0) C kd_Pk_indexOnTape_186 (by decide) rfl ?_
  refine zk_lcmp C kd_Pk_indexOnTape_187 rfl ?_
  refine zk_if_lt (tgt := 213) C kd_Pk_indexOnTape_188 (by decide) rfl (fun b2 => ?_) (fun b2 => ?_)
  · replace e := zd_pos (zd_clt.mp b2) e
    refine zk_iconst (v := (-1)) C kd_Pk_indexOnTape_213 (by decide) rfl ?_
    exact zk_iret C hR kd_Pk_indexOnTape_214 rfl rfl (zd_rIO e)
  · replace e := zd_neg (fun z => b2 (zd_clt.mpr z)) e
    refine zk_lload C kd_Pk_indexOnTape_191 0 rfl rfl ?_
    refine zk_aload_n C kd_Pk_indexOnTape_193 rfl 1 rfl rfl ?_
    refine zs_get (v := .ref (S.1 20)) C 0 9 rfl rfl rfl rfl ki_Pk (by decide) kw628 kd_Pk_indexOnTape_194 rfl ?_
    refine zs_get (v := .ref (S.1 34)) C 20 13 rfl rfl rfl rfl ki_Pl (by decide) kw280 kd_Pk_indexOnTape_197 rfl ?_
    refine zk_iload_n C kd_Pk_indexOnTape_200 rfl 2 rfl rfl ?_
    refine zs_iald C 34 rfl (zd_vp q1) kd_Pk_indexOnTape_201 rfl ?_
    refine zk_i2l C kd_Pk_indexOnTape_202 rfl ?_
    refine zk_lcmp C kd_Pk_indexOnTape_203 rfl ?_
    refine zk_if_ge (tgt := 213) C kd_Pk_indexOnTape_204 (by decide) rfl (fun b3 => ?_) (fun b3 => ?_)
    · replace e := zd_pos (zd_cge.mp b3) e
      refine zk_iconst (v := (-1)) C kd_Pk_indexOnTape_213 (by decide) rfl ?_
      exact zk_iret C hR kd_Pk_indexOnTape_214 rfl rfl (zd_rIO e)
    · replace e := zd_neg (fun z => b3 (zd_cge.mpr z)) e
      refine zk_lload C kd_Pk_indexOnTape_207 0 rfl rfl ?_
      refine zk_l2i C kd_Pk_indexOnTape_209 rfl ?_
      refine zk_goto (tgt := 214) C kd_Pk_indexOnTape_210 (by decide) ?_
      exact zk_iret C hR kd_Pk_indexOnTape_214 rfl rfl (zd_rIO e)
set_option maxHeartbeats 4000000 in
set_option maxRecDepth 100000 in
theorem zb_Pk_indexOnTape_91 {X : zkj_T} {S : zs_T} {P : ze_T} {l : Launch} {D : va_G} {sz0 : Nat} {rv : Int32} {h : zs_H} (C : zk_C X km_Pk_indexOnTape (zs_G S l D sz0) { frames := 1, cells := 0, slots := 0, locals := 23 } (ze_E P)) (hR : zkj_R X (zd_PI S rv h) (some .int)) {k91 : Int32 → Int32 → Int32 → Int64 → Int32 → (Option Int32)} (hk91 : ∀ (x1 : Int32) (x3 : Int32) (x4 : Int32) (x6 : Int64) (x8 : Int32), k91 x1 x3 x4 x6 x8 = some rv → zk_Ab X (zs_W S h) 0 0 91 [(0, .ref (S.1 0)), (1, .int x1), (3, .int x3), (4, .int x4), (6, .long x6), (8, .int x8)] []) (x1 : Int32) (x3 : Int32) (x4 : Int32) (x6 : Int64) (x8 : Int32) (e : f_Pk_indexOnTape_91 h k91 x1 x3 x4 x6 x8 = some rv) : zk_Ab X (zs_W S h) 0 0 91 [(0, .ref (S.1 0)), (1, .int x1), (3, .int x3), (4, .int x4), (6, .long x6), (8, .int x8)] [] := by
  unfold f_Pk_indexOnTape_91 at e
  refine zk_iload C kd_Pk_indexOnTape_91 5 rfl rfl ?_
  refine zk_iload_n C kd_Pk_indexOnTape_93 rfl 2 rfl rfl ?_
  refine zk_iconst (v := 1) C kd_Pk_indexOnTape_94 (by decide) rfl ?_
  refine zk_isub C kd_Pk_indexOnTape_95 rfl ?_
  refine zk_icmp_ge (tgt := 158) C kd_Pk_indexOnTape_96 (by decide) rfl (fun b1 => ?_) (fun b1 => ?_)
  · replace e := zd_pos b1 e
    refine zk_iload C kd_Pk_indexOnTape_158 3 rfl rfl ?_
    refine zk_if_eq (tgt := 169) C kd_Pk_indexOnTape_160 (by decide) rfl (fun b2 => ?_) (fun b2 => ?_)
    · replace e := zd_pos b2 e
      refine zk_lload C kd_Pk_indexOnTape_169 4 rfl rfl ?_
      refine zk_lvs (lv' := [(0, .ref (S.1 0)), (1, .int x1)]) [0, 1] rfl ?_
      exact zb_Pk_indexOnTape_171 C hR x1 x6 e
    · replace e := zd_neg b2 e
      refine zk_lload C kd_Pk_indexOnTape_163 4 rfl rfl ?_
      refine zk_lneg C kd_Pk_indexOnTape_165 rfl ?_
      refine zk_goto (tgt := 171) C kd_Pk_indexOnTape_166 (by decide) ?_
      refine zk_lvs (lv' := [(0, .ref (S.1 0)), (1, .int x1)]) [0, 1] rfl ?_
      exact zb_Pk_indexOnTape_171 C hR x1 (-x6) e
  · replace e := zd_neg b1 e
    refine zk_aload_n C kd_Pk_indexOnTape_99 rfl 0 rfl rfl ?_
    refine zs_get (v := .ref (S.1 1)) C 0 0 rfl rfl rfl rfl ki_Pk (by decide) kw619 kd_Pk_indexOnTape_100 rfl ?_
    refine zk_iload C kd_Pk_indexOnTape_103 5 rfl rfl ?_
    obtain ⟨q3, e⟩ := zd_g e
    refine zs_bald C 1 rfl (zd_vp q3) kd_Pk_indexOnTape_105 rfl ?_
    refine zk_bipush (v := 48) C kd_Pk_indexOnTape_106 (by decide) rfl ?_
    refine zk_icmp_lt (tgt := 123) C kd_Pk_indexOnTape_108 (by decide) rfl (fun b4 => ?_) (fun b4 => ?_)
    · replace e := zd_pos b4 e
      refine zk_iconst (v := (-1)) C kd_Pk_indexOnTape_123 (by decide) rfl ?_
      exact zk_iret C hR kd_Pk_indexOnTape_124 rfl rfl (zd_rIO e)
    · replace e := zd_neg b4 e
      refine zk_aload_n C kd_Pk_indexOnTape_111 rfl 0 rfl rfl ?_
      refine zs_get (v := .ref (S.1 1)) C 0 0 rfl rfl rfl rfl ki_Pk (by decide) kw619 kd_Pk_indexOnTape_112 rfl ?_
      refine zk_iload C kd_Pk_indexOnTape_115 5 rfl rfl ?_
      refine zs_bald C 1 rfl (zd_vp q3) kd_Pk_indexOnTape_117 rfl ?_
      refine zk_bipush (v := 57) C kd_Pk_indexOnTape_118 (by decide) rfl ?_
      refine zk_icmp_le (tgt := 125) C kd_Pk_indexOnTape_120 (by decide) rfl (fun b5 => ?_) (fun b5 => ?_)
      · replace e := zd_pos b5 e
        refine zk_lload C kd_Pk_indexOnTape_125 4 rfl rfl ?_
        refine zk_ldc2 (v := 10) C kw1595 kd_Pk_indexOnTape_127 rfl ?_
        refine zk_lmul C kd_Pk_indexOnTape_130 rfl ?_
        refine zk_aload_n C kd_Pk_indexOnTape_131 rfl 0 rfl rfl ?_
        refine zs_get (v := .ref (S.1 1)) C 0 0 rfl rfl rfl rfl ki_Pk (by decide) kw619 kd_Pk_indexOnTape_132 rfl ?_
        refine zk_iload C kd_Pk_indexOnTape_135 5 rfl rfl ?_
        refine zs_bald C 1 rfl (zd_vp q3) kd_Pk_indexOnTape_137 rfl ?_
        refine zk_i2l C kd_Pk_indexOnTape_138 rfl ?_
        refine zk_ladd C kd_Pk_indexOnTape_139 rfl ?_
        refine zk_ldc2 (v := 48) C kw1596 kd_Pk_indexOnTape_140 rfl ?_
        refine zk_lsub C kd_Pk_indexOnTape_143 rfl ?_
        refine zk_ldc2 (v := 1099511627776) C kw1597 kd_Pk_indexOnTape_144 rfl ?_
        refine zk_mminl C kw1598 kw760 kw19 (by decide) (Nat.le_of_ble_eq_true rfl) (Nat.le_refl _) (Nat.le_refl _) kd_Pk_indexOnTape_147 rfl ?_
        refine zk_lstore (lv' := [(6, _), (0, _), (1, _), (3, _), (4, _), (8, _)]) C kd_Pk_indexOnTape_150 (by decide) rfl rfl ?_
        refine zk_iinc (v := (x8 + 1)) (lv' := [(8, _), (6, _), (0, _), (1, _), (3, _), (4, _)]) C kd_Pk_indexOnTape_152 5 rfl rfl (by decide) rfl rfl ?_
        refine zk_goto (tgt := 91) C kd_Pk_indexOnTape_155 (by decide) ?_
        refine zk_lvs (lv' := [(0, .ref (S.1 0)), (1, .int x1), (3, .int x3), (4, .int x4), (6, .long (zd_minl (((x6 * (10 : Int64)) + ((h.2.1 1 x8.toNatClampNeg).toInt64)) - (48 : Int64)) (1099511627776 : Int64))), (8, .int (x8 + 1))]) [2, 3, 4, 5, 1, 0] rfl ?_
        exact hk91 x1 x3 x4 (zd_minl (((x6 * (10 : Int64)) + ((h.2.1 1 x8.toNatClampNeg).toInt64)) - (48 : Int64)) (1099511627776 : Int64)) (x8 + 1) e
      · replace e := zd_neg b5 e
        refine zk_iconst (v := (-1)) C kd_Pk_indexOnTape_123 (by decide) rfl ?_
        exact zk_iret C hR kd_Pk_indexOnTape_124 rfl rfl (zd_rIO e)
theorem zl_Pk_indexOnTape_91 {X : zkj_T} {S : zs_T} {P : ze_T} {l : Launch} {D : va_G} {sz0 : Nat} {rv : Int32} {h : zs_H} (C : zk_C X km_Pk_indexOnTape (zs_G S l D sz0) { frames := 1, cells := 0, slots := 0, locals := 23 } (ze_E P)) (hR : zkj_R X (zd_PI S rv h) (some .int)) (n : Nat) : ∀ (x1 : Int32) (x3 : Int32) (x4 : Int32) (x6 : Int64) (x8 : Int32), f_Pk_indexOnTape_L91 h n x1 x3 x4 x6 x8 = some rv → zk_Ab X (zs_W S h) 0 0 91 [(0, .ref (S.1 0)), (1, .int x1), (3, .int x3), (4, .int x4), (6, .long x6), (8, .int x8)] [] := by
  induction n with
  | zero => intro x1 x3 x4 x6 x8 e; exact zd_no e
  | succ n ih => intro x1 x3 x4 x6 x8 e; exact zb_Pk_indexOnTape_91 (k91 := f_Pk_indexOnTape_L91 h n) C hR ih x1 x3 x4 x6 x8 e
set_option maxHeartbeats 4000000 in
set_option maxRecDepth 100000 in
theorem zb_Pk_indexOnTape_72 {X : zkj_T} {S : zs_T} {P : ze_T} {l : Launch} {D : va_G} {sz0 : Nat} {rv : Int32} {h : zs_H} (C : zk_C X km_Pk_indexOnTape (zs_G S l D sz0) { frames := 1, cells := 0, slots := 0, locals := 23 } (ze_E P)) (hR : zkj_R X (zd_PI S rv h) (some .int)) (x1 : Int32) (x3 : Int32) (x4 : Int32) (y0 : Int32) (e : f_Pk_indexOnTape_72 h x1 x3 x4 y0 = some rv) : zk_Ab X (zs_W S h) 0 0 72 [(0, .ref (S.1 0)), (1, .int x1), (3, .int x3), (4, .int x4)] [.int y0] := by
  unfold f_Pk_indexOnTape_72 at e
  refine zk_istore (lv' := [(5, _), (0, _), (1, _), (3, _), (4, _)]) C kd_Pk_indexOnTape_72 (by decide) rfl rfl ?_
  refine zk_iload C kd_Pk_indexOnTape_74 0 rfl rfl ?_
  refine zk_iload_n C kd_Pk_indexOnTape_76 rfl 3 rfl rfl ?_
  refine zk_iconst (v := 1) C kd_Pk_indexOnTape_77 (by decide) rfl ?_
  refine zk_isub C kd_Pk_indexOnTape_78 rfl ?_
  refine zk_icmp_lt (tgt := 84) C kd_Pk_indexOnTape_79 (by decide) rfl (fun b1 => ?_) (fun b1 => ?_)
  · replace e := zd_pos b1 e
    refine zk_lconst (v := 0) C kd_Pk_indexOnTape_84 (by decide) rfl ?_
    refine zk_lstore (lv' := [(6, _), (5, _), (0, _), (1, _), (3, _), (4, _)]) C kd_Pk_indexOnTape_85 (by decide) rfl rfl ?_
    refine zk_iload C kd_Pk_indexOnTape_87 1 rfl rfl ?_
    refine zk_istore (lv' := [(8, _), (6, _), (5, _), (0, _), (1, _), (3, _), (4, _)]) C kd_Pk_indexOnTape_89 (by decide) rfl rfl ?_
    refine zk_lvs (lv' := [(0, .ref (S.1 0)), (1, .int x1), (3, .int x3), (4, .int x4), (6, .long 0), (8, .int y0)]) [3, 4, 5, 6, 1, 0] rfl ?_
    exact zl_Pk_indexOnTape_91 C hR zF x1 x3 x4 (0 : Int64) y0 e
  · replace e := zd_neg b1 e
    refine zk_iconst (v := (-1)) C kd_Pk_indexOnTape_82 (by decide) rfl ?_
    exact zk_iret C hR kd_Pk_indexOnTape_83 rfl rfl (zd_rIO e)
set_option maxHeartbeats 4000000 in
set_option maxRecDepth 100000 in
theorem zb_Pk_indexOnTape_56 {X : zkj_T} {S : zs_T} {P : ze_T} {l : Launch} {D : va_G} {sz0 : Nat} {rv : Int32} {h : zs_H} (C : zk_C X km_Pk_indexOnTape (zs_G S l D sz0) { frames := 1, cells := 0, slots := 0, locals := 23 } (ze_E P)) (hR : zkj_R X (zd_PI S rv h) (some .int)) (x1 : Int32) (x2 : Int32) (x3 : Int32) (y0 : Int32) (e : f_Pk_indexOnTape_56 h x1 x2 x3 y0 = some rv) : zk_Ab X (zs_W S h) 0 0 56 [(0, .ref (S.1 0)), (1, .int x1), (2, .int x2), (3, .int x3)] [.int y0] := by
  unfold f_Pk_indexOnTape_56 at e
  refine zk_istore (lv' := [(4, _), (0, _), (1, _), (2, _), (3, _)]) C kd_Pk_indexOnTape_56 (by decide) rfl rfl ?_
  refine zk_iload C kd_Pk_indexOnTape_58 0 rfl rfl ?_
  refine zk_if_eq (tgt := 69) C kd_Pk_indexOnTape_60 (by decide) rfl (fun b1 => ?_) (fun b1 => ?_)
  · replace e := zd_pos b1 e
    refine zk_iload_n C kd_Pk_indexOnTape_69 rfl 3 rfl rfl ?_
    refine zk_iconst (v := 1) C kd_Pk_indexOnTape_70 (by decide) rfl ?_
    refine zk_iadd C kd_Pk_indexOnTape_71 rfl ?_
    refine zk_lvs (lv' := [(0, .ref (S.1 0)), (1, .int x1), (3, .int x3), (4, .int y0)]) [1, 2, 4, 0] rfl ?_
    exact zb_Pk_indexOnTape_72 C hR x1 x3 y0 (x2 + 1) e
  · replace e := zd_neg b1 e
    refine zk_iload_n C kd_Pk_indexOnTape_63 rfl 3 rfl rfl ?_
    refine zk_iconst (v := 2) C kd_Pk_indexOnTape_64 (by decide) rfl ?_
    refine zk_iadd C kd_Pk_indexOnTape_65 rfl ?_
    refine zk_goto (tgt := 72) C kd_Pk_indexOnTape_66 (by decide) ?_
    refine zk_lvs (lv' := [(0, .ref (S.1 0)), (1, .int x1), (3, .int x3), (4, .int y0)]) [1, 2, 4, 0] rfl ?_
    exact zb_Pk_indexOnTape_72 C hR x1 x3 y0 (x2 + 2) e
set_option maxHeartbeats 4000000 in
set_option maxRecDepth 100000 in
theorem zb_Pk_indexOnTape_55 {X : zkj_T} {S : zs_T} {P : ze_T} {l : Launch} {D : va_G} {sz0 : Nat} {rv : Int32} {h : zs_H} (C : zk_C X km_Pk_indexOnTape (zs_G S l D sz0) { frames := 1, cells := 0, slots := 0, locals := 23 } (ze_E P)) (hR : zkj_R X (zd_PI S rv h) (some .int)) (x1 : Int32) (x2 : Int32) (x3 : Int32) (e : f_Pk_indexOnTape_55 h x1 x2 x3 = some rv) : zk_Ab X (zs_W S h) 0 0 55 [(0, .ref (S.1 0)), (1, .int x1), (2, .int x2), (3, .int x3)] [] := by
  unfold f_Pk_indexOnTape_55 at e
  refine zk_iconst (v := 0) C kd_Pk_indexOnTape_55 (by decide) rfl ?_
  refine zk_lvs (lv' := [(0, .ref (S.1 0)), (1, .int x1), (2, .int x2), (3, .int x3)]) [0, 1, 2, 3] rfl ?_
  exact zb_Pk_indexOnTape_56 C hR x1 x2 x3 0 e
set_option maxHeartbeats 4000000 in
set_option maxRecDepth 100000 in
theorem zc_Pk_indexOnTape {l : Launch} {D : va_G} {sz0 : Nat} {S : zs_T} {P : ze_T} (h : zs_H) (x1 : Int32) (x2 : Int32) (x3 : Int32) {rv : Int32} (e : f_Pk_indexOnTape h x1 x2 x3 = some rv) : zk_Sp (zs_G S l D sz0) (ze_E P) km_Pk_indexOnTape { frames := 1, cells := 0, slots := 0, locals := 23 } [.ref (S.1 0), .int x1, .int x2, .int x3] (zs_W S h) (zd_PI S rv h) := by
  refine zk_met ku_Pk_indexOnTape (Nat.le_of_ble_eq_true rfl) (ze_Em P) ?_
  intro X C hR
  refine zk_lvs (lv' := [(0, .ref (S.1 0)), (1, .int x1), (2, .int x2), (3, .int x3)]) [0, 1, 2, 3] rfl ?_
  unfold f_Pk_indexOnTape at e
  refine zk_iload_n C kd_Pk_indexOnTape_0 rfl 2 rfl rfl ?_
  refine zk_iload_n C kd_Pk_indexOnTape_1 rfl 3 rfl rfl ?_
  refine zk_icmp_ge (tgt := 29) C kd_Pk_indexOnTape_2 (by decide) rfl (fun b1 => ?_) (fun b1 => ?_)
  · replace e := zd_pos b1 e
    refine zk_iconst (v := (-1)) C kd_Pk_indexOnTape_29 (by decide) rfl ?_
    exact zk_iret C hR kd_Pk_indexOnTape_30 rfl rfl (zd_rIO e)
  · replace e := zd_neg b1 e
    refine zk_aload_n C kd_Pk_indexOnTape_5 rfl 0 rfl rfl ?_
    refine zs_get (v := .ref (S.1 1)) C 0 0 rfl rfl rfl rfl ki_Pk (by decide) kw619 kd_Pk_indexOnTape_6 rfl ?_
    refine zk_iload_n C kd_Pk_indexOnTape_9 rfl 2 rfl rfl ?_
    obtain ⟨q2, e⟩ := zd_g e
    refine zs_bald C 1 rfl (zd_vp q2) kd_Pk_indexOnTape_10 rfl ?_
    refine zk_bipush (v := 91) C kd_Pk_indexOnTape_11 (by decide) rfl ?_
    refine zk_icmp_ne (tgt := 29) C kd_Pk_indexOnTape_13 (by decide) rfl (fun b3 => ?_) (fun b3 => ?_)
    · replace e := zd_neg b3 e
      refine zk_iconst (v := (-1)) C kd_Pk_indexOnTape_29 (by decide) rfl ?_
      exact zk_iret C hR kd_Pk_indexOnTape_30 rfl rfl (zd_rIO e)
    · replace e := zd_pos b3 e
      refine zk_aload_n C kd_Pk_indexOnTape_16 rfl 0 rfl rfl ?_
      refine zs_get (v := .ref (S.1 1)) C 0 0 rfl rfl rfl rfl ki_Pk (by decide) kw619 kd_Pk_indexOnTape_17 rfl ?_
      refine zk_iload_n C kd_Pk_indexOnTape_20 rfl 3 rfl rfl ?_
      refine zk_iconst (v := 1) C kd_Pk_indexOnTape_21 (by decide) rfl ?_
      refine zk_isub C kd_Pk_indexOnTape_22 rfl ?_
      obtain ⟨q4, e⟩ := zd_g e
      refine zs_bald C 1 rfl (zd_vp q4) kd_Pk_indexOnTape_23 rfl ?_
      refine zk_bipush (v := 93) C kd_Pk_indexOnTape_24 (by decide) rfl ?_
      refine zk_icmp_eq (tgt := 31) C kd_Pk_indexOnTape_26 (by decide) rfl (fun b5 => ?_) (fun b5 => ?_)
      · replace e := zd_pos b5 e
        refine zk_iload_n C kd_Pk_indexOnTape_31 rfl 2 rfl rfl ?_
        refine zk_iconst (v := 1) C kd_Pk_indexOnTape_32 (by decide) rfl ?_
        refine zk_iadd C kd_Pk_indexOnTape_33 rfl ?_
        refine zk_iload_n C kd_Pk_indexOnTape_34 rfl 3 rfl rfl ?_
        refine zk_icmp_ge (tgt := 55) C kd_Pk_indexOnTape_35 (by decide) rfl (fun b6 => ?_) (fun b6 => ?_)
        · replace e := zd_pos b6 e
          refine zk_lvs (lv' := [(0, .ref (S.1 0)), (1, .int x1), (2, .int x2), (3, .int x3)]) [0, 1, 2, 3] rfl ?_
          exact zb_Pk_indexOnTape_55 C hR x1 x2 x3 e
        · replace e := zd_neg b6 e
          refine zk_aload_n C kd_Pk_indexOnTape_38 rfl 0 rfl rfl ?_
          refine zs_get (v := .ref (S.1 1)) C 0 0 rfl rfl rfl rfl ki_Pk (by decide) kw619 kd_Pk_indexOnTape_39 rfl ?_
          refine zk_iload_n C kd_Pk_indexOnTape_42 rfl 2 rfl rfl ?_
          refine zk_iconst (v := 1) C kd_Pk_indexOnTape_43 (by decide) rfl ?_
          refine zk_iadd C kd_Pk_indexOnTape_44 rfl ?_
          obtain ⟨q7, e⟩ := zd_g e
          refine zs_bald C 1 rfl (zd_vp q7) kd_Pk_indexOnTape_45 rfl ?_
          refine zk_bipush (v := 45) C kd_Pk_indexOnTape_46 (by decide) rfl ?_
          refine zk_icmp_ne (tgt := 55) C kd_Pk_indexOnTape_48 (by decide) rfl (fun b8 => ?_) (fun b8 => ?_)
          · replace e := zd_neg b8 e
            refine zk_lvs (lv' := [(0, .ref (S.1 0)), (1, .int x1), (2, .int x2), (3, .int x3)]) [0, 1, 2, 3] rfl ?_
            exact zb_Pk_indexOnTape_55 C hR x1 x2 x3 e
          · replace e := zd_pos b8 e
            refine zk_iconst (v := 1) C kd_Pk_indexOnTape_51 (by decide) rfl ?_
            refine zk_goto (tgt := 56) C kd_Pk_indexOnTape_52 (by decide) ?_
            refine zk_lvs (lv' := [(0, .ref (S.1 0)), (1, .int x1), (2, .int x2), (3, .int x3)]) [0, 1, 2, 3] rfl ?_
            exact zb_Pk_indexOnTape_56 C hR x1 x2 x3 1 e
      · replace e := zd_neg b5 e
        refine zk_iconst (v := (-1)) C kd_Pk_indexOnTape_29 (by decide) rfl ?_
        exact zk_iret C hR kd_Pk_indexOnTape_30 rfl rfl (zd_rIO e)
set_option maxHeartbeats 4000000 in
set_option maxRecDepth 100000 in
theorem zb_Pk_follow_16 {X : zkj_T} {S : zs_T} {P : ze_T} {l : Launch} {D : va_G} {sz0 : Nat} {rv : Int32} {rh : zs_H} (C : zk_C X km_Pk_follow (zs_G S l D sz0) { frames := 3, cells := 0, slots := 0, locals := 70 } (ze_E P)) (hR : zkj_R X (zd_PI S rv rh) (some .int)) {k16 : zs_H → Int32 → Int32 → Int32 → Int32 → Int32 → (Option (Int32 × zs_H))} (hk16 : ∀ (h : zs_H) (x1 : Int32) (x2 : Int32) (x3 : Int32) (x4 : Int32) (x5 : Int32), k16 h x1 x2 x3 x4 x5 = some (rv, rh) → zk_Ab X (zs_W S h) 0 0 16 [(0, .ref (S.1 0)), (1, .int x1), (2, .int x2), (3, .int x3), (4, .int x4), (5, .int x5)] []) (h : zs_H) (x1 : Int32) (x2 : Int32) (x3 : Int32) (x4 : Int32) (x5 : Int32) (e : f_Pk_follow_16 k16 h x1 x2 x3 x4 x5 = some (rv, rh)) : zk_Ab X (zs_W S h) 0 0 16 [(0, .ref (S.1 0)), (1, .int x1), (2, .int x2), (3, .int x3), (4, .int x4), (5, .int x5)] [] := by
  unfold f_Pk_follow_16 at e
  refine zk_iload C kd_Pk_follow_16 5 rfl rfl ?_
  refine zk_sipush (v := 16384) C kd_Pk_follow_18 (by decide) rfl ?_
  refine zk_icmp_ge (tgt := 191) C kd_Pk_follow_21 (by decide) rfl (fun b1 => ?_) (fun b1 => ?_)
  · replace e := zd_pos b1 e
    refine zk_iconst (v := (-1)) C kd_Pk_follow_191 (by decide) rfl ?_
    exact zk_iret C hR kd_Pk_follow_192 rfl rfl (zd_rIS e)
  · replace e := zd_neg b1 e
    refine zk_iload_n C kd_Pk_follow_24 rfl 2 rfl rfl ?_
    refine zk_iconst (v := (-1)) C kd_Pk_follow_25 (by decide) rfl ?_
    refine zk_icmp_eq (tgt := 191) C kd_Pk_follow_26 (by decide) rfl (fun b2 => ?_) (fun b2 => ?_)
    · replace e := zd_pos b2 e
      refine zk_iconst (v := (-1)) C kd_Pk_follow_191 (by decide) rfl ?_
      exact zk_iret C hR kd_Pk_follow_192 rfl rfl (zd_rIS e)
    · replace e := zd_neg b2 e
      refine zk_aload_n C kd_Pk_follow_29 rfl 0 rfl rfl ?_
      refine zk_iload C kd_Pk_follow_30 4 rfl rfl ?_
      refine zk_iload_n C kd_Pk_follow_32 rfl 1 rfl rfl ?_
      obtain ⟨v4, c3, e⟩ := zd_b e
      refine zs_callV (k := 0) (rn := { frames := 2, cells := 0, slots := 0, locals := 40 }) (As := [.int x4, .int x1]) (rest := []) C (zc_Pk_nameEnd h x4 x1 c3) ku_Pk_nameEnd kw1579 kv_Pk_nameEnd rfl ⟨by decide, by decide⟩ ⟨by decide, by decide⟩ rfl rfl rfl (Nat.le_of_ble_eq_true rfl) kd_Pk_follow_33 rfl (c1 := 0) (s1 := 0) rfl rfl (fun v w hp => ?_)
      obtain ⟨rfl, rfl⟩ := hp
      refine zk_stk (r' := [.int v4]) rfl ?_
      refine zk_istore (lv' := [(6, _), (0, _), (1, _), (2, _), (3, _), (4, _), (5, _)]) C kd_Pk_follow_36 (by decide) rfl rfl ?_
      refine zk_aload_n C kd_Pk_follow_38 rfl 1 rfl rfl ?_
      refine zs_get (v := .ref (S.1 20)) C 0 9 rfl rfl rfl rfl ki_Pk (by decide) kw628 kd_Pk_follow_39 rfl ?_
      refine zk_iload_n C kd_Pk_follow_42 rfl 3 rfl rfl ?_
      refine zk_aload_n C kd_Pk_follow_43 rfl 1 rfl rfl ?_
      refine zs_get (v := .ref (S.1 2)) C 0 5 rfl rfl rfl rfl ki_Pk (by decide) kw624 kd_Pk_follow_44 rfl ?_
      refine zk_aload_n C kd_Pk_follow_47 rfl 1 rfl rfl ?_
      refine zs_get (v := .ref (S.1 1)) C 0 0 rfl rfl rfl rfl ki_Pk (by decide) kw619 kd_Pk_follow_48 rfl ?_
      refine zk_iload C kd_Pk_follow_51 5 rfl rfl ?_
      refine zk_iload C kd_Pk_follow_53 0 rfl rfl ?_
      refine zk_iload C kd_Pk_follow_55 5 rfl rfl ?_
      refine zk_isub C kd_Pk_follow_57 rfl ?_
      obtain ⟨v6, c5, e⟩ := zd_b e
      refine zs_callV (k := 2) (rn := { frames := 2, cells := 0, slots := 0, locals := 45 }) (As := [.ref (S.1 1), .int x4, .int (v4 - x4)]) (rest := [.int x2, .ref (S.1 20)]) C (zc_Nm_find_c1 h x4 (v4 - x4) c5) ku_Nm_find kw1584 kv_Nm_find rfl ⟨by decide, by decide⟩ ⟨by decide, by decide⟩ rfl rfl rfl (Nat.le_of_ble_eq_true rfl) kd_Pk_follow_58 rfl (c1 := 0) (s1 := 0) rfl rfl (fun v w hp => ?_)
      obtain ⟨rfl, rfl⟩ := hp
      refine zk_stk (r' := [.int v6, .int x2, .ref (S.1 20)]) rfl ?_
      obtain ⟨v8, c7, e⟩ := zd_b e
      refine zs_callV (k := 20) (rn := { frames := 0, cells := 0, slots := 0, locals := 0 }) (As := [.int x2, .int v6]) (rest := []) C (zc_Pl_variableOf h x2 v6 c7) ku_Pl_variableOf kw1585 kv_Pl_variableOf rfl ⟨by decide, by decide⟩ ⟨by decide, by decide⟩ rfl rfl rfl (Nat.le_of_ble_eq_true rfl) kd_Pk_follow_61 rfl (c1 := 0) (s1 := 0) rfl rfl (fun v w hp => ?_)
      obtain ⟨rfl, rfl⟩ := hp
      refine zk_stk (r' := [.int v8]) rfl ?_
      refine zk_istore (lv' := [(7, _), (6, _), (0, _), (1, _), (2, _), (3, _), (4, _), (5, _)]) C kd_Pk_follow_64 (by decide) rfl rfl ?_
      refine zk_iload C kd_Pk_follow_66 0 rfl rfl ?_
      refine zk_iconst (v := (-1)) C kd_Pk_follow_68 (by decide) rfl ?_
      refine zk_icmp_ne (tgt := 74) C kd_Pk_follow_69 (by decide) rfl (fun b9 => ?_) (fun b9 => ?_)
      · replace e := zd_neg b9 e
        refine zk_iload_n C kd_Pk_follow_74 rfl 5 rfl rfl ?_
        refine zk_aload_n C kd_Pk_follow_75 rfl 2 rfl rfl ?_
        refine zs_get (v := .ref (S.1 20)) C 0 9 rfl rfl rfl rfl ki_Pk (by decide) kw628 kd_Pk_follow_76 rfl ?_
        refine zs_get (v := .ref (S.1 32)) C 20 11 rfl rfl rfl rfl ki_Pl (by decide) kw271 kd_Pk_follow_79 rfl ?_
        refine zk_iload C kd_Pk_follow_82 0 rfl rfl ?_
        obtain ⟨q10, e⟩ := zd_g e
        refine zs_iald C 32 rfl (zd_vp q10) kd_Pk_follow_84 rfl ?_
        refine zk_iadd C kd_Pk_follow_85 rfl ?_
        refine zk_istore_n (lv' := [(3, _), (7, _), (6, _), (0, _), (1, _), (2, _), (4, _), (5, _)]) C kd_Pk_follow_86 rfl (by decide) rfl rfl ?_
        refine zk_aload_n C kd_Pk_follow_87 rfl 3 rfl rfl ?_
        refine zs_get (v := .ref (S.1 20)) C 0 9 rfl rfl rfl rfl ki_Pk (by decide) kw628 kd_Pk_follow_88 rfl ?_
        refine zs_get (v := .ref (S.1 30)) C 20 9 rfl rfl rfl rfl ki_Pl (by decide) kw264 kd_Pk_follow_91 rfl ?_
        refine zk_iload C kd_Pk_follow_94 1 rfl rfl ?_
        refine zs_iald C 30 rfl (zd_vp q10) kd_Pk_follow_96 rfl ?_
        refine zk_istore_n (lv' := [(2, _), (3, _), (7, _), (6, _), (0, _), (1, _), (4, _), (5, _)]) C kd_Pk_follow_97 rfl (by decide) rfl rfl ?_
        refine zk_iload_n C kd_Pk_follow_98 rfl 0 rfl rfl ?_
        refine zk_iconst (v := (-1)) C kd_Pk_follow_99 (by decide) rfl ?_
        refine zk_icmp_ne (tgt := 121) C kd_Pk_follow_100 (by decide) rfl (fun b11 => ?_) (fun b11 => ?_)
        · replace e := zd_neg b11 e
          refine zk_iload_n C kd_Pk_follow_121 rfl 0 rfl rfl ?_
          refine zk_bipush (v := (-2)) C kd_Pk_follow_122 (by decide) rfl ?_
          refine zk_icmp_ne (tgt := 159) C kd_Pk_follow_124 (by decide) rfl (fun b12 => ?_) (fun b12 => ?_)
          · replace e := zd_neg b12 e
            refine zk_iload C kd_Pk_follow_159 3 rfl rfl ?_
            refine zk_iload_n C kd_Pk_follow_161 rfl 5 rfl rfl ?_
            refine zk_icmp_ge (tgt := 177) C kd_Pk_follow_162 (by decide) rfl (fun b13 => ?_) (fun b13 => ?_)
            · replace e := zd_pos b13 e
              refine zk_iconst (v := (-1)) C kd_Pk_follow_177 (by decide) rfl ?_
              exact zk_iret C hR kd_Pk_follow_178 rfl rfl (zd_rIS e)
            · replace e := zd_neg b13 e
              refine zk_aload_n C kd_Pk_follow_165 rfl 4 rfl rfl ?_
              refine zs_get (v := .ref (S.1 1)) C 0 0 rfl rfl rfl rfl ki_Pk (by decide) kw619 kd_Pk_follow_166 rfl ?_
              refine zk_iload C kd_Pk_follow_169 3 rfl rfl ?_
              obtain ⟨q14, e⟩ := zd_g e
              refine zs_bald C 1 rfl (zd_vp q14) kd_Pk_follow_171 rfl ?_
              refine zk_bipush (v := 46) C kd_Pk_follow_172 (by decide) rfl ?_
              refine zk_icmp_eq (tgt := 179) C kd_Pk_follow_174 (by decide) rfl (fun b15 => ?_) (fun b15 => ?_)
              · replace e := zd_pos b15 e
                refine zk_iload C kd_Pk_follow_179 3 rfl rfl ?_
                refine zk_iconst (v := 1) C kd_Pk_follow_181 (by decide) rfl ?_
                refine zk_iadd C kd_Pk_follow_182 rfl ?_
                refine zk_istore (lv' := [(4, _), (2, _), (3, _), (7, _), (6, _), (0, _), (1, _), (5, _)]) C kd_Pk_follow_183 (by decide) rfl rfl ?_
                refine zk_iinc (v := (x5 + 1)) (lv' := [(5, _), (4, _), (2, _), (3, _), (7, _), (6, _), (0, _), (1, _)]) C kd_Pk_follow_185 7 rfl rfl (by decide) rfl rfl ?_
                refine zk_goto (tgt := 16) C kd_Pk_follow_188 (by decide) ?_
                refine zk_lvs (lv' := [(0, .ref (S.1 0)), (1, .int x1), (2, .int (h.2.1 30 v8.toNatClampNeg)), (3, .int (x3 + (h.2.1 32 v8.toNatClampNeg))), (4, .int (v4 + 1)), (5, .int (x5 + 1))]) [6, 7, 2, 3, 1, 0] rfl ?_
                exact hk16 h x1 (h.2.1 30 v8.toNatClampNeg) (x3 + (h.2.1 32 v8.toNatClampNeg)) (v4 + 1) (x5 + 1) e
              · replace e := zd_neg b15 e
                refine zk_iconst (v := (-1)) C kd_Pk_follow_177 (by decide) rfl ?_
                exact zk_iret C hR kd_Pk_follow_178 rfl rfl (zd_rIS e)
          · replace e := zd_pos b12 e
            refine zk_aload_n C kd_Pk_follow_127 rfl 4 rfl rfl ?_
            refine zk_iload C kd_Pk_follow_128 2 rfl rfl ?_
            refine zk_iload C kd_Pk_follow_130 3 rfl rfl ?_
            refine zk_iload_n C kd_Pk_follow_132 rfl 5 rfl rfl ?_
            obtain ⟨v17, c16, e⟩ := zd_b e
            refine zs_callV (k := 0) (rn := { frames := 1, cells := 0, slots := 0, locals := 23 }) (As := [.int v8, .int v4, .int x1]) (rest := []) C (zc_Pk_indexOnTape h v8 v4 x1 c16) ku_Pk_indexOnTape kw1591 kv_Pk_indexOnTape rfl ⟨by decide, by decide⟩ ⟨by decide, by decide⟩ rfl rfl rfl (Nat.le_of_ble_eq_true rfl) kd_Pk_follow_133 rfl (c1 := 0) (s1 := 0) rfl rfl (fun v w hp => ?_)
            obtain ⟨rfl, rfl⟩ := hp
            refine zk_stk (r' := [.int v17]) rfl ?_
            refine zk_istore (lv' := [(8, _), (2, _), (3, _), (7, _), (6, _), (0, _), (1, _), (4, _), (5, _)]) C kd_Pk_follow_136 (by decide) rfl rfl ?_
            refine zk_iload C kd_Pk_follow_138 0 rfl rfl ?_
            refine zk_iconst (v := (-1)) C kd_Pk_follow_140 (by decide) rfl ?_
            refine zk_icmp_ne (tgt := 148) C kd_Pk_follow_141 (by decide) rfl (fun b18 => ?_) (fun b18 => ?_)
            · replace e := zd_neg b18 e
              refine zk_aload_n C kd_Pk_follow_148 rfl 5 rfl rfl ?_
              refine zk_iload C kd_Pk_follow_149 3 rfl rfl ?_
              refine zk_iload_n C kd_Pk_follow_151 rfl 2 rfl rfl ?_
              refine zk_iload C kd_Pk_follow_152 0 rfl rfl ?_
              refine zk_iadd C kd_Pk_follow_154 rfl ?_
              obtain ⟨v20, h21, c19, e⟩ := zd_Be e
              refine zs_callV (k := 0) (rn := { frames := 1, cells := 0, slots := 0, locals := 21 }) (As := [.int v8, .int ((x3 + (h.2.1 32 v8.toNatClampNeg)) + v17)]) (rest := []) C (zc_Pk_show h v8 ((x3 + (h.2.1 32 v8.toNatClampNeg)) + v17) c19) ku_Pk_show kw1586 kv_Pk_show rfl ⟨by decide, by decide⟩ ⟨by decide, by decide⟩ rfl rfl rfl (Nat.le_of_ble_eq_true rfl) kd_Pk_follow_155 rfl (c1 := 0) (s1 := 0) rfl rfl (fun v w hp => ?_)
              obtain ⟨rfl, rfl⟩ := hp
              refine zk_stk (r' := [.int v20]) rfl ?_
              exact zk_iret C hR kd_Pk_follow_158 rfl rfl (zd_rIS e)
            · replace e := zd_pos b18 e
              refine zk_iconst (v := (-1)) C kd_Pk_follow_144 (by decide) rfl ?_
              refine zk_goto (tgt := 158) C kd_Pk_follow_145 (by decide) ?_
              exact zk_iret C hR kd_Pk_follow_158 rfl rfl (zd_rIS e)
        · replace e := zd_pos b11 e
          refine zk_iload C kd_Pk_follow_103 3 rfl rfl ?_
          refine zk_iload_n C kd_Pk_follow_105 rfl 5 rfl rfl ?_
          refine zk_icmp_ne (tgt := 119) C kd_Pk_follow_106 (by decide) rfl (fun b22 => ?_) (fun b22 => ?_)
          · replace e := zd_neg b22 e
            refine zk_iconst (v := (-1)) C kd_Pk_follow_119 (by decide) rfl ?_
            exact zk_iret C hR kd_Pk_follow_120 rfl rfl (zd_rIS e)
          · replace e := zd_pos b22 e
            refine zk_aload_n C kd_Pk_follow_109 rfl 4 rfl rfl ?_
            refine zk_iload C kd_Pk_follow_110 2 rfl rfl ?_
            refine zk_iload_n C kd_Pk_follow_112 rfl 1 rfl rfl ?_
            obtain ⟨v24, h25, c23, e⟩ := zd_Be e
            refine zs_callV (k := 0) (rn := { frames := 1, cells := 0, slots := 0, locals := 21 }) (As := [.int v8, .int (x3 + (h.2.1 32 v8.toNatClampNeg))]) (rest := []) C (zc_Pk_show h v8 (x3 + (h.2.1 32 v8.toNatClampNeg)) c23) ku_Pk_show kw1586 kv_Pk_show rfl ⟨by decide, by decide⟩ ⟨by decide, by decide⟩ rfl rfl rfl (Nat.le_of_ble_eq_true rfl) kd_Pk_follow_113 rfl (c1 := 0) (s1 := 0) rfl rfl (fun v w hp => ?_)
            obtain ⟨rfl, rfl⟩ := hp
            refine zk_stk (r' := [.int v24]) rfl ?_
            refine zk_goto (tgt := 120) C kd_Pk_follow_116 (by decide) ?_
            exact zk_iret C hR kd_Pk_follow_120 rfl rfl (zd_rIS e)
      · replace e := zd_pos b9 e
        refine zk_iconst (v := (-1)) C kd_Pk_follow_72 (by decide) rfl ?_
        exact zk_iret C hR kd_Pk_follow_73 rfl rfl (zd_rIS e)
theorem zl_Pk_follow_16 {X : zkj_T} {S : zs_T} {P : ze_T} {l : Launch} {D : va_G} {sz0 : Nat} {rv : Int32} {rh : zs_H} (C : zk_C X km_Pk_follow (zs_G S l D sz0) { frames := 3, cells := 0, slots := 0, locals := 70 } (ze_E P)) (hR : zkj_R X (zd_PI S rv rh) (some .int)) (n : Nat) : ∀ (h : zs_H) (x1 : Int32) (x2 : Int32) (x3 : Int32) (x4 : Int32) (x5 : Int32), f_Pk_follow_L16 n h x1 x2 x3 x4 x5 = some (rv, rh) → zk_Ab X (zs_W S h) 0 0 16 [(0, .ref (S.1 0)), (1, .int x1), (2, .int x2), (3, .int x3), (4, .int x4), (5, .int x5)] [] := by
  induction n with
  | zero => intro h x1 x2 x3 x4 x5 e; exact zd_no e
  | succ n ih => intro h x1 x2 x3 x4 x5 e; exact zb_Pk_follow_16 (k16 := f_Pk_follow_L16  n) C hR ih h x1 x2 x3 x4 x5 e
set_option maxHeartbeats 4000000 in
set_option maxRecDepth 100000 in
theorem zc_Pk_follow {l : Launch} {D : va_G} {sz0 : Nat} {S : zs_T} {P : ze_T} (h : zs_H) (x1 : Int32) {rv : Int32} {rh : zs_H} (e : f_Pk_follow h x1 = some (rv, rh)) : zk_Sp (zs_G S l D sz0) (ze_E P) km_Pk_follow { frames := 3, cells := 0, slots := 0, locals := 70 } [.ref (S.1 0), .int x1] (zs_W S h) (zd_PI S rv rh) := by
  refine zk_met ku_Pk_follow (Nat.le_of_ble_eq_true rfl) (ze_Em P) ?_
  intro X C hR
  refine zk_lvs (lv' := [(0, .ref (S.1 0)), (1, .int x1)]) [0, 1] rfl ?_
  unfold f_Pk_follow at e
  refine zk_aload_n C kd_Pk_follow_0 rfl 0 rfl rfl ?_
  refine zs_get (v := .ref (S.1 20)) C 0 9 rfl rfl rfl rfl ki_Pk (by decide) kw628 kd_Pk_follow_1 rfl ?_
  refine zs_get (v := .int (h.1 20 19)) C 20 19 rfl rfl rfl rfl ki_Pl (by decide) kw295 kd_Pk_follow_4 rfl ?_
  refine zk_istore_n (lv' := [(2, _), (0, _), (1, _)]) C kd_Pk_follow_7 rfl (by decide) rfl rfl ?_
  refine zk_iconst (v := 0) C kd_Pk_follow_8 (by decide) rfl ?_
  refine zk_istore_n (lv' := [(3, _), (2, _), (0, _), (1, _)]) C kd_Pk_follow_9 rfl (by decide) rfl rfl ?_
  refine zk_iconst (v := 0) C kd_Pk_follow_10 (by decide) rfl ?_
  refine zk_istore (lv' := [(4, _), (3, _), (2, _), (0, _), (1, _)]) C kd_Pk_follow_11 (by decide) rfl rfl ?_
  refine zk_iconst (v := 0) C kd_Pk_follow_13 (by decide) rfl ?_
  refine zk_istore (lv' := [(5, _), (4, _), (3, _), (2, _), (0, _), (1, _)]) C kd_Pk_follow_14 (by decide) rfl rfl ?_
  refine zk_lvs (lv' := [(0, .ref (S.1 0)), (1, .int x1), (2, .int (h.1 20 19)), (3, .int 0), (4, .int 0), (5, .int 0)]) [4, 5, 3, 2, 1, 0] rfl ?_
  exact zl_Pk_follow_16 C hR zF h x1 (h.1 20 19) 0 0 0 e
set_option maxHeartbeats 4000000 in
set_option maxRecDepth 100000 in
theorem zc_Pk_watch {l : Launch} {D : va_G} {sz0 : Nat} {S : zs_T} {P : ze_T} (h : zs_H) {rv : Int32} {rh : zs_H} (e : f_Pk_watch h = some (rv, rh)) : zk_Sp (zs_G S l D sz0) (ze_E P) km_Pk_watch { frames := 4, cells := 0, slots := 0, locals := 98 } [.ref (S.1 0)] (zs_W S h) (zd_PI S rv rh) := by
  refine zk_met ku_Pk_watch (Nat.le_of_ble_eq_true rfl) (ze_Em P) ?_
  intro X C hR
  refine zk_lvs (lv' := [(0, .ref (S.1 0))]) [0] rfl ?_
  unfold f_Pk_watch at e
  refine zk_aload_n C kd_Pk_watch_0 rfl 0 rfl rfl ?_
  refine zs_get (v := .int (h.1 0 1)) C 0 1 rfl rfl rfl rfl ki_Pk (by decide) kw620 kd_Pk_watch_1 rfl ?_
  refine zk_istore_n (lv' := [(1, _), (0, _)]) C kd_Pk_watch_4 rfl (by decide) rfl rfl ?_
  refine zk_aload_n C kd_Pk_watch_5 rfl 1 rfl rfl ?_
  refine zk_iconst (v := 0) C kd_Pk_watch_6 (by decide) rfl ?_
  refine zs_put (ty := .int) C 0 1 0 rfl rfl rfl rfl ki_Pk ky_Pk ko_Pk kn_Pk (by decide) kw620 rfl rfl rfl rfl (by decide) kd_Pk_watch_7 rfl ?_
  refine zk_aload_n C kd_Pk_watch_10 rfl 1 rfl rfl ?_
  refine zs_get (v := .ref (S.1 58)) C 0 14 rfl rfl rfl rfl ki_Pk (by decide) kw633 kd_Pk_watch_11 rfl ?_
  refine zs_get (v := .int (h.1 58 3)) C 58 3 rfl rfl rfl rfl ki_Mc (by decide) kw524 kd_Pk_watch_14 rfl ?_
  refine zk_if_ne (tgt := 23) C kd_Pk_watch_17 (by decide) rfl (fun b1 => ?_) (fun b1 => ?_)
  · replace e := zd_neg b1 e
    refine zk_aload_n C kd_Pk_watch_23 rfl 1 rfl rfl ?_
    refine zk_iload_n C kd_Pk_watch_24 rfl 0 rfl rfl ?_
    obtain ⟨v3, h4, c2, e⟩ := zd_Be e
    refine zs_callV (k := 0) (rn := { frames := 3, cells := 0, slots := 0, locals := 70 }) (As := [.int (h.1 0 1)]) (rest := []) C (zc_Pk_follow (zs_uF h 0 1 0) (h.1 0 1) c2) ku_Pk_follow kw1575 kv_Pk_follow rfl ⟨by decide, by decide⟩ ⟨by decide, by decide⟩ rfl rfl rfl (Nat.le_of_ble_eq_true rfl) kd_Pk_watch_25 rfl (c1 := 0) (s1 := 0) rfl rfl (fun v w hp => ?_)
    obtain ⟨rfl, rfl⟩ := hp
    refine zk_stk (r' := [.int v3]) rfl ?_
    exact zk_iret C hR kd_Pk_watch_28 rfl rfl (zd_rIS e)
  · replace e := zd_pos b1 e
    refine zk_bipush (v := (-5)) C kd_Pk_watch_20 (by decide) rfl ?_
    exact zk_iret C hR kd_Pk_watch_22 rfl rfl (zd_rIS e)
set_option maxHeartbeats 4000000 in
set_option maxRecDepth 100000 in
theorem zb_Mc_takeInputs_39 {X : zkj_T} {S : zs_T} {P : ze_T} {l : Launch} {D : va_G} {sz0 : Nat} {rh : zs_H} (C : zk_C X km_Mc_takeInputs (zs_G S l D sz0) { frames := 0, cells := 0, slots := 0, locals := 0 } (ze_E P)) (hR : zkj_R X (zd_PV S rh) (none)) {k39 : zs_H → Int32 → (Option zs_H)} (hk39 : ∀ (h : zs_H) (x1 : Int32), k39 h x1 = some rh → zk_Ab X (zs_W S h) 0 0 39 [(0, .ref (S.1 58)), (1, .int x1)] []) (h : zs_H) (x1 : Int32) (e : f_Mc_takeInputs_39 k39 h x1 = some rh) : zk_Ab X (zs_W S h) 0 0 39 [(0, .ref (S.1 58)), (1, .int x1)] [] := by
  unfold f_Mc_takeInputs_39 at e
  refine zk_iload_n C kd_Mc_takeInputs_39 rfl 1 rfl rfl ?_
  refine ze_getsN (j := 3) (host := "PlantKeeper") C rfl (by decide +kernel) kd_Mc_takeInputs_40 rfl ?_
  refine zk_iconst (v := 4) C kd_Mc_takeInputs_43 (by decide) rfl ?_
  refine ze_ti C rfl (zp_dec rfl) kd_Mc_takeInputs_44 rfl ?_
  refine zk_stk (r' := [.int 832, .int x1]) rfl ?_
  refine zk_icmp_ge (tgt := 66) C kd_Mc_takeInputs_45 (by decide) rfl (fun b1 => ?_) (fun b1 => ?_)
  · replace e := zd_pos b1 e
    exact zk_vret C hR kd_Mc_takeInputs_66 rfl rfl (zd_rV e)
  · replace e := zd_neg b1 e
    refine zk_aload_n C kd_Mc_takeInputs_48 rfl 0 rfl rfl ?_
    refine zs_get (v := .ref (S.1 62)) C 58 12 rfl rfl rfl rfl ki_Mc (by decide) kw539 kd_Mc_takeInputs_49 rfl ?_
    refine zk_iload_n C kd_Mc_takeInputs_52 rfl 1 rfl rfl ?_
    refine zk_aload_n C kd_Mc_takeInputs_53 rfl 0 rfl rfl ?_
    refine zs_get (v := .ref (S.1 59)) C 58 0 rfl rfl rfl rfl ki_Mc (by decide) kw518 kd_Mc_takeInputs_54 rfl ?_
    refine zk_iload_n C kd_Mc_takeInputs_57 rfl 1 rfl rfl ?_
    obtain ⟨q2, e⟩ := zd_g e
    refine zs_iald C 59 rfl (zd_vp q2) kd_Mc_takeInputs_58 rfl ?_
    obtain ⟨q3, e⟩ := zd_g e
    refine zs_iast C 62 rfl (zd_vp q3) kd_Mc_takeInputs_59 rfl ?_
    refine zk_iinc (v := (x1 + 1)) (lv' := [(1, _), (0, _)]) C kd_Mc_takeInputs_60 1 rfl rfl (by decide) rfl rfl ?_
    refine zk_goto (tgt := 39) C kd_Mc_takeInputs_63 (by decide) ?_
    refine zk_lvs (lv' := [(0, .ref (S.1 58)), (1, .int (x1 + 1))]) [1, 0] rfl ?_
    exact hk39 (zs_uM h 62 x1.toNatClampNeg (h.2.1 59 x1.toNatClampNeg)) (x1 + 1) e
theorem zl_Mc_takeInputs_39 {X : zkj_T} {S : zs_T} {P : ze_T} {l : Launch} {D : va_G} {sz0 : Nat} {rh : zs_H} (C : zk_C X km_Mc_takeInputs (zs_G S l D sz0) { frames := 0, cells := 0, slots := 0, locals := 0 } (ze_E P)) (hR : zkj_R X (zd_PV S rh) (none)) (n : Nat) : ∀ (h : zs_H) (x1 : Int32), f_Mc_takeInputs_L39 n h x1 = some rh → zk_Ab X (zs_W S h) 0 0 39 [(0, .ref (S.1 58)), (1, .int x1)] [] := by
  induction n with
  | zero => intro h x1 e; exact zd_no e
  | succ n ih => intro h x1 e; exact zb_Mc_takeInputs_39 (k39 := f_Mc_takeInputs_L39  n) C hR ih h x1 e
set_option maxHeartbeats 4000000 in
set_option maxRecDepth 100000 in
theorem zb_Mc_takeInputs_6 {X : zkj_T} {S : zs_T} {P : ze_T} {l : Launch} {D : va_G} {sz0 : Nat} {rh : zs_H} (C : zk_C X km_Mc_takeInputs (zs_G S l D sz0) { frames := 0, cells := 0, slots := 0, locals := 0 } (ze_E P)) (hR : zkj_R X (zd_PV S rh) (none)) {k6 : zs_H → Int32 → (Option zs_H)} (hk6 : ∀ (h : zs_H) (x1 : Int32), k6 h x1 = some rh → zk_Ab X (zs_W S h) 0 0 6 [(0, .ref (S.1 58)), (1, .int x1)] []) (h : zs_H) (x1 : Int32) (e : f_Mc_takeInputs_6 k6 h x1 = some rh) : zk_Ab X (zs_W S h) 0 0 6 [(0, .ref (S.1 58)), (1, .int x1)] [] := by
  unfold f_Mc_takeInputs_6 at e
  refine zk_iload_n C kd_Mc_takeInputs_6 rfl 1 rfl rfl ?_
  refine ze_getsN (j := 3) (host := "PlantKeeper") C rfl (by decide +kernel) kd_Mc_takeInputs_7 rfl ?_
  refine zk_iconst (v := 1) C kd_Mc_takeInputs_10 (by decide) rfl ?_
  refine ze_ti C rfl (zp_dec rfl) kd_Mc_takeInputs_11 rfl ?_
  refine zk_stk (r' := [.int 256, .int x1]) rfl ?_
  refine zk_icmp_ge (tgt := 33) C kd_Mc_takeInputs_12 (by decide) rfl (fun b1 => ?_) (fun b1 => ?_)
  · replace e := zd_pos b1 e
    refine ze_getsN (j := 3) (host := "PlantKeeper") C rfl (by decide +kernel) kd_Mc_takeInputs_33 rfl ?_
    refine zk_iconst (v := 3) C kd_Mc_takeInputs_36 (by decide) rfl ?_
    refine ze_ti C rfl (zp_dec rfl) kd_Mc_takeInputs_37 rfl ?_
    refine zk_stk (r' := [.int 768]) rfl ?_
    refine zk_istore_n (lv' := [(1, _), (0, _)]) C kd_Mc_takeInputs_38 rfl (by decide) rfl rfl ?_
    refine zk_lvs (lv' := [(0, .ref (S.1 58)), (1, .int 768)]) [1, 0] rfl ?_
    exact zl_Mc_takeInputs_39 C hR zF h 768 e
  · replace e := zd_neg b1 e
    refine zk_aload_n C kd_Mc_takeInputs_15 rfl 0 rfl rfl ?_
    refine zs_get (v := .ref (S.1 62)) C 58 12 rfl rfl rfl rfl ki_Mc (by decide) kw539 kd_Mc_takeInputs_16 rfl ?_
    refine zk_iload_n C kd_Mc_takeInputs_19 rfl 1 rfl rfl ?_
    refine zk_aload_n C kd_Mc_takeInputs_20 rfl 0 rfl rfl ?_
    refine zs_get (v := .ref (S.1 59)) C 58 0 rfl rfl rfl rfl ki_Mc (by decide) kw518 kd_Mc_takeInputs_21 rfl ?_
    refine zk_iload_n C kd_Mc_takeInputs_24 rfl 1 rfl rfl ?_
    obtain ⟨q2, e⟩ := zd_g e
    refine zs_iald C 59 rfl (zd_vp q2) kd_Mc_takeInputs_25 rfl ?_
    obtain ⟨q3, e⟩ := zd_g e
    refine zs_iast C 62 rfl (zd_vp q3) kd_Mc_takeInputs_26 rfl ?_
    refine zk_iinc (v := (x1 + 1)) (lv' := [(1, _), (0, _)]) C kd_Mc_takeInputs_27 1 rfl rfl (by decide) rfl rfl ?_
    refine zk_goto (tgt := 6) C kd_Mc_takeInputs_30 (by decide) ?_
    refine zk_lvs (lv' := [(0, .ref (S.1 58)), (1, .int (x1 + 1))]) [1, 0] rfl ?_
    exact hk6 (zs_uM h 62 x1.toNatClampNeg (h.2.1 59 x1.toNatClampNeg)) (x1 + 1) e
theorem zl_Mc_takeInputs_6 {X : zkj_T} {S : zs_T} {P : ze_T} {l : Launch} {D : va_G} {sz0 : Nat} {rh : zs_H} (C : zk_C X km_Mc_takeInputs (zs_G S l D sz0) { frames := 0, cells := 0, slots := 0, locals := 0 } (ze_E P)) (hR : zkj_R X (zd_PV S rh) (none)) (n : Nat) : ∀ (h : zs_H) (x1 : Int32), f_Mc_takeInputs_L6 n h x1 = some rh → zk_Ab X (zs_W S h) 0 0 6 [(0, .ref (S.1 58)), (1, .int x1)] [] := by
  induction n with
  | zero => intro h x1 e; exact zd_no e
  | succ n ih => intro h x1 e; exact zb_Mc_takeInputs_6 (k6 := f_Mc_takeInputs_L6  n) C hR ih h x1 e
set_option maxHeartbeats 4000000 in
set_option maxRecDepth 100000 in
theorem zc_Mc_takeInputs {l : Launch} {D : va_G} {sz0 : Nat} {S : zs_T} {P : ze_T} (h : zs_H) {rh : zs_H} (e : f_Mc_takeInputs h = some rh) : zk_Sp (zs_G S l D sz0) (ze_E P) km_Mc_takeInputs { frames := 0, cells := 0, slots := 0, locals := 0 } [.ref (S.1 58)] (zs_W S h) (zd_PV S rh) := by
  refine zk_met ku_Mc_takeInputs (Nat.le_of_ble_eq_true rfl) (ze_Em P) ?_
  intro X C hR
  refine zk_lvs (lv' := [(0, .ref (S.1 58))]) [0] rfl ?_
  unfold f_Mc_takeInputs at e
  refine ze_getsN (j := 3) (host := "PlantKeeper") C rfl (by decide +kernel) kd_Mc_takeInputs_0 rfl ?_
  refine zk_iconst (v := 0) C kd_Mc_takeInputs_3 (by decide) rfl ?_
  refine ze_ti C rfl (zp_dec rfl) kd_Mc_takeInputs_4 rfl ?_
  refine zk_stk (r' := [.int 0]) rfl ?_
  refine zk_istore_n (lv' := [(1, _), (0, _)]) C kd_Mc_takeInputs_5 rfl (by decide) rfl rfl ?_
  refine zk_lvs (lv' := [(0, .ref (S.1 58)), (1, .int 0)]) [1, 0] rfl ?_
  exact zl_Mc_takeInputs_6 C hR zF h 0 e
set_option maxHeartbeats 4000000 in
set_option maxRecDepth 100000 in
theorem zc_Mc_beginUnit {l : Launch} {D : va_G} {sz0 : Nat} {S : zs_T} {P : ze_T} (h : zs_H) (x1 : Int32) (x2 : Int32) {rh : zs_H} (e : f_Mc_beginUnit h x1 x2 = some rh) : zk_Sp (zs_G S l D sz0) (ze_E P) km_Mc_beginUnit { frames := 0, cells := 0, slots := 0, locals := 0 } [.ref (S.1 58), .int x1, .int x2] (zs_W S h) (zd_PV S rh) := by
  refine zk_met ku_Mc_beginUnit (Nat.le_of_ble_eq_true rfl) (ze_Em P) ?_
  intro X C hR
  refine zk_lvs (lv' := [(0, .ref (S.1 58)), (1, .int x1), (2, .int x2)]) [0, 1, 2] rfl ?_
  unfold f_Mc_beginUnit at e
  refine zk_iconst (v := 3) C kd_Mc_beginUnit_0 (by decide) rfl ?_
  refine zk_aload_n C kd_Mc_beginUnit_1 rfl 0 rfl rfl ?_
  refine zs_get (v := .int (h.1 58 17)) C 58 17 rfl rfl rfl rfl ki_Mc (by decide) kw544 kd_Mc_beginUnit_2 rfl ?_
  refine zk_imul C kd_Mc_beginUnit_5 rfl ?_
  refine zk_istore_n (lv' := [(3, _), (0, _), (1, _), (2, _)]) C kd_Mc_beginUnit_6 rfl (by decide) rfl rfl ?_
  refine zk_iload_n C kd_Mc_beginUnit_7 rfl 0 rfl rfl ?_
  refine zk_iconst (v := 2) C kd_Mc_beginUnit_8 (by decide) rfl ?_
  refine zk_iadd C kd_Mc_beginUnit_9 rfl ?_
  refine zk_aload_n C kd_Mc_beginUnit_10 rfl 1 rfl rfl ?_
  refine zs_get (v := .ref (S.1 64)) C 58 15 rfl rfl rfl rfl ki_Mc (by decide) kw542 kd_Mc_beginUnit_11 rfl ?_
  refine zs_alen (v := 51) C 64 rfl (by decide) rfl kd_Mc_beginUnit_14 rfl ?_
  refine zk_icmp_ge (tgt := 110) C kd_Mc_beginUnit_15 (by decide) rfl (fun b1 => ?_) (fun b1 => ?_)
  · replace e := zd_pos b1 e
    exact zk_vret C hR kd_Mc_beginUnit_110 rfl rfl (zd_rV e)
  · replace e := zd_neg b1 e
    refine zk_iload_n C kd_Mc_beginUnit_18 rfl 2 rfl rfl ?_
    refine zk_if_lt (tgt := 110) C kd_Mc_beginUnit_19 (by decide) rfl (fun b2 => ?_) (fun b2 => ?_)
    · replace e := zd_pos b2 e
      exact zk_vret C hR kd_Mc_beginUnit_110 rfl rfl (zd_rV e)
    · replace e := zd_neg b2 e
      refine zk_iload_n C kd_Mc_beginUnit_22 rfl 2 rfl rfl ?_
      refine zk_aload_n C kd_Mc_beginUnit_23 rfl 1 rfl rfl ?_
      refine zs_get (v := .ref (S.1 41)) C 58 10 rfl rfl rfl rfl ki_Mc (by decide) kw537 kd_Mc_beginUnit_24 rfl ?_
      refine zs_get (v := .int (h.1 41 6)) C 41 6 rfl rfl rfl rfl ki_Cd (by decide) kw420 kd_Mc_beginUnit_27 rfl ?_
      refine zk_icmp_ge (tgt := 110) C kd_Mc_beginUnit_30 (by decide) rfl (fun b3 => ?_) (fun b3 => ?_)
      · replace e := zd_pos b3 e
        exact zk_vret C hR kd_Mc_beginUnit_110 rfl rfl (zd_rV e)
      · replace e := zd_neg b3 e
        refine zk_aload_n C kd_Mc_beginUnit_33 rfl 1 rfl rfl ?_
        refine zs_get (v := .ref (S.1 64)) C 58 15 rfl rfl rfl rfl ki_Mc (by decide) kw542 kd_Mc_beginUnit_34 rfl ?_
        refine zk_iload_n C kd_Mc_beginUnit_37 rfl 0 rfl rfl ?_
        refine zk_aload_n C kd_Mc_beginUnit_38 rfl 1 rfl rfl ?_
        refine zs_get (v := .int (h.1 58 18)) C 58 18 rfl rfl rfl rfl ki_Mc (by decide) kw545 kd_Mc_beginUnit_39 rfl ?_
        obtain ⟨q4, e⟩ := zd_g e
        refine zs_iast C 64 rfl (zd_vp q4) kd_Mc_beginUnit_42 rfl ?_
        refine zk_aload_n C kd_Mc_beginUnit_43 rfl 1 rfl rfl ?_
        refine zs_get (v := .ref (S.1 64)) C 58 15 rfl rfl rfl rfl ki_Mc (by decide) kw542 kd_Mc_beginUnit_44 rfl ?_
        refine zk_iload_n C kd_Mc_beginUnit_47 rfl 0 rfl rfl ?_
        refine zk_iconst (v := 1) C kd_Mc_beginUnit_48 (by decide) rfl ?_
        refine zk_iadd C kd_Mc_beginUnit_49 rfl ?_
        refine zk_aload_n C kd_Mc_beginUnit_50 rfl 1 rfl rfl ?_
        refine zs_get (v := .int (h.1 58 19)) C 58 19 rfl rfl rfl rfl ki_Mc (by decide) kw546 kd_Mc_beginUnit_51 rfl ?_
        obtain ⟨q5, e⟩ := zd_g e
        refine zs_iast C 64 rfl (zd_vp q5) kd_Mc_beginUnit_54 rfl ?_
        refine zk_aload_n C kd_Mc_beginUnit_55 rfl 1 rfl rfl ?_
        refine zs_get (v := .ref (S.1 64)) C 58 15 rfl rfl rfl rfl ki_Mc (by decide) kw542 kd_Mc_beginUnit_56 rfl ?_
        refine zk_iload_n C kd_Mc_beginUnit_59 rfl 0 rfl rfl ?_
        refine zk_iconst (v := 2) C kd_Mc_beginUnit_60 (by decide) rfl ?_
        refine zk_iadd C kd_Mc_beginUnit_61 rfl ?_
        refine zk_aload_n C kd_Mc_beginUnit_62 rfl 1 rfl rfl ?_
        refine zs_get (v := .int (h.1 58 20)) C 58 20 rfl rfl rfl rfl ki_Mc (by decide) kw547 kd_Mc_beginUnit_63 rfl ?_
        obtain ⟨q6, e⟩ := zd_g e
        refine zs_iast C 64 rfl (zd_vp q6) kd_Mc_beginUnit_66 rfl ?_
        refine zk_aload_n C kd_Mc_beginUnit_67 rfl 1 rfl rfl ?_
        refine zk_dup C kd_Mc_beginUnit_68 rfl rfl ?_
        refine zs_get (v := .int (h.1 58 17)) C 58 17 rfl rfl rfl rfl ki_Mc (by decide) kw544 kd_Mc_beginUnit_69 rfl ?_
        refine zk_iconst (v := 1) C kd_Mc_beginUnit_72 (by decide) rfl ?_
        refine zk_iadd C kd_Mc_beginUnit_73 rfl ?_
        refine zs_put (ty := .int) C 58 17 ((h.1 58 17) + 1) rfl rfl rfl rfl ki_Mc ky_Mc ko_Mc kn_Mc (by decide) kw544 rfl rfl rfl rfl (by decide) kd_Mc_beginUnit_74 rfl ?_
        refine zk_aload_n C kd_Mc_beginUnit_77 rfl 1 rfl rfl ?_
        refine zk_aload_n C kd_Mc_beginUnit_78 rfl 1 rfl rfl ?_
        refine zs_get (v := .ref (S.1 41)) C 58 10 rfl rfl rfl rfl ki_Mc (by decide) kw537 kd_Mc_beginUnit_79 rfl ?_
        refine zs_get (v := .ref (S.1 46)) C 41 4 rfl rfl rfl rfl ki_Cd (by decide) kw414 kd_Mc_beginUnit_82 rfl ?_
        refine zk_iload_n C kd_Mc_beginUnit_85 rfl 2 rfl rfl ?_
        obtain ⟨q7, e⟩ := zd_g e
        refine zs_iald C 46 rfl (zd_vp q7) kd_Mc_beginUnit_86 rfl ?_
        refine zk_stk (r' := [.int (h.2.1 46 x1.toNatClampNeg), .ref (S.1 58)]) rfl ?_
        refine zs_put (ty := .int) C 58 18 (h.2.1 46 x1.toNatClampNeg) rfl rfl rfl rfl ki_Mc ky_Mc ko_Mc kn_Mc (by decide) kw545 rfl rfl rfl rfl (by decide) kd_Mc_beginUnit_87 rfl ?_
        refine zk_aload_n C kd_Mc_beginUnit_90 rfl 1 rfl rfl ?_
        refine zk_aload_n C kd_Mc_beginUnit_91 rfl 1 rfl rfl ?_
        refine zs_get (v := .ref (S.1 41)) C 58 10 rfl rfl rfl rfl ki_Mc (by decide) kw537 kd_Mc_beginUnit_92 rfl ?_
        refine zs_get (v := .ref (S.1 46)) C 41 4 rfl rfl rfl rfl ki_Cd (by decide) kw414 kd_Mc_beginUnit_95 rfl ?_
        refine zk_iload_n C kd_Mc_beginUnit_98 rfl 2 rfl rfl ?_
        refine zk_iconst (v := 1) C kd_Mc_beginUnit_99 (by decide) rfl ?_
        refine zk_iadd C kd_Mc_beginUnit_100 rfl ?_
        obtain ⟨q8, e⟩ := zd_g e
        refine zs_iald C 46 rfl (zd_vp q8) kd_Mc_beginUnit_101 rfl ?_
        refine zk_stk (r' := [.int (h.2.1 46 (x1 + 1).toNatClampNeg), .ref (S.1 58)]) rfl ?_
        refine zs_put (ty := .int) C 58 19 (h.2.1 46 (x1 + 1).toNatClampNeg) rfl rfl rfl rfl ki_Mc ky_Mc ko_Mc kn_Mc (by decide) kw546 rfl rfl rfl rfl (by decide) kd_Mc_beginUnit_102 rfl ?_
        refine zk_aload_n C kd_Mc_beginUnit_105 rfl 1 rfl rfl ?_
        refine zk_iload_n C kd_Mc_beginUnit_106 rfl 3 rfl rfl ?_
        refine zs_put (ty := .int) C 58 20 x2 rfl rfl rfl rfl ki_Mc ky_Mc ko_Mc kn_Mc (by decide) kw547 rfl rfl rfl rfl (by decide) kd_Mc_beginUnit_107 rfl ?_
        exact zk_vret C hR kd_Mc_beginUnit_110 rfl rfl (zd_rV e)
set_option maxHeartbeats 4000000 in
set_option maxRecDepth 100000 in
theorem zc_Mc_endUnit {l : Launch} {D : va_G} {sz0 : Nat} {S : zs_T} {P : ze_T} (h : zs_H) {rh : zs_H} (e : f_Mc_endUnit h = some rh) : zk_Sp (zs_G S l D sz0) (ze_E P) km_Mc_endUnit { frames := 0, cells := 0, slots := 0, locals := 0 } [.ref (S.1 58)] (zs_W S h) (zd_PV S rh) := by
  refine zk_met ku_Mc_endUnit (Nat.le_of_ble_eq_true rfl) (ze_Em P) ?_
  intro X C hR
  refine zk_lvs (lv' := [(0, .ref (S.1 58))]) [0] rfl ?_
  unfold f_Mc_endUnit at e
  refine zk_aload_n C kd_Mc_endUnit_0 rfl 0 rfl rfl ?_
  refine zk_dup C kd_Mc_endUnit_1 rfl rfl ?_
  refine zs_get (v := .int (h.1 58 17)) C 58 17 rfl rfl rfl rfl ki_Mc (by decide) kw544 kd_Mc_endUnit_2 rfl ?_
  refine zk_iconst (v := 1) C kd_Mc_endUnit_5 (by decide) rfl ?_
  refine zk_isub C kd_Mc_endUnit_6 rfl ?_
  refine zs_put (ty := .int) C 58 17 ((h.1 58 17) - 1) rfl rfl rfl rfl ki_Mc ky_Mc ko_Mc kn_Mc (by decide) kw544 rfl rfl rfl rfl (by decide) kd_Mc_endUnit_7 rfl ?_
  refine zk_aload_n C kd_Mc_endUnit_10 rfl 0 rfl rfl ?_
  refine zk_aload_n C kd_Mc_endUnit_11 rfl 0 rfl rfl ?_
  refine zs_get (v := .ref (S.1 64)) C 58 15 rfl rfl rfl rfl ki_Mc (by decide) kw542 kd_Mc_endUnit_12 rfl ?_
  refine zk_iconst (v := 3) C kd_Mc_endUnit_15 (by decide) rfl ?_
  refine zk_aload_n C kd_Mc_endUnit_16 rfl 0 rfl rfl ?_
  refine zs_get (v := .int ((h.1 58 17) - 1)) C 58 17 rfl rfl rfl rfl ki_Mc (by decide) kw544 kd_Mc_endUnit_17 rfl ?_
  refine zk_imul C kd_Mc_endUnit_20 rfl ?_
  obtain ⟨q1, e⟩ := zd_g e
  refine zs_iald C 64 rfl (zd_vp q1) kd_Mc_endUnit_21 rfl ?_
  refine zk_stk (r' := [.int (h.2.1 64 (3 * ((h.1 58 17) - 1)).toNatClampNeg), .ref (S.1 58)]) rfl ?_
  refine zs_put (ty := .int) C 58 18 (h.2.1 64 (3 * ((h.1 58 17) - 1)).toNatClampNeg) rfl rfl rfl rfl ki_Mc ky_Mc ko_Mc kn_Mc (by decide) kw545 rfl rfl rfl rfl (by decide) kd_Mc_endUnit_22 rfl ?_
  refine zk_aload_n C kd_Mc_endUnit_25 rfl 0 rfl rfl ?_
  refine zk_aload_n C kd_Mc_endUnit_26 rfl 0 rfl rfl ?_
  refine zs_get (v := .ref (S.1 64)) C 58 15 rfl rfl rfl rfl ki_Mc (by decide) kw542 kd_Mc_endUnit_27 rfl ?_
  refine zk_iconst (v := 3) C kd_Mc_endUnit_30 (by decide) rfl ?_
  refine zk_aload_n C kd_Mc_endUnit_31 rfl 0 rfl rfl ?_
  refine zs_get (v := .int ((h.1 58 17) - 1)) C 58 17 rfl rfl rfl rfl ki_Mc (by decide) kw544 kd_Mc_endUnit_32 rfl ?_
  refine zk_imul C kd_Mc_endUnit_35 rfl ?_
  refine zk_iconst (v := 1) C kd_Mc_endUnit_36 (by decide) rfl ?_
  refine zk_iadd C kd_Mc_endUnit_37 rfl ?_
  obtain ⟨q2, e⟩ := zd_g e
  refine zs_iald C 64 rfl (zd_vp q2) kd_Mc_endUnit_38 rfl ?_
  refine zk_stk (r' := [.int (h.2.1 64 ((3 * ((h.1 58 17) - 1)) + 1).toNatClampNeg), .ref (S.1 58)]) rfl ?_
  refine zs_put (ty := .int) C 58 19 (h.2.1 64 ((3 * ((h.1 58 17) - 1)) + 1).toNatClampNeg) rfl rfl rfl rfl ki_Mc ky_Mc ko_Mc kn_Mc (by decide) kw546 rfl rfl rfl rfl (by decide) kd_Mc_endUnit_39 rfl ?_
  refine zk_aload_n C kd_Mc_endUnit_42 rfl 0 rfl rfl ?_
  refine zk_aload_n C kd_Mc_endUnit_43 rfl 0 rfl rfl ?_
  refine zs_get (v := .ref (S.1 64)) C 58 15 rfl rfl rfl rfl ki_Mc (by decide) kw542 kd_Mc_endUnit_44 rfl ?_
  refine zk_iconst (v := 3) C kd_Mc_endUnit_47 (by decide) rfl ?_
  refine zk_aload_n C kd_Mc_endUnit_48 rfl 0 rfl rfl ?_
  refine zs_get (v := .int ((h.1 58 17) - 1)) C 58 17 rfl rfl rfl rfl ki_Mc (by decide) kw544 kd_Mc_endUnit_49 rfl ?_
  refine zk_imul C kd_Mc_endUnit_52 rfl ?_
  refine zk_iconst (v := 2) C kd_Mc_endUnit_53 (by decide) rfl ?_
  refine zk_iadd C kd_Mc_endUnit_54 rfl ?_
  obtain ⟨q3, e⟩ := zd_g e
  refine zs_iald C 64 rfl (zd_vp q3) kd_Mc_endUnit_55 rfl ?_
  refine zk_stk (r' := [.int (h.2.1 64 ((3 * ((h.1 58 17) - 1)) + 2).toNatClampNeg), .ref (S.1 58)]) rfl ?_
  refine zs_put (ty := .int) C 58 20 (h.2.1 64 ((3 * ((h.1 58 17) - 1)) + 2).toNatClampNeg) rfl rfl rfl rfl ki_Mc ky_Mc ko_Mc kn_Mc (by decide) kw547 rfl rfl rfl rfl (by decide) kd_Mc_endUnit_56 rfl ?_
  exact zk_vret C hR kd_Mc_endUnit_59 rfl rfl (zd_rV e)
set_option maxHeartbeats 4000000 in
set_option maxRecDepth 100000 in
theorem zc_Mc_takeOff {l : Launch} {D : va_G} {sz0 : Nat} {S : zs_T} {P : ze_T} (h : zs_H) {rv : Int32} {rh : zs_H} (e : f_Mc_takeOff h = some (rv, rh)) : zk_Sp (zs_G S l D sz0) (ze_E P) km_Mc_takeOff { frames := 0, cells := 0, slots := 0, locals := 0 } [.ref (S.1 58)] (zs_W S h) (zd_PI S rv rh) := by
  refine zk_met ku_Mc_takeOff (Nat.le_of_ble_eq_true rfl) (ze_Em P) ?_
  intro X C hR
  refine zk_lvs (lv' := [(0, .ref (S.1 58))]) [0] rfl ?_
  unfold f_Mc_takeOff at e
  refine zk_aload_n C kd_Mc_takeOff_0 rfl 0 rfl rfl ?_
  refine zs_get (v := .int (h.1 58 14)) C 58 14 rfl rfl rfl rfl ki_Mc (by decide) kw541 kd_Mc_takeOff_1 rfl ?_
  refine zk_if_ne (tgt := 9) C kd_Mc_takeOff_4 (by decide) rfl (fun b1 => ?_) (fun b1 => ?_)
  · replace e := zd_neg b1 e
    refine zk_aload_n C kd_Mc_takeOff_9 rfl 0 rfl rfl ?_
    refine zk_dup C kd_Mc_takeOff_10 rfl rfl ?_
    refine zs_get (v := .int (h.1 58 14)) C 58 14 rfl rfl rfl rfl ki_Mc (by decide) kw541 kd_Mc_takeOff_11 rfl ?_
    refine zk_iconst (v := 1) C kd_Mc_takeOff_14 (by decide) rfl ?_
    refine zk_isub C kd_Mc_takeOff_15 rfl ?_
    refine zs_put (ty := .int) C 58 14 ((h.1 58 14) - 1) rfl rfl rfl rfl ki_Mc ky_Mc ko_Mc kn_Mc (by decide) kw541 rfl rfl rfl rfl (by decide) kd_Mc_takeOff_16 rfl ?_
    refine zk_aload_n C kd_Mc_takeOff_19 rfl 0 rfl rfl ?_
    refine zs_get (v := .ref (S.1 63)) C 58 13 rfl rfl rfl rfl ki_Mc (by decide) kw540 kd_Mc_takeOff_20 rfl ?_
    refine zk_aload_n C kd_Mc_takeOff_23 rfl 0 rfl rfl ?_
    refine zs_get (v := .int ((h.1 58 14) - 1)) C 58 14 rfl rfl rfl rfl ki_Mc (by decide) kw541 kd_Mc_takeOff_24 rfl ?_
    obtain ⟨q2, e⟩ := zd_g e
    refine zs_iald C 63 rfl (zd_vp q2) kd_Mc_takeOff_27 rfl ?_
    refine zk_stk (r' := [.int (h.2.1 63 ((h.1 58 14) - 1).toNatClampNeg)]) rfl ?_
    exact zk_iret C hR kd_Mc_takeOff_28 rfl rfl (zd_rIS e)
  · replace e := zd_pos b1 e
    refine zk_iconst (v := 0) C kd_Mc_takeOff_7 (by decide) rfl ?_
    exact zk_iret C hR kd_Mc_takeOff_8 rfl rfl (zd_rIS e)
set_option maxHeartbeats 4000000 in
set_option maxRecDepth 100000 in
theorem zc_Mc_lay {l : Launch} {D : va_G} {sz0 : Nat} {S : zs_T} {P : ze_T} (h : zs_H) (x1 : Int32) {rh : zs_H} (e : f_Mc_lay h x1 = some rh) : zk_Sp (zs_G S l D sz0) (ze_E P) km_Mc_lay { frames := 0, cells := 0, slots := 0, locals := 0 } [.ref (S.1 58), .int x1] (zs_W S h) (zd_PV S rh) := by
  refine zk_met ku_Mc_lay (Nat.le_of_ble_eq_true rfl) (ze_Em P) ?_
  intro X C hR
  refine zk_lvs (lv' := [(0, .ref (S.1 58)), (1, .int x1)]) [0, 1] rfl ?_
  unfold f_Mc_lay at e
  refine zk_aload_n C kd_Mc_lay_0 rfl 0 rfl rfl ?_
  refine zs_get (v := .int (h.1 58 14)) C 58 14 rfl rfl rfl rfl ki_Mc (by decide) kw541 kd_Mc_lay_1 rfl ?_
  refine zk_aload_n C kd_Mc_lay_4 rfl 0 rfl rfl ?_
  refine zs_get (v := .ref (S.1 63)) C 58 13 rfl rfl rfl rfl ki_Mc (by decide) kw540 kd_Mc_lay_5 rfl ?_
  refine zs_alen (v := 1088) C 63 rfl (by decide) rfl kd_Mc_lay_8 rfl ?_
  refine zk_icmp_ge (tgt := 32) C kd_Mc_lay_9 (by decide) rfl (fun b1 => ?_) (fun b1 => ?_)
  · replace e := zd_pos b1 e
    exact zk_vret C hR kd_Mc_lay_32 rfl rfl (zd_rV e)
  · replace e := zd_neg b1 e
    refine zk_aload_n C kd_Mc_lay_12 rfl 0 rfl rfl ?_
    refine zs_get (v := .ref (S.1 63)) C 58 13 rfl rfl rfl rfl ki_Mc (by decide) kw540 kd_Mc_lay_13 rfl ?_
    refine zk_aload_n C kd_Mc_lay_16 rfl 0 rfl rfl ?_
    refine zs_get (v := .int (h.1 58 14)) C 58 14 rfl rfl rfl rfl ki_Mc (by decide) kw541 kd_Mc_lay_17 rfl ?_
    refine zk_iload_n C kd_Mc_lay_20 rfl 1 rfl rfl ?_
    obtain ⟨q2, e⟩ := zd_g e
    refine zs_iast C 63 rfl (zd_vp q2) kd_Mc_lay_21 rfl ?_
    refine zk_aload_n C kd_Mc_lay_22 rfl 0 rfl rfl ?_
    refine zk_dup C kd_Mc_lay_23 rfl rfl ?_
    refine zs_get (v := .int (h.1 58 14)) C 58 14 rfl rfl rfl rfl ki_Mc (by decide) kw541 kd_Mc_lay_24 rfl ?_
    refine zk_iconst (v := 1) C kd_Mc_lay_27 (by decide) rfl ?_
    refine zk_iadd C kd_Mc_lay_28 rfl ?_
    refine zs_put (ty := .int) C 58 14 ((h.1 58 14) + 1) rfl rfl rfl rfl ki_Mc ky_Mc ko_Mc kn_Mc (by decide) kw541 rfl rfl rfl rfl (by decide) kd_Mc_lay_29 rfl ?_
    exact zk_vret C hR kd_Mc_lay_32 rfl rfl (zd_rV e)
set_option maxHeartbeats 4000000 in
set_option maxRecDepth 100000 in
theorem zc_Cd_one {l : Launch} {D : va_G} {sz0 : Nat} {S : zs_T} {P : ze_T} (h : zs_H) (x0 : Int32) (x1 : Int32) : zk_Sp (zs_G S l D sz0) (ze_E P) km_Cd_one { frames := 1, cells := 0, slots := 0, locals := 23 } [.int x0, .int x1] (zs_W S h) (zd_PI S (f_Cd_one x0 x1) h) := by
  obtain ⟨rv, e⟩ : ∃ rv, f_Cd_one x0 x1 = rv := ⟨_, rfl⟩
  rw [e]
  refine zk_met ku_Cd_one (Nat.le_of_ble_eq_true rfl) (ze_Em P) ?_
  intro X C hR
  refine zk_lvs (lv' := [(0, .int x0), (1, .int x1)]) [0, 1] rfl ?_
  unfold f_Cd_one at e
  refine zk_iload_n C kd_Cd_one_0 rfl 0 rfl rfl ?_
  by_cases b1 : x0 = 0
  · replace e := zd_pos b1 e
    refine zk_tableIn (tgt := 44) C kd_Cd_one_1 (by rw [b1]; decide) (by rw [b1]; decide) (by rw [b1]; rfl) (by decide) ?_
    refine zk_iload_n C kd_Cd_one_44 rfl 1 rfl rfl ?_
    refine zk_ineg C kd_Cd_one_45 rfl ?_
    refine zk_i2s C kd_Cd_one_46 rfl ?_
    exact zk_iret C hR kd_Cd_one_47 rfl rfl (zd_rIT e)
  replace e := zd_neg b1 e
  by_cases b2 : x0 = 1
  · replace e := zd_pos b2 e
    refine zk_tableIn (tgt := 48) C kd_Cd_one_1 (by rw [b2]; decide) (by rw [b2]; decide) (by rw [b2]; rfl) (by decide) ?_
    refine zk_iload_n C kd_Cd_one_48 rfl 1 rfl rfl ?_
    refine zk_ineg C kd_Cd_one_49 rfl ?_
    exact zk_iret C hR kd_Cd_one_50 rfl rfl (zd_rIT e)
  replace e := zd_neg b2 e
  by_cases b3 : x0 = 2
  · replace e := zd_pos b3 e
    refine zk_tableIn (tgt := 51) C kd_Cd_one_1 (by rw [b3]; decide) (by rw [b3]; decide) (by rw [b3]; rfl) (by decide) ?_
    refine zk_iload_n C kd_Cd_one_51 rfl 1 rfl rfl ?_
    refine zk_if_ne (tgt := 59) C kd_Cd_one_52 (by decide) rfl (fun b4 => ?_) (fun b4 => ?_)
    · replace e := zd_neg b4 e
      refine zk_iconst (v := 0) C kd_Cd_one_59 (by decide) rfl ?_
      exact zk_iret C hR kd_Cd_one_60 rfl rfl (zd_rIT e)
    · replace e := zd_pos b4 e
      refine zk_iconst (v := 1) C kd_Cd_one_55 (by decide) rfl ?_
      refine zk_goto (tgt := 60) C kd_Cd_one_56 (by decide) ?_
      exact zk_iret C hR kd_Cd_one_60 rfl rfl (zd_rIT e)
  replace e := zd_neg b3 e
  by_cases b5 : x0 = 3
  · replace e := zd_pos b5 e
    refine zk_tableIn (tgt := 61) C kd_Cd_one_1 (by rw [b5]; decide) (by rw [b5]; decide) (by rw [b5]; rfl) (by decide) ?_
    refine zk_iload_n C kd_Cd_one_61 rfl 1 rfl rfl ?_
    refine zk_iconst (v := (-1)) C kd_Cd_one_62 (by decide) rfl ?_
    refine zk_ixor C kd_Cd_one_63 rfl ?_
    exact zk_iret C hR kd_Cd_one_64 rfl rfl (zd_rIT e)
  replace e := zd_neg b5 e
  by_cases b6 : x0 = 4
  · replace e := zd_pos b6 e
    refine zk_tableIn (tgt := 65) C kd_Cd_one_1 (by rw [b6]; decide) (by rw [b6]; decide) (by rw [b6]; rfl) (by decide) ?_
    refine zk_iload_n C kd_Cd_one_65 rfl 1 rfl rfl ?_
    refine zk_mabs C kw1227 kw1228 kw19 (by decide) (Nat.le_of_ble_eq_true rfl) (Nat.le_refl _) (Nat.le_refl _) kd_Cd_one_66 rfl ?_
    refine zk_i2s C kd_Cd_one_69 rfl ?_
    exact zk_iret C hR kd_Cd_one_70 rfl rfl (zd_rIT e)
  replace e := zd_neg b6 e
  by_cases b7 : x0 = 5
  · replace e := zd_pos b7 e
    refine zk_tableIn (tgt := 71) C kd_Cd_one_1 (by rw [b7]; decide) (by rw [b7]; decide) (by rw [b7]; rfl) (by decide) ?_
    refine zk_iload_n C kd_Cd_one_71 rfl 1 rfl rfl ?_
    refine zk_mabs C kw1227 kw1228 kw19 (by decide) (Nat.le_of_ble_eq_true rfl) (Nat.le_refl _) (Nat.le_refl _) kd_Cd_one_72 rfl ?_
    exact zk_iret C hR kd_Cd_one_75 rfl rfl (zd_rIT e)
  replace e := zd_neg b7 e
  by_cases b8 : x0 = 6
  · replace e := zd_pos b8 e
    refine zk_tableIn (tgt := 76) C kd_Cd_one_1 (by rw [b8]; decide) (by rw [b8]; decide) (by rw [b8]; rfl) (by decide) ?_
    refine zk_iload_n C kd_Cd_one_76 rfl 1 rfl rfl ?_
    refine zk_i2s C kd_Cd_one_77 rfl ?_
    exact zk_iret C hR kd_Cd_one_78 rfl rfl (zd_rIT e)
  replace e := zd_neg b8 e
  refine zk_tableOut (tgt := 79) C kd_Cd_one_1 (by have := lv_neT b1 (a := 0) (by decide); have := lv_neT b2 (a := 1) (by decide); have := lv_neT b3 (a := 2) (by decide); have := lv_neT b5 (a := 3) (by decide); have := lv_neT b6 (a := 4) (by decide); have := lv_neT b7 (a := 5) (by decide); have := lv_neT b8 (a := 6) (by decide); omega) (by decide) ?_
  refine zk_iload_n C kd_Cd_one_79 rfl 1 rfl rfl ?_
  refine zk_if_ne (tgt := 87) C kd_Cd_one_80 (by decide) rfl (fun b9 => ?_) (fun b9 => ?_)
  · replace e := zd_neg b9 e
    refine zk_iconst (v := 1) C kd_Cd_one_87 (by decide) rfl ?_
    exact zk_iret C hR kd_Cd_one_88 rfl rfl (zd_rIT e)
  · replace e := zd_pos b9 e
    refine zk_iconst (v := 0) C kd_Cd_one_83 (by decide) rfl ?_
    refine zk_goto (tgt := 88) C kd_Cd_one_84 (by decide) ?_
    exact zk_iret C hR kd_Cd_one_88 rfl rfl (zd_rIT e)
set_option maxHeartbeats 4000000 in
set_option maxRecDepth 100000 in
theorem zc_Cd_isByZero {l : Launch} {D : va_G} {sz0 : Nat} {S : zs_T} {P : ze_T} (h : zs_H) (x0 : Int32) (x1 : Int32) : zk_Sp (zs_G S l D sz0) (ze_E P) km_Cd_isByZero { frames := 0, cells := 0, slots := 0, locals := 0 } [.int x0, .int x1] (zs_W S h) (zd_PZ S (f_Cd_isByZero x0 x1) h) := by
  obtain ⟨rv, e⟩ : ∃ rv, f_Cd_isByZero x0 x1 = rv := ⟨_, rfl⟩
  rw [e]
  refine zk_met ku_Cd_isByZero (Nat.le_of_ble_eq_true rfl) (ze_Em P) ?_
  intro X C hR
  refine zk_lvs (lv' := [(0, .int x0), (1, .int x1)]) [0, 1] rfl ?_
  unfold f_Cd_isByZero at e
  refine zk_iload_n C kd_Cd_isByZero_0 rfl 1 rfl rfl ?_
  refine zk_if_ne (tgt := 30) C kd_Cd_isByZero_1 (by decide) rfl (fun b1 => ?_) (fun b1 => ?_)
  · replace e := zd_neg b1 e
    refine zk_iconst (v := 0) C kd_Cd_isByZero_30 (by decide) rfl ?_
    exact zk_zret C hR (zd_nb (Or.inl rfl)) kd_Cd_isByZero_31 rfl rfl (zd_rZT (Or.inl rfl) e)
  · replace e := zd_pos b1 e
    refine zk_iload_n C kd_Cd_isByZero_4 rfl 0 rfl rfl ?_
    refine zk_iconst (v := 3) C kd_Cd_isByZero_5 (by decide) rfl ?_
    refine zk_icmp_eq (tgt := 26) C kd_Cd_isByZero_6 (by decide) rfl (fun b2 => ?_) (fun b2 => ?_)
    · replace e := zd_pos b2 e
      refine zk_iconst (v := 1) C kd_Cd_isByZero_26 (by decide) rfl ?_
      refine zk_goto (tgt := 31) C kd_Cd_isByZero_27 (by decide) ?_
      exact zk_zret C hR (zd_nb (Or.inr rfl)) kd_Cd_isByZero_31 rfl rfl (zd_rZT (Or.inr rfl) e)
    · replace e := zd_neg b2 e
      refine zk_iload_n C kd_Cd_isByZero_9 rfl 0 rfl rfl ?_
      refine zk_iconst (v := 4) C kd_Cd_isByZero_10 (by decide) rfl ?_
      refine zk_icmp_eq (tgt := 26) C kd_Cd_isByZero_11 (by decide) rfl (fun b3 => ?_) (fun b3 => ?_)
      · replace e := zd_pos b3 e
        refine zk_iconst (v := 1) C kd_Cd_isByZero_26 (by decide) rfl ?_
        refine zk_goto (tgt := 31) C kd_Cd_isByZero_27 (by decide) ?_
        exact zk_zret C hR (zd_nb (Or.inr rfl)) kd_Cd_isByZero_31 rfl rfl (zd_rZT (Or.inr rfl) e)
      · replace e := zd_neg b3 e
        refine zk_iload_n C kd_Cd_isByZero_14 rfl 0 rfl rfl ?_
        refine zk_bipush (v := 8) C kd_Cd_isByZero_15 (by decide) rfl ?_
        refine zk_icmp_eq (tgt := 26) C kd_Cd_isByZero_17 (by decide) rfl (fun b4 => ?_) (fun b4 => ?_)
        · replace e := zd_pos b4 e
          refine zk_iconst (v := 1) C kd_Cd_isByZero_26 (by decide) rfl ?_
          refine zk_goto (tgt := 31) C kd_Cd_isByZero_27 (by decide) ?_
          exact zk_zret C hR (zd_nb (Or.inr rfl)) kd_Cd_isByZero_31 rfl rfl (zd_rZT (Or.inr rfl) e)
        · replace e := zd_neg b4 e
          refine zk_iload_n C kd_Cd_isByZero_20 rfl 0 rfl rfl ?_
          refine zk_bipush (v := 9) C kd_Cd_isByZero_21 (by decide) rfl ?_
          refine zk_icmp_ne (tgt := 30) C kd_Cd_isByZero_23 (by decide) rfl (fun b5 => ?_) (fun b5 => ?_)
          · replace e := zd_neg b5 e
            refine zk_iconst (v := 0) C kd_Cd_isByZero_30 (by decide) rfl ?_
            exact zk_zret C hR (zd_nb (Or.inl rfl)) kd_Cd_isByZero_31 rfl rfl (zd_rZT (Or.inl rfl) e)
          · replace e := zd_pos b5 e
            refine zk_iconst (v := 1) C kd_Cd_isByZero_26 (by decide) rfl ?_
            refine zk_goto (tgt := 31) C kd_Cd_isByZero_27 (by decide) ?_
            exact zk_zret C hR (zd_nb (Or.inr rfl)) kd_Cd_isByZero_31 rfl rfl (zd_rZT (Or.inr rfl) e)
