theorem kw300 : Jvm.Cond.fieldLink "PlantKeeper" (278 : Nat) "PlantKeeper$Plan" "allCells" "I" ∈ zk_BW := zk_inT 300 (by decide +kernel) rfl
theorem kw417 : Jvm.Cond.fieldLink "PlantKeeper" (275 : Nat) "PlantKeeper$Code" "size" "I" ∈ zk_BW := zk_inT 417 (by decide +kernel) rfl
theorem kw522 : Jvm.Cond.fieldLink "PlantKeeper$Machine" (41 : Nat) "PlantKeeper$Machine" "loaded" "Z" ∈ zk_BW := zk_inT 522 (by decide +kernel) rfl
theorem kw524 : Jvm.Cond.fieldLink "PlantKeeper" (169 : Nat) "PlantKeeper$Machine" "loaded" "Z" ∈ zk_BW := zk_inT 524 (by decide +kernel) rfl
theorem kw526 : Jvm.Cond.fieldLink "PlantKeeper" (197 : Nat) "PlantKeeper$Machine" "stopped" "Z" ∈ zk_BW := zk_inT 526 (by decide +kernel) rfl
theorem kw528 : Jvm.Cond.fieldLink "PlantKeeper" (272 : Nat) "PlantKeeper$Machine" "bound" "I" ∈ zk_BW := zk_inT 528 (by decide +kernel) rfl
theorem kw530 : Jvm.Cond.fieldLink "PlantKeeper" (281 : Nat) "PlantKeeper$Machine" "steps" "I" ∈ zk_BW := zk_inT 530 (by decide +kernel) rfl
theorem kw532 : Jvm.Cond.fieldLink "PlantKeeper" (284 : Nat) "PlantKeeper$Machine" "scans" "I" ∈ zk_BW := zk_inT 532 (by decide +kernel) rfl
theorem kw534 : Jvm.Cond.fieldLink "PlantKeeper" (287 : Nat) "PlantKeeper$Machine" "scansAbove" "I" ∈ zk_BW := zk_inT 534 (by decide +kernel) rfl
theorem kw536 : Jvm.Cond.fieldLink "PlantKeeper" (290 : Nat) "PlantKeeper$Machine" "now" "I" ∈ zk_BW := zk_inT 536 (by decide +kernel) rfl
theorem kw598 : Jvm.Cond.fieldLink "PlantKeeper" (269 : Nat) "PlantKeeper$Line" "out" "[B" ∈ zk_BW := zk_inT 598 (by decide +kernel) rfl
theorem kw599 : Jvm.Cond.fieldLink "PlantKeeper$Line" (23 : Nat) "PlantKeeper$Line" "outSize" "I" ∈ zk_BW := zk_inT 599 (by decide +kernel) rfl
theorem kw600 : Jvm.Cond.fieldLink "PlantKeeper" (266 : Nat) "PlantKeeper$Line" "outSize" "I" ∈ zk_BW := zk_inT 600 (by decide +kernel) rfl
theorem kw602 : Jvm.Cond.fieldLink "PlantKeeper" (263 : Nat) "PlantKeeper$Line" "station" "I" ∈ zk_BW := zk_inT 602 (by decide +kernel) rfl
theorem kw604 : Jvm.Cond.fieldLink "PlantKeeper$Line" (36 : Nat) "PlantKeeper$Line" "request" "[B" ∈ zk_BW := zk_inT 604 (by decide +kernel) rfl
theorem kw605 : Jvm.Cond.fieldLink "PlantKeeper$Line" (39 : Nat) "PlantKeeper$Line" "dataSize" "I" ∈ zk_BW := zk_inT 605 (by decide +kernel) rfl
theorem kw621 : Jvm.Cond.fieldLink "PlantKeeper" (119 : Nat) "PlantKeeper" "fault" "I" ∈ zk_BW := zk_inT 621 (by decide +kernel) rfl
theorem kw1486 : Jvm.Cond.instanceMethod ({ cls := "PlantKeeper$Machine", name := "change", desc := "(III)I" } : Jvm.MethodName) ∈ zk_BW := zk_inT 1486 (by decide +kernel) rfl
theorem kw1487 : Jvm.Cond.selects "PlantKeeper$Machine" ({ cls := "PlantKeeper$Machine", name := "change", desc := "(III)I" } : Jvm.MethodName) ({ cls := "PlantKeeper$Machine", name := "change", desc := "(III)I" } : Jvm.MethodName) ∈ zk_BW := zk_inT 1487 (by decide +kernel) rfl
theorem kw1488 : Jvm.Cond.code ({ cls := "PlantKeeper$Machine", name := "change", desc := "(III)I" } : Jvm.MethodName) prog_6_method_12_code (5 : Nat) (Option.some FieldType.int) ∈ zk_BW := zk_inT 1488 (by decide +kernel) rfl
theorem kw1494 : Jvm.Cond.instanceMethod ({ cls := "PlantKeeper$Machine", name := "seen", desc := "(II)I" } : Jvm.MethodName) ∈ zk_BW := zk_inT 1494 (by decide +kernel) rfl
theorem kw1495 : Jvm.Cond.selects "PlantKeeper$Machine" ({ cls := "PlantKeeper$Machine", name := "seen", desc := "(II)I" } : Jvm.MethodName) ({ cls := "PlantKeeper$Machine", name := "seen", desc := "(II)I" } : Jvm.MethodName) ∈ zk_BW := zk_inT 1495 (by decide +kernel) rfl
theorem kw1496 : Jvm.Cond.code ({ cls := "PlantKeeper$Machine", name := "seen", desc := "(II)I" } : Jvm.MethodName) prog_6_method_11_code (4 : Nat) (Option.some FieldType.int) ∈ zk_BW := zk_inT 1496 (by decide +kernel) rfl
theorem kw1612 : Jvm.Cond.static ({ cls := "PlantKeeper$Line", name := "checkSum", desc := "([BI)I" } : Jvm.MethodName) ∈ zk_BW := zk_inT 1612 (by decide +kernel) rfl
theorem kw1613 : Jvm.Cond.code ({ cls := "PlantKeeper$Line", name := "checkSum", desc := "([BI)I" } : Jvm.MethodName) prog_5_method_3_code (5 : Nat) (Option.some FieldType.int) ∈ zk_BW := zk_inT 1613 (by decide +kernel) rfl
theorem kw1614 : Jvm.Cond.constant "PlantKeeper$Line" (56 : Nat) (65535 : Int32) ∈ zk_BW := zk_inT 1614 (by decide +kernel) rfl
theorem kw1615 : Jvm.Cond.constant "PlantKeeper$Line" (57 : Nat) (40961 : Int32) ∈ zk_BW := zk_inT 1615 (by decide +kernel) rfl
theorem kw1618 : Jvm.Cond.instanceMethod ({ cls := "PlantKeeper$Line", name := "refusal", desc := "(I)I" } : Jvm.MethodName) ∈ zk_BW := zk_inT 1618 (by decide +kernel) rfl
theorem kw1619 : Jvm.Cond.code ({ cls := "PlantKeeper$Line", name := "refusal", desc := "(I)I" } : Jvm.MethodName) prog_5_method_7_code (5 : Nat) (Option.some FieldType.int) ∈ zk_BW := zk_inT 1619 (by decide +kernel) rfl
theorem kw1620 : Jvm.Cond.methodLink "PlantKeeper$Line" (58 : Nat) ({ cls := "PlantKeeper$Line", name := "data", desc := "(I)I" } : Jvm.MethodName) ∈ zk_BW := zk_inT 1620 (by decide +kernel) rfl
theorem kw1622 : Jvm.Cond.instanceMethod ({ cls := "PlantKeeper$Line", name := "data", desc := "(I)I" } : Jvm.MethodName) ∈ zk_BW := zk_inT 1622 (by decide +kernel) rfl
theorem kw1623 : Jvm.Cond.code ({ cls := "PlantKeeper$Line", name := "data", desc := "(I)I" } : Jvm.MethodName) prog_5_method_5_code (2 : Nat) (Option.some FieldType.int) ∈ zk_BW := zk_inT 1623 (by decide +kernel) rfl
theorem kw1624 : Jvm.Cond.methodLink "PlantKeeper$Line" (61 : Nat) ({ cls := "PlantKeeper$Line", name := "number", desc := "(I)I" } : Jvm.MethodName) ∈ zk_BW := zk_inT 1624 (by decide +kernel) rfl
theorem kw1626 : Jvm.Cond.instanceMethod ({ cls := "PlantKeeper$Line", name := "number", desc := "(I)I" } : Jvm.MethodName) ∈ zk_BW := zk_inT 1626 (by decide +kernel) rfl
theorem kw1627 : Jvm.Cond.code ({ cls := "PlantKeeper$Line", name := "number", desc := "(I)I" } : Jvm.MethodName) prog_5_method_6_code (2 : Nat) (Option.some FieldType.int) ∈ zk_BW := zk_inT 1627 (by decide +kernel) rfl
theorem kw1628 : Jvm.Cond.methodLink "PlantKeeper$Line" (64 : Nat) ({ cls := "PlantKeeper$Line", name := "isNumberFor", desc := "(II)Z" } : Jvm.MethodName) ∈ zk_BW := zk_inT 1628 (by decide +kernel) rfl
theorem kw1630 : Jvm.Cond.instanceMethod ({ cls := "PlantKeeper$Line", name := "isNumberFor", desc := "(II)Z" } : Jvm.MethodName) ∈ zk_BW := zk_inT 1630 (by decide +kernel) rfl
theorem kw1631 : Jvm.Cond.code ({ cls := "PlantKeeper$Line", name := "isNumberFor", desc := "(II)Z" } : Jvm.MethodName) prog_5_method_8_code (3 : Nat) (Option.some FieldType.boolean) ∈ zk_BW := zk_inT 1631 (by decide +kernel) rfl
theorem kw1632 : Jvm.Cond.constant "PlantKeeper$Line" (71 : Nat) (65280 : Int32) ∈ zk_BW := zk_inT 1632 (by decide +kernel) rfl
theorem kw1633 : Jvm.Cond.methodLink "PlantKeeper$Line" (68 : Nat) ({ cls := "PlantKeeper$Line", name := "tableSize", desc := "(I)I" } : Jvm.MethodName) ∈ zk_BW := zk_inT 1633 (by decide +kernel) rfl
theorem kw1634 : Jvm.Cond.static ({ cls := "PlantKeeper$Line", name := "tableSize", desc := "(I)I" } : Jvm.MethodName) ∈ zk_BW := zk_inT 1634 (by decide +kernel) rfl
theorem kw1635 : Jvm.Cond.code ({ cls := "PlantKeeper$Line", name := "tableSize", desc := "(I)I" } : Jvm.MethodName) prog_5_method_9_code (1 : Nat) (Option.some FieldType.int) ∈ zk_BW := zk_inT 1635 (by decide +kernel) rfl
theorem kw1638 : Jvm.Cond.instanceMethod ({ cls := "PlantKeeper$Line", name := "write", desc := "(I)V" } : Jvm.MethodName) ∈ zk_BW := zk_inT 1638 (by decide +kernel) rfl
theorem kw1639 : Jvm.Cond.code ({ cls := "PlantKeeper$Line", name := "write", desc := "(I)V" } : Jvm.MethodName) prog_5_method_10_code (5 : Nat) (Option.none : Option FieldType) ∈ zk_BW := zk_inT 1639 (by decide +kernel) rfl
theorem kw1640 : Jvm.Cond.methodLink "PlantKeeper$Line" (72 : Nat) ({ cls := "PlantKeeper$Machine", name := "change", desc := "(III)I" } : Jvm.MethodName) ∈ zk_BW := zk_inT 1640 (by decide +kernel) rfl
theorem kw1641 : Jvm.Cond.methodLink "PlantKeeper$Line" (50 : Nat) ({ cls := "PlantKeeper$Line", name := "send", desc := "(I)V" } : Jvm.MethodName) ∈ zk_BW := zk_inT 1641 (by decide +kernel) rfl
theorem kw1643 : Jvm.Cond.instanceMethod ({ cls := "PlantKeeper$Line", name := "send", desc := "(I)V" } : Jvm.MethodName) ∈ zk_BW := zk_inT 1643 (by decide +kernel) rfl
theorem kw1644 : Jvm.Cond.code ({ cls := "PlantKeeper$Line", name := "send", desc := "(I)V" } : Jvm.MethodName) prog_5_method_4_code (2 : Nat) (Option.none : Option FieldType) ∈ zk_BW := zk_inT 1644 (by decide +kernel) rfl
theorem kw1647 : Jvm.Cond.instanceMethod ({ cls := "PlantKeeper$Line", name := "reply", desc := "(I)V" } : Jvm.MethodName) ∈ zk_BW := zk_inT 1647 (by decide +kernel) rfl
theorem kw1648 : Jvm.Cond.code ({ cls := "PlantKeeper$Line", name := "reply", desc := "(I)V" } : Jvm.MethodName) prog_5_method_11_code (6 : Nat) (Option.none : Option FieldType) ∈ zk_BW := zk_inT 1648 (by decide +kernel) rfl
theorem kw1649 : Jvm.Cond.methodLink "PlantKeeper$Line" (76 : Nat) ({ cls := "java/lang/Math", name := "min", desc := "(II)I" } : Jvm.MethodName) ∈ zk_BW := zk_inT 1649 (by decide +kernel) rfl
theorem kw1650 : Jvm.Cond.methodLink "PlantKeeper$Line" (82 : Nat) ({ cls := "PlantKeeper$Line", name := "bitsFrom", desc := "(III)I" } : Jvm.MethodName) ∈ zk_BW := zk_inT 1650 (by decide +kernel) rfl
theorem kw1652 : Jvm.Cond.instanceMethod ({ cls := "PlantKeeper$Line", name := "bitsFrom", desc := "(III)I" } : Jvm.MethodName) ∈ zk_BW := zk_inT 1652 (by decide +kernel) rfl
theorem kw1653 : Jvm.Cond.code ({ cls := "PlantKeeper$Line", name := "bitsFrom", desc := "(III)I" } : Jvm.MethodName) prog_5_method_12_code (7 : Nat) (Option.some FieldType.int) ∈ zk_BW := zk_inT 1653 (by decide +kernel) rfl
theorem kw1654 : Jvm.Cond.methodLink "PlantKeeper$Line" (85 : Nat) ({ cls := "PlantKeeper$Machine", name := "seen", desc := "(II)I" } : Jvm.MethodName) ∈ zk_BW := zk_inT 1654 (by decide +kernel) rfl
theorem kw1655 : Jvm.Cond.methodLink "PlantKeeper$Line" (91 : Nat) ({ cls := "PlantKeeper$Line", name := "lamp", desc := "(I)I" } : Jvm.MethodName) ∈ zk_BW := zk_inT 1655 (by decide +kernel) rfl
theorem kw1657 : Jvm.Cond.instanceMethod ({ cls := "PlantKeeper$Line", name := "lamp", desc := "(I)I" } : Jvm.MethodName) ∈ zk_BW := zk_inT 1657 (by decide +kernel) rfl
theorem kw1658 : Jvm.Cond.code ({ cls := "PlantKeeper$Line", name := "lamp", desc := "(I)I" } : Jvm.MethodName) prog_5_method_13_code (2 : Nat) (Option.some FieldType.int) ∈ zk_BW := zk_inT 1658 (by decide +kernel) rfl
theorem kw1659 : Jvm.Cond.methodLink "PlantKeeper$Line" (88 : Nat) ({ cls := "PlantKeeper$Line", name := "meter", desc := "(I)I" } : Jvm.MethodName) ∈ zk_BW := zk_inT 1659 (by decide +kernel) rfl
theorem kw1661 : Jvm.Cond.instanceMethod ({ cls := "PlantKeeper$Line", name := "meter", desc := "(I)I" } : Jvm.MethodName) ∈ zk_BW := zk_inT 1661 (by decide +kernel) rfl
theorem kw1662 : Jvm.Cond.code ({ cls := "PlantKeeper$Line", name := "meter", desc := "(I)I" } : Jvm.MethodName) prog_5_method_14_code (2 : Nat) (Option.some FieldType.int) ∈ zk_BW := zk_inT 1662 (by decide +kernel) rfl
theorem kw1664 : Jvm.Cond.instanceMethod ({ cls := "PlantKeeper", name := "station", desc := "(I)I" } : Jvm.MethodName) ∈ zk_BW := zk_inT 1664 (by decide +kernel) rfl
theorem kw1665 : Jvm.Cond.selects "PlantKeeper" ({ cls := "PlantKeeper", name := "station", desc := "(I)I" } : Jvm.MethodName) ({ cls := "PlantKeeper", name := "station", desc := "(I)I" } : Jvm.MethodName) ∈ zk_BW := zk_inT 1665 (by decide +kernel) rfl
theorem kw1666 : Jvm.Cond.code ({ cls := "PlantKeeper", name := "station", desc := "(I)I" } : Jvm.MethodName) prog_1_method_22_code (3 : Nat) (Option.some FieldType.int) ∈ zk_BW := zk_inT 1666 (by decide +kernel) rfl
theorem kw1668 : Jvm.Cond.instanceMethod ({ cls := "PlantKeeper", name := "byteAt", desc := "(I)I" } : Jvm.MethodName) ∈ zk_BW := zk_inT 1668 (by decide +kernel) rfl
theorem kw1669 : Jvm.Cond.selects "PlantKeeper" ({ cls := "PlantKeeper", name := "byteAt", desc := "(I)I" } : Jvm.MethodName) ({ cls := "PlantKeeper", name := "byteAt", desc := "(I)I" } : Jvm.MethodName) ∈ zk_BW := zk_inT 1669 (by decide +kernel) rfl
theorem kw1670 : Jvm.Cond.code ({ cls := "PlantKeeper", name := "byteAt", desc := "(I)I" } : Jvm.MethodName) prog_1_method_23_code (2 : Nat) (Option.some FieldType.int) ∈ zk_BW := zk_inT 1670 (by decide +kernel) rfl
theorem kw1672 : Jvm.Cond.instanceMethod ({ cls := "PlantKeeper", name := "count", desc := "(I)I" } : Jvm.MethodName) ∈ zk_BW := zk_inT 1672 (by decide +kernel) rfl
theorem kw1673 : Jvm.Cond.selects "PlantKeeper" ({ cls := "PlantKeeper", name := "count", desc := "(I)I" } : Jvm.MethodName) ({ cls := "PlantKeeper", name := "count", desc := "(I)I" } : Jvm.MethodName) ∈ zk_BW := zk_inT 1673 (by decide +kernel) rfl
theorem kw1674 : Jvm.Cond.code ({ cls := "PlantKeeper", name := "count", desc := "(I)I" } : Jvm.MethodName) prog_1_method_24_code (2 : Nat) (Option.some FieldType.int) ∈ zk_BW := zk_inT 1674 (by decide +kernel) rfl
abbrev kc_Ln_bitsFrom : ByteArray := prog_5_method_12_code
def km_Ln_bitsFrom : zk_MT := (⟨"PlantKeeper$Line", "bitsFrom", "(III)I"⟩, kc_Ln_bitsFrom, 7, some .int, 3)
theorem ku_Ln_bitsFrom : zk_My km_Ln_bitsFrom := ⟨kw1653, kw16, by decide, by decide, by decide, by decide +kernel⟩
theorem kv_Ln_bitsFrom : zk_Mv km_Ln_bitsFrom := ⟨kw1652, zk_inS 143 (q := (⟨"PlantKeeper$Line", "bitsFrom", "(III)I"⟩, 6)) (by decide +kernel)⟩
abbrev kc_Ln_checkSum : ByteArray := prog_5_method_3_code
def km_Ln_checkSum : zk_MT := (⟨"PlantKeeper$Line", "checkSum", "([BI)I"⟩, kc_Ln_checkSum, 5, some .int, 2)
theorem ku_Ln_checkSum : zk_My km_Ln_checkSum := ⟨kw1613, kw16, by decide, by decide, by decide, by decide +kernel⟩
theorem ks_Ln_checkSum : Cond.static km_Ln_checkSum.1 ∈ zk_BW := kw1612
abbrev kc_Ln_data : ByteArray := prog_5_method_5_code
def km_Ln_data : zk_MT := (⟨"PlantKeeper$Line", "data", "(I)I"⟩, kc_Ln_data, 2, some .int, 1)
theorem ku_Ln_data : zk_My km_Ln_data := ⟨kw1623, kw16, by decide, by decide, by decide, by decide +kernel⟩
theorem kv_Ln_data : zk_Mv km_Ln_data := ⟨kw1622, zk_inS 137 (q := (⟨"PlantKeeper$Line", "data", "(I)I"⟩, 6)) (by decide +kernel)⟩
abbrev kc_Ln_isNumberFor : ByteArray := prog_5_method_8_code
def km_Ln_isNumberFor : zk_MT := (⟨"PlantKeeper$Line", "isNumberFor", "(II)Z"⟩, kc_Ln_isNumberFor, 3, some .boolean, 2)
theorem ku_Ln_isNumberFor : zk_My km_Ln_isNumberFor := ⟨kw1631, kw16, by decide, by decide, by decide, by decide +kernel⟩
theorem kv_Ln_isNumberFor : zk_Mv km_Ln_isNumberFor := ⟨kw1630, zk_inS 139 (q := (⟨"PlantKeeper$Line", "isNumberFor", "(II)Z"⟩, 6)) (by decide +kernel)⟩
abbrev kc_Ln_lamp : ByteArray := prog_5_method_13_code
def km_Ln_lamp : zk_MT := (⟨"PlantKeeper$Line", "lamp", "(I)I"⟩, kc_Ln_lamp, 2, some .int, 1)
theorem ku_Ln_lamp : zk_My km_Ln_lamp := ⟨kw1658, kw16, by decide, by decide, by decide, by decide +kernel⟩
theorem kv_Ln_lamp : zk_Mv km_Ln_lamp := ⟨kw1657, zk_inS 144 (q := (⟨"PlantKeeper$Line", "lamp", "(I)I"⟩, 6)) (by decide +kernel)⟩
abbrev kc_Ln_meter : ByteArray := prog_5_method_14_code
def km_Ln_meter : zk_MT := (⟨"PlantKeeper$Line", "meter", "(I)I"⟩, kc_Ln_meter, 2, some .int, 1)
theorem ku_Ln_meter : zk_My km_Ln_meter := ⟨kw1662, kw16, by decide, by decide, by decide, by decide +kernel⟩
theorem kv_Ln_meter : zk_Mv km_Ln_meter := ⟨kw1661, zk_inS 145 (q := (⟨"PlantKeeper$Line", "meter", "(I)I"⟩, 6)) (by decide +kernel)⟩
abbrev kc_Ln_number : ByteArray := prog_5_method_6_code
def km_Ln_number : zk_MT := (⟨"PlantKeeper$Line", "number", "(I)I"⟩, kc_Ln_number, 2, some .int, 1)
theorem ku_Ln_number : zk_My km_Ln_number := ⟨kw1627, kw16, by decide, by decide, by decide, by decide +kernel⟩
theorem kv_Ln_number : zk_Mv km_Ln_number := ⟨kw1626, zk_inS 138 (q := (⟨"PlantKeeper$Line", "number", "(I)I"⟩, 6)) (by decide +kernel)⟩
abbrev kc_Ln_refusal : ByteArray := prog_5_method_7_code
def km_Ln_refusal : zk_MT := (⟨"PlantKeeper$Line", "refusal", "(I)I"⟩, kc_Ln_refusal, 5, some .int, 1)
theorem ku_Ln_refusal : zk_My km_Ln_refusal := ⟨kw1619, kw16, by decide, by decide, by decide, by decide +kernel⟩
theorem kv_Ln_refusal : zk_Mv km_Ln_refusal := ⟨kw1618, zk_inS 136 (q := (⟨"PlantKeeper$Line", "refusal", "(I)I"⟩, 6)) (by decide +kernel)⟩
abbrev kc_Ln_reply : ByteArray := prog_5_method_11_code
def km_Ln_reply : zk_MT := (⟨"PlantKeeper$Line", "reply", "(I)V"⟩, kc_Ln_reply, 6, none, 1)
theorem ku_Ln_reply : zk_My km_Ln_reply := ⟨kw1648, kw16, by decide, by decide, by decide, by decide +kernel⟩
theorem kv_Ln_reply : zk_Mv km_Ln_reply := ⟨kw1647, zk_inS 142 (q := (⟨"PlantKeeper$Line", "reply", "(I)V"⟩, 6)) (by decide +kernel)⟩
abbrev kc_Ln_send : ByteArray := prog_5_method_4_code
def km_Ln_send : zk_MT := (⟨"PlantKeeper$Line", "send", "(I)V"⟩, kc_Ln_send, 2, none, 1)
theorem ku_Ln_send : zk_My km_Ln_send := ⟨kw1644, kw16, by decide, by decide, by decide, by decide +kernel⟩
theorem kv_Ln_send : zk_Mv km_Ln_send := ⟨kw1643, zk_inS 141 (q := (⟨"PlantKeeper$Line", "send", "(I)V"⟩, 6)) (by decide +kernel)⟩
abbrev kc_Ln_tableSize : ByteArray := prog_5_method_9_code
def km_Ln_tableSize : zk_MT := (⟨"PlantKeeper$Line", "tableSize", "(I)I"⟩, kc_Ln_tableSize, 1, some .int, 1)
theorem ku_Ln_tableSize : zk_My km_Ln_tableSize := ⟨kw1635, kw16, by decide, by decide, by decide, by decide +kernel⟩
theorem ks_Ln_tableSize : Cond.static km_Ln_tableSize.1 ∈ zk_BW := kw1634
abbrev kc_Ln_write : ByteArray := prog_5_method_10_code
def km_Ln_write : zk_MT := (⟨"PlantKeeper$Line", "write", "(I)V"⟩, kc_Ln_write, 5, none, 1)
theorem ku_Ln_write : zk_My km_Ln_write := ⟨kw1639, kw16, by decide, by decide, by decide, by decide +kernel⟩
theorem kv_Ln_write : zk_Mv km_Ln_write := ⟨kw1638, zk_inS 140 (q := (⟨"PlantKeeper$Line", "write", "(I)V"⟩, 6)) (by decide +kernel)⟩
abbrev kc_Mc_change : ByteArray := prog_6_method_12_code
def km_Mc_change : zk_MT := (⟨"PlantKeeper$Machine", "change", "(III)I"⟩, kc_Mc_change, 5, some .int, 3)
theorem ku_Mc_change : zk_My km_Mc_change := ⟨kw1488, kw15, by decide, by decide, by decide, by decide +kernel⟩
theorem kv_Mc_change : zk_Mv km_Mc_change := ⟨kw1486, kw1487⟩
abbrev kc_Mc_seen : ByteArray := prog_6_method_11_code
def km_Mc_seen : zk_MT := (⟨"PlantKeeper$Machine", "seen", "(II)I"⟩, kc_Mc_seen, 4, some .int, 2)
theorem ku_Mc_seen : zk_My km_Mc_seen := ⟨kw1496, kw15, by decide, by decide, by decide, by decide +kernel⟩
theorem kv_Mc_seen : zk_Mv km_Mc_seen := ⟨kw1494, kw1495⟩
abbrev kc_Pk_byteAt : ByteArray := prog_1_method_23_code
def km_Pk_byteAt : zk_MT := (⟨"PlantKeeper", "byteAt", "(I)I"⟩, kc_Pk_byteAt, 2, some .int, 1)
theorem ku_Pk_byteAt : zk_My km_Pk_byteAt := ⟨kw1670, kw1, by decide, by decide, by decide, by decide +kernel⟩
theorem kv_Pk_byteAt : zk_Mv km_Pk_byteAt := ⟨kw1668, kw1669⟩
abbrev kc_Pk_count : ByteArray := prog_1_method_24_code
def km_Pk_count : zk_MT := (⟨"PlantKeeper", "count", "(I)I"⟩, kc_Pk_count, 2, some .int, 1)
theorem ku_Pk_count : zk_My km_Pk_count := ⟨kw1674, kw1, by decide, by decide, by decide, by decide +kernel⟩
theorem kv_Pk_count : zk_Mv km_Pk_count := ⟨kw1672, kw1673⟩
abbrev kc_Pk_station : ByteArray := prog_1_method_22_code
def km_Pk_station : zk_MT := (⟨"PlantKeeper", "station", "(I)I"⟩, kc_Pk_station, 3, some .int, 1)
theorem ku_Pk_station : zk_My km_Pk_station := ⟨kw1666, kw1, by decide, by decide, by decide, by decide +kernel⟩
theorem kv_Pk_station : zk_Mv km_Pk_station := ⟨kw1664, kw1665⟩
theorem kd_Ln_bitsFrom_0 : decode kc_Ln_bitsFrom 0 = .ok (.iconst 0, 1) := by decide +kernel
theorem kd_Ln_bitsFrom_1 : decode kc_Ln_bitsFrom 1 = .ok (.istore 4, 2) := by decide +kernel
theorem kd_Ln_bitsFrom_3 : decode kc_Ln_bitsFrom 3 = .ok (.iconst 0, 1) := by decide +kernel
theorem kd_Ln_bitsFrom_4 : decode kc_Ln_bitsFrom 4 = .ok (.istore 5, 2) := by decide +kernel
theorem kd_Ln_bitsFrom_6 : decode kc_Ln_bitsFrom 6 = .ok (.iload 5, 2) := by decide +kernel
theorem kd_Ln_bitsFrom_8 : decode kc_Ln_bitsFrom 8 = .ok (.iload_n 3, 1) := by decide +kernel
theorem kd_Ln_bitsFrom_9 : decode kc_Ln_bitsFrom 9 = .ok (.if_icmp .ge 49, 3) := by decide +kernel
theorem kd_Ln_bitsFrom_12 : decode kc_Ln_bitsFrom 12 = .ok (.iload_n 1, 1) := by decide +kernel
theorem kd_Ln_bitsFrom_13 : decode kc_Ln_bitsFrom 13 = .ok (.iconst 1, 1) := by decide +kernel
theorem kd_Ln_bitsFrom_14 : decode kc_Ln_bitsFrom 14 = .ok (.if_icmp .ne 18, 3) := by decide +kernel
theorem kd_Ln_bitsFrom_17 : decode kc_Ln_bitsFrom 17 = .ok (.aload_n 0, 1) := by decide +kernel
theorem kd_Ln_bitsFrom_18 : decode kc_Ln_bitsFrom 18 = .ok (.getfield 9, 3) := by decide +kernel
theorem kd_Ln_bitsFrom_21 : decode kc_Ln_bitsFrom 21 = .ok (.iconst 2, 1) := by decide +kernel
theorem kd_Ln_bitsFrom_22 : decode kc_Ln_bitsFrom 22 = .ok (.iload_n 2, 1) := by decide +kernel
theorem kd_Ln_bitsFrom_23 : decode kc_Ln_bitsFrom 23 = .ok (.iload 5, 2) := by decide +kernel
theorem kd_Ln_bitsFrom_25 : decode kc_Ln_bitsFrom 25 = .ok (.iadd, 1) := by decide +kernel
theorem kd_Ln_bitsFrom_26 : decode kc_Ln_bitsFrom 26 = .ok (.invokevirtual 85, 3) := by decide +kernel
theorem kd_Ln_bitsFrom_29 : decode kc_Ln_bitsFrom 29 = .ok (.goto 11, 3) := by decide +kernel
theorem kd_Ln_bitsFrom_32 : decode kc_Ln_bitsFrom 32 = .ok (.aload_n 0, 1) := by decide +kernel
theorem kd_Ln_bitsFrom_33 : decode kc_Ln_bitsFrom 33 = .ok (.iload_n 2, 1) := by decide +kernel
theorem kd_Ln_bitsFrom_34 : decode kc_Ln_bitsFrom 34 = .ok (.iload 5, 2) := by decide +kernel
theorem kd_Ln_bitsFrom_36 : decode kc_Ln_bitsFrom 36 = .ok (.iadd, 1) := by decide +kernel
theorem kd_Ln_bitsFrom_37 : decode kc_Ln_bitsFrom 37 = .ok (.invokevirtual 91, 3) := by decide +kernel
theorem kd_Ln_bitsFrom_40 : decode kc_Ln_bitsFrom 40 = .ok (.istore 6, 2) := by decide +kernel
theorem kd_Ln_bitsFrom_42 : decode kc_Ln_bitsFrom 42 = .ok (.iload 4, 2) := by decide +kernel
theorem kd_Ln_bitsFrom_44 : decode kc_Ln_bitsFrom 44 = .ok (.iload 6, 2) := by decide +kernel
theorem kd_Ln_bitsFrom_46 : decode kc_Ln_bitsFrom 46 = .ok (.iload 5, 2) := by decide +kernel
theorem kd_Ln_bitsFrom_48 : decode kc_Ln_bitsFrom 48 = .ok (.ishl, 1) := by decide +kernel
theorem kd_Ln_bitsFrom_49 : decode kc_Ln_bitsFrom 49 = .ok (.ior, 1) := by decide +kernel
theorem kd_Ln_bitsFrom_50 : decode kc_Ln_bitsFrom 50 = .ok (.istore 4, 2) := by decide +kernel
theorem kd_Ln_bitsFrom_52 : decode kc_Ln_bitsFrom 52 = .ok (.iinc 5 1, 3) := by decide +kernel
theorem kd_Ln_bitsFrom_55 : decode kc_Ln_bitsFrom 55 = .ok (.goto (-49), 3) := by decide +kernel
theorem kd_Ln_bitsFrom_58 : decode kc_Ln_bitsFrom 58 = .ok (.iload 4, 2) := by decide +kernel
theorem kd_Ln_bitsFrom_60 : decode kc_Ln_bitsFrom 60 = .ok (.ireturn, 1) := by decide +kernel
theorem kd_Ln_checkSum_0 : decode kc_Ln_checkSum 0 = .ok (.ldc 56, 2) := by decide +kernel
theorem kd_Ln_checkSum_2 : decode kc_Ln_checkSum 2 = .ok (.istore_n 2, 1) := by decide +kernel
theorem kd_Ln_checkSum_3 : decode kc_Ln_checkSum 3 = .ok (.iconst 0, 1) := by decide +kernel
theorem kd_Ln_checkSum_4 : decode kc_Ln_checkSum 4 = .ok (.istore_n 3, 1) := by decide +kernel
theorem kd_Ln_checkSum_5 : decode kc_Ln_checkSum 5 = .ok (.iload_n 3, 1) := by decide +kernel
theorem kd_Ln_checkSum_6 : decode kc_Ln_checkSum 6 = .ok (.iload_n 1, 1) := by decide +kernel
theorem kd_Ln_checkSum_7 : decode kc_Ln_checkSum 7 = .ok (.if_icmp .ge 60, 3) := by decide +kernel
theorem kd_Ln_checkSum_10 : decode kc_Ln_checkSum 10 = .ok (.iload_n 3, 1) := by decide +kernel
theorem kd_Ln_checkSum_11 : decode kc_Ln_checkSum 11 = .ok (.aload_n 0, 1) := by decide +kernel
theorem kd_Ln_checkSum_12 : decode kc_Ln_checkSum 12 = .ok (.arraylength, 1) := by decide +kernel
theorem kd_Ln_checkSum_13 : decode kc_Ln_checkSum 13 = .ok (.if_icmp .ge 54, 3) := by decide +kernel
theorem kd_Ln_checkSum_16 : decode kc_Ln_checkSum 16 = .ok (.iload_n 2, 1) := by decide +kernel
theorem kd_Ln_checkSum_17 : decode kc_Ln_checkSum 17 = .ok (.aload_n 0, 1) := by decide +kernel
theorem kd_Ln_checkSum_18 : decode kc_Ln_checkSum 18 = .ok (.iload_n 3, 1) := by decide +kernel
theorem kd_Ln_checkSum_19 : decode kc_Ln_checkSum 19 = .ok (.baload, 1) := by decide +kernel
theorem kd_Ln_checkSum_20 : decode kc_Ln_checkSum 20 = .ok (.sipush 255, 3) := by decide +kernel
theorem kd_Ln_checkSum_23 : decode kc_Ln_checkSum 23 = .ok (.iand, 1) := by decide +kernel
theorem kd_Ln_checkSum_24 : decode kc_Ln_checkSum 24 = .ok (.ixor, 1) := by decide +kernel
theorem kd_Ln_checkSum_25 : decode kc_Ln_checkSum 25 = .ok (.istore_n 2, 1) := by decide +kernel
theorem kd_Ln_checkSum_26 : decode kc_Ln_checkSum 26 = .ok (.iconst 0, 1) := by decide +kernel
theorem kd_Ln_checkSum_27 : decode kc_Ln_checkSum 27 = .ok (.istore 4, 2) := by decide +kernel
theorem kd_Ln_checkSum_29 : decode kc_Ln_checkSum 29 = .ok (.iload 4, 2) := by decide +kernel
theorem kd_Ln_checkSum_31 : decode kc_Ln_checkSum 31 = .ok (.bipush 8, 2) := by decide +kernel
theorem kd_Ln_checkSum_33 : decode kc_Ln_checkSum 33 = .ok (.if_icmp .ge 28, 3) := by decide +kernel
theorem kd_Ln_checkSum_36 : decode kc_Ln_checkSum 36 = .ok (.iload_n 2, 1) := by decide +kernel
theorem kd_Ln_checkSum_37 : decode kc_Ln_checkSum 37 = .ok (.iconst 1, 1) := by decide +kernel
theorem kd_Ln_checkSum_38 : decode kc_Ln_checkSum 38 = .ok (.iand, 1) := by decide +kernel
theorem kd_Ln_checkSum_39 : decode kc_Ln_checkSum 39 = .ok (.ifCond .ne 9, 3) := by decide +kernel
theorem kd_Ln_checkSum_42 : decode kc_Ln_checkSum 42 = .ok (.iload_n 2, 1) := by decide +kernel
theorem kd_Ln_checkSum_43 : decode kc_Ln_checkSum 43 = .ok (.iconst 1, 1) := by decide +kernel
theorem kd_Ln_checkSum_44 : decode kc_Ln_checkSum 44 = .ok (.ishr, 1) := by decide +kernel
theorem kd_Ln_checkSum_45 : decode kc_Ln_checkSum 45 = .ok (.goto 9, 3) := by decide +kernel
theorem kd_Ln_checkSum_48 : decode kc_Ln_checkSum 48 = .ok (.iload_n 2, 1) := by decide +kernel
theorem kd_Ln_checkSum_49 : decode kc_Ln_checkSum 49 = .ok (.iconst 1, 1) := by decide +kernel
theorem kd_Ln_checkSum_50 : decode kc_Ln_checkSum 50 = .ok (.ishr, 1) := by decide +kernel
theorem kd_Ln_checkSum_51 : decode kc_Ln_checkSum 51 = .ok (.ldc 57, 2) := by decide +kernel
theorem kd_Ln_checkSum_53 : decode kc_Ln_checkSum 53 = .ok (.ixor, 1) := by decide +kernel
theorem kd_Ln_checkSum_54 : decode kc_Ln_checkSum 54 = .ok (.istore_n 2, 1) := by decide +kernel
theorem kd_Ln_checkSum_55 : decode kc_Ln_checkSum 55 = .ok (.iinc 4 1, 3) := by decide +kernel
theorem kd_Ln_checkSum_58 : decode kc_Ln_checkSum 58 = .ok (.goto (-29), 3) := by decide +kernel
theorem kd_Ln_checkSum_61 : decode kc_Ln_checkSum 61 = .ok (.iinc 3 1, 3) := by decide +kernel
theorem kd_Ln_checkSum_64 : decode kc_Ln_checkSum 64 = .ok (.goto (-59), 3) := by decide +kernel
theorem kd_Ln_checkSum_67 : decode kc_Ln_checkSum 67 = .ok (.iload_n 2, 1) := by decide +kernel
theorem kd_Ln_checkSum_68 : decode kc_Ln_checkSum 68 = .ok (.ireturn, 1) := by decide +kernel
theorem kd_Ln_data_0 : decode kc_Ln_data 0 = .ok (.iload_n 1, 1) := by decide +kernel
theorem kd_Ln_data_1 : decode kc_Ln_data 1 = .ok (.ifCond .lt 26, 3) := by decide +kernel
theorem kd_Ln_data_4 : decode kc_Ln_data 4 = .ok (.iload_n 1, 1) := by decide +kernel
theorem kd_Ln_data_5 : decode kc_Ln_data 5 = .ok (.aload_n 0, 1) := by decide +kernel
theorem kd_Ln_data_6 : decode kc_Ln_data 6 = .ok (.getfield 39, 3) := by decide +kernel
theorem kd_Ln_data_9 : decode kc_Ln_data 9 = .ok (.if_icmp .ge 18, 3) := by decide +kernel
theorem kd_Ln_data_12 : decode kc_Ln_data 12 = .ok (.aload_n 0, 1) := by decide +kernel
theorem kd_Ln_data_13 : decode kc_Ln_data 13 = .ok (.getfield 36, 3) := by decide +kernel
theorem kd_Ln_data_16 : decode kc_Ln_data 16 = .ok (.iconst 2, 1) := by decide +kernel
theorem kd_Ln_data_17 : decode kc_Ln_data 17 = .ok (.iload_n 1, 1) := by decide +kernel
theorem kd_Ln_data_18 : decode kc_Ln_data 18 = .ok (.iadd, 1) := by decide +kernel
theorem kd_Ln_data_19 : decode kc_Ln_data 19 = .ok (.baload, 1) := by decide +kernel
theorem kd_Ln_data_20 : decode kc_Ln_data 20 = .ok (.sipush 255, 3) := by decide +kernel
theorem kd_Ln_data_23 : decode kc_Ln_data 23 = .ok (.iand, 1) := by decide +kernel
theorem kd_Ln_data_24 : decode kc_Ln_data 24 = .ok (.goto 4, 3) := by decide +kernel
theorem kd_Ln_data_27 : decode kc_Ln_data 27 = .ok (.iconst 0, 1) := by decide +kernel
theorem kd_Ln_data_28 : decode kc_Ln_data 28 = .ok (.ireturn, 1) := by decide +kernel
theorem kd_Ln_isNumberFor_0 : decode kc_Ln_isNumberFor 0 = .ok (.iload_n 1, 1) := by decide +kernel
theorem kd_Ln_isNumberFor_1 : decode kc_Ln_isNumberFor 1 = .ok (.tableswitch 191 1 16 #[79, 79, 97, 97, 114, 191, 191, 191, 191, 191, 191, 191, 191, 191, 130, 163], 79) := by decide +kernel
theorem kd_Ln_isNumberFor_80 : decode kc_Ln_isNumberFor 80 = .ok (.iload_n 2, 1) := by decide +kernel
theorem kd_Ln_isNumberFor_81 : decode kc_Ln_isNumberFor 81 = .ok (.iconst 1, 1) := by decide +kernel
theorem kd_Ln_isNumberFor_82 : decode kc_Ln_isNumberFor 82 = .ok (.if_icmp .lt 14, 3) := by decide +kernel
theorem kd_Ln_isNumberFor_85 : decode kc_Ln_isNumberFor 85 = .ok (.iload_n 2, 1) := by decide +kernel
theorem kd_Ln_isNumberFor_86 : decode kc_Ln_isNumberFor 86 = .ok (.sipush 2000, 3) := by decide +kernel
theorem kd_Ln_isNumberFor_89 : decode kc_Ln_isNumberFor 89 = .ok (.if_icmp .gt 7, 3) := by decide +kernel
theorem kd_Ln_isNumberFor_92 : decode kc_Ln_isNumberFor 92 = .ok (.iconst 1, 1) := by decide +kernel
theorem kd_Ln_isNumberFor_93 : decode kc_Ln_isNumberFor 93 = .ok (.goto 4, 3) := by decide +kernel
theorem kd_Ln_isNumberFor_96 : decode kc_Ln_isNumberFor 96 = .ok (.iconst 0, 1) := by decide +kernel
theorem kd_Ln_isNumberFor_97 : decode kc_Ln_isNumberFor 97 = .ok (.ireturn, 1) := by decide +kernel
theorem kd_Ln_isNumberFor_98 : decode kc_Ln_isNumberFor 98 = .ok (.iload_n 2, 1) := by decide +kernel
theorem kd_Ln_isNumberFor_99 : decode kc_Ln_isNumberFor 99 = .ok (.iconst 1, 1) := by decide +kernel
theorem kd_Ln_isNumberFor_100 : decode kc_Ln_isNumberFor 100 = .ok (.if_icmp .lt 13, 3) := by decide +kernel
theorem kd_Ln_isNumberFor_103 : decode kc_Ln_isNumberFor 103 = .ok (.iload_n 2, 1) := by decide +kernel
theorem kd_Ln_isNumberFor_104 : decode kc_Ln_isNumberFor 104 = .ok (.bipush 125, 2) := by decide +kernel
theorem kd_Ln_isNumberFor_106 : decode kc_Ln_isNumberFor 106 = .ok (.if_icmp .gt 7, 3) := by decide +kernel
theorem kd_Ln_isNumberFor_109 : decode kc_Ln_isNumberFor 109 = .ok (.iconst 1, 1) := by decide +kernel
theorem kd_Ln_isNumberFor_110 : decode kc_Ln_isNumberFor 110 = .ok (.goto 4, 3) := by decide +kernel
theorem kd_Ln_isNumberFor_113 : decode kc_Ln_isNumberFor 113 = .ok (.iconst 0, 1) := by decide +kernel
theorem kd_Ln_isNumberFor_114 : decode kc_Ln_isNumberFor 114 = .ok (.ireturn, 1) := by decide +kernel
theorem kd_Ln_isNumberFor_115 : decode kc_Ln_isNumberFor 115 = .ok (.iload_n 2, 1) := by decide +kernel
theorem kd_Ln_isNumberFor_116 : decode kc_Ln_isNumberFor 116 = .ok (.ifCond .eq 9, 3) := by decide +kernel
theorem kd_Ln_isNumberFor_119 : decode kc_Ln_isNumberFor 119 = .ok (.iload_n 2, 1) := by decide +kernel
theorem kd_Ln_isNumberFor_120 : decode kc_Ln_isNumberFor 120 = .ok (.ldc 71, 2) := by decide +kernel
theorem kd_Ln_isNumberFor_122 : decode kc_Ln_isNumberFor 122 = .ok (.if_icmp .ne 7, 3) := by decide +kernel
theorem kd_Ln_isNumberFor_125 : decode kc_Ln_isNumberFor 125 = .ok (.iconst 1, 1) := by decide +kernel
theorem kd_Ln_isNumberFor_126 : decode kc_Ln_isNumberFor 126 = .ok (.goto 4, 3) := by decide +kernel
theorem kd_Ln_isNumberFor_129 : decode kc_Ln_isNumberFor 129 = .ok (.iconst 0, 1) := by decide +kernel
theorem kd_Ln_isNumberFor_130 : decode kc_Ln_isNumberFor 130 = .ok (.ireturn, 1) := by decide +kernel
theorem kd_Ln_isNumberFor_131 : decode kc_Ln_isNumberFor 131 = .ok (.iload_n 2, 1) := by decide +kernel
theorem kd_Ln_isNumberFor_132 : decode kc_Ln_isNumberFor 132 = .ok (.iconst 1, 1) := by decide +kernel
theorem kd_Ln_isNumberFor_133 : decode kc_Ln_isNumberFor 133 = .ok (.if_icmp .lt 29, 3) := by decide +kernel
theorem kd_Ln_isNumberFor_136 : decode kc_Ln_isNumberFor 136 = .ok (.iload_n 2, 1) := by decide +kernel
theorem kd_Ln_isNumberFor_137 : decode kc_Ln_isNumberFor 137 = .ok (.sipush 1968, 3) := by decide +kernel
theorem kd_Ln_isNumberFor_140 : decode kc_Ln_isNumberFor 140 = .ok (.if_icmp .gt 22, 3) := by decide +kernel
theorem kd_Ln_isNumberFor_143 : decode kc_Ln_isNumberFor 143 = .ok (.aload_n 0, 1) := by decide +kernel
theorem kd_Ln_isNumberFor_144 : decode kc_Ln_isNumberFor 144 = .ok (.iconst 4, 1) := by decide +kernel
theorem kd_Ln_isNumberFor_145 : decode kc_Ln_isNumberFor 145 = .ok (.invokevirtual 58, 3) := by decide +kernel
theorem kd_Ln_isNumberFor_148 : decode kc_Ln_isNumberFor 148 = .ok (.iload_n 2, 1) := by decide +kernel
theorem kd_Ln_isNumberFor_149 : decode kc_Ln_isNumberFor 149 = .ok (.bipush 7, 2) := by decide +kernel
theorem kd_Ln_isNumberFor_151 : decode kc_Ln_isNumberFor 151 = .ok (.iadd, 1) := by decide +kernel
theorem kd_Ln_isNumberFor_152 : decode kc_Ln_isNumberFor 152 = .ok (.bipush 8, 2) := by decide +kernel
theorem kd_Ln_isNumberFor_154 : decode kc_Ln_isNumberFor 154 = .ok (.idiv, 1) := by decide +kernel
theorem kd_Ln_isNumberFor_155 : decode kc_Ln_isNumberFor 155 = .ok (.if_icmp .ne 7, 3) := by decide +kernel
theorem kd_Ln_isNumberFor_158 : decode kc_Ln_isNumberFor 158 = .ok (.iconst 1, 1) := by decide +kernel
theorem kd_Ln_isNumberFor_159 : decode kc_Ln_isNumberFor 159 = .ok (.goto 4, 3) := by decide +kernel
theorem kd_Ln_isNumberFor_162 : decode kc_Ln_isNumberFor 162 = .ok (.iconst 0, 1) := by decide +kernel
theorem kd_Ln_isNumberFor_163 : decode kc_Ln_isNumberFor 163 = .ok (.ireturn, 1) := by decide +kernel
theorem kd_Ln_isNumberFor_164 : decode kc_Ln_isNumberFor 164 = .ok (.iload_n 2, 1) := by decide +kernel
theorem kd_Ln_isNumberFor_165 : decode kc_Ln_isNumberFor 165 = .ok (.iconst 1, 1) := by decide +kernel
theorem kd_Ln_isNumberFor_166 : decode kc_Ln_isNumberFor 166 = .ok (.if_icmp .lt 24, 3) := by decide +kernel
theorem kd_Ln_isNumberFor_169 : decode kc_Ln_isNumberFor 169 = .ok (.iload_n 2, 1) := by decide +kernel
theorem kd_Ln_isNumberFor_170 : decode kc_Ln_isNumberFor 170 = .ok (.bipush 123, 2) := by decide +kernel
theorem kd_Ln_isNumberFor_172 : decode kc_Ln_isNumberFor 172 = .ok (.if_icmp .gt 18, 3) := by decide +kernel
theorem kd_Ln_isNumberFor_175 : decode kc_Ln_isNumberFor 175 = .ok (.aload_n 0, 1) := by decide +kernel
theorem kd_Ln_isNumberFor_176 : decode kc_Ln_isNumberFor 176 = .ok (.iconst 4, 1) := by decide +kernel
theorem kd_Ln_isNumberFor_177 : decode kc_Ln_isNumberFor 177 = .ok (.invokevirtual 58, 3) := by decide +kernel
theorem kd_Ln_isNumberFor_180 : decode kc_Ln_isNumberFor 180 = .ok (.iconst 2, 1) := by decide +kernel
theorem kd_Ln_isNumberFor_181 : decode kc_Ln_isNumberFor 181 = .ok (.iload_n 2, 1) := by decide +kernel
theorem kd_Ln_isNumberFor_182 : decode kc_Ln_isNumberFor 182 = .ok (.imul, 1) := by decide +kernel
theorem kd_Ln_isNumberFor_183 : decode kc_Ln_isNumberFor 183 = .ok (.if_icmp .ne 7, 3) := by decide +kernel
theorem kd_Ln_isNumberFor_186 : decode kc_Ln_isNumberFor 186 = .ok (.iconst 1, 1) := by decide +kernel
theorem kd_Ln_isNumberFor_187 : decode kc_Ln_isNumberFor 187 = .ok (.goto 4, 3) := by decide +kernel
theorem kd_Ln_isNumberFor_190 : decode kc_Ln_isNumberFor 190 = .ok (.iconst 0, 1) := by decide +kernel
theorem kd_Ln_isNumberFor_191 : decode kc_Ln_isNumberFor 191 = .ok (.ireturn, 1) := by decide +kernel
theorem kd_Ln_isNumberFor_192 : decode kc_Ln_isNumberFor 192 = .ok (.iconst 1, 1) := by decide +kernel
theorem kd_Ln_isNumberFor_193 : decode kc_Ln_isNumberFor 193 = .ok (.ireturn, 1) := by decide +kernel
theorem kd_Ln_lamp_0 : decode kc_Ln_lamp 0 = .ok (.iload_n 1, 1) := by decide +kernel
theorem kd_Ln_lamp_1 : decode kc_Ln_lamp 1 = .ok (.sipush 256, 3) := by decide +kernel
theorem kd_Ln_lamp_4 : decode kc_Ln_lamp 4 = .ok (.if_icmp .ge 15, 3) := by decide +kernel
theorem kd_Ln_lamp_7 : decode kc_Ln_lamp 7 = .ok (.aload_n 0, 1) := by decide +kernel
theorem kd_Ln_lamp_8 : decode kc_Ln_lamp 8 = .ok (.getfield 9, 3) := by decide +kernel
theorem kd_Ln_lamp_11 : decode kc_Ln_lamp 11 = .ok (.iconst 0, 1) := by decide +kernel
theorem kd_Ln_lamp_12 : decode kc_Ln_lamp 12 = .ok (.iload_n 1, 1) := by decide +kernel
theorem kd_Ln_lamp_13 : decode kc_Ln_lamp 13 = .ok (.invokevirtual 85, 3) := by decide +kernel
theorem kd_Ln_lamp_16 : decode kc_Ln_lamp 16 = .ok (.goto 16, 3) := by decide +kernel
theorem kd_Ln_lamp_19 : decode kc_Ln_lamp 19 = .ok (.aload_n 0, 1) := by decide +kernel
theorem kd_Ln_lamp_20 : decode kc_Ln_lamp 20 = .ok (.getfield 9, 3) := by decide +kernel
theorem kd_Ln_lamp_23 : decode kc_Ln_lamp 23 = .ok (.iconst 1, 1) := by decide +kernel
theorem kd_Ln_lamp_24 : decode kc_Ln_lamp 24 = .ok (.iload_n 1, 1) := by decide +kernel
theorem kd_Ln_lamp_25 : decode kc_Ln_lamp 25 = .ok (.sipush 256, 3) := by decide +kernel
theorem kd_Ln_lamp_28 : decode kc_Ln_lamp 28 = .ok (.isub, 1) := by decide +kernel
theorem kd_Ln_lamp_29 : decode kc_Ln_lamp 29 = .ok (.invokevirtual 85, 3) := by decide +kernel
theorem kd_Ln_lamp_32 : decode kc_Ln_lamp 32 = .ok (.ireturn, 1) := by decide +kernel
theorem kd_Ln_meter_0 : decode kc_Ln_meter 0 = .ok (.iload_n 1, 1) := by decide +kernel
theorem kd_Ln_meter_1 : decode kc_Ln_meter 1 = .ok (.bipush 64, 2) := by decide +kernel
theorem kd_Ln_meter_3 : decode kc_Ln_meter 3 = .ok (.if_icmp .ge 15, 3) := by decide +kernel
theorem kd_Ln_meter_6 : decode kc_Ln_meter 6 = .ok (.aload_n 0, 1) := by decide +kernel
theorem kd_Ln_meter_7 : decode kc_Ln_meter 7 = .ok (.getfield 9, 3) := by decide +kernel
theorem kd_Ln_meter_10 : decode kc_Ln_meter 10 = .ok (.iconst 3, 1) := by decide +kernel
theorem kd_Ln_meter_11 : decode kc_Ln_meter 11 = .ok (.iload_n 1, 1) := by decide +kernel
theorem kd_Ln_meter_12 : decode kc_Ln_meter 12 = .ok (.invokevirtual 85, 3) := by decide +kernel
theorem kd_Ln_meter_15 : decode kc_Ln_meter 15 = .ok (.goto 15, 3) := by decide +kernel
theorem kd_Ln_meter_18 : decode kc_Ln_meter 18 = .ok (.aload_n 0, 1) := by decide +kernel
theorem kd_Ln_meter_19 : decode kc_Ln_meter 19 = .ok (.getfield 9, 3) := by decide +kernel
theorem kd_Ln_meter_22 : decode kc_Ln_meter 22 = .ok (.iconst 4, 1) := by decide +kernel
theorem kd_Ln_meter_23 : decode kc_Ln_meter 23 = .ok (.iload_n 1, 1) := by decide +kernel
theorem kd_Ln_meter_24 : decode kc_Ln_meter 24 = .ok (.bipush 64, 2) := by decide +kernel
theorem kd_Ln_meter_26 : decode kc_Ln_meter 26 = .ok (.isub, 1) := by decide +kernel
theorem kd_Ln_meter_27 : decode kc_Ln_meter 27 = .ok (.invokevirtual 85, 3) := by decide +kernel
theorem kd_Ln_meter_30 : decode kc_Ln_meter 30 = .ok (.ireturn, 1) := by decide +kernel
theorem kd_Ln_number_0 : decode kc_Ln_number 0 = .ok (.sipush 256, 3) := by decide +kernel
theorem kd_Ln_number_3 : decode kc_Ln_number 3 = .ok (.aload_n 0, 1) := by decide +kernel
theorem kd_Ln_number_4 : decode kc_Ln_number 4 = .ok (.iload_n 1, 1) := by decide +kernel
theorem kd_Ln_number_5 : decode kc_Ln_number 5 = .ok (.invokevirtual 58, 3) := by decide +kernel
theorem kd_Ln_number_8 : decode kc_Ln_number 8 = .ok (.imul, 1) := by decide +kernel
theorem kd_Ln_number_9 : decode kc_Ln_number 9 = .ok (.aload_n 0, 1) := by decide +kernel
theorem kd_Ln_number_10 : decode kc_Ln_number 10 = .ok (.iload_n 1, 1) := by decide +kernel
theorem kd_Ln_number_11 : decode kc_Ln_number 11 = .ok (.iconst 1, 1) := by decide +kernel
theorem kd_Ln_number_12 : decode kc_Ln_number 12 = .ok (.iadd, 1) := by decide +kernel
theorem kd_Ln_number_13 : decode kc_Ln_number 13 = .ok (.invokevirtual 58, 3) := by decide +kernel
theorem kd_Ln_number_16 : decode kc_Ln_number 16 = .ok (.iadd, 1) := by decide +kernel
theorem kd_Ln_number_17 : decode kc_Ln_number 17 = .ok (.ireturn, 1) := by decide +kernel
theorem kd_Ln_refusal_0 : decode kc_Ln_refusal 0 = .ok (.iload_n 1, 1) := by decide +kernel
theorem kd_Ln_refusal_1 : decode kc_Ln_refusal 1 = .ok (.iconst 1, 1) := by decide +kernel
theorem kd_Ln_refusal_2 : decode kc_Ln_refusal 2 = .ok (.if_icmp .lt 21, 3) := by decide +kernel
theorem kd_Ln_refusal_5 : decode kc_Ln_refusal 5 = .ok (.iload_n 1, 1) := by decide +kernel
theorem kd_Ln_refusal_6 : decode kc_Ln_refusal 6 = .ok (.bipush 6, 2) := by decide +kernel
theorem kd_Ln_refusal_8 : decode kc_Ln_refusal 8 = .ok (.if_icmp .le 17, 3) := by decide +kernel
theorem kd_Ln_refusal_11 : decode kc_Ln_refusal 11 = .ok (.iload_n 1, 1) := by decide +kernel
theorem kd_Ln_refusal_12 : decode kc_Ln_refusal 12 = .ok (.bipush 15, 2) := by decide +kernel
theorem kd_Ln_refusal_14 : decode kc_Ln_refusal 14 = .ok (.if_icmp .eq 11, 3) := by decide +kernel
theorem kd_Ln_refusal_17 : decode kc_Ln_refusal 17 = .ok (.iload_n 1, 1) := by decide +kernel
theorem kd_Ln_refusal_18 : decode kc_Ln_refusal 18 = .ok (.bipush 16, 2) := by decide +kernel
theorem kd_Ln_refusal_20 : decode kc_Ln_refusal 20 = .ok (.if_icmp .eq 5, 3) := by decide +kernel
theorem kd_Ln_refusal_23 : decode kc_Ln_refusal 23 = .ok (.iconst 1, 1) := by decide +kernel
theorem kd_Ln_refusal_24 : decode kc_Ln_refusal 24 = .ok (.ireturn, 1) := by decide +kernel
theorem kd_Ln_refusal_25 : decode kc_Ln_refusal 25 = .ok (.iload_n 1, 1) := by decide +kernel
theorem kd_Ln_refusal_26 : decode kc_Ln_refusal 26 = .ok (.bipush 15, 2) := by decide +kernel
theorem kd_Ln_refusal_28 : decode kc_Ln_refusal 28 = .ok (.if_icmp .lt 7, 3) := by decide +kernel
theorem kd_Ln_refusal_31 : decode kc_Ln_refusal 31 = .ok (.iconst 1, 1) := by decide +kernel
theorem kd_Ln_refusal_32 : decode kc_Ln_refusal 32 = .ok (.goto 4, 3) := by decide +kernel
theorem kd_Ln_refusal_35 : decode kc_Ln_refusal 35 = .ok (.iconst 0, 1) := by decide +kernel
theorem kd_Ln_refusal_36 : decode kc_Ln_refusal 36 = .ok (.istore_n 2, 1) := by decide +kernel
theorem kd_Ln_refusal_37 : decode kc_Ln_refusal 37 = .ok (.iload_n 2, 1) := by decide +kernel
theorem kd_Ln_refusal_38 : decode kc_Ln_refusal 38 = .ok (.ifCond .eq 29, 3) := by decide +kernel
theorem kd_Ln_refusal_41 : decode kc_Ln_refusal 41 = .ok (.aload_n 0, 1) := by decide +kernel
theorem kd_Ln_refusal_42 : decode kc_Ln_refusal 42 = .ok (.getfield 39, 3) := by decide +kernel
theorem kd_Ln_refusal_45 : decode kc_Ln_refusal 45 = .ok (.bipush 6, 2) := by decide +kernel
theorem kd_Ln_refusal_47 : decode kc_Ln_refusal 47 = .ok (.if_icmp .lt 28, 3) := by decide +kernel
theorem kd_Ln_refusal_50 : decode kc_Ln_refusal 50 = .ok (.aload_n 0, 1) := by decide +kernel
theorem kd_Ln_refusal_51 : decode kc_Ln_refusal 51 = .ok (.getfield 39, 3) := by decide +kernel
theorem kd_Ln_refusal_54 : decode kc_Ln_refusal 54 = .ok (.iconst 5, 1) := by decide +kernel
theorem kd_Ln_refusal_55 : decode kc_Ln_refusal 55 = .ok (.aload_n 0, 1) := by decide +kernel
theorem kd_Ln_refusal_56 : decode kc_Ln_refusal 56 = .ok (.iconst 4, 1) := by decide +kernel
theorem kd_Ln_refusal_57 : decode kc_Ln_refusal 57 = .ok (.invokevirtual 58, 3) := by decide +kernel
theorem kd_Ln_refusal_60 : decode kc_Ln_refusal 60 = .ok (.iadd, 1) := by decide +kernel
theorem kd_Ln_refusal_61 : decode kc_Ln_refusal 61 = .ok (.if_icmp .eq 16, 3) := by decide +kernel
theorem kd_Ln_refusal_64 : decode kc_Ln_refusal 64 = .ok (.goto 11, 3) := by decide +kernel
theorem kd_Ln_refusal_67 : decode kc_Ln_refusal 67 = .ok (.aload_n 0, 1) := by decide +kernel
theorem kd_Ln_refusal_68 : decode kc_Ln_refusal 68 = .ok (.getfield 39, 3) := by decide +kernel
theorem kd_Ln_refusal_71 : decode kc_Ln_refusal 71 = .ok (.iconst 4, 1) := by decide +kernel
theorem kd_Ln_refusal_72 : decode kc_Ln_refusal 72 = .ok (.if_icmp .eq 5, 3) := by decide +kernel
theorem kd_Ln_refusal_75 : decode kc_Ln_refusal 75 = .ok (.iconst 3, 1) := by decide +kernel
theorem kd_Ln_refusal_76 : decode kc_Ln_refusal 76 = .ok (.ireturn, 1) := by decide +kernel
theorem kd_Ln_refusal_77 : decode kc_Ln_refusal 77 = .ok (.aload_n 0, 1) := by decide +kernel
theorem kd_Ln_refusal_78 : decode kc_Ln_refusal 78 = .ok (.iconst 2, 1) := by decide +kernel
theorem kd_Ln_refusal_79 : decode kc_Ln_refusal 79 = .ok (.invokevirtual 61, 3) := by decide +kernel
theorem kd_Ln_refusal_82 : decode kc_Ln_refusal 82 = .ok (.istore_n 3, 1) := by decide +kernel
theorem kd_Ln_refusal_83 : decode kc_Ln_refusal 83 = .ok (.aload_n 0, 1) := by decide +kernel
theorem kd_Ln_refusal_84 : decode kc_Ln_refusal 84 = .ok (.iload_n 1, 1) := by decide +kernel
theorem kd_Ln_refusal_85 : decode kc_Ln_refusal 85 = .ok (.iload_n 3, 1) := by decide +kernel
theorem kd_Ln_refusal_86 : decode kc_Ln_refusal 86 = .ok (.invokevirtual 64, 3) := by decide +kernel
theorem kd_Ln_refusal_89 : decode kc_Ln_refusal 89 = .ok (.ifCond .ne 5, 3) := by decide +kernel
theorem kd_Ln_refusal_92 : decode kc_Ln_refusal 92 = .ok (.iconst 3, 1) := by decide +kernel
theorem kd_Ln_refusal_93 : decode kc_Ln_refusal 93 = .ok (.ireturn, 1) := by decide +kernel
theorem kd_Ln_refusal_94 : decode kc_Ln_refusal 94 = .ok (.iload_n 1, 1) := by decide +kernel
theorem kd_Ln_refusal_95 : decode kc_Ln_refusal 95 = .ok (.iconst 5, 1) := by decide +kernel
theorem kd_Ln_refusal_96 : decode kc_Ln_refusal 96 = .ok (.if_icmp .eq 9, 3) := by decide +kernel
theorem kd_Ln_refusal_99 : decode kc_Ln_refusal 99 = .ok (.iload_n 1, 1) := by decide +kernel
theorem kd_Ln_refusal_100 : decode kc_Ln_refusal 100 = .ok (.bipush 6, 2) := by decide +kernel
theorem kd_Ln_refusal_102 : decode kc_Ln_refusal 102 = .ok (.if_icmp .ne 7, 3) := by decide +kernel
theorem kd_Ln_refusal_105 : decode kc_Ln_refusal 105 = .ok (.iconst 1, 1) := by decide +kernel
theorem kd_Ln_refusal_106 : decode kc_Ln_refusal 106 = .ok (.goto 4, 3) := by decide +kernel
theorem kd_Ln_refusal_109 : decode kc_Ln_refusal 109 = .ok (.iload_n 3, 1) := by decide +kernel
theorem kd_Ln_refusal_110 : decode kc_Ln_refusal 110 = .ok (.istore 4, 2) := by decide +kernel
theorem kd_Ln_refusal_112 : decode kc_Ln_refusal 112 = .ok (.aload_n 0, 1) := by decide +kernel
theorem kd_Ln_refusal_113 : decode kc_Ln_refusal 113 = .ok (.iconst 0, 1) := by decide +kernel
theorem kd_Ln_refusal_114 : decode kc_Ln_refusal 114 = .ok (.invokevirtual 61, 3) := by decide +kernel
theorem kd_Ln_refusal_117 : decode kc_Ln_refusal 117 = .ok (.iload 4, 2) := by decide +kernel
theorem kd_Ln_refusal_119 : decode kc_Ln_refusal 119 = .ok (.iadd, 1) := by decide +kernel
theorem kd_Ln_refusal_120 : decode kc_Ln_refusal 120 = .ok (.iload_n 1, 1) := by decide +kernel
theorem kd_Ln_refusal_121 : decode kc_Ln_refusal 121 = .ok (.invokestatic 68, 3) := by decide +kernel
theorem kd_Ln_refusal_124 : decode kc_Ln_refusal 124 = .ok (.if_icmp .le 7, 3) := by decide +kernel
theorem kd_Ln_refusal_127 : decode kc_Ln_refusal 127 = .ok (.iconst 2, 1) := by decide +kernel
theorem kd_Ln_refusal_128 : decode kc_Ln_refusal 128 = .ok (.goto 4, 3) := by decide +kernel
theorem kd_Ln_refusal_131 : decode kc_Ln_refusal 131 = .ok (.iconst 0, 1) := by decide +kernel
theorem kd_Ln_refusal_132 : decode kc_Ln_refusal 132 = .ok (.ireturn, 1) := by decide +kernel
theorem kd_Ln_reply_0 : decode kc_Ln_reply 0 = .ok (.aload_n 0, 1) := by decide +kernel
theorem kd_Ln_reply_1 : decode kc_Ln_reply 1 = .ok (.iconst 0, 1) := by decide +kernel
theorem kd_Ln_reply_2 : decode kc_Ln_reply 2 = .ok (.invokevirtual 61, 3) := by decide +kernel
theorem kd_Ln_reply_5 : decode kc_Ln_reply 5 = .ok (.istore_n 2, 1) := by decide +kernel
theorem kd_Ln_reply_6 : decode kc_Ln_reply 6 = .ok (.aload_n 0, 1) := by decide +kernel
theorem kd_Ln_reply_7 : decode kc_Ln_reply 7 = .ok (.iconst 2, 1) := by decide +kernel
theorem kd_Ln_reply_8 : decode kc_Ln_reply 8 = .ok (.invokevirtual 61, 3) := by decide +kernel
theorem kd_Ln_reply_11 : decode kc_Ln_reply 11 = .ok (.istore_n 3, 1) := by decide +kernel
theorem kd_Ln_reply_12 : decode kc_Ln_reply 12 = .ok (.aload_n 0, 1) := by decide +kernel
theorem kd_Ln_reply_13 : decode kc_Ln_reply 13 = .ok (.iload_n 1, 1) := by decide +kernel
theorem kd_Ln_reply_14 : decode kc_Ln_reply 14 = .ok (.invokevirtual 50, 3) := by decide +kernel
theorem kd_Ln_reply_17 : decode kc_Ln_reply 17 = .ok (.iload_n 1, 1) := by decide +kernel
theorem kd_Ln_reply_18 : decode kc_Ln_reply 18 = .ok (.iconst 2, 1) := by decide +kernel
theorem kd_Ln_reply_19 : decode kc_Ln_reply 19 = .ok (.if_icmp .gt 54, 3) := by decide +kernel
theorem kd_Ln_reply_22 : decode kc_Ln_reply 22 = .ok (.aload_n 0, 1) := by decide +kernel
theorem kd_Ln_reply_23 : decode kc_Ln_reply 23 = .ok (.iload_n 3, 1) := by decide +kernel
theorem kd_Ln_reply_24 : decode kc_Ln_reply 24 = .ok (.bipush 7, 2) := by decide +kernel
theorem kd_Ln_reply_26 : decode kc_Ln_reply 26 = .ok (.iadd, 1) := by decide +kernel
theorem kd_Ln_reply_27 : decode kc_Ln_reply 27 = .ok (.bipush 8, 2) := by decide +kernel
theorem kd_Ln_reply_29 : decode kc_Ln_reply 29 = .ok (.idiv, 1) := by decide +kernel
theorem kd_Ln_reply_30 : decode kc_Ln_reply 30 = .ok (.invokevirtual 50, 3) := by decide +kernel
theorem kd_Ln_reply_33 : decode kc_Ln_reply 33 = .ok (.iconst 0, 1) := by decide +kernel
theorem kd_Ln_reply_34 : decode kc_Ln_reply 34 = .ok (.istore 4, 2) := by decide +kernel
theorem kd_Ln_reply_36 : decode kc_Ln_reply 36 = .ok (.iload 4, 2) := by decide +kernel
theorem kd_Ln_reply_38 : decode kc_Ln_reply 38 = .ok (.iload_n 3, 1) := by decide +kernel
theorem kd_Ln_reply_39 : decode kc_Ln_reply 39 = .ok (.if_icmp .ge 31, 3) := by decide +kernel
theorem kd_Ln_reply_42 : decode kc_Ln_reply 42 = .ok (.aload_n 0, 1) := by decide +kernel
theorem kd_Ln_reply_43 : decode kc_Ln_reply 43 = .ok (.aload_n 0, 1) := by decide +kernel
theorem kd_Ln_reply_44 : decode kc_Ln_reply 44 = .ok (.iload_n 1, 1) := by decide +kernel
theorem kd_Ln_reply_45 : decode kc_Ln_reply 45 = .ok (.iload_n 2, 1) := by decide +kernel
theorem kd_Ln_reply_46 : decode kc_Ln_reply 46 = .ok (.iload 4, 2) := by decide +kernel
theorem kd_Ln_reply_48 : decode kc_Ln_reply 48 = .ok (.iadd, 1) := by decide +kernel
theorem kd_Ln_reply_49 : decode kc_Ln_reply 49 = .ok (.bipush 8, 2) := by decide +kernel
theorem kd_Ln_reply_51 : decode kc_Ln_reply 51 = .ok (.iload_n 3, 1) := by decide +kernel
theorem kd_Ln_reply_52 : decode kc_Ln_reply 52 = .ok (.iload 4, 2) := by decide +kernel
theorem kd_Ln_reply_54 : decode kc_Ln_reply 54 = .ok (.isub, 1) := by decide +kernel
theorem kd_Ln_reply_55 : decode kc_Ln_reply 55 = .ok (.invokestatic 76, 3) := by decide +kernel
theorem kd_Ln_reply_58 : decode kc_Ln_reply 58 = .ok (.invokevirtual 82, 3) := by decide +kernel
theorem kd_Ln_reply_61 : decode kc_Ln_reply 61 = .ok (.invokevirtual 50, 3) := by decide +kernel
theorem kd_Ln_reply_64 : decode kc_Ln_reply 64 = .ok (.iinc 4 8, 3) := by decide +kernel
theorem kd_Ln_reply_67 : decode kc_Ln_reply 67 = .ok (.goto (-31), 3) := by decide +kernel
theorem kd_Ln_reply_70 : decode kc_Ln_reply 70 = .ok (.goto 103, 3) := by decide +kernel
theorem kd_Ln_reply_73 : decode kc_Ln_reply 73 = .ok (.iload_n 1, 1) := by decide +kernel
theorem kd_Ln_reply_74 : decode kc_Ln_reply 74 = .ok (.iconst 4, 1) := by decide +kernel
theorem kd_Ln_reply_75 : decode kc_Ln_reply 75 = .ok (.if_icmp .gt 73, 3) := by decide +kernel
theorem kd_Ln_reply_78 : decode kc_Ln_reply 78 = .ok (.aload_n 0, 1) := by decide +kernel
theorem kd_Ln_reply_79 : decode kc_Ln_reply 79 = .ok (.iconst 2, 1) := by decide +kernel
theorem kd_Ln_reply_80 : decode kc_Ln_reply 80 = .ok (.iload_n 3, 1) := by decide +kernel
theorem kd_Ln_reply_81 : decode kc_Ln_reply 81 = .ok (.imul, 1) := by decide +kernel
theorem kd_Ln_reply_82 : decode kc_Ln_reply 82 = .ok (.invokevirtual 50, 3) := by decide +kernel
theorem kd_Ln_reply_85 : decode kc_Ln_reply 85 = .ok (.iconst 0, 1) := by decide +kernel
theorem kd_Ln_reply_86 : decode kc_Ln_reply 86 = .ok (.istore 4, 2) := by decide +kernel
theorem kd_Ln_reply_88 : decode kc_Ln_reply 88 = .ok (.iload 4, 2) := by decide +kernel
theorem kd_Ln_reply_90 : decode kc_Ln_reply 90 = .ok (.iload_n 3, 1) := by decide +kernel
theorem kd_Ln_reply_91 : decode kc_Ln_reply 91 = .ok (.if_icmp .ge 54, 3) := by decide +kernel
theorem kd_Ln_reply_94 : decode kc_Ln_reply 94 = .ok (.iload_n 1, 1) := by decide +kernel
theorem kd_Ln_reply_95 : decode kc_Ln_reply 95 = .ok (.iconst 3, 1) := by decide +kernel
theorem kd_Ln_reply_96 : decode kc_Ln_reply 96 = .ok (.if_icmp .ne 18, 3) := by decide +kernel
theorem kd_Ln_reply_99 : decode kc_Ln_reply 99 = .ok (.aload_n 0, 1) := by decide +kernel
theorem kd_Ln_reply_100 : decode kc_Ln_reply 100 = .ok (.getfield 9, 3) := by decide +kernel
theorem kd_Ln_reply_103 : decode kc_Ln_reply 103 = .ok (.iconst 5, 1) := by decide +kernel
theorem kd_Ln_reply_104 : decode kc_Ln_reply 104 = .ok (.iload_n 2, 1) := by decide +kernel
theorem kd_Ln_reply_105 : decode kc_Ln_reply 105 = .ok (.iload 4, 2) := by decide +kernel
theorem kd_Ln_reply_107 : decode kc_Ln_reply 107 = .ok (.iadd, 1) := by decide +kernel
theorem kd_Ln_reply_108 : decode kc_Ln_reply 108 = .ok (.invokevirtual 85, 3) := by decide +kernel
theorem kd_Ln_reply_111 : decode kc_Ln_reply 111 = .ok (.goto 11, 3) := by decide +kernel
theorem kd_Ln_reply_114 : decode kc_Ln_reply 114 = .ok (.aload_n 0, 1) := by decide +kernel
theorem kd_Ln_reply_115 : decode kc_Ln_reply 115 = .ok (.iload_n 2, 1) := by decide +kernel
theorem kd_Ln_reply_116 : decode kc_Ln_reply 116 = .ok (.iload 4, 2) := by decide +kernel
theorem kd_Ln_reply_118 : decode kc_Ln_reply 118 = .ok (.iadd, 1) := by decide +kernel
theorem kd_Ln_reply_119 : decode kc_Ln_reply 119 = .ok (.invokevirtual 88, 3) := by decide +kernel
theorem kd_Ln_reply_122 : decode kc_Ln_reply 122 = .ok (.istore 5, 2) := by decide +kernel
theorem kd_Ln_reply_124 : decode kc_Ln_reply 124 = .ok (.aload_n 0, 1) := by decide +kernel
theorem kd_Ln_reply_125 : decode kc_Ln_reply 125 = .ok (.iload 5, 2) := by decide +kernel
theorem kd_Ln_reply_127 : decode kc_Ln_reply 127 = .ok (.bipush 8, 2) := by decide +kernel
theorem kd_Ln_reply_129 : decode kc_Ln_reply 129 = .ok (.ishr, 1) := by decide +kernel
theorem kd_Ln_reply_130 : decode kc_Ln_reply 130 = .ok (.invokevirtual 50, 3) := by decide +kernel
theorem kd_Ln_reply_133 : decode kc_Ln_reply 133 = .ok (.aload_n 0, 1) := by decide +kernel
theorem kd_Ln_reply_134 : decode kc_Ln_reply 134 = .ok (.iload 5, 2) := by decide +kernel
theorem kd_Ln_reply_136 : decode kc_Ln_reply 136 = .ok (.invokevirtual 50, 3) := by decide +kernel
theorem kd_Ln_reply_139 : decode kc_Ln_reply 139 = .ok (.iinc 4 1, 3) := by decide +kernel
theorem kd_Ln_reply_142 : decode kc_Ln_reply 142 = .ok (.goto (-54), 3) := by decide +kernel
theorem kd_Ln_reply_145 : decode kc_Ln_reply 145 = .ok (.goto 28, 3) := by decide +kernel
theorem kd_Ln_reply_148 : decode kc_Ln_reply 148 = .ok (.iconst 0, 1) := by decide +kernel
theorem kd_Ln_reply_149 : decode kc_Ln_reply 149 = .ok (.istore 4, 2) := by decide +kernel
theorem kd_Ln_reply_151 : decode kc_Ln_reply 151 = .ok (.iload 4, 2) := by decide +kernel
theorem kd_Ln_reply_153 : decode kc_Ln_reply 153 = .ok (.iconst 4, 1) := by decide +kernel
theorem kd_Ln_reply_154 : decode kc_Ln_reply 154 = .ok (.if_icmp .ge 19, 3) := by decide +kernel
theorem kd_Ln_reply_157 : decode kc_Ln_reply 157 = .ok (.aload_n 0, 1) := by decide +kernel
theorem kd_Ln_reply_158 : decode kc_Ln_reply 158 = .ok (.aload_n 0, 1) := by decide +kernel
theorem kd_Ln_reply_159 : decode kc_Ln_reply 159 = .ok (.iload 4, 2) := by decide +kernel
theorem kd_Ln_reply_161 : decode kc_Ln_reply 161 = .ok (.invokevirtual 58, 3) := by decide +kernel
theorem kd_Ln_reply_164 : decode kc_Ln_reply 164 = .ok (.invokevirtual 50, 3) := by decide +kernel
theorem kd_Ln_reply_167 : decode kc_Ln_reply 167 = .ok (.iinc 4 1, 3) := by decide +kernel
theorem kd_Ln_reply_170 : decode kc_Ln_reply 170 = .ok (.goto (-19), 3) := by decide +kernel
theorem kd_Ln_reply_173 : decode kc_Ln_reply 173 = .ok (.return_, 1) := by decide +kernel
theorem kd_Ln_send_0 : decode kc_Ln_send 0 = .ok (.aload_n 0, 1) := by decide +kernel
theorem kd_Ln_send_1 : decode kc_Ln_send 1 = .ok (.getfield 23, 3) := by decide +kernel
theorem kd_Ln_send_4 : decode kc_Ln_send 4 = .ok (.aload_n 0, 1) := by decide +kernel
theorem kd_Ln_send_5 : decode kc_Ln_send 5 = .ok (.getfield 15, 3) := by decide +kernel
theorem kd_Ln_send_8 : decode kc_Ln_send 8 = .ok (.arraylength, 1) := by decide +kernel
theorem kd_Ln_send_9 : decode kc_Ln_send 9 = .ok (.if_icmp .ge 24, 3) := by decide +kernel
theorem kd_Ln_send_12 : decode kc_Ln_send 12 = .ok (.aload_n 0, 1) := by decide +kernel
theorem kd_Ln_send_13 : decode kc_Ln_send 13 = .ok (.getfield 15, 3) := by decide +kernel
theorem kd_Ln_send_16 : decode kc_Ln_send 16 = .ok (.aload_n 0, 1) := by decide +kernel
theorem kd_Ln_send_17 : decode kc_Ln_send 17 = .ok (.getfield 23, 3) := by decide +kernel
theorem kd_Ln_send_20 : decode kc_Ln_send 20 = .ok (.iload_n 1, 1) := by decide +kernel
theorem kd_Ln_send_21 : decode kc_Ln_send 21 = .ok (.i2b, 1) := by decide +kernel
theorem kd_Ln_send_22 : decode kc_Ln_send 22 = .ok (.bastore, 1) := by decide +kernel
theorem kd_Ln_send_23 : decode kc_Ln_send 23 = .ok (.aload_n 0, 1) := by decide +kernel
theorem kd_Ln_send_24 : decode kc_Ln_send 24 = .ok (.dup, 1) := by decide +kernel
theorem kd_Ln_send_25 : decode kc_Ln_send 25 = .ok (.getfield 23, 3) := by decide +kernel
theorem kd_Ln_send_28 : decode kc_Ln_send 28 = .ok (.iconst 1, 1) := by decide +kernel
theorem kd_Ln_send_29 : decode kc_Ln_send 29 = .ok (.iadd, 1) := by decide +kernel
theorem kd_Ln_send_30 : decode kc_Ln_send 30 = .ok (.putfield 23, 3) := by decide +kernel
theorem kd_Ln_send_33 : decode kc_Ln_send 33 = .ok (.return_, 1) := by decide +kernel
theorem kd_Ln_tableSize_0 : decode kc_Ln_tableSize 0 = .ok (.iload_n 0, 1) := by decide +kernel
theorem kd_Ln_tableSize_1 : decode kc_Ln_tableSize 1 = .ok (.tableswitch 87 1 15 #[83, 75, 87, 79, 83, 87, 87, 87, 87, 87, 87, 87, 87, 87, 83], 75) := by decide +kernel
theorem kd_Ln_tableSize_76 : decode kc_Ln_tableSize 76 = .ok (.sipush 512, 3) := by decide +kernel
theorem kd_Ln_tableSize_79 : decode kc_Ln_tableSize 79 = .ok (.ireturn, 1) := by decide +kernel
theorem kd_Ln_tableSize_80 : decode kc_Ln_tableSize 80 = .ok (.sipush 128, 3) := by decide +kernel
theorem kd_Ln_tableSize_83 : decode kc_Ln_tableSize 83 = .ok (.ireturn, 1) := by decide +kernel
theorem kd_Ln_tableSize_84 : decode kc_Ln_tableSize 84 = .ok (.sipush 256, 3) := by decide +kernel
theorem kd_Ln_tableSize_87 : decode kc_Ln_tableSize 87 = .ok (.ireturn, 1) := by decide +kernel
theorem kd_Ln_tableSize_88 : decode kc_Ln_tableSize 88 = .ok (.bipush 64, 2) := by decide +kernel
theorem kd_Ln_tableSize_90 : decode kc_Ln_tableSize 90 = .ok (.ireturn, 1) := by decide +kernel
theorem kd_Ln_write_0 : decode kc_Ln_write 0 = .ok (.aload_n 0, 1) := by decide +kernel
theorem kd_Ln_write_1 : decode kc_Ln_write 1 = .ok (.iconst 0, 1) := by decide +kernel
theorem kd_Ln_write_2 : decode kc_Ln_write 2 = .ok (.invokevirtual 61, 3) := by decide +kernel
theorem kd_Ln_write_5 : decode kc_Ln_write 5 = .ok (.istore_n 2, 1) := by decide +kernel
theorem kd_Ln_write_6 : decode kc_Ln_write 6 = .ok (.aload_n 0, 1) := by decide +kernel
theorem kd_Ln_write_7 : decode kc_Ln_write 7 = .ok (.iconst 2, 1) := by decide +kernel
theorem kd_Ln_write_8 : decode kc_Ln_write 8 = .ok (.invokevirtual 61, 3) := by decide +kernel
theorem kd_Ln_write_11 : decode kc_Ln_write 11 = .ok (.istore_n 3, 1) := by decide +kernel
theorem kd_Ln_write_12 : decode kc_Ln_write 12 = .ok (.iload_n 1, 1) := by decide +kernel
theorem kd_Ln_write_13 : decode kc_Ln_write 13 = .ok (.iconst 5, 1) := by decide +kernel
theorem kd_Ln_write_14 : decode kc_Ln_write 14 = .ok (.if_icmp .ne 25, 3) := by decide +kernel
theorem kd_Ln_write_17 : decode kc_Ln_write 17 = .ok (.aload_n 0, 1) := by decide +kernel
theorem kd_Ln_write_18 : decode kc_Ln_write 18 = .ok (.getfield 9, 3) := by decide +kernel
theorem kd_Ln_write_21 : decode kc_Ln_write 21 = .ok (.iconst 2, 1) := by decide +kernel
theorem kd_Ln_write_22 : decode kc_Ln_write 22 = .ok (.iload_n 2, 1) := by decide +kernel
theorem kd_Ln_write_23 : decode kc_Ln_write 23 = .ok (.iload_n 3, 1) := by decide +kernel
theorem kd_Ln_write_24 : decode kc_Ln_write 24 = .ok (.ifCond .ne 7, 3) := by decide +kernel
theorem kd_Ln_write_27 : decode kc_Ln_write 27 = .ok (.iconst 0, 1) := by decide +kernel
theorem kd_Ln_write_28 : decode kc_Ln_write 28 = .ok (.goto 4, 3) := by decide +kernel
theorem kd_Ln_write_31 : decode kc_Ln_write 31 = .ok (.iconst 1, 1) := by decide +kernel
theorem kd_Ln_write_32 : decode kc_Ln_write 32 = .ok (.invokevirtual 72, 3) := by decide +kernel
theorem kd_Ln_write_35 : decode kc_Ln_write 35 = .ok (.pop, 1) := by decide +kernel
theorem kd_Ln_write_36 : decode kc_Ln_write 36 = .ok (.goto 125, 3) := by decide +kernel
theorem kd_Ln_write_39 : decode kc_Ln_write 39 = .ok (.iload_n 1, 1) := by decide +kernel
theorem kd_Ln_write_40 : decode kc_Ln_write 40 = .ok (.bipush 6, 2) := by decide +kernel
theorem kd_Ln_write_42 : decode kc_Ln_write 42 = .ok (.if_icmp .ne 18, 3) := by decide +kernel
theorem kd_Ln_write_45 : decode kc_Ln_write 45 = .ok (.aload_n 0, 1) := by decide +kernel
theorem kd_Ln_write_46 : decode kc_Ln_write 46 = .ok (.getfield 9, 3) := by decide +kernel
theorem kd_Ln_write_49 : decode kc_Ln_write 49 = .ok (.iconst 5, 1) := by decide +kernel
theorem kd_Ln_write_50 : decode kc_Ln_write 50 = .ok (.iload_n 2, 1) := by decide +kernel
theorem kd_Ln_write_51 : decode kc_Ln_write 51 = .ok (.iload_n 3, 1) := by decide +kernel
theorem kd_Ln_write_52 : decode kc_Ln_write 52 = .ok (.i2s, 1) := by decide +kernel
theorem kd_Ln_write_53 : decode kc_Ln_write 53 = .ok (.invokevirtual 72, 3) := by decide +kernel
theorem kd_Ln_write_56 : decode kc_Ln_write 56 = .ok (.pop, 1) := by decide +kernel
theorem kd_Ln_write_57 : decode kc_Ln_write 57 = .ok (.goto 104, 3) := by decide +kernel
theorem kd_Ln_write_60 : decode kc_Ln_write 60 = .ok (.iload_n 1, 1) := by decide +kernel
theorem kd_Ln_write_61 : decode kc_Ln_write 61 = .ok (.bipush 15, 2) := by decide +kernel
theorem kd_Ln_write_63 : decode kc_Ln_write 63 = .ok (.if_icmp .ne 53, 3) := by decide +kernel
theorem kd_Ln_write_66 : decode kc_Ln_write 66 = .ok (.iconst 0, 1) := by decide +kernel
theorem kd_Ln_write_67 : decode kc_Ln_write 67 = .ok (.istore 4, 2) := by decide +kernel
theorem kd_Ln_write_69 : decode kc_Ln_write 69 = .ok (.iload 4, 2) := by decide +kernel
theorem kd_Ln_write_71 : decode kc_Ln_write 71 = .ok (.iload_n 3, 1) := by decide +kernel
theorem kd_Ln_write_72 : decode kc_Ln_write 72 = .ok (.if_icmp .ge 41, 3) := by decide +kernel
theorem kd_Ln_write_75 : decode kc_Ln_write 75 = .ok (.aload_n 0, 1) := by decide +kernel
theorem kd_Ln_write_76 : decode kc_Ln_write 76 = .ok (.getfield 9, 3) := by decide +kernel
theorem kd_Ln_write_79 : decode kc_Ln_write 79 = .ok (.iconst 2, 1) := by decide +kernel
theorem kd_Ln_write_80 : decode kc_Ln_write 80 = .ok (.iload_n 2, 1) := by decide +kernel
theorem kd_Ln_write_81 : decode kc_Ln_write 81 = .ok (.iload 4, 2) := by decide +kernel
theorem kd_Ln_write_83 : decode kc_Ln_write 83 = .ok (.iadd, 1) := by decide +kernel
theorem kd_Ln_write_84 : decode kc_Ln_write 84 = .ok (.aload_n 0, 1) := by decide +kernel
theorem kd_Ln_write_85 : decode kc_Ln_write 85 = .ok (.iconst 5, 1) := by decide +kernel
theorem kd_Ln_write_86 : decode kc_Ln_write 86 = .ok (.iload 4, 2) := by decide +kernel
theorem kd_Ln_write_88 : decode kc_Ln_write 88 = .ok (.bipush 8, 2) := by decide +kernel
theorem kd_Ln_write_90 : decode kc_Ln_write 90 = .ok (.idiv, 1) := by decide +kernel
theorem kd_Ln_write_91 : decode kc_Ln_write 91 = .ok (.iadd, 1) := by decide +kernel
theorem kd_Ln_write_92 : decode kc_Ln_write 92 = .ok (.invokevirtual 58, 3) := by decide +kernel
theorem kd_Ln_write_95 : decode kc_Ln_write 95 = .ok (.iload 4, 2) := by decide +kernel
theorem kd_Ln_write_97 : decode kc_Ln_write 97 = .ok (.bipush 8, 2) := by decide +kernel
theorem kd_Ln_write_99 : decode kc_Ln_write 99 = .ok (.irem, 1) := by decide +kernel
theorem kd_Ln_write_100 : decode kc_Ln_write 100 = .ok (.ishr, 1) := by decide +kernel
theorem kd_Ln_write_101 : decode kc_Ln_write 101 = .ok (.iconst 1, 1) := by decide +kernel
theorem kd_Ln_write_102 : decode kc_Ln_write 102 = .ok (.iand, 1) := by decide +kernel
theorem kd_Ln_write_103 : decode kc_Ln_write 103 = .ok (.invokevirtual 72, 3) := by decide +kernel
theorem kd_Ln_write_106 : decode kc_Ln_write 106 = .ok (.pop, 1) := by decide +kernel
theorem kd_Ln_write_107 : decode kc_Ln_write 107 = .ok (.iinc 4 1, 3) := by decide +kernel
theorem kd_Ln_write_110 : decode kc_Ln_write 110 = .ok (.goto (-41), 3) := by decide +kernel
theorem kd_Ln_write_113 : decode kc_Ln_write 113 = .ok (.goto 48, 3) := by decide +kernel
theorem kd_Ln_write_116 : decode kc_Ln_write 116 = .ok (.iload_n 1, 1) := by decide +kernel
theorem kd_Ln_write_117 : decode kc_Ln_write 117 = .ok (.bipush 16, 2) := by decide +kernel
theorem kd_Ln_write_119 : decode kc_Ln_write 119 = .ok (.if_icmp .ne 42, 3) := by decide +kernel
theorem kd_Ln_write_122 : decode kc_Ln_write 122 = .ok (.iconst 0, 1) := by decide +kernel
theorem kd_Ln_write_123 : decode kc_Ln_write 123 = .ok (.istore 4, 2) := by decide +kernel
theorem kd_Ln_write_125 : decode kc_Ln_write 125 = .ok (.iload 4, 2) := by decide +kernel
theorem kd_Ln_write_127 : decode kc_Ln_write 127 = .ok (.iload_n 3, 1) := by decide +kernel
theorem kd_Ln_write_128 : decode kc_Ln_write 128 = .ok (.if_icmp .ge 33, 3) := by decide +kernel
theorem kd_Ln_write_131 : decode kc_Ln_write 131 = .ok (.aload_n 0, 1) := by decide +kernel
theorem kd_Ln_write_132 : decode kc_Ln_write 132 = .ok (.getfield 9, 3) := by decide +kernel
theorem kd_Ln_write_135 : decode kc_Ln_write 135 = .ok (.iconst 5, 1) := by decide +kernel
theorem kd_Ln_write_136 : decode kc_Ln_write 136 = .ok (.iload_n 2, 1) := by decide +kernel
theorem kd_Ln_write_137 : decode kc_Ln_write 137 = .ok (.iload 4, 2) := by decide +kernel
theorem kd_Ln_write_139 : decode kc_Ln_write 139 = .ok (.iadd, 1) := by decide +kernel
theorem kd_Ln_write_140 : decode kc_Ln_write 140 = .ok (.aload_n 0, 1) := by decide +kernel
theorem kd_Ln_write_141 : decode kc_Ln_write 141 = .ok (.iconst 5, 1) := by decide +kernel
theorem kd_Ln_write_142 : decode kc_Ln_write 142 = .ok (.iconst 2, 1) := by decide +kernel
theorem kd_Ln_write_143 : decode kc_Ln_write 143 = .ok (.iload 4, 2) := by decide +kernel
theorem kd_Ln_write_145 : decode kc_Ln_write 145 = .ok (.imul, 1) := by decide +kernel
theorem kd_Ln_write_146 : decode kc_Ln_write 146 = .ok (.iadd, 1) := by decide +kernel
theorem kd_Ln_write_147 : decode kc_Ln_write 147 = .ok (.invokevirtual 61, 3) := by decide +kernel
theorem kd_Ln_write_150 : decode kc_Ln_write 150 = .ok (.i2s, 1) := by decide +kernel
theorem kd_Ln_write_151 : decode kc_Ln_write 151 = .ok (.invokevirtual 72, 3) := by decide +kernel
theorem kd_Ln_write_154 : decode kc_Ln_write 154 = .ok (.pop, 1) := by decide +kernel
theorem kd_Ln_write_155 : decode kc_Ln_write 155 = .ok (.iinc 4 1, 3) := by decide +kernel
theorem kd_Ln_write_158 : decode kc_Ln_write 158 = .ok (.goto (-33), 3) := by decide +kernel
theorem kd_Ln_write_161 : decode kc_Ln_write 161 = .ok (.return_, 1) := by decide +kernel
theorem kd_Mc_change_0 : decode kc_Mc_change 0 = .ok (.getstatic 126, 3) := by decide +kernel
theorem kd_Mc_change_3 : decode kc_Mc_change 3 = .ok (.iload_n 1, 1) := by decide +kernel
theorem kd_Mc_change_4 : decode kc_Mc_change 4 = .ok (.iaload, 1) := by decide +kernel
theorem kd_Mc_change_5 : decode kc_Mc_change 5 = .ok (.iload_n 2, 1) := by decide +kernel
theorem kd_Mc_change_6 : decode kc_Mc_change 6 = .ok (.iadd, 1) := by decide +kernel
theorem kd_Mc_change_7 : decode kc_Mc_change 7 = .ok (.istore 4, 2) := by decide +kernel
theorem kd_Mc_change_9 : decode kc_Mc_change 9 = .ok (.iload_n 1, 1) := by decide +kernel
theorem kd_Mc_change_10 : decode kc_Mc_change 10 = .ok (.ifCond .eq 8, 3) := by decide +kernel
theorem kd_Mc_change_13 : decode kc_Mc_change 13 = .ok (.iload_n 1, 1) := by decide +kernel
theorem kd_Mc_change_14 : decode kc_Mc_change 14 = .ok (.iconst 3, 1) := by decide +kernel
theorem kd_Mc_change_15 : decode kc_Mc_change 15 = .ok (.if_icmp .ne 14, 3) := by decide +kernel
theorem kd_Mc_change_18 : decode kc_Mc_change 18 = .ok (.aload_n 0, 1) := by decide +kernel
theorem kd_Mc_change_19 : decode kc_Mc_change 19 = .ok (.getfield 19, 3) := by decide +kernel
theorem kd_Mc_change_22 : decode kc_Mc_change 22 = .ok (.iload 4, 2) := by decide +kernel
theorem kd_Mc_change_24 : decode kc_Mc_change 24 = .ok (.iload_n 3, 1) := by decide +kernel
theorem kd_Mc_change_25 : decode kc_Mc_change 25 = .ok (.iastore, 1) := by decide +kernel
theorem kd_Mc_change_26 : decode kc_Mc_change 26 = .ok (.goto 24, 3) := by decide +kernel
theorem kd_Mc_change_29 : decode kc_Mc_change 29 = .ok (.aload_n 0, 1) := by decide +kernel
theorem kd_Mc_change_30 : decode kc_Mc_change 30 = .ok (.getfield 41, 3) := by decide +kernel
theorem kd_Mc_change_33 : decode kc_Mc_change 33 = .ok (.ifCond .eq 14, 3) := by decide +kernel
theorem kd_Mc_change_36 : decode kc_Mc_change 36 = .ok (.aload_n 0, 1) := by decide +kernel
theorem kd_Mc_change_37 : decode kc_Mc_change 37 = .ok (.getfield 29, 3) := by decide +kernel
theorem kd_Mc_change_40 : decode kc_Mc_change 40 = .ok (.iload 4, 2) := by decide +kernel
theorem kd_Mc_change_42 : decode kc_Mc_change 42 = .ok (.iload_n 3, 1) := by decide +kernel
theorem kd_Mc_change_43 : decode kc_Mc_change 43 = .ok (.iastore, 1) := by decide +kernel
theorem kd_Mc_change_44 : decode kc_Mc_change 44 = .ok (.goto 6, 3) := by decide +kernel
theorem kd_Mc_change_47 : decode kc_Mc_change 47 = .ok (.bipush (-5), 2) := by decide +kernel
theorem kd_Mc_change_49 : decode kc_Mc_change 49 = .ok (.ireturn, 1) := by decide +kernel
theorem kd_Mc_change_50 : decode kc_Mc_change 50 = .ok (.iconst 0, 1) := by decide +kernel
theorem kd_Mc_change_51 : decode kc_Mc_change 51 = .ok (.ireturn, 1) := by decide +kernel
theorem kd_Mc_seen_0 : decode kc_Mc_seen 0 = .ok (.getstatic 126, 3) := by decide +kernel
theorem kd_Mc_seen_3 : decode kc_Mc_seen 3 = .ok (.iload_n 1, 1) := by decide +kernel
theorem kd_Mc_seen_4 : decode kc_Mc_seen 4 = .ok (.iaload, 1) := by decide +kernel
theorem kd_Mc_seen_5 : decode kc_Mc_seen 5 = .ok (.iload_n 2, 1) := by decide +kernel
theorem kd_Mc_seen_6 : decode kc_Mc_seen 6 = .ok (.iadd, 1) := by decide +kernel
theorem kd_Mc_seen_7 : decode kc_Mc_seen 7 = .ok (.istore_n 3, 1) := by decide +kernel
theorem kd_Mc_seen_8 : decode kc_Mc_seen 8 = .ok (.iload_n 1, 1) := by decide +kernel
theorem kd_Mc_seen_9 : decode kc_Mc_seen 9 = .ok (.iconst 2, 1) := by decide +kernel
theorem kd_Mc_seen_10 : decode kc_Mc_seen 10 = .ok (.if_icmp .eq 8, 3) := by decide +kernel
theorem kd_Mc_seen_13 : decode kc_Mc_seen 13 = .ok (.iload_n 1, 1) := by decide +kernel
theorem kd_Mc_seen_14 : decode kc_Mc_seen 14 = .ok (.iconst 5, 1) := by decide +kernel
theorem kd_Mc_seen_15 : decode kc_Mc_seen 15 = .ok (.if_icmp .ne 10, 3) := by decide +kernel
theorem kd_Mc_seen_18 : decode kc_Mc_seen 18 = .ok (.aload_n 0, 1) := by decide +kernel
theorem kd_Mc_seen_19 : decode kc_Mc_seen 19 = .ok (.getfield 29, 3) := by decide +kernel
theorem kd_Mc_seen_22 : decode kc_Mc_seen 22 = .ok (.iload_n 3, 1) := by decide +kernel
theorem kd_Mc_seen_23 : decode kc_Mc_seen 23 = .ok (.iaload, 1) := by decide +kernel
theorem kd_Mc_seen_24 : decode kc_Mc_seen 24 = .ok (.ireturn, 1) := by decide +kernel
theorem kd_Mc_seen_25 : decode kc_Mc_seen 25 = .ok (.iload_n 1, 1) := by decide +kernel
theorem kd_Mc_seen_26 : decode kc_Mc_seen 26 = .ok (.iconst 1, 1) := by decide +kernel
theorem kd_Mc_seen_27 : decode kc_Mc_seen 27 = .ok (.if_icmp .eq 8, 3) := by decide +kernel
theorem kd_Mc_seen_30 : decode kc_Mc_seen 30 = .ok (.iload_n 1, 1) := by decide +kernel
theorem kd_Mc_seen_31 : decode kc_Mc_seen 31 = .ok (.iconst 4, 1) := by decide +kernel
theorem kd_Mc_seen_32 : decode kc_Mc_seen 32 = .ok (.if_icmp .ne 12, 3) := by decide +kernel
theorem kd_Mc_seen_35 : decode kc_Mc_seen 35 = .ok (.aload_n 0, 1) := by decide +kernel
theorem kd_Mc_seen_36 : decode kc_Mc_seen 36 = .ok (.getfield 23, 3) := by decide +kernel
theorem kd_Mc_seen_39 : decode kc_Mc_seen 39 = .ok (.iload_n 3, 1) := by decide +kernel
theorem kd_Mc_seen_40 : decode kc_Mc_seen 40 = .ok (.iaload, 1) := by decide +kernel
theorem kd_Mc_seen_41 : decode kc_Mc_seen 41 = .ok (.goto 9, 3) := by decide +kernel
theorem kd_Mc_seen_44 : decode kc_Mc_seen 44 = .ok (.aload_n 0, 1) := by decide +kernel
theorem kd_Mc_seen_45 : decode kc_Mc_seen 45 = .ok (.getfield 19, 3) := by decide +kernel
theorem kd_Mc_seen_48 : decode kc_Mc_seen 48 = .ok (.iload_n 3, 1) := by decide +kernel
theorem kd_Mc_seen_49 : decode kc_Mc_seen 49 = .ok (.iaload, 1) := by decide +kernel
theorem kd_Mc_seen_50 : decode kc_Mc_seen 50 = .ok (.ireturn, 1) := by decide +kernel
theorem kd_Pk_byteAt_0 : decode kc_Pk_byteAt 0 = .ok (.iload_n 1, 1) := by decide +kernel
theorem kd_Pk_byteAt_1 : decode kc_Pk_byteAt 1 = .ok (.ifCond .lt 14, 3) := by decide +kernel
theorem kd_Pk_byteAt_4 : decode kc_Pk_byteAt 4 = .ok (.iload_n 1, 1) := by decide +kernel
theorem kd_Pk_byteAt_5 : decode kc_Pk_byteAt 5 = .ok (.aload_n 0, 1) := by decide +kernel
theorem kd_Pk_byteAt_6 : decode kc_Pk_byteAt 6 = .ok (.getfield 104, 3) := by decide +kernel
theorem kd_Pk_byteAt_9 : decode kc_Pk_byteAt 9 = .ok (.getfield 266, 3) := by decide +kernel
theorem kd_Pk_byteAt_12 : decode kc_Pk_byteAt 12 = .ok (.if_icmp .lt 7, 3) := by decide +kernel
theorem kd_Pk_byteAt_15 : decode kc_Pk_byteAt 15 = .ok (.iconst (-1), 1) := by decide +kernel
theorem kd_Pk_byteAt_16 : decode kc_Pk_byteAt 16 = .ok (.goto 16, 3) := by decide +kernel
theorem kd_Pk_byteAt_19 : decode kc_Pk_byteAt 19 = .ok (.aload_n 0, 1) := by decide +kernel
theorem kd_Pk_byteAt_20 : decode kc_Pk_byteAt 20 = .ok (.getfield 104, 3) := by decide +kernel
theorem kd_Pk_byteAt_23 : decode kc_Pk_byteAt 23 = .ok (.getfield 269, 3) := by decide +kernel
theorem kd_Pk_byteAt_26 : decode kc_Pk_byteAt 26 = .ok (.iload_n 1, 1) := by decide +kernel
theorem kd_Pk_byteAt_27 : decode kc_Pk_byteAt 27 = .ok (.baload, 1) := by decide +kernel
theorem kd_Pk_byteAt_28 : decode kc_Pk_byteAt 28 = .ok (.sipush 255, 3) := by decide +kernel
theorem kd_Pk_byteAt_31 : decode kc_Pk_byteAt 31 = .ok (.iand, 1) := by decide +kernel
theorem kd_Pk_byteAt_32 : decode kc_Pk_byteAt 32 = .ok (.ireturn, 1) := by decide +kernel
theorem kd_Pk_count_0 : decode kc_Pk_count 0 = .ok (.iload_n 1, 1) := by decide +kernel
theorem kd_Pk_count_1 : decode kc_Pk_count 1 = .ok (.tableswitch 165 0 9 #[55, 60, 65, 73, 95, 117, 125, 133, 141, 149], 55) := by decide +kernel
theorem kd_Pk_count_56 : decode kc_Pk_count 56 = .ok (.aload_n 0, 1) := by decide +kernel
theorem kd_Pk_count_57 : decode kc_Pk_count 57 = .ok (.getfield 119, 3) := by decide +kernel
theorem kd_Pk_count_60 : decode kc_Pk_count 60 = .ok (.ireturn, 1) := by decide +kernel
theorem kd_Pk_count_61 : decode kc_Pk_count 61 = .ok (.aload_n 0, 1) := by decide +kernel
theorem kd_Pk_count_62 : decode kc_Pk_count 62 = .ok (.getfield 13, 3) := by decide +kernel
theorem kd_Pk_count_65 : decode kc_Pk_count 65 = .ok (.ireturn, 1) := by decide +kernel
theorem kd_Pk_count_66 : decode kc_Pk_count 66 = .ok (.aload_n 0, 1) := by decide +kernel
theorem kd_Pk_count_67 : decode kc_Pk_count 67 = .ok (.getfield 95, 3) := by decide +kernel
theorem kd_Pk_count_70 : decode kc_Pk_count 70 = .ok (.getfield 272, 3) := by decide +kernel
theorem kd_Pk_count_73 : decode kc_Pk_count 73 = .ok (.ireturn, 1) := by decide +kernel
theorem kd_Pk_count_74 : decode kc_Pk_count 74 = .ok (.aload_n 0, 1) := by decide +kernel
theorem kd_Pk_count_75 : decode kc_Pk_count 75 = .ok (.getfield 95, 3) := by decide +kernel
theorem kd_Pk_count_78 : decode kc_Pk_count 78 = .ok (.getfield 169, 3) := by decide +kernel
theorem kd_Pk_count_81 : decode kc_Pk_count 81 = .ok (.ifCond .eq 13, 3) := by decide +kernel
theorem kd_Pk_count_84 : decode kc_Pk_count 84 = .ok (.aload_n 0, 1) := by decide +kernel
theorem kd_Pk_count_85 : decode kc_Pk_count 85 = .ok (.getfield 68, 3) := by decide +kernel
theorem kd_Pk_count_88 : decode kc_Pk_count 88 = .ok (.getfield 275, 3) := by decide +kernel
theorem kd_Pk_count_91 : decode kc_Pk_count 91 = .ok (.goto 4, 3) := by decide +kernel
theorem kd_Pk_count_94 : decode kc_Pk_count 94 = .ok (.iconst 0, 1) := by decide +kernel
theorem kd_Pk_count_95 : decode kc_Pk_count 95 = .ok (.ireturn, 1) := by decide +kernel
theorem kd_Pk_count_96 : decode kc_Pk_count 96 = .ok (.aload_n 0, 1) := by decide +kernel
theorem kd_Pk_count_97 : decode kc_Pk_count 97 = .ok (.getfield 95, 3) := by decide +kernel
theorem kd_Pk_count_100 : decode kc_Pk_count 100 = .ok (.getfield 169, 3) := by decide +kernel
theorem kd_Pk_count_103 : decode kc_Pk_count 103 = .ok (.ifCond .eq 13, 3) := by decide +kernel
theorem kd_Pk_count_106 : decode kc_Pk_count 106 = .ok (.aload_n 0, 1) := by decide +kernel
theorem kd_Pk_count_107 : decode kc_Pk_count 107 = .ok (.getfield 52, 3) := by decide +kernel
theorem kd_Pk_count_110 : decode kc_Pk_count 110 = .ok (.getfield 278, 3) := by decide +kernel
theorem kd_Pk_count_113 : decode kc_Pk_count 113 = .ok (.goto 4, 3) := by decide +kernel
theorem kd_Pk_count_116 : decode kc_Pk_count 116 = .ok (.iconst 0, 1) := by decide +kernel
theorem kd_Pk_count_117 : decode kc_Pk_count 117 = .ok (.ireturn, 1) := by decide +kernel
theorem kd_Pk_count_118 : decode kc_Pk_count 118 = .ok (.aload_n 0, 1) := by decide +kernel
theorem kd_Pk_count_119 : decode kc_Pk_count 119 = .ok (.getfield 95, 3) := by decide +kernel
theorem kd_Pk_count_122 : decode kc_Pk_count 122 = .ok (.getfield 281, 3) := by decide +kernel
theorem kd_Pk_count_125 : decode kc_Pk_count 125 = .ok (.ireturn, 1) := by decide +kernel
theorem kd_Pk_count_126 : decode kc_Pk_count 126 = .ok (.aload_n 0, 1) := by decide +kernel
theorem kd_Pk_count_127 : decode kc_Pk_count 127 = .ok (.getfield 95, 3) := by decide +kernel
theorem kd_Pk_count_130 : decode kc_Pk_count 130 = .ok (.getfield 284, 3) := by decide +kernel
theorem kd_Pk_count_133 : decode kc_Pk_count 133 = .ok (.ireturn, 1) := by decide +kernel
theorem kd_Pk_count_134 : decode kc_Pk_count 134 = .ok (.aload_n 0, 1) := by decide +kernel
theorem kd_Pk_count_135 : decode kc_Pk_count 135 = .ok (.getfield 95, 3) := by decide +kernel
theorem kd_Pk_count_138 : decode kc_Pk_count 138 = .ok (.getfield 287, 3) := by decide +kernel
theorem kd_Pk_count_141 : decode kc_Pk_count 141 = .ok (.ireturn, 1) := by decide +kernel
theorem kd_Pk_count_142 : decode kc_Pk_count 142 = .ok (.aload_n 0, 1) := by decide +kernel
theorem kd_Pk_count_143 : decode kc_Pk_count 143 = .ok (.getfield 95, 3) := by decide +kernel
theorem kd_Pk_count_146 : decode kc_Pk_count 146 = .ok (.getfield 290, 3) := by decide +kernel
theorem kd_Pk_count_149 : decode kc_Pk_count 149 = .ok (.ireturn, 1) := by decide +kernel
theorem kd_Pk_count_150 : decode kc_Pk_count 150 = .ok (.aload_n 0, 1) := by decide +kernel
theorem kd_Pk_count_151 : decode kc_Pk_count 151 = .ok (.getfield 95, 3) := by decide +kernel
theorem kd_Pk_count_154 : decode kc_Pk_count 154 = .ok (.getfield 197, 3) := by decide +kernel
theorem kd_Pk_count_157 : decode kc_Pk_count 157 = .ok (.ifCond .eq 7, 3) := by decide +kernel
theorem kd_Pk_count_160 : decode kc_Pk_count 160 = .ok (.iconst 1, 1) := by decide +kernel
theorem kd_Pk_count_161 : decode kc_Pk_count 161 = .ok (.goto 4, 3) := by decide +kernel
theorem kd_Pk_count_164 : decode kc_Pk_count 164 = .ok (.iconst 0, 1) := by decide +kernel
theorem kd_Pk_count_165 : decode kc_Pk_count 165 = .ok (.ireturn, 1) := by decide +kernel
theorem kd_Pk_count_166 : decode kc_Pk_count 166 = .ok (.iconst (-1), 1) := by decide +kernel
theorem kd_Pk_count_167 : decode kc_Pk_count 167 = .ok (.ireturn, 1) := by decide +kernel
theorem kd_Pk_station_0 : decode kc_Pk_station 0 = .ok (.iload_n 1, 1) := by decide +kernel
theorem kd_Pk_station_1 : decode kc_Pk_station 1 = .ok (.iconst 1, 1) := by decide +kernel
theorem kd_Pk_station_2 : decode kc_Pk_station 2 = .ok (.if_icmp .lt 10, 3) := by decide +kernel
theorem kd_Pk_station_5 : decode kc_Pk_station 5 = .ok (.iload_n 1, 1) := by decide +kernel
theorem kd_Pk_station_6 : decode kc_Pk_station 6 = .ok (.sipush 247, 3) := by decide +kernel
theorem kd_Pk_station_9 : decode kc_Pk_station 9 = .ok (.if_icmp .le 5, 3) := by decide +kernel
theorem kd_Pk_station_12 : decode kc_Pk_station 12 = .ok (.iconst (-1), 1) := by decide +kernel
theorem kd_Pk_station_13 : decode kc_Pk_station 13 = .ok (.ireturn, 1) := by decide +kernel
theorem kd_Pk_station_14 : decode kc_Pk_station 14 = .ok (.aload_n 0, 1) := by decide +kernel
theorem kd_Pk_station_15 : decode kc_Pk_station 15 = .ok (.getfield 104, 3) := by decide +kernel
theorem kd_Pk_station_18 : decode kc_Pk_station 18 = .ok (.getfield 263, 3) := by decide +kernel
theorem kd_Pk_station_21 : decode kc_Pk_station 21 = .ok (.istore_n 2, 1) := by decide +kernel
theorem kd_Pk_station_22 : decode kc_Pk_station 22 = .ok (.aload_n 0, 1) := by decide +kernel
theorem kd_Pk_station_23 : decode kc_Pk_station 23 = .ok (.getfield 104, 3) := by decide +kernel
theorem kd_Pk_station_26 : decode kc_Pk_station 26 = .ok (.iload_n 1, 1) := by decide +kernel
theorem kd_Pk_station_27 : decode kc_Pk_station 27 = .ok (.putfield 263, 3) := by decide +kernel
theorem kd_Pk_station_30 : decode kc_Pk_station 30 = .ok (.iload_n 2, 1) := by decide +kernel
theorem kd_Pk_station_31 : decode kc_Pk_station 31 = .ok (.ireturn, 1) := by decide +kernel
set_option maxHeartbeats 4000000 in
set_option maxRecDepth 100000 in
theorem zc_Pk_count {l : Launch} {D : va_G} {sz0 : Nat} {S : zs_T} {P : ze_T} (h : zs_H) (x1 : Int32) : zk_Sp (zs_G S l D sz0) (ze_E P) km_Pk_count { frames := 0, cells := 0, slots := 0, locals := 0 } [.ref (S.1 0), .int x1] (zs_W S h) (zd_PI S (f_Pk_count h x1) h) := by
  obtain ⟨rv, e⟩ : ∃ rv, f_Pk_count h x1 = rv := ⟨_, rfl⟩
  rw [e]
  refine zk_met ku_Pk_count (Nat.le_of_ble_eq_true rfl) (ze_Em P) ?_
  intro X C hR
  refine zk_lvs (lv' := [(0, .ref (S.1 0)), (1, .int x1)]) [0, 1] rfl ?_
  unfold f_Pk_count at e
  refine zk_iload_n C kd_Pk_count_0 rfl 1 rfl rfl ?_
  by_cases b1 : x1 = 0
  · replace e := zd_pos b1 e
    refine zk_tableIn (tgt := 56) C kd_Pk_count_1 (by rw [b1]; decide) (by rw [b1]; decide) (by rw [b1]; rfl) (by decide) ?_
    refine zk_aload_n C kd_Pk_count_56 rfl 0 rfl rfl ?_
    refine zs_get (v := .int (h.1 0 2)) C 0 2 rfl rfl rfl rfl ki_Pk (by decide) kw621 kd_Pk_count_57 rfl ?_
    exact zk_iret C hR kd_Pk_count_60 rfl rfl (zd_rIT e)
  replace e := zd_neg b1 e
  by_cases b2 : x1 = 1
  · replace e := zd_pos b2 e
    refine zk_tableIn (tgt := 61) C kd_Pk_count_1 (by rw [b2]; decide) (by rw [b2]; decide) (by rw [b2]; rfl) (by decide) ?_
    refine zk_aload_n C kd_Pk_count_61 rfl 0 rfl rfl ?_
    refine zs_get (v := .int (h.1 0 3)) C 0 3 rfl rfl rfl rfl ki_Pk (by decide) kw622 kd_Pk_count_62 rfl ?_
    exact zk_iret C hR kd_Pk_count_65 rfl rfl (zd_rIT e)
  replace e := zd_neg b2 e
  by_cases b3 : x1 = 2
  · replace e := zd_pos b3 e
    refine zk_tableIn (tgt := 66) C kd_Pk_count_1 (by rw [b3]; decide) (by rw [b3]; decide) (by rw [b3]; rfl) (by decide) ?_
    refine zk_aload_n C kd_Pk_count_66 rfl 0 rfl rfl ?_
    refine zs_get (v := .ref (S.1 58)) C 0 14 rfl rfl rfl rfl ki_Pk (by decide) kw633 kd_Pk_count_67 rfl ?_
    refine zs_get (v := .int (h.1 58 5)) C 58 5 rfl rfl rfl rfl ki_Mc (by decide) kw528 kd_Pk_count_70 rfl ?_
    exact zk_iret C hR kd_Pk_count_73 rfl rfl (zd_rIT e)
  replace e := zd_neg b3 e
  by_cases b4 : x1 = 3
  · replace e := zd_pos b4 e
    refine zk_tableIn (tgt := 74) C kd_Pk_count_1 (by rw [b4]; decide) (by rw [b4]; decide) (by rw [b4]; rfl) (by decide) ?_
    refine zk_aload_n C kd_Pk_count_74 rfl 0 rfl rfl ?_
    refine zs_get (v := .ref (S.1 58)) C 0 14 rfl rfl rfl rfl ki_Pk (by decide) kw633 kd_Pk_count_75 rfl ?_
    refine zs_get (v := .int (h.1 58 3)) C 58 3 rfl rfl rfl rfl ki_Mc (by decide) kw524 kd_Pk_count_78 rfl ?_
    refine zk_if_eq (tgt := 94) C kd_Pk_count_81 (by decide) rfl (fun b5 => ?_) (fun b5 => ?_)
    · replace e := zd_pos b5 e
      refine zk_iconst (v := 0) C kd_Pk_count_94 (by decide) rfl ?_
      exact zk_iret C hR kd_Pk_count_95 rfl rfl (zd_rIT e)
    · replace e := zd_neg b5 e
      refine zk_aload_n C kd_Pk_count_84 rfl 0 rfl rfl ?_
      refine zs_get (v := .ref (S.1 41)) C 0 11 rfl rfl rfl rfl ki_Pk (by decide) kw630 kd_Pk_count_85 rfl ?_
      refine zs_get (v := .int (h.1 41 5)) C 41 5 rfl rfl rfl rfl ki_Cd (by decide) kw417 kd_Pk_count_88 rfl ?_
      refine zk_goto (tgt := 95) C kd_Pk_count_91 (by decide) ?_
      exact zk_iret C hR kd_Pk_count_95 rfl rfl (zd_rIT e)
  replace e := zd_neg b4 e
  by_cases b6 : x1 = 4
  · replace e := zd_pos b6 e
    refine zk_tableIn (tgt := 96) C kd_Pk_count_1 (by rw [b6]; decide) (by rw [b6]; decide) (by rw [b6]; rfl) (by decide) ?_
    refine zk_aload_n C kd_Pk_count_96 rfl 0 rfl rfl ?_
    refine zs_get (v := .ref (S.1 58)) C 0 14 rfl rfl rfl rfl ki_Pk (by decide) kw633 kd_Pk_count_97 rfl ?_
    refine zs_get (v := .int (h.1 58 3)) C 58 3 rfl rfl rfl rfl ki_Mc (by decide) kw524 kd_Pk_count_100 rfl ?_
    refine zk_if_eq (tgt := 116) C kd_Pk_count_103 (by decide) rfl (fun b7 => ?_) (fun b7 => ?_)
    · replace e := zd_pos b7 e
      refine zk_iconst (v := 0) C kd_Pk_count_116 (by decide) rfl ?_
      exact zk_iret C hR kd_Pk_count_117 rfl rfl (zd_rIT e)
    · replace e := zd_neg b7 e
      refine zk_aload_n C kd_Pk_count_106 rfl 0 rfl rfl ?_
      refine zs_get (v := .ref (S.1 20)) C 0 9 rfl rfl rfl rfl ki_Pk (by decide) kw628 kd_Pk_count_107 rfl ?_
      refine zs_get (v := .int (h.1 20 20)) C 20 20 rfl rfl rfl rfl ki_Pl (by decide) kw300 kd_Pk_count_110 rfl ?_
      refine zk_goto (tgt := 117) C kd_Pk_count_113 (by decide) ?_
      exact zk_iret C hR kd_Pk_count_117 rfl rfl (zd_rIT e)
  replace e := zd_neg b6 e
  by_cases b8 : x1 = 5
  · replace e := zd_pos b8 e
    refine zk_tableIn (tgt := 118) C kd_Pk_count_1 (by rw [b8]; decide) (by rw [b8]; decide) (by rw [b8]; rfl) (by decide) ?_
    refine zk_aload_n C kd_Pk_count_118 rfl 0 rfl rfl ?_
    refine zs_get (v := .ref (S.1 58)) C 0 14 rfl rfl rfl rfl ki_Pk (by decide) kw633 kd_Pk_count_119 rfl ?_
    refine zs_get (v := .int (h.1 58 6)) C 58 6 rfl rfl rfl rfl ki_Mc (by decide) kw530 kd_Pk_count_122 rfl ?_
    exact zk_iret C hR kd_Pk_count_125 rfl rfl (zd_rIT e)
  replace e := zd_neg b8 e
  by_cases b9 : x1 = 6
  · replace e := zd_pos b9 e
    refine zk_tableIn (tgt := 126) C kd_Pk_count_1 (by rw [b9]; decide) (by rw [b9]; decide) (by rw [b9]; rfl) (by decide) ?_
    refine zk_aload_n C kd_Pk_count_126 rfl 0 rfl rfl ?_
    refine zs_get (v := .ref (S.1 58)) C 0 14 rfl rfl rfl rfl ki_Pk (by decide) kw633 kd_Pk_count_127 rfl ?_
    refine zs_get (v := .int (h.1 58 7)) C 58 7 rfl rfl rfl rfl ki_Mc (by decide) kw532 kd_Pk_count_130 rfl ?_
    exact zk_iret C hR kd_Pk_count_133 rfl rfl (zd_rIT e)
  replace e := zd_neg b9 e
  by_cases b10 : x1 = 7
  · replace e := zd_pos b10 e
    refine zk_tableIn (tgt := 134) C kd_Pk_count_1 (by rw [b10]; decide) (by rw [b10]; decide) (by rw [b10]; rfl) (by decide) ?_
    refine zk_aload_n C kd_Pk_count_134 rfl 0 rfl rfl ?_
    refine zs_get (v := .ref (S.1 58)) C 0 14 rfl rfl rfl rfl ki_Pk (by decide) kw633 kd_Pk_count_135 rfl ?_
    refine zs_get (v := .int (h.1 58 8)) C 58 8 rfl rfl rfl rfl ki_Mc (by decide) kw534 kd_Pk_count_138 rfl ?_
    exact zk_iret C hR kd_Pk_count_141 rfl rfl (zd_rIT e)
  replace e := zd_neg b10 e
  by_cases b11 : x1 = 8
  · replace e := zd_pos b11 e
    refine zk_tableIn (tgt := 142) C kd_Pk_count_1 (by rw [b11]; decide) (by rw [b11]; decide) (by rw [b11]; rfl) (by decide) ?_
    refine zk_aload_n C kd_Pk_count_142 rfl 0 rfl rfl ?_
    refine zs_get (v := .ref (S.1 58)) C 0 14 rfl rfl rfl rfl ki_Pk (by decide) kw633 kd_Pk_count_143 rfl ?_
    refine zs_get (v := .int (h.1 58 9)) C 58 9 rfl rfl rfl rfl ki_Mc (by decide) kw536 kd_Pk_count_146 rfl ?_
    exact zk_iret C hR kd_Pk_count_149 rfl rfl (zd_rIT e)
  replace e := zd_neg b11 e
  by_cases b12 : x1 = 9
  · replace e := zd_pos b12 e
    refine zk_tableIn (tgt := 150) C kd_Pk_count_1 (by rw [b12]; decide) (by rw [b12]; decide) (by rw [b12]; rfl) (by decide) ?_
    refine zk_aload_n C kd_Pk_count_150 rfl 0 rfl rfl ?_
    refine zs_get (v := .ref (S.1 58)) C 0 14 rfl rfl rfl rfl ki_Pk (by decide) kw633 kd_Pk_count_151 rfl ?_
    refine zs_get (v := .int (h.1 58 4)) C 58 4 rfl rfl rfl rfl ki_Mc (by decide) kw526 kd_Pk_count_154 rfl ?_
    refine zk_if_eq (tgt := 164) C kd_Pk_count_157 (by decide) rfl (fun b13 => ?_) (fun b13 => ?_)
    · replace e := zd_pos b13 e
      refine zk_iconst (v := 0) C kd_Pk_count_164 (by decide) rfl ?_
      exact zk_iret C hR kd_Pk_count_165 rfl rfl (zd_rIT e)
    · replace e := zd_neg b13 e
      refine zk_iconst (v := 1) C kd_Pk_count_160 (by decide) rfl ?_
      refine zk_goto (tgt := 165) C kd_Pk_count_161 (by decide) ?_
      exact zk_iret C hR kd_Pk_count_165 rfl rfl (zd_rIT e)
  replace e := zd_neg b12 e
  refine zk_tableOut (tgt := 166) C kd_Pk_count_1 (by have := lv_neT b1 (a := 0) (by decide); have := lv_neT b2 (a := 1) (by decide); have := lv_neT b3 (a := 2) (by decide); have := lv_neT b4 (a := 3) (by decide); have := lv_neT b6 (a := 4) (by decide); have := lv_neT b8 (a := 5) (by decide); have := lv_neT b9 (a := 6) (by decide); have := lv_neT b10 (a := 7) (by decide); have := lv_neT b11 (a := 8) (by decide); have := lv_neT b12 (a := 9) (by decide); omega) (by decide) ?_
  refine zk_iconst (v := (-1)) C kd_Pk_count_166 (by decide) rfl ?_
  exact zk_iret C hR kd_Pk_count_167 rfl rfl (zd_rIT e)
set_option maxHeartbeats 4000000 in
set_option maxRecDepth 100000 in
theorem zc_Pk_byteAt {l : Launch} {D : va_G} {sz0 : Nat} {S : zs_T} {P : ze_T} (h : zs_H) (x1 : Int32) {rv : Int32} (e : f_Pk_byteAt h x1 = some rv) : zk_Sp (zs_G S l D sz0) (ze_E P) km_Pk_byteAt { frames := 0, cells := 0, slots := 0, locals := 0 } [.ref (S.1 0), .int x1] (zs_W S h) (zd_PI S rv h) := by
  refine zk_met ku_Pk_byteAt (Nat.le_of_ble_eq_true rfl) (ze_Em P) ?_
  intro X C hR
  refine zk_lvs (lv' := [(0, .ref (S.1 0)), (1, .int x1)]) [0, 1] rfl ?_
  unfold f_Pk_byteAt at e
  refine zk_iload_n C kd_Pk_byteAt_0 rfl 1 rfl rfl ?_
  refine zk_if_lt (tgt := 15) C kd_Pk_byteAt_1 (by decide) rfl (fun b1 => ?_) (fun b1 => ?_)
  · replace e := zd_pos b1 e
    refine zk_iconst (v := (-1)) C kd_Pk_byteAt_15 (by decide) rfl ?_
    refine zk_goto (tgt := 32) C kd_Pk_byteAt_16 (by decide) ?_
    exact zk_iret C hR kd_Pk_byteAt_32 rfl rfl (zd_rIO e)
  · replace e := zd_neg b1 e
    refine zk_iload_n C kd_Pk_byteAt_4 rfl 1 rfl rfl ?_
    refine zk_aload_n C kd_Pk_byteAt_5 rfl 0 rfl rfl ?_
    refine zs_get (v := .ref (S.1 66)) C 0 15 rfl rfl rfl rfl ki_Pk (by decide) kw634 kd_Pk_byteAt_6 rfl ?_
    refine zs_get (v := .int (h.1 66 1)) C 66 1 rfl rfl rfl rfl ki_Ln (by decide) kw600 kd_Pk_byteAt_9 rfl ?_
    refine zk_icmp_lt (tgt := 19) C kd_Pk_byteAt_12 (by decide) rfl (fun b2 => ?_) (fun b2 => ?_)
    · replace e := zd_pos b2 e
      refine zk_aload_n C kd_Pk_byteAt_19 rfl 0 rfl rfl ?_
      refine zs_get (v := .ref (S.1 66)) C 0 15 rfl rfl rfl rfl ki_Pk (by decide) kw634 kd_Pk_byteAt_20 rfl ?_
      refine zs_get (v := .ref (S.1 67)) C 66 0 rfl rfl rfl rfl ki_Ln (by decide) kw598 kd_Pk_byteAt_23 rfl ?_
      refine zk_iload_n C kd_Pk_byteAt_26 rfl 1 rfl rfl ?_
      obtain ⟨q3, e⟩ := zd_g e
      refine zs_bald C 67 rfl (zd_vp q3) kd_Pk_byteAt_27 rfl ?_
      refine zk_sipush (v := 255) C kd_Pk_byteAt_28 (by decide) rfl ?_
      refine zk_iand C kd_Pk_byteAt_31 rfl ?_
      exact zk_iret C hR kd_Pk_byteAt_32 rfl rfl (zd_rIO e)
    · replace e := zd_neg b2 e
      refine zk_iconst (v := (-1)) C kd_Pk_byteAt_15 (by decide) rfl ?_
      refine zk_goto (tgt := 32) C kd_Pk_byteAt_16 (by decide) ?_
      exact zk_iret C hR kd_Pk_byteAt_32 rfl rfl (zd_rIO e)
set_option maxHeartbeats 4000000 in
set_option maxRecDepth 100000 in
theorem zc_Pk_station {l : Launch} {D : va_G} {sz0 : Nat} {S : zs_T} {P : ze_T} (h : zs_H) (x1 : Int32) {rv : Int32} {rh : zs_H} (e : f_Pk_station h x1 = some (rv, rh)) : zk_Sp (zs_G S l D sz0) (ze_E P) km_Pk_station { frames := 0, cells := 0, slots := 0, locals := 0 } [.ref (S.1 0), .int x1] (zs_W S h) (zd_PI S rv rh) := by
  refine zk_met ku_Pk_station (Nat.le_of_ble_eq_true rfl) (ze_Em P) ?_
  intro X C hR
  refine zk_lvs (lv' := [(0, .ref (S.1 0)), (1, .int x1)]) [0, 1] rfl ?_
  unfold f_Pk_station at e
  refine zk_iload_n C kd_Pk_station_0 rfl 1 rfl rfl ?_
  refine zk_iconst (v := 1) C kd_Pk_station_1 (by decide) rfl ?_
  refine zk_icmp_lt (tgt := 12) C kd_Pk_station_2 (by decide) rfl (fun b1 => ?_) (fun b1 => ?_)
  · replace e := zd_pos b1 e
    refine zk_iconst (v := (-1)) C kd_Pk_station_12 (by decide) rfl ?_
    exact zk_iret C hR kd_Pk_station_13 rfl rfl (zd_rIS e)
  · replace e := zd_neg b1 e
    refine zk_iload_n C kd_Pk_station_5 rfl 1 rfl rfl ?_
    refine zk_sipush (v := 247) C kd_Pk_station_6 (by decide) rfl ?_
    refine zk_icmp_le (tgt := 14) C kd_Pk_station_9 (by decide) rfl (fun b2 => ?_) (fun b2 => ?_)
    · replace e := zd_pos b2 e
      refine zk_aload_n C kd_Pk_station_14 rfl 0 rfl rfl ?_
      refine zs_get (v := .ref (S.1 66)) C 0 15 rfl rfl rfl rfl ki_Pk (by decide) kw634 kd_Pk_station_15 rfl ?_
      refine zs_get (v := .int (h.1 66 2)) C 66 2 rfl rfl rfl rfl ki_Ln (by decide) kw602 kd_Pk_station_18 rfl ?_
      refine zk_istore_n (lv' := [(2, _), (0, _), (1, _)]) C kd_Pk_station_21 rfl (by decide) rfl rfl ?_
      refine zk_aload_n C kd_Pk_station_22 rfl 1 rfl rfl ?_
      refine zs_get (v := .ref (S.1 66)) C 0 15 rfl rfl rfl rfl ki_Pk (by decide) kw634 kd_Pk_station_23 rfl ?_
      refine zk_iload_n C kd_Pk_station_26 rfl 2 rfl rfl ?_
      refine zs_put (ty := .int) C 66 2 x1 rfl rfl rfl rfl ki_Ln ky_Ln ko_Ln kn_Ln (by decide) kw602 rfl rfl rfl rfl (by decide) kd_Pk_station_27 rfl ?_
      refine zk_iload_n C kd_Pk_station_30 rfl 0 rfl rfl ?_
      exact zk_iret C hR kd_Pk_station_31 rfl rfl (zd_rIS e)
    · replace e := zd_neg b2 e
      refine zk_iconst (v := (-1)) C kd_Pk_station_12 (by decide) rfl ?_
      exact zk_iret C hR kd_Pk_station_13 rfl rfl (zd_rIS e)
set_option maxHeartbeats 4000000 in
set_option maxRecDepth 100000 in
theorem zb_Ln_checkSum_c1_54 {X : zkj_T} {S : zs_T} {P : ze_T} {l : Launch} {D : va_G} {sz0 : Nat} {rv : Int32} {h : zs_H} (C : zk_C X km_Ln_checkSum (zs_G S l D sz0) { frames := 0, cells := 0, slots := 0, locals := 0 } (ze_E P)) (hR : zkj_R X (zd_PI S rv h) (some .int)) {k5 : Int32 → Int32 → Int32 → (Option Int32)} (hk5 : ∀ (x1 : Int32) (x2 : Int32) (x3 : Int32), k5 x1 x2 x3 = some rv → zk_Ab X (zs_W S h) 0 0 5 [(0, .ref (S.1 1)), (1, .int x1), (2, .int x2), (3, .int x3)] []) {k29 : Int32 → Int32 → Int32 → Int32 → (Option Int32)} (hk29 : ∀ (x1 : Int32) (x2 : Int32) (x3 : Int32) (x4 : Int32), k29 x1 x2 x3 x4 = some rv → zk_Ab X (zs_W S h) 0 0 29 [(0, .ref (S.1 1)), (1, .int x1), (2, .int x2), (3, .int x3), (4, .int x4)] []) (x1 : Int32) (x3 : Int32) (x4 : Int32) (y0 : Int32) (e : f_Ln_checkSum_c1_54 h k5 k29 x1 x3 x4 y0 = some rv) : zk_Ab X (zs_W S h) 0 0 54 [(0, .ref (S.1 1)), (1, .int x1), (3, .int x3), (4, .int x4)] [.int y0] := by
  unfold f_Ln_checkSum_c1_54 at e
  refine zk_istore_n (lv' := [(2, _), (0, _), (1, _), (3, _), (4, _)]) C kd_Ln_checkSum_54 rfl (by decide) rfl rfl ?_
  refine zk_iinc (v := (x4 + 1)) (lv' := [(4, _), (2, _), (0, _), (1, _), (3, _)]) C kd_Ln_checkSum_55 4 rfl rfl (by decide) rfl rfl ?_
  refine zk_goto (tgt := 29) C kd_Ln_checkSum_58 (by decide) ?_
  refine zk_lvs (lv' := [(0, .ref (S.1 1)), (1, .int x1), (2, .int y0), (3, .int x3), (4, .int (x4 + 1))]) [2, 3, 1, 4, 0] rfl ?_
  exact hk29 x1 y0 x3 (x4 + 1) e
set_option maxHeartbeats 4000000 in
set_option maxRecDepth 100000 in
theorem zb_Ln_checkSum_c1_29 {X : zkj_T} {S : zs_T} {P : ze_T} {l : Launch} {D : va_G} {sz0 : Nat} {rv : Int32} {h : zs_H} (C : zk_C X km_Ln_checkSum (zs_G S l D sz0) { frames := 0, cells := 0, slots := 0, locals := 0 } (ze_E P)) (hR : zkj_R X (zd_PI S rv h) (some .int)) {k5 : Int32 → Int32 → Int32 → (Option Int32)} (hk5 : ∀ (x1 : Int32) (x2 : Int32) (x3 : Int32), k5 x1 x2 x3 = some rv → zk_Ab X (zs_W S h) 0 0 5 [(0, .ref (S.1 1)), (1, .int x1), (2, .int x2), (3, .int x3)] []) {k29 : Int32 → Int32 → Int32 → Int32 → (Option Int32)} (hk29 : ∀ (x1 : Int32) (x2 : Int32) (x3 : Int32) (x4 : Int32), k29 x1 x2 x3 x4 = some rv → zk_Ab X (zs_W S h) 0 0 29 [(0, .ref (S.1 1)), (1, .int x1), (2, .int x2), (3, .int x3), (4, .int x4)] []) (x1 : Int32) (x2 : Int32) (x3 : Int32) (x4 : Int32) (e : f_Ln_checkSum_c1_29 h k5 k29 x1 x2 x3 x4 = some rv) : zk_Ab X (zs_W S h) 0 0 29 [(0, .ref (S.1 1)), (1, .int x1), (2, .int x2), (3, .int x3), (4, .int x4)] [] := by
  unfold f_Ln_checkSum_c1_29 at e
  refine zk_iload C kd_Ln_checkSum_29 4 rfl rfl ?_
  refine zk_bipush (v := 8) C kd_Ln_checkSum_31 (by decide) rfl ?_
  refine zk_icmp_ge (tgt := 61) C kd_Ln_checkSum_33 (by decide) rfl (fun b1 => ?_) (fun b1 => ?_)
  · replace e := zd_pos b1 e
    refine zk_iinc (v := (x3 + 1)) (lv' := [(3, _), (0, _), (1, _), (2, _), (4, _)]) C kd_Ln_checkSum_61 3 rfl rfl (by decide) rfl rfl ?_
    refine zk_goto (tgt := 5) C kd_Ln_checkSum_64 (by decide) ?_
    refine zk_lvs (lv' := [(0, .ref (S.1 1)), (1, .int x1), (2, .int x2), (3, .int (x3 + 1))]) [1, 2, 3, 0] rfl ?_
    exact hk5 x1 x2 (x3 + 1) e
  · replace e := zd_neg b1 e
    refine zk_iload_n C kd_Ln_checkSum_36 rfl 2 rfl rfl ?_
    refine zk_iconst (v := 1) C kd_Ln_checkSum_37 (by decide) rfl ?_
    refine zk_iand C kd_Ln_checkSum_38 rfl ?_
    refine zk_if_ne (tgt := 48) C kd_Ln_checkSum_39 (by decide) rfl (fun b2 => ?_) (fun b2 => ?_)
    · replace e := zd_neg b2 e
      refine zk_iload_n C kd_Ln_checkSum_48 rfl 2 rfl rfl ?_
      refine zk_iconst (v := 1) C kd_Ln_checkSum_49 (by decide) rfl ?_
      refine zk_ishr C kd_Ln_checkSum_50 rfl ?_
      refine zk_ldc (v := 40961) C kw1615 kd_Ln_checkSum_51 rfl ?_
      refine zk_ixor C kd_Ln_checkSum_53 rfl ?_
      refine zk_lvs (lv' := [(0, .ref (S.1 1)), (1, .int x1), (3, .int x3), (4, .int x4)]) [0, 1, 3, 4] rfl ?_
      exact zb_Ln_checkSum_c1_54 C hR hk5 hk29 x1 x3 x4 ((x2 >>> ((1 : Int32) &&& 31)) ^^^ 40961) e
    · replace e := zd_pos b2 e
      refine zk_iload_n C kd_Ln_checkSum_42 rfl 2 rfl rfl ?_
      refine zk_iconst (v := 1) C kd_Ln_checkSum_43 (by decide) rfl ?_
      refine zk_ishr C kd_Ln_checkSum_44 rfl ?_
      refine zk_goto (tgt := 54) C kd_Ln_checkSum_45 (by decide) ?_
      refine zk_lvs (lv' := [(0, .ref (S.1 1)), (1, .int x1), (3, .int x3), (4, .int x4)]) [0, 1, 3, 4] rfl ?_
      exact zb_Ln_checkSum_c1_54 C hR hk5 hk29 x1 x3 x4 (x2 >>> ((1 : Int32) &&& 31)) e
theorem zl_Ln_checkSum_c1_29 {X : zkj_T} {S : zs_T} {P : ze_T} {l : Launch} {D : va_G} {sz0 : Nat} {rv : Int32} {h : zs_H} (C : zk_C X km_Ln_checkSum (zs_G S l D sz0) { frames := 0, cells := 0, slots := 0, locals := 0 } (ze_E P)) (hR : zkj_R X (zd_PI S rv h) (some .int)) {k5 : Int32 → Int32 → Int32 → (Option Int32)} (hk5 : ∀ (x1 : Int32) (x2 : Int32) (x3 : Int32), k5 x1 x2 x3 = some rv → zk_Ab X (zs_W S h) 0 0 5 [(0, .ref (S.1 1)), (1, .int x1), (2, .int x2), (3, .int x3)] []) (n : Nat) : ∀ (x1 : Int32) (x2 : Int32) (x3 : Int32) (x4 : Int32), f_Ln_checkSum_c1_L29 h k5 n x1 x2 x3 x4 = some rv → zk_Ab X (zs_W S h) 0 0 29 [(0, .ref (S.1 1)), (1, .int x1), (2, .int x2), (3, .int x3), (4, .int x4)] [] := by
  induction n with
  | zero => intro x1 x2 x3 x4 e; exact zd_no e
  | succ n ih => intro x1 x2 x3 x4 e; exact zb_Ln_checkSum_c1_29 (k29 := f_Ln_checkSum_c1_L29 h k5 n) C hR hk5 ih x1 x2 x3 x4 e
set_option maxHeartbeats 4000000 in
set_option maxRecDepth 100000 in
theorem zb_Ln_checkSum_c1_5 {X : zkj_T} {S : zs_T} {P : ze_T} {l : Launch} {D : va_G} {sz0 : Nat} {rv : Int32} {h : zs_H} (C : zk_C X km_Ln_checkSum (zs_G S l D sz0) { frames := 0, cells := 0, slots := 0, locals := 0 } (ze_E P)) (hR : zkj_R X (zd_PI S rv h) (some .int)) {k5 : Int32 → Int32 → Int32 → (Option Int32)} (hk5 : ∀ (x1 : Int32) (x2 : Int32) (x3 : Int32), k5 x1 x2 x3 = some rv → zk_Ab X (zs_W S h) 0 0 5 [(0, .ref (S.1 1)), (1, .int x1), (2, .int x2), (3, .int x3)] []) (x1 : Int32) (x2 : Int32) (x3 : Int32) (e : f_Ln_checkSum_c1_5 h k5 x1 x2 x3 = some rv) : zk_Ab X (zs_W S h) 0 0 5 [(0, .ref (S.1 1)), (1, .int x1), (2, .int x2), (3, .int x3)] [] := by
  unfold f_Ln_checkSum_c1_5 at e
  refine zk_iload_n C kd_Ln_checkSum_5 rfl 3 rfl rfl ?_
  refine zk_iload_n C kd_Ln_checkSum_6 rfl 1 rfl rfl ?_
  refine zk_icmp_ge (tgt := 67) C kd_Ln_checkSum_7 (by decide) rfl (fun b1 => ?_) (fun b1 => ?_)
  · replace e := zd_pos b1 e
    refine zk_iload_n C kd_Ln_checkSum_67 rfl 2 rfl rfl ?_
    exact zk_iret C hR kd_Ln_checkSum_68 rfl rfl (zd_rIO e)
  · replace e := zd_neg b1 e
    refine zk_iload_n C kd_Ln_checkSum_10 rfl 3 rfl rfl ?_
    refine zk_aload_n C kd_Ln_checkSum_11 rfl 0 rfl rfl ?_
    refine zs_alen (v := 16384) C 1 rfl (by decide) rfl kd_Ln_checkSum_12 rfl ?_
    refine zk_icmp_ge (tgt := 67) C kd_Ln_checkSum_13 (by decide) rfl (fun b2 => ?_) (fun b2 => ?_)
    · replace e := zd_pos b2 e
      refine zk_iload_n C kd_Ln_checkSum_67 rfl 2 rfl rfl ?_
      exact zk_iret C hR kd_Ln_checkSum_68 rfl rfl (zd_rIO e)
    · replace e := zd_neg b2 e
      refine zk_iload_n C kd_Ln_checkSum_16 rfl 2 rfl rfl ?_
      refine zk_aload_n C kd_Ln_checkSum_17 rfl 0 rfl rfl ?_
      refine zk_iload_n C kd_Ln_checkSum_18 rfl 3 rfl rfl ?_
      obtain ⟨q3, e⟩ := zd_g e
      refine zs_bald C 1 rfl (zd_vp q3) kd_Ln_checkSum_19 rfl ?_
      refine zk_sipush (v := 255) C kd_Ln_checkSum_20 (by decide) rfl ?_
      refine zk_iand C kd_Ln_checkSum_23 rfl ?_
      refine zk_ixor C kd_Ln_checkSum_24 rfl ?_
      refine zk_istore_n (lv' := [(2, _), (0, _), (1, _), (3, _)]) C kd_Ln_checkSum_25 rfl (by decide) rfl rfl ?_
      refine zk_iconst (v := 0) C kd_Ln_checkSum_26 (by decide) rfl ?_
      refine zk_istore (lv' := [(4, _), (2, _), (0, _), (1, _), (3, _)]) C kd_Ln_checkSum_27 (by decide) rfl rfl ?_
      refine zk_lvs (lv' := [(0, .ref (S.1 1)), (1, .int x1), (2, .int (x2 ^^^ ((h.2.1 1 x3.toNatClampNeg) &&& 255))), (3, .int x3), (4, .int 0)]) [2, 3, 1, 4, 0] rfl ?_
      exact zl_Ln_checkSum_c1_29 C hR hk5 zF x1 (x2 ^^^ ((h.2.1 1 x3.toNatClampNeg) &&& 255)) x3 0 e
theorem zl_Ln_checkSum_c1_5 {X : zkj_T} {S : zs_T} {P : ze_T} {l : Launch} {D : va_G} {sz0 : Nat} {rv : Int32} {h : zs_H} (C : zk_C X km_Ln_checkSum (zs_G S l D sz0) { frames := 0, cells := 0, slots := 0, locals := 0 } (ze_E P)) (hR : zkj_R X (zd_PI S rv h) (some .int)) (n : Nat) : ∀ (x1 : Int32) (x2 : Int32) (x3 : Int32), f_Ln_checkSum_c1_L5 h n x1 x2 x3 = some rv → zk_Ab X (zs_W S h) 0 0 5 [(0, .ref (S.1 1)), (1, .int x1), (2, .int x2), (3, .int x3)] [] := by
  induction n with
  | zero => intro x1 x2 x3 e; exact zd_no e
  | succ n ih => intro x1 x2 x3 e; exact zb_Ln_checkSum_c1_5 (k5 := f_Ln_checkSum_c1_L5 h n) C hR ih x1 x2 x3 e
set_option maxHeartbeats 4000000 in
set_option maxRecDepth 100000 in
theorem zc_Ln_checkSum_c1 {l : Launch} {D : va_G} {sz0 : Nat} {S : zs_T} {P : ze_T} (h : zs_H) (x1 : Int32) {rv : Int32} (e : f_Ln_checkSum_c1 h x1 = some rv) : zk_Sp (zs_G S l D sz0) (ze_E P) km_Ln_checkSum { frames := 0, cells := 0, slots := 0, locals := 0 } [.ref (S.1 1), .int x1] (zs_W S h) (zd_PI S rv h) := by
  refine zk_met ku_Ln_checkSum (Nat.le_of_ble_eq_true rfl) (ze_Em P) ?_
  intro X C hR
  refine zk_lvs (lv' := [(0, .ref (S.1 1)), (1, .int x1)]) [0, 1] rfl ?_
  unfold f_Ln_checkSum_c1 at e
  refine zk_ldc (v := 65535) C kw1614 kd_Ln_checkSum_0 rfl ?_
  refine zk_istore_n (lv' := [(2, _), (0, _), (1, _)]) C kd_Ln_checkSum_2 rfl (by decide) rfl rfl ?_
  refine zk_iconst (v := 0) C kd_Ln_checkSum_3 (by decide) rfl ?_
  refine zk_istore_n (lv' := [(3, _), (2, _), (0, _), (1, _)]) C kd_Ln_checkSum_4 rfl (by decide) rfl rfl ?_
  refine zk_lvs (lv' := [(0, .ref (S.1 1)), (1, .int x1), (2, .int 65535), (3, .int 0)]) [2, 3, 1, 0] rfl ?_
  exact zl_Ln_checkSum_c1_5 C hR zF x1 65535 0 e
set_option maxHeartbeats 4000000 in
set_option maxRecDepth 100000 in
theorem zc_Ln_data {l : Launch} {D : va_G} {sz0 : Nat} {S : zs_T} {P : ze_T} (h : zs_H) (x1 : Int32) {rv : Int32} (e : f_Ln_data h x1 = some rv) : zk_Sp (zs_G S l D sz0) (ze_E P) km_Ln_data { frames := 0, cells := 0, slots := 0, locals := 0 } [.ref (S.1 66), .int x1] (zs_W S h) (zd_PI S rv h) := by
  refine zk_met ku_Ln_data (Nat.le_of_ble_eq_true rfl) (ze_Em P) ?_
  intro X C hR
  refine zk_lvs (lv' := [(0, .ref (S.1 66)), (1, .int x1)]) [0, 1] rfl ?_
  unfold f_Ln_data at e
  refine zk_iload_n C kd_Ln_data_0 rfl 1 rfl rfl ?_
  refine zk_if_lt (tgt := 27) C kd_Ln_data_1 (by decide) rfl (fun b1 => ?_) (fun b1 => ?_)
  · replace e := zd_pos b1 e
    refine zk_iconst (v := 0) C kd_Ln_data_27 (by decide) rfl ?_
    exact zk_iret C hR kd_Ln_data_28 rfl rfl (zd_rIO e)
  · replace e := zd_neg b1 e
    refine zk_iload_n C kd_Ln_data_4 rfl 1 rfl rfl ?_
    refine zk_aload_n C kd_Ln_data_5 rfl 0 rfl rfl ?_
    refine zs_get (v := .int (h.1 66 5)) C 66 5 rfl rfl rfl rfl ki_Ln (by decide) kw605 kd_Ln_data_6 rfl ?_
    refine zk_icmp_ge (tgt := 27) C kd_Ln_data_9 (by decide) rfl (fun b2 => ?_) (fun b2 => ?_)
    · replace e := zd_pos b2 e
      refine zk_iconst (v := 0) C kd_Ln_data_27 (by decide) rfl ?_
      exact zk_iret C hR kd_Ln_data_28 rfl rfl (zd_rIO e)
    · replace e := zd_neg b2 e
      refine zk_aload_n C kd_Ln_data_12 rfl 0 rfl rfl ?_
      obtain ⟨q3, e⟩ := zd_gn e
      refine zs_get (v := .ref (S.1 1)) C 66 4 rfl rfl (zd_ref q3) rfl ki_Ln (by decide) kw604 kd_Ln_data_13 rfl ?_
      refine zk_iconst (v := 2) C kd_Ln_data_16 (by decide) rfl ?_
      refine zk_iload_n C kd_Ln_data_17 rfl 1 rfl rfl ?_
      refine zk_iadd C kd_Ln_data_18 rfl ?_
      obtain ⟨q4, e⟩ := zd_g e
      refine zs_bald C 1 rfl (zd_vp q4) kd_Ln_data_19 rfl ?_
      refine zk_sipush (v := 255) C kd_Ln_data_20 (by decide) rfl ?_
      refine zk_iand C kd_Ln_data_23 rfl ?_
      refine zk_goto (tgt := 28) C kd_Ln_data_24 (by decide) ?_
      exact zk_iret C hR kd_Ln_data_28 rfl rfl (zd_rIO e)
set_option maxHeartbeats 4000000 in
set_option maxRecDepth 100000 in
theorem zc_Ln_number {l : Launch} {D : va_G} {sz0 : Nat} {S : zs_T} {P : ze_T} (h : zs_H) (x1 : Int32) {rv : Int32} (e : f_Ln_number h x1 = some rv) : zk_Sp (zs_G S l D sz0) (ze_E P) km_Ln_number { frames := 1, cells := 0, slots := 0, locals := 21 } [.ref (S.1 66), .int x1] (zs_W S h) (zd_PI S rv h) := by
  refine zk_met ku_Ln_number (Nat.le_of_ble_eq_true rfl) (ze_Em P) ?_
  intro X C hR
  refine zk_lvs (lv' := [(0, .ref (S.1 66)), (1, .int x1)]) [0, 1] rfl ?_
  unfold f_Ln_number at e
  refine zk_sipush (v := 256) C kd_Ln_number_0 (by decide) rfl ?_
  refine zk_aload_n C kd_Ln_number_3 rfl 0 rfl rfl ?_
  refine zk_iload_n C kd_Ln_number_4 rfl 1 rfl rfl ?_
  obtain ⟨v2, c1, e⟩ := zd_b e
  refine zs_callV (k := 66) (rn := { frames := 0, cells := 0, slots := 0, locals := 0 }) (As := [.int x1]) (rest := [.int 256]) C (zc_Ln_data h x1 c1) ku_Ln_data kw1620 kv_Ln_data rfl ⟨by decide, by decide⟩ ⟨by decide, by decide⟩ rfl rfl rfl (Nat.le_of_ble_eq_true rfl) kd_Ln_number_5 rfl (c1 := 0) (s1 := 0) rfl rfl (fun v w hp => ?_)
  obtain ⟨rfl, rfl⟩ := hp
  refine zk_stk (r' := [.int v2, .int 256]) rfl ?_
  refine zk_imul C kd_Ln_number_8 rfl ?_
  refine zk_aload_n C kd_Ln_number_9 rfl 0 rfl rfl ?_
  refine zk_iload_n C kd_Ln_number_10 rfl 1 rfl rfl ?_
  refine zk_iconst (v := 1) C kd_Ln_number_11 (by decide) rfl ?_
  refine zk_iadd C kd_Ln_number_12 rfl ?_
  obtain ⟨v4, c3, e⟩ := zd_b e
  refine zs_callV (k := 66) (rn := { frames := 0, cells := 0, slots := 0, locals := 0 }) (As := [.int (x1 + 1)]) (rest := [.int (256 * v2)]) C (zc_Ln_data h (x1 + 1) c3) ku_Ln_data kw1620 kv_Ln_data rfl ⟨by decide, by decide⟩ ⟨by decide, by decide⟩ rfl rfl rfl (Nat.le_of_ble_eq_true rfl) kd_Ln_number_13 rfl (c1 := 0) (s1 := 0) rfl rfl (fun v w hp => ?_)
  obtain ⟨rfl, rfl⟩ := hp
  refine zk_stk (r' := [.int v4, .int (256 * v2)]) rfl ?_
  refine zk_iadd C kd_Ln_number_16 rfl ?_
  exact zk_iret C hR kd_Ln_number_17 rfl rfl (zd_rIO e)
set_option maxHeartbeats 4000000 in
set_option maxRecDepth 100000 in
theorem zc_Ln_isNumberFor {l : Launch} {D : va_G} {sz0 : Nat} {S : zs_T} {P : ze_T} (h : zs_H) (x1 : Int32) (x2 : Int32) {rv : Int32} (e : f_Ln_isNumberFor h x1 x2 = some rv) : zk_Sp (zs_G S l D sz0) (ze_E P) km_Ln_isNumberFor { frames := 1, cells := 0, slots := 0, locals := 21 } [.ref (S.1 66), .int x1, .int x2] (zs_W S h) (zd_PZ S rv h) := by
  refine zk_met ku_Ln_isNumberFor (Nat.le_of_ble_eq_true rfl) (ze_Em P) ?_
  intro X C hR
  refine zk_lvs (lv' := [(0, .ref (S.1 66)), (1, .int x1), (2, .int x2)]) [0, 1, 2] rfl ?_
  unfold f_Ln_isNumberFor at e
  refine zk_iload_n C kd_Ln_isNumberFor_0 rfl 1 rfl rfl ?_
  by_cases b1 : x1 = 1
  · replace e := zd_pos b1 e
    refine zk_tableIn (tgt := 80) C kd_Ln_isNumberFor_1 (by rw [b1]; decide) (by rw [b1]; decide) (by rw [b1]; rfl) (by decide) ?_
    refine zk_iload_n C kd_Ln_isNumberFor_80 rfl 2 rfl rfl ?_
    refine zk_iconst (v := 1) C kd_Ln_isNumberFor_81 (by decide) rfl ?_
    refine zk_icmp_lt (tgt := 96) C kd_Ln_isNumberFor_82 (by decide) rfl (fun b2 => ?_) (fun b2 => ?_)
    · replace e := zd_pos b2 e
      refine zk_iconst (v := 0) C kd_Ln_isNumberFor_96 (by decide) rfl ?_
      exact zk_zret C hR (zd_nb (Or.inl rfl)) kd_Ln_isNumberFor_97 rfl rfl (zd_rZO (Or.inl rfl) e)
    · replace e := zd_neg b2 e
      refine zk_iload_n C kd_Ln_isNumberFor_85 rfl 2 rfl rfl ?_
      refine zk_sipush (v := 2000) C kd_Ln_isNumberFor_86 (by decide) rfl ?_
      refine zk_icmp_gt (tgt := 96) C kd_Ln_isNumberFor_89 (by decide) rfl (fun b3 => ?_) (fun b3 => ?_)
      · replace e := zd_pos b3 e
        refine zk_iconst (v := 0) C kd_Ln_isNumberFor_96 (by decide) rfl ?_
        exact zk_zret C hR (zd_nb (Or.inl rfl)) kd_Ln_isNumberFor_97 rfl rfl (zd_rZO (Or.inl rfl) e)
      · replace e := zd_neg b3 e
        refine zk_iconst (v := 1) C kd_Ln_isNumberFor_92 (by decide) rfl ?_
        refine zk_goto (tgt := 97) C kd_Ln_isNumberFor_93 (by decide) ?_
        exact zk_zret C hR (zd_nb (Or.inr rfl)) kd_Ln_isNumberFor_97 rfl rfl (zd_rZO (Or.inr rfl) e)
  replace e := zd_neg b1 e
  by_cases b4 : x1 = 2
  · replace e := zd_pos b4 e
    refine zk_tableIn (tgt := 80) C kd_Ln_isNumberFor_1 (by rw [b4]; decide) (by rw [b4]; decide) (by rw [b4]; rfl) (by decide) ?_
    refine zk_iload_n C kd_Ln_isNumberFor_80 rfl 2 rfl rfl ?_
    refine zk_iconst (v := 1) C kd_Ln_isNumberFor_81 (by decide) rfl ?_
    refine zk_icmp_lt (tgt := 96) C kd_Ln_isNumberFor_82 (by decide) rfl (fun b5 => ?_) (fun b5 => ?_)
    · replace e := zd_pos b5 e
      refine zk_iconst (v := 0) C kd_Ln_isNumberFor_96 (by decide) rfl ?_
      exact zk_zret C hR (zd_nb (Or.inl rfl)) kd_Ln_isNumberFor_97 rfl rfl (zd_rZO (Or.inl rfl) e)
    · replace e := zd_neg b5 e
      refine zk_iload_n C kd_Ln_isNumberFor_85 rfl 2 rfl rfl ?_
      refine zk_sipush (v := 2000) C kd_Ln_isNumberFor_86 (by decide) rfl ?_
      refine zk_icmp_gt (tgt := 96) C kd_Ln_isNumberFor_89 (by decide) rfl (fun b6 => ?_) (fun b6 => ?_)
      · replace e := zd_pos b6 e
        refine zk_iconst (v := 0) C kd_Ln_isNumberFor_96 (by decide) rfl ?_
        exact zk_zret C hR (zd_nb (Or.inl rfl)) kd_Ln_isNumberFor_97 rfl rfl (zd_rZO (Or.inl rfl) e)
      · replace e := zd_neg b6 e
        refine zk_iconst (v := 1) C kd_Ln_isNumberFor_92 (by decide) rfl ?_
        refine zk_goto (tgt := 97) C kd_Ln_isNumberFor_93 (by decide) ?_
        exact zk_zret C hR (zd_nb (Or.inr rfl)) kd_Ln_isNumberFor_97 rfl rfl (zd_rZO (Or.inr rfl) e)
  replace e := zd_neg b4 e
  by_cases b7 : x1 = 3
  · replace e := zd_pos b7 e
    refine zk_tableIn (tgt := 98) C kd_Ln_isNumberFor_1 (by rw [b7]; decide) (by rw [b7]; decide) (by rw [b7]; rfl) (by decide) ?_
    refine zk_iload_n C kd_Ln_isNumberFor_98 rfl 2 rfl rfl ?_
    refine zk_iconst (v := 1) C kd_Ln_isNumberFor_99 (by decide) rfl ?_
    refine zk_icmp_lt (tgt := 113) C kd_Ln_isNumberFor_100 (by decide) rfl (fun b8 => ?_) (fun b8 => ?_)
    · replace e := zd_pos b8 e
      refine zk_iconst (v := 0) C kd_Ln_isNumberFor_113 (by decide) rfl ?_
      exact zk_zret C hR (zd_nb (Or.inl rfl)) kd_Ln_isNumberFor_114 rfl rfl (zd_rZO (Or.inl rfl) e)
    · replace e := zd_neg b8 e
      refine zk_iload_n C kd_Ln_isNumberFor_103 rfl 2 rfl rfl ?_
      refine zk_bipush (v := 125) C kd_Ln_isNumberFor_104 (by decide) rfl ?_
      refine zk_icmp_gt (tgt := 113) C kd_Ln_isNumberFor_106 (by decide) rfl (fun b9 => ?_) (fun b9 => ?_)
      · replace e := zd_pos b9 e
        refine zk_iconst (v := 0) C kd_Ln_isNumberFor_113 (by decide) rfl ?_
        exact zk_zret C hR (zd_nb (Or.inl rfl)) kd_Ln_isNumberFor_114 rfl rfl (zd_rZO (Or.inl rfl) e)
      · replace e := zd_neg b9 e
        refine zk_iconst (v := 1) C kd_Ln_isNumberFor_109 (by decide) rfl ?_
        refine zk_goto (tgt := 114) C kd_Ln_isNumberFor_110 (by decide) ?_
        exact zk_zret C hR (zd_nb (Or.inr rfl)) kd_Ln_isNumberFor_114 rfl rfl (zd_rZO (Or.inr rfl) e)
  replace e := zd_neg b7 e
  by_cases b10 : x1 = 4
  · replace e := zd_pos b10 e
    refine zk_tableIn (tgt := 98) C kd_Ln_isNumberFor_1 (by rw [b10]; decide) (by rw [b10]; decide) (by rw [b10]; rfl) (by decide) ?_
    refine zk_iload_n C kd_Ln_isNumberFor_98 rfl 2 rfl rfl ?_
    refine zk_iconst (v := 1) C kd_Ln_isNumberFor_99 (by decide) rfl ?_
    refine zk_icmp_lt (tgt := 113) C kd_Ln_isNumberFor_100 (by decide) rfl (fun b11 => ?_) (fun b11 => ?_)
    · replace e := zd_pos b11 e
      refine zk_iconst (v := 0) C kd_Ln_isNumberFor_113 (by decide) rfl ?_
      exact zk_zret C hR (zd_nb (Or.inl rfl)) kd_Ln_isNumberFor_114 rfl rfl (zd_rZO (Or.inl rfl) e)
    · replace e := zd_neg b11 e
      refine zk_iload_n C kd_Ln_isNumberFor_103 rfl 2 rfl rfl ?_
      refine zk_bipush (v := 125) C kd_Ln_isNumberFor_104 (by decide) rfl ?_
      refine zk_icmp_gt (tgt := 113) C kd_Ln_isNumberFor_106 (by decide) rfl (fun b12 => ?_) (fun b12 => ?_)
      · replace e := zd_pos b12 e
        refine zk_iconst (v := 0) C kd_Ln_isNumberFor_113 (by decide) rfl ?_
        exact zk_zret C hR (zd_nb (Or.inl rfl)) kd_Ln_isNumberFor_114 rfl rfl (zd_rZO (Or.inl rfl) e)
      · replace e := zd_neg b12 e
        refine zk_iconst (v := 1) C kd_Ln_isNumberFor_109 (by decide) rfl ?_
        refine zk_goto (tgt := 114) C kd_Ln_isNumberFor_110 (by decide) ?_
        exact zk_zret C hR (zd_nb (Or.inr rfl)) kd_Ln_isNumberFor_114 rfl rfl (zd_rZO (Or.inr rfl) e)
  replace e := zd_neg b10 e
  by_cases b13 : x1 = 5
  · replace e := zd_pos b13 e
    refine zk_tableIn (tgt := 115) C kd_Ln_isNumberFor_1 (by rw [b13]; decide) (by rw [b13]; decide) (by rw [b13]; rfl) (by decide) ?_
    refine zk_iload_n C kd_Ln_isNumberFor_115 rfl 2 rfl rfl ?_
    refine zk_if_eq (tgt := 125) C kd_Ln_isNumberFor_116 (by decide) rfl (fun b14 => ?_) (fun b14 => ?_)
    · replace e := zd_pos b14 e
      refine zk_iconst (v := 1) C kd_Ln_isNumberFor_125 (by decide) rfl ?_
      refine zk_goto (tgt := 130) C kd_Ln_isNumberFor_126 (by decide) ?_
      exact zk_zret C hR (zd_nb (Or.inr rfl)) kd_Ln_isNumberFor_130 rfl rfl (zd_rZO (Or.inr rfl) e)
    · replace e := zd_neg b14 e
      refine zk_iload_n C kd_Ln_isNumberFor_119 rfl 2 rfl rfl ?_
      refine zk_ldc (v := 65280) C kw1632 kd_Ln_isNumberFor_120 rfl ?_
      refine zk_icmp_ne (tgt := 129) C kd_Ln_isNumberFor_122 (by decide) rfl (fun b15 => ?_) (fun b15 => ?_)
      · replace e := zd_neg b15 e
        refine zk_iconst (v := 0) C kd_Ln_isNumberFor_129 (by decide) rfl ?_
        exact zk_zret C hR (zd_nb (Or.inl rfl)) kd_Ln_isNumberFor_130 rfl rfl (zd_rZO (Or.inl rfl) e)
      · replace e := zd_pos b15 e
        refine zk_iconst (v := 1) C kd_Ln_isNumberFor_125 (by decide) rfl ?_
        refine zk_goto (tgt := 130) C kd_Ln_isNumberFor_126 (by decide) ?_
        exact zk_zret C hR (zd_nb (Or.inr rfl)) kd_Ln_isNumberFor_130 rfl rfl (zd_rZO (Or.inr rfl) e)
  replace e := zd_neg b13 e
  by_cases b16 : x1 = 15
  · replace e := zd_pos b16 e
    refine zk_tableIn (tgt := 131) C kd_Ln_isNumberFor_1 (by rw [b16]; decide) (by rw [b16]; decide) (by rw [b16]; rfl) (by decide) ?_
    refine zk_iload_n C kd_Ln_isNumberFor_131 rfl 2 rfl rfl ?_
    refine zk_iconst (v := 1) C kd_Ln_isNumberFor_132 (by decide) rfl ?_
    refine zk_icmp_lt (tgt := 162) C kd_Ln_isNumberFor_133 (by decide) rfl (fun b17 => ?_) (fun b17 => ?_)
    · replace e := zd_pos b17 e
      refine zk_iconst (v := 0) C kd_Ln_isNumberFor_162 (by decide) rfl ?_
      exact zk_zret C hR (zd_nb (Or.inl rfl)) kd_Ln_isNumberFor_163 rfl rfl (zd_rZO (Or.inl rfl) e)
    · replace e := zd_neg b17 e
      refine zk_iload_n C kd_Ln_isNumberFor_136 rfl 2 rfl rfl ?_
      refine zk_sipush (v := 1968) C kd_Ln_isNumberFor_137 (by decide) rfl ?_
      refine zk_icmp_gt (tgt := 162) C kd_Ln_isNumberFor_140 (by decide) rfl (fun b18 => ?_) (fun b18 => ?_)
      · replace e := zd_pos b18 e
        refine zk_iconst (v := 0) C kd_Ln_isNumberFor_162 (by decide) rfl ?_
        exact zk_zret C hR (zd_nb (Or.inl rfl)) kd_Ln_isNumberFor_163 rfl rfl (zd_rZO (Or.inl rfl) e)
      · replace e := zd_neg b18 e
        refine zk_aload_n C kd_Ln_isNumberFor_143 rfl 0 rfl rfl ?_
        refine zk_iconst (v := 4) C kd_Ln_isNumberFor_144 (by decide) rfl ?_
        obtain ⟨v20, c19, e⟩ := zd_b e
        refine zs_callV (k := 66) (rn := { frames := 0, cells := 0, slots := 0, locals := 0 }) (As := [.int 4]) (rest := []) C (zc_Ln_data h 4 c19) ku_Ln_data kw1620 kv_Ln_data rfl ⟨by decide, by decide⟩ ⟨by decide, by decide⟩ rfl rfl rfl (Nat.le_of_ble_eq_true rfl) kd_Ln_isNumberFor_145 rfl (c1 := 0) (s1 := 0) rfl rfl (fun v w hp => ?_)
        obtain ⟨rfl, rfl⟩ := hp
        refine zk_stk (r' := [.int v20]) rfl ?_
        refine zk_iload_n C kd_Ln_isNumberFor_148 rfl 2 rfl rfl ?_
        refine zk_bipush (v := 7) C kd_Ln_isNumberFor_149 (by decide) rfl ?_
        refine zk_iadd C kd_Ln_isNumberFor_151 rfl ?_
        refine zk_bipush (v := 8) C kd_Ln_isNumberFor_152 (by decide) rfl ?_
        refine zk_idiv C kd_Ln_isNumberFor_154 (by decide) rfl ?_
        refine zk_icmp_ne (tgt := 162) C kd_Ln_isNumberFor_155 (by decide) rfl (fun b21 => ?_) (fun b21 => ?_)
        · replace e := zd_neg b21 e
          refine zk_iconst (v := 0) C kd_Ln_isNumberFor_162 (by decide) rfl ?_
          exact zk_zret C hR (zd_nb (Or.inl rfl)) kd_Ln_isNumberFor_163 rfl rfl (zd_rZO (Or.inl rfl) e)
        · replace e := zd_pos b21 e
          refine zk_iconst (v := 1) C kd_Ln_isNumberFor_158 (by decide) rfl ?_
          refine zk_goto (tgt := 163) C kd_Ln_isNumberFor_159 (by decide) ?_
          exact zk_zret C hR (zd_nb (Or.inr rfl)) kd_Ln_isNumberFor_163 rfl rfl (zd_rZO (Or.inr rfl) e)
  replace e := zd_neg b16 e
  by_cases b22 : x1 = 16
  · replace e := zd_pos b22 e
    refine zk_tableIn (tgt := 164) C kd_Ln_isNumberFor_1 (by rw [b22]; decide) (by rw [b22]; decide) (by rw [b22]; rfl) (by decide) ?_
    refine zk_iload_n C kd_Ln_isNumberFor_164 rfl 2 rfl rfl ?_
    refine zk_iconst (v := 1) C kd_Ln_isNumberFor_165 (by decide) rfl ?_
    refine zk_icmp_lt (tgt := 190) C kd_Ln_isNumberFor_166 (by decide) rfl (fun b23 => ?_) (fun b23 => ?_)
    · replace e := zd_pos b23 e
      refine zk_iconst (v := 0) C kd_Ln_isNumberFor_190 (by decide) rfl ?_
      exact zk_zret C hR (zd_nb (Or.inl rfl)) kd_Ln_isNumberFor_191 rfl rfl (zd_rZO (Or.inl rfl) e)
    · replace e := zd_neg b23 e
      refine zk_iload_n C kd_Ln_isNumberFor_169 rfl 2 rfl rfl ?_
      refine zk_bipush (v := 123) C kd_Ln_isNumberFor_170 (by decide) rfl ?_
      refine zk_icmp_gt (tgt := 190) C kd_Ln_isNumberFor_172 (by decide) rfl (fun b24 => ?_) (fun b24 => ?_)
      · replace e := zd_pos b24 e
        refine zk_iconst (v := 0) C kd_Ln_isNumberFor_190 (by decide) rfl ?_
        exact zk_zret C hR (zd_nb (Or.inl rfl)) kd_Ln_isNumberFor_191 rfl rfl (zd_rZO (Or.inl rfl) e)
      · replace e := zd_neg b24 e
        refine zk_aload_n C kd_Ln_isNumberFor_175 rfl 0 rfl rfl ?_
        refine zk_iconst (v := 4) C kd_Ln_isNumberFor_176 (by decide) rfl ?_
        obtain ⟨v26, c25, e⟩ := zd_b e
        refine zs_callV (k := 66) (rn := { frames := 0, cells := 0, slots := 0, locals := 0 }) (As := [.int 4]) (rest := []) C (zc_Ln_data h 4 c25) ku_Ln_data kw1620 kv_Ln_data rfl ⟨by decide, by decide⟩ ⟨by decide, by decide⟩ rfl rfl rfl (Nat.le_of_ble_eq_true rfl) kd_Ln_isNumberFor_177 rfl (c1 := 0) (s1 := 0) rfl rfl (fun v w hp => ?_)
        obtain ⟨rfl, rfl⟩ := hp
        refine zk_stk (r' := [.int v26]) rfl ?_
        refine zk_iconst (v := 2) C kd_Ln_isNumberFor_180 (by decide) rfl ?_
        refine zk_iload_n C kd_Ln_isNumberFor_181 rfl 2 rfl rfl ?_
        refine zk_imul C kd_Ln_isNumberFor_182 rfl ?_
        refine zk_icmp_ne (tgt := 190) C kd_Ln_isNumberFor_183 (by decide) rfl (fun b27 => ?_) (fun b27 => ?_)
        · replace e := zd_neg b27 e
          refine zk_iconst (v := 0) C kd_Ln_isNumberFor_190 (by decide) rfl ?_
          exact zk_zret C hR (zd_nb (Or.inl rfl)) kd_Ln_isNumberFor_191 rfl rfl (zd_rZO (Or.inl rfl) e)
        · replace e := zd_pos b27 e
          refine zk_iconst (v := 1) C kd_Ln_isNumberFor_186 (by decide) rfl ?_
          refine zk_goto (tgt := 191) C kd_Ln_isNumberFor_187 (by decide) ?_
          exact zk_zret C hR (zd_nb (Or.inr rfl)) kd_Ln_isNumberFor_191 rfl rfl (zd_rZO (Or.inr rfl) e)
  replace e := zd_neg b22 e
  refine zd_tableD (tgt := 192) C kd_Ln_isNumberFor_1 (by decide) [1, 2, 3, 4, 5, 15, 16] (by decide +kernel) (by have n0 := lv_neT b1 (a := 1) (by decide); have n1 := lv_neT b4 (a := 2) (by decide); have n2 := lv_neT b7 (a := 3) (by decide); have n3 := lv_neT b10 (a := 4) (by decide); have n4 := lv_neT b13 (a := 5) (by decide); have n5 := lv_neT b16 (a := 15) (by decide); have n6 := lv_neT b22 (a := 16) (by decide); simp only [List.mem_cons, List.not_mem_nil, or_false, not_or]; exact ⟨n0, n1, n2, n3, n4, n5, n6⟩) ?_
  refine zk_iconst (v := 1) C kd_Ln_isNumberFor_192 (by decide) rfl ?_
  exact zk_zret C hR (zd_nb (Or.inr rfl)) kd_Ln_isNumberFor_193 rfl rfl (zd_rZO (Or.inr rfl) e)
set_option maxHeartbeats 4000000 in
set_option maxRecDepth 100000 in
theorem zc_Ln_tableSize {l : Launch} {D : va_G} {sz0 : Nat} {S : zs_T} {P : ze_T} (h : zs_H) (x0 : Int32) : zk_Sp (zs_G S l D sz0) (ze_E P) km_Ln_tableSize { frames := 0, cells := 0, slots := 0, locals := 0 } [.int x0] (zs_W S h) (zd_PI S (f_Ln_tableSize x0) h) := by
  obtain ⟨rv, e⟩ : ∃ rv, f_Ln_tableSize x0 = rv := ⟨_, rfl⟩
  rw [e]
  refine zk_met ku_Ln_tableSize (Nat.le_of_ble_eq_true rfl) (ze_Em P) ?_
  intro X C hR
  refine zk_lvs (lv' := [(0, .int x0)]) [0] rfl ?_
  unfold f_Ln_tableSize at e
  refine zk_iload_n C kd_Ln_tableSize_0 rfl 0 rfl rfl ?_
  by_cases b1 : x0 = 1
  · replace e := zd_pos b1 e
    refine zk_tableIn (tgt := 84) C kd_Ln_tableSize_1 (by rw [b1]; decide) (by rw [b1]; decide) (by rw [b1]; rfl) (by decide) ?_
    refine zk_sipush (v := 256) C kd_Ln_tableSize_84 (by decide) rfl ?_
    exact zk_iret C hR kd_Ln_tableSize_87 rfl rfl (zd_rIT e)
  replace e := zd_neg b1 e
  by_cases b2 : x0 = 2
  · replace e := zd_pos b2 e
    refine zk_tableIn (tgt := 76) C kd_Ln_tableSize_1 (by rw [b2]; decide) (by rw [b2]; decide) (by rw [b2]; rfl) (by decide) ?_
    refine zk_sipush (v := 512) C kd_Ln_tableSize_76 (by decide) rfl ?_
    exact zk_iret C hR kd_Ln_tableSize_79 rfl rfl (zd_rIT e)
  replace e := zd_neg b2 e
  by_cases b3 : x0 = 4
  · replace e := zd_pos b3 e
    refine zk_tableIn (tgt := 80) C kd_Ln_tableSize_1 (by rw [b3]; decide) (by rw [b3]; decide) (by rw [b3]; rfl) (by decide) ?_
    refine zk_sipush (v := 128) C kd_Ln_tableSize_80 (by decide) rfl ?_
    exact zk_iret C hR kd_Ln_tableSize_83 rfl rfl (zd_rIT e)
  replace e := zd_neg b3 e
  by_cases b4 : x0 = 5
  · replace e := zd_pos b4 e
    refine zk_tableIn (tgt := 84) C kd_Ln_tableSize_1 (by rw [b4]; decide) (by rw [b4]; decide) (by rw [b4]; rfl) (by decide) ?_
    refine zk_sipush (v := 256) C kd_Ln_tableSize_84 (by decide) rfl ?_
    exact zk_iret C hR kd_Ln_tableSize_87 rfl rfl (zd_rIT e)
  replace e := zd_neg b4 e
  by_cases b5 : x0 = 15
  · replace e := zd_pos b5 e
    refine zk_tableIn (tgt := 84) C kd_Ln_tableSize_1 (by rw [b5]; decide) (by rw [b5]; decide) (by rw [b5]; rfl) (by decide) ?_
    refine zk_sipush (v := 256) C kd_Ln_tableSize_84 (by decide) rfl ?_
    exact zk_iret C hR kd_Ln_tableSize_87 rfl rfl (zd_rIT e)
  replace e := zd_neg b5 e
  refine zd_tableD (tgt := 88) C kd_Ln_tableSize_1 (by decide) [1, 2, 4, 5, 15] (by decide +kernel) (by have n0 := lv_neT b1 (a := 1) (by decide); have n1 := lv_neT b2 (a := 2) (by decide); have n2 := lv_neT b3 (a := 4) (by decide); have n3 := lv_neT b4 (a := 5) (by decide); have n4 := lv_neT b5 (a := 15) (by decide); simp only [List.mem_cons, List.not_mem_nil, or_false, not_or]; exact ⟨n0, n1, n2, n3, n4⟩) ?_
  refine zk_bipush (v := 64) C kd_Ln_tableSize_88 (by decide) rfl ?_
  exact zk_iret C hR kd_Ln_tableSize_90 rfl rfl (zd_rIT e)
set_option maxHeartbeats 4000000 in
set_option maxRecDepth 100000 in
theorem zb_Ln_refusal_110 {X : zkj_T} {S : zs_T} {P : ze_T} {l : Launch} {D : va_G} {sz0 : Nat} {rv : Int32} {h : zs_H} (C : zk_C X km_Ln_refusal (zs_G S l D sz0) { frames := 2, cells := 0, slots := 0, locals := 43 } (ze_E P)) (hR : zkj_R X (zd_PI S rv h) (some .int)) (x1 : Int32) (y0 : Int32) (e : f_Ln_refusal_110 h x1 y0 = some rv) : zk_Ab X (zs_W S h) 0 0 110 [(0, .ref (S.1 66)), (1, .int x1)] [.int y0] := by
  unfold f_Ln_refusal_110 at e
  refine zk_istore (lv' := [(4, _), (0, _), (1, _)]) C kd_Ln_refusal_110 (by decide) rfl rfl ?_
  refine zk_aload_n C kd_Ln_refusal_112 rfl 1 rfl rfl ?_
  refine zk_iconst (v := 0) C kd_Ln_refusal_113 (by decide) rfl ?_
  obtain ⟨v2, c1, e⟩ := zd_b e
  refine zs_callV (k := 66) (rn := { frames := 1, cells := 0, slots := 0, locals := 21 }) (As := [.int 0]) (rest := []) C (zc_Ln_number h 0 c1) ku_Ln_number kw1624 kv_Ln_number rfl ⟨by decide, by decide⟩ ⟨by decide, by decide⟩ rfl rfl rfl (Nat.le_of_ble_eq_true rfl) kd_Ln_refusal_114 rfl (c1 := 0) (s1 := 0) rfl rfl (fun v w hp => ?_)
  obtain ⟨rfl, rfl⟩ := hp
  refine zk_stk (r' := [.int v2]) rfl ?_
  refine zk_iload C kd_Ln_refusal_117 0 rfl rfl ?_
  refine zk_iadd C kd_Ln_refusal_119 rfl ?_
  refine zk_iload_n C kd_Ln_refusal_120 rfl 2 rfl rfl ?_
  refine zk_callS (rn := { frames := 0, cells := 0, slots := 0, locals := 0 }) (As := [.int x1]) (rest := [.int (v2 + y0)]) C (zc_Ln_tableSize h x1) ku_Ln_tableSize kw1633 ks_Ln_tableSize rfl ⟨by decide, by decide⟩ ⟨by decide, by decide⟩ rfl (Nat.le_of_ble_eq_true rfl) kd_Ln_refusal_121 rfl (c1 := 0) (s1 := 0) rfl rfl (fun v w hp => ?_)
  obtain ⟨rfl, rfl⟩ := hp
  refine zk_stk (r' := [.int (f_Ln_tableSize x1), .int (v2 + y0)]) rfl ?_
  refine zk_icmp_le (tgt := 131) C kd_Ln_refusal_124 (by decide) rfl (fun b3 => ?_) (fun b3 => ?_)
  · replace e := zd_pos b3 e
    refine zk_iconst (v := 0) C kd_Ln_refusal_131 (by decide) rfl ?_
    exact zk_iret C hR kd_Ln_refusal_132 rfl rfl (zd_rIO e)
  · replace e := zd_neg b3 e
    refine zk_iconst (v := 2) C kd_Ln_refusal_127 (by decide) rfl ?_
    refine zk_goto (tgt := 132) C kd_Ln_refusal_128 (by decide) ?_
    exact zk_iret C hR kd_Ln_refusal_132 rfl rfl (zd_rIO e)
set_option maxHeartbeats 4000000 in
set_option maxRecDepth 100000 in
theorem zb_Ln_refusal_105 {X : zkj_T} {S : zs_T} {P : ze_T} {l : Launch} {D : va_G} {sz0 : Nat} {rv : Int32} {h : zs_H} (C : zk_C X km_Ln_refusal (zs_G S l D sz0) { frames := 2, cells := 0, slots := 0, locals := 43 } (ze_E P)) (hR : zkj_R X (zd_PI S rv h) (some .int)) (x1 : Int32) (e : f_Ln_refusal_105 h x1 = some rv) : zk_Ab X (zs_W S h) 0 0 105 [(0, .ref (S.1 66)), (1, .int x1)] [] := by
  unfold f_Ln_refusal_105 at e
  refine zk_iconst (v := 1) C kd_Ln_refusal_105 (by decide) rfl ?_
  refine zk_goto (tgt := 110) C kd_Ln_refusal_106 (by decide) ?_
  refine zk_lvs (lv' := [(0, .ref (S.1 66)), (1, .int x1)]) [0, 1] rfl ?_
  exact zb_Ln_refusal_110 C hR x1 1 e
set_option maxHeartbeats 4000000 in
set_option maxRecDepth 100000 in
theorem zb_Ln_refusal_77 {X : zkj_T} {S : zs_T} {P : ze_T} {l : Launch} {D : va_G} {sz0 : Nat} {rv : Int32} {h : zs_H} (C : zk_C X km_Ln_refusal (zs_G S l D sz0) { frames := 2, cells := 0, slots := 0, locals := 43 } (ze_E P)) (hR : zkj_R X (zd_PI S rv h) (some .int)) (x1 : Int32) (e : f_Ln_refusal_77 h x1 = some rv) : zk_Ab X (zs_W S h) 0 0 77 [(0, .ref (S.1 66)), (1, .int x1)] [] := by
  unfold f_Ln_refusal_77 at e
  refine zk_aload_n C kd_Ln_refusal_77 rfl 0 rfl rfl ?_
  refine zk_iconst (v := 2) C kd_Ln_refusal_78 (by decide) rfl ?_
  obtain ⟨v2, c1, e⟩ := zd_b e
  refine zs_callV (k := 66) (rn := { frames := 1, cells := 0, slots := 0, locals := 21 }) (As := [.int 2]) (rest := []) C (zc_Ln_number h 2 c1) ku_Ln_number kw1624 kv_Ln_number rfl ⟨by decide, by decide⟩ ⟨by decide, by decide⟩ rfl rfl rfl (Nat.le_of_ble_eq_true rfl) kd_Ln_refusal_79 rfl (c1 := 0) (s1 := 0) rfl rfl (fun v w hp => ?_)
  obtain ⟨rfl, rfl⟩ := hp
  refine zk_stk (r' := [.int v2]) rfl ?_
  refine zk_istore_n (lv' := [(3, _), (0, _), (1, _)]) C kd_Ln_refusal_82 rfl (by decide) rfl rfl ?_
  refine zk_aload_n C kd_Ln_refusal_83 rfl 1 rfl rfl ?_
  refine zk_iload_n C kd_Ln_refusal_84 rfl 2 rfl rfl ?_
  refine zk_iload_n C kd_Ln_refusal_85 rfl 0 rfl rfl ?_
  obtain ⟨v4, c3, e⟩ := zd_b e
  refine zs_callV (k := 66) (rn := { frames := 1, cells := 0, slots := 0, locals := 21 }) (As := [.int x1, .int v2]) (rest := []) C (zc_Ln_isNumberFor h x1 v2 c3) ku_Ln_isNumberFor kw1628 kv_Ln_isNumberFor rfl ⟨by decide, by decide⟩ ⟨by decide, by decide⟩ rfl rfl rfl (Nat.le_of_ble_eq_true rfl) kd_Ln_refusal_86 rfl (c1 := 0) (s1 := 0) rfl rfl (fun v w hp => ?_)
  obtain ⟨rfl, rfl, z5⟩ := hp
  refine zk_stk (r' := [.int v4]) rfl ?_
  refine zk_if_ne (tgt := 94) C kd_Ln_refusal_89 (by decide) rfl (fun b6 => ?_) (fun b6 => ?_)
  · replace e := zd_neg b6 e
    refine zk_iload_n C kd_Ln_refusal_94 rfl 2 rfl rfl ?_
    refine zk_iconst (v := 5) C kd_Ln_refusal_95 (by decide) rfl ?_
    refine zk_icmp_eq (tgt := 105) C kd_Ln_refusal_96 (by decide) rfl (fun b7 => ?_) (fun b7 => ?_)
    · replace e := zd_pos b7 e
      refine zk_lvs (lv' := [(0, .ref (S.1 66)), (1, .int x1)]) [1, 2] rfl ?_
      exact zb_Ln_refusal_105 C hR x1 e
    · replace e := zd_neg b7 e
      refine zk_iload_n C kd_Ln_refusal_99 rfl 2 rfl rfl ?_
      refine zk_bipush (v := 6) C kd_Ln_refusal_100 (by decide) rfl ?_
      refine zk_icmp_ne (tgt := 109) C kd_Ln_refusal_102 (by decide) rfl (fun b8 => ?_) (fun b8 => ?_)
      · replace e := zd_neg b8 e
        refine zk_iload_n C kd_Ln_refusal_109 rfl 0 rfl rfl ?_
        refine zk_lvs (lv' := [(0, .ref (S.1 66)), (1, .int x1)]) [1, 2] rfl ?_
        exact zb_Ln_refusal_110 C hR x1 v2 e
      · replace e := zd_pos b8 e
        refine zk_lvs (lv' := [(0, .ref (S.1 66)), (1, .int x1)]) [1, 2] rfl ?_
        exact zb_Ln_refusal_105 C hR x1 e
  · replace e := zd_pos b6 e
    refine zk_iconst (v := 3) C kd_Ln_refusal_92 (by decide) rfl ?_
    exact zk_iret C hR kd_Ln_refusal_93 rfl rfl (zd_rIO e)
set_option maxHeartbeats 4000000 in
set_option maxRecDepth 100000 in
theorem zb_Ln_refusal_36 {X : zkj_T} {S : zs_T} {P : ze_T} {l : Launch} {D : va_G} {sz0 : Nat} {rv : Int32} {h : zs_H} (C : zk_C X km_Ln_refusal (zs_G S l D sz0) { frames := 2, cells := 0, slots := 0, locals := 43 } (ze_E P)) (hR : zkj_R X (zd_PI S rv h) (some .int)) (x1 : Int32) (y0 : Int32) (e : f_Ln_refusal_36 h x1 y0 = some rv) : zk_Ab X (zs_W S h) 0 0 36 [(0, .ref (S.1 66)), (1, .int x1)] [.int y0] := by
  unfold f_Ln_refusal_36 at e
  refine zk_istore_n (lv' := [(2, _), (0, _), (1, _)]) C kd_Ln_refusal_36 rfl (by decide) rfl rfl ?_
  refine zk_iload_n C kd_Ln_refusal_37 rfl 0 rfl rfl ?_
  refine zk_if_eq (tgt := 67) C kd_Ln_refusal_38 (by decide) rfl (fun b1 => ?_) (fun b1 => ?_)
  · replace e := zd_pos b1 e
    refine zk_aload_n C kd_Ln_refusal_67 rfl 1 rfl rfl ?_
    refine zs_get (v := .int (h.1 66 5)) C 66 5 rfl rfl rfl rfl ki_Ln (by decide) kw605 kd_Ln_refusal_68 rfl ?_
    refine zk_iconst (v := 4) C kd_Ln_refusal_71 (by decide) rfl ?_
    refine zk_icmp_eq (tgt := 77) C kd_Ln_refusal_72 (by decide) rfl (fun b2 => ?_) (fun b2 => ?_)
    · replace e := zd_pos b2 e
      refine zk_lvs (lv' := [(0, .ref (S.1 66)), (1, .int x1)]) [1, 2] rfl ?_
      exact zb_Ln_refusal_77 C hR x1 e
    · replace e := zd_neg b2 e
      refine zk_iconst (v := 3) C kd_Ln_refusal_75 (by decide) rfl ?_
      exact zk_iret C hR kd_Ln_refusal_76 rfl rfl (zd_rIO e)
  · replace e := zd_neg b1 e
    refine zk_aload_n C kd_Ln_refusal_41 rfl 1 rfl rfl ?_
    refine zs_get (v := .int (h.1 66 5)) C 66 5 rfl rfl rfl rfl ki_Ln (by decide) kw605 kd_Ln_refusal_42 rfl ?_
    refine zk_bipush (v := 6) C kd_Ln_refusal_45 (by decide) rfl ?_
    refine zk_icmp_lt (tgt := 75) C kd_Ln_refusal_47 (by decide) rfl (fun b3 => ?_) (fun b3 => ?_)
    · replace e := zd_pos b3 e
      refine zk_iconst (v := 3) C kd_Ln_refusal_75 (by decide) rfl ?_
      exact zk_iret C hR kd_Ln_refusal_76 rfl rfl (zd_rIO e)
    · replace e := zd_neg b3 e
      refine zk_aload_n C kd_Ln_refusal_50 rfl 1 rfl rfl ?_
      refine zs_get (v := .int (h.1 66 5)) C 66 5 rfl rfl rfl rfl ki_Ln (by decide) kw605 kd_Ln_refusal_51 rfl ?_
      refine zk_iconst (v := 5) C kd_Ln_refusal_54 (by decide) rfl ?_
      refine zk_aload_n C kd_Ln_refusal_55 rfl 1 rfl rfl ?_
      refine zk_iconst (v := 4) C kd_Ln_refusal_56 (by decide) rfl ?_
      obtain ⟨v5, c4, e⟩ := zd_b e
      refine zs_callV (k := 66) (rn := { frames := 0, cells := 0, slots := 0, locals := 0 }) (As := [.int 4]) (rest := [.int 5, .int (h.1 66 5)]) C (zc_Ln_data h 4 c4) ku_Ln_data kw1620 kv_Ln_data rfl ⟨by decide, by decide⟩ ⟨by decide, by decide⟩ rfl rfl rfl (Nat.le_of_ble_eq_true rfl) kd_Ln_refusal_57 rfl (c1 := 0) (s1 := 0) rfl rfl (fun v w hp => ?_)
      obtain ⟨rfl, rfl⟩ := hp
      refine zk_stk (r' := [.int v5, .int 5, .int (h.1 66 5)]) rfl ?_
      refine zk_iadd C kd_Ln_refusal_60 rfl ?_
      refine zk_icmp_eq (tgt := 77) C kd_Ln_refusal_61 (by decide) rfl (fun b6 => ?_) (fun b6 => ?_)
      · replace e := zd_pos b6 e
        refine zk_lvs (lv' := [(0, .ref (S.1 66)), (1, .int x1)]) [1, 2] rfl ?_
        exact zb_Ln_refusal_77 C hR x1 e
      · replace e := zd_neg b6 e
        refine zk_goto (tgt := 75) C kd_Ln_refusal_64 (by decide) ?_
        refine zk_iconst (v := 3) C kd_Ln_refusal_75 (by decide) rfl ?_
        exact zk_iret C hR kd_Ln_refusal_76 rfl rfl (zd_rIO e)
set_option maxHeartbeats 4000000 in
set_option maxRecDepth 100000 in
theorem zb_Ln_refusal_25 {X : zkj_T} {S : zs_T} {P : ze_T} {l : Launch} {D : va_G} {sz0 : Nat} {rv : Int32} {h : zs_H} (C : zk_C X km_Ln_refusal (zs_G S l D sz0) { frames := 2, cells := 0, slots := 0, locals := 43 } (ze_E P)) (hR : zkj_R X (zd_PI S rv h) (some .int)) (x1 : Int32) (e : f_Ln_refusal_25 h x1 = some rv) : zk_Ab X (zs_W S h) 0 0 25 [(0, .ref (S.1 66)), (1, .int x1)] [] := by
  unfold f_Ln_refusal_25 at e
  refine zk_iload_n C kd_Ln_refusal_25 rfl 1 rfl rfl ?_
  refine zk_bipush (v := 15) C kd_Ln_refusal_26 (by decide) rfl ?_
  refine zk_icmp_lt (tgt := 35) C kd_Ln_refusal_28 (by decide) rfl (fun b1 => ?_) (fun b1 => ?_)
  · replace e := zd_pos b1 e
    refine zk_iconst (v := 0) C kd_Ln_refusal_35 (by decide) rfl ?_
    refine zk_lvs (lv' := [(0, .ref (S.1 66)), (1, .int x1)]) [0, 1] rfl ?_
    exact zb_Ln_refusal_36 C hR x1 0 e
  · replace e := zd_neg b1 e
    refine zk_iconst (v := 1) C kd_Ln_refusal_31 (by decide) rfl ?_
    refine zk_goto (tgt := 36) C kd_Ln_refusal_32 (by decide) ?_
    refine zk_lvs (lv' := [(0, .ref (S.1 66)), (1, .int x1)]) [0, 1] rfl ?_
    exact zb_Ln_refusal_36 C hR x1 1 e
set_option maxHeartbeats 4000000 in
set_option maxRecDepth 100000 in
theorem zc_Ln_refusal {l : Launch} {D : va_G} {sz0 : Nat} {S : zs_T} {P : ze_T} (h : zs_H) (x1 : Int32) {rv : Int32} (e : f_Ln_refusal h x1 = some rv) : zk_Sp (zs_G S l D sz0) (ze_E P) km_Ln_refusal { frames := 2, cells := 0, slots := 0, locals := 43 } [.ref (S.1 66), .int x1] (zs_W S h) (zd_PI S rv h) := by
  refine zk_met ku_Ln_refusal (Nat.le_of_ble_eq_true rfl) (ze_Em P) ?_
  intro X C hR
  refine zk_lvs (lv' := [(0, .ref (S.1 66)), (1, .int x1)]) [0, 1] rfl ?_
  unfold f_Ln_refusal at e
  refine zk_iload_n C kd_Ln_refusal_0 rfl 1 rfl rfl ?_
  refine zk_iconst (v := 1) C kd_Ln_refusal_1 (by decide) rfl ?_
  refine zk_icmp_lt (tgt := 23) C kd_Ln_refusal_2 (by decide) rfl (fun b1 => ?_) (fun b1 => ?_)
  · replace e := zd_pos b1 e
    refine zk_iconst (v := 1) C kd_Ln_refusal_23 (by decide) rfl ?_
    exact zk_iret C hR kd_Ln_refusal_24 rfl rfl (zd_rIO e)
  · replace e := zd_neg b1 e
    refine zk_iload_n C kd_Ln_refusal_5 rfl 1 rfl rfl ?_
    refine zk_bipush (v := 6) C kd_Ln_refusal_6 (by decide) rfl ?_
    refine zk_icmp_le (tgt := 25) C kd_Ln_refusal_8 (by decide) rfl (fun b2 => ?_) (fun b2 => ?_)
    · replace e := zd_pos b2 e
      refine zk_lvs (lv' := [(0, .ref (S.1 66)), (1, .int x1)]) [0, 1] rfl ?_
      exact zb_Ln_refusal_25 C hR x1 e
    · replace e := zd_neg b2 e
      refine zk_iload_n C kd_Ln_refusal_11 rfl 1 rfl rfl ?_
      refine zk_bipush (v := 15) C kd_Ln_refusal_12 (by decide) rfl ?_
      refine zk_icmp_eq (tgt := 25) C kd_Ln_refusal_14 (by decide) rfl (fun b3 => ?_) (fun b3 => ?_)
      · replace e := zd_pos b3 e
        refine zk_lvs (lv' := [(0, .ref (S.1 66)), (1, .int x1)]) [0, 1] rfl ?_
        exact zb_Ln_refusal_25 C hR x1 e
      · replace e := zd_neg b3 e
        refine zk_iload_n C kd_Ln_refusal_17 rfl 1 rfl rfl ?_
        refine zk_bipush (v := 16) C kd_Ln_refusal_18 (by decide) rfl ?_
        refine zk_icmp_eq (tgt := 25) C kd_Ln_refusal_20 (by decide) rfl (fun b4 => ?_) (fun b4 => ?_)
        · replace e := zd_pos b4 e
          refine zk_lvs (lv' := [(0, .ref (S.1 66)), (1, .int x1)]) [0, 1] rfl ?_
          exact zb_Ln_refusal_25 C hR x1 e
        · replace e := zd_neg b4 e
          refine zk_iconst (v := 1) C kd_Ln_refusal_23 (by decide) rfl ?_
          exact zk_iret C hR kd_Ln_refusal_24 rfl rfl (zd_rIO e)
set_option maxHeartbeats 4000000 in
set_option maxRecDepth 100000 in
theorem zb_Mc_change_18 {X : zkj_T} {S : zs_T} {P : ze_T} {l : Launch} {D : va_G} {sz0 : Nat} {rv : Int32} {rh : zs_H} (C : zk_C X km_Mc_change (zs_G S l D sz0) { frames := 0, cells := 0, slots := 0, locals := 0 } (ze_E P)) (hR : zkj_R X (zd_PI S rv rh) (some .int)) (h : zs_H) (x3 : Int32) (x4 : Int32) (e : f_Mc_change_18 h x3 x4 = some (rv, rh)) : zk_Ab X (zs_W S h) 0 0 18 [(0, .ref (S.1 58)), (3, .int x3), (4, .int x4)] [] := by
  unfold f_Mc_change_18 at e
  refine zk_aload_n C kd_Mc_change_18 rfl 0 rfl rfl ?_
  refine zs_get (v := .ref (S.1 59)) C 58 0 rfl rfl rfl rfl ki_Mc (by decide) kw518 kd_Mc_change_19 rfl ?_
  refine zk_iload C kd_Mc_change_22 2 rfl rfl ?_
  refine zk_iload_n C kd_Mc_change_24 rfl 1 rfl rfl ?_
  obtain ⟨q1, e⟩ := zd_g e
  refine zs_iast C 59 rfl (zd_vp q1) kd_Mc_change_25 rfl ?_
  refine zk_goto (tgt := 50) C kd_Mc_change_26 (by decide) ?_
  refine zk_iconst (v := 0) C kd_Mc_change_50 (by decide) rfl ?_
  exact zk_iret C hR kd_Mc_change_51 rfl rfl (zd_rIS e)
set_option maxHeartbeats 4000000 in
set_option maxRecDepth 100000 in
theorem zc_Mc_change {l : Launch} {D : va_G} {sz0 : Nat} {S : zs_T} {P : ze_T} (h : zs_H) (x1 : Int32) (x2 : Int32) (x3 : Int32) {rv : Int32} {rh : zs_H} (e : f_Mc_change h x1 x2 x3 = some (rv, rh)) : zk_Sp (zs_G S l D sz0) (ze_E P) km_Mc_change { frames := 0, cells := 0, slots := 0, locals := 0 } [.ref (S.1 58), .int x1, .int x2, .int x3] (zs_W S h) (zd_PI S rv rh) := by
  refine zk_met ku_Mc_change (Nat.le_of_ble_eq_true rfl) (ze_Em P) ?_
  intro X C hR
  refine zk_lvs (lv' := [(0, .ref (S.1 58)), (1, .int x1), (2, .int x2), (3, .int x3)]) [0, 1, 2, 3] rfl ?_
  unfold f_Mc_change at e
  refine ze_getsN (j := 3) (host := "PlantKeeper") C rfl (by decide +kernel) kd_Mc_change_0 rfl ?_
  refine zk_iload_n C kd_Mc_change_3 rfl 1 rfl rfl ?_
  obtain ⟨q1, e⟩ := zd_g e
  refine ze_ti C rfl (zd_vp q1) kd_Mc_change_4 rfl ?_
  refine zk_stk (r' := [.int (zt_3.getD x1.toNatClampNeg 0)]) rfl ?_
  refine zk_iload_n C kd_Mc_change_5 rfl 2 rfl rfl ?_
  refine zk_iadd C kd_Mc_change_6 rfl ?_
  refine zk_istore (lv' := [(4, _), (0, _), (1, _), (2, _), (3, _)]) C kd_Mc_change_7 (by decide) rfl rfl ?_
  refine zk_iload_n C kd_Mc_change_9 rfl 2 rfl rfl ?_
  refine zk_if_eq (tgt := 18) C kd_Mc_change_10 (by decide) rfl (fun b2 => ?_) (fun b2 => ?_)
  · replace e := zd_pos b2 e
    refine zk_lvs (lv' := [(0, .ref (S.1 58)), (3, .int x3), (4, .int ((zt_3.getD x1.toNatClampNeg 0) + x2))]) [1, 4, 0] rfl ?_
    exact zb_Mc_change_18 C hR h x3 ((zt_3.getD x1.toNatClampNeg 0) + x2) e
  · replace e := zd_neg b2 e
    refine zk_iload_n C kd_Mc_change_13 rfl 2 rfl rfl ?_
    refine zk_iconst (v := 3) C kd_Mc_change_14 (by decide) rfl ?_
    refine zk_icmp_ne (tgt := 29) C kd_Mc_change_15 (by decide) rfl (fun b3 => ?_) (fun b3 => ?_)
    · replace e := zd_neg b3 e
      refine zk_aload_n C kd_Mc_change_29 rfl 1 rfl rfl ?_
      refine zs_get (v := .int (h.1 58 3)) C 58 3 rfl rfl rfl rfl ki_Mc (by decide) kw522 kd_Mc_change_30 rfl ?_
      refine zk_if_eq (tgt := 47) C kd_Mc_change_33 (by decide) rfl (fun b4 => ?_) (fun b4 => ?_)
      · replace e := zd_pos b4 e
        refine zk_bipush (v := (-5)) C kd_Mc_change_47 (by decide) rfl ?_
        exact zk_iret C hR kd_Mc_change_49 rfl rfl (zd_rIS e)
      · replace e := zd_neg b4 e
        refine zk_aload_n C kd_Mc_change_36 rfl 1 rfl rfl ?_
        refine zs_get (v := .ref (S.1 62)) C 58 12 rfl rfl rfl rfl ki_Mc (by decide) kw539 kd_Mc_change_37 rfl ?_
        refine zk_iload C kd_Mc_change_40 0 rfl rfl ?_
        refine zk_iload_n C kd_Mc_change_42 rfl 4 rfl rfl ?_
        obtain ⟨q5, e⟩ := zd_g e
        refine zs_iast C 62 rfl (zd_vp q5) kd_Mc_change_43 rfl ?_
        refine zk_goto (tgt := 50) C kd_Mc_change_44 (by decide) ?_
        refine zk_iconst (v := 0) C kd_Mc_change_50 (by decide) rfl ?_
        exact zk_iret C hR kd_Mc_change_51 rfl rfl (zd_rIS e)
    · replace e := zd_pos b3 e
      refine zk_lvs (lv' := [(0, .ref (S.1 58)), (3, .int x3), (4, .int ((zt_3.getD x1.toNatClampNeg 0) + x2))]) [1, 4, 0] rfl ?_
      exact zb_Mc_change_18 C hR h x3 ((zt_3.getD x1.toNatClampNeg 0) + x2) e
set_option maxHeartbeats 4000000 in
set_option maxRecDepth 100000 in
theorem zb_Ln_write_32 {X : zkj_T} {S : zs_T} {P : ze_T} {l : Launch} {D : va_G} {sz0 : Nat} {rh : zs_H} (C : zk_C X km_Ln_write (zs_G S l D sz0) { frames := 2, cells := 0, slots := 0, locals := 42 } (ze_E P)) (hR : zkj_R X (zd_PV S rh) (none)) (h : zs_H) (y0 : Int32) (y1 : Int32) (y2 : Int32) (e : f_Ln_write_32 h y0 y1 y2 = some rh) : zk_Ab X (zs_W S h) 0 0 32 [] [.int y0, .int y1, .int y2, .ref (S.1 58)] := by
  unfold f_Ln_write_32 at e
  obtain ⟨v2, h3, c1, e⟩ := zd_Be e
  refine zs_callV (k := 58) (rn := { frames := 0, cells := 0, slots := 0, locals := 0 }) (As := [.int y2, .int y1, .int y0]) (rest := []) C (zc_Mc_change h y2 y1 y0 c1) ku_Mc_change kw1640 kv_Mc_change rfl ⟨by decide, by decide⟩ ⟨by decide, by decide⟩ rfl rfl rfl (Nat.le_of_ble_eq_true rfl) kd_Ln_write_32 rfl (c1 := 0) (s1 := 0) rfl rfl (fun v w hp => ?_)
  obtain ⟨rfl, rfl⟩ := hp
  refine zk_stk (r' := [.int v2]) rfl ?_
  refine zk_pop C kd_Ln_write_35 rfl rfl ?_
  refine zk_goto (tgt := 161) C kd_Ln_write_36 (by decide) ?_
  exact zk_vret C hR kd_Ln_write_161 rfl rfl (zd_rV e)
set_option maxHeartbeats 4000000 in
set_option maxRecDepth 100000 in
theorem zb_Ln_write_69 {X : zkj_T} {S : zs_T} {P : ze_T} {l : Launch} {D : va_G} {sz0 : Nat} {rh : zs_H} (C : zk_C X km_Ln_write (zs_G S l D sz0) { frames := 2, cells := 0, slots := 0, locals := 42 } (ze_E P)) (hR : zkj_R X (zd_PV S rh) (none)) {k69 : zs_H → Int32 → Int32 → Int32 → (Option zs_H)} (hk69 : ∀ (h : zs_H) (x2 : Int32) (x3 : Int32) (x4 : Int32), k69 h x2 x3 x4 = some rh → zk_Ab X (zs_W S h) 0 0 69 [(0, .ref (S.1 66)), (2, .int x2), (3, .int x3), (4, .int x4)] []) (h : zs_H) (x2 : Int32) (x3 : Int32) (x4 : Int32) (e : f_Ln_write_69 k69 h x2 x3 x4 = some rh) : zk_Ab X (zs_W S h) 0 0 69 [(0, .ref (S.1 66)), (2, .int x2), (3, .int x3), (4, .int x4)] [] := by
  unfold f_Ln_write_69 at e
  refine zk_iload C kd_Ln_write_69 3 rfl rfl ?_
  refine zk_iload_n C kd_Ln_write_71 rfl 2 rfl rfl ?_
  refine zk_icmp_ge (tgt := 113) C kd_Ln_write_72 (by decide) rfl (fun b1 => ?_) (fun b1 => ?_)
  · replace e := zd_pos b1 e
    refine zk_goto (tgt := 161) C kd_Ln_write_113 (by decide) ?_
    exact zk_vret C hR kd_Ln_write_161 rfl rfl (zd_rV e)
  · replace e := zd_neg b1 e
    refine zk_aload_n C kd_Ln_write_75 rfl 0 rfl rfl ?_
    refine zs_get (v := .ref (S.1 58)) C 66 3 rfl rfl rfl rfl ki_Ln (by decide) kw603 kd_Ln_write_76 rfl ?_
    refine zk_iconst (v := 2) C kd_Ln_write_79 (by decide) rfl ?_
    refine zk_iload_n C kd_Ln_write_80 rfl 1 rfl rfl ?_
    refine zk_iload C kd_Ln_write_81 3 rfl rfl ?_
    refine zk_iadd C kd_Ln_write_83 rfl ?_
    refine zk_aload_n C kd_Ln_write_84 rfl 0 rfl rfl ?_
    refine zk_iconst (v := 5) C kd_Ln_write_85 (by decide) rfl ?_
    refine zk_iload C kd_Ln_write_86 3 rfl rfl ?_
    refine zk_bipush (v := 8) C kd_Ln_write_88 (by decide) rfl ?_
    refine zk_idiv C kd_Ln_write_90 (by decide) rfl ?_
    refine zk_iadd C kd_Ln_write_91 rfl ?_
    obtain ⟨v3, c2, e⟩ := zd_b e
    refine zs_callV (k := 66) (rn := { frames := 0, cells := 0, slots := 0, locals := 0 }) (As := [.int (5 + (x4 / 8))]) (rest := [.int (x2 + x4), .int 2, .ref (S.1 58)]) C (zc_Ln_data h (5 + (x4 / 8)) c2) ku_Ln_data kw1620 kv_Ln_data rfl ⟨by decide, by decide⟩ ⟨by decide, by decide⟩ rfl rfl rfl (Nat.le_of_ble_eq_true rfl) kd_Ln_write_92 rfl (c1 := 0) (s1 := 0) rfl rfl (fun v w hp => ?_)
    obtain ⟨rfl, rfl⟩ := hp
    refine zk_stk (r' := [.int v3, .int (x2 + x4), .int 2, .ref (S.1 58)]) rfl ?_
    refine zk_iload C kd_Ln_write_95 3 rfl rfl ?_
    refine zk_bipush (v := 8) C kd_Ln_write_97 (by decide) rfl ?_
    refine zk_irem C kd_Ln_write_99 (by decide) rfl ?_
    refine zk_ishr C kd_Ln_write_100 rfl ?_
    refine zk_iconst (v := 1) C kd_Ln_write_101 (by decide) rfl ?_
    refine zk_iand C kd_Ln_write_102 rfl ?_
    obtain ⟨v5, h6, c4, e⟩ := zd_Be e
    refine zs_callV (k := 58) (rn := { frames := 0, cells := 0, slots := 0, locals := 0 }) (As := [.int 2, .int (x2 + x4), .int ((v3 >>> ((x4 - x4 / 8 * 8) &&& 31)) &&& 1)]) (rest := []) C (zc_Mc_change h 2 (x2 + x4) ((v3 >>> ((x4 - x4 / 8 * 8) &&& 31)) &&& 1) c4) ku_Mc_change kw1640 kv_Mc_change rfl ⟨by decide, by decide⟩ ⟨by decide, by decide⟩ rfl rfl rfl (Nat.le_of_ble_eq_true rfl) kd_Ln_write_103 rfl (c1 := 0) (s1 := 0) rfl rfl (fun v w hp => ?_)
    obtain ⟨rfl, rfl⟩ := hp
    refine zk_stk (r' := [.int v5]) rfl ?_
    refine zk_pop C kd_Ln_write_106 rfl rfl ?_
    refine zk_iinc (v := (x4 + 1)) (lv' := [(4, _), (0, _), (2, _), (3, _)]) C kd_Ln_write_107 3 rfl rfl (by decide) rfl rfl ?_
    refine zk_goto (tgt := 69) C kd_Ln_write_110 (by decide) ?_
    refine zk_lvs (lv' := [(0, .ref (S.1 66)), (2, .int x2), (3, .int x3), (4, .int (x4 + 1))]) [1, 2, 3, 0] rfl ?_
    exact hk69 h6 x2 x3 (x4 + 1) e
theorem zl_Ln_write_69 {X : zkj_T} {S : zs_T} {P : ze_T} {l : Launch} {D : va_G} {sz0 : Nat} {rh : zs_H} (C : zk_C X km_Ln_write (zs_G S l D sz0) { frames := 2, cells := 0, slots := 0, locals := 42 } (ze_E P)) (hR : zkj_R X (zd_PV S rh) (none)) (n : Nat) : ∀ (h : zs_H) (x2 : Int32) (x3 : Int32) (x4 : Int32), f_Ln_write_L69 n h x2 x3 x4 = some rh → zk_Ab X (zs_W S h) 0 0 69 [(0, .ref (S.1 66)), (2, .int x2), (3, .int x3), (4, .int x4)] [] := by
  induction n with
  | zero => intro h x2 x3 x4 e; exact zd_no e
  | succ n ih => intro h x2 x3 x4 e; exact zb_Ln_write_69 (k69 := f_Ln_write_L69  n) C hR ih h x2 x3 x4 e
set_option maxHeartbeats 4000000 in
set_option maxRecDepth 100000 in
theorem zb_Ln_write_125 {X : zkj_T} {S : zs_T} {P : ze_T} {l : Launch} {D : va_G} {sz0 : Nat} {rh : zs_H} (C : zk_C X km_Ln_write (zs_G S l D sz0) { frames := 2, cells := 0, slots := 0, locals := 42 } (ze_E P)) (hR : zkj_R X (zd_PV S rh) (none)) {k125 : zs_H → Int32 → Int32 → Int32 → (Option zs_H)} (hk125 : ∀ (h : zs_H) (x2 : Int32) (x3 : Int32) (x4 : Int32), k125 h x2 x3 x4 = some rh → zk_Ab X (zs_W S h) 0 0 125 [(0, .ref (S.1 66)), (2, .int x2), (3, .int x3), (4, .int x4)] []) (h : zs_H) (x2 : Int32) (x3 : Int32) (x4 : Int32) (e : f_Ln_write_125 k125 h x2 x3 x4 = some rh) : zk_Ab X (zs_W S h) 0 0 125 [(0, .ref (S.1 66)), (2, .int x2), (3, .int x3), (4, .int x4)] [] := by
  unfold f_Ln_write_125 at e
  refine zk_iload C kd_Ln_write_125 3 rfl rfl ?_
  refine zk_iload_n C kd_Ln_write_127 rfl 2 rfl rfl ?_
  refine zk_icmp_ge (tgt := 161) C kd_Ln_write_128 (by decide) rfl (fun b1 => ?_) (fun b1 => ?_)
  · replace e := zd_pos b1 e
    exact zk_vret C hR kd_Ln_write_161 rfl rfl (zd_rV e)
  · replace e := zd_neg b1 e
    refine zk_aload_n C kd_Ln_write_131 rfl 0 rfl rfl ?_
    refine zs_get (v := .ref (S.1 58)) C 66 3 rfl rfl rfl rfl ki_Ln (by decide) kw603 kd_Ln_write_132 rfl ?_
    refine zk_iconst (v := 5) C kd_Ln_write_135 (by decide) rfl ?_
    refine zk_iload_n C kd_Ln_write_136 rfl 1 rfl rfl ?_
    refine zk_iload C kd_Ln_write_137 3 rfl rfl ?_
    refine zk_iadd C kd_Ln_write_139 rfl ?_
    refine zk_aload_n C kd_Ln_write_140 rfl 0 rfl rfl ?_
    refine zk_iconst (v := 5) C kd_Ln_write_141 (by decide) rfl ?_
    refine zk_iconst (v := 2) C kd_Ln_write_142 (by decide) rfl ?_
    refine zk_iload C kd_Ln_write_143 3 rfl rfl ?_
    refine zk_imul C kd_Ln_write_145 rfl ?_
    refine zk_iadd C kd_Ln_write_146 rfl ?_
    obtain ⟨v3, c2, e⟩ := zd_b e
    refine zs_callV (k := 66) (rn := { frames := 1, cells := 0, slots := 0, locals := 21 }) (As := [.int (5 + (2 * x4))]) (rest := [.int (x2 + x4), .int 5, .ref (S.1 58)]) C (zc_Ln_number h (5 + (2 * x4)) c2) ku_Ln_number kw1624 kv_Ln_number rfl ⟨by decide, by decide⟩ ⟨by decide, by decide⟩ rfl rfl rfl (Nat.le_of_ble_eq_true rfl) kd_Ln_write_147 rfl (c1 := 0) (s1 := 0) rfl rfl (fun v w hp => ?_)
    obtain ⟨rfl, rfl⟩ := hp
    refine zk_stk (r' := [.int v3, .int (x2 + x4), .int 5, .ref (S.1 58)]) rfl ?_
    refine zk_i2s C kd_Ln_write_150 rfl ?_
    obtain ⟨v5, h6, c4, e⟩ := zd_Be e
    refine zs_callV (k := 58) (rn := { frames := 0, cells := 0, slots := 0, locals := 0 }) (As := [.int 5, .int (x2 + x4), .int (v3.toInt16.toInt32)]) (rest := []) C (zc_Mc_change h 5 (x2 + x4) (v3.toInt16.toInt32) c4) ku_Mc_change kw1640 kv_Mc_change rfl ⟨by decide, by decide⟩ ⟨by decide, by decide⟩ rfl rfl rfl (Nat.le_of_ble_eq_true rfl) kd_Ln_write_151 rfl (c1 := 0) (s1 := 0) rfl rfl (fun v w hp => ?_)
    obtain ⟨rfl, rfl⟩ := hp
    refine zk_stk (r' := [.int v5]) rfl ?_
    refine zk_pop C kd_Ln_write_154 rfl rfl ?_
    refine zk_iinc (v := (x4 + 1)) (lv' := [(4, _), (0, _), (2, _), (3, _)]) C kd_Ln_write_155 3 rfl rfl (by decide) rfl rfl ?_
    refine zk_goto (tgt := 125) C kd_Ln_write_158 (by decide) ?_
    refine zk_lvs (lv' := [(0, .ref (S.1 66)), (2, .int x2), (3, .int x3), (4, .int (x4 + 1))]) [1, 2, 3, 0] rfl ?_
    exact hk125 h6 x2 x3 (x4 + 1) e
theorem zl_Ln_write_125 {X : zkj_T} {S : zs_T} {P : ze_T} {l : Launch} {D : va_G} {sz0 : Nat} {rh : zs_H} (C : zk_C X km_Ln_write (zs_G S l D sz0) { frames := 2, cells := 0, slots := 0, locals := 42 } (ze_E P)) (hR : zkj_R X (zd_PV S rh) (none)) (n : Nat) : ∀ (h : zs_H) (x2 : Int32) (x3 : Int32) (x4 : Int32), f_Ln_write_L125 n h x2 x3 x4 = some rh → zk_Ab X (zs_W S h) 0 0 125 [(0, .ref (S.1 66)), (2, .int x2), (3, .int x3), (4, .int x4)] [] := by
  induction n with
  | zero => intro h x2 x3 x4 e; exact zd_no e
  | succ n ih => intro h x2 x3 x4 e; exact zb_Ln_write_125 (k125 := f_Ln_write_L125  n) C hR ih h x2 x3 x4 e
set_option maxHeartbeats 4000000 in
set_option maxRecDepth 100000 in
theorem zc_Ln_write {l : Launch} {D : va_G} {sz0 : Nat} {S : zs_T} {P : ze_T} (h : zs_H) (x1 : Int32) {rh : zs_H} (e : f_Ln_write h x1 = some rh) : zk_Sp (zs_G S l D sz0) (ze_E P) km_Ln_write { frames := 2, cells := 0, slots := 0, locals := 42 } [.ref (S.1 66), .int x1] (zs_W S h) (zd_PV S rh) := by
  refine zk_met ku_Ln_write (Nat.le_of_ble_eq_true rfl) (ze_Em P) ?_
  intro X C hR
  refine zk_lvs (lv' := [(0, .ref (S.1 66)), (1, .int x1)]) [0, 1] rfl ?_
  unfold f_Ln_write at e
  refine zk_aload_n C kd_Ln_write_0 rfl 0 rfl rfl ?_
  refine zk_iconst (v := 0) C kd_Ln_write_1 (by decide) rfl ?_
  obtain ⟨v2, c1, e⟩ := zd_b e
  refine zs_callV (k := 66) (rn := { frames := 1, cells := 0, slots := 0, locals := 21 }) (As := [.int 0]) (rest := []) C (zc_Ln_number h 0 c1) ku_Ln_number kw1624 kv_Ln_number rfl ⟨by decide, by decide⟩ ⟨by decide, by decide⟩ rfl rfl rfl (Nat.le_of_ble_eq_true rfl) kd_Ln_write_2 rfl (c1 := 0) (s1 := 0) rfl rfl (fun v w hp => ?_)
  obtain ⟨rfl, rfl⟩ := hp
  refine zk_stk (r' := [.int v2]) rfl ?_
  refine zk_istore_n (lv' := [(2, _), (0, _), (1, _)]) C kd_Ln_write_5 rfl (by decide) rfl rfl ?_
  refine zk_aload_n C kd_Ln_write_6 rfl 1 rfl rfl ?_
  refine zk_iconst (v := 2) C kd_Ln_write_7 (by decide) rfl ?_
  obtain ⟨v4, c3, e⟩ := zd_b e
  refine zs_callV (k := 66) (rn := { frames := 1, cells := 0, slots := 0, locals := 21 }) (As := [.int 2]) (rest := []) C (zc_Ln_number h 2 c3) ku_Ln_number kw1624 kv_Ln_number rfl ⟨by decide, by decide⟩ ⟨by decide, by decide⟩ rfl rfl rfl (Nat.le_of_ble_eq_true rfl) kd_Ln_write_8 rfl (c1 := 0) (s1 := 0) rfl rfl (fun v w hp => ?_)
  obtain ⟨rfl, rfl⟩ := hp
  refine zk_stk (r' := [.int v4]) rfl ?_
  refine zk_istore_n (lv' := [(3, _), (2, _), (0, _), (1, _)]) C kd_Ln_write_11 rfl (by decide) rfl rfl ?_
  refine zk_iload_n C kd_Ln_write_12 rfl 3 rfl rfl ?_
  refine zk_iconst (v := 5) C kd_Ln_write_13 (by decide) rfl ?_
  refine zk_icmp_ne (tgt := 39) C kd_Ln_write_14 (by decide) rfl (fun b5 => ?_) (fun b5 => ?_)
  · replace e := zd_neg b5 e
    refine zk_iload_n C kd_Ln_write_39 rfl 3 rfl rfl ?_
    refine zk_bipush (v := 6) C kd_Ln_write_40 (by decide) rfl ?_
    refine zk_icmp_ne (tgt := 60) C kd_Ln_write_42 (by decide) rfl (fun b6 => ?_) (fun b6 => ?_)
    · replace e := zd_neg b6 e
      refine zk_iload_n C kd_Ln_write_60 rfl 3 rfl rfl ?_
      refine zk_bipush (v := 15) C kd_Ln_write_61 (by decide) rfl ?_
      refine zk_icmp_ne (tgt := 116) C kd_Ln_write_63 (by decide) rfl (fun b7 => ?_) (fun b7 => ?_)
      · replace e := zd_neg b7 e
        refine zk_iload_n C kd_Ln_write_116 rfl 3 rfl rfl ?_
        refine zk_bipush (v := 16) C kd_Ln_write_117 (by decide) rfl ?_
        refine zk_icmp_ne (tgt := 161) C kd_Ln_write_119 (by decide) rfl (fun b8 => ?_) (fun b8 => ?_)
        · replace e := zd_neg b8 e
          exact zk_vret C hR kd_Ln_write_161 rfl rfl (zd_rV e)
        · replace e := zd_pos b8 e
          refine zk_iconst (v := 0) C kd_Ln_write_122 (by decide) rfl ?_
          refine zk_istore (lv' := [(4, _), (3, _), (2, _), (0, _), (1, _)]) C kd_Ln_write_123 (by decide) rfl rfl ?_
          refine zk_lvs (lv' := [(0, .ref (S.1 66)), (2, .int v2), (3, .int v4), (4, .int 0)]) [3, 2, 1, 0] rfl ?_
          exact zl_Ln_write_125 C hR zF h v2 v4 0 e
      · replace e := zd_pos b7 e
        refine zk_iconst (v := 0) C kd_Ln_write_66 (by decide) rfl ?_
        refine zk_istore (lv' := [(4, _), (3, _), (2, _), (0, _), (1, _)]) C kd_Ln_write_67 (by decide) rfl rfl ?_
        refine zk_lvs (lv' := [(0, .ref (S.1 66)), (2, .int v2), (3, .int v4), (4, .int 0)]) [3, 2, 1, 0] rfl ?_
        exact zl_Ln_write_69 C hR zF h v2 v4 0 e
    · replace e := zd_pos b6 e
      refine zk_aload_n C kd_Ln_write_45 rfl 2 rfl rfl ?_
      refine zs_get (v := .ref (S.1 58)) C 66 3 rfl rfl rfl rfl ki_Ln (by decide) kw603 kd_Ln_write_46 rfl ?_
      refine zk_iconst (v := 5) C kd_Ln_write_49 (by decide) rfl ?_
      refine zk_iload_n C kd_Ln_write_50 rfl 1 rfl rfl ?_
      refine zk_iload_n C kd_Ln_write_51 rfl 0 rfl rfl ?_
      refine zk_i2s C kd_Ln_write_52 rfl ?_
      obtain ⟨v10, h11, c9, e⟩ := zd_Be e
      refine zs_callV (k := 58) (rn := { frames := 0, cells := 0, slots := 0, locals := 0 }) (As := [.int 5, .int v2, .int (v4.toInt16.toInt32)]) (rest := []) C (zc_Mc_change h 5 v2 (v4.toInt16.toInt32) c9) ku_Mc_change kw1640 kv_Mc_change rfl ⟨by decide, by decide⟩ ⟨by decide, by decide⟩ rfl rfl rfl (Nat.le_of_ble_eq_true rfl) kd_Ln_write_53 rfl (c1 := 0) (s1 := 0) rfl rfl (fun v w hp => ?_)
      obtain ⟨rfl, rfl⟩ := hp
      refine zk_stk (r' := [.int v10]) rfl ?_
      refine zk_pop C kd_Ln_write_56 rfl rfl ?_
      refine zk_goto (tgt := 161) C kd_Ln_write_57 (by decide) ?_
      exact zk_vret C hR kd_Ln_write_161 rfl rfl (zd_rV e)
  · replace e := zd_pos b5 e
    refine zk_aload_n C kd_Ln_write_17 rfl 2 rfl rfl ?_
    refine zs_get (v := .ref (S.1 58)) C 66 3 rfl rfl rfl rfl ki_Ln (by decide) kw603 kd_Ln_write_18 rfl ?_
    refine zk_iconst (v := 2) C kd_Ln_write_21 (by decide) rfl ?_
    refine zk_iload_n C kd_Ln_write_22 rfl 1 rfl rfl ?_
    refine zk_iload_n C kd_Ln_write_23 rfl 0 rfl rfl ?_
    refine zk_if_ne (tgt := 31) C kd_Ln_write_24 (by decide) rfl (fun b12 => ?_) (fun b12 => ?_)
    · replace e := zd_neg b12 e
      refine zk_iconst (v := 1) C kd_Ln_write_31 (by decide) rfl ?_
      refine zk_lvs (lv' := []) [] rfl ?_
      exact zb_Ln_write_32 C hR h 1 v2 2 e
    · replace e := zd_pos b12 e
      refine zk_iconst (v := 0) C kd_Ln_write_27 (by decide) rfl ?_
      refine zk_goto (tgt := 32) C kd_Ln_write_28 (by decide) ?_
      refine zk_lvs (lv' := []) [] rfl ?_
      exact zb_Ln_write_32 C hR h 0 v2 2 e
set_option maxHeartbeats 4000000 in
set_option maxRecDepth 100000 in
theorem zc_Ln_send {l : Launch} {D : va_G} {sz0 : Nat} {S : zs_T} {P : ze_T} (h : zs_H) (x1 : Int32) {rh : zs_H} (e : f_Ln_send h x1 = some rh) : zk_Sp (zs_G S l D sz0) (ze_E P) km_Ln_send { frames := 0, cells := 0, slots := 0, locals := 0 } [.ref (S.1 66), .int x1] (zs_W S h) (zd_PV S rh) := by
  refine zk_met ku_Ln_send (Nat.le_of_ble_eq_true rfl) (ze_Em P) ?_
  intro X C hR
  refine zk_lvs (lv' := [(0, .ref (S.1 66)), (1, .int x1)]) [0, 1] rfl ?_
  unfold f_Ln_send at e
  refine zk_aload_n C kd_Ln_send_0 rfl 0 rfl rfl ?_
  refine zs_get (v := .int (h.1 66 1)) C 66 1 rfl rfl rfl rfl ki_Ln (by decide) kw599 kd_Ln_send_1 rfl ?_
  refine zk_aload_n C kd_Ln_send_4 rfl 0 rfl rfl ?_
  refine zs_get (v := .ref (S.1 67)) C 66 0 rfl rfl rfl rfl ki_Ln (by decide) kw597 kd_Ln_send_5 rfl ?_
  refine zs_alen (v := 256) C 67 rfl (by decide) rfl kd_Ln_send_8 rfl ?_
  refine zk_icmp_ge (tgt := 33) C kd_Ln_send_9 (by decide) rfl (fun b1 => ?_) (fun b1 => ?_)
  · replace e := zd_pos b1 e
    exact zk_vret C hR kd_Ln_send_33 rfl rfl (zd_rV e)
  · replace e := zd_neg b1 e
    refine zk_aload_n C kd_Ln_send_12 rfl 0 rfl rfl ?_
    refine zs_get (v := .ref (S.1 67)) C 66 0 rfl rfl rfl rfl ki_Ln (by decide) kw597 kd_Ln_send_13 rfl ?_
    refine zk_aload_n C kd_Ln_send_16 rfl 0 rfl rfl ?_
    refine zs_get (v := .int (h.1 66 1)) C 66 1 rfl rfl rfl rfl ki_Ln (by decide) kw599 kd_Ln_send_17 rfl ?_
    refine zk_iload_n C kd_Ln_send_20 rfl 1 rfl rfl ?_
    refine zk_i2b C kd_Ln_send_21 rfl ?_
    obtain ⟨q2, e⟩ := zd_g e
    refine zs_bast C 67 rfl (zd_vp q2) kd_Ln_send_22 rfl ?_
    refine zk_aload_n C kd_Ln_send_23 rfl 0 rfl rfl ?_
    refine zk_dup C kd_Ln_send_24 rfl rfl ?_
    refine zs_get (v := .int (h.1 66 1)) C 66 1 rfl rfl rfl rfl ki_Ln (by decide) kw599 kd_Ln_send_25 rfl ?_
    refine zk_iconst (v := 1) C kd_Ln_send_28 (by decide) rfl ?_
    refine zk_iadd C kd_Ln_send_29 rfl ?_
    refine zs_put (ty := .int) C 66 1 ((h.1 66 1) + 1) rfl rfl rfl rfl ki_Ln ky_Ln ko_Ln kn_Ln (by decide) kw599 rfl rfl rfl rfl (by decide) kd_Ln_send_30 rfl ?_
    exact zk_vret C hR kd_Ln_send_33 rfl rfl (zd_rV e)
set_option maxHeartbeats 4000000 in
set_option maxRecDepth 100000 in
theorem zb_Mc_seen_18 {X : zkj_T} {S : zs_T} {P : ze_T} {l : Launch} {D : va_G} {sz0 : Nat} {rv : Int32} {h : zs_H} (C : zk_C X km_Mc_seen (zs_G S l D sz0) { frames := 0, cells := 0, slots := 0, locals := 0 } (ze_E P)) (hR : zkj_R X (zd_PI S rv h) (some .int)) (x3 : Int32) (e : f_Mc_seen_18 h x3 = some rv) : zk_Ab X (zs_W S h) 0 0 18 [(0, .ref (S.1 58)), (3, .int x3)] [] := by
  unfold f_Mc_seen_18 at e
  refine zk_aload_n C kd_Mc_seen_18 rfl 0 rfl rfl ?_
  refine zs_get (v := .ref (S.1 62)) C 58 12 rfl rfl rfl rfl ki_Mc (by decide) kw539 kd_Mc_seen_19 rfl ?_
  refine zk_iload_n C kd_Mc_seen_22 rfl 1 rfl rfl ?_
  obtain ⟨q1, e⟩ := zd_g e
  refine zs_iald C 62 rfl (zd_vp q1) kd_Mc_seen_23 rfl ?_
  exact zk_iret C hR kd_Mc_seen_24 rfl rfl (zd_rIO e)
set_option maxHeartbeats 4000000 in
set_option maxRecDepth 100000 in
theorem zb_Mc_seen_35 {X : zkj_T} {S : zs_T} {P : ze_T} {l : Launch} {D : va_G} {sz0 : Nat} {rv : Int32} {h : zs_H} (C : zk_C X km_Mc_seen (zs_G S l D sz0) { frames := 0, cells := 0, slots := 0, locals := 0 } (ze_E P)) (hR : zkj_R X (zd_PI S rv h) (some .int)) (x3 : Int32) (e : f_Mc_seen_35 h x3 = some rv) : zk_Ab X (zs_W S h) 0 0 35 [(0, .ref (S.1 58)), (3, .int x3)] [] := by
  unfold f_Mc_seen_35 at e
  refine zk_aload_n C kd_Mc_seen_35 rfl 0 rfl rfl ?_
  refine zs_get (v := .ref (S.1 60)) C 58 1 rfl rfl rfl rfl ki_Mc (by decide) kw519 kd_Mc_seen_36 rfl ?_
  refine zk_iload_n C kd_Mc_seen_39 rfl 1 rfl rfl ?_
  obtain ⟨q1, e⟩ := zd_g e
  refine zs_iald C 60 rfl (zd_vp q1) kd_Mc_seen_40 rfl ?_
  refine zk_goto (tgt := 50) C kd_Mc_seen_41 (by decide) ?_
  exact zk_iret C hR kd_Mc_seen_50 rfl rfl (zd_rIO e)
set_option maxHeartbeats 4000000 in
set_option maxRecDepth 100000 in
theorem zc_Mc_seen {l : Launch} {D : va_G} {sz0 : Nat} {S : zs_T} {P : ze_T} (h : zs_H) (x1 : Int32) (x2 : Int32) {rv : Int32} (e : f_Mc_seen h x1 x2 = some rv) : zk_Sp (zs_G S l D sz0) (ze_E P) km_Mc_seen { frames := 0, cells := 0, slots := 0, locals := 0 } [.ref (S.1 58), .int x1, .int x2] (zs_W S h) (zd_PI S rv h) := by
  refine zk_met ku_Mc_seen (Nat.le_of_ble_eq_true rfl) (ze_Em P) ?_
  intro X C hR
  refine zk_lvs (lv' := [(0, .ref (S.1 58)), (1, .int x1), (2, .int x2)]) [0, 1, 2] rfl ?_
  unfold f_Mc_seen at e
  refine ze_getsN (j := 3) (host := "PlantKeeper") C rfl (by decide +kernel) kd_Mc_seen_0 rfl ?_
  refine zk_iload_n C kd_Mc_seen_3 rfl 1 rfl rfl ?_
  obtain ⟨q1, e⟩ := zd_g e
  refine ze_ti C rfl (zd_vp q1) kd_Mc_seen_4 rfl ?_
  refine zk_stk (r' := [.int (zt_3.getD x1.toNatClampNeg 0)]) rfl ?_
  refine zk_iload_n C kd_Mc_seen_5 rfl 2 rfl rfl ?_
  refine zk_iadd C kd_Mc_seen_6 rfl ?_
  refine zk_istore_n (lv' := [(3, _), (0, _), (1, _), (2, _)]) C kd_Mc_seen_7 rfl (by decide) rfl rfl ?_
  refine zk_iload_n C kd_Mc_seen_8 rfl 2 rfl rfl ?_
  refine zk_iconst (v := 2) C kd_Mc_seen_9 (by decide) rfl ?_
  refine zk_icmp_eq (tgt := 18) C kd_Mc_seen_10 (by decide) rfl (fun b2 => ?_) (fun b2 => ?_)
  · replace e := zd_pos b2 e
    refine zk_lvs (lv' := [(0, .ref (S.1 58)), (3, .int ((zt_3.getD x1.toNatClampNeg 0) + x2))]) [1, 0] rfl ?_
    exact zb_Mc_seen_18 C hR ((zt_3.getD x1.toNatClampNeg 0) + x2) e
  · replace e := zd_neg b2 e
    refine zk_iload_n C kd_Mc_seen_13 rfl 2 rfl rfl ?_
    refine zk_iconst (v := 5) C kd_Mc_seen_14 (by decide) rfl ?_
    refine zk_icmp_ne (tgt := 25) C kd_Mc_seen_15 (by decide) rfl (fun b3 => ?_) (fun b3 => ?_)
    · replace e := zd_neg b3 e
      refine zk_iload_n C kd_Mc_seen_25 rfl 2 rfl rfl ?_
      refine zk_iconst (v := 1) C kd_Mc_seen_26 (by decide) rfl ?_
      refine zk_icmp_eq (tgt := 35) C kd_Mc_seen_27 (by decide) rfl (fun b4 => ?_) (fun b4 => ?_)
      · replace e := zd_pos b4 e
        refine zk_lvs (lv' := [(0, .ref (S.1 58)), (3, .int ((zt_3.getD x1.toNatClampNeg 0) + x2))]) [1, 0] rfl ?_
        exact zb_Mc_seen_35 C hR ((zt_3.getD x1.toNatClampNeg 0) + x2) e
      · replace e := zd_neg b4 e
        refine zk_iload_n C kd_Mc_seen_30 rfl 2 rfl rfl ?_
        refine zk_iconst (v := 4) C kd_Mc_seen_31 (by decide) rfl ?_
        refine zk_icmp_ne (tgt := 44) C kd_Mc_seen_32 (by decide) rfl (fun b5 => ?_) (fun b5 => ?_)
        · replace e := zd_neg b5 e
          refine zk_aload_n C kd_Mc_seen_44 rfl 1 rfl rfl ?_
          refine zs_get (v := .ref (S.1 59)) C 58 0 rfl rfl rfl rfl ki_Mc (by decide) kw518 kd_Mc_seen_45 rfl ?_
          refine zk_iload_n C kd_Mc_seen_48 rfl 0 rfl rfl ?_
          obtain ⟨q6, e⟩ := zd_g e
          refine zs_iald C 59 rfl (zd_vp q6) kd_Mc_seen_49 rfl ?_
          exact zk_iret C hR kd_Mc_seen_50 rfl rfl (zd_rIO e)
        · replace e := zd_pos b5 e
          refine zk_lvs (lv' := [(0, .ref (S.1 58)), (3, .int ((zt_3.getD x1.toNatClampNeg 0) + x2))]) [1, 0] rfl ?_
          exact zb_Mc_seen_35 C hR ((zt_3.getD x1.toNatClampNeg 0) + x2) e
    · replace e := zd_pos b3 e
      refine zk_lvs (lv' := [(0, .ref (S.1 58)), (3, .int ((zt_3.getD x1.toNatClampNeg 0) + x2))]) [1, 0] rfl ?_
      exact zb_Mc_seen_18 C hR ((zt_3.getD x1.toNatClampNeg 0) + x2) e
set_option maxHeartbeats 4000000 in
set_option maxRecDepth 100000 in
theorem zc_Ln_lamp {l : Launch} {D : va_G} {sz0 : Nat} {S : zs_T} {P : ze_T} (h : zs_H) (x1 : Int32) {rv : Int32} (e : f_Ln_lamp h x1 = some rv) : zk_Sp (zs_G S l D sz0) (ze_E P) km_Ln_lamp { frames := 1, cells := 0, slots := 0, locals := 23 } [.ref (S.1 66), .int x1] (zs_W S h) (zd_PI S rv h) := by
  refine zk_met ku_Ln_lamp (Nat.le_of_ble_eq_true rfl) (ze_Em P) ?_
  intro X C hR
  refine zk_lvs (lv' := [(0, .ref (S.1 66)), (1, .int x1)]) [0, 1] rfl ?_
  unfold f_Ln_lamp at e
  refine zk_iload_n C kd_Ln_lamp_0 rfl 1 rfl rfl ?_
  refine zk_sipush (v := 256) C kd_Ln_lamp_1 (by decide) rfl ?_
  refine zk_icmp_ge (tgt := 19) C kd_Ln_lamp_4 (by decide) rfl (fun b1 => ?_) (fun b1 => ?_)
  · replace e := zd_pos b1 e
    refine zk_aload_n C kd_Ln_lamp_19 rfl 0 rfl rfl ?_
    refine zs_get (v := .ref (S.1 58)) C 66 3 rfl rfl rfl rfl ki_Ln (by decide) kw603 kd_Ln_lamp_20 rfl ?_
    refine zk_iconst (v := 1) C kd_Ln_lamp_23 (by decide) rfl ?_
    refine zk_iload_n C kd_Ln_lamp_24 rfl 1 rfl rfl ?_
    refine zk_sipush (v := 256) C kd_Ln_lamp_25 (by decide) rfl ?_
    refine zk_isub C kd_Ln_lamp_28 rfl ?_
    obtain ⟨v3, c2, e⟩ := zd_b e
    refine zs_callV (k := 58) (rn := { frames := 0, cells := 0, slots := 0, locals := 0 }) (As := [.int 1, .int (x1 - 256)]) (rest := []) C (zc_Mc_seen h 1 (x1 - 256) c2) ku_Mc_seen kw1654 kv_Mc_seen rfl ⟨by decide, by decide⟩ ⟨by decide, by decide⟩ rfl rfl rfl (Nat.le_of_ble_eq_true rfl) kd_Ln_lamp_29 rfl (c1 := 0) (s1 := 0) rfl rfl (fun v w hp => ?_)
    obtain ⟨rfl, rfl⟩ := hp
    refine zk_stk (r' := [.int v3]) rfl ?_
    exact zk_iret C hR kd_Ln_lamp_32 rfl rfl (zd_rIO e)
  · replace e := zd_neg b1 e
    refine zk_aload_n C kd_Ln_lamp_7 rfl 0 rfl rfl ?_
    refine zs_get (v := .ref (S.1 58)) C 66 3 rfl rfl rfl rfl ki_Ln (by decide) kw603 kd_Ln_lamp_8 rfl ?_
    refine zk_iconst (v := 0) C kd_Ln_lamp_11 (by decide) rfl ?_
    refine zk_iload_n C kd_Ln_lamp_12 rfl 1 rfl rfl ?_
    obtain ⟨v5, c4, e⟩ := zd_b e
    refine zs_callV (k := 58) (rn := { frames := 0, cells := 0, slots := 0, locals := 0 }) (As := [.int 0, .int x1]) (rest := []) C (zc_Mc_seen h 0 x1 c4) ku_Mc_seen kw1654 kv_Mc_seen rfl ⟨by decide, by decide⟩ ⟨by decide, by decide⟩ rfl rfl rfl (Nat.le_of_ble_eq_true rfl) kd_Ln_lamp_13 rfl (c1 := 0) (s1 := 0) rfl rfl (fun v w hp => ?_)
    obtain ⟨rfl, rfl⟩ := hp
    refine zk_stk (r' := [.int v5]) rfl ?_
    refine zk_goto (tgt := 32) C kd_Ln_lamp_16 (by decide) ?_
    exact zk_iret C hR kd_Ln_lamp_32 rfl rfl (zd_rIO e)
set_option maxHeartbeats 4000000 in
set_option maxRecDepth 100000 in
theorem zb_Ln_bitsFrom_40 {X : zkj_T} {S : zs_T} {P : ze_T} {l : Launch} {D : va_G} {sz0 : Nat} {rv : Int32} {h : zs_H} (C : zk_C X km_Ln_bitsFrom (zs_G S l D sz0) { frames := 2, cells := 0, slots := 0, locals := 44 } (ze_E P)) (hR : zkj_R X (zd_PI S rv h) (some .int)) {k6 : Int32 → Int32 → Int32 → Int32 → Int32 → (Option Int32)} (hk6 : ∀ (x1 : Int32) (x2 : Int32) (x3 : Int32) (x4 : Int32) (x5 : Int32), k6 x1 x2 x3 x4 x5 = some rv → zk_Ab X (zs_W S h) 0 0 6 [(0, .ref (S.1 66)), (1, .int x1), (2, .int x2), (3, .int x3), (4, .int x4), (5, .int x5)] []) (x1 : Int32) (x2 : Int32) (x3 : Int32) (x4 : Int32) (x5 : Int32) (y0 : Int32) (e : f_Ln_bitsFrom_40 h k6 x1 x2 x3 x4 x5 y0 = some rv) : zk_Ab X (zs_W S h) 0 0 40 [(0, .ref (S.1 66)), (1, .int x1), (2, .int x2), (3, .int x3), (4, .int x4), (5, .int x5)] [.int y0] := by
  unfold f_Ln_bitsFrom_40 at e
  refine zk_istore (lv' := [(6, _), (0, _), (1, _), (2, _), (3, _), (4, _), (5, _)]) C kd_Ln_bitsFrom_40 (by decide) rfl rfl ?_
  refine zk_iload C kd_Ln_bitsFrom_42 5 rfl rfl ?_
  refine zk_iload C kd_Ln_bitsFrom_44 0 rfl rfl ?_
  refine zk_iload C kd_Ln_bitsFrom_46 6 rfl rfl ?_
  refine zk_ishl C kd_Ln_bitsFrom_48 rfl ?_
  refine zk_ior C kd_Ln_bitsFrom_49 rfl ?_
  refine zk_istore (lv' := [(4, _), (6, _), (0, _), (1, _), (2, _), (3, _), (5, _)]) C kd_Ln_bitsFrom_50 (by decide) rfl rfl ?_
  refine zk_iinc (v := (x5 + 1)) (lv' := [(5, _), (4, _), (6, _), (0, _), (1, _), (2, _), (3, _)]) C kd_Ln_bitsFrom_52 6 rfl rfl (by decide) rfl rfl ?_
  refine zk_goto (tgt := 6) C kd_Ln_bitsFrom_55 (by decide) ?_
  refine zk_lvs (lv' := [(0, .ref (S.1 66)), (1, .int x1), (2, .int x2), (3, .int x3), (4, .int (x4 ||| (y0 <<< (x5 &&& 31)))), (5, .int (x5 + 1))]) [3, 4, 5, 6, 1, 0] rfl ?_
  exact hk6 x1 x2 x3 (x4 ||| (y0 <<< (x5 &&& 31))) (x5 + 1) e
set_option maxHeartbeats 4000000 in
set_option maxRecDepth 100000 in
theorem zb_Ln_bitsFrom_6 {X : zkj_T} {S : zs_T} {P : ze_T} {l : Launch} {D : va_G} {sz0 : Nat} {rv : Int32} {h : zs_H} (C : zk_C X km_Ln_bitsFrom (zs_G S l D sz0) { frames := 2, cells := 0, slots := 0, locals := 44 } (ze_E P)) (hR : zkj_R X (zd_PI S rv h) (some .int)) {k6 : Int32 → Int32 → Int32 → Int32 → Int32 → (Option Int32)} (hk6 : ∀ (x1 : Int32) (x2 : Int32) (x3 : Int32) (x4 : Int32) (x5 : Int32), k6 x1 x2 x3 x4 x5 = some rv → zk_Ab X (zs_W S h) 0 0 6 [(0, .ref (S.1 66)), (1, .int x1), (2, .int x2), (3, .int x3), (4, .int x4), (5, .int x5)] []) (x1 : Int32) (x2 : Int32) (x3 : Int32) (x4 : Int32) (x5 : Int32) (e : f_Ln_bitsFrom_6 h k6 x1 x2 x3 x4 x5 = some rv) : zk_Ab X (zs_W S h) 0 0 6 [(0, .ref (S.1 66)), (1, .int x1), (2, .int x2), (3, .int x3), (4, .int x4), (5, .int x5)] [] := by
  unfold f_Ln_bitsFrom_6 at e
  refine zk_iload C kd_Ln_bitsFrom_6 5 rfl rfl ?_
  refine zk_iload_n C kd_Ln_bitsFrom_8 rfl 3 rfl rfl ?_
  refine zk_icmp_ge (tgt := 58) C kd_Ln_bitsFrom_9 (by decide) rfl (fun b1 => ?_) (fun b1 => ?_)
  · replace e := zd_pos b1 e
    refine zk_iload C kd_Ln_bitsFrom_58 4 rfl rfl ?_
    exact zk_iret C hR kd_Ln_bitsFrom_60 rfl rfl (zd_rIO e)
  · replace e := zd_neg b1 e
    refine zk_iload_n C kd_Ln_bitsFrom_12 rfl 1 rfl rfl ?_
    refine zk_iconst (v := 1) C kd_Ln_bitsFrom_13 (by decide) rfl ?_
    refine zk_icmp_ne (tgt := 32) C kd_Ln_bitsFrom_14 (by decide) rfl (fun b2 => ?_) (fun b2 => ?_)
    · replace e := zd_neg b2 e
      refine zk_aload_n C kd_Ln_bitsFrom_32 rfl 0 rfl rfl ?_
      refine zk_iload_n C kd_Ln_bitsFrom_33 rfl 2 rfl rfl ?_
      refine zk_iload C kd_Ln_bitsFrom_34 5 rfl rfl ?_
      refine zk_iadd C kd_Ln_bitsFrom_36 rfl ?_
      obtain ⟨v4, c3, e⟩ := zd_b e
      refine zs_callV (k := 66) (rn := { frames := 1, cells := 0, slots := 0, locals := 23 }) (As := [.int (x2 + x5)]) (rest := []) C (zc_Ln_lamp h (x2 + x5) c3) ku_Ln_lamp kw1655 kv_Ln_lamp rfl ⟨by decide, by decide⟩ ⟨by decide, by decide⟩ rfl rfl rfl (Nat.le_of_ble_eq_true rfl) kd_Ln_bitsFrom_37 rfl (c1 := 0) (s1 := 0) rfl rfl (fun v w hp => ?_)
      obtain ⟨rfl, rfl⟩ := hp
      refine zk_stk (r' := [.int v4]) rfl ?_
      refine zk_lvs (lv' := [(0, .ref (S.1 66)), (1, .int x1), (2, .int x2), (3, .int x3), (4, .int x4), (5, .int x5)]) [0, 1, 2, 3, 4, 5] rfl ?_
      exact zb_Ln_bitsFrom_40 C hR hk6 x1 x2 x3 x4 x5 v4 e
    · replace e := zd_pos b2 e
      refine zk_aload_n C kd_Ln_bitsFrom_17 rfl 0 rfl rfl ?_
      refine zs_get (v := .ref (S.1 58)) C 66 3 rfl rfl rfl rfl ki_Ln (by decide) kw603 kd_Ln_bitsFrom_18 rfl ?_
      refine zk_iconst (v := 2) C kd_Ln_bitsFrom_21 (by decide) rfl ?_
      refine zk_iload_n C kd_Ln_bitsFrom_22 rfl 2 rfl rfl ?_
      refine zk_iload C kd_Ln_bitsFrom_23 5 rfl rfl ?_
      refine zk_iadd C kd_Ln_bitsFrom_25 rfl ?_
      obtain ⟨v6, c5, e⟩ := zd_b e
      refine zs_callV (k := 58) (rn := { frames := 0, cells := 0, slots := 0, locals := 0 }) (As := [.int 2, .int (x2 + x5)]) (rest := []) C (zc_Mc_seen h 2 (x2 + x5) c5) ku_Mc_seen kw1654 kv_Mc_seen rfl ⟨by decide, by decide⟩ ⟨by decide, by decide⟩ rfl rfl rfl (Nat.le_of_ble_eq_true rfl) kd_Ln_bitsFrom_26 rfl (c1 := 0) (s1 := 0) rfl rfl (fun v w hp => ?_)
      obtain ⟨rfl, rfl⟩ := hp
      refine zk_stk (r' := [.int v6]) rfl ?_
      refine zk_goto (tgt := 40) C kd_Ln_bitsFrom_29 (by decide) ?_
      refine zk_lvs (lv' := [(0, .ref (S.1 66)), (1, .int x1), (2, .int x2), (3, .int x3), (4, .int x4), (5, .int x5)]) [0, 1, 2, 3, 4, 5] rfl ?_
      exact zb_Ln_bitsFrom_40 C hR hk6 x1 x2 x3 x4 x5 v6 e
theorem zl_Ln_bitsFrom_6 {X : zkj_T} {S : zs_T} {P : ze_T} {l : Launch} {D : va_G} {sz0 : Nat} {rv : Int32} {h : zs_H} (C : zk_C X km_Ln_bitsFrom (zs_G S l D sz0) { frames := 2, cells := 0, slots := 0, locals := 44 } (ze_E P)) (hR : zkj_R X (zd_PI S rv h) (some .int)) (n : Nat) : ∀ (x1 : Int32) (x2 : Int32) (x3 : Int32) (x4 : Int32) (x5 : Int32), f_Ln_bitsFrom_L6 h n x1 x2 x3 x4 x5 = some rv → zk_Ab X (zs_W S h) 0 0 6 [(0, .ref (S.1 66)), (1, .int x1), (2, .int x2), (3, .int x3), (4, .int x4), (5, .int x5)] [] := by
  induction n with
  | zero => intro x1 x2 x3 x4 x5 e; exact zd_no e
  | succ n ih => intro x1 x2 x3 x4 x5 e; exact zb_Ln_bitsFrom_6 (k6 := f_Ln_bitsFrom_L6 h n) C hR ih x1 x2 x3 x4 x5 e
set_option maxHeartbeats 4000000 in
set_option maxRecDepth 100000 in
theorem zc_Ln_bitsFrom {l : Launch} {D : va_G} {sz0 : Nat} {S : zs_T} {P : ze_T} (h : zs_H) (x1 : Int32) (x2 : Int32) (x3 : Int32) {rv : Int32} (e : f_Ln_bitsFrom h x1 x2 x3 = some rv) : zk_Sp (zs_G S l D sz0) (ze_E P) km_Ln_bitsFrom { frames := 2, cells := 0, slots := 0, locals := 44 } [.ref (S.1 66), .int x1, .int x2, .int x3] (zs_W S h) (zd_PI S rv h) := by
  refine zk_met ku_Ln_bitsFrom (Nat.le_of_ble_eq_true rfl) (ze_Em P) ?_
  intro X C hR
  refine zk_lvs (lv' := [(0, .ref (S.1 66)), (1, .int x1), (2, .int x2), (3, .int x3)]) [0, 1, 2, 3] rfl ?_
  unfold f_Ln_bitsFrom at e
  refine zk_iconst (v := 0) C kd_Ln_bitsFrom_0 (by decide) rfl ?_
  refine zk_istore (lv' := [(4, _), (0, _), (1, _), (2, _), (3, _)]) C kd_Ln_bitsFrom_1 (by decide) rfl rfl ?_
  refine zk_iconst (v := 0) C kd_Ln_bitsFrom_3 (by decide) rfl ?_
  refine zk_istore (lv' := [(5, _), (4, _), (0, _), (1, _), (2, _), (3, _)]) C kd_Ln_bitsFrom_4 (by decide) rfl rfl ?_
  refine zk_lvs (lv' := [(0, .ref (S.1 66)), (1, .int x1), (2, .int x2), (3, .int x3), (4, .int 0), (5, .int 0)]) [2, 3, 4, 5, 1, 0] rfl ?_
  exact zl_Ln_bitsFrom_6 C hR zF x1 x2 x3 0 0 e
set_option maxHeartbeats 4000000 in
set_option maxRecDepth 100000 in
theorem zc_Ln_meter {l : Launch} {D : va_G} {sz0 : Nat} {S : zs_T} {P : ze_T} (h : zs_H) (x1 : Int32) {rv : Int32} (e : f_Ln_meter h x1 = some rv) : zk_Sp (zs_G S l D sz0) (ze_E P) km_Ln_meter { frames := 1, cells := 0, slots := 0, locals := 23 } [.ref (S.1 66), .int x1] (zs_W S h) (zd_PI S rv h) := by
  refine zk_met ku_Ln_meter (Nat.le_of_ble_eq_true rfl) (ze_Em P) ?_
  intro X C hR
  refine zk_lvs (lv' := [(0, .ref (S.1 66)), (1, .int x1)]) [0, 1] rfl ?_
  unfold f_Ln_meter at e
  refine zk_iload_n C kd_Ln_meter_0 rfl 1 rfl rfl ?_
  refine zk_bipush (v := 64) C kd_Ln_meter_1 (by decide) rfl ?_
  refine zk_icmp_ge (tgt := 18) C kd_Ln_meter_3 (by decide) rfl (fun b1 => ?_) (fun b1 => ?_)
  · replace e := zd_pos b1 e
    refine zk_aload_n C kd_Ln_meter_18 rfl 0 rfl rfl ?_
    refine zs_get (v := .ref (S.1 58)) C 66 3 rfl rfl rfl rfl ki_Ln (by decide) kw603 kd_Ln_meter_19 rfl ?_
    refine zk_iconst (v := 4) C kd_Ln_meter_22 (by decide) rfl ?_
    refine zk_iload_n C kd_Ln_meter_23 rfl 1 rfl rfl ?_
    refine zk_bipush (v := 64) C kd_Ln_meter_24 (by decide) rfl ?_
    refine zk_isub C kd_Ln_meter_26 rfl ?_
    obtain ⟨v3, c2, e⟩ := zd_b e
    refine zs_callV (k := 58) (rn := { frames := 0, cells := 0, slots := 0, locals := 0 }) (As := [.int 4, .int (x1 - 64)]) (rest := []) C (zc_Mc_seen h 4 (x1 - 64) c2) ku_Mc_seen kw1654 kv_Mc_seen rfl ⟨by decide, by decide⟩ ⟨by decide, by decide⟩ rfl rfl rfl (Nat.le_of_ble_eq_true rfl) kd_Ln_meter_27 rfl (c1 := 0) (s1 := 0) rfl rfl (fun v w hp => ?_)
    obtain ⟨rfl, rfl⟩ := hp
    refine zk_stk (r' := [.int v3]) rfl ?_
    exact zk_iret C hR kd_Ln_meter_30 rfl rfl (zd_rIO e)
  · replace e := zd_neg b1 e
    refine zk_aload_n C kd_Ln_meter_6 rfl 0 rfl rfl ?_
    refine zs_get (v := .ref (S.1 58)) C 66 3 rfl rfl rfl rfl ki_Ln (by decide) kw603 kd_Ln_meter_7 rfl ?_
    refine zk_iconst (v := 3) C kd_Ln_meter_10 (by decide) rfl ?_
    refine zk_iload_n C kd_Ln_meter_11 rfl 1 rfl rfl ?_
    obtain ⟨v5, c4, e⟩ := zd_b e
    refine zs_callV (k := 58) (rn := { frames := 0, cells := 0, slots := 0, locals := 0 }) (As := [.int 3, .int x1]) (rest := []) C (zc_Mc_seen h 3 x1 c4) ku_Mc_seen kw1654 kv_Mc_seen rfl ⟨by decide, by decide⟩ ⟨by decide, by decide⟩ rfl rfl rfl (Nat.le_of_ble_eq_true rfl) kd_Ln_meter_12 rfl (c1 := 0) (s1 := 0) rfl rfl (fun v w hp => ?_)
    obtain ⟨rfl, rfl⟩ := hp
    refine zk_stk (r' := [.int v5]) rfl ?_
    refine zk_goto (tgt := 30) C kd_Ln_meter_15 (by decide) ?_
    exact zk_iret C hR kd_Ln_meter_30 rfl rfl (zd_rIO e)
set_option maxHeartbeats 4000000 in
set_option maxRecDepth 100000 in
theorem zb_Ln_reply_36 {X : zkj_T} {S : zs_T} {P : ze_T} {l : Launch} {D : va_G} {sz0 : Nat} {rh : zs_H} (C : zk_C X km_Ln_reply (zs_G S l D sz0) { frames := 3, cells := 0, slots := 0, locals := 70 } (ze_E P)) (hR : zkj_R X (zd_PV S rh) (none)) {k36 : zs_H → Int32 → Int32 → Int32 → Int32 → (Option zs_H)} (hk36 : ∀ (h : zs_H) (x1 : Int32) (x2 : Int32) (x3 : Int32) (x4 : Int32), k36 h x1 x2 x3 x4 = some rh → zk_Ab X (zs_W S h) 0 0 36 [(0, .ref (S.1 66)), (1, .int x1), (2, .int x2), (3, .int x3), (4, .int x4)] []) (h : zs_H) (x1 : Int32) (x2 : Int32) (x3 : Int32) (x4 : Int32) (e : f_Ln_reply_36 k36 h x1 x2 x3 x4 = some rh) : zk_Ab X (zs_W S h) 0 0 36 [(0, .ref (S.1 66)), (1, .int x1), (2, .int x2), (3, .int x3), (4, .int x4)] [] := by
  unfold f_Ln_reply_36 at e
  refine zk_iload C kd_Ln_reply_36 4 rfl rfl ?_
  refine zk_iload_n C kd_Ln_reply_38 rfl 3 rfl rfl ?_
  refine zk_icmp_ge (tgt := 70) C kd_Ln_reply_39 (by decide) rfl (fun b1 => ?_) (fun b1 => ?_)
  · replace e := zd_pos b1 e
    refine zk_goto (tgt := 173) C kd_Ln_reply_70 (by decide) ?_
    exact zk_vret C hR kd_Ln_reply_173 rfl rfl (zd_rV e)
  · replace e := zd_neg b1 e
    refine zk_aload_n C kd_Ln_reply_42 rfl 0 rfl rfl ?_
    refine zk_aload_n C kd_Ln_reply_43 rfl 0 rfl rfl ?_
    refine zk_iload_n C kd_Ln_reply_44 rfl 1 rfl rfl ?_
    refine zk_iload_n C kd_Ln_reply_45 rfl 2 rfl rfl ?_
    refine zk_iload C kd_Ln_reply_46 4 rfl rfl ?_
    refine zk_iadd C kd_Ln_reply_48 rfl ?_
    refine zk_bipush (v := 8) C kd_Ln_reply_49 (by decide) rfl ?_
    refine zk_iload_n C kd_Ln_reply_51 rfl 3 rfl rfl ?_
    refine zk_iload C kd_Ln_reply_52 4 rfl rfl ?_
    refine zk_isub C kd_Ln_reply_54 rfl ?_
    refine zk_mmin C kw1649 kw816 kw19 (by decide) (Nat.le_of_ble_eq_true rfl) (Nat.le_refl _) (Nat.le_refl _) kd_Ln_reply_55 rfl ?_
    obtain ⟨v3, c2, e⟩ := zd_b e
    refine zs_callV (k := 66) (rn := { frames := 2, cells := 0, slots := 0, locals := 44 }) (As := [.int x1, .int (x2 + x4), .int (zd_min 8 (x3 - x4))]) (rest := [.ref (S.1 66)]) C (zc_Ln_bitsFrom h x1 (x2 + x4) (zd_min 8 (x3 - x4)) c2) ku_Ln_bitsFrom kw1650 kv_Ln_bitsFrom rfl ⟨by decide, by decide⟩ ⟨by decide, by decide⟩ rfl rfl rfl (Nat.le_of_ble_eq_true rfl) kd_Ln_reply_58 rfl (c1 := 0) (s1 := 0) rfl rfl (fun v w hp => ?_)
    obtain ⟨rfl, rfl⟩ := hp
    refine zk_stk (r' := [.int v3, .ref (S.1 66)]) rfl ?_
    obtain ⟨h5, c4, e⟩ := zd_b e
    refine zs_callV (k := 66) (rn := { frames := 0, cells := 0, slots := 0, locals := 0 }) (As := [.int v3]) (rest := []) C (zc_Ln_send h v3 c4) ku_Ln_send kw1641 kv_Ln_send rfl ⟨by decide, by decide⟩ ⟨by decide, by decide⟩ rfl rfl rfl (Nat.le_of_ble_eq_true rfl) kd_Ln_reply_61 rfl (c1 := 0) (s1 := 0) rfl rfl (fun v w hp => ?_)
    obtain ⟨rfl, rfl⟩ := hp
    refine zk_stk (r' := []) rfl ?_
    refine zk_iinc (v := (x4 + 8)) (lv' := [(4, _), (0, _), (1, _), (2, _), (3, _)]) C kd_Ln_reply_64 4 rfl rfl (by decide) rfl rfl ?_
    refine zk_goto (tgt := 36) C kd_Ln_reply_67 (by decide) ?_
    refine zk_lvs (lv' := [(0, .ref (S.1 66)), (1, .int x1), (2, .int x2), (3, .int x3), (4, .int (x4 + 8))]) [1, 2, 3, 4, 0] rfl ?_
    exact hk36 h5 x1 x2 x3 (x4 + 8) e
theorem zl_Ln_reply_36 {X : zkj_T} {S : zs_T} {P : ze_T} {l : Launch} {D : va_G} {sz0 : Nat} {rh : zs_H} (C : zk_C X km_Ln_reply (zs_G S l D sz0) { frames := 3, cells := 0, slots := 0, locals := 70 } (ze_E P)) (hR : zkj_R X (zd_PV S rh) (none)) (n : Nat) : ∀ (h : zs_H) (x1 : Int32) (x2 : Int32) (x3 : Int32) (x4 : Int32), f_Ln_reply_L36 n h x1 x2 x3 x4 = some rh → zk_Ab X (zs_W S h) 0 0 36 [(0, .ref (S.1 66)), (1, .int x1), (2, .int x2), (3, .int x3), (4, .int x4)] [] := by
  induction n with
  | zero => intro h x1 x2 x3 x4 e; exact zd_no e
  | succ n ih => intro h x1 x2 x3 x4 e; exact zb_Ln_reply_36 (k36 := f_Ln_reply_L36  n) C hR ih h x1 x2 x3 x4 e
set_option maxHeartbeats 4000000 in
set_option maxRecDepth 100000 in
theorem zb_Ln_reply_122 {X : zkj_T} {S : zs_T} {P : ze_T} {l : Launch} {D : va_G} {sz0 : Nat} {rh : zs_H} (C : zk_C X km_Ln_reply (zs_G S l D sz0) { frames := 3, cells := 0, slots := 0, locals := 70 } (ze_E P)) (hR : zkj_R X (zd_PV S rh) (none)) {k88 : zs_H → Int32 → Int32 → Int32 → Int32 → (Option zs_H)} (hk88 : ∀ (h : zs_H) (x1 : Int32) (x2 : Int32) (x3 : Int32) (x4 : Int32), k88 h x1 x2 x3 x4 = some rh → zk_Ab X (zs_W S h) 0 0 88 [(0, .ref (S.1 66)), (1, .int x1), (2, .int x2), (3, .int x3), (4, .int x4)] []) (h : zs_H) (x1 : Int32) (x2 : Int32) (x3 : Int32) (x4 : Int32) (y0 : Int32) (e : f_Ln_reply_122 k88 h x1 x2 x3 x4 y0 = some rh) : zk_Ab X (zs_W S h) 0 0 122 [(0, .ref (S.1 66)), (1, .int x1), (2, .int x2), (3, .int x3), (4, .int x4)] [.int y0] := by
  unfold f_Ln_reply_122 at e
  refine zk_istore (lv' := [(5, _), (0, _), (1, _), (2, _), (3, _), (4, _)]) C kd_Ln_reply_122 (by decide) rfl rfl ?_
  refine zk_aload_n C kd_Ln_reply_124 rfl 1 rfl rfl ?_
  refine zk_iload C kd_Ln_reply_125 0 rfl rfl ?_
  refine zk_bipush (v := 8) C kd_Ln_reply_127 (by decide) rfl ?_
  refine zk_ishr C kd_Ln_reply_129 rfl ?_
  obtain ⟨h2, c1, e⟩ := zd_b e
  refine zs_callV (k := 66) (rn := { frames := 0, cells := 0, slots := 0, locals := 0 }) (As := [.int (y0 >>> ((8 : Int32) &&& 31))]) (rest := []) C (zc_Ln_send h (y0 >>> ((8 : Int32) &&& 31)) c1) ku_Ln_send kw1641 kv_Ln_send rfl ⟨by decide, by decide⟩ ⟨by decide, by decide⟩ rfl rfl rfl (Nat.le_of_ble_eq_true rfl) kd_Ln_reply_130 rfl (c1 := 0) (s1 := 0) rfl rfl (fun v w hp => ?_)
  obtain ⟨rfl, rfl⟩ := hp
  refine zk_stk (r' := []) rfl ?_
  refine zk_aload_n C kd_Ln_reply_133 rfl 1 rfl rfl ?_
  refine zk_iload C kd_Ln_reply_134 0 rfl rfl ?_
  obtain ⟨h4, c3, e⟩ := zd_b e
  refine zs_callV (k := 66) (rn := { frames := 0, cells := 0, slots := 0, locals := 0 }) (As := [.int y0]) (rest := []) C (zc_Ln_send h2 y0 c3) ku_Ln_send kw1641 kv_Ln_send rfl ⟨by decide, by decide⟩ ⟨by decide, by decide⟩ rfl rfl rfl (Nat.le_of_ble_eq_true rfl) kd_Ln_reply_136 rfl (c1 := 0) (s1 := 0) rfl rfl (fun v w hp => ?_)
  obtain ⟨rfl, rfl⟩ := hp
  refine zk_stk (r' := []) rfl ?_
  refine zk_iinc (v := (x4 + 1)) (lv' := [(4, _), (5, _), (0, _), (1, _), (2, _), (3, _)]) C kd_Ln_reply_139 5 rfl rfl (by decide) rfl rfl ?_
  refine zk_goto (tgt := 88) C kd_Ln_reply_142 (by decide) ?_
  refine zk_lvs (lv' := [(0, .ref (S.1 66)), (1, .int x1), (2, .int x2), (3, .int x3), (4, .int (x4 + 1))]) [2, 3, 4, 5, 0] rfl ?_
  exact hk88 h4 x1 x2 x3 (x4 + 1) e
set_option maxHeartbeats 4000000 in
set_option maxRecDepth 100000 in
theorem zb_Ln_reply_88 {X : zkj_T} {S : zs_T} {P : ze_T} {l : Launch} {D : va_G} {sz0 : Nat} {rh : zs_H} (C : zk_C X km_Ln_reply (zs_G S l D sz0) { frames := 3, cells := 0, slots := 0, locals := 70 } (ze_E P)) (hR : zkj_R X (zd_PV S rh) (none)) {k88 : zs_H → Int32 → Int32 → Int32 → Int32 → (Option zs_H)} (hk88 : ∀ (h : zs_H) (x1 : Int32) (x2 : Int32) (x3 : Int32) (x4 : Int32), k88 h x1 x2 x3 x4 = some rh → zk_Ab X (zs_W S h) 0 0 88 [(0, .ref (S.1 66)), (1, .int x1), (2, .int x2), (3, .int x3), (4, .int x4)] []) (h : zs_H) (x1 : Int32) (x2 : Int32) (x3 : Int32) (x4 : Int32) (e : f_Ln_reply_88 k88 h x1 x2 x3 x4 = some rh) : zk_Ab X (zs_W S h) 0 0 88 [(0, .ref (S.1 66)), (1, .int x1), (2, .int x2), (3, .int x3), (4, .int x4)] [] := by
  unfold f_Ln_reply_88 at e
  refine zk_iload C kd_Ln_reply_88 4 rfl rfl ?_
  refine zk_iload_n C kd_Ln_reply_90 rfl 3 rfl rfl ?_
  refine zk_icmp_ge (tgt := 145) C kd_Ln_reply_91 (by decide) rfl (fun b1 => ?_) (fun b1 => ?_)
  · replace e := zd_pos b1 e
    refine zk_goto (tgt := 173) C kd_Ln_reply_145 (by decide) ?_
    exact zk_vret C hR kd_Ln_reply_173 rfl rfl (zd_rV e)
  · replace e := zd_neg b1 e
    refine zk_iload_n C kd_Ln_reply_94 rfl 1 rfl rfl ?_
    refine zk_iconst (v := 3) C kd_Ln_reply_95 (by decide) rfl ?_
    refine zk_icmp_ne (tgt := 114) C kd_Ln_reply_96 (by decide) rfl (fun b2 => ?_) (fun b2 => ?_)
    · replace e := zd_neg b2 e
      refine zk_aload_n C kd_Ln_reply_114 rfl 0 rfl rfl ?_
      refine zk_iload_n C kd_Ln_reply_115 rfl 2 rfl rfl ?_
      refine zk_iload C kd_Ln_reply_116 4 rfl rfl ?_
      refine zk_iadd C kd_Ln_reply_118 rfl ?_
      obtain ⟨v4, c3, e⟩ := zd_b e
      refine zs_callV (k := 66) (rn := { frames := 1, cells := 0, slots := 0, locals := 23 }) (As := [.int (x2 + x4)]) (rest := []) C (zc_Ln_meter h (x2 + x4) c3) ku_Ln_meter kw1659 kv_Ln_meter rfl ⟨by decide, by decide⟩ ⟨by decide, by decide⟩ rfl rfl rfl (Nat.le_of_ble_eq_true rfl) kd_Ln_reply_119 rfl (c1 := 0) (s1 := 0) rfl rfl (fun v w hp => ?_)
      obtain ⟨rfl, rfl⟩ := hp
      refine zk_stk (r' := [.int v4]) rfl ?_
      refine zk_lvs (lv' := [(0, .ref (S.1 66)), (1, .int x1), (2, .int x2), (3, .int x3), (4, .int x4)]) [0, 1, 2, 3, 4] rfl ?_
      exact zb_Ln_reply_122 C hR hk88 h x1 x2 x3 x4 v4 e
    · replace e := zd_pos b2 e
      refine zk_aload_n C kd_Ln_reply_99 rfl 0 rfl rfl ?_
      refine zs_get (v := .ref (S.1 58)) C 66 3 rfl rfl rfl rfl ki_Ln (by decide) kw603 kd_Ln_reply_100 rfl ?_
      refine zk_iconst (v := 5) C kd_Ln_reply_103 (by decide) rfl ?_
      refine zk_iload_n C kd_Ln_reply_104 rfl 2 rfl rfl ?_
      refine zk_iload C kd_Ln_reply_105 4 rfl rfl ?_
      refine zk_iadd C kd_Ln_reply_107 rfl ?_
      obtain ⟨v6, c5, e⟩ := zd_b e
      refine zs_callV (k := 58) (rn := { frames := 0, cells := 0, slots := 0, locals := 0 }) (As := [.int 5, .int (x2 + x4)]) (rest := []) C (zc_Mc_seen h 5 (x2 + x4) c5) ku_Mc_seen kw1654 kv_Mc_seen rfl ⟨by decide, by decide⟩ ⟨by decide, by decide⟩ rfl rfl rfl (Nat.le_of_ble_eq_true rfl) kd_Ln_reply_108 rfl (c1 := 0) (s1 := 0) rfl rfl (fun v w hp => ?_)
      obtain ⟨rfl, rfl⟩ := hp
      refine zk_stk (r' := [.int v6]) rfl ?_
      refine zk_goto (tgt := 122) C kd_Ln_reply_111 (by decide) ?_
      refine zk_lvs (lv' := [(0, .ref (S.1 66)), (1, .int x1), (2, .int x2), (3, .int x3), (4, .int x4)]) [0, 1, 2, 3, 4] rfl ?_
      exact zb_Ln_reply_122 C hR hk88 h x1 x2 x3 x4 v6 e
theorem zl_Ln_reply_88 {X : zkj_T} {S : zs_T} {P : ze_T} {l : Launch} {D : va_G} {sz0 : Nat} {rh : zs_H} (C : zk_C X km_Ln_reply (zs_G S l D sz0) { frames := 3, cells := 0, slots := 0, locals := 70 } (ze_E P)) (hR : zkj_R X (zd_PV S rh) (none)) (n : Nat) : ∀ (h : zs_H) (x1 : Int32) (x2 : Int32) (x3 : Int32) (x4 : Int32), f_Ln_reply_L88 n h x1 x2 x3 x4 = some rh → zk_Ab X (zs_W S h) 0 0 88 [(0, .ref (S.1 66)), (1, .int x1), (2, .int x2), (3, .int x3), (4, .int x4)] [] := by
  induction n with
  | zero => intro h x1 x2 x3 x4 e; exact zd_no e
  | succ n ih => intro h x1 x2 x3 x4 e; exact zb_Ln_reply_88 (k88 := f_Ln_reply_L88  n) C hR ih h x1 x2 x3 x4 e
set_option maxHeartbeats 4000000 in
set_option maxRecDepth 100000 in
theorem zb_Ln_reply_151 {X : zkj_T} {S : zs_T} {P : ze_T} {l : Launch} {D : va_G} {sz0 : Nat} {rh : zs_H} (C : zk_C X km_Ln_reply (zs_G S l D sz0) { frames := 3, cells := 0, slots := 0, locals := 70 } (ze_E P)) (hR : zkj_R X (zd_PV S rh) (none)) {k151 : zs_H → Int32 → (Option zs_H)} (hk151 : ∀ (h : zs_H) (x4 : Int32), k151 h x4 = some rh → zk_Ab X (zs_W S h) 0 0 151 [(0, .ref (S.1 66)), (4, .int x4)] []) (h : zs_H) (x4 : Int32) (e : f_Ln_reply_151 k151 h x4 = some rh) : zk_Ab X (zs_W S h) 0 0 151 [(0, .ref (S.1 66)), (4, .int x4)] [] := by
  unfold f_Ln_reply_151 at e
  refine zk_iload C kd_Ln_reply_151 1 rfl rfl ?_
  refine zk_iconst (v := 4) C kd_Ln_reply_153 (by decide) rfl ?_
  refine zk_icmp_ge (tgt := 173) C kd_Ln_reply_154 (by decide) rfl (fun b1 => ?_) (fun b1 => ?_)
  · replace e := zd_pos b1 e
    exact zk_vret C hR kd_Ln_reply_173 rfl rfl (zd_rV e)
  · replace e := zd_neg b1 e
    refine zk_aload_n C kd_Ln_reply_157 rfl 0 rfl rfl ?_
    refine zk_aload_n C kd_Ln_reply_158 rfl 0 rfl rfl ?_
    refine zk_iload C kd_Ln_reply_159 1 rfl rfl ?_
    obtain ⟨v3, c2, e⟩ := zd_b e
    refine zs_callV (k := 66) (rn := { frames := 0, cells := 0, slots := 0, locals := 0 }) (As := [.int x4]) (rest := [.ref (S.1 66)]) C (zc_Ln_data h x4 c2) ku_Ln_data kw1620 kv_Ln_data rfl ⟨by decide, by decide⟩ ⟨by decide, by decide⟩ rfl rfl rfl (Nat.le_of_ble_eq_true rfl) kd_Ln_reply_161 rfl (c1 := 0) (s1 := 0) rfl rfl (fun v w hp => ?_)
    obtain ⟨rfl, rfl⟩ := hp
    refine zk_stk (r' := [.int v3, .ref (S.1 66)]) rfl ?_
    obtain ⟨h5, c4, e⟩ := zd_b e
    refine zs_callV (k := 66) (rn := { frames := 0, cells := 0, slots := 0, locals := 0 }) (As := [.int v3]) (rest := []) C (zc_Ln_send h v3 c4) ku_Ln_send kw1641 kv_Ln_send rfl ⟨by decide, by decide⟩ ⟨by decide, by decide⟩ rfl rfl rfl (Nat.le_of_ble_eq_true rfl) kd_Ln_reply_164 rfl (c1 := 0) (s1 := 0) rfl rfl (fun v w hp => ?_)
    obtain ⟨rfl, rfl⟩ := hp
    refine zk_stk (r' := []) rfl ?_
    refine zk_iinc (v := (x4 + 1)) (lv' := [(4, _), (0, _)]) C kd_Ln_reply_167 1 rfl rfl (by decide) rfl rfl ?_
    refine zk_goto (tgt := 151) C kd_Ln_reply_170 (by decide) ?_
    refine zk_lvs (lv' := [(0, .ref (S.1 66)), (4, .int (x4 + 1))]) [1, 0] rfl ?_
    exact hk151 h5 (x4 + 1) e
theorem zl_Ln_reply_151 {X : zkj_T} {S : zs_T} {P : ze_T} {l : Launch} {D : va_G} {sz0 : Nat} {rh : zs_H} (C : zk_C X km_Ln_reply (zs_G S l D sz0) { frames := 3, cells := 0, slots := 0, locals := 70 } (ze_E P)) (hR : zkj_R X (zd_PV S rh) (none)) (n : Nat) : ∀ (h : zs_H) (x4 : Int32), f_Ln_reply_L151 n h x4 = some rh → zk_Ab X (zs_W S h) 0 0 151 [(0, .ref (S.1 66)), (4, .int x4)] [] := by
  induction n with
  | zero => intro h x4 e; exact zd_no e
  | succ n ih => intro h x4 e; exact zb_Ln_reply_151 (k151 := f_Ln_reply_L151  n) C hR ih h x4 e
set_option maxHeartbeats 4000000 in
set_option maxRecDepth 100000 in
theorem zc_Ln_reply {l : Launch} {D : va_G} {sz0 : Nat} {S : zs_T} {P : ze_T} (h : zs_H) (x1 : Int32) {rh : zs_H} (e : f_Ln_reply h x1 = some rh) : zk_Sp (zs_G S l D sz0) (ze_E P) km_Ln_reply { frames := 3, cells := 0, slots := 0, locals := 70 } [.ref (S.1 66), .int x1] (zs_W S h) (zd_PV S rh) := by
  refine zk_met ku_Ln_reply (Nat.le_of_ble_eq_true rfl) (ze_Em P) ?_
  intro X C hR
  refine zk_lvs (lv' := [(0, .ref (S.1 66)), (1, .int x1)]) [0, 1] rfl ?_
  unfold f_Ln_reply at e
  refine zk_aload_n C kd_Ln_reply_0 rfl 0 rfl rfl ?_
  refine zk_iconst (v := 0) C kd_Ln_reply_1 (by decide) rfl ?_
  obtain ⟨v2, c1, e⟩ := zd_b e
  refine zs_callV (k := 66) (rn := { frames := 1, cells := 0, slots := 0, locals := 21 }) (As := [.int 0]) (rest := []) C (zc_Ln_number h 0 c1) ku_Ln_number kw1624 kv_Ln_number rfl ⟨by decide, by decide⟩ ⟨by decide, by decide⟩ rfl rfl rfl (Nat.le_of_ble_eq_true rfl) kd_Ln_reply_2 rfl (c1 := 0) (s1 := 0) rfl rfl (fun v w hp => ?_)
  obtain ⟨rfl, rfl⟩ := hp
  refine zk_stk (r' := [.int v2]) rfl ?_
  refine zk_istore_n (lv' := [(2, _), (0, _), (1, _)]) C kd_Ln_reply_5 rfl (by decide) rfl rfl ?_
  refine zk_aload_n C kd_Ln_reply_6 rfl 1 rfl rfl ?_
  refine zk_iconst (v := 2) C kd_Ln_reply_7 (by decide) rfl ?_
  obtain ⟨v4, c3, e⟩ := zd_b e
  refine zs_callV (k := 66) (rn := { frames := 1, cells := 0, slots := 0, locals := 21 }) (As := [.int 2]) (rest := []) C (zc_Ln_number h 2 c3) ku_Ln_number kw1624 kv_Ln_number rfl ⟨by decide, by decide⟩ ⟨by decide, by decide⟩ rfl rfl rfl (Nat.le_of_ble_eq_true rfl) kd_Ln_reply_8 rfl (c1 := 0) (s1 := 0) rfl rfl (fun v w hp => ?_)
  obtain ⟨rfl, rfl⟩ := hp
  refine zk_stk (r' := [.int v4]) rfl ?_
  refine zk_istore_n (lv' := [(3, _), (2, _), (0, _), (1, _)]) C kd_Ln_reply_11 rfl (by decide) rfl rfl ?_
  refine zk_aload_n C kd_Ln_reply_12 rfl 2 rfl rfl ?_
  refine zk_iload_n C kd_Ln_reply_13 rfl 3 rfl rfl ?_
  obtain ⟨h6, c5, e⟩ := zd_b e
  refine zs_callV (k := 66) (rn := { frames := 0, cells := 0, slots := 0, locals := 0 }) (As := [.int x1]) (rest := []) C (zc_Ln_send h x1 c5) ku_Ln_send kw1641 kv_Ln_send rfl ⟨by decide, by decide⟩ ⟨by decide, by decide⟩ rfl rfl rfl (Nat.le_of_ble_eq_true rfl) kd_Ln_reply_14 rfl (c1 := 0) (s1 := 0) rfl rfl (fun v w hp => ?_)
  obtain ⟨rfl, rfl⟩ := hp
  refine zk_stk (r' := []) rfl ?_
  refine zk_iload_n C kd_Ln_reply_17 rfl 3 rfl rfl ?_
  refine zk_iconst (v := 2) C kd_Ln_reply_18 (by decide) rfl ?_
  refine zk_icmp_gt (tgt := 73) C kd_Ln_reply_19 (by decide) rfl (fun b7 => ?_) (fun b7 => ?_)
  · replace e := zd_pos b7 e
    refine zk_iload_n C kd_Ln_reply_73 rfl 3 rfl rfl ?_
    refine zk_iconst (v := 4) C kd_Ln_reply_74 (by decide) rfl ?_
    refine zk_icmp_gt (tgt := 148) C kd_Ln_reply_75 (by decide) rfl (fun b8 => ?_) (fun b8 => ?_)
    · replace e := zd_pos b8 e
      refine zk_iconst (v := 0) C kd_Ln_reply_148 (by decide) rfl ?_
      refine zk_istore (lv' := [(4, _), (3, _), (2, _), (0, _), (1, _)]) C kd_Ln_reply_149 (by decide) rfl rfl ?_
      refine zk_lvs (lv' := [(0, .ref (S.1 66)), (4, .int 0)]) [3, 0] rfl ?_
      exact zl_Ln_reply_151 C hR zF h6 0 e
    · replace e := zd_neg b8 e
      refine zk_aload_n C kd_Ln_reply_78 rfl 2 rfl rfl ?_
      refine zk_iconst (v := 2) C kd_Ln_reply_79 (by decide) rfl ?_
      refine zk_iload_n C kd_Ln_reply_80 rfl 0 rfl rfl ?_
      refine zk_imul C kd_Ln_reply_81 rfl ?_
      obtain ⟨h10, c9, e⟩ := zd_b e
      refine zs_callV (k := 66) (rn := { frames := 0, cells := 0, slots := 0, locals := 0 }) (As := [.int (2 * v4)]) (rest := []) C (zc_Ln_send h6 (2 * v4) c9) ku_Ln_send kw1641 kv_Ln_send rfl ⟨by decide, by decide⟩ ⟨by decide, by decide⟩ rfl rfl rfl (Nat.le_of_ble_eq_true rfl) kd_Ln_reply_82 rfl (c1 := 0) (s1 := 0) rfl rfl (fun v w hp => ?_)
      obtain ⟨rfl, rfl⟩ := hp
      refine zk_stk (r' := []) rfl ?_
      refine zk_iconst (v := 0) C kd_Ln_reply_85 (by decide) rfl ?_
      refine zk_istore (lv' := [(4, _), (3, _), (2, _), (0, _), (1, _)]) C kd_Ln_reply_86 (by decide) rfl rfl ?_
      refine zk_lvs (lv' := [(0, .ref (S.1 66)), (1, .int x1), (2, .int v2), (3, .int v4), (4, .int 0)]) [3, 4, 2, 1, 0] rfl ?_
      exact zl_Ln_reply_88 C hR zF h10 x1 v2 v4 0 e
  · replace e := zd_neg b7 e
    refine zk_aload_n C kd_Ln_reply_22 rfl 2 rfl rfl ?_
    refine zk_iload_n C kd_Ln_reply_23 rfl 0 rfl rfl ?_
    refine zk_bipush (v := 7) C kd_Ln_reply_24 (by decide) rfl ?_
    refine zk_iadd C kd_Ln_reply_26 rfl ?_
    refine zk_bipush (v := 8) C kd_Ln_reply_27 (by decide) rfl ?_
    refine zk_idiv C kd_Ln_reply_29 (by decide) rfl ?_
    obtain ⟨h12, c11, e⟩ := zd_b e
    refine zs_callV (k := 66) (rn := { frames := 0, cells := 0, slots := 0, locals := 0 }) (As := [.int ((v4 + 7) / 8)]) (rest := []) C (zc_Ln_send h6 ((v4 + 7) / 8) c11) ku_Ln_send kw1641 kv_Ln_send rfl ⟨by decide, by decide⟩ ⟨by decide, by decide⟩ rfl rfl rfl (Nat.le_of_ble_eq_true rfl) kd_Ln_reply_30 rfl (c1 := 0) (s1 := 0) rfl rfl (fun v w hp => ?_)
    obtain ⟨rfl, rfl⟩ := hp
    refine zk_stk (r' := []) rfl ?_
    refine zk_iconst (v := 0) C kd_Ln_reply_33 (by decide) rfl ?_
    refine zk_istore (lv' := [(4, _), (3, _), (2, _), (0, _), (1, _)]) C kd_Ln_reply_34 (by decide) rfl rfl ?_
    refine zk_lvs (lv' := [(0, .ref (S.1 66)), (1, .int x1), (2, .int v2), (3, .int v4), (4, .int 0)]) [3, 4, 2, 1, 0] rfl ?_
    exact zl_Ln_reply_36 C hR zF h12 x1 v2 v4 0 e
set_option maxHeartbeats 4000000 in
set_option maxRecDepth 100000 in
theorem zb_Ln_checkSum_c67_54 {X : zkj_T} {S : zs_T} {P : ze_T} {l : Launch} {D : va_G} {sz0 : Nat} {rv : Int32} {h : zs_H} (C : zk_C X km_Ln_checkSum (zs_G S l D sz0) { frames := 0, cells := 0, slots := 0, locals := 0 } (ze_E P)) (hR : zkj_R X (zd_PI S rv h) (some .int)) {k5 : Int32 → Int32 → Int32 → (Option Int32)} (hk5 : ∀ (x1 : Int32) (x2 : Int32) (x3 : Int32), k5 x1 x2 x3 = some rv → zk_Ab X (zs_W S h) 0 0 5 [(0, .ref (S.1 67)), (1, .int x1), (2, .int x2), (3, .int x3)] []) {k29 : Int32 → Int32 → Int32 → Int32 → (Option Int32)} (hk29 : ∀ (x1 : Int32) (x2 : Int32) (x3 : Int32) (x4 : Int32), k29 x1 x2 x3 x4 = some rv → zk_Ab X (zs_W S h) 0 0 29 [(0, .ref (S.1 67)), (1, .int x1), (2, .int x2), (3, .int x3), (4, .int x4)] []) (x1 : Int32) (x3 : Int32) (x4 : Int32) (y0 : Int32) (e : f_Ln_checkSum_c67_54 h k5 k29 x1 x3 x4 y0 = some rv) : zk_Ab X (zs_W S h) 0 0 54 [(0, .ref (S.1 67)), (1, .int x1), (3, .int x3), (4, .int x4)] [.int y0] := by
  unfold f_Ln_checkSum_c67_54 at e
  refine zk_istore_n (lv' := [(2, _), (0, _), (1, _), (3, _), (4, _)]) C kd_Ln_checkSum_54 rfl (by decide) rfl rfl ?_
  refine zk_iinc (v := (x4 + 1)) (lv' := [(4, _), (2, _), (0, _), (1, _), (3, _)]) C kd_Ln_checkSum_55 4 rfl rfl (by decide) rfl rfl ?_
  refine zk_goto (tgt := 29) C kd_Ln_checkSum_58 (by decide) ?_
  refine zk_lvs (lv' := [(0, .ref (S.1 67)), (1, .int x1), (2, .int y0), (3, .int x3), (4, .int (x4 + 1))]) [2, 3, 1, 4, 0] rfl ?_
  exact hk29 x1 y0 x3 (x4 + 1) e
set_option maxHeartbeats 4000000 in
set_option maxRecDepth 100000 in
theorem zb_Ln_checkSum_c67_29 {X : zkj_T} {S : zs_T} {P : ze_T} {l : Launch} {D : va_G} {sz0 : Nat} {rv : Int32} {h : zs_H} (C : zk_C X km_Ln_checkSum (zs_G S l D sz0) { frames := 0, cells := 0, slots := 0, locals := 0 } (ze_E P)) (hR : zkj_R X (zd_PI S rv h) (some .int)) {k5 : Int32 → Int32 → Int32 → (Option Int32)} (hk5 : ∀ (x1 : Int32) (x2 : Int32) (x3 : Int32), k5 x1 x2 x3 = some rv → zk_Ab X (zs_W S h) 0 0 5 [(0, .ref (S.1 67)), (1, .int x1), (2, .int x2), (3, .int x3)] []) {k29 : Int32 → Int32 → Int32 → Int32 → (Option Int32)} (hk29 : ∀ (x1 : Int32) (x2 : Int32) (x3 : Int32) (x4 : Int32), k29 x1 x2 x3 x4 = some rv → zk_Ab X (zs_W S h) 0 0 29 [(0, .ref (S.1 67)), (1, .int x1), (2, .int x2), (3, .int x3), (4, .int x4)] []) (x1 : Int32) (x2 : Int32) (x3 : Int32) (x4 : Int32) (e : f_Ln_checkSum_c67_29 h k5 k29 x1 x2 x3 x4 = some rv) : zk_Ab X (zs_W S h) 0 0 29 [(0, .ref (S.1 67)), (1, .int x1), (2, .int x2), (3, .int x3), (4, .int x4)] [] := by
  unfold f_Ln_checkSum_c67_29 at e
  refine zk_iload C kd_Ln_checkSum_29 4 rfl rfl ?_
  refine zk_bipush (v := 8) C kd_Ln_checkSum_31 (by decide) rfl ?_
  refine zk_icmp_ge (tgt := 61) C kd_Ln_checkSum_33 (by decide) rfl (fun b1 => ?_) (fun b1 => ?_)
  · replace e := zd_pos b1 e
    refine zk_iinc (v := (x3 + 1)) (lv' := [(3, _), (0, _), (1, _), (2, _), (4, _)]) C kd_Ln_checkSum_61 3 rfl rfl (by decide) rfl rfl ?_
    refine zk_goto (tgt := 5) C kd_Ln_checkSum_64 (by decide) ?_
    refine zk_lvs (lv' := [(0, .ref (S.1 67)), (1, .int x1), (2, .int x2), (3, .int (x3 + 1))]) [1, 2, 3, 0] rfl ?_
    exact hk5 x1 x2 (x3 + 1) e
  · replace e := zd_neg b1 e
    refine zk_iload_n C kd_Ln_checkSum_36 rfl 2 rfl rfl ?_
    refine zk_iconst (v := 1) C kd_Ln_checkSum_37 (by decide) rfl ?_
    refine zk_iand C kd_Ln_checkSum_38 rfl ?_
    refine zk_if_ne (tgt := 48) C kd_Ln_checkSum_39 (by decide) rfl (fun b2 => ?_) (fun b2 => ?_)
    · replace e := zd_neg b2 e
      refine zk_iload_n C kd_Ln_checkSum_48 rfl 2 rfl rfl ?_
      refine zk_iconst (v := 1) C kd_Ln_checkSum_49 (by decide) rfl ?_
      refine zk_ishr C kd_Ln_checkSum_50 rfl ?_
      refine zk_ldc (v := 40961) C kw1615 kd_Ln_checkSum_51 rfl ?_
      refine zk_ixor C kd_Ln_checkSum_53 rfl ?_
      refine zk_lvs (lv' := [(0, .ref (S.1 67)), (1, .int x1), (3, .int x3), (4, .int x4)]) [0, 1, 3, 4] rfl ?_
      exact zb_Ln_checkSum_c67_54 C hR hk5 hk29 x1 x3 x4 ((x2 >>> ((1 : Int32) &&& 31)) ^^^ 40961) e
    · replace e := zd_pos b2 e
      refine zk_iload_n C kd_Ln_checkSum_42 rfl 2 rfl rfl ?_
      refine zk_iconst (v := 1) C kd_Ln_checkSum_43 (by decide) rfl ?_
      refine zk_ishr C kd_Ln_checkSum_44 rfl ?_
      refine zk_goto (tgt := 54) C kd_Ln_checkSum_45 (by decide) ?_
      refine zk_lvs (lv' := [(0, .ref (S.1 67)), (1, .int x1), (3, .int x3), (4, .int x4)]) [0, 1, 3, 4] rfl ?_
      exact zb_Ln_checkSum_c67_54 C hR hk5 hk29 x1 x3 x4 (x2 >>> ((1 : Int32) &&& 31)) e
theorem zl_Ln_checkSum_c67_29 {X : zkj_T} {S : zs_T} {P : ze_T} {l : Launch} {D : va_G} {sz0 : Nat} {rv : Int32} {h : zs_H} (C : zk_C X km_Ln_checkSum (zs_G S l D sz0) { frames := 0, cells := 0, slots := 0, locals := 0 } (ze_E P)) (hR : zkj_R X (zd_PI S rv h) (some .int)) {k5 : Int32 → Int32 → Int32 → (Option Int32)} (hk5 : ∀ (x1 : Int32) (x2 : Int32) (x3 : Int32), k5 x1 x2 x3 = some rv → zk_Ab X (zs_W S h) 0 0 5 [(0, .ref (S.1 67)), (1, .int x1), (2, .int x2), (3, .int x3)] []) (n : Nat) : ∀ (x1 : Int32) (x2 : Int32) (x3 : Int32) (x4 : Int32), f_Ln_checkSum_c67_L29 h k5 n x1 x2 x3 x4 = some rv → zk_Ab X (zs_W S h) 0 0 29 [(0, .ref (S.1 67)), (1, .int x1), (2, .int x2), (3, .int x3), (4, .int x4)] [] := by
  induction n with
  | zero => intro x1 x2 x3 x4 e; exact zd_no e
  | succ n ih => intro x1 x2 x3 x4 e; exact zb_Ln_checkSum_c67_29 (k29 := f_Ln_checkSum_c67_L29 h k5 n) C hR hk5 ih x1 x2 x3 x4 e
set_option maxHeartbeats 4000000 in
set_option maxRecDepth 100000 in
theorem zb_Ln_checkSum_c67_5 {X : zkj_T} {S : zs_T} {P : ze_T} {l : Launch} {D : va_G} {sz0 : Nat} {rv : Int32} {h : zs_H} (C : zk_C X km_Ln_checkSum (zs_G S l D sz0) { frames := 0, cells := 0, slots := 0, locals := 0 } (ze_E P)) (hR : zkj_R X (zd_PI S rv h) (some .int)) {k5 : Int32 → Int32 → Int32 → (Option Int32)} (hk5 : ∀ (x1 : Int32) (x2 : Int32) (x3 : Int32), k5 x1 x2 x3 = some rv → zk_Ab X (zs_W S h) 0 0 5 [(0, .ref (S.1 67)), (1, .int x1), (2, .int x2), (3, .int x3)] []) (x1 : Int32) (x2 : Int32) (x3 : Int32) (e : f_Ln_checkSum_c67_5 h k5 x1 x2 x3 = some rv) : zk_Ab X (zs_W S h) 0 0 5 [(0, .ref (S.1 67)), (1, .int x1), (2, .int x2), (3, .int x3)] [] := by
  unfold f_Ln_checkSum_c67_5 at e
  refine zk_iload_n C kd_Ln_checkSum_5 rfl 3 rfl rfl ?_
  refine zk_iload_n C kd_Ln_checkSum_6 rfl 1 rfl rfl ?_
  refine zk_icmp_ge (tgt := 67) C kd_Ln_checkSum_7 (by decide) rfl (fun b1 => ?_) (fun b1 => ?_)
  · replace e := zd_pos b1 e
    refine zk_iload_n C kd_Ln_checkSum_67 rfl 2 rfl rfl ?_
    exact zk_iret C hR kd_Ln_checkSum_68 rfl rfl (zd_rIO e)
  · replace e := zd_neg b1 e
    refine zk_iload_n C kd_Ln_checkSum_10 rfl 3 rfl rfl ?_
    refine zk_aload_n C kd_Ln_checkSum_11 rfl 0 rfl rfl ?_
    refine zs_alen (v := 256) C 67 rfl (by decide) rfl kd_Ln_checkSum_12 rfl ?_
    refine zk_icmp_ge (tgt := 67) C kd_Ln_checkSum_13 (by decide) rfl (fun b2 => ?_) (fun b2 => ?_)
    · replace e := zd_pos b2 e
      refine zk_iload_n C kd_Ln_checkSum_67 rfl 2 rfl rfl ?_
      exact zk_iret C hR kd_Ln_checkSum_68 rfl rfl (zd_rIO e)
    · replace e := zd_neg b2 e
      refine zk_iload_n C kd_Ln_checkSum_16 rfl 2 rfl rfl ?_
      refine zk_aload_n C kd_Ln_checkSum_17 rfl 0 rfl rfl ?_
      refine zk_iload_n C kd_Ln_checkSum_18 rfl 3 rfl rfl ?_
      obtain ⟨q3, e⟩ := zd_g e
      refine zs_bald C 67 rfl (zd_vp q3) kd_Ln_checkSum_19 rfl ?_
      refine zk_sipush (v := 255) C kd_Ln_checkSum_20 (by decide) rfl ?_
      refine zk_iand C kd_Ln_checkSum_23 rfl ?_
      refine zk_ixor C kd_Ln_checkSum_24 rfl ?_
      refine zk_istore_n (lv' := [(2, _), (0, _), (1, _), (3, _)]) C kd_Ln_checkSum_25 rfl (by decide) rfl rfl ?_
      refine zk_iconst (v := 0) C kd_Ln_checkSum_26 (by decide) rfl ?_
      refine zk_istore (lv' := [(4, _), (2, _), (0, _), (1, _), (3, _)]) C kd_Ln_checkSum_27 (by decide) rfl rfl ?_
      refine zk_lvs (lv' := [(0, .ref (S.1 67)), (1, .int x1), (2, .int (x2 ^^^ ((h.2.1 67 x3.toNatClampNeg) &&& 255))), (3, .int x3), (4, .int 0)]) [2, 3, 1, 4, 0] rfl ?_
      exact zl_Ln_checkSum_c67_29 C hR hk5 zF x1 (x2 ^^^ ((h.2.1 67 x3.toNatClampNeg) &&& 255)) x3 0 e
theorem zl_Ln_checkSum_c67_5 {X : zkj_T} {S : zs_T} {P : ze_T} {l : Launch} {D : va_G} {sz0 : Nat} {rv : Int32} {h : zs_H} (C : zk_C X km_Ln_checkSum (zs_G S l D sz0) { frames := 0, cells := 0, slots := 0, locals := 0 } (ze_E P)) (hR : zkj_R X (zd_PI S rv h) (some .int)) (n : Nat) : ∀ (x1 : Int32) (x2 : Int32) (x3 : Int32), f_Ln_checkSum_c67_L5 h n x1 x2 x3 = some rv → zk_Ab X (zs_W S h) 0 0 5 [(0, .ref (S.1 67)), (1, .int x1), (2, .int x2), (3, .int x3)] [] := by
  induction n with
  | zero => intro x1 x2 x3 e; exact zd_no e
  | succ n ih => intro x1 x2 x3 e; exact zb_Ln_checkSum_c67_5 (k5 := f_Ln_checkSum_c67_L5 h n) C hR ih x1 x2 x3 e
set_option maxHeartbeats 4000000 in
set_option maxRecDepth 100000 in
theorem zc_Ln_checkSum_c67 {l : Launch} {D : va_G} {sz0 : Nat} {S : zs_T} {P : ze_T} (h : zs_H) (x1 : Int32) {rv : Int32} (e : f_Ln_checkSum_c67 h x1 = some rv) : zk_Sp (zs_G S l D sz0) (ze_E P) km_Ln_checkSum { frames := 0, cells := 0, slots := 0, locals := 0 } [.ref (S.1 67), .int x1] (zs_W S h) (zd_PI S rv h) := by
  refine zk_met ku_Ln_checkSum (Nat.le_of_ble_eq_true rfl) (ze_Em P) ?_
  intro X C hR
  refine zk_lvs (lv' := [(0, .ref (S.1 67)), (1, .int x1)]) [0, 1] rfl ?_
  unfold f_Ln_checkSum_c67 at e
  refine zk_ldc (v := 65535) C kw1614 kd_Ln_checkSum_0 rfl ?_
  refine zk_istore_n (lv' := [(2, _), (0, _), (1, _)]) C kd_Ln_checkSum_2 rfl (by decide) rfl rfl ?_
  refine zk_iconst (v := 0) C kd_Ln_checkSum_3 (by decide) rfl ?_
  refine zk_istore_n (lv' := [(3, _), (2, _), (0, _), (1, _)]) C kd_Ln_checkSum_4 rfl (by decide) rfl rfl ?_
  refine zk_lvs (lv' := [(0, .ref (S.1 67)), (1, .int x1), (2, .int 65535), (3, .int 0)]) [2, 3, 1, 0] rfl ?_
  exact zl_Ln_checkSum_c67_5 C hR zF x1 65535 0 e
