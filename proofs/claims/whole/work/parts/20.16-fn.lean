theorem kw1749 : Jvm.Cond.fieldLink "PlantKeeperModel" (697 : Nat) "PlantKeeperModel" "waits" "I" ∈ zk_BW := zk_inT 1749 (by decide +kernel) rfl
theorem kw1751 : Jvm.Cond.fieldLink "PlantKeeperModel" (694 : Nat) "PlantKeeperModel" "leaving" "I" ∈ zk_BW := zk_inT 1751 (by decide +kernel) rfl
theorem kw2532 : Jvm.Cond.methodLink "PlantKeeperModel" (664 : Nat) ({ cls := "PlantKeeperModel", name := "bodyCode", desc := "(I)V" } : Jvm.MethodName) ∈ zk_BW := zk_inT 2532 (by decide +kernel) rfl
theorem kw2534 : Jvm.Cond.instanceMethod ({ cls := "PlantKeeperModel", name := "bodyCode", desc := "(I)V" } : Jvm.MethodName) ∈ zk_BW := zk_inT 2534 (by decide +kernel) rfl
theorem kw2535 : Jvm.Cond.code ({ cls := "PlantKeeperModel", name := "bodyCode", desc := "(I)V" } : Jvm.MethodName) prog_14_method_115_code (3 : Nat) (Option.none : Option FieldType) ∈ zk_BW := zk_inT 2535 (by decide +kernel) rfl
theorem kw2536 : Jvm.Cond.methodLink "PlantKeeperModel" (676 : Nat) ({ cls := "PlantKeeperModel", name := "statementCode", desc := "(I)V" } : Jvm.MethodName) ∈ zk_BW := zk_inT 2536 (by decide +kernel) rfl
theorem kw2538 : Jvm.Cond.instanceMethod ({ cls := "PlantKeeperModel", name := "statementCode", desc := "(I)V" } : Jvm.MethodName) ∈ zk_BW := zk_inT 2538 (by decide +kernel) rfl
theorem kw2539 : Jvm.Cond.code ({ cls := "PlantKeeperModel", name := "statementCode", desc := "(I)V" } : Jvm.MethodName) prog_14_method_116_code (4 : Nat) (Option.none : Option FieldType) ∈ zk_BW := zk_inT 2539 (by decide +kernel) rfl
theorem kw2540 : Jvm.Cond.methodLink "PlantKeeperModel" (679 : Nat) ({ cls := "PlantKeeperModel", name := "assignmentCode", desc := "(I)V" } : Jvm.MethodName) ∈ zk_BW := zk_inT 2540 (by decide +kernel) rfl
theorem kw2592 : Jvm.Cond.methodLink "PlantKeeperModel" (685 : Nat) ({ cls := "PlantKeeperModel", name := "isOwn", desc := "(I)Z" } : Jvm.MethodName) ∈ zk_BW := zk_inT 2592 (by decide +kernel) rfl
theorem kw2596 : Jvm.Cond.methodLink "PlantKeeperModel" (688 : Nat) ({ cls := "PlantKeeperModel", name := "choiceCode", desc := "(III)V" } : Jvm.MethodName) ∈ zk_BW := zk_inT 2596 (by decide +kernel) rfl
theorem kw2598 : Jvm.Cond.instanceMethod ({ cls := "PlantKeeperModel", name := "choiceCode", desc := "(III)V" } : Jvm.MethodName) ∈ zk_BW := zk_inT 2598 (by decide +kernel) rfl
theorem kw2599 : Jvm.Cond.code ({ cls := "PlantKeeperModel", name := "choiceCode", desc := "(III)V" } : Jvm.MethodName) prog_14_method_119_code (9 : Nat) (Option.none : Option FieldType) ∈ zk_BW := zk_inT 2599 (by decide +kernel) rfl
theorem kw2600 : Jvm.Cond.methodLink "PlantKeeperModel" (700 : Nat) ({ cls := "PlantKeeperModel", name := "rangesCode", desc := "(II)V" } : Jvm.MethodName) ∈ zk_BW := zk_inT 2600 (by decide +kernel) rfl
theorem kw2604 : Jvm.Cond.methodLink "PlantKeeperModel" (703 : Nat) ({ cls := "PlantKeeperModel", name := "here", desc := "()I" } : Jvm.MethodName) ∈ zk_BW := zk_inT 2604 (by decide +kernel) rfl
theorem kw2608 : Jvm.Cond.methodLink "PlantKeeperModel" (705 : Nat) ({ cls := "PlantKeeperModel", name := "aim", desc := "(II)V" } : Jvm.MethodName) ∈ zk_BW := zk_inT 2608 (by decide +kernel) rfl
theorem kw2612 : Jvm.Cond.methodLink "PlantKeeperModel" (691 : Nat) ({ cls := "PlantKeeperModel", name := "loopCode", desc := "(I)V" } : Jvm.MethodName) ∈ zk_BW := zk_inT 2612 (by decide +kernel) rfl
theorem kw2614 : Jvm.Cond.instanceMethod ({ cls := "PlantKeeperModel", name := "loopCode", desc := "(I)V" } : Jvm.MethodName) ∈ zk_BW := zk_inT 2614 (by decide +kernel) rfl
theorem kw2615 : Jvm.Cond.code ({ cls := "PlantKeeperModel", name := "loopCode", desc := "(I)V" } : Jvm.MethodName) prog_14_method_122_code (8 : Nat) (Option.none : Option FieldType) ∈ zk_BW := zk_inT 2615 (by decide +kernel) rfl
theorem kw2616 : Jvm.Cond.methodLink "PlantKeeperModel" (708 : Nat) ({ cls := "PlantKeeperModel", name := "times", desc := "(I)I" } : Jvm.MethodName) ∈ zk_BW := zk_inT 2616 (by decide +kernel) rfl
theorem kw2628 : Jvm.Cond.methodLink "PlantKeeperModel" (744 : Nat) ({ cls := "PlantKeeperModel", name := "rowOf", desc := "(II)I" } : Jvm.MethodName) ∈ zk_BW := zk_inT 2628 (by decide +kernel) rfl
theorem kw2630 : Jvm.Cond.instanceMethod ({ cls := "PlantKeeperModel", name := "rowOf", desc := "(II)I" } : Jvm.MethodName) ∈ zk_BW := zk_inT 2630 (by decide +kernel) rfl
theorem kw2631 : Jvm.Cond.code ({ cls := "PlantKeeperModel", name := "rowOf", desc := "(II)I" } : Jvm.MethodName) prog_14_method_133_code (5 : Nat) (Option.some FieldType.int) ∈ zk_BW := zk_inT 2631 (by decide +kernel) rfl
theorem kw2634 : Jvm.Cond.instanceMethod ({ cls := "PlantKeeperModel", name := "cellOf", desc := "(II)I" } : Jvm.MethodName) ∈ zk_BW := zk_inT 2634 (by decide +kernel) rfl
theorem kw2635 : Jvm.Cond.code ({ cls := "PlantKeeperModel", name := "cellOf", desc := "(II)I" } : Jvm.MethodName) prog_14_method_134_code (5 : Nat) (Option.some FieldType.int) ∈ zk_BW := zk_inT 2635 (by decide +kernel) rfl
theorem kw2636 : Jvm.Cond.methodLink "PlantKeeperModel" (750 : Nat) ({ cls := "PlantKeeperModel", name := "leastRow", desc := "(III)I" } : Jvm.MethodName) ∈ zk_BW := zk_inT 2636 (by decide +kernel) rfl
theorem kw2638 : Jvm.Cond.instanceMethod ({ cls := "PlantKeeperModel", name := "leastRow", desc := "(III)I" } : Jvm.MethodName) ∈ zk_BW := zk_inT 2638 (by decide +kernel) rfl
theorem kw2639 : Jvm.Cond.code ({ cls := "PlantKeeperModel", name := "leastRow", desc := "(III)I" } : Jvm.MethodName) prog_14_method_136_code (5 : Nat) (Option.some FieldType.int) ∈ zk_BW := zk_inT 2639 (by decide +kernel) rfl
theorem kw2640 : Jvm.Cond.methodLink "PlantKeeperModel" (747 : Nat) ({ cls := "PlantKeeperModel", name := "isLinked", desc := "(II)Z" } : Jvm.MethodName) ∈ zk_BW := zk_inT 2640 (by decide +kernel) rfl
theorem kw2642 : Jvm.Cond.instanceMethod ({ cls := "PlantKeeperModel", name := "isLinked", desc := "(II)Z" } : Jvm.MethodName) ∈ zk_BW := zk_inT 2642 (by decide +kernel) rfl
theorem kw2643 : Jvm.Cond.code ({ cls := "PlantKeeperModel", name := "isLinked", desc := "(II)Z" } : Jvm.MethodName) prog_14_method_135_code (5 : Nat) (Option.some FieldType.boolean) ∈ zk_BW := zk_inT 2643 (by decide +kernel) rfl
theorem kw2650 : Jvm.Cond.instanceMethod ({ cls := "PlantKeeperModel", name := "powerCell", desc := "(III)I" } : Jvm.MethodName) ∈ zk_BW := zk_inT 2650 (by decide +kernel) rfl
theorem kw2651 : Jvm.Cond.code ({ cls := "PlantKeeperModel", name := "powerCell", desc := "(III)I" } : Jvm.MethodName) prog_14_method_137_code (4 : Nat) (Option.some FieldType.int) ∈ zk_BW := zk_inT 2651 (by decide +kernel) rfl
theorem kw2654 : Jvm.Cond.instanceMethod ({ cls := "PlantKeeperModel", name := "contactCode", desc := "(I)V" } : Jvm.MethodName) ∈ zk_BW := zk_inT 2654 (by decide +kernel) rfl
theorem kw2655 : Jvm.Cond.code ({ cls := "PlantKeeperModel", name := "contactCode", desc := "(I)V" } : Jvm.MethodName) prog_14_method_140_code (6 : Nat) (Option.none : Option FieldType) ∈ zk_BW := zk_inT 2655 (by decide +kernel) rfl
abbrev kc_Mo_bodyCode : ByteArray := prog_14_method_115_code
def km_Mo_bodyCode : zk_MT := (⟨"PlantKeeperModel", "bodyCode", "(I)V"⟩, kc_Mo_bodyCode, 3, none, 1)
theorem ku_Mo_bodyCode : zk_My km_Mo_bodyCode := ⟨kw2535, kw17, by decide, by decide, by decide, by decide +kernel⟩
theorem kv_Mo_bodyCode : zk_Mv km_Mo_bodyCode := ⟨kw2534, zk_inS 250 (q := (⟨"PlantKeeperModel", "bodyCode", "(I)V"⟩, 96)) (by decide +kernel)⟩
abbrev kc_Mo_cellOf : ByteArray := prog_14_method_134_code
def km_Mo_cellOf : zk_MT := (⟨"PlantKeeperModel", "cellOf", "(II)I"⟩, kc_Mo_cellOf, 5, some .int, 2)
theorem ku_Mo_cellOf : zk_My km_Mo_cellOf := ⟨kw2635, kw17, by decide, by decide, by decide, by decide +kernel⟩
theorem kv_Mo_cellOf : zk_Mv km_Mo_cellOf := ⟨kw2634, zk_inS 272 (q := (⟨"PlantKeeperModel", "cellOf", "(II)I"⟩, 96)) (by decide +kernel)⟩
abbrev kc_Mo_choiceCode : ByteArray := prog_14_method_119_code
def km_Mo_choiceCode : zk_MT := (⟨"PlantKeeperModel", "choiceCode", "(III)V"⟩, kc_Mo_choiceCode, 9, none, 3)
theorem ku_Mo_choiceCode : zk_My km_Mo_choiceCode := ⟨kw2599, kw17, by decide, by decide, by decide, by decide +kernel⟩
theorem kv_Mo_choiceCode : zk_Mv km_Mo_choiceCode := ⟨kw2598, zk_inS 263 (q := (⟨"PlantKeeperModel", "choiceCode", "(III)V"⟩, 96)) (by decide +kernel)⟩
abbrev kc_Mo_contactCode : ByteArray := prog_14_method_140_code
def km_Mo_contactCode : zk_MT := (⟨"PlantKeeperModel", "contactCode", "(I)V"⟩, kc_Mo_contactCode, 6, none, 1)
theorem ku_Mo_contactCode : zk_My km_Mo_contactCode := ⟨kw2655, kw17, by decide, by decide, by decide, by decide +kernel⟩
theorem kv_Mo_contactCode : zk_Mv km_Mo_contactCode := ⟨kw2654, zk_inS 277 (q := (⟨"PlantKeeperModel", "contactCode", "(I)V"⟩, 96)) (by decide +kernel)⟩
abbrev kc_Mo_isLinked : ByteArray := prog_14_method_135_code
def km_Mo_isLinked : zk_MT := (⟨"PlantKeeperModel", "isLinked", "(II)Z"⟩, kc_Mo_isLinked, 5, some .boolean, 2)
theorem ku_Mo_isLinked : zk_My km_Mo_isLinked := ⟨kw2643, kw17, by decide, by decide, by decide, by decide +kernel⟩
theorem kv_Mo_isLinked : zk_Mv km_Mo_isLinked := ⟨kw2642, zk_inS 274 (q := (⟨"PlantKeeperModel", "isLinked", "(II)Z"⟩, 96)) (by decide +kernel)⟩
abbrev kc_Mo_leastRow : ByteArray := prog_14_method_136_code
def km_Mo_leastRow : zk_MT := (⟨"PlantKeeperModel", "leastRow", "(III)I"⟩, kc_Mo_leastRow, 5, some .int, 3)
theorem ku_Mo_leastRow : zk_My km_Mo_leastRow := ⟨kw2639, kw17, by decide, by decide, by decide, by decide +kernel⟩
theorem kv_Mo_leastRow : zk_Mv km_Mo_leastRow := ⟨kw2638, zk_inS 273 (q := (⟨"PlantKeeperModel", "leastRow", "(III)I"⟩, 96)) (by decide +kernel)⟩
abbrev kc_Mo_loopCode : ByteArray := prog_14_method_122_code
def km_Mo_loopCode : zk_MT := (⟨"PlantKeeperModel", "loopCode", "(I)V"⟩, kc_Mo_loopCode, 8, none, 1)
theorem ku_Mo_loopCode : zk_My km_Mo_loopCode := ⟨kw2615, kw17, by decide, by decide, by decide, by decide +kernel⟩
theorem kv_Mo_loopCode : zk_Mv km_Mo_loopCode := ⟨kw2614, zk_inS 267 (q := (⟨"PlantKeeperModel", "loopCode", "(I)V"⟩, 96)) (by decide +kernel)⟩
abbrev kc_Mo_powerCell : ByteArray := prog_14_method_137_code
def km_Mo_powerCell : zk_MT := (⟨"PlantKeeperModel", "powerCell", "(III)I"⟩, kc_Mo_powerCell, 4, some .int, 3)
theorem ku_Mo_powerCell : zk_My km_Mo_powerCell := ⟨kw2651, kw17, by decide, by decide, by decide, by decide +kernel⟩
theorem kv_Mo_powerCell : zk_Mv km_Mo_powerCell := ⟨kw2650, zk_inS 276 (q := (⟨"PlantKeeperModel", "powerCell", "(III)I"⟩, 96)) (by decide +kernel)⟩
abbrev kc_Mo_rowOf : ByteArray := prog_14_method_133_code
def km_Mo_rowOf : zk_MT := (⟨"PlantKeeperModel", "rowOf", "(II)I"⟩, kc_Mo_rowOf, 5, some .int, 2)
theorem ku_Mo_rowOf : zk_My km_Mo_rowOf := ⟨kw2631, kw17, by decide, by decide, by decide, by decide +kernel⟩
theorem kv_Mo_rowOf : zk_Mv km_Mo_rowOf := ⟨kw2630, zk_inS 271 (q := (⟨"PlantKeeperModel", "rowOf", "(II)I"⟩, 96)) (by decide +kernel)⟩
abbrev kc_Mo_statementCode : ByteArray := prog_14_method_116_code
def km_Mo_statementCode : zk_MT := (⟨"PlantKeeperModel", "statementCode", "(I)V"⟩, kc_Mo_statementCode, 4, none, 1)
theorem ku_Mo_statementCode : zk_My km_Mo_statementCode := ⟨kw2539, kw17, by decide, by decide, by decide, by decide +kernel⟩
theorem kv_Mo_statementCode : zk_Mv km_Mo_statementCode := ⟨kw2538, zk_inS 251 (q := (⟨"PlantKeeperModel", "statementCode", "(I)V"⟩, 96)) (by decide +kernel)⟩
theorem kd_Mo_bodyCode_0 : decode kc_Mo_bodyCode 0 = .ok (.aload_n 0, 1) := by decide +kernel
theorem kd_Mo_bodyCode_1 : decode kc_Mo_bodyCode 1 = .ok (.getfield 34, 3) := by decide +kernel
theorem kd_Mo_bodyCode_4 : decode kc_Mo_bodyCode 4 = .ok (.iload_n 1, 1) := by decide +kernel
theorem kd_Mo_bodyCode_5 : decode kc_Mo_bodyCode 5 = .ok (.iaload, 1) := by decide +kernel
theorem kd_Mo_bodyCode_6 : decode kc_Mo_bodyCode 6 = .ok (.istore_n 2, 1) := by decide +kernel
theorem kd_Mo_bodyCode_7 : decode kc_Mo_bodyCode 7 = .ok (.iload_n 2, 1) := by decide +kernel
theorem kd_Mo_bodyCode_8 : decode kc_Mo_bodyCode 8 = .ok (.ifCond .lt 18, 3) := by decide +kernel
theorem kd_Mo_bodyCode_11 : decode kc_Mo_bodyCode 11 = .ok (.aload_n 0, 1) := by decide +kernel
theorem kd_Mo_bodyCode_12 : decode kc_Mo_bodyCode 12 = .ok (.iload_n 2, 1) := by decide +kernel
theorem kd_Mo_bodyCode_13 : decode kc_Mo_bodyCode 13 = .ok (.invokevirtual 676, 3) := by decide +kernel
theorem kd_Mo_bodyCode_16 : decode kc_Mo_bodyCode 16 = .ok (.aload_n 0, 1) := by decide +kernel
theorem kd_Mo_bodyCode_17 : decode kc_Mo_bodyCode 17 = .ok (.getfield 40, 3) := by decide +kernel
theorem kd_Mo_bodyCode_20 : decode kc_Mo_bodyCode 20 = .ok (.iload_n 2, 1) := by decide +kernel
theorem kd_Mo_bodyCode_21 : decode kc_Mo_bodyCode 21 = .ok (.iaload, 1) := by decide +kernel
theorem kd_Mo_bodyCode_22 : decode kc_Mo_bodyCode 22 = .ok (.istore_n 2, 1) := by decide +kernel
theorem kd_Mo_bodyCode_23 : decode kc_Mo_bodyCode 23 = .ok (.goto (-16), 3) := by decide +kernel
theorem kd_Mo_bodyCode_26 : decode kc_Mo_bodyCode 26 = .ok (.return_, 1) := by decide +kernel
theorem kd_Mo_cellOf_0 : decode kc_Mo_cellOf 0 = .ok (.iload_n 2, 1) := by decide +kernel
theorem kd_Mo_cellOf_1 : decode kc_Mo_cellOf 1 = .ok (.istore_n 3, 1) := by decide +kernel
theorem kd_Mo_cellOf_2 : decode kc_Mo_cellOf 2 = .ok (.aload_n 0, 1) := by decide +kernel
theorem kd_Mo_cellOf_3 : decode kc_Mo_cellOf 3 = .ok (.getfield 34, 3) := by decide +kernel
theorem kd_Mo_cellOf_6 : decode kc_Mo_cellOf 6 = .ok (.iload_n 1, 1) := by decide +kernel
theorem kd_Mo_cellOf_7 : decode kc_Mo_cellOf 7 = .ok (.iaload, 1) := by decide +kernel
theorem kd_Mo_cellOf_8 : decode kc_Mo_cellOf 8 = .ok (.istore 4, 2) := by decide +kernel
theorem kd_Mo_cellOf_10 : decode kc_Mo_cellOf 10 = .ok (.aload_n 0, 1) := by decide +kernel
theorem kd_Mo_cellOf_11 : decode kc_Mo_cellOf 11 = .ok (.getfield 22, 3) := by decide +kernel
theorem kd_Mo_cellOf_14 : decode kc_Mo_cellOf 14 = .ok (.iload 4, 2) := by decide +kernel
theorem kd_Mo_cellOf_16 : decode kc_Mo_cellOf 16 = .ok (.iaload, 1) := by decide +kernel
theorem kd_Mo_cellOf_17 : decode kc_Mo_cellOf 17 = .ok (.bipush 29, 2) := by decide +kernel
theorem kd_Mo_cellOf_19 : decode kc_Mo_cellOf 19 = .ok (.if_icmp .eq 7, 3) := by decide +kernel
theorem kd_Mo_cellOf_22 : decode kc_Mo_cellOf 22 = .ok (.iload_n 3, 1) := by decide +kernel
theorem kd_Mo_cellOf_23 : decode kc_Mo_cellOf 23 = .ok (.ifCond .le 35, 3) := by decide +kernel
theorem kd_Mo_cellOf_26 : decode kc_Mo_cellOf 26 = .ok (.iload_n 3, 1) := by decide +kernel
theorem kd_Mo_cellOf_27 : decode kc_Mo_cellOf 27 = .ok (.aload_n 0, 1) := by decide +kernel
theorem kd_Mo_cellOf_28 : decode kc_Mo_cellOf 28 = .ok (.getfield 22, 3) := by decide +kernel
theorem kd_Mo_cellOf_31 : decode kc_Mo_cellOf 31 = .ok (.iload 4, 2) := by decide +kernel
theorem kd_Mo_cellOf_33 : decode kc_Mo_cellOf 33 = .ok (.iaload, 1) := by decide +kernel
theorem kd_Mo_cellOf_34 : decode kc_Mo_cellOf 34 = .ok (.bipush 29, 2) := by decide +kernel
theorem kd_Mo_cellOf_36 : decode kc_Mo_cellOf 36 = .ok (.if_icmp .ne 7, 3) := by decide +kernel
theorem kd_Mo_cellOf_39 : decode kc_Mo_cellOf 39 = .ok (.iconst 0, 1) := by decide +kernel
theorem kd_Mo_cellOf_40 : decode kc_Mo_cellOf 40 = .ok (.goto 4, 3) := by decide +kernel
theorem kd_Mo_cellOf_43 : decode kc_Mo_cellOf 43 = .ok (.iconst 1, 1) := by decide +kernel
theorem kd_Mo_cellOf_44 : decode kc_Mo_cellOf 44 = .ok (.isub, 1) := by decide +kernel
theorem kd_Mo_cellOf_45 : decode kc_Mo_cellOf 45 = .ok (.istore_n 3, 1) := by decide +kernel
theorem kd_Mo_cellOf_46 : decode kc_Mo_cellOf 46 = .ok (.aload_n 0, 1) := by decide +kernel
theorem kd_Mo_cellOf_47 : decode kc_Mo_cellOf 47 = .ok (.getfield 40, 3) := by decide +kernel
theorem kd_Mo_cellOf_50 : decode kc_Mo_cellOf 50 = .ok (.iload 4, 2) := by decide +kernel
theorem kd_Mo_cellOf_52 : decode kc_Mo_cellOf 52 = .ok (.iaload, 1) := by decide +kernel
theorem kd_Mo_cellOf_53 : decode kc_Mo_cellOf 53 = .ok (.istore 4, 2) := by decide +kernel
theorem kd_Mo_cellOf_55 : decode kc_Mo_cellOf 55 = .ok (.goto (-45), 3) := by decide +kernel
theorem kd_Mo_cellOf_58 : decode kc_Mo_cellOf 58 = .ok (.iload 4, 2) := by decide +kernel
theorem kd_Mo_cellOf_60 : decode kc_Mo_cellOf 60 = .ok (.ireturn, 1) := by decide +kernel
theorem kd_Mo_choiceCode_0 : decode kc_Mo_choiceCode 0 = .ok (.aload_n 0, 1) := by decide +kernel
theorem kd_Mo_choiceCode_1 : decode kc_Mo_choiceCode 1 = .ok (.getfield 697, 3) := by decide +kernel
theorem kd_Mo_choiceCode_4 : decode kc_Mo_choiceCode 4 = .ok (.istore 4, 2) := by decide +kernel
theorem kd_Mo_choiceCode_6 : decode kc_Mo_choiceCode 6 = .ok (.iload_n 2, 1) := by decide +kernel
theorem kd_Mo_choiceCode_7 : decode kc_Mo_choiceCode 7 = .ok (.istore 5, 2) := by decide +kernel
theorem kd_Mo_choiceCode_9 : decode kc_Mo_choiceCode 9 = .ok (.iload 5, 2) := by decide +kernel
theorem kd_Mo_choiceCode_11 : decode kc_Mo_choiceCode 11 = .ok (.ifCond .lt 163, 3) := by decide +kernel
theorem kd_Mo_choiceCode_14 : decode kc_Mo_choiceCode 14 = .ok (.iconst 0, 1) := by decide +kernel
theorem kd_Mo_choiceCode_15 : decode kc_Mo_choiceCode 15 = .ok (.istore 6, 2) := by decide +kernel
theorem kd_Mo_choiceCode_17 : decode kc_Mo_choiceCode 17 = .ok (.iload 5, 2) := by decide +kernel
theorem kd_Mo_choiceCode_19 : decode kc_Mo_choiceCode 19 = .ok (.istore 7, 2) := by decide +kernel
theorem kd_Mo_choiceCode_21 : decode kc_Mo_choiceCode 21 = .ok (.iconst (-1), 1) := by decide +kernel
theorem kd_Mo_choiceCode_22 : decode kc_Mo_choiceCode 22 = .ok (.istore 8, 2) := by decide +kernel
theorem kd_Mo_choiceCode_24 : decode kc_Mo_choiceCode 24 = .ok (.aload_n 0, 1) := by decide +kernel
theorem kd_Mo_choiceCode_25 : decode kc_Mo_choiceCode 25 = .ok (.getfield 22, 3) := by decide +kernel
theorem kd_Mo_choiceCode_28 : decode kc_Mo_choiceCode 28 = .ok (.iload 5, 2) := by decide +kernel
theorem kd_Mo_choiceCode_30 : decode kc_Mo_choiceCode 30 = .ok (.iaload, 1) := by decide +kernel
theorem kd_Mo_choiceCode_31 : decode kc_Mo_choiceCode 31 = .ok (.bipush 17, 2) := by decide +kernel
theorem kd_Mo_choiceCode_33 : decode kc_Mo_choiceCode 33 = .ok (.if_icmp .ne 33, 3) := by decide +kernel
theorem kd_Mo_choiceCode_36 : decode kc_Mo_choiceCode 36 = .ok (.aload_n 0, 1) := by decide +kernel
theorem kd_Mo_choiceCode_37 : decode kc_Mo_choiceCode 37 = .ok (.iload 5, 2) := by decide +kernel
theorem kd_Mo_choiceCode_39 : decode kc_Mo_choiceCode 39 = .ok (.iload_n 3, 1) := by decide +kernel
theorem kd_Mo_choiceCode_40 : decode kc_Mo_choiceCode 40 = .ok (.invokevirtual 700, 3) := by decide +kernel
theorem kd_Mo_choiceCode_43 : decode kc_Mo_choiceCode 43 = .ok (.aload_n 0, 1) := by decide +kernel
theorem kd_Mo_choiceCode_44 : decode kc_Mo_choiceCode 44 = .ok (.bipush 11, 2) := by decide +kernel
theorem kd_Mo_choiceCode_46 : decode kc_Mo_choiceCode 46 = .ok (.iconst 0, 1) := by decide +kernel
theorem kd_Mo_choiceCode_47 : decode kc_Mo_choiceCode 47 = .ok (.iconst 0, 1) := by decide +kernel
theorem kd_Mo_choiceCode_48 : decode kc_Mo_choiceCode 48 = .ok (.iconst 0, 1) := by decide +kernel
theorem kd_Mo_choiceCode_49 : decode kc_Mo_choiceCode 49 = .ok (.invokevirtual 670, 3) := by decide +kernel
theorem kd_Mo_choiceCode_52 : decode kc_Mo_choiceCode 52 = .ok (.istore 8, 2) := by decide +kernel
theorem kd_Mo_choiceCode_54 : decode kc_Mo_choiceCode 54 = .ok (.aload_n 0, 1) := by decide +kernel
theorem kd_Mo_choiceCode_55 : decode kc_Mo_choiceCode 55 = .ok (.getfield 37, 3) := by decide +kernel
theorem kd_Mo_choiceCode_58 : decode kc_Mo_choiceCode 58 = .ok (.iload 5, 2) := by decide +kernel
theorem kd_Mo_choiceCode_60 : decode kc_Mo_choiceCode 60 = .ok (.iaload, 1) := by decide +kernel
theorem kd_Mo_choiceCode_61 : decode kc_Mo_choiceCode 61 = .ok (.istore 7, 2) := by decide +kernel
theorem kd_Mo_choiceCode_63 : decode kc_Mo_choiceCode 63 = .ok (.goto 45, 3) := by decide +kernel
theorem kd_Mo_choiceCode_66 : decode kc_Mo_choiceCode 66 = .ok (.aload_n 0, 1) := by decide +kernel
theorem kd_Mo_choiceCode_67 : decode kc_Mo_choiceCode 67 = .ok (.getfield 22, 3) := by decide +kernel
theorem kd_Mo_choiceCode_70 : decode kc_Mo_choiceCode 70 = .ok (.iload 5, 2) := by decide +kernel
theorem kd_Mo_choiceCode_72 : decode kc_Mo_choiceCode 72 = .ok (.iaload, 1) := by decide +kernel
theorem kd_Mo_choiceCode_73 : decode kc_Mo_choiceCode 73 = .ok (.bipush 11, 2) := by decide +kernel
theorem kd_Mo_choiceCode_75 : decode kc_Mo_choiceCode 75 = .ok (.if_icmp .eq 33, 3) := by decide +kernel
theorem kd_Mo_choiceCode_78 : decode kc_Mo_choiceCode 78 = .ok (.aload_n 0, 1) := by decide +kernel
theorem kd_Mo_choiceCode_79 : decode kc_Mo_choiceCode 79 = .ok (.iload 5, 2) := by decide +kernel
theorem kd_Mo_choiceCode_81 : decode kc_Mo_choiceCode 81 = .ok (.invokevirtual 682, 3) := by decide +kernel
theorem kd_Mo_choiceCode_84 : decode kc_Mo_choiceCode 84 = .ok (.aload_n 0, 1) := by decide +kernel
theorem kd_Mo_choiceCode_85 : decode kc_Mo_choiceCode 85 = .ok (.bipush 11, 2) := by decide +kernel
theorem kd_Mo_choiceCode_87 : decode kc_Mo_choiceCode 87 = .ok (.iconst 0, 1) := by decide +kernel
theorem kd_Mo_choiceCode_88 : decode kc_Mo_choiceCode 88 = .ok (.iconst 0, 1) := by decide +kernel
theorem kd_Mo_choiceCode_89 : decode kc_Mo_choiceCode 89 = .ok (.iconst 0, 1) := by decide +kernel
theorem kd_Mo_choiceCode_90 : decode kc_Mo_choiceCode 90 = .ok (.invokevirtual 670, 3) := by decide +kernel
theorem kd_Mo_choiceCode_93 : decode kc_Mo_choiceCode 93 = .ok (.istore 8, 2) := by decide +kernel
theorem kd_Mo_choiceCode_95 : decode kc_Mo_choiceCode 95 = .ok (.aload_n 0, 1) := by decide +kernel
theorem kd_Mo_choiceCode_96 : decode kc_Mo_choiceCode 96 = .ok (.getfield 40, 3) := by decide +kernel
theorem kd_Mo_choiceCode_99 : decode kc_Mo_choiceCode 99 = .ok (.iload 5, 2) := by decide +kernel
theorem kd_Mo_choiceCode_101 : decode kc_Mo_choiceCode 101 = .ok (.iaload, 1) := by decide +kernel
theorem kd_Mo_choiceCode_102 : decode kc_Mo_choiceCode 102 = .ok (.istore 5, 2) := by decide +kernel
theorem kd_Mo_choiceCode_104 : decode kc_Mo_choiceCode 104 = .ok (.iload 5, 2) := by decide +kernel
theorem kd_Mo_choiceCode_106 : decode kc_Mo_choiceCode 106 = .ok (.istore 7, 2) := by decide +kernel
theorem kd_Mo_choiceCode_108 : decode kc_Mo_choiceCode 108 = .ok (.aload_n 0, 1) := by decide +kernel
theorem kd_Mo_choiceCode_109 : decode kc_Mo_choiceCode 109 = .ok (.iload 7, 2) := by decide +kernel
theorem kd_Mo_choiceCode_111 : decode kc_Mo_choiceCode 111 = .ok (.invokevirtual 664, 3) := by decide +kernel
theorem kd_Mo_choiceCode_114 : decode kc_Mo_choiceCode 114 = .ok (.aload_n 0, 1) := by decide +kernel
theorem kd_Mo_choiceCode_115 : decode kc_Mo_choiceCode 115 = .ok (.getfield 40, 3) := by decide +kernel
theorem kd_Mo_choiceCode_118 : decode kc_Mo_choiceCode 118 = .ok (.iload 5, 2) := by decide +kernel
theorem kd_Mo_choiceCode_120 : decode kc_Mo_choiceCode 120 = .ok (.iaload, 1) := by decide +kernel
theorem kd_Mo_choiceCode_121 : decode kc_Mo_choiceCode 121 = .ok (.istore 5, 2) := by decide +kernel
theorem kd_Mo_choiceCode_123 : decode kc_Mo_choiceCode 123 = .ok (.iload 5, 2) := by decide +kernel
theorem kd_Mo_choiceCode_125 : decode kc_Mo_choiceCode 125 = .ok (.ifCond .lt 31, 3) := by decide +kernel
theorem kd_Mo_choiceCode_128 : decode kc_Mo_choiceCode 128 = .ok (.aload_n 0, 1) := by decide +kernel
theorem kd_Mo_choiceCode_129 : decode kc_Mo_choiceCode 129 = .ok (.getfield 137, 3) := by decide +kernel
theorem kd_Mo_choiceCode_132 : decode kc_Mo_choiceCode 132 = .ok (.aload_n 0, 1) := by decide +kernel
theorem kd_Mo_choiceCode_133 : decode kc_Mo_choiceCode 133 = .ok (.getfield 697, 3) := by decide +kernel
theorem kd_Mo_choiceCode_136 : decode kc_Mo_choiceCode 136 = .ok (.aload_n 0, 1) := by decide +kernel
theorem kd_Mo_choiceCode_137 : decode kc_Mo_choiceCode 137 = .ok (.bipush 10, 2) := by decide +kernel
theorem kd_Mo_choiceCode_139 : decode kc_Mo_choiceCode 139 = .ok (.iconst 0, 1) := by decide +kernel
theorem kd_Mo_choiceCode_140 : decode kc_Mo_choiceCode 140 = .ok (.iconst 0, 1) := by decide +kernel
theorem kd_Mo_choiceCode_141 : decode kc_Mo_choiceCode 141 = .ok (.iconst 0, 1) := by decide +kernel
theorem kd_Mo_choiceCode_142 : decode kc_Mo_choiceCode 142 = .ok (.invokevirtual 670, 3) := by decide +kernel
theorem kd_Mo_choiceCode_145 : decode kc_Mo_choiceCode 145 = .ok (.iastore, 1) := by decide +kernel
theorem kd_Mo_choiceCode_146 : decode kc_Mo_choiceCode 146 = .ok (.aload_n 0, 1) := by decide +kernel
theorem kd_Mo_choiceCode_147 : decode kc_Mo_choiceCode 147 = .ok (.dup, 1) := by decide +kernel
theorem kd_Mo_choiceCode_148 : decode kc_Mo_choiceCode 148 = .ok (.getfield 697, 3) := by decide +kernel
theorem kd_Mo_choiceCode_151 : decode kc_Mo_choiceCode 151 = .ok (.iconst 1, 1) := by decide +kernel
theorem kd_Mo_choiceCode_152 : decode kc_Mo_choiceCode 152 = .ok (.iadd, 1) := by decide +kernel
theorem kd_Mo_choiceCode_153 : decode kc_Mo_choiceCode 153 = .ok (.putfield 697, 3) := by decide +kernel
theorem kd_Mo_choiceCode_156 : decode kc_Mo_choiceCode 156 = .ok (.iload 8, 2) := by decide +kernel
theorem kd_Mo_choiceCode_158 : decode kc_Mo_choiceCode 158 = .ok (.ifCond .lt 13, 3) := by decide +kernel
theorem kd_Mo_choiceCode_161 : decode kc_Mo_choiceCode 161 = .ok (.aload_n 0, 1) := by decide +kernel
theorem kd_Mo_choiceCode_162 : decode kc_Mo_choiceCode 162 = .ok (.iload 8, 2) := by decide +kernel
theorem kd_Mo_choiceCode_164 : decode kc_Mo_choiceCode 164 = .ok (.aload_n 0, 1) := by decide +kernel
theorem kd_Mo_choiceCode_165 : decode kc_Mo_choiceCode 165 = .ok (.invokevirtual 703, 3) := by decide +kernel
theorem kd_Mo_choiceCode_168 : decode kc_Mo_choiceCode 168 = .ok (.invokevirtual 705, 3) := by decide +kernel
theorem kd_Mo_choiceCode_171 : decode kc_Mo_choiceCode 171 = .ok (.goto (-162), 3) := by decide +kernel
theorem kd_Mo_choiceCode_174 : decode kc_Mo_choiceCode 174 = .ok (.aload_n 0, 1) := by decide +kernel
theorem kd_Mo_choiceCode_175 : decode kc_Mo_choiceCode 175 = .ok (.getfield 697, 3) := by decide +kernel
theorem kd_Mo_choiceCode_178 : decode kc_Mo_choiceCode 178 = .ok (.iload 4, 2) := by decide +kernel
theorem kd_Mo_choiceCode_180 : decode kc_Mo_choiceCode 180 = .ok (.if_icmp .le 33, 3) := by decide +kernel
theorem kd_Mo_choiceCode_183 : decode kc_Mo_choiceCode 183 = .ok (.aload_n 0, 1) := by decide +kernel
theorem kd_Mo_choiceCode_184 : decode kc_Mo_choiceCode 184 = .ok (.dup, 1) := by decide +kernel
theorem kd_Mo_choiceCode_185 : decode kc_Mo_choiceCode 185 = .ok (.getfield 697, 3) := by decide +kernel
theorem kd_Mo_choiceCode_188 : decode kc_Mo_choiceCode 188 = .ok (.iconst 1, 1) := by decide +kernel
theorem kd_Mo_choiceCode_189 : decode kc_Mo_choiceCode 189 = .ok (.isub, 1) := by decide +kernel
theorem kd_Mo_choiceCode_190 : decode kc_Mo_choiceCode 190 = .ok (.putfield 697, 3) := by decide +kernel
theorem kd_Mo_choiceCode_193 : decode kc_Mo_choiceCode 193 = .ok (.aload_n 0, 1) := by decide +kernel
theorem kd_Mo_choiceCode_194 : decode kc_Mo_choiceCode 194 = .ok (.aload_n 0, 1) := by decide +kernel
theorem kd_Mo_choiceCode_195 : decode kc_Mo_choiceCode 195 = .ok (.getfield 137, 3) := by decide +kernel
theorem kd_Mo_choiceCode_198 : decode kc_Mo_choiceCode 198 = .ok (.aload_n 0, 1) := by decide +kernel
theorem kd_Mo_choiceCode_199 : decode kc_Mo_choiceCode 199 = .ok (.getfield 697, 3) := by decide +kernel
theorem kd_Mo_choiceCode_202 : decode kc_Mo_choiceCode 202 = .ok (.iaload, 1) := by decide +kernel
theorem kd_Mo_choiceCode_203 : decode kc_Mo_choiceCode 203 = .ok (.aload_n 0, 1) := by decide +kernel
theorem kd_Mo_choiceCode_204 : decode kc_Mo_choiceCode 204 = .ok (.invokevirtual 703, 3) := by decide +kernel
theorem kd_Mo_choiceCode_207 : decode kc_Mo_choiceCode 207 = .ok (.invokevirtual 705, 3) := by decide +kernel
theorem kd_Mo_choiceCode_210 : decode kc_Mo_choiceCode 210 = .ok (.goto (-36), 3) := by decide +kernel
theorem kd_Mo_choiceCode_213 : decode kc_Mo_choiceCode 213 = .ok (.return_, 1) := by decide +kernel
theorem kd_Mo_contactCode_0 : decode kc_Mo_contactCode 0 = .ok (.aload_n 0, 1) := by decide +kernel
theorem kd_Mo_contactCode_1 : decode kc_Mo_contactCode 1 = .ok (.getfield 109, 3) := by decide +kernel
theorem kd_Mo_contactCode_4 : decode kc_Mo_contactCode 4 = .ok (.aload_n 0, 1) := by decide +kernel
theorem kd_Mo_contactCode_5 : decode kc_Mo_contactCode 5 = .ok (.getfield 34, 3) := by decide +kernel
theorem kd_Mo_contactCode_8 : decode kc_Mo_contactCode 8 = .ok (.iload_n 1, 1) := by decide +kernel
theorem kd_Mo_contactCode_9 : decode kc_Mo_contactCode 9 = .ok (.iaload, 1) := by decide +kernel
theorem kd_Mo_contactCode_10 : decode kc_Mo_contactCode 10 = .ok (.iaload, 1) := by decide +kernel
theorem kd_Mo_contactCode_11 : decode kc_Mo_contactCode 11 = .ok (.istore_n 2, 1) := by decide +kernel
theorem kd_Mo_contactCode_12 : decode kc_Mo_contactCode 12 = .ok (.aload_n 0, 1) := by decide +kernel
theorem kd_Mo_contactCode_13 : decode kc_Mo_contactCode 13 = .ok (.getfield 109, 3) := by decide +kernel
theorem kd_Mo_contactCode_16 : decode kc_Mo_contactCode 16 = .ok (.iload_n 1, 1) := by decide +kernel
theorem kd_Mo_contactCode_17 : decode kc_Mo_contactCode 17 = .ok (.iaload, 1) := by decide +kernel
theorem kd_Mo_contactCode_18 : decode kc_Mo_contactCode 18 = .ok (.istore_n 3, 1) := by decide +kernel
theorem kd_Mo_contactCode_19 : decode kc_Mo_contactCode 19 = .ok (.aload_n 0, 1) := by decide +kernel
theorem kd_Mo_contactCode_20 : decode kc_Mo_contactCode 20 = .ok (.getfield 28, 3) := by decide +kernel
theorem kd_Mo_contactCode_23 : decode kc_Mo_contactCode 23 = .ok (.iload_n 1, 1) := by decide +kernel
theorem kd_Mo_contactCode_24 : decode kc_Mo_contactCode 24 = .ok (.iaload, 1) := by decide +kernel
theorem kd_Mo_contactCode_25 : decode kc_Mo_contactCode 25 = .ok (.istore 4, 2) := by decide +kernel
theorem kd_Mo_contactCode_27 : decode kc_Mo_contactCode 27 = .ok (.aload_n 0, 1) := by decide +kernel
theorem kd_Mo_contactCode_28 : decode kc_Mo_contactCode 28 = .ok (.iconst 1, 1) := by decide +kernel
theorem kd_Mo_contactCode_29 : decode kc_Mo_contactCode 29 = .ok (.iload 4, 2) := by decide +kernel
theorem kd_Mo_contactCode_31 : decode kc_Mo_contactCode 31 = .ok (.iconst 3, 1) := by decide +kernel
theorem kd_Mo_contactCode_32 : decode kc_Mo_contactCode 32 = .ok (.if_icmp .ne 7, 3) := by decide +kernel
theorem kd_Mo_contactCode_35 : decode kc_Mo_contactCode 35 = .ok (.iload_n 3, 1) := by decide +kernel
theorem kd_Mo_contactCode_36 : decode kc_Mo_contactCode 36 = .ok (.goto 4, 3) := by decide +kernel
theorem kd_Mo_contactCode_39 : decode kc_Mo_contactCode 39 = .ok (.iload_n 2, 1) := by decide +kernel
theorem kd_Mo_contactCode_40 : decode kc_Mo_contactCode 40 = .ok (.iconst 0, 1) := by decide +kernel
theorem kd_Mo_contactCode_41 : decode kc_Mo_contactCode 41 = .ok (.iconst 0, 1) := by decide +kernel
theorem kd_Mo_contactCode_42 : decode kc_Mo_contactCode 42 = .ok (.invokevirtual 670, 3) := by decide +kernel
theorem kd_Mo_contactCode_45 : decode kc_Mo_contactCode 45 = .ok (.istore 5, 2) := by decide +kernel
theorem kd_Mo_contactCode_47 : decode kc_Mo_contactCode 47 = .ok (.iload 4, 2) := by decide +kernel
theorem kd_Mo_contactCode_49 : decode kc_Mo_contactCode 49 = .ok (.iconst 1, 1) := by decide +kernel
theorem kd_Mo_contactCode_50 : decode kc_Mo_contactCode 50 = .ok (.if_icmp .le 23, 3) := by decide +kernel
theorem kd_Mo_contactCode_53 : decode kc_Mo_contactCode 53 = .ok (.aload_n 0, 1) := by decide +kernel
theorem kd_Mo_contactCode_54 : decode kc_Mo_contactCode 54 = .ok (.iconst 1, 1) := by decide +kernel
theorem kd_Mo_contactCode_55 : decode kc_Mo_contactCode 55 = .ok (.iload 4, 2) := by decide +kernel
theorem kd_Mo_contactCode_57 : decode kc_Mo_contactCode 57 = .ok (.iconst 3, 1) := by decide +kernel
theorem kd_Mo_contactCode_58 : decode kc_Mo_contactCode 58 = .ok (.if_icmp .ne 7, 3) := by decide +kernel
theorem kd_Mo_contactCode_61 : decode kc_Mo_contactCode 61 = .ok (.iload_n 2, 1) := by decide +kernel
theorem kd_Mo_contactCode_62 : decode kc_Mo_contactCode 62 = .ok (.goto 4, 3) := by decide +kernel
theorem kd_Mo_contactCode_65 : decode kc_Mo_contactCode 65 = .ok (.iload_n 3, 1) := by decide +kernel
theorem kd_Mo_contactCode_66 : decode kc_Mo_contactCode 66 = .ok (.iconst 0, 1) := by decide +kernel
theorem kd_Mo_contactCode_67 : decode kc_Mo_contactCode 67 = .ok (.iconst 0, 1) := by decide +kernel
theorem kd_Mo_contactCode_68 : decode kc_Mo_contactCode 68 = .ok (.invokevirtual 670, 3) := by decide +kernel
theorem kd_Mo_contactCode_71 : decode kc_Mo_contactCode 71 = .ok (.istore 5, 2) := by decide +kernel
theorem kd_Mo_contactCode_73 : decode kc_Mo_contactCode 73 = .ok (.iload 4, 2) := by decide +kernel
theorem kd_Mo_contactCode_75 : decode kc_Mo_contactCode 75 = .ok (.ifCond .le 14, 3) := by decide +kernel
theorem kd_Mo_contactCode_78 : decode kc_Mo_contactCode 78 = .ok (.aload_n 0, 1) := by decide +kernel
theorem kd_Mo_contactCode_79 : decode kc_Mo_contactCode 79 = .ok (.bipush 8, 2) := by decide +kernel
theorem kd_Mo_contactCode_81 : decode kc_Mo_contactCode 81 = .ok (.iconst 2, 1) := by decide +kernel
theorem kd_Mo_contactCode_82 : decode kc_Mo_contactCode 82 = .ok (.iconst 0, 1) := by decide +kernel
theorem kd_Mo_contactCode_83 : decode kc_Mo_contactCode 83 = .ok (.iconst 0, 1) := by decide +kernel
theorem kd_Mo_contactCode_84 : decode kc_Mo_contactCode 84 = .ok (.invokevirtual 670, 3) := by decide +kernel
theorem kd_Mo_contactCode_87 : decode kc_Mo_contactCode 87 = .ok (.istore 5, 2) := by decide +kernel
theorem kd_Mo_contactCode_89 : decode kc_Mo_contactCode 89 = .ok (.iload 4, 2) := by decide +kernel
theorem kd_Mo_contactCode_91 : decode kc_Mo_contactCode 91 = .ok (.iconst 1, 1) := by decide +kernel
theorem kd_Mo_contactCode_92 : decode kc_Mo_contactCode 92 = .ok (.if_icmp .le 15, 3) := by decide +kernel
theorem kd_Mo_contactCode_95 : decode kc_Mo_contactCode 95 = .ok (.aload_n 0, 1) := by decide +kernel
theorem kd_Mo_contactCode_96 : decode kc_Mo_contactCode 96 = .ok (.bipush 7, 2) := by decide +kernel
theorem kd_Mo_contactCode_98 : decode kc_Mo_contactCode 98 = .ok (.bipush 10, 2) := by decide +kernel
theorem kd_Mo_contactCode_100 : decode kc_Mo_contactCode 100 = .ok (.iconst 0, 1) := by decide +kernel
theorem kd_Mo_contactCode_101 : decode kc_Mo_contactCode 101 = .ok (.iconst 0, 1) := by decide +kernel
theorem kd_Mo_contactCode_102 : decode kc_Mo_contactCode 102 = .ok (.invokevirtual 670, 3) := by decide +kernel
theorem kd_Mo_contactCode_105 : decode kc_Mo_contactCode 105 = .ok (.istore 5, 2) := by decide +kernel
theorem kd_Mo_contactCode_107 : decode kc_Mo_contactCode 107 = .ok (.aload_n 0, 1) := by decide +kernel
theorem kd_Mo_contactCode_108 : decode kc_Mo_contactCode 108 = .ok (.bipush 7, 2) := by decide +kernel
theorem kd_Mo_contactCode_110 : decode kc_Mo_contactCode 110 = .ok (.bipush 10, 2) := by decide +kernel
theorem kd_Mo_contactCode_112 : decode kc_Mo_contactCode 112 = .ok (.iconst 0, 1) := by decide +kernel
theorem kd_Mo_contactCode_113 : decode kc_Mo_contactCode 113 = .ok (.iconst 0, 1) := by decide +kernel
theorem kd_Mo_contactCode_114 : decode kc_Mo_contactCode 114 = .ok (.invokevirtual 670, 3) := by decide +kernel
theorem kd_Mo_contactCode_117 : decode kc_Mo_contactCode 117 = .ok (.istore 5, 2) := by decide +kernel
theorem kd_Mo_contactCode_119 : decode kc_Mo_contactCode 119 = .ok (.iload 4, 2) := by decide +kernel
theorem kd_Mo_contactCode_121 : decode kc_Mo_contactCode 121 = .ok (.iconst 1, 1) := by decide +kernel
theorem kd_Mo_contactCode_122 : decode kc_Mo_contactCode 122 = .ok (.if_icmp .le 23, 3) := by decide +kernel
theorem kd_Mo_contactCode_125 : decode kc_Mo_contactCode 125 = .ok (.aload_n 0, 1) := by decide +kernel
theorem kd_Mo_contactCode_126 : decode kc_Mo_contactCode 126 = .ok (.iconst 1, 1) := by decide +kernel
theorem kd_Mo_contactCode_127 : decode kc_Mo_contactCode 127 = .ok (.iload_n 2, 1) := by decide +kernel
theorem kd_Mo_contactCode_128 : decode kc_Mo_contactCode 128 = .ok (.iconst 0, 1) := by decide +kernel
theorem kd_Mo_contactCode_129 : decode kc_Mo_contactCode 129 = .ok (.iconst 0, 1) := by decide +kernel
theorem kd_Mo_contactCode_130 : decode kc_Mo_contactCode 130 = .ok (.invokevirtual 670, 3) := by decide +kernel
theorem kd_Mo_contactCode_133 : decode kc_Mo_contactCode 133 = .ok (.istore 5, 2) := by decide +kernel
theorem kd_Mo_contactCode_135 : decode kc_Mo_contactCode 135 = .ok (.aload_n 0, 1) := by decide +kernel
theorem kd_Mo_contactCode_136 : decode kc_Mo_contactCode 136 = .ok (.iconst 2, 1) := by decide +kernel
theorem kd_Mo_contactCode_137 : decode kc_Mo_contactCode 137 = .ok (.iload_n 3, 1) := by decide +kernel
theorem kd_Mo_contactCode_138 : decode kc_Mo_contactCode 138 = .ok (.iconst 0, 1) := by decide +kernel
theorem kd_Mo_contactCode_139 : decode kc_Mo_contactCode 139 = .ok (.iconst 0, 1) := by decide +kernel
theorem kd_Mo_contactCode_140 : decode kc_Mo_contactCode 140 = .ok (.invokevirtual 670, 3) := by decide +kernel
theorem kd_Mo_contactCode_143 : decode kc_Mo_contactCode 143 = .ok (.istore 5, 2) := by decide +kernel
theorem kd_Mo_contactCode_145 : decode kc_Mo_contactCode 145 = .ok (.return_, 1) := by decide +kernel
theorem kd_Mo_isLinked_0 : decode kc_Mo_isLinked 0 = .ok (.iconst 0, 1) := by decide +kernel
theorem kd_Mo_isLinked_1 : decode kc_Mo_isLinked 1 = .ok (.istore_n 3, 1) := by decide +kernel
theorem kd_Mo_isLinked_2 : decode kc_Mo_isLinked 2 = .ok (.aload_n 0, 1) := by decide +kernel
theorem kd_Mo_isLinked_3 : decode kc_Mo_isLinked 3 = .ok (.getfield 34, 3) := by decide +kernel
theorem kd_Mo_isLinked_6 : decode kc_Mo_isLinked 6 = .ok (.iload_n 1, 1) := by decide +kernel
theorem kd_Mo_isLinked_7 : decode kc_Mo_isLinked 7 = .ok (.iaload, 1) := by decide +kernel
theorem kd_Mo_isLinked_8 : decode kc_Mo_isLinked 8 = .ok (.istore 4, 2) := by decide +kernel
theorem kd_Mo_isLinked_10 : decode kc_Mo_isLinked 10 = .ok (.iload 4, 2) := by decide +kernel
theorem kd_Mo_isLinked_12 : decode kc_Mo_isLinked 12 = .ok (.ifCond .lt 54, 3) := by decide +kernel
theorem kd_Mo_isLinked_15 : decode kc_Mo_isLinked 15 = .ok (.aload_n 0, 1) := by decide +kernel
theorem kd_Mo_isLinked_16 : decode kc_Mo_isLinked 16 = .ok (.getfield 22, 3) := by decide +kernel
theorem kd_Mo_isLinked_19 : decode kc_Mo_isLinked 19 = .ok (.iload 4, 2) := by decide +kernel
theorem kd_Mo_isLinked_21 : decode kc_Mo_isLinked 21 = .ok (.iaload, 1) := by decide +kernel
theorem kd_Mo_isLinked_22 : decode kc_Mo_isLinked 22 = .ok (.bipush 29, 2) := by decide +kernel
theorem kd_Mo_isLinked_24 : decode kc_Mo_isLinked 24 = .ok (.if_icmp .ne 10, 3) := by decide +kernel
theorem kd_Mo_isLinked_27 : decode kc_Mo_isLinked 27 = .ok (.iload_n 3, 1) := by decide +kernel
theorem kd_Mo_isLinked_28 : decode kc_Mo_isLinked 28 = .ok (.iload_n 2, 1) := by decide +kernel
theorem kd_Mo_isLinked_29 : decode kc_Mo_isLinked 29 = .ok (.if_icmp .ne 5, 3) := by decide +kernel
theorem kd_Mo_isLinked_32 : decode kc_Mo_isLinked 32 = .ok (.iconst 1, 1) := by decide +kernel
theorem kd_Mo_isLinked_33 : decode kc_Mo_isLinked 33 = .ok (.ireturn, 1) := by decide +kernel
theorem kd_Mo_isLinked_34 : decode kc_Mo_isLinked 34 = .ok (.iload_n 3, 1) := by decide +kernel
theorem kd_Mo_isLinked_35 : decode kc_Mo_isLinked 35 = .ok (.aload_n 0, 1) := by decide +kernel
theorem kd_Mo_isLinked_36 : decode kc_Mo_isLinked 36 = .ok (.getfield 22, 3) := by decide +kernel
theorem kd_Mo_isLinked_39 : decode kc_Mo_isLinked 39 = .ok (.iload 4, 2) := by decide +kernel
theorem kd_Mo_isLinked_41 : decode kc_Mo_isLinked 41 = .ok (.iaload, 1) := by decide +kernel
theorem kd_Mo_isLinked_42 : decode kc_Mo_isLinked 42 = .ok (.bipush 29, 2) := by decide +kernel
theorem kd_Mo_isLinked_44 : decode kc_Mo_isLinked 44 = .ok (.if_icmp .ne 7, 3) := by decide +kernel
theorem kd_Mo_isLinked_47 : decode kc_Mo_isLinked 47 = .ok (.iconst 0, 1) := by decide +kernel
theorem kd_Mo_isLinked_48 : decode kc_Mo_isLinked 48 = .ok (.goto 4, 3) := by decide +kernel
theorem kd_Mo_isLinked_51 : decode kc_Mo_isLinked 51 = .ok (.iconst 1, 1) := by decide +kernel
theorem kd_Mo_isLinked_52 : decode kc_Mo_isLinked 52 = .ok (.iadd, 1) := by decide +kernel
theorem kd_Mo_isLinked_53 : decode kc_Mo_isLinked 53 = .ok (.istore_n 3, 1) := by decide +kernel
theorem kd_Mo_isLinked_54 : decode kc_Mo_isLinked 54 = .ok (.aload_n 0, 1) := by decide +kernel
theorem kd_Mo_isLinked_55 : decode kc_Mo_isLinked 55 = .ok (.getfield 40, 3) := by decide +kernel
theorem kd_Mo_isLinked_58 : decode kc_Mo_isLinked 58 = .ok (.iload 4, 2) := by decide +kernel
theorem kd_Mo_isLinked_60 : decode kc_Mo_isLinked 60 = .ok (.iaload, 1) := by decide +kernel
theorem kd_Mo_isLinked_61 : decode kc_Mo_isLinked 61 = .ok (.istore 4, 2) := by decide +kernel
theorem kd_Mo_isLinked_63 : decode kc_Mo_isLinked 63 = .ok (.goto (-53), 3) := by decide +kernel
theorem kd_Mo_isLinked_66 : decode kc_Mo_isLinked 66 = .ok (.iconst 0, 1) := by decide +kernel
theorem kd_Mo_isLinked_67 : decode kc_Mo_isLinked 67 = .ok (.ireturn, 1) := by decide +kernel
theorem kd_Mo_leastRow_0 : decode kc_Mo_leastRow 0 = .ok (.iload_n 2, 1) := by decide +kernel
theorem kd_Mo_leastRow_1 : decode kc_Mo_leastRow 1 = .ok (.istore 4, 2) := by decide +kernel
theorem kd_Mo_leastRow_3 : decode kc_Mo_leastRow 3 = .ok (.iload 4, 2) := by decide +kernel
theorem kd_Mo_leastRow_5 : decode kc_Mo_leastRow 5 = .ok (.ifCond .le 26, 3) := by decide +kernel
theorem kd_Mo_leastRow_8 : decode kc_Mo_leastRow 8 = .ok (.aload_n 0, 1) := by decide +kernel
theorem kd_Mo_leastRow_9 : decode kc_Mo_leastRow 9 = .ok (.aload_n 0, 1) := by decide +kernel
theorem kd_Mo_leastRow_10 : decode kc_Mo_leastRow 10 = .ok (.iload_n 1, 1) := by decide +kernel
theorem kd_Mo_leastRow_11 : decode kc_Mo_leastRow 11 = .ok (.iload 4, 2) := by decide +kernel
theorem kd_Mo_leastRow_13 : decode kc_Mo_leastRow 13 = .ok (.iconst 1, 1) := by decide +kernel
theorem kd_Mo_leastRow_14 : decode kc_Mo_leastRow 14 = .ok (.isub, 1) := by decide +kernel
theorem kd_Mo_leastRow_15 : decode kc_Mo_leastRow 15 = .ok (.invokevirtual 744, 3) := by decide +kernel
theorem kd_Mo_leastRow_18 : decode kc_Mo_leastRow 18 = .ok (.iload_n 3, 1) := by decide +kernel
theorem kd_Mo_leastRow_19 : decode kc_Mo_leastRow 19 = .ok (.invokevirtual 747, 3) := by decide +kernel
theorem kd_Mo_leastRow_22 : decode kc_Mo_leastRow 22 = .ok (.ifCond .eq 9, 3) := by decide +kernel
theorem kd_Mo_leastRow_25 : decode kc_Mo_leastRow 25 = .ok (.iinc 4 (-1), 3) := by decide +kernel
theorem kd_Mo_leastRow_28 : decode kc_Mo_leastRow 28 = .ok (.goto (-25), 3) := by decide +kernel
theorem kd_Mo_leastRow_31 : decode kc_Mo_leastRow 31 = .ok (.iload 4, 2) := by decide +kernel
theorem kd_Mo_leastRow_33 : decode kc_Mo_leastRow 33 = .ok (.ireturn, 1) := by decide +kernel
theorem kd_Mo_loopCode_0 : decode kc_Mo_loopCode 0 = .ok (.aload_n 0, 1) := by decide +kernel
theorem kd_Mo_loopCode_1 : decode kc_Mo_loopCode 1 = .ok (.getfield 34, 3) := by decide +kernel
theorem kd_Mo_loopCode_4 : decode kc_Mo_loopCode 4 = .ok (.iload_n 1, 1) := by decide +kernel
theorem kd_Mo_loopCode_5 : decode kc_Mo_loopCode 5 = .ok (.iaload, 1) := by decide +kernel
theorem kd_Mo_loopCode_6 : decode kc_Mo_loopCode 6 = .ok (.istore_n 2, 1) := by decide +kernel
theorem kd_Mo_loopCode_7 : decode kc_Mo_loopCode 7 = .ok (.aload_n 0, 1) := by decide +kernel
theorem kd_Mo_loopCode_8 : decode kc_Mo_loopCode 8 = .ok (.getfield 40, 3) := by decide +kernel
theorem kd_Mo_loopCode_11 : decode kc_Mo_loopCode 11 = .ok (.aload_n 0, 1) := by decide +kernel
theorem kd_Mo_loopCode_12 : decode kc_Mo_loopCode 12 = .ok (.getfield 40, 3) := by decide +kernel
theorem kd_Mo_loopCode_15 : decode kc_Mo_loopCode 15 = .ok (.iload_n 2, 1) := by decide +kernel
theorem kd_Mo_loopCode_16 : decode kc_Mo_loopCode 16 = .ok (.iaload, 1) := by decide +kernel
theorem kd_Mo_loopCode_17 : decode kc_Mo_loopCode 17 = .ok (.iaload, 1) := by decide +kernel
theorem kd_Mo_loopCode_18 : decode kc_Mo_loopCode 18 = .ok (.istore_n 3, 1) := by decide +kernel
theorem kd_Mo_loopCode_19 : decode kc_Mo_loopCode 19 = .ok (.aload_n 0, 1) := by decide +kernel
theorem kd_Mo_loopCode_20 : decode kc_Mo_loopCode 20 = .ok (.getfield 85, 3) := by decide +kernel
theorem kd_Mo_loopCode_23 : decode kc_Mo_loopCode 23 = .ok (.aload_n 0, 1) := by decide +kernel
theorem kd_Mo_loopCode_24 : decode kc_Mo_loopCode 24 = .ok (.aload_n 0, 1) := by decide +kernel
theorem kd_Mo_loopCode_25 : decode kc_Mo_loopCode 25 = .ok (.getfield 550, 3) := by decide +kernel
theorem kd_Mo_loopCode_28 : decode kc_Mo_loopCode 28 = .ok (.aload_n 0, 1) := by decide +kernel
theorem kd_Mo_loopCode_29 : decode kc_Mo_loopCode 29 = .ok (.getfield 28, 3) := by decide +kernel
theorem kd_Mo_loopCode_32 : decode kc_Mo_loopCode 32 = .ok (.iload_n 1, 1) := by decide +kernel
theorem kd_Mo_loopCode_33 : decode kc_Mo_loopCode 33 = .ok (.iaload, 1) := by decide +kernel
theorem kd_Mo_loopCode_34 : decode kc_Mo_loopCode 34 = .ok (.invokevirtual 507, 3) := by decide +kernel
theorem kd_Mo_loopCode_37 : decode kc_Mo_loopCode 37 = .ok (.iaload, 1) := by decide +kernel
theorem kd_Mo_loopCode_38 : decode kc_Mo_loopCode 38 = .ok (.istore 4, 2) := by decide +kernel
theorem kd_Mo_loopCode_40 : decode kc_Mo_loopCode 40 = .ok (.aload_n 0, 1) := by decide +kernel
theorem kd_Mo_loopCode_41 : decode kc_Mo_loopCode 41 = .ok (.iconst 0, 1) := by decide +kernel
theorem kd_Mo_loopCode_42 : decode kc_Mo_loopCode 42 = .ok (.aload_n 0, 1) := by decide +kernel
theorem kd_Mo_loopCode_43 : decode kc_Mo_loopCode 43 = .ok (.getfield 28, 3) := by decide +kernel
theorem kd_Mo_loopCode_46 : decode kc_Mo_loopCode 46 = .ok (.iload_n 2, 1) := by decide +kernel
theorem kd_Mo_loopCode_47 : decode kc_Mo_loopCode 47 = .ok (.iaload, 1) := by decide +kernel
theorem kd_Mo_loopCode_48 : decode kc_Mo_loopCode 48 = .ok (.iconst 0, 1) := by decide +kernel
theorem kd_Mo_loopCode_49 : decode kc_Mo_loopCode 49 = .ok (.iconst 0, 1) := by decide +kernel
theorem kd_Mo_loopCode_50 : decode kc_Mo_loopCode 50 = .ok (.invokevirtual 670, 3) := by decide +kernel
theorem kd_Mo_loopCode_53 : decode kc_Mo_loopCode 53 = .ok (.istore 5, 2) := by decide +kernel
theorem kd_Mo_loopCode_55 : decode kc_Mo_loopCode 55 = .ok (.aload_n 0, 1) := by decide +kernel
theorem kd_Mo_loopCode_56 : decode kc_Mo_loopCode 56 = .ok (.iconst 2, 1) := by decide +kernel
theorem kd_Mo_loopCode_57 : decode kc_Mo_loopCode 57 = .ok (.aload_n 0, 1) := by decide +kernel
theorem kd_Mo_loopCode_58 : decode kc_Mo_loopCode 58 = .ok (.getfield 109, 3) := by decide +kernel
theorem kd_Mo_loopCode_61 : decode kc_Mo_loopCode 61 = .ok (.iload_n 1, 1) := by decide +kernel
theorem kd_Mo_loopCode_62 : decode kc_Mo_loopCode 62 = .ok (.iaload, 1) := by decide +kernel
theorem kd_Mo_loopCode_63 : decode kc_Mo_loopCode 63 = .ok (.iconst 0, 1) := by decide +kernel
theorem kd_Mo_loopCode_64 : decode kc_Mo_loopCode 64 = .ok (.iconst 0, 1) := by decide +kernel
theorem kd_Mo_loopCode_65 : decode kc_Mo_loopCode 65 = .ok (.invokevirtual 670, 3) := by decide +kernel
theorem kd_Mo_loopCode_68 : decode kc_Mo_loopCode 68 = .ok (.istore 5, 2) := by decide +kernel
theorem kd_Mo_loopCode_70 : decode kc_Mo_loopCode 70 = .ok (.aload_n 0, 1) := by decide +kernel
theorem kd_Mo_loopCode_71 : decode kc_Mo_loopCode 71 = .ok (.bipush 12, 2) := by decide +kernel
theorem kd_Mo_loopCode_73 : decode kc_Mo_loopCode 73 = .ok (.aload_n 0, 1) := by decide +kernel
theorem kd_Mo_loopCode_74 : decode kc_Mo_loopCode 74 = .ok (.getfield 112, 3) := by decide +kernel
theorem kd_Mo_loopCode_77 : decode kc_Mo_loopCode 77 = .ok (.iload_n 1, 1) := by decide +kernel
theorem kd_Mo_loopCode_78 : decode kc_Mo_loopCode 78 = .ok (.iaload, 1) := by decide +kernel
theorem kd_Mo_loopCode_79 : decode kc_Mo_loopCode 79 = .ok (.aload_n 0, 1) := by decide +kernel
theorem kd_Mo_loopCode_80 : decode kc_Mo_loopCode 80 = .ok (.iload_n 1, 1) := by decide +kernel
theorem kd_Mo_loopCode_81 : decode kc_Mo_loopCode 81 = .ok (.invokevirtual 708, 3) := by decide +kernel
theorem kd_Mo_loopCode_84 : decode kc_Mo_loopCode 84 = .ok (.iconst 0, 1) := by decide +kernel
theorem kd_Mo_loopCode_85 : decode kc_Mo_loopCode 85 = .ok (.invokevirtual 670, 3) := by decide +kernel
theorem kd_Mo_loopCode_88 : decode kc_Mo_loopCode 88 = .ok (.istore 5, 2) := by decide +kernel
theorem kd_Mo_loopCode_90 : decode kc_Mo_loopCode 90 = .ok (.aload_n 0, 1) := by decide +kernel
theorem kd_Mo_loopCode_91 : decode kc_Mo_loopCode 91 = .ok (.bipush 13, 2) := by decide +kernel
theorem kd_Mo_loopCode_93 : decode kc_Mo_loopCode 93 = .ok (.aload_n 0, 1) := by decide +kernel
theorem kd_Mo_loopCode_94 : decode kc_Mo_loopCode 94 = .ok (.getfield 112, 3) := by decide +kernel
theorem kd_Mo_loopCode_97 : decode kc_Mo_loopCode 97 = .ok (.iload_n 1, 1) := by decide +kernel
theorem kd_Mo_loopCode_98 : decode kc_Mo_loopCode 98 = .ok (.iaload, 1) := by decide +kernel
theorem kd_Mo_loopCode_99 : decode kc_Mo_loopCode 99 = .ok (.iconst 0, 1) := by decide +kernel
theorem kd_Mo_loopCode_100 : decode kc_Mo_loopCode 100 = .ok (.iconst 0, 1) := by decide +kernel
theorem kd_Mo_loopCode_101 : decode kc_Mo_loopCode 101 = .ok (.invokevirtual 670, 3) := by decide +kernel
theorem kd_Mo_loopCode_104 : decode kc_Mo_loopCode 104 = .ok (.istore 6, 2) := by decide +kernel
theorem kd_Mo_loopCode_106 : decode kc_Mo_loopCode 106 = .ok (.aload_n 0, 1) := by decide +kernel
theorem kd_Mo_loopCode_107 : decode kc_Mo_loopCode 107 = .ok (.dup, 1) := by decide +kernel
theorem kd_Mo_loopCode_108 : decode kc_Mo_loopCode 108 = .ok (.getfield 655, 3) := by decide +kernel
theorem kd_Mo_loopCode_111 : decode kc_Mo_loopCode 111 = .ok (.iconst 1, 1) := by decide +kernel
theorem kd_Mo_loopCode_112 : decode kc_Mo_loopCode 112 = .ok (.iadd, 1) := by decide +kernel
theorem kd_Mo_loopCode_113 : decode kc_Mo_loopCode 113 = .ok (.putfield 655, 3) := by decide +kernel
theorem kd_Mo_loopCode_116 : decode kc_Mo_loopCode 116 = .ok (.aload_n 0, 1) := by decide +kernel
theorem kd_Mo_loopCode_117 : decode kc_Mo_loopCode 117 = .ok (.getfield 694, 3) := by decide +kernel
theorem kd_Mo_loopCode_120 : decode kc_Mo_loopCode 120 = .ok (.istore 7, 2) := by decide +kernel
theorem kd_Mo_loopCode_122 : decode kc_Mo_loopCode 122 = .ok (.aload_n 0, 1) := by decide +kernel
theorem kd_Mo_loopCode_123 : decode kc_Mo_loopCode 123 = .ok (.aload_n 0, 1) := by decide +kernel
theorem kd_Mo_loopCode_124 : decode kc_Mo_loopCode 124 = .ok (.getfield 37, 3) := by decide +kernel
theorem kd_Mo_loopCode_127 : decode kc_Mo_loopCode 127 = .ok (.iload_n 1, 1) := by decide +kernel
theorem kd_Mo_loopCode_128 : decode kc_Mo_loopCode 128 = .ok (.iaload, 1) := by decide +kernel
theorem kd_Mo_loopCode_129 : decode kc_Mo_loopCode 129 = .ok (.invokevirtual 664, 3) := by decide +kernel
theorem kd_Mo_loopCode_132 : decode kc_Mo_loopCode 132 = .ok (.aload_n 0, 1) := by decide +kernel
theorem kd_Mo_loopCode_133 : decode kc_Mo_loopCode 133 = .ok (.iconst 1, 1) := by decide +kernel
theorem kd_Mo_loopCode_134 : decode kc_Mo_loopCode 134 = .ok (.aload_n 0, 1) := by decide +kernel
theorem kd_Mo_loopCode_135 : decode kc_Mo_loopCode 135 = .ok (.getfield 109, 3) := by decide +kernel
theorem kd_Mo_loopCode_138 : decode kc_Mo_loopCode 138 = .ok (.iload_n 1, 1) := by decide +kernel
theorem kd_Mo_loopCode_139 : decode kc_Mo_loopCode 139 = .ok (.iaload, 1) := by decide +kernel
theorem kd_Mo_loopCode_140 : decode kc_Mo_loopCode 140 = .ok (.iconst 0, 1) := by decide +kernel
theorem kd_Mo_loopCode_141 : decode kc_Mo_loopCode 141 = .ok (.iconst 0, 1) := by decide +kernel
theorem kd_Mo_loopCode_142 : decode kc_Mo_loopCode 142 = .ok (.invokevirtual 670, 3) := by decide +kernel
theorem kd_Mo_loopCode_145 : decode kc_Mo_loopCode 145 = .ok (.istore 5, 2) := by decide +kernel
theorem kd_Mo_loopCode_147 : decode kc_Mo_loopCode 147 = .ok (.aload_n 0, 1) := by decide +kernel
theorem kd_Mo_loopCode_148 : decode kc_Mo_loopCode 148 = .ok (.iconst 0, 1) := by decide +kernel
theorem kd_Mo_loopCode_149 : decode kc_Mo_loopCode 149 = .ok (.aload_n 0, 1) := by decide +kernel
theorem kd_Mo_loopCode_150 : decode kc_Mo_loopCode 150 = .ok (.getfield 22, 3) := by decide +kernel
theorem kd_Mo_loopCode_153 : decode kc_Mo_loopCode 153 = .ok (.iload_n 3, 1) := by decide +kernel
theorem kd_Mo_loopCode_154 : decode kc_Mo_loopCode 154 = .ok (.iaload, 1) := by decide +kernel
theorem kd_Mo_loopCode_155 : decode kc_Mo_loopCode 155 = .ok (.bipush 11, 2) := by decide +kernel
theorem kd_Mo_loopCode_157 : decode kc_Mo_loopCode 157 = .ok (.if_icmp .ne 7, 3) := by decide +kernel
theorem kd_Mo_loopCode_160 : decode kc_Mo_loopCode 160 = .ok (.iconst 1, 1) := by decide +kernel
theorem kd_Mo_loopCode_161 : decode kc_Mo_loopCode 161 = .ok (.goto 9, 3) := by decide +kernel
theorem kd_Mo_loopCode_164 : decode kc_Mo_loopCode 164 = .ok (.aload_n 0, 1) := by decide +kernel
theorem kd_Mo_loopCode_165 : decode kc_Mo_loopCode 165 = .ok (.getfield 28, 3) := by decide +kernel
theorem kd_Mo_loopCode_168 : decode kc_Mo_loopCode 168 = .ok (.iload_n 3, 1) := by decide +kernel
theorem kd_Mo_loopCode_169 : decode kc_Mo_loopCode 169 = .ok (.iaload, 1) := by decide +kernel
theorem kd_Mo_loopCode_170 : decode kc_Mo_loopCode 170 = .ok (.iconst 0, 1) := by decide +kernel
theorem kd_Mo_loopCode_171 : decode kc_Mo_loopCode 171 = .ok (.iconst 0, 1) := by decide +kernel
theorem kd_Mo_loopCode_172 : decode kc_Mo_loopCode 172 = .ok (.invokevirtual 670, 3) := by decide +kernel
theorem kd_Mo_loopCode_175 : decode kc_Mo_loopCode 175 = .ok (.istore 5, 2) := by decide +kernel
theorem kd_Mo_loopCode_177 : decode kc_Mo_loopCode 177 = .ok (.aload_n 0, 1) := by decide +kernel
theorem kd_Mo_loopCode_178 : decode kc_Mo_loopCode 178 = .ok (.bipush 7, 2) := by decide +kernel
theorem kd_Mo_loopCode_180 : decode kc_Mo_loopCode 180 = .ok (.iload 4, 2) := by decide +kernel
theorem kd_Mo_loopCode_182 : decode kc_Mo_loopCode 182 = .ok (.iconst 1, 1) := by decide +kernel
theorem kd_Mo_loopCode_183 : decode kc_Mo_loopCode 183 = .ok (.if_icmp .ne 7, 3) := by decide +kernel
theorem kd_Mo_loopCode_186 : decode kc_Mo_loopCode 186 = .ok (.iconst 0, 1) := by decide +kernel
theorem kd_Mo_loopCode_187 : decode kc_Mo_loopCode 187 = .ok (.goto 4, 3) := by decide +kernel
theorem kd_Mo_loopCode_190 : decode kc_Mo_loopCode 190 = .ok (.iconst 5, 1) := by decide +kernel
theorem kd_Mo_loopCode_191 : decode kc_Mo_loopCode 191 = .ok (.iconst 0, 1) := by decide +kernel
theorem kd_Mo_loopCode_192 : decode kc_Mo_loopCode 192 = .ok (.iconst 0, 1) := by decide +kernel
theorem kd_Mo_loopCode_193 : decode kc_Mo_loopCode 193 = .ok (.invokevirtual 670, 3) := by decide +kernel
theorem kd_Mo_loopCode_196 : decode kc_Mo_loopCode 196 = .ok (.istore 5, 2) := by decide +kernel
theorem kd_Mo_loopCode_198 : decode kc_Mo_loopCode 198 = .ok (.aload_n 0, 1) := by decide +kernel
theorem kd_Mo_loopCode_199 : decode kc_Mo_loopCode 199 = .ok (.iconst 2, 1) := by decide +kernel
theorem kd_Mo_loopCode_200 : decode kc_Mo_loopCode 200 = .ok (.aload_n 0, 1) := by decide +kernel
theorem kd_Mo_loopCode_201 : decode kc_Mo_loopCode 201 = .ok (.getfield 109, 3) := by decide +kernel
theorem kd_Mo_loopCode_204 : decode kc_Mo_loopCode 204 = .ok (.iload_n 1, 1) := by decide +kernel
theorem kd_Mo_loopCode_205 : decode kc_Mo_loopCode 205 = .ok (.iaload, 1) := by decide +kernel
theorem kd_Mo_loopCode_206 : decode kc_Mo_loopCode 206 = .ok (.iconst 0, 1) := by decide +kernel
theorem kd_Mo_loopCode_207 : decode kc_Mo_loopCode 207 = .ok (.iconst 0, 1) := by decide +kernel
theorem kd_Mo_loopCode_208 : decode kc_Mo_loopCode 208 = .ok (.invokevirtual 670, 3) := by decide +kernel
theorem kd_Mo_loopCode_211 : decode kc_Mo_loopCode 211 = .ok (.istore 5, 2) := by decide +kernel
theorem kd_Mo_loopCode_213 : decode kc_Mo_loopCode 213 = .ok (.aload_n 0, 1) := by decide +kernel
theorem kd_Mo_loopCode_214 : decode kc_Mo_loopCode 214 = .ok (.bipush 14, 2) := by decide +kernel
theorem kd_Mo_loopCode_216 : decode kc_Mo_loopCode 216 = .ok (.iload 6, 2) := by decide +kernel
theorem kd_Mo_loopCode_218 : decode kc_Mo_loopCode 218 = .ok (.iconst 0, 1) := by decide +kernel
theorem kd_Mo_loopCode_219 : decode kc_Mo_loopCode 219 = .ok (.iconst 0, 1) := by decide +kernel
theorem kd_Mo_loopCode_220 : decode kc_Mo_loopCode 220 = .ok (.invokevirtual 670, 3) := by decide +kernel
theorem kd_Mo_loopCode_223 : decode kc_Mo_loopCode 223 = .ok (.istore 5, 2) := by decide +kernel
theorem kd_Mo_loopCode_225 : decode kc_Mo_loopCode 225 = .ok (.aload_n 0, 1) := by decide +kernel
theorem kd_Mo_loopCode_226 : decode kc_Mo_loopCode 226 = .ok (.iload 6, 2) := by decide +kernel
theorem kd_Mo_loopCode_228 : decode kc_Mo_loopCode 228 = .ok (.aload_n 0, 1) := by decide +kernel
theorem kd_Mo_loopCode_229 : decode kc_Mo_loopCode 229 = .ok (.invokevirtual 703, 3) := by decide +kernel
theorem kd_Mo_loopCode_232 : decode kc_Mo_loopCode 232 = .ok (.invokevirtual 705, 3) := by decide +kernel
theorem kd_Mo_loopCode_235 : decode kc_Mo_loopCode 235 = .ok (.aload_n 0, 1) := by decide +kernel
theorem kd_Mo_loopCode_236 : decode kc_Mo_loopCode 236 = .ok (.getfield 694, 3) := by decide +kernel
theorem kd_Mo_loopCode_239 : decode kc_Mo_loopCode 239 = .ok (.iload 7, 2) := by decide +kernel
theorem kd_Mo_loopCode_241 : decode kc_Mo_loopCode 241 = .ok (.if_icmp .le 33, 3) := by decide +kernel
theorem kd_Mo_loopCode_244 : decode kc_Mo_loopCode 244 = .ok (.aload_n 0, 1) := by decide +kernel
theorem kd_Mo_loopCode_245 : decode kc_Mo_loopCode 245 = .ok (.dup, 1) := by decide +kernel
theorem kd_Mo_loopCode_246 : decode kc_Mo_loopCode 246 = .ok (.getfield 694, 3) := by decide +kernel
theorem kd_Mo_loopCode_249 : decode kc_Mo_loopCode 249 = .ok (.iconst 1, 1) := by decide +kernel
theorem kd_Mo_loopCode_250 : decode kc_Mo_loopCode 250 = .ok (.isub, 1) := by decide +kernel
theorem kd_Mo_loopCode_251 : decode kc_Mo_loopCode 251 = .ok (.putfield 694, 3) := by decide +kernel
theorem kd_Mo_loopCode_254 : decode kc_Mo_loopCode 254 = .ok (.aload_n 0, 1) := by decide +kernel
theorem kd_Mo_loopCode_255 : decode kc_Mo_loopCode 255 = .ok (.aload_n 0, 1) := by decide +kernel
theorem kd_Mo_loopCode_256 : decode kc_Mo_loopCode 256 = .ok (.getfield 140, 3) := by decide +kernel
theorem kd_Mo_loopCode_259 : decode kc_Mo_loopCode 259 = .ok (.aload_n 0, 1) := by decide +kernel
theorem kd_Mo_loopCode_260 : decode kc_Mo_loopCode 260 = .ok (.getfield 694, 3) := by decide +kernel
theorem kd_Mo_loopCode_263 : decode kc_Mo_loopCode 263 = .ok (.iaload, 1) := by decide +kernel
theorem kd_Mo_loopCode_264 : decode kc_Mo_loopCode 264 = .ok (.aload_n 0, 1) := by decide +kernel
theorem kd_Mo_loopCode_265 : decode kc_Mo_loopCode 265 = .ok (.invokevirtual 703, 3) := by decide +kernel
theorem kd_Mo_loopCode_268 : decode kc_Mo_loopCode 268 = .ok (.invokevirtual 705, 3) := by decide +kernel
theorem kd_Mo_loopCode_271 : decode kc_Mo_loopCode 271 = .ok (.goto (-36), 3) := by decide +kernel
theorem kd_Mo_loopCode_274 : decode kc_Mo_loopCode 274 = .ok (.aload_n 0, 1) := by decide +kernel
theorem kd_Mo_loopCode_275 : decode kc_Mo_loopCode 275 = .ok (.dup, 1) := by decide +kernel
theorem kd_Mo_loopCode_276 : decode kc_Mo_loopCode 276 = .ok (.getfield 655, 3) := by decide +kernel
theorem kd_Mo_loopCode_279 : decode kc_Mo_loopCode 279 = .ok (.iconst 1, 1) := by decide +kernel
theorem kd_Mo_loopCode_280 : decode kc_Mo_loopCode 280 = .ok (.isub, 1) := by decide +kernel
theorem kd_Mo_loopCode_281 : decode kc_Mo_loopCode 281 = .ok (.putfield 655, 3) := by decide +kernel
theorem kd_Mo_loopCode_284 : decode kc_Mo_loopCode 284 = .ok (.return_, 1) := by decide +kernel
theorem kd_Mo_powerCell_0 : decode kc_Mo_powerCell 0 = .ok (.aload_n 0, 1) := by decide +kernel
theorem kd_Mo_powerCell_1 : decode kc_Mo_powerCell 1 = .ok (.getfield 70, 3) := by decide +kernel
theorem kd_Mo_powerCell_4 : decode kc_Mo_powerCell 4 = .ok (.aload_n 0, 1) := by decide +kernel
theorem kd_Mo_powerCell_5 : decode kc_Mo_powerCell 5 = .ok (.getfield 658, 3) := by decide +kernel
theorem kd_Mo_powerCell_8 : decode kc_Mo_powerCell 8 = .ok (.iaload, 1) := by decide +kernel
theorem kd_Mo_powerCell_9 : decode kc_Mo_powerCell 9 = .ok (.sipush 156, 3) := by decide +kernel
theorem kd_Mo_powerCell_12 : decode kc_Mo_powerCell 12 = .ok (.isub, 1) := by decide +kernel
theorem kd_Mo_powerCell_13 : decode kc_Mo_powerCell 13 = .ok (.bipush 12, 2) := by decide +kernel
theorem kd_Mo_powerCell_15 : decode kc_Mo_powerCell 15 = .ok (.iload_n 3, 1) := by decide +kernel
theorem kd_Mo_powerCell_16 : decode kc_Mo_powerCell 16 = .ok (.iconst 1, 1) := by decide +kernel
theorem kd_Mo_powerCell_17 : decode kc_Mo_powerCell 17 = .ok (.isub, 1) := by decide +kernel
theorem kd_Mo_powerCell_18 : decode kc_Mo_powerCell 18 = .ok (.imul, 1) := by decide +kernel
theorem kd_Mo_powerCell_19 : decode kc_Mo_powerCell 19 = .ok (.iadd, 1) := by decide +kernel
theorem kd_Mo_powerCell_20 : decode kc_Mo_powerCell 20 = .ok (.aload_n 0, 1) := by decide +kernel
theorem kd_Mo_powerCell_21 : decode kc_Mo_powerCell 21 = .ok (.iload_n 1, 1) := by decide +kernel
theorem kd_Mo_powerCell_22 : decode kc_Mo_powerCell 22 = .ok (.iload_n 2, 1) := by decide +kernel
theorem kd_Mo_powerCell_23 : decode kc_Mo_powerCell 23 = .ok (.iload_n 3, 1) := by decide +kernel
theorem kd_Mo_powerCell_24 : decode kc_Mo_powerCell 24 = .ok (.invokevirtual 750, 3) := by decide +kernel
theorem kd_Mo_powerCell_27 : decode kc_Mo_powerCell 27 = .ok (.iadd, 1) := by decide +kernel
theorem kd_Mo_powerCell_28 : decode kc_Mo_powerCell 28 = .ok (.ireturn, 1) := by decide +kernel
theorem kd_Mo_rowOf_0 : decode kc_Mo_rowOf 0 = .ok (.aload_n 0, 1) := by decide +kernel
theorem kd_Mo_rowOf_1 : decode kc_Mo_rowOf 1 = .ok (.getfield 34, 3) := by decide +kernel
theorem kd_Mo_rowOf_4 : decode kc_Mo_rowOf 4 = .ok (.iload_n 1, 1) := by decide +kernel
theorem kd_Mo_rowOf_5 : decode kc_Mo_rowOf 5 = .ok (.iaload, 1) := by decide +kernel
theorem kd_Mo_rowOf_6 : decode kc_Mo_rowOf 6 = .ok (.istore_n 3, 1) := by decide +kernel
theorem kd_Mo_rowOf_7 : decode kc_Mo_rowOf 7 = .ok (.iconst 0, 1) := by decide +kernel
theorem kd_Mo_rowOf_8 : decode kc_Mo_rowOf 8 = .ok (.istore 4, 2) := by decide +kernel
theorem kd_Mo_rowOf_10 : decode kc_Mo_rowOf 10 = .ok (.iload 4, 2) := by decide +kernel
theorem kd_Mo_rowOf_12 : decode kc_Mo_rowOf 12 = .ok (.iload_n 2, 1) := by decide +kernel
theorem kd_Mo_rowOf_13 : decode kc_Mo_rowOf 13 = .ok (.if_icmp .ge 20, 3) := by decide +kernel
theorem kd_Mo_rowOf_16 : decode kc_Mo_rowOf 16 = .ok (.iload_n 3, 1) := by decide +kernel
theorem kd_Mo_rowOf_17 : decode kc_Mo_rowOf 17 = .ok (.ifCond .lt 16, 3) := by decide +kernel
theorem kd_Mo_rowOf_20 : decode kc_Mo_rowOf 20 = .ok (.aload_n 0, 1) := by decide +kernel
theorem kd_Mo_rowOf_21 : decode kc_Mo_rowOf 21 = .ok (.getfield 40, 3) := by decide +kernel
theorem kd_Mo_rowOf_24 : decode kc_Mo_rowOf 24 = .ok (.iload_n 3, 1) := by decide +kernel
theorem kd_Mo_rowOf_25 : decode kc_Mo_rowOf 25 = .ok (.iaload, 1) := by decide +kernel
theorem kd_Mo_rowOf_26 : decode kc_Mo_rowOf 26 = .ok (.istore_n 3, 1) := by decide +kernel
theorem kd_Mo_rowOf_27 : decode kc_Mo_rowOf 27 = .ok (.iinc 4 1, 3) := by decide +kernel
theorem kd_Mo_rowOf_30 : decode kc_Mo_rowOf 30 = .ok (.goto (-20), 3) := by decide +kernel
theorem kd_Mo_rowOf_33 : decode kc_Mo_rowOf 33 = .ok (.iload_n 3, 1) := by decide +kernel
theorem kd_Mo_rowOf_34 : decode kc_Mo_rowOf 34 = .ok (.ireturn, 1) := by decide +kernel
theorem kd_Mo_statementCode_0 : decode kc_Mo_statementCode 0 = .ok (.iconst 0, 1) := by decide +kernel
theorem kd_Mo_statementCode_1 : decode kc_Mo_statementCode 1 = .ok (.istore_n 2, 1) := by decide +kernel
theorem kd_Mo_statementCode_2 : decode kc_Mo_statementCode 2 = .ok (.aload_n 0, 1) := by decide +kernel
theorem kd_Mo_statementCode_3 : decode kc_Mo_statementCode 3 = .ok (.getfield 22, 3) := by decide +kernel
theorem kd_Mo_statementCode_6 : decode kc_Mo_statementCode 6 = .ok (.iload_n 1, 1) := by decide +kernel
theorem kd_Mo_statementCode_7 : decode kc_Mo_statementCode 7 = .ok (.iaload, 1) := by decide +kernel
theorem kd_Mo_statementCode_8 : decode kc_Mo_statementCode 8 = .ok (.tableswitch 264 12 20 #[52, 60, 264, 161, 176, 264, 264, 225, 233], 52) := by decide +kernel
theorem kd_Mo_statementCode_60 : decode kc_Mo_statementCode 60 = .ok (.aload_n 0, 1) := by decide +kernel
theorem kd_Mo_statementCode_61 : decode kc_Mo_statementCode 61 = .ok (.iload_n 1, 1) := by decide +kernel
theorem kd_Mo_statementCode_62 : decode kc_Mo_statementCode 62 = .ok (.invokevirtual 679, 3) := by decide +kernel
theorem kd_Mo_statementCode_65 : decode kc_Mo_statementCode 65 = .ok (.goto 217, 3) := by decide +kernel
theorem kd_Mo_statementCode_68 : decode kc_Mo_statementCode 68 = .ok (.aload_n 0, 1) := by decide +kernel
theorem kd_Mo_statementCode_69 : decode kc_Mo_statementCode 69 = .ok (.getfield 34, 3) := by decide +kernel
theorem kd_Mo_statementCode_72 : decode kc_Mo_statementCode 72 = .ok (.iload_n 1, 1) := by decide +kernel
theorem kd_Mo_statementCode_73 : decode kc_Mo_statementCode 73 = .ok (.iaload, 1) := by decide +kernel
theorem kd_Mo_statementCode_74 : decode kc_Mo_statementCode 74 = .ok (.istore_n 3, 1) := by decide +kernel
theorem kd_Mo_statementCode_75 : decode kc_Mo_statementCode 75 = .ok (.iload_n 3, 1) := by decide +kernel
theorem kd_Mo_statementCode_76 : decode kc_Mo_statementCode 76 = .ok (.ifCond .lt 37, 3) := by decide +kernel
theorem kd_Mo_statementCode_79 : decode kc_Mo_statementCode 79 = .ok (.aload_n 0, 1) := by decide +kernel
theorem kd_Mo_statementCode_80 : decode kc_Mo_statementCode 80 = .ok (.aload_n 0, 1) := by decide +kernel
theorem kd_Mo_statementCode_81 : decode kc_Mo_statementCode 81 = .ok (.getfield 34, 3) := by decide +kernel
theorem kd_Mo_statementCode_84 : decode kc_Mo_statementCode 84 = .ok (.iload_n 3, 1) := by decide +kernel
theorem kd_Mo_statementCode_85 : decode kc_Mo_statementCode 85 = .ok (.iaload, 1) := by decide +kernel
theorem kd_Mo_statementCode_86 : decode kc_Mo_statementCode 86 = .ok (.invokevirtual 682, 3) := by decide +kernel
theorem kd_Mo_statementCode_89 : decode kc_Mo_statementCode 89 = .ok (.aload_n 0, 1) := by decide +kernel
theorem kd_Mo_statementCode_90 : decode kc_Mo_statementCode 90 = .ok (.iconst 2, 1) := by decide +kernel
theorem kd_Mo_statementCode_91 : decode kc_Mo_statementCode 91 = .ok (.aload_n 0, 1) := by decide +kernel
theorem kd_Mo_statementCode_92 : decode kc_Mo_statementCode 92 = .ok (.getfield 109, 3) := by decide +kernel
theorem kd_Mo_statementCode_95 : decode kc_Mo_statementCode 95 = .ok (.iload_n 3, 1) := by decide +kernel
theorem kd_Mo_statementCode_96 : decode kc_Mo_statementCode 96 = .ok (.iaload, 1) := by decide +kernel
theorem kd_Mo_statementCode_97 : decode kc_Mo_statementCode 97 = .ok (.iconst 0, 1) := by decide +kernel
theorem kd_Mo_statementCode_98 : decode kc_Mo_statementCode 98 = .ok (.iconst 0, 1) := by decide +kernel
theorem kd_Mo_statementCode_99 : decode kc_Mo_statementCode 99 = .ok (.invokevirtual 670, 3) := by decide +kernel
theorem kd_Mo_statementCode_102 : decode kc_Mo_statementCode 102 = .ok (.istore_n 2, 1) := by decide +kernel
theorem kd_Mo_statementCode_103 : decode kc_Mo_statementCode 103 = .ok (.aload_n 0, 1) := by decide +kernel
theorem kd_Mo_statementCode_104 : decode kc_Mo_statementCode 104 = .ok (.getfield 40, 3) := by decide +kernel
theorem kd_Mo_statementCode_107 : decode kc_Mo_statementCode 107 = .ok (.iload_n 3, 1) := by decide +kernel
theorem kd_Mo_statementCode_108 : decode kc_Mo_statementCode 108 = .ok (.iaload, 1) := by decide +kernel
theorem kd_Mo_statementCode_109 : decode kc_Mo_statementCode 109 = .ok (.istore_n 3, 1) := by decide +kernel
theorem kd_Mo_statementCode_110 : decode kc_Mo_statementCode 110 = .ok (.goto (-35), 3) := by decide +kernel
theorem kd_Mo_statementCode_113 : decode kc_Mo_statementCode 113 = .ok (.aload_n 0, 1) := by decide +kernel
theorem kd_Mo_statementCode_114 : decode kc_Mo_statementCode 114 = .ok (.iload_n 1, 1) := by decide +kernel
theorem kd_Mo_statementCode_115 : decode kc_Mo_statementCode 115 = .ok (.invokevirtual 685, 3) := by decide +kernel
theorem kd_Mo_statementCode_118 : decode kc_Mo_statementCode 118 = .ok (.ifCond .eq 28, 3) := by decide +kernel
theorem kd_Mo_statementCode_121 : decode kc_Mo_statementCode 121 = .ok (.aload_n 0, 1) := by decide +kernel
theorem kd_Mo_statementCode_122 : decode kc_Mo_statementCode 122 = .ok (.bipush 17, 2) := by decide +kernel
theorem kd_Mo_statementCode_124 : decode kc_Mo_statementCode 124 = .ok (.aload_n 0, 1) := by decide +kernel
theorem kd_Mo_statementCode_125 : decode kc_Mo_statementCode 125 = .ok (.getfield 112, 3) := by decide +kernel
theorem kd_Mo_statementCode_128 : decode kc_Mo_statementCode 128 = .ok (.iload_n 1, 1) := by decide +kernel
theorem kd_Mo_statementCode_129 : decode kc_Mo_statementCode 129 = .ok (.iaload, 1) := by decide +kernel
theorem kd_Mo_statementCode_130 : decode kc_Mo_statementCode 130 = .ok (.bipush 100, 2) := by decide +kernel
theorem kd_Mo_statementCode_132 : decode kc_Mo_statementCode 132 = .ok (.isub, 1) := by decide +kernel
theorem kd_Mo_statementCode_133 : decode kc_Mo_statementCode 133 = .ok (.aload_n 0, 1) := by decide +kernel
theorem kd_Mo_statementCode_134 : decode kc_Mo_statementCode 134 = .ok (.getfield 109, 3) := by decide +kernel
theorem kd_Mo_statementCode_137 : decode kc_Mo_statementCode 137 = .ok (.iload_n 1, 1) := by decide +kernel
theorem kd_Mo_statementCode_138 : decode kc_Mo_statementCode 138 = .ok (.iaload, 1) := by decide +kernel
theorem kd_Mo_statementCode_139 : decode kc_Mo_statementCode 139 = .ok (.iconst 0, 1) := by decide +kernel
theorem kd_Mo_statementCode_140 : decode kc_Mo_statementCode 140 = .ok (.invokevirtual 670, 3) := by decide +kernel
theorem kd_Mo_statementCode_143 : decode kc_Mo_statementCode 143 = .ok (.goto 22, 3) := by decide +kernel
theorem kd_Mo_statementCode_146 : decode kc_Mo_statementCode 146 = .ok (.aload_n 0, 1) := by decide +kernel
theorem kd_Mo_statementCode_147 : decode kc_Mo_statementCode 147 = .ok (.bipush 15, 2) := by decide +kernel
theorem kd_Mo_statementCode_149 : decode kc_Mo_statementCode 149 = .ok (.aload_n 0, 1) := by decide +kernel
theorem kd_Mo_statementCode_150 : decode kc_Mo_statementCode 150 = .ok (.getfield 112, 3) := by decide +kernel
theorem kd_Mo_statementCode_153 : decode kc_Mo_statementCode 153 = .ok (.iload_n 1, 1) := by decide +kernel
theorem kd_Mo_statementCode_154 : decode kc_Mo_statementCode 154 = .ok (.iaload, 1) := by decide +kernel
theorem kd_Mo_statementCode_155 : decode kc_Mo_statementCode 155 = .ok (.aload_n 0, 1) := by decide +kernel
theorem kd_Mo_statementCode_156 : decode kc_Mo_statementCode 156 = .ok (.getfield 109, 3) := by decide +kernel
theorem kd_Mo_statementCode_159 : decode kc_Mo_statementCode 159 = .ok (.iload_n 1, 1) := by decide +kernel
theorem kd_Mo_statementCode_160 : decode kc_Mo_statementCode 160 = .ok (.iaload, 1) := by decide +kernel
theorem kd_Mo_statementCode_161 : decode kc_Mo_statementCode 161 = .ok (.iconst 0, 1) := by decide +kernel
theorem kd_Mo_statementCode_162 : decode kc_Mo_statementCode 162 = .ok (.invokevirtual 670, 3) := by decide +kernel
theorem kd_Mo_statementCode_165 : decode kc_Mo_statementCode 165 = .ok (.istore_n 2, 1) := by decide +kernel
theorem kd_Mo_statementCode_166 : decode kc_Mo_statementCode 166 = .ok (.goto 116, 3) := by decide +kernel
theorem kd_Mo_statementCode_169 : decode kc_Mo_statementCode 169 = .ok (.aload_n 0, 1) := by decide +kernel
theorem kd_Mo_statementCode_170 : decode kc_Mo_statementCode 170 = .ok (.iload_n 1, 1) := by decide +kernel
theorem kd_Mo_statementCode_171 : decode kc_Mo_statementCode 171 = .ok (.aload_n 0, 1) := by decide +kernel
theorem kd_Mo_statementCode_172 : decode kc_Mo_statementCode 172 = .ok (.getfield 34, 3) := by decide +kernel
theorem kd_Mo_statementCode_175 : decode kc_Mo_statementCode 175 = .ok (.iload_n 1, 1) := by decide +kernel
theorem kd_Mo_statementCode_176 : decode kc_Mo_statementCode 176 = .ok (.iaload, 1) := by decide +kernel
theorem kd_Mo_statementCode_177 : decode kc_Mo_statementCode 177 = .ok (.iconst (-1), 1) := by decide +kernel
theorem kd_Mo_statementCode_178 : decode kc_Mo_statementCode 178 = .ok (.invokevirtual 688, 3) := by decide +kernel
theorem kd_Mo_statementCode_181 : decode kc_Mo_statementCode 181 = .ok (.goto 101, 3) := by decide +kernel
theorem kd_Mo_statementCode_184 : decode kc_Mo_statementCode 184 = .ok (.aload_n 0, 1) := by decide +kernel
theorem kd_Mo_statementCode_185 : decode kc_Mo_statementCode 185 = .ok (.aload_n 0, 1) := by decide +kernel
theorem kd_Mo_statementCode_186 : decode kc_Mo_statementCode 186 = .ok (.getfield 34, 3) := by decide +kernel
theorem kd_Mo_statementCode_189 : decode kc_Mo_statementCode 189 = .ok (.iload_n 1, 1) := by decide +kernel
theorem kd_Mo_statementCode_190 : decode kc_Mo_statementCode 190 = .ok (.iaload, 1) := by decide +kernel
theorem kd_Mo_statementCode_191 : decode kc_Mo_statementCode 191 = .ok (.invokevirtual 682, 3) := by decide +kernel
theorem kd_Mo_statementCode_194 : decode kc_Mo_statementCode 194 = .ok (.aload_n 0, 1) := by decide +kernel
theorem kd_Mo_statementCode_195 : decode kc_Mo_statementCode 195 = .ok (.iconst 2, 1) := by decide +kernel
theorem kd_Mo_statementCode_196 : decode kc_Mo_statementCode 196 = .ok (.aload_n 0, 1) := by decide +kernel
theorem kd_Mo_statementCode_197 : decode kc_Mo_statementCode 197 = .ok (.getfield 109, 3) := by decide +kernel
theorem kd_Mo_statementCode_200 : decode kc_Mo_statementCode 200 = .ok (.iload_n 1, 1) := by decide +kernel
theorem kd_Mo_statementCode_201 : decode kc_Mo_statementCode 201 = .ok (.iaload, 1) := by decide +kernel
theorem kd_Mo_statementCode_202 : decode kc_Mo_statementCode 202 = .ok (.iconst 0, 1) := by decide +kernel
theorem kd_Mo_statementCode_203 : decode kc_Mo_statementCode 203 = .ok (.iconst 0, 1) := by decide +kernel
theorem kd_Mo_statementCode_204 : decode kc_Mo_statementCode 204 = .ok (.invokevirtual 670, 3) := by decide +kernel
theorem kd_Mo_statementCode_207 : decode kc_Mo_statementCode 207 = .ok (.istore_n 2, 1) := by decide +kernel
theorem kd_Mo_statementCode_208 : decode kc_Mo_statementCode 208 = .ok (.aload_n 0, 1) := by decide +kernel
theorem kd_Mo_statementCode_209 : decode kc_Mo_statementCode 209 = .ok (.iload_n 1, 1) := by decide +kernel
theorem kd_Mo_statementCode_210 : decode kc_Mo_statementCode 210 = .ok (.aload_n 0, 1) := by decide +kernel
theorem kd_Mo_statementCode_211 : decode kc_Mo_statementCode 211 = .ok (.getfield 40, 3) := by decide +kernel
theorem kd_Mo_statementCode_214 : decode kc_Mo_statementCode 214 = .ok (.aload_n 0, 1) := by decide +kernel
theorem kd_Mo_statementCode_215 : decode kc_Mo_statementCode 215 = .ok (.getfield 34, 3) := by decide +kernel
theorem kd_Mo_statementCode_218 : decode kc_Mo_statementCode 218 = .ok (.iload_n 1, 1) := by decide +kernel
theorem kd_Mo_statementCode_219 : decode kc_Mo_statementCode 219 = .ok (.iaload, 1) := by decide +kernel
theorem kd_Mo_statementCode_220 : decode kc_Mo_statementCode 220 = .ok (.iaload, 1) := by decide +kernel
theorem kd_Mo_statementCode_221 : decode kc_Mo_statementCode 221 = .ok (.aload_n 0, 1) := by decide +kernel
theorem kd_Mo_statementCode_222 : decode kc_Mo_statementCode 222 = .ok (.getfield 109, 3) := by decide +kernel
theorem kd_Mo_statementCode_225 : decode kc_Mo_statementCode 225 = .ok (.iload_n 1, 1) := by decide +kernel
theorem kd_Mo_statementCode_226 : decode kc_Mo_statementCode 226 = .ok (.iaload, 1) := by decide +kernel
theorem kd_Mo_statementCode_227 : decode kc_Mo_statementCode 227 = .ok (.invokevirtual 688, 3) := by decide +kernel
theorem kd_Mo_statementCode_230 : decode kc_Mo_statementCode 230 = .ok (.goto 52, 3) := by decide +kernel
theorem kd_Mo_statementCode_233 : decode kc_Mo_statementCode 233 = .ok (.aload_n 0, 1) := by decide +kernel
theorem kd_Mo_statementCode_234 : decode kc_Mo_statementCode 234 = .ok (.iload_n 1, 1) := by decide +kernel
theorem kd_Mo_statementCode_235 : decode kc_Mo_statementCode 235 = .ok (.invokevirtual 691, 3) := by decide +kernel
theorem kd_Mo_statementCode_238 : decode kc_Mo_statementCode 238 = .ok (.goto 44, 3) := by decide +kernel
theorem kd_Mo_statementCode_241 : decode kc_Mo_statementCode 241 = .ok (.aload_n 0, 1) := by decide +kernel
theorem kd_Mo_statementCode_242 : decode kc_Mo_statementCode 242 = .ok (.getfield 140, 3) := by decide +kernel
theorem kd_Mo_statementCode_245 : decode kc_Mo_statementCode 245 = .ok (.aload_n 0, 1) := by decide +kernel
theorem kd_Mo_statementCode_246 : decode kc_Mo_statementCode 246 = .ok (.getfield 694, 3) := by decide +kernel
theorem kd_Mo_statementCode_249 : decode kc_Mo_statementCode 249 = .ok (.aload_n 0, 1) := by decide +kernel
theorem kd_Mo_statementCode_250 : decode kc_Mo_statementCode 250 = .ok (.bipush 10, 2) := by decide +kernel
theorem kd_Mo_statementCode_252 : decode kc_Mo_statementCode 252 = .ok (.iconst 0, 1) := by decide +kernel
theorem kd_Mo_statementCode_253 : decode kc_Mo_statementCode 253 = .ok (.iconst 0, 1) := by decide +kernel
theorem kd_Mo_statementCode_254 : decode kc_Mo_statementCode 254 = .ok (.iconst 0, 1) := by decide +kernel
theorem kd_Mo_statementCode_255 : decode kc_Mo_statementCode 255 = .ok (.invokevirtual 670, 3) := by decide +kernel
theorem kd_Mo_statementCode_258 : decode kc_Mo_statementCode 258 = .ok (.iastore, 1) := by decide +kernel
theorem kd_Mo_statementCode_259 : decode kc_Mo_statementCode 259 = .ok (.aload_n 0, 1) := by decide +kernel
theorem kd_Mo_statementCode_260 : decode kc_Mo_statementCode 260 = .ok (.dup, 1) := by decide +kernel
theorem kd_Mo_statementCode_261 : decode kc_Mo_statementCode 261 = .ok (.getfield 694, 3) := by decide +kernel
theorem kd_Mo_statementCode_264 : decode kc_Mo_statementCode 264 = .ok (.iconst 1, 1) := by decide +kernel
theorem kd_Mo_statementCode_265 : decode kc_Mo_statementCode 265 = .ok (.iadd, 1) := by decide +kernel
theorem kd_Mo_statementCode_266 : decode kc_Mo_statementCode 266 = .ok (.putfield 694, 3) := by decide +kernel
theorem kd_Mo_statementCode_269 : decode kc_Mo_statementCode 269 = .ok (.goto 13, 3) := by decide +kernel
theorem kd_Mo_statementCode_272 : decode kc_Mo_statementCode 272 = .ok (.aload_n 0, 1) := by decide +kernel
theorem kd_Mo_statementCode_273 : decode kc_Mo_statementCode 273 = .ok (.bipush 18, 2) := by decide +kernel
theorem kd_Mo_statementCode_275 : decode kc_Mo_statementCode 275 = .ok (.iconst 0, 1) := by decide +kernel
theorem kd_Mo_statementCode_276 : decode kc_Mo_statementCode 276 = .ok (.iconst 0, 1) := by decide +kernel
theorem kd_Mo_statementCode_277 : decode kc_Mo_statementCode 277 = .ok (.iconst 0, 1) := by decide +kernel
theorem kd_Mo_statementCode_278 : decode kc_Mo_statementCode 278 = .ok (.invokevirtual 670, 3) := by decide +kernel
theorem kd_Mo_statementCode_281 : decode kc_Mo_statementCode 281 = .ok (.istore_n 2, 1) := by decide +kernel
theorem kd_Mo_statementCode_282 : decode kc_Mo_statementCode 282 = .ok (.return_, 1) := by decide +kernel
set_option maxHeartbeats 4000000 in
set_option maxRecDepth 100000 in
theorem zb_Mo_bodyCode_7 {X : zkj_T} {S : zs_T} {P : ze_T} {l : Launch} {D : va_G} {sz0 : Nat} {d : Nat} {rh : zs_H} (C : zk_C X km_Mo_bodyCode (zs_G S l D sz0) { frames := 1407 + (d + 1), cells := 0, slots := 0, locals := 34961 + 28 * (d + 1) } (ze_E P)) (hR : zkj_R X (zd_PV S rh) (none)) {r_Mo_statementCode : zs_H → Int32 → (Option zs_H)} (hr_Mo_statementCode : ∀ (h : zs_H) (x0 : Int32) {rh : zs_H}, r_Mo_statementCode h x0 = some rh → zk_Sp (zs_G S l D sz0) (ze_E P) km_Mo_statementCode { frames := 1407 + d, cells := 0, slots := 0, locals := 34961 + 28 * d } [.ref (S.1 68), .int x0] (zs_W S h) (zd_PV S rh)) {k7 : zs_H → Int32 → (Option zs_H)} (hk7 : ∀ (h : zs_H) (x2 : Int32), k7 h x2 = some rh → zk_Ab X (zs_W S h) 0 0 7 [(0, .ref (S.1 68)), (2, .int x2)] []) (h : zs_H) (x2 : Int32) (e : f_Mo_bodyCode_7 r_Mo_statementCode k7 h x2 = some rh) : zk_Ab X (zs_W S h) 0 0 7 [(0, .ref (S.1 68)), (2, .int x2)] [] := by
  unfold f_Mo_bodyCode_7 at e
  refine zk_iload_n C kd_Mo_bodyCode_7 rfl 1 rfl rfl ?_
  refine zk_if_lt (tgt := 26) C kd_Mo_bodyCode_8 (by decide) rfl (fun b1 => ?_) (fun b1 => ?_)
  · replace e := zd_pos b1 e
    exact zk_vret C hR kd_Mo_bodyCode_26 rfl rfl (zd_rV e)
  · replace e := zd_neg b1 e
    refine zk_aload_n C kd_Mo_bodyCode_11 rfl 0 rfl rfl ?_
    refine zk_iload_n C kd_Mo_bodyCode_12 rfl 1 rfl rfl ?_
    obtain ⟨h3, c2, e⟩ := zd_b e
    refine zs_callV (k := 68) (rn := { frames := 1407 + d, cells := 0, slots := 0, locals := 34961 + 28 * d }) (As := [.int x2]) (rest := []) C (hr_Mo_statementCode h x2 c2) ku_Mo_statementCode kw2536 kv_Mo_statementCode rfl (zd_rmI (by decide)) ⟨Nat.le_refl _, Nat.le_refl _⟩ rfl rfl rfl (Nat.le_of_ble_eq_true rfl) kd_Mo_bodyCode_13 rfl (c1 := 0) (s1 := 0) rfl rfl (fun v w hp => ?_)
    obtain ⟨rfl, rfl⟩ := hp
    refine zk_stk (r' := []) rfl ?_
    refine zk_aload_n C kd_Mo_bodyCode_16 rfl 0 rfl rfl ?_
    refine zs_get (v := .ref (S.1 78)) C 68 21 rfl rfl rfl rfl ki_Mo (by decide) kw1704 kd_Mo_bodyCode_17 rfl ?_
    refine zk_iload_n C kd_Mo_bodyCode_20 rfl 1 rfl rfl ?_
    obtain ⟨q4, e⟩ := zd_g e
    refine zs_iald C 78 rfl (zd_vp q4) kd_Mo_bodyCode_21 rfl ?_
    refine zk_istore_n (lv' := [(2, _), (0, _)]) C kd_Mo_bodyCode_22 rfl (by decide) rfl rfl ?_
    refine zk_goto (tgt := 7) C kd_Mo_bodyCode_23 (by decide) ?_
    refine zk_lvs (lv' := [(0, .ref (S.1 68)), (2, .int (h3.2.1 78 x2.toNatClampNeg))]) [1, 0] rfl ?_
    exact hk7 h3 (h3.2.1 78 x2.toNatClampNeg) e
theorem zl_Mo_bodyCode_7 {X : zkj_T} {S : zs_T} {P : ze_T} {l : Launch} {D : va_G} {sz0 : Nat} {d : Nat} {rh : zs_H} (C : zk_C X km_Mo_bodyCode (zs_G S l D sz0) { frames := 1407 + (d + 1), cells := 0, slots := 0, locals := 34961 + 28 * (d + 1) } (ze_E P)) (hR : zkj_R X (zd_PV S rh) (none)) {r_Mo_statementCode : zs_H → Int32 → (Option zs_H)} (hr_Mo_statementCode : ∀ (h : zs_H) (x0 : Int32) {rh : zs_H}, r_Mo_statementCode h x0 = some rh → zk_Sp (zs_G S l D sz0) (ze_E P) km_Mo_statementCode { frames := 1407 + d, cells := 0, slots := 0, locals := 34961 + 28 * d } [.ref (S.1 68), .int x0] (zs_W S h) (zd_PV S rh)) (n : Nat) : ∀ (h : zs_H) (x2 : Int32), f_Mo_bodyCode_L7 r_Mo_statementCode n h x2 = some rh → zk_Ab X (zs_W S h) 0 0 7 [(0, .ref (S.1 68)), (2, .int x2)] [] := by
  induction n with
  | zero => intro h x2 e; exact zd_no e
  | succ n ih => intro h x2 e; exact zb_Mo_bodyCode_7 (k7 := f_Mo_bodyCode_L7 r_Mo_statementCode n) C hR hr_Mo_statementCode ih h x2 e
set_option maxHeartbeats 4000000 in
set_option maxRecDepth 100000 in
theorem zg_Mo_bodyCode {l : Launch} {D : va_G} {sz0 : Nat} {S : zs_T} {P : ze_T} {d : Nat} {r_Mo_statementCode : zs_H → Int32 → (Option zs_H)} (hr_Mo_statementCode : ∀ (h : zs_H) (x0 : Int32) {rh : zs_H}, r_Mo_statementCode h x0 = some rh → zk_Sp (zs_G S l D sz0) (ze_E P) km_Mo_statementCode { frames := 1407 + d, cells := 0, slots := 0, locals := 34961 + 28 * d } [.ref (S.1 68), .int x0] (zs_W S h) (zd_PV S rh)) (h : zs_H) (x1 : Int32) {rh : zs_H} (e : g_Mo_bodyCode r_Mo_statementCode h x1 = some rh) : zk_Sp (zs_G S l D sz0) (ze_E P) km_Mo_bodyCode { frames := 1407 + (d + 1), cells := 0, slots := 0, locals := 34961 + 28 * (d + 1) } [.ref (S.1 68), .int x1] (zs_W S h) (zd_PV S rh) := by
  refine zk_met ku_Mo_bodyCode (Nat.le_of_ble_eq_true rfl) (ze_Em P) ?_
  intro X C hR
  refine zk_lvs (lv' := [(0, .ref (S.1 68)), (1, .int x1)]) [0, 1] rfl ?_
  unfold g_Mo_bodyCode at e
  refine zk_aload_n C kd_Mo_bodyCode_0 rfl 0 rfl rfl ?_
  refine zs_get (v := .ref (S.1 76)) C 68 19 rfl rfl rfl rfl ki_Mo (by decide) kw1702 kd_Mo_bodyCode_1 rfl ?_
  refine zk_iload_n C kd_Mo_bodyCode_4 rfl 1 rfl rfl ?_
  obtain ⟨q1, e⟩ := zd_g e
  refine zs_iald C 76 rfl (zd_vp q1) kd_Mo_bodyCode_5 rfl ?_
  refine zk_istore_n (lv' := [(2, _), (0, _), (1, _)]) C kd_Mo_bodyCode_6 rfl (by decide) rfl rfl ?_
  refine zk_lvs (lv' := [(0, .ref (S.1 68)), (2, .int (h.2.1 76 x1.toNatClampNeg))]) [1, 0] rfl ?_
  exact zl_Mo_bodyCode_7 C hR hr_Mo_statementCode zF h (h.2.1 76 x1.toNatClampNeg) e
set_option maxHeartbeats 4000000 in
set_option maxRecDepth 100000 in
theorem zb_Mo_choiceCode_171 {X : zkj_T} {S : zs_T} {P : ze_T} {l : Launch} {D : va_G} {sz0 : Nat} {d : Nat} {rh : zs_H} (C : zk_C X km_Mo_choiceCode (zs_G S l D sz0) { frames := 1407 + (d + 1), cells := 0, slots := 0, locals := 34961 + 28 * (d + 1) } (ze_E P)) (hR : zkj_R X (zd_PV S rh) (none)) {r_Mo_bodyCode : zs_H → Int32 → (Option zs_H)} (hr_Mo_bodyCode : ∀ (h : zs_H) (x0 : Int32) {rh : zs_H}, r_Mo_bodyCode h x0 = some rh → zk_Sp (zs_G S l D sz0) (ze_E P) km_Mo_bodyCode { frames := 1407 + d, cells := 0, slots := 0, locals := 34961 + 28 * d } [.ref (S.1 68), .int x0] (zs_W S h) (zd_PV S rh)) {k9 : zs_H → Int32 → Int32 → Int32 → (Option zs_H)} (hk9 : ∀ (h : zs_H) (x3 : Int32) (x4 : Int32) (x5 : Int32), k9 h x3 x4 x5 = some rh → zk_Ab X (zs_W S h) 0 0 9 [(0, .ref (S.1 68)), (3, .int x3), (4, .int x4), (5, .int x5)] []) (h : zs_H) (x3 : Int32) (x4 : Int32) (x5 : Int32) (e : f_Mo_choiceCode_171 r_Mo_bodyCode k9 h x3 x4 x5 = some rh) : zk_Ab X (zs_W S h) 0 0 171 [(0, .ref (S.1 68)), (3, .int x3), (4, .int x4), (5, .int x5)] [] := by
  unfold f_Mo_choiceCode_171 at e
  refine zk_goto (tgt := 9) C kd_Mo_choiceCode_171 (by decide) ?_
  refine zk_lvs (lv' := [(0, .ref (S.1 68)), (3, .int x3), (4, .int x4), (5, .int x5)]) [0, 1, 2, 3] rfl ?_
  exact hk9 h x3 x4 x5 e
set_option maxHeartbeats 4000000 in
set_option maxRecDepth 100000 in
theorem zb_Mo_choiceCode_156 {X : zkj_T} {S : zs_T} {P : ze_T} {l : Launch} {D : va_G} {sz0 : Nat} {d : Nat} {rh : zs_H} (C : zk_C X km_Mo_choiceCode (zs_G S l D sz0) { frames := 1407 + (d + 1), cells := 0, slots := 0, locals := 34961 + 28 * (d + 1) } (ze_E P)) (hR : zkj_R X (zd_PV S rh) (none)) {r_Mo_bodyCode : zs_H → Int32 → (Option zs_H)} (hr_Mo_bodyCode : ∀ (h : zs_H) (x0 : Int32) {rh : zs_H}, r_Mo_bodyCode h x0 = some rh → zk_Sp (zs_G S l D sz0) (ze_E P) km_Mo_bodyCode { frames := 1407 + d, cells := 0, slots := 0, locals := 34961 + 28 * d } [.ref (S.1 68), .int x0] (zs_W S h) (zd_PV S rh)) {k9 : zs_H → Int32 → Int32 → Int32 → (Option zs_H)} (hk9 : ∀ (h : zs_H) (x3 : Int32) (x4 : Int32) (x5 : Int32), k9 h x3 x4 x5 = some rh → zk_Ab X (zs_W S h) 0 0 9 [(0, .ref (S.1 68)), (3, .int x3), (4, .int x4), (5, .int x5)] []) (h : zs_H) (x3 : Int32) (x4 : Int32) (x5 : Int32) (x8 : Int32) (e : f_Mo_choiceCode_156 r_Mo_bodyCode k9 h x3 x4 x5 x8 = some rh) : zk_Ab X (zs_W S h) 0 0 156 [(0, .ref (S.1 68)), (3, .int x3), (4, .int x4), (5, .int x5), (8, .int x8)] [] := by
  unfold f_Mo_choiceCode_156 at e
  refine zk_iload C kd_Mo_choiceCode_156 4 rfl rfl ?_
  refine zk_if_lt (tgt := 171) C kd_Mo_choiceCode_158 (by decide) rfl (fun b1 => ?_) (fun b1 => ?_)
  · replace e := zd_pos b1 e
    refine zk_lvs (lv' := [(0, .ref (S.1 68)), (3, .int x3), (4, .int x4), (5, .int x5)]) [0, 1, 2, 3] rfl ?_
    exact zb_Mo_choiceCode_171 C hR hr_Mo_bodyCode hk9 h x3 x4 x5 e
  · replace e := zd_neg b1 e
    refine zk_aload_n C kd_Mo_choiceCode_161 rfl 0 rfl rfl ?_
    refine zk_iload C kd_Mo_choiceCode_162 4 rfl rfl ?_
    refine zk_aload_n C kd_Mo_choiceCode_164 rfl 0 rfl rfl ?_
    obtain ⟨v3, c2, e⟩ := zd_b e
    refine zs_callV (k := 68) (rn := { frames := 0, cells := 0, slots := 0, locals := 0 }) (As := []) (rest := [.int x8, .ref (S.1 68)]) C (zc_Mo_here h c2) ku_Mo_here kw2604 kv_Mo_here rfl (zd_rmO (by decide) (by decide)) ⟨Nat.le_refl _, Nat.le_refl _⟩ rfl rfl rfl (Nat.le_of_ble_eq_true rfl) kd_Mo_choiceCode_165 rfl (c1 := 0) (s1 := 0) rfl rfl (fun v w hp => ?_)
    obtain ⟨rfl, rfl⟩ := hp
    refine zk_stk (r' := [.int v3, .int x8, .ref (S.1 68)]) rfl ?_
    obtain ⟨h5, c4, e⟩ := zd_b e
    refine zs_callV (k := 68) (rn := { frames := 0, cells := 0, slots := 0, locals := 0 }) (As := [.int x8, .int v3]) (rest := []) C (zc_Mo_aim h x8 v3 c4) ku_Mo_aim kw2608 kv_Mo_aim rfl (zd_rmO (by decide) (by decide)) ⟨Nat.le_refl _, Nat.le_refl _⟩ rfl rfl rfl (Nat.le_of_ble_eq_true rfl) kd_Mo_choiceCode_168 rfl (c1 := 0) (s1 := 0) rfl rfl (fun v w hp => ?_)
    obtain ⟨rfl, rfl⟩ := hp
    refine zk_stk (r' := []) rfl ?_
    refine zk_lvs (lv' := [(0, .ref (S.1 68)), (3, .int x3), (4, .int x4), (5, .int x5)]) [0, 1, 2, 3] rfl ?_
    exact zb_Mo_choiceCode_171 C hR hr_Mo_bodyCode hk9 h5 x3 x4 x5 e
set_option maxHeartbeats 4000000 in
set_option maxRecDepth 100000 in
theorem zb_Mo_choiceCode_108 {X : zkj_T} {S : zs_T} {P : ze_T} {l : Launch} {D : va_G} {sz0 : Nat} {d : Nat} {rh : zs_H} (C : zk_C X km_Mo_choiceCode (zs_G S l D sz0) { frames := 1407 + (d + 1), cells := 0, slots := 0, locals := 34961 + 28 * (d + 1) } (ze_E P)) (hR : zkj_R X (zd_PV S rh) (none)) {r_Mo_bodyCode : zs_H → Int32 → (Option zs_H)} (hr_Mo_bodyCode : ∀ (h : zs_H) (x0 : Int32) {rh : zs_H}, r_Mo_bodyCode h x0 = some rh → zk_Sp (zs_G S l D sz0) (ze_E P) km_Mo_bodyCode { frames := 1407 + d, cells := 0, slots := 0, locals := 34961 + 28 * d } [.ref (S.1 68), .int x0] (zs_W S h) (zd_PV S rh)) {k9 : zs_H → Int32 → Int32 → Int32 → (Option zs_H)} (hk9 : ∀ (h : zs_H) (x3 : Int32) (x4 : Int32) (x5 : Int32), k9 h x3 x4 x5 = some rh → zk_Ab X (zs_W S h) 0 0 9 [(0, .ref (S.1 68)), (3, .int x3), (4, .int x4), (5, .int x5)] []) (h : zs_H) (x3 : Int32) (x4 : Int32) (x5 : Int32) (x7 : Int32) (x8 : Int32) (e : f_Mo_choiceCode_108 r_Mo_bodyCode k9 h x3 x4 x5 x7 x8 = some rh) : zk_Ab X (zs_W S h) 0 0 108 [(0, .ref (S.1 68)), (3, .int x3), (4, .int x4), (5, .int x5), (7, .int x7), (8, .int x8)] [] := by
  unfold f_Mo_choiceCode_108 at e
  refine zk_aload_n C kd_Mo_choiceCode_108 rfl 0 rfl rfl ?_
  refine zk_iload C kd_Mo_choiceCode_109 4 rfl rfl ?_
  obtain ⟨h2, c1, e⟩ := zd_b e
  refine zs_callV (k := 68) (rn := { frames := 1407 + d, cells := 0, slots := 0, locals := 34961 + 28 * d }) (As := [.int x7]) (rest := []) C (hr_Mo_bodyCode h x7 c1) ku_Mo_bodyCode kw2532 kv_Mo_bodyCode rfl (zd_rmI (by decide)) ⟨Nat.le_refl _, Nat.le_refl _⟩ rfl rfl rfl (Nat.le_of_ble_eq_true rfl) kd_Mo_choiceCode_111 rfl (c1 := 0) (s1 := 0) rfl rfl (fun v w hp => ?_)
  obtain ⟨rfl, rfl⟩ := hp
  refine zk_stk (r' := []) rfl ?_
  refine zk_aload_n C kd_Mo_choiceCode_114 rfl 0 rfl rfl ?_
  refine zs_get (v := .ref (S.1 78)) C 68 21 rfl rfl rfl rfl ki_Mo (by decide) kw1704 kd_Mo_choiceCode_115 rfl ?_
  refine zk_iload C kd_Mo_choiceCode_118 3 rfl rfl ?_
  obtain ⟨q3, e⟩ := zd_g e
  refine zs_iald C 78 rfl (zd_vp q3) kd_Mo_choiceCode_120 rfl ?_
  refine zk_istore (lv' := [(5, _), (0, _), (3, _), (4, _), (7, _), (8, _)]) C kd_Mo_choiceCode_121 (by decide) rfl rfl ?_
  refine zk_iload C kd_Mo_choiceCode_123 0 rfl rfl ?_
  refine zk_if_lt (tgt := 156) C kd_Mo_choiceCode_125 (by decide) rfl (fun b4 => ?_) (fun b4 => ?_)
  · replace e := zd_pos b4 e
    refine zk_lvs (lv' := [(0, .ref (S.1 68)), (3, .int x3), (4, .int x4), (5, .int (h2.2.1 78 x5.toNatClampNeg)), (8, .int x8)]) [1, 2, 3, 0, 5] rfl ?_
    exact zb_Mo_choiceCode_156 C hR hr_Mo_bodyCode hk9 h2 x3 x4 (h2.2.1 78 x5.toNatClampNeg) x8 e
  · replace e := zd_neg b4 e
    refine zk_aload_n C kd_Mo_choiceCode_128 rfl 1 rfl rfl ?_
    refine zs_get (v := .ref (S.1 110)) C 68 67 rfl rfl rfl rfl ki_Mo (by decide) kw1750 kd_Mo_choiceCode_129 rfl ?_
    refine zk_aload_n C kd_Mo_choiceCode_132 rfl 1 rfl rfl ?_
    refine zs_get (v := .int (h2.1 68 66)) C 68 66 rfl rfl rfl rfl ki_Mo (by decide) kw1749 kd_Mo_choiceCode_133 rfl ?_
    refine zk_aload_n C kd_Mo_choiceCode_136 rfl 1 rfl rfl ?_
    refine zk_bipush (v := 10) C kd_Mo_choiceCode_137 (by decide) rfl ?_
    refine zk_iconst (v := 0) C kd_Mo_choiceCode_139 (by decide) rfl ?_
    refine zk_iconst (v := 0) C kd_Mo_choiceCode_140 (by decide) rfl ?_
    refine zk_iconst (v := 0) C kd_Mo_choiceCode_141 (by decide) rfl ?_
    obtain ⟨v6, h7, c5, e⟩ := zd_Be e
    refine zs_callV (k := 68) (rn := { frames := 0, cells := 0, slots := 0, locals := 0 }) (As := [.int 10, .int 0, .int 0, .int 0]) (rest := [.int (h2.1 68 66), .ref (S.1 110)]) C (zc_Mo_emit h2 10 0 0 0 c5) ku_Mo_emit kw2524 kv_Mo_emit rfl (zd_rmO (by decide) (by decide)) ⟨Nat.le_refl _, Nat.le_refl _⟩ rfl rfl rfl (Nat.le_of_ble_eq_true rfl) kd_Mo_choiceCode_142 rfl (c1 := 0) (s1 := 0) rfl rfl (fun v w hp => ?_)
    obtain ⟨rfl, rfl⟩ := hp
    refine zk_stk (r' := [.int v6, .int (h2.1 68 66), .ref (S.1 110)]) rfl ?_
    obtain ⟨q8, e⟩ := zd_g e
    refine zs_iast C 110 rfl (zd_vp q8) kd_Mo_choiceCode_145 rfl ?_
    refine zk_aload_n C kd_Mo_choiceCode_146 rfl 1 rfl rfl ?_
    refine zk_dup C kd_Mo_choiceCode_147 rfl rfl ?_
    refine zs_get (v := .int (h7.1 68 66)) C 68 66 rfl rfl rfl rfl ki_Mo (by decide) kw1749 kd_Mo_choiceCode_148 rfl ?_
    refine zk_iconst (v := 1) C kd_Mo_choiceCode_151 (by decide) rfl ?_
    refine zk_iadd C kd_Mo_choiceCode_152 rfl ?_
    refine zs_put (ty := .int) C 68 66 ((h7.1 68 66) + 1) rfl rfl rfl rfl ki_Mo ky_Mo ko_Mo kn_Mo (by decide) kw1749 rfl rfl rfl rfl (by decide) kd_Mo_choiceCode_153 rfl ?_
    refine zk_lvs (lv' := [(0, .ref (S.1 68)), (3, .int x3), (4, .int x4), (5, .int (h2.2.1 78 x5.toNatClampNeg)), (8, .int x8)]) [1, 2, 3, 0, 5] rfl ?_
    exact zb_Mo_choiceCode_156 C hR hr_Mo_bodyCode hk9 (zs_uF (zs_uM h7 110 (h2.1 68 66).toNatClampNeg v6) 68 66 ((h7.1 68 66) + 1)) x3 x4 (h2.2.1 78 x5.toNatClampNeg) x8 e
set_option maxHeartbeats 4000000 in
set_option maxRecDepth 100000 in
theorem zb_Mo_choiceCode_174 {X : zkj_T} {S : zs_T} {P : ze_T} {l : Launch} {D : va_G} {sz0 : Nat} {d : Nat} {rh : zs_H} (C : zk_C X km_Mo_choiceCode (zs_G S l D sz0) { frames := 1407 + (d + 1), cells := 0, slots := 0, locals := 34961 + 28 * (d + 1) } (ze_E P)) (hR : zkj_R X (zd_PV S rh) (none)) {k174 : zs_H → Int32 → (Option zs_H)} (hk174 : ∀ (h : zs_H) (x4 : Int32), k174 h x4 = some rh → zk_Ab X (zs_W S h) 0 0 174 [(0, .ref (S.1 68)), (4, .int x4)] []) (h : zs_H) (x4 : Int32) (e : f_Mo_choiceCode_174 k174 h x4 = some rh) : zk_Ab X (zs_W S h) 0 0 174 [(0, .ref (S.1 68)), (4, .int x4)] [] := by
  unfold f_Mo_choiceCode_174 at e
  refine zk_aload_n C kd_Mo_choiceCode_174 rfl 0 rfl rfl ?_
  refine zs_get (v := .int (h.1 68 66)) C 68 66 rfl rfl rfl rfl ki_Mo (by decide) kw1749 kd_Mo_choiceCode_175 rfl ?_
  refine zk_iload C kd_Mo_choiceCode_178 1 rfl rfl ?_
  refine zk_icmp_le (tgt := 213) C kd_Mo_choiceCode_180 (by decide) rfl (fun b1 => ?_) (fun b1 => ?_)
  · replace e := zd_pos b1 e
    exact zk_vret C hR kd_Mo_choiceCode_213 rfl rfl (zd_rV e)
  · replace e := zd_neg b1 e
    refine zk_aload_n C kd_Mo_choiceCode_183 rfl 0 rfl rfl ?_
    refine zk_dup C kd_Mo_choiceCode_184 rfl rfl ?_
    refine zs_get (v := .int (h.1 68 66)) C 68 66 rfl rfl rfl rfl ki_Mo (by decide) kw1749 kd_Mo_choiceCode_185 rfl ?_
    refine zk_iconst (v := 1) C kd_Mo_choiceCode_188 (by decide) rfl ?_
    refine zk_isub C kd_Mo_choiceCode_189 rfl ?_
    refine zs_put (ty := .int) C 68 66 ((h.1 68 66) - 1) rfl rfl rfl rfl ki_Mo ky_Mo ko_Mo kn_Mo (by decide) kw1749 rfl rfl rfl rfl (by decide) kd_Mo_choiceCode_190 rfl ?_
    refine zk_aload_n C kd_Mo_choiceCode_193 rfl 0 rfl rfl ?_
    refine zk_aload_n C kd_Mo_choiceCode_194 rfl 0 rfl rfl ?_
    refine zs_get (v := .ref (S.1 110)) C 68 67 rfl rfl rfl rfl ki_Mo (by decide) kw1750 kd_Mo_choiceCode_195 rfl ?_
    refine zk_aload_n C kd_Mo_choiceCode_198 rfl 0 rfl rfl ?_
    refine zs_get (v := .int ((h.1 68 66) - 1)) C 68 66 rfl rfl rfl rfl ki_Mo (by decide) kw1749 kd_Mo_choiceCode_199 rfl ?_
    obtain ⟨q2, e⟩ := zd_g e
    refine zs_iald C 110 rfl (zd_vp q2) kd_Mo_choiceCode_202 rfl ?_
    refine zk_stk (r' := [.int (h.2.1 110 ((h.1 68 66) - 1).toNatClampNeg), .ref (S.1 68)]) rfl ?_
    refine zk_aload_n C kd_Mo_choiceCode_203 rfl 0 rfl rfl ?_
    obtain ⟨v4, c3, e⟩ := zd_b e
    refine zs_callV (k := 68) (rn := { frames := 0, cells := 0, slots := 0, locals := 0 }) (As := []) (rest := [.int (h.2.1 110 ((h.1 68 66) - 1).toNatClampNeg), .ref (S.1 68)]) C (zc_Mo_here (zs_uF h 68 66 ((h.1 68 66) - 1)) c3) ku_Mo_here kw2604 kv_Mo_here rfl (zd_rmO (by decide) (by decide)) ⟨Nat.le_refl _, Nat.le_refl _⟩ rfl rfl rfl (Nat.le_of_ble_eq_true rfl) kd_Mo_choiceCode_204 rfl (c1 := 0) (s1 := 0) rfl rfl (fun v w hp => ?_)
    obtain ⟨rfl, rfl⟩ := hp
    refine zk_stk (r' := [.int v4, .int (h.2.1 110 ((h.1 68 66) - 1).toNatClampNeg), .ref (S.1 68)]) rfl ?_
    obtain ⟨h6, c5, e⟩ := zd_b e
    refine zs_callV (k := 68) (rn := { frames := 0, cells := 0, slots := 0, locals := 0 }) (As := [.int (h.2.1 110 ((h.1 68 66) - 1).toNatClampNeg), .int v4]) (rest := []) C (zc_Mo_aim (zs_uF h 68 66 ((h.1 68 66) - 1)) (h.2.1 110 ((h.1 68 66) - 1).toNatClampNeg) v4 c5) ku_Mo_aim kw2608 kv_Mo_aim rfl (zd_rmO (by decide) (by decide)) ⟨Nat.le_refl _, Nat.le_refl _⟩ rfl rfl rfl (Nat.le_of_ble_eq_true rfl) kd_Mo_choiceCode_207 rfl (c1 := 0) (s1 := 0) rfl rfl (fun v w hp => ?_)
    obtain ⟨rfl, rfl⟩ := hp
    refine zk_stk (r' := []) rfl ?_
    refine zk_goto (tgt := 174) C kd_Mo_choiceCode_210 (by decide) ?_
    refine zk_lvs (lv' := [(0, .ref (S.1 68)), (4, .int x4)]) [0, 1] rfl ?_
    exact hk174 h6 x4 e
theorem zl_Mo_choiceCode_174 {X : zkj_T} {S : zs_T} {P : ze_T} {l : Launch} {D : va_G} {sz0 : Nat} {d : Nat} {rh : zs_H} (C : zk_C X km_Mo_choiceCode (zs_G S l D sz0) { frames := 1407 + (d + 1), cells := 0, slots := 0, locals := 34961 + 28 * (d + 1) } (ze_E P)) (hR : zkj_R X (zd_PV S rh) (none)) (n : Nat) : ∀ (h : zs_H) (x4 : Int32), f_Mo_choiceCode_L174 n h x4 = some rh → zk_Ab X (zs_W S h) 0 0 174 [(0, .ref (S.1 68)), (4, .int x4)] [] := by
  induction n with
  | zero => intro h x4 e; exact zd_no e
  | succ n ih => intro h x4 e; exact zb_Mo_choiceCode_174 (k174 := f_Mo_choiceCode_L174  n) C hR ih h x4 e
set_option maxHeartbeats 4000000 in
set_option maxRecDepth 100000 in
theorem zb_Mo_choiceCode_9 {X : zkj_T} {S : zs_T} {P : ze_T} {l : Launch} {D : va_G} {sz0 : Nat} {d : Nat} {rh : zs_H} (C : zk_C X km_Mo_choiceCode (zs_G S l D sz0) { frames := 1407 + (d + 1), cells := 0, slots := 0, locals := 34961 + 28 * (d + 1) } (ze_E P)) (hR : zkj_R X (zd_PV S rh) (none)) {r_Mo_bodyCode : zs_H → Int32 → (Option zs_H)} (hr_Mo_bodyCode : ∀ (h : zs_H) (x0 : Int32) {rh : zs_H}, r_Mo_bodyCode h x0 = some rh → zk_Sp (zs_G S l D sz0) (ze_E P) km_Mo_bodyCode { frames := 1407 + d, cells := 0, slots := 0, locals := 34961 + 28 * d } [.ref (S.1 68), .int x0] (zs_W S h) (zd_PV S rh)) {k9 : zs_H → Int32 → Int32 → Int32 → (Option zs_H)} (hk9 : ∀ (h : zs_H) (x3 : Int32) (x4 : Int32) (x5 : Int32), k9 h x3 x4 x5 = some rh → zk_Ab X (zs_W S h) 0 0 9 [(0, .ref (S.1 68)), (3, .int x3), (4, .int x4), (5, .int x5)] []) (h : zs_H) (x3 : Int32) (x4 : Int32) (x5 : Int32) (e : f_Mo_choiceCode_9 r_Mo_bodyCode k9 h x3 x4 x5 = some rh) : zk_Ab X (zs_W S h) 0 0 9 [(0, .ref (S.1 68)), (3, .int x3), (4, .int x4), (5, .int x5)] [] := by
  unfold f_Mo_choiceCode_9 at e
  refine zk_iload C kd_Mo_choiceCode_9 3 rfl rfl ?_
  refine zk_if_lt (tgt := 174) C kd_Mo_choiceCode_11 (by decide) rfl (fun b1 => ?_) (fun b1 => ?_)
  · replace e := zd_pos b1 e
    refine zk_lvs (lv' := [(0, .ref (S.1 68)), (4, .int x4)]) [0, 2] rfl ?_
    exact zl_Mo_choiceCode_174 C hR zF h x4 e
  · replace e := zd_neg b1 e
    refine zk_iconst (v := 0) C kd_Mo_choiceCode_14 (by decide) rfl ?_
    refine zk_istore (lv' := [(6, _), (0, _), (3, _), (4, _), (5, _)]) C kd_Mo_choiceCode_15 (by decide) rfl rfl ?_
    refine zk_iload C kd_Mo_choiceCode_17 4 rfl rfl ?_
    refine zk_istore (lv' := [(7, _), (6, _), (0, _), (3, _), (4, _), (5, _)]) C kd_Mo_choiceCode_19 (by decide) rfl rfl ?_
    refine zk_iconst (v := (-1)) C kd_Mo_choiceCode_21 (by decide) rfl ?_
    refine zk_istore (lv' := [(8, _), (7, _), (6, _), (0, _), (3, _), (4, _), (5, _)]) C kd_Mo_choiceCode_22 (by decide) rfl rfl ?_
    refine zk_aload_n C kd_Mo_choiceCode_24 rfl 3 rfl rfl ?_
    refine zs_get (v := .ref (S.1 72)) C 68 15 rfl rfl rfl rfl ki_Mo (by decide) kw1698 kd_Mo_choiceCode_25 rfl ?_
    refine zk_iload C kd_Mo_choiceCode_28 6 rfl rfl ?_
    obtain ⟨q2, e⟩ := zd_g e
    refine zs_iald C 72 rfl (zd_vp q2) kd_Mo_choiceCode_30 rfl ?_
    refine zk_bipush (v := 17) C kd_Mo_choiceCode_31 (by decide) rfl ?_
    refine zk_icmp_ne (tgt := 66) C kd_Mo_choiceCode_33 (by decide) rfl (fun b3 => ?_) (fun b3 => ?_)
    · replace e := zd_neg b3 e
      refine zk_aload_n C kd_Mo_choiceCode_66 rfl 3 rfl rfl ?_
      refine zs_get (v := .ref (S.1 72)) C 68 15 rfl rfl rfl rfl ki_Mo (by decide) kw1698 kd_Mo_choiceCode_67 rfl ?_
      refine zk_iload C kd_Mo_choiceCode_70 6 rfl rfl ?_
      refine zs_iald C 72 rfl (zd_vp q2) kd_Mo_choiceCode_72 rfl ?_
      refine zk_bipush (v := 11) C kd_Mo_choiceCode_73 (by decide) rfl ?_
      refine zk_icmp_eq (tgt := 108) C kd_Mo_choiceCode_75 (by decide) rfl (fun b4 => ?_) (fun b4 => ?_)
      · replace e := zd_pos b4 e
        refine zk_lvs (lv' := [(0, .ref (S.1 68)), (3, .int x3), (4, .int x4), (5, .int x5), (7, .int x5), (8, .int (-1))]) [3, 4, 5, 6, 1, 0] rfl ?_
        exact zb_Mo_choiceCode_108 C hR hr_Mo_bodyCode hk9 h x3 x4 x5 x5 (-1) e
      · replace e := zd_neg b4 e
        refine zk_aload_n C kd_Mo_choiceCode_78 rfl 3 rfl rfl ?_
        refine zk_iload C kd_Mo_choiceCode_79 6 rfl rfl ?_
        obtain ⟨h6, c5, e⟩ := zd_b e
        refine zs_callV (k := 68) (rn := { frames := 805 + 600, cells := 0, slots := 0, locals := 19314 + 26 * 600 }) (As := [.int x5]) (rest := []) C (zc_Mo_expressionCode h x5 c5) ku_Mo_expressionCode kw2544 kv_Mo_expressionCode rfl (zd_rmO (by decide) (by decide)) ⟨Nat.le_refl _, Nat.le_refl _⟩ rfl rfl rfl (Nat.le_of_ble_eq_true rfl) kd_Mo_choiceCode_81 rfl (c1 := 0) (s1 := 0) rfl rfl (fun v w hp => ?_)
        obtain ⟨rfl, rfl⟩ := hp
        refine zk_stk (r' := []) rfl ?_
        refine zk_aload_n C kd_Mo_choiceCode_84 rfl 3 rfl rfl ?_
        refine zk_bipush (v := 11) C kd_Mo_choiceCode_85 (by decide) rfl ?_
        refine zk_iconst (v := 0) C kd_Mo_choiceCode_87 (by decide) rfl ?_
        refine zk_iconst (v := 0) C kd_Mo_choiceCode_88 (by decide) rfl ?_
        refine zk_iconst (v := 0) C kd_Mo_choiceCode_89 (by decide) rfl ?_
        obtain ⟨v8, h9, c7, e⟩ := zd_Be e
        refine zs_callV (k := 68) (rn := { frames := 0, cells := 0, slots := 0, locals := 0 }) (As := [.int 11, .int 0, .int 0, .int 0]) (rest := []) C (zc_Mo_emit h6 11 0 0 0 c7) ku_Mo_emit kw2524 kv_Mo_emit rfl (zd_rmO (by decide) (by decide)) ⟨Nat.le_refl _, Nat.le_refl _⟩ rfl rfl rfl (Nat.le_of_ble_eq_true rfl) kd_Mo_choiceCode_90 rfl (c1 := 0) (s1 := 0) rfl rfl (fun v w hp => ?_)
        obtain ⟨rfl, rfl⟩ := hp
        refine zk_stk (r' := [.int v8]) rfl ?_
        refine zk_istore (lv' := [(8, _), (7, _), (6, _), (0, _), (3, _), (4, _), (5, _)]) C kd_Mo_choiceCode_93 (by decide) rfl rfl ?_
        refine zk_aload_n C kd_Mo_choiceCode_95 rfl 3 rfl rfl ?_
        refine zs_get (v := .ref (S.1 78)) C 68 21 rfl rfl rfl rfl ki_Mo (by decide) kw1704 kd_Mo_choiceCode_96 rfl ?_
        refine zk_iload C kd_Mo_choiceCode_99 6 rfl rfl ?_
        obtain ⟨q10, e⟩ := zd_g e
        refine zs_iald C 78 rfl (zd_vp q10) kd_Mo_choiceCode_101 rfl ?_
        refine zk_istore (lv' := [(5, _), (8, _), (7, _), (6, _), (0, _), (3, _), (4, _)]) C kd_Mo_choiceCode_102 (by decide) rfl rfl ?_
        refine zk_iload C kd_Mo_choiceCode_104 0 rfl rfl ?_
        refine zk_istore (lv' := [(7, _), (5, _), (8, _), (6, _), (0, _), (3, _), (4, _)]) C kd_Mo_choiceCode_106 (by decide) rfl rfl ?_
        refine zk_lvs (lv' := [(0, .ref (S.1 68)), (3, .int x3), (4, .int x4), (5, .int (h9.2.1 78 x5.toNatClampNeg)), (7, .int (h9.2.1 78 x5.toNatClampNeg)), (8, .int v8)]) [4, 5, 6, 1, 0, 2] rfl ?_
        exact zb_Mo_choiceCode_108 C hR hr_Mo_bodyCode hk9 h9 x3 x4 (h9.2.1 78 x5.toNatClampNeg) (h9.2.1 78 x5.toNatClampNeg) v8 e
    · replace e := zd_pos b3 e
      refine zk_aload_n C kd_Mo_choiceCode_36 rfl 3 rfl rfl ?_
      refine zk_iload C kd_Mo_choiceCode_37 6 rfl rfl ?_
      refine zk_iload_n C kd_Mo_choiceCode_39 rfl 4 rfl rfl ?_
      obtain ⟨h12, c11, e⟩ := zd_b e
      refine zs_callV (k := 68) (rn := { frames := 1, cells := 0, slots := 0, locals := 24 }) (As := [.int x5, .int x3]) (rest := []) C (zc_Mo_rangesCode h x5 x3 c11) ku_Mo_rangesCode kw2600 kv_Mo_rangesCode rfl (zd_rmO (by decide) (by decide)) ⟨Nat.le_refl _, Nat.le_refl _⟩ rfl rfl rfl (Nat.le_of_ble_eq_true rfl) kd_Mo_choiceCode_40 rfl (c1 := 0) (s1 := 0) rfl rfl (fun v w hp => ?_)
      obtain ⟨rfl, rfl⟩ := hp
      refine zk_stk (r' := []) rfl ?_
      refine zk_aload_n C kd_Mo_choiceCode_43 rfl 3 rfl rfl ?_
      refine zk_bipush (v := 11) C kd_Mo_choiceCode_44 (by decide) rfl ?_
      refine zk_iconst (v := 0) C kd_Mo_choiceCode_46 (by decide) rfl ?_
      refine zk_iconst (v := 0) C kd_Mo_choiceCode_47 (by decide) rfl ?_
      refine zk_iconst (v := 0) C kd_Mo_choiceCode_48 (by decide) rfl ?_
      obtain ⟨v14, h15, c13, e⟩ := zd_Be e
      refine zs_callV (k := 68) (rn := { frames := 0, cells := 0, slots := 0, locals := 0 }) (As := [.int 11, .int 0, .int 0, .int 0]) (rest := []) C (zc_Mo_emit h12 11 0 0 0 c13) ku_Mo_emit kw2524 kv_Mo_emit rfl (zd_rmO (by decide) (by decide)) ⟨Nat.le_refl _, Nat.le_refl _⟩ rfl rfl rfl (Nat.le_of_ble_eq_true rfl) kd_Mo_choiceCode_49 rfl (c1 := 0) (s1 := 0) rfl rfl (fun v w hp => ?_)
      obtain ⟨rfl, rfl⟩ := hp
      refine zk_stk (r' := [.int v14]) rfl ?_
      refine zk_istore (lv' := [(8, _), (7, _), (6, _), (0, _), (3, _), (4, _), (5, _)]) C kd_Mo_choiceCode_52 (by decide) rfl rfl ?_
      refine zk_aload_n C kd_Mo_choiceCode_54 rfl 3 rfl rfl ?_
      refine zs_get (v := .ref (S.1 77)) C 68 20 rfl rfl rfl rfl ki_Mo (by decide) kw1703 kd_Mo_choiceCode_55 rfl ?_
      refine zk_iload C kd_Mo_choiceCode_58 6 rfl rfl ?_
      obtain ⟨q16, e⟩ := zd_g e
      refine zs_iald C 77 rfl (zd_vp q16) kd_Mo_choiceCode_60 rfl ?_
      refine zk_istore (lv' := [(7, _), (8, _), (6, _), (0, _), (3, _), (4, _), (5, _)]) C kd_Mo_choiceCode_61 (by decide) rfl rfl ?_
      refine zk_goto (tgt := 108) C kd_Mo_choiceCode_63 (by decide) ?_
      refine zk_lvs (lv' := [(0, .ref (S.1 68)), (3, .int x3), (4, .int x4), (5, .int x5), (7, .int (h15.2.1 77 x5.toNatClampNeg)), (8, .int v14)]) [3, 4, 5, 6, 0, 1] rfl ?_
      exact zb_Mo_choiceCode_108 C hR hr_Mo_bodyCode hk9 h15 x3 x4 x5 (h15.2.1 77 x5.toNatClampNeg) v14 e
theorem zl_Mo_choiceCode_9 {X : zkj_T} {S : zs_T} {P : ze_T} {l : Launch} {D : va_G} {sz0 : Nat} {d : Nat} {rh : zs_H} (C : zk_C X km_Mo_choiceCode (zs_G S l D sz0) { frames := 1407 + (d + 1), cells := 0, slots := 0, locals := 34961 + 28 * (d + 1) } (ze_E P)) (hR : zkj_R X (zd_PV S rh) (none)) {r_Mo_bodyCode : zs_H → Int32 → (Option zs_H)} (hr_Mo_bodyCode : ∀ (h : zs_H) (x0 : Int32) {rh : zs_H}, r_Mo_bodyCode h x0 = some rh → zk_Sp (zs_G S l D sz0) (ze_E P) km_Mo_bodyCode { frames := 1407 + d, cells := 0, slots := 0, locals := 34961 + 28 * d } [.ref (S.1 68), .int x0] (zs_W S h) (zd_PV S rh)) (n : Nat) : ∀ (h : zs_H) (x3 : Int32) (x4 : Int32) (x5 : Int32), f_Mo_choiceCode_L9 r_Mo_bodyCode n h x3 x4 x5 = some rh → zk_Ab X (zs_W S h) 0 0 9 [(0, .ref (S.1 68)), (3, .int x3), (4, .int x4), (5, .int x5)] [] := by
  induction n with
  | zero => intro h x3 x4 x5 e; exact zd_no e
  | succ n ih => intro h x3 x4 x5 e; exact zb_Mo_choiceCode_9 (k9 := f_Mo_choiceCode_L9 r_Mo_bodyCode n) C hR hr_Mo_bodyCode ih h x3 x4 x5 e
set_option maxHeartbeats 4000000 in
set_option maxRecDepth 100000 in
theorem zg_Mo_choiceCode {l : Launch} {D : va_G} {sz0 : Nat} {S : zs_T} {P : ze_T} {d : Nat} {r_Mo_bodyCode : zs_H → Int32 → (Option zs_H)} (hr_Mo_bodyCode : ∀ (h : zs_H) (x0 : Int32) {rh : zs_H}, r_Mo_bodyCode h x0 = some rh → zk_Sp (zs_G S l D sz0) (ze_E P) km_Mo_bodyCode { frames := 1407 + d, cells := 0, slots := 0, locals := 34961 + 28 * d } [.ref (S.1 68), .int x0] (zs_W S h) (zd_PV S rh)) (h : zs_H) (x1 : Int32) (x2 : Int32) (x3 : Int32) {rh : zs_H} (e : g_Mo_choiceCode r_Mo_bodyCode h x1 x2 x3 = some rh) : zk_Sp (zs_G S l D sz0) (ze_E P) km_Mo_choiceCode { frames := 1407 + (d + 1), cells := 0, slots := 0, locals := 34961 + 28 * (d + 1) } [.ref (S.1 68), .int x1, .int x2, .int x3] (zs_W S h) (zd_PV S rh) := by
  refine zk_met ku_Mo_choiceCode (Nat.le_of_ble_eq_true rfl) (ze_Em P) ?_
  intro X C hR
  refine zk_lvs (lv' := [(0, .ref (S.1 68)), (1, .int x1), (2, .int x2), (3, .int x3)]) [0, 1, 2, 3] rfl ?_
  unfold g_Mo_choiceCode at e
  refine zk_aload_n C kd_Mo_choiceCode_0 rfl 0 rfl rfl ?_
  refine zs_get (v := .int (h.1 68 66)) C 68 66 rfl rfl rfl rfl ki_Mo (by decide) kw1749 kd_Mo_choiceCode_1 rfl ?_
  refine zk_istore (lv' := [(4, _), (0, _), (1, _), (2, _), (3, _)]) C kd_Mo_choiceCode_4 (by decide) rfl rfl ?_
  refine zk_iload_n C kd_Mo_choiceCode_6 rfl 3 rfl rfl ?_
  refine zk_istore (lv' := [(5, _), (4, _), (0, _), (1, _), (2, _), (3, _)]) C kd_Mo_choiceCode_7 (by decide) rfl rfl ?_
  refine zk_lvs (lv' := [(0, .ref (S.1 68)), (3, .int x3), (4, .int (h.1 68 66)), (5, .int x2)]) [2, 5, 1, 0] rfl ?_
  exact zl_Mo_choiceCode_9 C hR hr_Mo_bodyCode zF h x3 (h.1 68 66) x2 e
set_option maxHeartbeats 4000000 in
set_option maxRecDepth 100000 in
theorem zb_Mo_loopCode_235 {X : zkj_T} {S : zs_T} {P : ze_T} {l : Launch} {D : va_G} {sz0 : Nat} {d : Nat} {rh : zs_H} (C : zk_C X km_Mo_loopCode (zs_G S l D sz0) { frames := 1407 + (d + 1), cells := 0, slots := 0, locals := 34961 + 28 * (d + 1) } (ze_E P)) (hR : zkj_R X (zd_PV S rh) (none)) {k235 : zs_H → Int32 → (Option zs_H)} (hk235 : ∀ (h : zs_H) (x7 : Int32), k235 h x7 = some rh → zk_Ab X (zs_W S h) 0 0 235 [(0, .ref (S.1 68)), (7, .int x7)] []) (h : zs_H) (x7 : Int32) (e : f_Mo_loopCode_235 k235 h x7 = some rh) : zk_Ab X (zs_W S h) 0 0 235 [(0, .ref (S.1 68)), (7, .int x7)] [] := by
  unfold f_Mo_loopCode_235 at e
  refine zk_aload_n C kd_Mo_loopCode_235 rfl 0 rfl rfl ?_
  refine zs_get (v := .int (h.1 68 68)) C 68 68 rfl rfl rfl rfl ki_Mo (by decide) kw1751 kd_Mo_loopCode_236 rfl ?_
  refine zk_iload C kd_Mo_loopCode_239 1 rfl rfl ?_
  refine zk_icmp_le (tgt := 274) C kd_Mo_loopCode_241 (by decide) rfl (fun b1 => ?_) (fun b1 => ?_)
  · replace e := zd_pos b1 e
    refine zk_aload_n C kd_Mo_loopCode_274 rfl 0 rfl rfl ?_
    refine zk_dup C kd_Mo_loopCode_275 rfl rfl ?_
    refine zs_get (v := .int (h.1 68 64)) C 68 64 rfl rfl rfl rfl ki_Mo (by decide) kw1747 kd_Mo_loopCode_276 rfl ?_
    refine zk_iconst (v := 1) C kd_Mo_loopCode_279 (by decide) rfl ?_
    refine zk_isub C kd_Mo_loopCode_280 rfl ?_
    refine zs_put (ty := .int) C 68 64 ((h.1 68 64) - 1) rfl rfl rfl rfl ki_Mo ky_Mo ko_Mo kn_Mo (by decide) kw1747 rfl rfl rfl rfl (by decide) kd_Mo_loopCode_281 rfl ?_
    exact zk_vret C hR kd_Mo_loopCode_284 rfl rfl (zd_rV e)
  · replace e := zd_neg b1 e
    refine zk_aload_n C kd_Mo_loopCode_244 rfl 0 rfl rfl ?_
    refine zk_dup C kd_Mo_loopCode_245 rfl rfl ?_
    refine zs_get (v := .int (h.1 68 68)) C 68 68 rfl rfl rfl rfl ki_Mo (by decide) kw1751 kd_Mo_loopCode_246 rfl ?_
    refine zk_iconst (v := 1) C kd_Mo_loopCode_249 (by decide) rfl ?_
    refine zk_isub C kd_Mo_loopCode_250 rfl ?_
    refine zs_put (ty := .int) C 68 68 ((h.1 68 68) - 1) rfl rfl rfl rfl ki_Mo ky_Mo ko_Mo kn_Mo (by decide) kw1751 rfl rfl rfl rfl (by decide) kd_Mo_loopCode_251 rfl ?_
    refine zk_aload_n C kd_Mo_loopCode_254 rfl 0 rfl rfl ?_
    refine zk_aload_n C kd_Mo_loopCode_255 rfl 0 rfl rfl ?_
    refine zs_get (v := .ref (S.1 111)) C 68 69 rfl rfl rfl rfl ki_Mo (by decide) kw1752 kd_Mo_loopCode_256 rfl ?_
    refine zk_aload_n C kd_Mo_loopCode_259 rfl 0 rfl rfl ?_
    refine zs_get (v := .int ((h.1 68 68) - 1)) C 68 68 rfl rfl rfl rfl ki_Mo (by decide) kw1751 kd_Mo_loopCode_260 rfl ?_
    obtain ⟨q2, e⟩ := zd_g e
    refine zs_iald C 111 rfl (zd_vp q2) kd_Mo_loopCode_263 rfl ?_
    refine zk_stk (r' := [.int (h.2.1 111 ((h.1 68 68) - 1).toNatClampNeg), .ref (S.1 68)]) rfl ?_
    refine zk_aload_n C kd_Mo_loopCode_264 rfl 0 rfl rfl ?_
    obtain ⟨v4, c3, e⟩ := zd_b e
    refine zs_callV (k := 68) (rn := { frames := 0, cells := 0, slots := 0, locals := 0 }) (As := []) (rest := [.int (h.2.1 111 ((h.1 68 68) - 1).toNatClampNeg), .ref (S.1 68)]) C (zc_Mo_here (zs_uF h 68 68 ((h.1 68 68) - 1)) c3) ku_Mo_here kw2604 kv_Mo_here rfl (zd_rmO (by decide) (by decide)) ⟨Nat.le_refl _, Nat.le_refl _⟩ rfl rfl rfl (Nat.le_of_ble_eq_true rfl) kd_Mo_loopCode_265 rfl (c1 := 0) (s1 := 0) rfl rfl (fun v w hp => ?_)
    obtain ⟨rfl, rfl⟩ := hp
    refine zk_stk (r' := [.int v4, .int (h.2.1 111 ((h.1 68 68) - 1).toNatClampNeg), .ref (S.1 68)]) rfl ?_
    obtain ⟨h6, c5, e⟩ := zd_b e
    refine zs_callV (k := 68) (rn := { frames := 0, cells := 0, slots := 0, locals := 0 }) (As := [.int (h.2.1 111 ((h.1 68 68) - 1).toNatClampNeg), .int v4]) (rest := []) C (zc_Mo_aim (zs_uF h 68 68 ((h.1 68 68) - 1)) (h.2.1 111 ((h.1 68 68) - 1).toNatClampNeg) v4 c5) ku_Mo_aim kw2608 kv_Mo_aim rfl (zd_rmO (by decide) (by decide)) ⟨Nat.le_refl _, Nat.le_refl _⟩ rfl rfl rfl (Nat.le_of_ble_eq_true rfl) kd_Mo_loopCode_268 rfl (c1 := 0) (s1 := 0) rfl rfl (fun v w hp => ?_)
    obtain ⟨rfl, rfl⟩ := hp
    refine zk_stk (r' := []) rfl ?_
    refine zk_goto (tgt := 235) C kd_Mo_loopCode_271 (by decide) ?_
    refine zk_lvs (lv' := [(0, .ref (S.1 68)), (7, .int x7)]) [0, 1] rfl ?_
    exact hk235 h6 x7 e
theorem zl_Mo_loopCode_235 {X : zkj_T} {S : zs_T} {P : ze_T} {l : Launch} {D : va_G} {sz0 : Nat} {d : Nat} {rh : zs_H} (C : zk_C X km_Mo_loopCode (zs_G S l D sz0) { frames := 1407 + (d + 1), cells := 0, slots := 0, locals := 34961 + 28 * (d + 1) } (ze_E P)) (hR : zkj_R X (zd_PV S rh) (none)) (n : Nat) : ∀ (h : zs_H) (x7 : Int32), f_Mo_loopCode_L235 n h x7 = some rh → zk_Ab X (zs_W S h) 0 0 235 [(0, .ref (S.1 68)), (7, .int x7)] [] := by
  induction n with
  | zero => intro h x7 e; exact zd_no e
  | succ n ih => intro h x7 e; exact zb_Mo_loopCode_235 (k235 := f_Mo_loopCode_L235  n) C hR ih h x7 e
set_option maxHeartbeats 4000000 in
set_option maxRecDepth 100000 in
theorem zb_Mo_loopCode_191 {X : zkj_T} {S : zs_T} {P : ze_T} {l : Launch} {D : va_G} {sz0 : Nat} {d : Nat} {rh : zs_H} (C : zk_C X km_Mo_loopCode (zs_G S l D sz0) { frames := 1407 + (d + 1), cells := 0, slots := 0, locals := 34961 + 28 * (d + 1) } (ze_E P)) (hR : zkj_R X (zd_PV S rh) (none)) (h : zs_H) (x1 : Int32) (x6 : Int32) (x7 : Int32) (y0 : Int32) (y1 : Int32) (e : f_Mo_loopCode_191 h x1 x6 x7 y0 y1 = some rh) : zk_Ab X (zs_W S h) 0 0 191 [(0, .ref (S.1 68)), (1, .int x1), (6, .int x6), (7, .int x7)] [.int y0, .int y1, .ref (S.1 68)] := by
  unfold f_Mo_loopCode_191 at e
  refine zk_iconst (v := 0) C kd_Mo_loopCode_191 (by decide) rfl ?_
  refine zk_iconst (v := 0) C kd_Mo_loopCode_192 (by decide) rfl ?_
  obtain ⟨v2, h3, c1, e⟩ := zd_Be e
  refine zs_callV (k := 68) (rn := { frames := 0, cells := 0, slots := 0, locals := 0 }) (As := [.int y1, .int y0, .int 0, .int 0]) (rest := []) C (zc_Mo_emit h y1 y0 0 0 c1) ku_Mo_emit kw2524 kv_Mo_emit rfl (zd_rmO (by decide) (by decide)) ⟨Nat.le_refl _, Nat.le_refl _⟩ rfl rfl rfl (Nat.le_of_ble_eq_true rfl) kd_Mo_loopCode_193 rfl (c1 := 0) (s1 := 0) rfl rfl (fun v w hp => ?_)
  obtain ⟨rfl, rfl⟩ := hp
  refine zk_stk (r' := [.int v2]) rfl ?_
  refine zk_istore (lv' := [(5, _), (0, _), (1, _), (6, _), (7, _)]) C kd_Mo_loopCode_196 (by decide) rfl rfl ?_
  refine zk_aload_n C kd_Mo_loopCode_198 rfl 1 rfl rfl ?_
  refine zk_iconst (v := 2) C kd_Mo_loopCode_199 (by decide) rfl ?_
  refine zk_aload_n C kd_Mo_loopCode_200 rfl 1 rfl rfl ?_
  refine zs_get (v := .ref (S.1 101)) C 68 52 rfl rfl rfl rfl ki_Mo (by decide) kw1735 kd_Mo_loopCode_201 rfl ?_
  refine zk_iload_n C kd_Mo_loopCode_204 rfl 2 rfl rfl ?_
  obtain ⟨q4, e⟩ := zd_g e
  refine zs_iald C 101 rfl (zd_vp q4) kd_Mo_loopCode_205 rfl ?_
  refine zk_iconst (v := 0) C kd_Mo_loopCode_206 (by decide) rfl ?_
  refine zk_iconst (v := 0) C kd_Mo_loopCode_207 (by decide) rfl ?_
  obtain ⟨v6, h7, c5, e⟩ := zd_Be e
  refine zs_callV (k := 68) (rn := { frames := 0, cells := 0, slots := 0, locals := 0 }) (As := [.int 2, .int (h3.2.1 101 x1.toNatClampNeg), .int 0, .int 0]) (rest := []) C (zc_Mo_emit h3 2 (h3.2.1 101 x1.toNatClampNeg) 0 0 c5) ku_Mo_emit kw2524 kv_Mo_emit rfl (zd_rmO (by decide) (by decide)) ⟨Nat.le_refl _, Nat.le_refl _⟩ rfl rfl rfl (Nat.le_of_ble_eq_true rfl) kd_Mo_loopCode_208 rfl (c1 := 0) (s1 := 0) rfl rfl (fun v w hp => ?_)
  obtain ⟨rfl, rfl⟩ := hp
  refine zk_stk (r' := [.int v6]) rfl ?_
  refine zk_istore (lv' := [(5, _), (0, _), (1, _), (6, _), (7, _)]) C kd_Mo_loopCode_211 (by decide) rfl rfl ?_
  refine zk_aload_n C kd_Mo_loopCode_213 rfl 1 rfl rfl ?_
  refine zk_bipush (v := 14) C kd_Mo_loopCode_214 (by decide) rfl ?_
  refine zk_iload C kd_Mo_loopCode_216 3 rfl rfl ?_
  refine zk_iconst (v := 0) C kd_Mo_loopCode_218 (by decide) rfl ?_
  refine zk_iconst (v := 0) C kd_Mo_loopCode_219 (by decide) rfl ?_
  obtain ⟨v9, h10, c8, e⟩ := zd_Be e
  refine zs_callV (k := 68) (rn := { frames := 0, cells := 0, slots := 0, locals := 0 }) (As := [.int 14, .int x6, .int 0, .int 0]) (rest := []) C (zc_Mo_emit h7 14 x6 0 0 c8) ku_Mo_emit kw2524 kv_Mo_emit rfl (zd_rmO (by decide) (by decide)) ⟨Nat.le_refl _, Nat.le_refl _⟩ rfl rfl rfl (Nat.le_of_ble_eq_true rfl) kd_Mo_loopCode_220 rfl (c1 := 0) (s1 := 0) rfl rfl (fun v w hp => ?_)
  obtain ⟨rfl, rfl⟩ := hp
  refine zk_stk (r' := [.int v9]) rfl ?_
  refine zk_istore (lv' := [(5, _), (0, _), (1, _), (6, _), (7, _)]) C kd_Mo_loopCode_223 (by decide) rfl rfl ?_
  refine zk_aload_n C kd_Mo_loopCode_225 rfl 1 rfl rfl ?_
  refine zk_iload C kd_Mo_loopCode_226 3 rfl rfl ?_
  refine zk_aload_n C kd_Mo_loopCode_228 rfl 1 rfl rfl ?_
  obtain ⟨v12, c11, e⟩ := zd_b e
  refine zs_callV (k := 68) (rn := { frames := 0, cells := 0, slots := 0, locals := 0 }) (As := []) (rest := [.int x6, .ref (S.1 68)]) C (zc_Mo_here h10 c11) ku_Mo_here kw2604 kv_Mo_here rfl (zd_rmO (by decide) (by decide)) ⟨Nat.le_refl _, Nat.le_refl _⟩ rfl rfl rfl (Nat.le_of_ble_eq_true rfl) kd_Mo_loopCode_229 rfl (c1 := 0) (s1 := 0) rfl rfl (fun v w hp => ?_)
  obtain ⟨rfl, rfl⟩ := hp
  refine zk_stk (r' := [.int v12, .int x6, .ref (S.1 68)]) rfl ?_
  obtain ⟨h14, c13, e⟩ := zd_b e
  refine zs_callV (k := 68) (rn := { frames := 0, cells := 0, slots := 0, locals := 0 }) (As := [.int x6, .int v12]) (rest := []) C (zc_Mo_aim h10 x6 v12 c13) ku_Mo_aim kw2608 kv_Mo_aim rfl (zd_rmO (by decide) (by decide)) ⟨Nat.le_refl _, Nat.le_refl _⟩ rfl rfl rfl (Nat.le_of_ble_eq_true rfl) kd_Mo_loopCode_232 rfl (c1 := 0) (s1 := 0) rfl rfl (fun v w hp => ?_)
  obtain ⟨rfl, rfl⟩ := hp
  refine zk_stk (r' := []) rfl ?_
  refine zk_lvs (lv' := [(0, .ref (S.1 68)), (7, .int x7)]) [1, 4] rfl ?_
  exact zl_Mo_loopCode_235 C hR zF h14 x7 e
set_option maxHeartbeats 4000000 in
set_option maxRecDepth 100000 in
theorem zb_Mo_loopCode_170 {X : zkj_T} {S : zs_T} {P : ze_T} {l : Launch} {D : va_G} {sz0 : Nat} {d : Nat} {rh : zs_H} (C : zk_C X km_Mo_loopCode (zs_G S l D sz0) { frames := 1407 + (d + 1), cells := 0, slots := 0, locals := 34961 + 28 * (d + 1) } (ze_E P)) (hR : zkj_R X (zd_PV S rh) (none)) (h : zs_H) (x1 : Int32) (x4 : Int32) (x6 : Int32) (x7 : Int32) (y0 : Int32) (y1 : Int32) (e : f_Mo_loopCode_170 h x1 x4 x6 x7 y0 y1 = some rh) : zk_Ab X (zs_W S h) 0 0 170 [(0, .ref (S.1 68)), (1, .int x1), (4, .int x4), (6, .int x6), (7, .int x7)] [.int y0, .int y1, .ref (S.1 68)] := by
  unfold f_Mo_loopCode_170 at e
  refine zk_iconst (v := 0) C kd_Mo_loopCode_170 (by decide) rfl ?_
  refine zk_iconst (v := 0) C kd_Mo_loopCode_171 (by decide) rfl ?_
  obtain ⟨v2, h3, c1, e⟩ := zd_Be e
  refine zs_callV (k := 68) (rn := { frames := 0, cells := 0, slots := 0, locals := 0 }) (As := [.int y1, .int y0, .int 0, .int 0]) (rest := []) C (zc_Mo_emit h y1 y0 0 0 c1) ku_Mo_emit kw2524 kv_Mo_emit rfl (zd_rmO (by decide) (by decide)) ⟨Nat.le_refl _, Nat.le_refl _⟩ rfl rfl rfl (Nat.le_of_ble_eq_true rfl) kd_Mo_loopCode_172 rfl (c1 := 0) (s1 := 0) rfl rfl (fun v w hp => ?_)
  obtain ⟨rfl, rfl⟩ := hp
  refine zk_stk (r' := [.int v2]) rfl ?_
  refine zk_istore (lv' := [(5, _), (0, _), (1, _), (4, _), (6, _), (7, _)]) C kd_Mo_loopCode_175 (by decide) rfl rfl ?_
  refine zk_aload_n C kd_Mo_loopCode_177 rfl 1 rfl rfl ?_
  refine zk_bipush (v := 7) C kd_Mo_loopCode_178 (by decide) rfl ?_
  refine zk_iload C kd_Mo_loopCode_180 3 rfl rfl ?_
  refine zk_iconst (v := 1) C kd_Mo_loopCode_182 (by decide) rfl ?_
  refine zk_icmp_ne (tgt := 190) C kd_Mo_loopCode_183 (by decide) rfl (fun b4 => ?_) (fun b4 => ?_)
  · replace e := zd_neg b4 e
    refine zk_iconst (v := 5) C kd_Mo_loopCode_190 (by decide) rfl ?_
    refine zk_lvs (lv' := [(0, .ref (S.1 68)), (1, .int x1), (6, .int x6), (7, .int x7)]) [1, 2, 4, 5] rfl ?_
    exact zb_Mo_loopCode_191 C hR h3 x1 x6 x7 5 7 e
  · replace e := zd_pos b4 e
    refine zk_iconst (v := 0) C kd_Mo_loopCode_186 (by decide) rfl ?_
    refine zk_goto (tgt := 191) C kd_Mo_loopCode_187 (by decide) ?_
    refine zk_lvs (lv' := [(0, .ref (S.1 68)), (1, .int x1), (6, .int x6), (7, .int x7)]) [1, 2, 4, 5] rfl ?_
    exact zb_Mo_loopCode_191 C hR h3 x1 x6 x7 0 7 e
set_option maxHeartbeats 4000000 in
set_option maxRecDepth 100000 in
theorem zg_Mo_loopCode {l : Launch} {D : va_G} {sz0 : Nat} {S : zs_T} {P : ze_T} {d : Nat} {r_Mo_bodyCode : zs_H → Int32 → (Option zs_H)} (hr_Mo_bodyCode : ∀ (h : zs_H) (x0 : Int32) {rh : zs_H}, r_Mo_bodyCode h x0 = some rh → zk_Sp (zs_G S l D sz0) (ze_E P) km_Mo_bodyCode { frames := 1407 + d, cells := 0, slots := 0, locals := 34961 + 28 * d } [.ref (S.1 68), .int x0] (zs_W S h) (zd_PV S rh)) (h : zs_H) (x1 : Int32) {rh : zs_H} (e : g_Mo_loopCode r_Mo_bodyCode h x1 = some rh) : zk_Sp (zs_G S l D sz0) (ze_E P) km_Mo_loopCode { frames := 1407 + (d + 1), cells := 0, slots := 0, locals := 34961 + 28 * (d + 1) } [.ref (S.1 68), .int x1] (zs_W S h) (zd_PV S rh) := by
  refine zk_met ku_Mo_loopCode (Nat.le_of_ble_eq_true rfl) (ze_Em P) ?_
  intro X C hR
  refine zk_lvs (lv' := [(0, .ref (S.1 68)), (1, .int x1)]) [0, 1] rfl ?_
  unfold g_Mo_loopCode at e
  refine zk_aload_n C kd_Mo_loopCode_0 rfl 0 rfl rfl ?_
  refine zs_get (v := .ref (S.1 76)) C 68 19 rfl rfl rfl rfl ki_Mo (by decide) kw1702 kd_Mo_loopCode_1 rfl ?_
  refine zk_iload_n C kd_Mo_loopCode_4 rfl 1 rfl rfl ?_
  obtain ⟨q1, e⟩ := zd_g e
  refine zs_iald C 76 rfl (zd_vp q1) kd_Mo_loopCode_5 rfl ?_
  refine zk_istore_n (lv' := [(2, _), (0, _), (1, _)]) C kd_Mo_loopCode_6 rfl (by decide) rfl rfl ?_
  refine zk_aload_n C kd_Mo_loopCode_7 rfl 1 rfl rfl ?_
  refine zs_get (v := .ref (S.1 78)) C 68 21 rfl rfl rfl rfl ki_Mo (by decide) kw1704 kd_Mo_loopCode_8 rfl ?_
  refine zk_aload_n C kd_Mo_loopCode_11 rfl 1 rfl rfl ?_
  refine zs_get (v := .ref (S.1 78)) C 68 21 rfl rfl rfl rfl ki_Mo (by decide) kw1704 kd_Mo_loopCode_12 rfl ?_
  refine zk_iload_n C kd_Mo_loopCode_15 rfl 0 rfl rfl ?_
  obtain ⟨q2, e⟩ := zd_g e
  refine zs_iald C 78 rfl (zd_vp q2) kd_Mo_loopCode_16 rfl ?_
  obtain ⟨q3, e⟩ := zd_g e
  refine zs_iald C 78 rfl (zd_vp q3) kd_Mo_loopCode_17 rfl ?_
  refine zk_istore_n (lv' := [(3, _), (2, _), (0, _), (1, _)]) C kd_Mo_loopCode_18 rfl (by decide) rfl rfl ?_
  refine zk_aload_n C kd_Mo_loopCode_19 rfl 2 rfl rfl ?_
  refine zs_get (v := .ref (S.1 93)) C 68 44 rfl rfl rfl rfl ki_Mo (by decide) kw1727 kd_Mo_loopCode_20 rfl ?_
  refine zk_aload_n C kd_Mo_loopCode_23 rfl 2 rfl rfl ?_
  refine zk_aload_n C kd_Mo_loopCode_24 rfl 2 rfl rfl ?_
  refine zs_get (v := .int (h.1 68 54)) C 68 54 rfl rfl rfl rfl ki_Mo (by decide) kw1737 kd_Mo_loopCode_25 rfl ?_
  refine zk_aload_n C kd_Mo_loopCode_28 rfl 2 rfl rfl ?_
  refine zs_get (v := .ref (S.1 74)) C 68 17 rfl rfl rfl rfl ki_Mo (by decide) kw1700 kd_Mo_loopCode_29 rfl ?_
  refine zk_iload_n C kd_Mo_loopCode_32 rfl 3 rfl rfl ?_
  refine zs_iald C 74 rfl (zd_vp q1) kd_Mo_loopCode_33 rfl ?_
  obtain ⟨v5, c4, e⟩ := zd_b e
  refine zs_callV (k := 68) (rn := { frames := 0, cells := 0, slots := 0, locals := 0 }) (As := [.int (h.1 68 54), .int (h.2.1 74 x1.toNatClampNeg)]) (rest := [.ref (S.1 93)]) C (zc_Mo_variable h (h.1 68 54) (h.2.1 74 x1.toNatClampNeg) c4) ku_Mo_variable kw2327 kv_Mo_variable rfl (zd_rmO (by decide) (by decide)) ⟨Nat.le_refl _, Nat.le_refl _⟩ rfl rfl rfl (Nat.le_of_ble_eq_true rfl) kd_Mo_loopCode_34 rfl (c1 := 0) (s1 := 0) rfl rfl (fun v w hp => ?_)
  obtain ⟨rfl, rfl⟩ := hp
  refine zk_stk (r' := [.int v5, .ref (S.1 93)]) rfl ?_
  obtain ⟨q6, e⟩ := zd_g e
  refine zs_iald C 93 rfl (zd_vp q6) kd_Mo_loopCode_37 rfl ?_
  refine zk_istore (lv' := [(4, _), (3, _), (2, _), (0, _), (1, _)]) C kd_Mo_loopCode_38 (by decide) rfl rfl ?_
  refine zk_aload_n C kd_Mo_loopCode_40 rfl 3 rfl rfl ?_
  refine zk_iconst (v := 0) C kd_Mo_loopCode_41 (by decide) rfl ?_
  refine zk_aload_n C kd_Mo_loopCode_42 rfl 3 rfl rfl ?_
  refine zs_get (v := .ref (S.1 74)) C 68 17 rfl rfl rfl rfl ki_Mo (by decide) kw1700 kd_Mo_loopCode_43 rfl ?_
  refine zk_iload_n C kd_Mo_loopCode_46 rfl 2 rfl rfl ?_
  refine zs_iald C 74 rfl (zd_vp q2) kd_Mo_loopCode_47 rfl ?_
  refine zk_iconst (v := 0) C kd_Mo_loopCode_48 (by decide) rfl ?_
  refine zk_iconst (v := 0) C kd_Mo_loopCode_49 (by decide) rfl ?_
  obtain ⟨v8, h9, c7, e⟩ := zd_Be e
  refine zs_callV (k := 68) (rn := { frames := 0, cells := 0, slots := 0, locals := 0 }) (As := [.int 0, .int (h.2.1 74 (h.2.1 76 x1.toNatClampNeg).toNatClampNeg), .int 0, .int 0]) (rest := []) C (zc_Mo_emit h 0 (h.2.1 74 (h.2.1 76 x1.toNatClampNeg).toNatClampNeg) 0 0 c7) ku_Mo_emit kw2524 kv_Mo_emit rfl (zd_rmO (by decide) (by decide)) ⟨Nat.le_refl _, Nat.le_refl _⟩ rfl rfl rfl (Nat.le_of_ble_eq_true rfl) kd_Mo_loopCode_50 rfl (c1 := 0) (s1 := 0) rfl rfl (fun v w hp => ?_)
  obtain ⟨rfl, rfl⟩ := hp
  refine zk_stk (r' := [.int v8]) rfl ?_
  refine zk_istore (lv' := [(5, _), (4, _), (3, _), (2, _), (0, _), (1, _)]) C kd_Mo_loopCode_53 (by decide) rfl rfl ?_
  refine zk_aload_n C kd_Mo_loopCode_55 rfl 4 rfl rfl ?_
  refine zk_iconst (v := 2) C kd_Mo_loopCode_56 (by decide) rfl ?_
  refine zk_aload_n C kd_Mo_loopCode_57 rfl 4 rfl rfl ?_
  refine zs_get (v := .ref (S.1 101)) C 68 52 rfl rfl rfl rfl ki_Mo (by decide) kw1735 kd_Mo_loopCode_58 rfl ?_
  refine zk_iload_n C kd_Mo_loopCode_61 rfl 5 rfl rfl ?_
  obtain ⟨q10, e⟩ := zd_g e
  refine zs_iald C 101 rfl (zd_vp q10) kd_Mo_loopCode_62 rfl ?_
  refine zk_iconst (v := 0) C kd_Mo_loopCode_63 (by decide) rfl ?_
  refine zk_iconst (v := 0) C kd_Mo_loopCode_64 (by decide) rfl ?_
  obtain ⟨v12, h13, c11, e⟩ := zd_Be e
  refine zs_callV (k := 68) (rn := { frames := 0, cells := 0, slots := 0, locals := 0 }) (As := [.int 2, .int (h9.2.1 101 x1.toNatClampNeg), .int 0, .int 0]) (rest := []) C (zc_Mo_emit h9 2 (h9.2.1 101 x1.toNatClampNeg) 0 0 c11) ku_Mo_emit kw2524 kv_Mo_emit rfl (zd_rmO (by decide) (by decide)) ⟨Nat.le_refl _, Nat.le_refl _⟩ rfl rfl rfl (Nat.le_of_ble_eq_true rfl) kd_Mo_loopCode_65 rfl (c1 := 0) (s1 := 0) rfl rfl (fun v w hp => ?_)
  obtain ⟨rfl, rfl⟩ := hp
  refine zk_stk (r' := [.int v12]) rfl ?_
  refine zk_istore (lv' := [(5, _), (4, _), (3, _), (2, _), (0, _), (1, _)]) C kd_Mo_loopCode_68 (by decide) rfl rfl ?_
  refine zk_aload_n C kd_Mo_loopCode_70 rfl 4 rfl rfl ?_
  refine zk_bipush (v := 12) C kd_Mo_loopCode_71 (by decide) rfl ?_
  refine zk_aload_n C kd_Mo_loopCode_73 rfl 4 rfl rfl ?_
  refine zs_get (v := .ref (S.1 102)) C 68 53 rfl rfl rfl rfl ki_Mo (by decide) kw1736 kd_Mo_loopCode_74 rfl ?_
  refine zk_iload_n C kd_Mo_loopCode_77 rfl 5 rfl rfl ?_
  obtain ⟨q14, e⟩ := zd_g e
  refine zs_iald C 102 rfl (zd_vp q14) kd_Mo_loopCode_78 rfl ?_
  refine zk_aload_n C kd_Mo_loopCode_79 rfl 4 rfl rfl ?_
  refine zk_iload_n C kd_Mo_loopCode_80 rfl 5 rfl rfl ?_
  obtain ⟨v16, c15, e⟩ := zd_b e
  refine zs_callV (k := 68) (rn := { frames := 0, cells := 0, slots := 0, locals := 0 }) (As := [.int x1]) (rest := [.int (h13.2.1 102 x1.toNatClampNeg), .int 12, .ref (S.1 68)]) C (zc_Mo_times h13 x1 c15) ku_Mo_times kw2616 kv_Mo_times rfl (zd_rmO (by decide) (by decide)) ⟨Nat.le_refl _, Nat.le_refl _⟩ rfl rfl rfl (Nat.le_of_ble_eq_true rfl) kd_Mo_loopCode_81 rfl (c1 := 0) (s1 := 0) rfl rfl (fun v w hp => ?_)
  obtain ⟨rfl, rfl⟩ := hp
  refine zk_stk (r' := [.int v16, .int (h13.2.1 102 x1.toNatClampNeg), .int 12, .ref (S.1 68)]) rfl ?_
  refine zk_iconst (v := 0) C kd_Mo_loopCode_84 (by decide) rfl ?_
  obtain ⟨v18, h19, c17, e⟩ := zd_Be e
  refine zs_callV (k := 68) (rn := { frames := 0, cells := 0, slots := 0, locals := 0 }) (As := [.int 12, .int (h13.2.1 102 x1.toNatClampNeg), .int v16, .int 0]) (rest := []) C (zc_Mo_emit h13 12 (h13.2.1 102 x1.toNatClampNeg) v16 0 c17) ku_Mo_emit kw2524 kv_Mo_emit rfl (zd_rmO (by decide) (by decide)) ⟨Nat.le_refl _, Nat.le_refl _⟩ rfl rfl rfl (Nat.le_of_ble_eq_true rfl) kd_Mo_loopCode_85 rfl (c1 := 0) (s1 := 0) rfl rfl (fun v w hp => ?_)
  obtain ⟨rfl, rfl⟩ := hp
  refine zk_stk (r' := [.int v18]) rfl ?_
  refine zk_istore (lv' := [(5, _), (4, _), (3, _), (2, _), (0, _), (1, _)]) C kd_Mo_loopCode_88 (by decide) rfl rfl ?_
  refine zk_aload_n C kd_Mo_loopCode_90 rfl 4 rfl rfl ?_
  refine zk_bipush (v := 13) C kd_Mo_loopCode_91 (by decide) rfl ?_
  refine zk_aload_n C kd_Mo_loopCode_93 rfl 4 rfl rfl ?_
  refine zs_get (v := .ref (S.1 102)) C 68 53 rfl rfl rfl rfl ki_Mo (by decide) kw1736 kd_Mo_loopCode_94 rfl ?_
  refine zk_iload_n C kd_Mo_loopCode_97 rfl 5 rfl rfl ?_
  obtain ⟨q20, e⟩ := zd_g e
  refine zs_iald C 102 rfl (zd_vp q20) kd_Mo_loopCode_98 rfl ?_
  refine zk_iconst (v := 0) C kd_Mo_loopCode_99 (by decide) rfl ?_
  refine zk_iconst (v := 0) C kd_Mo_loopCode_100 (by decide) rfl ?_
  obtain ⟨v22, h23, c21, e⟩ := zd_Be e
  refine zs_callV (k := 68) (rn := { frames := 0, cells := 0, slots := 0, locals := 0 }) (As := [.int 13, .int (h19.2.1 102 x1.toNatClampNeg), .int 0, .int 0]) (rest := []) C (zc_Mo_emit h19 13 (h19.2.1 102 x1.toNatClampNeg) 0 0 c21) ku_Mo_emit kw2524 kv_Mo_emit rfl (zd_rmO (by decide) (by decide)) ⟨Nat.le_refl _, Nat.le_refl _⟩ rfl rfl rfl (Nat.le_of_ble_eq_true rfl) kd_Mo_loopCode_101 rfl (c1 := 0) (s1 := 0) rfl rfl (fun v w hp => ?_)
  obtain ⟨rfl, rfl⟩ := hp
  refine zk_stk (r' := [.int v22]) rfl ?_
  refine zk_istore (lv' := [(6, _), (5, _), (4, _), (3, _), (2, _), (0, _), (1, _)]) C kd_Mo_loopCode_104 (by decide) rfl rfl ?_
  refine zk_aload_n C kd_Mo_loopCode_106 rfl 5 rfl rfl ?_
  refine zk_dup C kd_Mo_loopCode_107 rfl rfl ?_
  refine zs_get (v := .int (h23.1 68 64)) C 68 64 rfl rfl rfl rfl ki_Mo (by decide) kw1747 kd_Mo_loopCode_108 rfl ?_
  refine zk_iconst (v := 1) C kd_Mo_loopCode_111 (by decide) rfl ?_
  refine zk_iadd C kd_Mo_loopCode_112 rfl ?_
  refine zs_put (ty := .int) C 68 64 ((h23.1 68 64) + 1) rfl rfl rfl rfl ki_Mo ky_Mo ko_Mo kn_Mo (by decide) kw1747 rfl rfl rfl rfl (by decide) kd_Mo_loopCode_113 rfl ?_
  refine zk_aload_n C kd_Mo_loopCode_116 rfl 5 rfl rfl ?_
  refine zs_get (v := .int (h23.1 68 68)) C 68 68 rfl rfl rfl rfl ki_Mo (by decide) kw1751 kd_Mo_loopCode_117 rfl ?_
  refine zk_istore (lv' := [(7, _), (6, _), (5, _), (4, _), (3, _), (2, _), (0, _), (1, _)]) C kd_Mo_loopCode_120 (by decide) rfl rfl ?_
  refine zk_aload_n C kd_Mo_loopCode_122 rfl 6 rfl rfl ?_
  refine zk_aload_n C kd_Mo_loopCode_123 rfl 6 rfl rfl ?_
  refine zs_get (v := .ref (S.1 77)) C 68 20 rfl rfl rfl rfl ki_Mo (by decide) kw1703 kd_Mo_loopCode_124 rfl ?_
  refine zk_iload_n C kd_Mo_loopCode_127 rfl 7 rfl rfl ?_
  obtain ⟨q24, e⟩ := zd_g e
  refine zs_iald C 77 rfl (zd_vp q24) kd_Mo_loopCode_128 rfl ?_
  refine zk_stk (r' := [.int (h23.2.1 77 x1.toNatClampNeg), .ref (S.1 68)]) rfl ?_
  obtain ⟨h26, c25, e⟩ := zd_b e
  refine zs_callV (k := 68) (rn := { frames := 1407 + d, cells := 0, slots := 0, locals := 34961 + 28 * d }) (As := [.int (h23.2.1 77 x1.toNatClampNeg)]) (rest := []) C (hr_Mo_bodyCode (zs_uF h23 68 64 ((h23.1 68 64) + 1)) (h23.2.1 77 x1.toNatClampNeg) c25) ku_Mo_bodyCode kw2532 kv_Mo_bodyCode rfl (zd_rmI (by decide)) ⟨Nat.le_refl _, Nat.le_refl _⟩ rfl rfl rfl (Nat.le_of_ble_eq_true rfl) kd_Mo_loopCode_129 rfl (c1 := 0) (s1 := 0) rfl rfl (fun v w hp => ?_)
  obtain ⟨rfl, rfl⟩ := hp
  refine zk_stk (r' := []) rfl ?_
  refine zk_aload_n C kd_Mo_loopCode_132 rfl 6 rfl rfl ?_
  refine zk_iconst (v := 1) C kd_Mo_loopCode_133 (by decide) rfl ?_
  refine zk_aload_n C kd_Mo_loopCode_134 rfl 6 rfl rfl ?_
  refine zs_get (v := .ref (S.1 101)) C 68 52 rfl rfl rfl rfl ki_Mo (by decide) kw1735 kd_Mo_loopCode_135 rfl ?_
  refine zk_iload_n C kd_Mo_loopCode_138 rfl 7 rfl rfl ?_
  obtain ⟨q27, e⟩ := zd_g e
  refine zs_iald C 101 rfl (zd_vp q27) kd_Mo_loopCode_139 rfl ?_
  refine zk_iconst (v := 0) C kd_Mo_loopCode_140 (by decide) rfl ?_
  refine zk_iconst (v := 0) C kd_Mo_loopCode_141 (by decide) rfl ?_
  obtain ⟨v29, h30, c28, e⟩ := zd_Be e
  refine zs_callV (k := 68) (rn := { frames := 0, cells := 0, slots := 0, locals := 0 }) (As := [.int 1, .int (h26.2.1 101 x1.toNatClampNeg), .int 0, .int 0]) (rest := []) C (zc_Mo_emit h26 1 (h26.2.1 101 x1.toNatClampNeg) 0 0 c28) ku_Mo_emit kw2524 kv_Mo_emit rfl (zd_rmO (by decide) (by decide)) ⟨Nat.le_refl _, Nat.le_refl _⟩ rfl rfl rfl (Nat.le_of_ble_eq_true rfl) kd_Mo_loopCode_142 rfl (c1 := 0) (s1 := 0) rfl rfl (fun v w hp => ?_)
  obtain ⟨rfl, rfl⟩ := hp
  refine zk_stk (r' := [.int v29]) rfl ?_
  refine zk_istore (lv' := [(5, _), (7, _), (6, _), (4, _), (3, _), (2, _), (0, _), (1, _)]) C kd_Mo_loopCode_145 (by decide) rfl rfl ?_
  refine zk_aload_n C kd_Mo_loopCode_147 rfl 6 rfl rfl ?_
  refine zk_iconst (v := 0) C kd_Mo_loopCode_148 (by decide) rfl ?_
  refine zk_aload_n C kd_Mo_loopCode_149 rfl 6 rfl rfl ?_
  refine zs_get (v := .ref (S.1 72)) C 68 15 rfl rfl rfl rfl ki_Mo (by decide) kw1698 kd_Mo_loopCode_150 rfl ?_
  refine zk_iload_n C kd_Mo_loopCode_153 rfl 4 rfl rfl ?_
  obtain ⟨q31, e⟩ := zd_g e
  refine zs_iald C 72 rfl (zd_vp q31) kd_Mo_loopCode_154 rfl ?_
  refine zk_bipush (v := 11) C kd_Mo_loopCode_155 (by decide) rfl ?_
  refine zk_icmp_ne (tgt := 164) C kd_Mo_loopCode_157 (by decide) rfl (fun b32 => ?_) (fun b32 => ?_)
  · replace e := zd_neg b32 e
    refine zk_aload_n C kd_Mo_loopCode_164 rfl 6 rfl rfl ?_
    refine zs_get (v := .ref (S.1 74)) C 68 17 rfl rfl rfl rfl ki_Mo (by decide) kw1700 kd_Mo_loopCode_165 rfl ?_
    refine zk_iload_n C kd_Mo_loopCode_168 rfl 4 rfl rfl ?_
    refine zs_iald C 74 rfl (zd_vp q31) kd_Mo_loopCode_169 rfl ?_
    refine zk_lvs (lv' := [(0, .ref (S.1 68)), (1, .int x1), (4, .int (h.2.1 93 v5.toNatClampNeg)), (6, .int v22), (7, .int (h23.1 68 68))]) [6, 7, 3, 2, 1] rfl ?_
    exact zb_Mo_loopCode_170 C hR h30 x1 (h.2.1 93 v5.toNatClampNeg) v22 (h23.1 68 68) (h30.2.1 74 (h.2.1 78 (h.2.1 78 (h.2.1 76 x1.toNatClampNeg).toNatClampNeg).toNatClampNeg).toNatClampNeg) 0 e
  · replace e := zd_pos b32 e
    refine zk_iconst (v := 1) C kd_Mo_loopCode_160 (by decide) rfl ?_
    refine zk_goto (tgt := 170) C kd_Mo_loopCode_161 (by decide) ?_
    refine zk_lvs (lv' := [(0, .ref (S.1 68)), (1, .int x1), (4, .int (h.2.1 93 v5.toNatClampNeg)), (6, .int v22), (7, .int (h23.1 68 68))]) [6, 7, 3, 2, 1] rfl ?_
    exact zb_Mo_loopCode_170 C hR h30 x1 (h.2.1 93 v5.toNatClampNeg) v22 (h23.1 68 68) 1 0 e
set_option maxHeartbeats 4000000 in
set_option maxRecDepth 100000 in
theorem zb_Mo_statementCode_165 {X : zkj_T} {S : zs_T} {P : ze_T} {l : Launch} {D : va_G} {sz0 : Nat} {d : Nat} {rh : zs_H} (C : zk_C X km_Mo_statementCode (zs_G S l D sz0) { frames := 1407 + (d + 1), cells := 0, slots := 0, locals := 34961 + 28 * (d + 1) } (ze_E P)) (hR : zkj_R X (zd_PV S rh) (none)) (h : zs_H) (y0 : Int32) (e : f_Mo_statementCode_165 h y0 = some rh) : zk_Ab X (zs_W S h) 0 0 165 [] [.int y0] := by
  unfold f_Mo_statementCode_165 at e
  refine zk_istore_n (lv' := [(2, _)]) C kd_Mo_statementCode_165 rfl (by decide) rfl rfl ?_
  refine zk_goto (tgt := 282) C kd_Mo_statementCode_166 (by decide) ?_
  exact zk_vret C hR kd_Mo_statementCode_282 rfl rfl (zd_rV e)
set_option maxHeartbeats 4000000 in
set_option maxRecDepth 100000 in
theorem zb_Mo_statementCode_75 {X : zkj_T} {S : zs_T} {P : ze_T} {l : Launch} {D : va_G} {sz0 : Nat} {d : Nat} {rh : zs_H} (C : zk_C X km_Mo_statementCode (zs_G S l D sz0) { frames := 1407 + (d + 1), cells := 0, slots := 0, locals := 34961 + 28 * (d + 1) } (ze_E P)) (hR : zkj_R X (zd_PV S rh) (none)) {k75 : zs_H → Int32 → Int32 → (Option zs_H)} (hk75 : ∀ (h : zs_H) (x1 : Int32) (x3 : Int32), k75 h x1 x3 = some rh → zk_Ab X (zs_W S h) 0 0 75 [(0, .ref (S.1 68)), (1, .int x1), (3, .int x3)] []) (h : zs_H) (x1 : Int32) (x3 : Int32) (e : f_Mo_statementCode_75 k75 h x1 x3 = some rh) : zk_Ab X (zs_W S h) 0 0 75 [(0, .ref (S.1 68)), (1, .int x1), (3, .int x3)] [] := by
  unfold f_Mo_statementCode_75 at e
  refine zk_iload_n C kd_Mo_statementCode_75 rfl 2 rfl rfl ?_
  refine zk_if_lt (tgt := 113) C kd_Mo_statementCode_76 (by decide) rfl (fun b1 => ?_) (fun b1 => ?_)
  · replace e := zd_pos b1 e
    refine zk_aload_n C kd_Mo_statementCode_113 rfl 0 rfl rfl ?_
    refine zk_iload_n C kd_Mo_statementCode_114 rfl 1 rfl rfl ?_
    obtain ⟨v3, c2, e⟩ := zd_b e
    refine zs_callV (k := 68) (rn := { frames := 1, cells := 0, slots := 0, locals := 23 }) (As := [.int x1]) (rest := []) C (zc_Mo_isOwn h x1 c2) ku_Mo_isOwn kw2592 kv_Mo_isOwn rfl (zd_rmO (by decide) (by decide)) ⟨Nat.le_refl _, Nat.le_refl _⟩ rfl rfl rfl (Nat.le_of_ble_eq_true rfl) kd_Mo_statementCode_115 rfl (c1 := 0) (s1 := 0) rfl rfl (fun v w hp => ?_)
    obtain ⟨rfl, rfl, z4⟩ := hp
    refine zk_stk (r' := [.int v3]) rfl ?_
    refine zk_if_eq (tgt := 146) C kd_Mo_statementCode_118 (by decide) rfl (fun b5 => ?_) (fun b5 => ?_)
    · replace e := zd_pos b5 e
      refine zk_aload_n C kd_Mo_statementCode_146 rfl 0 rfl rfl ?_
      refine zk_bipush (v := 15) C kd_Mo_statementCode_147 (by decide) rfl ?_
      refine zk_aload_n C kd_Mo_statementCode_149 rfl 0 rfl rfl ?_
      refine zs_get (v := .ref (S.1 102)) C 68 53 rfl rfl rfl rfl ki_Mo (by decide) kw1736 kd_Mo_statementCode_150 rfl ?_
      refine zk_iload_n C kd_Mo_statementCode_153 rfl 1 rfl rfl ?_
      obtain ⟨q6, e⟩ := zd_g e
      refine zs_iald C 102 rfl (zd_vp q6) kd_Mo_statementCode_154 rfl ?_
      refine zk_aload_n C kd_Mo_statementCode_155 rfl 0 rfl rfl ?_
      refine zs_get (v := .ref (S.1 101)) C 68 52 rfl rfl rfl rfl ki_Mo (by decide) kw1735 kd_Mo_statementCode_156 rfl ?_
      refine zk_iload_n C kd_Mo_statementCode_159 rfl 1 rfl rfl ?_
      refine zs_iald C 101 rfl (zd_vp q6) kd_Mo_statementCode_160 rfl ?_
      refine zk_iconst (v := 0) C kd_Mo_statementCode_161 (by decide) rfl ?_
      obtain ⟨v8, h9, c7, e⟩ := zd_Be e
      refine zs_callV (k := 68) (rn := { frames := 0, cells := 0, slots := 0, locals := 0 }) (As := [.int 15, .int (h.2.1 102 x1.toNatClampNeg), .int (h.2.1 101 x1.toNatClampNeg), .int 0]) (rest := []) C (zc_Mo_emit h 15 (h.2.1 102 x1.toNatClampNeg) (h.2.1 101 x1.toNatClampNeg) 0 c7) ku_Mo_emit kw2524 kv_Mo_emit rfl (zd_rmO (by decide) (by decide)) ⟨Nat.le_refl _, Nat.le_refl _⟩ rfl rfl rfl (Nat.le_of_ble_eq_true rfl) kd_Mo_statementCode_162 rfl (c1 := 0) (s1 := 0) rfl rfl (fun v w hp => ?_)
      obtain ⟨rfl, rfl⟩ := hp
      refine zk_stk (r' := [.int v8]) rfl ?_
      refine zk_lvs (lv' := []) [] rfl ?_
      exact zb_Mo_statementCode_165 C hR h9 v8 e
    · replace e := zd_neg b5 e
      refine zk_aload_n C kd_Mo_statementCode_121 rfl 0 rfl rfl ?_
      refine zk_bipush (v := 17) C kd_Mo_statementCode_122 (by decide) rfl ?_
      refine zk_aload_n C kd_Mo_statementCode_124 rfl 0 rfl rfl ?_
      refine zs_get (v := .ref (S.1 102)) C 68 53 rfl rfl rfl rfl ki_Mo (by decide) kw1736 kd_Mo_statementCode_125 rfl ?_
      refine zk_iload_n C kd_Mo_statementCode_128 rfl 1 rfl rfl ?_
      obtain ⟨q10, e⟩ := zd_g e
      refine zs_iald C 102 rfl (zd_vp q10) kd_Mo_statementCode_129 rfl ?_
      refine zk_bipush (v := 100) C kd_Mo_statementCode_130 (by decide) rfl ?_
      refine zk_isub C kd_Mo_statementCode_132 rfl ?_
      refine zk_aload_n C kd_Mo_statementCode_133 rfl 0 rfl rfl ?_
      refine zs_get (v := .ref (S.1 101)) C 68 52 rfl rfl rfl rfl ki_Mo (by decide) kw1735 kd_Mo_statementCode_134 rfl ?_
      refine zk_iload_n C kd_Mo_statementCode_137 rfl 1 rfl rfl ?_
      refine zs_iald C 101 rfl (zd_vp q10) kd_Mo_statementCode_138 rfl ?_
      refine zk_iconst (v := 0) C kd_Mo_statementCode_139 (by decide) rfl ?_
      obtain ⟨v12, h13, c11, e⟩ := zd_Be e
      refine zs_callV (k := 68) (rn := { frames := 0, cells := 0, slots := 0, locals := 0 }) (As := [.int 17, .int ((h.2.1 102 x1.toNatClampNeg) - 100), .int (h.2.1 101 x1.toNatClampNeg), .int 0]) (rest := []) C (zc_Mo_emit h 17 ((h.2.1 102 x1.toNatClampNeg) - 100) (h.2.1 101 x1.toNatClampNeg) 0 c11) ku_Mo_emit kw2524 kv_Mo_emit rfl (zd_rmO (by decide) (by decide)) ⟨Nat.le_refl _, Nat.le_refl _⟩ rfl rfl rfl (Nat.le_of_ble_eq_true rfl) kd_Mo_statementCode_140 rfl (c1 := 0) (s1 := 0) rfl rfl (fun v w hp => ?_)
      obtain ⟨rfl, rfl⟩ := hp
      refine zk_stk (r' := [.int v12]) rfl ?_
      refine zk_goto (tgt := 165) C kd_Mo_statementCode_143 (by decide) ?_
      refine zk_lvs (lv' := []) [] rfl ?_
      exact zb_Mo_statementCode_165 C hR h13 v12 e
  · replace e := zd_neg b1 e
    refine zk_aload_n C kd_Mo_statementCode_79 rfl 0 rfl rfl ?_
    refine zk_aload_n C kd_Mo_statementCode_80 rfl 0 rfl rfl ?_
    refine zs_get (v := .ref (S.1 76)) C 68 19 rfl rfl rfl rfl ki_Mo (by decide) kw1702 kd_Mo_statementCode_81 rfl ?_
    refine zk_iload_n C kd_Mo_statementCode_84 rfl 2 rfl rfl ?_
    obtain ⟨q14, e⟩ := zd_g e
    refine zs_iald C 76 rfl (zd_vp q14) kd_Mo_statementCode_85 rfl ?_
    obtain ⟨h16, c15, e⟩ := zd_b e
    refine zs_callV (k := 68) (rn := { frames := 805 + 600, cells := 0, slots := 0, locals := 19314 + 26 * 600 }) (As := [.int (h.2.1 76 x3.toNatClampNeg)]) (rest := []) C (zc_Mo_expressionCode h (h.2.1 76 x3.toNatClampNeg) c15) ku_Mo_expressionCode kw2544 kv_Mo_expressionCode rfl (zd_rmO (by decide) (by decide)) ⟨Nat.le_refl _, Nat.le_refl _⟩ rfl rfl rfl (Nat.le_of_ble_eq_true rfl) kd_Mo_statementCode_86 rfl (c1 := 0) (s1 := 0) rfl rfl (fun v w hp => ?_)
    obtain ⟨rfl, rfl⟩ := hp
    refine zk_stk (r' := []) rfl ?_
    refine zk_aload_n C kd_Mo_statementCode_89 rfl 0 rfl rfl ?_
    refine zk_iconst (v := 2) C kd_Mo_statementCode_90 (by decide) rfl ?_
    refine zk_aload_n C kd_Mo_statementCode_91 rfl 0 rfl rfl ?_
    refine zs_get (v := .ref (S.1 101)) C 68 52 rfl rfl rfl rfl ki_Mo (by decide) kw1735 kd_Mo_statementCode_92 rfl ?_
    refine zk_iload_n C kd_Mo_statementCode_95 rfl 2 rfl rfl ?_
    obtain ⟨q17, e⟩ := zd_g e
    refine zs_iald C 101 rfl (zd_vp q17) kd_Mo_statementCode_96 rfl ?_
    refine zk_iconst (v := 0) C kd_Mo_statementCode_97 (by decide) rfl ?_
    refine zk_iconst (v := 0) C kd_Mo_statementCode_98 (by decide) rfl ?_
    obtain ⟨v19, h20, c18, e⟩ := zd_Be e
    refine zs_callV (k := 68) (rn := { frames := 0, cells := 0, slots := 0, locals := 0 }) (As := [.int 2, .int (h16.2.1 101 x3.toNatClampNeg), .int 0, .int 0]) (rest := []) C (zc_Mo_emit h16 2 (h16.2.1 101 x3.toNatClampNeg) 0 0 c18) ku_Mo_emit kw2524 kv_Mo_emit rfl (zd_rmO (by decide) (by decide)) ⟨Nat.le_refl _, Nat.le_refl _⟩ rfl rfl rfl (Nat.le_of_ble_eq_true rfl) kd_Mo_statementCode_99 rfl (c1 := 0) (s1 := 0) rfl rfl (fun v w hp => ?_)
    obtain ⟨rfl, rfl⟩ := hp
    refine zk_stk (r' := [.int v19]) rfl ?_
    refine zk_istore_n (lv' := [(2, _), (0, _), (1, _), (3, _)]) C kd_Mo_statementCode_102 rfl (by decide) rfl rfl ?_
    refine zk_aload_n C kd_Mo_statementCode_103 rfl 1 rfl rfl ?_
    refine zs_get (v := .ref (S.1 78)) C 68 21 rfl rfl rfl rfl ki_Mo (by decide) kw1704 kd_Mo_statementCode_104 rfl ?_
    refine zk_iload_n C kd_Mo_statementCode_107 rfl 3 rfl rfl ?_
    obtain ⟨q21, e⟩ := zd_g e
    refine zs_iald C 78 rfl (zd_vp q21) kd_Mo_statementCode_108 rfl ?_
    refine zk_istore_n (lv' := [(3, _), (2, _), (0, _), (1, _)]) C kd_Mo_statementCode_109 rfl (by decide) rfl rfl ?_
    refine zk_goto (tgt := 75) C kd_Mo_statementCode_110 (by decide) ?_
    refine zk_lvs (lv' := [(0, .ref (S.1 68)), (1, .int x1), (3, .int (h20.2.1 78 x3.toNatClampNeg))]) [2, 3, 0] rfl ?_
    exact hk75 h20 x1 (h20.2.1 78 x3.toNatClampNeg) e
theorem zl_Mo_statementCode_75 {X : zkj_T} {S : zs_T} {P : ze_T} {l : Launch} {D : va_G} {sz0 : Nat} {d : Nat} {rh : zs_H} (C : zk_C X km_Mo_statementCode (zs_G S l D sz0) { frames := 1407 + (d + 1), cells := 0, slots := 0, locals := 34961 + 28 * (d + 1) } (ze_E P)) (hR : zkj_R X (zd_PV S rh) (none)) (n : Nat) : ∀ (h : zs_H) (x1 : Int32) (x3 : Int32), f_Mo_statementCode_L75 n h x1 x3 = some rh → zk_Ab X (zs_W S h) 0 0 75 [(0, .ref (S.1 68)), (1, .int x1), (3, .int x3)] [] := by
  induction n with
  | zero => intro h x1 x3 e; exact zd_no e
  | succ n ih => intro h x1 x3 e; exact zb_Mo_statementCode_75 (k75 := f_Mo_statementCode_L75  n) C hR ih h x1 x3 e
set_option maxHeartbeats 4000000 in
set_option maxRecDepth 100000 in
theorem zg_Mo_statementCode {l : Launch} {D : va_G} {sz0 : Nat} {S : zs_T} {P : ze_T} {d : Nat} {r_Mo_choiceCode : zs_H → Int32 → Int32 → Int32 → (Option zs_H)} (hr_Mo_choiceCode : ∀ (h : zs_H) (x0 : Int32) (x1 : Int32) (x2 : Int32) {rh : zs_H}, r_Mo_choiceCode h x0 x1 x2 = some rh → zk_Sp (zs_G S l D sz0) (ze_E P) km_Mo_choiceCode { frames := 1407 + d, cells := 0, slots := 0, locals := 34961 + 28 * d } [.ref (S.1 68), .int x0, .int x1, .int x2] (zs_W S h) (zd_PV S rh)) {r_Mo_loopCode : zs_H → Int32 → (Option zs_H)} (hr_Mo_loopCode : ∀ (h : zs_H) (x0 : Int32) {rh : zs_H}, r_Mo_loopCode h x0 = some rh → zk_Sp (zs_G S l D sz0) (ze_E P) km_Mo_loopCode { frames := 1407 + d, cells := 0, slots := 0, locals := 34961 + 28 * d } [.ref (S.1 68), .int x0] (zs_W S h) (zd_PV S rh)) (h : zs_H) (x1 : Int32) {rh : zs_H} (e : g_Mo_statementCode r_Mo_choiceCode r_Mo_loopCode h x1 = some rh) : zk_Sp (zs_G S l D sz0) (ze_E P) km_Mo_statementCode { frames := 1407 + (d + 1), cells := 0, slots := 0, locals := 34961 + 28 * (d + 1) } [.ref (S.1 68), .int x1] (zs_W S h) (zd_PV S rh) := by
  refine zk_met ku_Mo_statementCode (Nat.le_of_ble_eq_true rfl) (ze_Em P) ?_
  intro X C hR
  refine zk_lvs (lv' := [(0, .ref (S.1 68)), (1, .int x1)]) [0, 1] rfl ?_
  unfold g_Mo_statementCode at e
  refine zk_iconst (v := 0) C kd_Mo_statementCode_0 (by decide) rfl ?_
  refine zk_istore_n (lv' := [(2, _), (0, _), (1, _)]) C kd_Mo_statementCode_1 rfl (by decide) rfl rfl ?_
  refine zk_aload_n C kd_Mo_statementCode_2 rfl 1 rfl rfl ?_
  refine zs_get (v := .ref (S.1 72)) C 68 15 rfl rfl rfl rfl ki_Mo (by decide) kw1698 kd_Mo_statementCode_3 rfl ?_
  refine zk_iload_n C kd_Mo_statementCode_6 rfl 2 rfl rfl ?_
  obtain ⟨q1, e⟩ := zd_g e
  refine zs_iald C 72 rfl (zd_vp q1) kd_Mo_statementCode_7 rfl ?_
  by_cases b2 : (h.2.1 72 x1.toNatClampNeg) = 12
  · replace e := zd_pos b2 e
    refine zk_tableIn (tgt := 60) C kd_Mo_statementCode_8 (by rw [b2]; decide) (by rw [b2]; decide) (by rw [b2]; rfl) (by decide) ?_
    refine zk_aload_n C kd_Mo_statementCode_60 rfl 1 rfl rfl ?_
    refine zk_iload_n C kd_Mo_statementCode_61 rfl 2 rfl rfl ?_
    obtain ⟨h4, c3, e⟩ := zd_b e
    refine zs_callV (k := 68) (rn := { frames := 1406, cells := 0, slots := 0, locals := 34937 }) (As := [.int x1]) (rest := []) C (zc_Mo_assignmentCode h x1 c3) ku_Mo_assignmentCode kw2540 kv_Mo_assignmentCode rfl (zd_rmO (by decide) (by decide)) ⟨Nat.le_refl _, Nat.le_refl _⟩ rfl rfl rfl (Nat.le_of_ble_eq_true rfl) kd_Mo_statementCode_62 rfl (c1 := 0) (s1 := 0) rfl rfl (fun v w hp => ?_)
    obtain ⟨rfl, rfl⟩ := hp
    refine zk_stk (r' := []) rfl ?_
    refine zk_goto (tgt := 282) C kd_Mo_statementCode_65 (by decide) ?_
    exact zk_vret C hR kd_Mo_statementCode_282 rfl rfl (zd_rV e)
  replace e := zd_neg b2 e
  by_cases b5 : (h.2.1 72 x1.toNatClampNeg) = 13
  · replace e := zd_pos b5 e
    refine zk_tableIn (tgt := 68) C kd_Mo_statementCode_8 (by rw [b5]; decide) (by rw [b5]; decide) (by rw [b5]; rfl) (by decide) ?_
    refine zk_aload_n C kd_Mo_statementCode_68 rfl 1 rfl rfl ?_
    refine zs_get (v := .ref (S.1 76)) C 68 19 rfl rfl rfl rfl ki_Mo (by decide) kw1702 kd_Mo_statementCode_69 rfl ?_
    refine zk_iload_n C kd_Mo_statementCode_72 rfl 2 rfl rfl ?_
    refine zs_iald C 76 rfl (zd_vp q1) kd_Mo_statementCode_73 rfl ?_
    refine zk_istore_n (lv' := [(3, _), (2, _), (0, _), (1, _)]) C kd_Mo_statementCode_74 rfl (by decide) rfl rfl ?_
    refine zk_lvs (lv' := [(0, .ref (S.1 68)), (1, .int x1), (3, .int (h.2.1 76 x1.toNatClampNeg))]) [2, 3, 0] rfl ?_
    exact zl_Mo_statementCode_75 C hR zF h x1 (h.2.1 76 x1.toNatClampNeg) e
  replace e := zd_neg b5 e
  by_cases b6 : (h.2.1 72 x1.toNatClampNeg) = 15
  · replace e := zd_pos b6 e
    refine zk_tableIn (tgt := 169) C kd_Mo_statementCode_8 (by rw [b6]; decide) (by rw [b6]; decide) (by rw [b6]; rfl) (by decide) ?_
    refine zk_aload_n C kd_Mo_statementCode_169 rfl 1 rfl rfl ?_
    refine zk_iload_n C kd_Mo_statementCode_170 rfl 2 rfl rfl ?_
    refine zk_aload_n C kd_Mo_statementCode_171 rfl 1 rfl rfl ?_
    refine zs_get (v := .ref (S.1 76)) C 68 19 rfl rfl rfl rfl ki_Mo (by decide) kw1702 kd_Mo_statementCode_172 rfl ?_
    refine zk_iload_n C kd_Mo_statementCode_175 rfl 2 rfl rfl ?_
    refine zs_iald C 76 rfl (zd_vp q1) kd_Mo_statementCode_176 rfl ?_
    refine zk_iconst (v := (-1)) C kd_Mo_statementCode_177 (by decide) rfl ?_
    obtain ⟨h8, c7, e⟩ := zd_b e
    refine zs_callV (k := 68) (rn := { frames := 1407 + d, cells := 0, slots := 0, locals := 34961 + 28 * d }) (As := [.int x1, .int (h.2.1 76 x1.toNatClampNeg), .int (-1)]) (rest := []) C (hr_Mo_choiceCode h x1 (h.2.1 76 x1.toNatClampNeg) (-1) c7) ku_Mo_choiceCode kw2596 kv_Mo_choiceCode rfl (zd_rmI (by decide)) ⟨Nat.le_refl _, Nat.le_refl _⟩ rfl rfl rfl (Nat.le_of_ble_eq_true rfl) kd_Mo_statementCode_178 rfl (c1 := 0) (s1 := 0) rfl rfl (fun v w hp => ?_)
    obtain ⟨rfl, rfl⟩ := hp
    refine zk_stk (r' := []) rfl ?_
    refine zk_goto (tgt := 282) C kd_Mo_statementCode_181 (by decide) ?_
    exact zk_vret C hR kd_Mo_statementCode_282 rfl rfl (zd_rV e)
  replace e := zd_neg b6 e
  by_cases b9 : (h.2.1 72 x1.toNatClampNeg) = 16
  · replace e := zd_pos b9 e
    refine zk_tableIn (tgt := 184) C kd_Mo_statementCode_8 (by rw [b9]; decide) (by rw [b9]; decide) (by rw [b9]; rfl) (by decide) ?_
    refine zk_aload_n C kd_Mo_statementCode_184 rfl 1 rfl rfl ?_
    refine zk_aload_n C kd_Mo_statementCode_185 rfl 1 rfl rfl ?_
    refine zs_get (v := .ref (S.1 76)) C 68 19 rfl rfl rfl rfl ki_Mo (by decide) kw1702 kd_Mo_statementCode_186 rfl ?_
    refine zk_iload_n C kd_Mo_statementCode_189 rfl 2 rfl rfl ?_
    refine zs_iald C 76 rfl (zd_vp q1) kd_Mo_statementCode_190 rfl ?_
    obtain ⟨h11, c10, e⟩ := zd_b e
    refine zs_callV (k := 68) (rn := { frames := 805 + 600, cells := 0, slots := 0, locals := 19314 + 26 * 600 }) (As := [.int (h.2.1 76 x1.toNatClampNeg)]) (rest := []) C (zc_Mo_expressionCode h (h.2.1 76 x1.toNatClampNeg) c10) ku_Mo_expressionCode kw2544 kv_Mo_expressionCode rfl (zd_rmO (by decide) (by decide)) ⟨Nat.le_refl _, Nat.le_refl _⟩ rfl rfl rfl (Nat.le_of_ble_eq_true rfl) kd_Mo_statementCode_191 rfl (c1 := 0) (s1 := 0) rfl rfl (fun v w hp => ?_)
    obtain ⟨rfl, rfl⟩ := hp
    refine zk_stk (r' := []) rfl ?_
    refine zk_aload_n C kd_Mo_statementCode_194 rfl 1 rfl rfl ?_
    refine zk_iconst (v := 2) C kd_Mo_statementCode_195 (by decide) rfl ?_
    refine zk_aload_n C kd_Mo_statementCode_196 rfl 1 rfl rfl ?_
    refine zs_get (v := .ref (S.1 101)) C 68 52 rfl rfl rfl rfl ki_Mo (by decide) kw1735 kd_Mo_statementCode_197 rfl ?_
    refine zk_iload_n C kd_Mo_statementCode_200 rfl 2 rfl rfl ?_
    obtain ⟨q12, e⟩ := zd_g e
    refine zs_iald C 101 rfl (zd_vp q12) kd_Mo_statementCode_201 rfl ?_
    refine zk_iconst (v := 0) C kd_Mo_statementCode_202 (by decide) rfl ?_
    refine zk_iconst (v := 0) C kd_Mo_statementCode_203 (by decide) rfl ?_
    obtain ⟨v14, h15, c13, e⟩ := zd_Be e
    refine zs_callV (k := 68) (rn := { frames := 0, cells := 0, slots := 0, locals := 0 }) (As := [.int 2, .int (h11.2.1 101 x1.toNatClampNeg), .int 0, .int 0]) (rest := []) C (zc_Mo_emit h11 2 (h11.2.1 101 x1.toNatClampNeg) 0 0 c13) ku_Mo_emit kw2524 kv_Mo_emit rfl (zd_rmO (by decide) (by decide)) ⟨Nat.le_refl _, Nat.le_refl _⟩ rfl rfl rfl (Nat.le_of_ble_eq_true rfl) kd_Mo_statementCode_204 rfl (c1 := 0) (s1 := 0) rfl rfl (fun v w hp => ?_)
    obtain ⟨rfl, rfl⟩ := hp
    refine zk_stk (r' := [.int v14]) rfl ?_
    refine zk_istore_n (lv' := [(2, _), (0, _), (1, _)]) C kd_Mo_statementCode_207 rfl (by decide) rfl rfl ?_
    refine zk_aload_n C kd_Mo_statementCode_208 rfl 1 rfl rfl ?_
    refine zk_iload_n C kd_Mo_statementCode_209 rfl 2 rfl rfl ?_
    refine zk_aload_n C kd_Mo_statementCode_210 rfl 1 rfl rfl ?_
    refine zs_get (v := .ref (S.1 78)) C 68 21 rfl rfl rfl rfl ki_Mo (by decide) kw1704 kd_Mo_statementCode_211 rfl ?_
    refine zk_aload_n C kd_Mo_statementCode_214 rfl 1 rfl rfl ?_
    refine zs_get (v := .ref (S.1 76)) C 68 19 rfl rfl rfl rfl ki_Mo (by decide) kw1702 kd_Mo_statementCode_215 rfl ?_
    refine zk_iload_n C kd_Mo_statementCode_218 rfl 2 rfl rfl ?_
    obtain ⟨q16, e⟩ := zd_g e
    refine zs_iald C 76 rfl (zd_vp q16) kd_Mo_statementCode_219 rfl ?_
    obtain ⟨q17, e⟩ := zd_g e
    refine zs_iald C 78 rfl (zd_vp q17) kd_Mo_statementCode_220 rfl ?_
    refine zk_aload_n C kd_Mo_statementCode_221 rfl 1 rfl rfl ?_
    refine zs_get (v := .ref (S.1 101)) C 68 52 rfl rfl rfl rfl ki_Mo (by decide) kw1735 kd_Mo_statementCode_222 rfl ?_
    refine zk_iload_n C kd_Mo_statementCode_225 rfl 2 rfl rfl ?_
    refine zs_iald C 101 rfl (zd_vp q16) kd_Mo_statementCode_226 rfl ?_
    obtain ⟨h19, c18, e⟩ := zd_b e
    refine zs_callV (k := 68) (rn := { frames := 1407 + d, cells := 0, slots := 0, locals := 34961 + 28 * d }) (As := [.int x1, .int (h15.2.1 78 (h15.2.1 76 x1.toNatClampNeg).toNatClampNeg), .int (h15.2.1 101 x1.toNatClampNeg)]) (rest := []) C (hr_Mo_choiceCode h15 x1 (h15.2.1 78 (h15.2.1 76 x1.toNatClampNeg).toNatClampNeg) (h15.2.1 101 x1.toNatClampNeg) c18) ku_Mo_choiceCode kw2596 kv_Mo_choiceCode rfl (zd_rmI (by decide)) ⟨Nat.le_refl _, Nat.le_refl _⟩ rfl rfl rfl (Nat.le_of_ble_eq_true rfl) kd_Mo_statementCode_227 rfl (c1 := 0) (s1 := 0) rfl rfl (fun v w hp => ?_)
    obtain ⟨rfl, rfl⟩ := hp
    refine zk_stk (r' := []) rfl ?_
    refine zk_goto (tgt := 282) C kd_Mo_statementCode_230 (by decide) ?_
    exact zk_vret C hR kd_Mo_statementCode_282 rfl rfl (zd_rV e)
  replace e := zd_neg b9 e
  by_cases b20 : (h.2.1 72 x1.toNatClampNeg) = 19
  · replace e := zd_pos b20 e
    refine zk_tableIn (tgt := 233) C kd_Mo_statementCode_8 (by rw [b20]; decide) (by rw [b20]; decide) (by rw [b20]; rfl) (by decide) ?_
    refine zk_aload_n C kd_Mo_statementCode_233 rfl 1 rfl rfl ?_
    refine zk_iload_n C kd_Mo_statementCode_234 rfl 2 rfl rfl ?_
    obtain ⟨h22, c21, e⟩ := zd_b e
    refine zs_callV (k := 68) (rn := { frames := 1407 + d, cells := 0, slots := 0, locals := 34961 + 28 * d }) (As := [.int x1]) (rest := []) C (hr_Mo_loopCode h x1 c21) ku_Mo_loopCode kw2612 kv_Mo_loopCode rfl (zd_rmI (by decide)) ⟨Nat.le_refl _, Nat.le_refl _⟩ rfl rfl rfl (Nat.le_of_ble_eq_true rfl) kd_Mo_statementCode_235 rfl (c1 := 0) (s1 := 0) rfl rfl (fun v w hp => ?_)
    obtain ⟨rfl, rfl⟩ := hp
    refine zk_stk (r' := []) rfl ?_
    refine zk_goto (tgt := 282) C kd_Mo_statementCode_238 (by decide) ?_
    exact zk_vret C hR kd_Mo_statementCode_282 rfl rfl (zd_rV e)
  replace e := zd_neg b20 e
  by_cases b23 : (h.2.1 72 x1.toNatClampNeg) = 20
  · replace e := zd_pos b23 e
    refine zk_tableIn (tgt := 241) C kd_Mo_statementCode_8 (by rw [b23]; decide) (by rw [b23]; decide) (by rw [b23]; rfl) (by decide) ?_
    refine zk_aload_n C kd_Mo_statementCode_241 rfl 1 rfl rfl ?_
    refine zs_get (v := .ref (S.1 111)) C 68 69 rfl rfl rfl rfl ki_Mo (by decide) kw1752 kd_Mo_statementCode_242 rfl ?_
    refine zk_aload_n C kd_Mo_statementCode_245 rfl 1 rfl rfl ?_
    refine zs_get (v := .int (h.1 68 68)) C 68 68 rfl rfl rfl rfl ki_Mo (by decide) kw1751 kd_Mo_statementCode_246 rfl ?_
    refine zk_aload_n C kd_Mo_statementCode_249 rfl 1 rfl rfl ?_
    refine zk_bipush (v := 10) C kd_Mo_statementCode_250 (by decide) rfl ?_
    refine zk_iconst (v := 0) C kd_Mo_statementCode_252 (by decide) rfl ?_
    refine zk_iconst (v := 0) C kd_Mo_statementCode_253 (by decide) rfl ?_
    refine zk_iconst (v := 0) C kd_Mo_statementCode_254 (by decide) rfl ?_
    obtain ⟨v25, h26, c24, e⟩ := zd_Be e
    refine zs_callV (k := 68) (rn := { frames := 0, cells := 0, slots := 0, locals := 0 }) (As := [.int 10, .int 0, .int 0, .int 0]) (rest := [.int (h.1 68 68), .ref (S.1 111)]) C (zc_Mo_emit h 10 0 0 0 c24) ku_Mo_emit kw2524 kv_Mo_emit rfl (zd_rmO (by decide) (by decide)) ⟨Nat.le_refl _, Nat.le_refl _⟩ rfl rfl rfl (Nat.le_of_ble_eq_true rfl) kd_Mo_statementCode_255 rfl (c1 := 0) (s1 := 0) rfl rfl (fun v w hp => ?_)
    obtain ⟨rfl, rfl⟩ := hp
    refine zk_stk (r' := [.int v25, .int (h.1 68 68), .ref (S.1 111)]) rfl ?_
    obtain ⟨q27, e⟩ := zd_g e
    refine zs_iast C 111 rfl (zd_vp q27) kd_Mo_statementCode_258 rfl ?_
    refine zk_aload_n C kd_Mo_statementCode_259 rfl 1 rfl rfl ?_
    refine zk_dup C kd_Mo_statementCode_260 rfl rfl ?_
    refine zs_get (v := .int (h26.1 68 68)) C 68 68 rfl rfl rfl rfl ki_Mo (by decide) kw1751 kd_Mo_statementCode_261 rfl ?_
    refine zk_iconst (v := 1) C kd_Mo_statementCode_264 (by decide) rfl ?_
    refine zk_iadd C kd_Mo_statementCode_265 rfl ?_
    refine zs_put (ty := .int) C 68 68 ((h26.1 68 68) + 1) rfl rfl rfl rfl ki_Mo ky_Mo ko_Mo kn_Mo (by decide) kw1751 rfl rfl rfl rfl (by decide) kd_Mo_statementCode_266 rfl ?_
    refine zk_goto (tgt := 282) C kd_Mo_statementCode_269 (by decide) ?_
    exact zk_vret C hR kd_Mo_statementCode_282 rfl rfl (zd_rV e)
  replace e := zd_neg b23 e
  refine zd_tableD (tgt := 272) C kd_Mo_statementCode_8 (by decide) [12, 13, 15, 16, 19, 20] (by decide +kernel) (by have n0 := lv_neT b2 (a := 12) (by decide); have n1 := lv_neT b5 (a := 13) (by decide); have n2 := lv_neT b6 (a := 15) (by decide); have n3 := lv_neT b9 (a := 16) (by decide); have n4 := lv_neT b20 (a := 19) (by decide); have n5 := lv_neT b23 (a := 20) (by decide); simp only [List.mem_cons, List.not_mem_nil, or_false, not_or]; exact ⟨n0, n1, n2, n3, n4, n5⟩) ?_
  refine zk_aload_n C kd_Mo_statementCode_272 rfl 1 rfl rfl ?_
  refine zk_bipush (v := 18) C kd_Mo_statementCode_273 (by decide) rfl ?_
  refine zk_iconst (v := 0) C kd_Mo_statementCode_275 (by decide) rfl ?_
  refine zk_iconst (v := 0) C kd_Mo_statementCode_276 (by decide) rfl ?_
  refine zk_iconst (v := 0) C kd_Mo_statementCode_277 (by decide) rfl ?_
  obtain ⟨v29, h30, c28, e⟩ := zd_Be e
  refine zs_callV (k := 68) (rn := { frames := 0, cells := 0, slots := 0, locals := 0 }) (As := [.int 18, .int 0, .int 0, .int 0]) (rest := []) C (zc_Mo_emit h 18 0 0 0 c28) ku_Mo_emit kw2524 kv_Mo_emit rfl (zd_rmO (by decide) (by decide)) ⟨Nat.le_refl _, Nat.le_refl _⟩ rfl rfl rfl (Nat.le_of_ble_eq_true rfl) kd_Mo_statementCode_278 rfl (c1 := 0) (s1 := 0) rfl rfl (fun v w hp => ?_)
  obtain ⟨rfl, rfl⟩ := hp
  refine zk_stk (r' := [.int v29]) rfl ?_
  refine zk_istore_n (lv' := [(2, _), (0, _), (1, _)]) C kd_Mo_statementCode_281 rfl (by decide) rfl rfl ?_
  exact zk_vret C hR kd_Mo_statementCode_282 rfl rfl (zd_rV e)
theorem zs_Mo_bodyCode {l : Launch} {D : va_G} {sz0 : Nat} {S : zs_T} {P : ze_T} (d : Nat) : (∀ (h : zs_H) (x0 : Int32) {rh : zs_H}, f_Mo_bodyCode d h x0 = some rh → zk_Sp (zs_G S l D sz0) (ze_E P) km_Mo_bodyCode { frames := 1407 + d, cells := 0, slots := 0, locals := 34961 + 28 * d } [.ref (S.1 68), .int x0] (zs_W S h) (zd_PV S rh)) ∧ (∀ (h : zs_H) (x0 : Int32) (x1 : Int32) (x2 : Int32) {rh : zs_H}, f_Mo_choiceCode d h x0 x1 x2 = some rh → zk_Sp (zs_G S l D sz0) (ze_E P) km_Mo_choiceCode { frames := 1407 + d, cells := 0, slots := 0, locals := 34961 + 28 * d } [.ref (S.1 68), .int x0, .int x1, .int x2] (zs_W S h) (zd_PV S rh)) ∧ (∀ (h : zs_H) (x0 : Int32) {rh : zs_H}, f_Mo_loopCode d h x0 = some rh → zk_Sp (zs_G S l D sz0) (ze_E P) km_Mo_loopCode { frames := 1407 + d, cells := 0, slots := 0, locals := 34961 + 28 * d } [.ref (S.1 68), .int x0] (zs_W S h) (zd_PV S rh)) ∧ (∀ (h : zs_H) (x0 : Int32) {rh : zs_H}, f_Mo_statementCode d h x0 = some rh → zk_Sp (zs_G S l D sz0) (ze_E P) km_Mo_statementCode { frames := 1407 + d, cells := 0, slots := 0, locals := 34961 + 28 * d } [.ref (S.1 68), .int x0] (zs_W S h) (zd_PV S rh)) := by
  induction d with
  | zero => exact ⟨(fun h x0 _ e => zd_no e), (fun h x0 x1 x2 _ e => zd_no e), (fun h x0 _ e => zd_no e), (fun h x0 _ e => zd_no e)⟩
  | succ d ih =>
    obtain ⟨q0, q1, q2, q3⟩ := ih
    exact ⟨(fun h x0 _ e => zg_Mo_bodyCode (r_Mo_statementCode := f_Mo_statementCode d) q3 h x0 e), (fun h x0 x1 x2 _ e => zg_Mo_choiceCode (r_Mo_bodyCode := f_Mo_bodyCode d) q0 h x0 x1 x2 e), (fun h x0 _ e => zg_Mo_loopCode (r_Mo_bodyCode := f_Mo_bodyCode d) q0 h x0 e), (fun h x0 _ e => zg_Mo_statementCode (r_Mo_choiceCode := f_Mo_choiceCode d) q1 (r_Mo_loopCode := f_Mo_loopCode d) q2 h x0 e)⟩
theorem zc_Mo_bodyCode {l : Launch} {D : va_G} {sz0 : Nat} {S : zs_T} {P : ze_T} (h : zs_H) (x0 : Int32) {rh : zs_H} (e : f_Mo_bodyCode 400 h x0 = some rh) : zk_Sp (zs_G S l D sz0) (ze_E P) km_Mo_bodyCode { frames := 1407 + 400, cells := 0, slots := 0, locals := 34961 + 28 * 400 } [.ref (S.1 68), .int x0] (zs_W S h) (zd_PV S rh) := (zs_Mo_bodyCode 400).1 h x0 e
theorem zc_Mo_choiceCode {l : Launch} {D : va_G} {sz0 : Nat} {S : zs_T} {P : ze_T} (h : zs_H) (x0 : Int32) (x1 : Int32) (x2 : Int32) {rh : zs_H} (e : f_Mo_choiceCode 400 h x0 x1 x2 = some rh) : zk_Sp (zs_G S l D sz0) (ze_E P) km_Mo_choiceCode { frames := 1407 + 400, cells := 0, slots := 0, locals := 34961 + 28 * 400 } [.ref (S.1 68), .int x0, .int x1, .int x2] (zs_W S h) (zd_PV S rh) := (zs_Mo_bodyCode 400).2.1 h x0 x1 x2 e
theorem zc_Mo_loopCode {l : Launch} {D : va_G} {sz0 : Nat} {S : zs_T} {P : ze_T} (h : zs_H) (x0 : Int32) {rh : zs_H} (e : f_Mo_loopCode 400 h x0 = some rh) : zk_Sp (zs_G S l D sz0) (ze_E P) km_Mo_loopCode { frames := 1407 + 400, cells := 0, slots := 0, locals := 34961 + 28 * 400 } [.ref (S.1 68), .int x0] (zs_W S h) (zd_PV S rh) := (zs_Mo_bodyCode 400).2.2.1 h x0 e
theorem zc_Mo_statementCode {l : Launch} {D : va_G} {sz0 : Nat} {S : zs_T} {P : ze_T} (h : zs_H) (x0 : Int32) {rh : zs_H} (e : f_Mo_statementCode 400 h x0 = some rh) : zk_Sp (zs_G S l D sz0) (ze_E P) km_Mo_statementCode { frames := 1407 + 400, cells := 0, slots := 0, locals := 34961 + 28 * 400 } [.ref (S.1 68), .int x0] (zs_W S h) (zd_PV S rh) := (zs_Mo_bodyCode 400).2.2.2 h x0 e
set_option maxHeartbeats 4000000 in
set_option maxRecDepth 100000 in
theorem zb_Mo_rowOf_10 {X : zkj_T} {S : zs_T} {P : ze_T} {l : Launch} {D : va_G} {sz0 : Nat} {rv : Int32} {h : zs_H} (C : zk_C X km_Mo_rowOf (zs_G S l D sz0) { frames := 0, cells := 0, slots := 0, locals := 0 } (ze_E P)) (hR : zkj_R X (zd_PI S rv h) (some .int)) {k10 : Int32 → Int32 → Int32 → (Option Int32)} (hk10 : ∀ (x2 : Int32) (x3 : Int32) (x4 : Int32), k10 x2 x3 x4 = some rv → zk_Ab X (zs_W S h) 0 0 10 [(0, .ref (S.1 68)), (2, .int x2), (3, .int x3), (4, .int x4)] []) (x2 : Int32) (x3 : Int32) (x4 : Int32) (e : f_Mo_rowOf_10 h k10 x2 x3 x4 = some rv) : zk_Ab X (zs_W S h) 0 0 10 [(0, .ref (S.1 68)), (2, .int x2), (3, .int x3), (4, .int x4)] [] := by
  unfold f_Mo_rowOf_10 at e
  refine zk_iload C kd_Mo_rowOf_10 3 rfl rfl ?_
  refine zk_iload_n C kd_Mo_rowOf_12 rfl 1 rfl rfl ?_
  refine zk_icmp_ge (tgt := 33) C kd_Mo_rowOf_13 (by decide) rfl (fun b1 => ?_) (fun b1 => ?_)
  · replace e := zd_pos b1 e
    refine zk_iload_n C kd_Mo_rowOf_33 rfl 2 rfl rfl ?_
    exact zk_iret C hR kd_Mo_rowOf_34 rfl rfl (zd_rIO e)
  · replace e := zd_neg b1 e
    refine zk_iload_n C kd_Mo_rowOf_16 rfl 2 rfl rfl ?_
    refine zk_if_lt (tgt := 33) C kd_Mo_rowOf_17 (by decide) rfl (fun b2 => ?_) (fun b2 => ?_)
    · replace e := zd_pos b2 e
      refine zk_iload_n C kd_Mo_rowOf_33 rfl 2 rfl rfl ?_
      exact zk_iret C hR kd_Mo_rowOf_34 rfl rfl (zd_rIO e)
    · replace e := zd_neg b2 e
      refine zk_aload_n C kd_Mo_rowOf_20 rfl 0 rfl rfl ?_
      refine zs_get (v := .ref (S.1 78)) C 68 21 rfl rfl rfl rfl ki_Mo (by decide) kw1704 kd_Mo_rowOf_21 rfl ?_
      refine zk_iload_n C kd_Mo_rowOf_24 rfl 2 rfl rfl ?_
      obtain ⟨q3, e⟩ := zd_g e
      refine zs_iald C 78 rfl (zd_vp q3) kd_Mo_rowOf_25 rfl ?_
      refine zk_istore_n (lv' := [(3, _), (0, _), (2, _), (4, _)]) C kd_Mo_rowOf_26 rfl (by decide) rfl rfl ?_
      refine zk_iinc (v := (x4 + 1)) (lv' := [(4, _), (3, _), (0, _), (2, _)]) C kd_Mo_rowOf_27 3 rfl rfl (by decide) rfl rfl ?_
      refine zk_goto (tgt := 10) C kd_Mo_rowOf_30 (by decide) ?_
      refine zk_lvs (lv' := [(0, .ref (S.1 68)), (2, .int x2), (3, .int (h.2.1 78 x3.toNatClampNeg)), (4, .int (x4 + 1))]) [2, 3, 1, 0] rfl ?_
      exact hk10 x2 (h.2.1 78 x3.toNatClampNeg) (x4 + 1) e
theorem zl_Mo_rowOf_10 {X : zkj_T} {S : zs_T} {P : ze_T} {l : Launch} {D : va_G} {sz0 : Nat} {rv : Int32} {h : zs_H} (C : zk_C X km_Mo_rowOf (zs_G S l D sz0) { frames := 0, cells := 0, slots := 0, locals := 0 } (ze_E P)) (hR : zkj_R X (zd_PI S rv h) (some .int)) (n : Nat) : ∀ (x2 : Int32) (x3 : Int32) (x4 : Int32), f_Mo_rowOf_L10 h n x2 x3 x4 = some rv → zk_Ab X (zs_W S h) 0 0 10 [(0, .ref (S.1 68)), (2, .int x2), (3, .int x3), (4, .int x4)] [] := by
  induction n with
  | zero => intro x2 x3 x4 e; exact zd_no e
  | succ n ih => intro x2 x3 x4 e; exact zb_Mo_rowOf_10 (k10 := f_Mo_rowOf_L10 h n) C hR ih x2 x3 x4 e
set_option maxHeartbeats 4000000 in
set_option maxRecDepth 100000 in
theorem zc_Mo_rowOf {l : Launch} {D : va_G} {sz0 : Nat} {S : zs_T} {P : ze_T} (h : zs_H) (x1 : Int32) (x2 : Int32) {rv : Int32} (e : f_Mo_rowOf h x1 x2 = some rv) : zk_Sp (zs_G S l D sz0) (ze_E P) km_Mo_rowOf { frames := 0, cells := 0, slots := 0, locals := 0 } [.ref (S.1 68), .int x1, .int x2] (zs_W S h) (zd_PI S rv h) := by
  refine zk_met ku_Mo_rowOf (Nat.le_of_ble_eq_true rfl) (ze_Em P) ?_
  intro X C hR
  refine zk_lvs (lv' := [(0, .ref (S.1 68)), (1, .int x1), (2, .int x2)]) [0, 1, 2] rfl ?_
  unfold f_Mo_rowOf at e
  refine zk_aload_n C kd_Mo_rowOf_0 rfl 0 rfl rfl ?_
  refine zs_get (v := .ref (S.1 76)) C 68 19 rfl rfl rfl rfl ki_Mo (by decide) kw1702 kd_Mo_rowOf_1 rfl ?_
  refine zk_iload_n C kd_Mo_rowOf_4 rfl 1 rfl rfl ?_
  obtain ⟨q1, e⟩ := zd_g e
  refine zs_iald C 76 rfl (zd_vp q1) kd_Mo_rowOf_5 rfl ?_
  refine zk_istore_n (lv' := [(3, _), (0, _), (1, _), (2, _)]) C kd_Mo_rowOf_6 rfl (by decide) rfl rfl ?_
  refine zk_iconst (v := 0) C kd_Mo_rowOf_7 (by decide) rfl ?_
  refine zk_istore (lv' := [(4, _), (3, _), (0, _), (1, _), (2, _)]) C kd_Mo_rowOf_8 (by decide) rfl rfl ?_
  refine zk_lvs (lv' := [(0, .ref (S.1 68)), (2, .int x2), (3, .int (h.2.1 76 x1.toNatClampNeg)), (4, .int 0)]) [2, 4, 1, 0] rfl ?_
  exact zl_Mo_rowOf_10 C hR zF x2 (h.2.1 76 x1.toNatClampNeg) 0 e
set_option maxHeartbeats 4000000 in
set_option maxRecDepth 100000 in
theorem zb_Mo_cellOf_44 {X : zkj_T} {S : zs_T} {P : ze_T} {l : Launch} {D : va_G} {sz0 : Nat} {rv : Int32} {h : zs_H} (C : zk_C X km_Mo_cellOf (zs_G S l D sz0) { frames := 0, cells := 0, slots := 0, locals := 0 } (ze_E P)) (hR : zkj_R X (zd_PI S rv h) (some .int)) {k10 : Int32 → Int32 → (Option Int32)} (hk10 : ∀ (x3 : Int32) (x4 : Int32), k10 x3 x4 = some rv → zk_Ab X (zs_W S h) 0 0 10 [(0, .ref (S.1 68)), (3, .int x3), (4, .int x4)] []) (x4 : Int32) (y0 : Int32) (y1 : Int32) (e : f_Mo_cellOf_44 h k10 x4 y0 y1 = some rv) : zk_Ab X (zs_W S h) 0 0 44 [(0, .ref (S.1 68)), (4, .int x4)] [.int y0, .int y1] := by
  unfold f_Mo_cellOf_44 at e
  refine zk_isub C kd_Mo_cellOf_44 rfl ?_
  refine zk_istore_n (lv' := [(3, _), (0, _), (4, _)]) C kd_Mo_cellOf_45 rfl (by decide) rfl rfl ?_
  refine zk_aload_n C kd_Mo_cellOf_46 rfl 1 rfl rfl ?_
  refine zs_get (v := .ref (S.1 78)) C 68 21 rfl rfl rfl rfl ki_Mo (by decide) kw1704 kd_Mo_cellOf_47 rfl ?_
  refine zk_iload C kd_Mo_cellOf_50 2 rfl rfl ?_
  obtain ⟨q1, e⟩ := zd_g e
  refine zs_iald C 78 rfl (zd_vp q1) kd_Mo_cellOf_52 rfl ?_
  refine zk_istore (lv' := [(4, _), (3, _), (0, _)]) C kd_Mo_cellOf_53 (by decide) rfl rfl ?_
  refine zk_goto (tgt := 10) C kd_Mo_cellOf_55 (by decide) ?_
  refine zk_lvs (lv' := [(0, .ref (S.1 68)), (3, .int (y1 - y0)), (4, .int (h.2.1 78 x4.toNatClampNeg))]) [2, 1, 0] rfl ?_
  exact hk10 (y1 - y0) (h.2.1 78 x4.toNatClampNeg) e
set_option maxHeartbeats 4000000 in
set_option maxRecDepth 100000 in
theorem zb_Mo_cellOf_26 {X : zkj_T} {S : zs_T} {P : ze_T} {l : Launch} {D : va_G} {sz0 : Nat} {rv : Int32} {h : zs_H} (C : zk_C X km_Mo_cellOf (zs_G S l D sz0) { frames := 0, cells := 0, slots := 0, locals := 0 } (ze_E P)) (hR : zkj_R X (zd_PI S rv h) (some .int)) {k10 : Int32 → Int32 → (Option Int32)} (hk10 : ∀ (x3 : Int32) (x4 : Int32), k10 x3 x4 = some rv → zk_Ab X (zs_W S h) 0 0 10 [(0, .ref (S.1 68)), (3, .int x3), (4, .int x4)] []) (x3 : Int32) (x4 : Int32) (e : f_Mo_cellOf_26 h k10 x3 x4 = some rv) : zk_Ab X (zs_W S h) 0 0 26 [(0, .ref (S.1 68)), (3, .int x3), (4, .int x4)] [] := by
  unfold f_Mo_cellOf_26 at e
  refine zk_iload_n C kd_Mo_cellOf_26 rfl 1 rfl rfl ?_
  refine zk_aload_n C kd_Mo_cellOf_27 rfl 0 rfl rfl ?_
  refine zs_get (v := .ref (S.1 72)) C 68 15 rfl rfl rfl rfl ki_Mo (by decide) kw1698 kd_Mo_cellOf_28 rfl ?_
  refine zk_iload C kd_Mo_cellOf_31 2 rfl rfl ?_
  obtain ⟨q1, e⟩ := zd_g e
  refine zs_iald C 72 rfl (zd_vp q1) kd_Mo_cellOf_33 rfl ?_
  refine zk_bipush (v := 29) C kd_Mo_cellOf_34 (by decide) rfl ?_
  refine zk_icmp_ne (tgt := 43) C kd_Mo_cellOf_36 (by decide) rfl (fun b2 => ?_) (fun b2 => ?_)
  · replace e := zd_neg b2 e
    refine zk_iconst (v := 1) C kd_Mo_cellOf_43 (by decide) rfl ?_
    refine zk_lvs (lv' := [(0, .ref (S.1 68)), (4, .int x4)]) [0, 2] rfl ?_
    exact zb_Mo_cellOf_44 C hR hk10 x4 1 x3 e
  · replace e := zd_pos b2 e
    refine zk_iconst (v := 0) C kd_Mo_cellOf_39 (by decide) rfl ?_
    refine zk_goto (tgt := 44) C kd_Mo_cellOf_40 (by decide) ?_
    refine zk_lvs (lv' := [(0, .ref (S.1 68)), (4, .int x4)]) [0, 2] rfl ?_
    exact zb_Mo_cellOf_44 C hR hk10 x4 0 x3 e
set_option maxHeartbeats 4000000 in
set_option maxRecDepth 100000 in
theorem zb_Mo_cellOf_10 {X : zkj_T} {S : zs_T} {P : ze_T} {l : Launch} {D : va_G} {sz0 : Nat} {rv : Int32} {h : zs_H} (C : zk_C X km_Mo_cellOf (zs_G S l D sz0) { frames := 0, cells := 0, slots := 0, locals := 0 } (ze_E P)) (hR : zkj_R X (zd_PI S rv h) (some .int)) {k10 : Int32 → Int32 → (Option Int32)} (hk10 : ∀ (x3 : Int32) (x4 : Int32), k10 x3 x4 = some rv → zk_Ab X (zs_W S h) 0 0 10 [(0, .ref (S.1 68)), (3, .int x3), (4, .int x4)] []) (x3 : Int32) (x4 : Int32) (e : f_Mo_cellOf_10 h k10 x3 x4 = some rv) : zk_Ab X (zs_W S h) 0 0 10 [(0, .ref (S.1 68)), (3, .int x3), (4, .int x4)] [] := by
  unfold f_Mo_cellOf_10 at e
  refine zk_aload_n C kd_Mo_cellOf_10 rfl 0 rfl rfl ?_
  refine zs_get (v := .ref (S.1 72)) C 68 15 rfl rfl rfl rfl ki_Mo (by decide) kw1698 kd_Mo_cellOf_11 rfl ?_
  refine zk_iload C kd_Mo_cellOf_14 2 rfl rfl ?_
  obtain ⟨q1, e⟩ := zd_g e
  refine zs_iald C 72 rfl (zd_vp q1) kd_Mo_cellOf_16 rfl ?_
  refine zk_bipush (v := 29) C kd_Mo_cellOf_17 (by decide) rfl ?_
  refine zk_icmp_eq (tgt := 26) C kd_Mo_cellOf_19 (by decide) rfl (fun b2 => ?_) (fun b2 => ?_)
  · replace e := zd_pos b2 e
    refine zk_lvs (lv' := [(0, .ref (S.1 68)), (3, .int x3), (4, .int x4)]) [0, 1, 2] rfl ?_
    exact zb_Mo_cellOf_26 C hR hk10 x3 x4 e
  · replace e := zd_neg b2 e
    refine zk_iload_n C kd_Mo_cellOf_22 rfl 1 rfl rfl ?_
    refine zk_if_le (tgt := 58) C kd_Mo_cellOf_23 (by decide) rfl (fun b3 => ?_) (fun b3 => ?_)
    · replace e := zd_pos b3 e
      refine zk_iload C kd_Mo_cellOf_58 2 rfl rfl ?_
      exact zk_iret C hR kd_Mo_cellOf_60 rfl rfl (zd_rIO e)
    · replace e := zd_neg b3 e
      refine zk_lvs (lv' := [(0, .ref (S.1 68)), (3, .int x3), (4, .int x4)]) [0, 1, 2] rfl ?_
      exact zb_Mo_cellOf_26 C hR hk10 x3 x4 e
theorem zl_Mo_cellOf_10 {X : zkj_T} {S : zs_T} {P : ze_T} {l : Launch} {D : va_G} {sz0 : Nat} {rv : Int32} {h : zs_H} (C : zk_C X km_Mo_cellOf (zs_G S l D sz0) { frames := 0, cells := 0, slots := 0, locals := 0 } (ze_E P)) (hR : zkj_R X (zd_PI S rv h) (some .int)) (n : Nat) : ∀ (x3 : Int32) (x4 : Int32), f_Mo_cellOf_L10 h n x3 x4 = some rv → zk_Ab X (zs_W S h) 0 0 10 [(0, .ref (S.1 68)), (3, .int x3), (4, .int x4)] [] := by
  induction n with
  | zero => intro x3 x4 e; exact zd_no e
  | succ n ih => intro x3 x4 e; exact zb_Mo_cellOf_10 (k10 := f_Mo_cellOf_L10 h n) C hR ih x3 x4 e
set_option maxHeartbeats 4000000 in
set_option maxRecDepth 100000 in
theorem zc_Mo_cellOf {l : Launch} {D : va_G} {sz0 : Nat} {S : zs_T} {P : ze_T} (h : zs_H) (x1 : Int32) (x2 : Int32) {rv : Int32} (e : f_Mo_cellOf h x1 x2 = some rv) : zk_Sp (zs_G S l D sz0) (ze_E P) km_Mo_cellOf { frames := 0, cells := 0, slots := 0, locals := 0 } [.ref (S.1 68), .int x1, .int x2] (zs_W S h) (zd_PI S rv h) := by
  refine zk_met ku_Mo_cellOf (Nat.le_of_ble_eq_true rfl) (ze_Em P) ?_
  intro X C hR
  refine zk_lvs (lv' := [(0, .ref (S.1 68)), (1, .int x1), (2, .int x2)]) [0, 1, 2] rfl ?_
  unfold f_Mo_cellOf at e
  refine zk_iload_n C kd_Mo_cellOf_0 rfl 2 rfl rfl ?_
  refine zk_istore_n (lv' := [(3, _), (0, _), (1, _), (2, _)]) C kd_Mo_cellOf_1 rfl (by decide) rfl rfl ?_
  refine zk_aload_n C kd_Mo_cellOf_2 rfl 1 rfl rfl ?_
  refine zs_get (v := .ref (S.1 76)) C 68 19 rfl rfl rfl rfl ki_Mo (by decide) kw1702 kd_Mo_cellOf_3 rfl ?_
  refine zk_iload_n C kd_Mo_cellOf_6 rfl 2 rfl rfl ?_
  obtain ⟨q1, e⟩ := zd_g e
  refine zs_iald C 76 rfl (zd_vp q1) kd_Mo_cellOf_7 rfl ?_
  refine zk_istore (lv' := [(4, _), (3, _), (0, _), (1, _), (2, _)]) C kd_Mo_cellOf_8 (by decide) rfl rfl ?_
  refine zk_lvs (lv' := [(0, .ref (S.1 68)), (3, .int x2), (4, .int (h.2.1 76 x1.toNatClampNeg))]) [2, 1, 0] rfl ?_
  exact zl_Mo_cellOf_10 C hR zF x2 (h.2.1 76 x1.toNatClampNeg) e
set_option maxHeartbeats 4000000 in
set_option maxRecDepth 100000 in
theorem zb_Mo_isLinked_52 {X : zkj_T} {S : zs_T} {P : ze_T} {l : Launch} {D : va_G} {sz0 : Nat} {rv : Int32} {h : zs_H} (C : zk_C X km_Mo_isLinked (zs_G S l D sz0) { frames := 0, cells := 0, slots := 0, locals := 0 } (ze_E P)) (hR : zkj_R X (zd_PZ S rv h) (some .boolean)) {k10 : Int32 → Int32 → Int32 → (Option Int32)} (hk10 : ∀ (x2 : Int32) (x3 : Int32) (x4 : Int32), k10 x2 x3 x4 = some rv → zk_Ab X (zs_W S h) 0 0 10 [(0, .ref (S.1 68)), (2, .int x2), (3, .int x3), (4, .int x4)] []) (x2 : Int32) (x4 : Int32) (y0 : Int32) (y1 : Int32) (e : f_Mo_isLinked_52 h k10 x2 x4 y0 y1 = some rv) : zk_Ab X (zs_W S h) 0 0 52 [(0, .ref (S.1 68)), (2, .int x2), (4, .int x4)] [.int y0, .int y1] := by
  unfold f_Mo_isLinked_52 at e
  refine zk_iadd C kd_Mo_isLinked_52 rfl ?_
  refine zk_istore_n (lv' := [(3, _), (0, _), (2, _), (4, _)]) C kd_Mo_isLinked_53 rfl (by decide) rfl rfl ?_
  refine zk_aload_n C kd_Mo_isLinked_54 rfl 1 rfl rfl ?_
  refine zs_get (v := .ref (S.1 78)) C 68 21 rfl rfl rfl rfl ki_Mo (by decide) kw1704 kd_Mo_isLinked_55 rfl ?_
  refine zk_iload C kd_Mo_isLinked_58 3 rfl rfl ?_
  obtain ⟨q1, e⟩ := zd_g e
  refine zs_iald C 78 rfl (zd_vp q1) kd_Mo_isLinked_60 rfl ?_
  refine zk_istore (lv' := [(4, _), (3, _), (0, _), (2, _)]) C kd_Mo_isLinked_61 (by decide) rfl rfl ?_
  refine zk_goto (tgt := 10) C kd_Mo_isLinked_63 (by decide) ?_
  refine zk_lvs (lv' := [(0, .ref (S.1 68)), (2, .int x2), (3, .int (y1 + y0)), (4, .int (h.2.1 78 x4.toNatClampNeg))]) [2, 3, 1, 0] rfl ?_
  exact hk10 x2 (y1 + y0) (h.2.1 78 x4.toNatClampNeg) e
set_option maxHeartbeats 4000000 in
set_option maxRecDepth 100000 in
theorem zb_Mo_isLinked_34 {X : zkj_T} {S : zs_T} {P : ze_T} {l : Launch} {D : va_G} {sz0 : Nat} {rv : Int32} {h : zs_H} (C : zk_C X km_Mo_isLinked (zs_G S l D sz0) { frames := 0, cells := 0, slots := 0, locals := 0 } (ze_E P)) (hR : zkj_R X (zd_PZ S rv h) (some .boolean)) {k10 : Int32 → Int32 → Int32 → (Option Int32)} (hk10 : ∀ (x2 : Int32) (x3 : Int32) (x4 : Int32), k10 x2 x3 x4 = some rv → zk_Ab X (zs_W S h) 0 0 10 [(0, .ref (S.1 68)), (2, .int x2), (3, .int x3), (4, .int x4)] []) (x2 : Int32) (x3 : Int32) (x4 : Int32) (e : f_Mo_isLinked_34 h k10 x2 x3 x4 = some rv) : zk_Ab X (zs_W S h) 0 0 34 [(0, .ref (S.1 68)), (2, .int x2), (3, .int x3), (4, .int x4)] [] := by
  unfold f_Mo_isLinked_34 at e
  refine zk_iload_n C kd_Mo_isLinked_34 rfl 2 rfl rfl ?_
  refine zk_aload_n C kd_Mo_isLinked_35 rfl 0 rfl rfl ?_
  refine zs_get (v := .ref (S.1 72)) C 68 15 rfl rfl rfl rfl ki_Mo (by decide) kw1698 kd_Mo_isLinked_36 rfl ?_
  refine zk_iload C kd_Mo_isLinked_39 3 rfl rfl ?_
  obtain ⟨q1, e⟩ := zd_g e
  refine zs_iald C 72 rfl (zd_vp q1) kd_Mo_isLinked_41 rfl ?_
  refine zk_bipush (v := 29) C kd_Mo_isLinked_42 (by decide) rfl ?_
  refine zk_icmp_ne (tgt := 51) C kd_Mo_isLinked_44 (by decide) rfl (fun b2 => ?_) (fun b2 => ?_)
  · replace e := zd_neg b2 e
    refine zk_iconst (v := 1) C kd_Mo_isLinked_51 (by decide) rfl ?_
    refine zk_lvs (lv' := [(0, .ref (S.1 68)), (2, .int x2), (4, .int x4)]) [0, 1, 3] rfl ?_
    exact zb_Mo_isLinked_52 C hR hk10 x2 x4 1 x3 e
  · replace e := zd_pos b2 e
    refine zk_iconst (v := 0) C kd_Mo_isLinked_47 (by decide) rfl ?_
    refine zk_goto (tgt := 52) C kd_Mo_isLinked_48 (by decide) ?_
    refine zk_lvs (lv' := [(0, .ref (S.1 68)), (2, .int x2), (4, .int x4)]) [0, 1, 3] rfl ?_
    exact zb_Mo_isLinked_52 C hR hk10 x2 x4 0 x3 e
set_option maxHeartbeats 4000000 in
set_option maxRecDepth 100000 in
theorem zb_Mo_isLinked_10 {X : zkj_T} {S : zs_T} {P : ze_T} {l : Launch} {D : va_G} {sz0 : Nat} {rv : Int32} {h : zs_H} (C : zk_C X km_Mo_isLinked (zs_G S l D sz0) { frames := 0, cells := 0, slots := 0, locals := 0 } (ze_E P)) (hR : zkj_R X (zd_PZ S rv h) (some .boolean)) {k10 : Int32 → Int32 → Int32 → (Option Int32)} (hk10 : ∀ (x2 : Int32) (x3 : Int32) (x4 : Int32), k10 x2 x3 x4 = some rv → zk_Ab X (zs_W S h) 0 0 10 [(0, .ref (S.1 68)), (2, .int x2), (3, .int x3), (4, .int x4)] []) (x2 : Int32) (x3 : Int32) (x4 : Int32) (e : f_Mo_isLinked_10 h k10 x2 x3 x4 = some rv) : zk_Ab X (zs_W S h) 0 0 10 [(0, .ref (S.1 68)), (2, .int x2), (3, .int x3), (4, .int x4)] [] := by
  unfold f_Mo_isLinked_10 at e
  refine zk_iload C kd_Mo_isLinked_10 3 rfl rfl ?_
  refine zk_if_lt (tgt := 66) C kd_Mo_isLinked_12 (by decide) rfl (fun b1 => ?_) (fun b1 => ?_)
  · replace e := zd_pos b1 e
    refine zk_iconst (v := 0) C kd_Mo_isLinked_66 (by decide) rfl ?_
    exact zk_zret C hR (zd_nb (Or.inl rfl)) kd_Mo_isLinked_67 rfl rfl (zd_rZO (Or.inl rfl) e)
  · replace e := zd_neg b1 e
    refine zk_aload_n C kd_Mo_isLinked_15 rfl 0 rfl rfl ?_
    refine zs_get (v := .ref (S.1 72)) C 68 15 rfl rfl rfl rfl ki_Mo (by decide) kw1698 kd_Mo_isLinked_16 rfl ?_
    refine zk_iload C kd_Mo_isLinked_19 3 rfl rfl ?_
    obtain ⟨q2, e⟩ := zd_g e
    refine zs_iald C 72 rfl (zd_vp q2) kd_Mo_isLinked_21 rfl ?_
    refine zk_bipush (v := 29) C kd_Mo_isLinked_22 (by decide) rfl ?_
    refine zk_icmp_ne (tgt := 34) C kd_Mo_isLinked_24 (by decide) rfl (fun b3 => ?_) (fun b3 => ?_)
    · replace e := zd_neg b3 e
      refine zk_lvs (lv' := [(0, .ref (S.1 68)), (2, .int x2), (3, .int x3), (4, .int x4)]) [0, 1, 2, 3] rfl ?_
      exact zb_Mo_isLinked_34 C hR hk10 x2 x3 x4 e
    · replace e := zd_pos b3 e
      refine zk_iload_n C kd_Mo_isLinked_27 rfl 2 rfl rfl ?_
      refine zk_iload_n C kd_Mo_isLinked_28 rfl 1 rfl rfl ?_
      refine zk_icmp_ne (tgt := 34) C kd_Mo_isLinked_29 (by decide) rfl (fun b4 => ?_) (fun b4 => ?_)
      · replace e := zd_neg b4 e
        refine zk_lvs (lv' := [(0, .ref (S.1 68)), (2, .int x2), (3, .int x3), (4, .int x4)]) [0, 1, 2, 3] rfl ?_
        exact zb_Mo_isLinked_34 C hR hk10 x2 x3 x4 e
      · replace e := zd_pos b4 e
        refine zk_iconst (v := 1) C kd_Mo_isLinked_32 (by decide) rfl ?_
        exact zk_zret C hR (zd_nb (Or.inr rfl)) kd_Mo_isLinked_33 rfl rfl (zd_rZO (Or.inr rfl) e)
theorem zl_Mo_isLinked_10 {X : zkj_T} {S : zs_T} {P : ze_T} {l : Launch} {D : va_G} {sz0 : Nat} {rv : Int32} {h : zs_H} (C : zk_C X km_Mo_isLinked (zs_G S l D sz0) { frames := 0, cells := 0, slots := 0, locals := 0 } (ze_E P)) (hR : zkj_R X (zd_PZ S rv h) (some .boolean)) (n : Nat) : ∀ (x2 : Int32) (x3 : Int32) (x4 : Int32), f_Mo_isLinked_L10 h n x2 x3 x4 = some rv → zk_Ab X (zs_W S h) 0 0 10 [(0, .ref (S.1 68)), (2, .int x2), (3, .int x3), (4, .int x4)] [] := by
  induction n with
  | zero => intro x2 x3 x4 e; exact zd_no e
  | succ n ih => intro x2 x3 x4 e; exact zb_Mo_isLinked_10 (k10 := f_Mo_isLinked_L10 h n) C hR ih x2 x3 x4 e
set_option maxHeartbeats 4000000 in
set_option maxRecDepth 100000 in
theorem zc_Mo_isLinked {l : Launch} {D : va_G} {sz0 : Nat} {S : zs_T} {P : ze_T} (h : zs_H) (x1 : Int32) (x2 : Int32) {rv : Int32} (e : f_Mo_isLinked h x1 x2 = some rv) : zk_Sp (zs_G S l D sz0) (ze_E P) km_Mo_isLinked { frames := 0, cells := 0, slots := 0, locals := 0 } [.ref (S.1 68), .int x1, .int x2] (zs_W S h) (zd_PZ S rv h) := by
  refine zk_met ku_Mo_isLinked (Nat.le_of_ble_eq_true rfl) (ze_Em P) ?_
  intro X C hR
  refine zk_lvs (lv' := [(0, .ref (S.1 68)), (1, .int x1), (2, .int x2)]) [0, 1, 2] rfl ?_
  unfold f_Mo_isLinked at e
  refine zk_iconst (v := 0) C kd_Mo_isLinked_0 (by decide) rfl ?_
  refine zk_istore_n (lv' := [(3, _), (0, _), (1, _), (2, _)]) C kd_Mo_isLinked_1 rfl (by decide) rfl rfl ?_
  refine zk_aload_n C kd_Mo_isLinked_2 rfl 1 rfl rfl ?_
  refine zs_get (v := .ref (S.1 76)) C 68 19 rfl rfl rfl rfl ki_Mo (by decide) kw1702 kd_Mo_isLinked_3 rfl ?_
  refine zk_iload_n C kd_Mo_isLinked_6 rfl 2 rfl rfl ?_
  obtain ⟨q1, e⟩ := zd_g e
  refine zs_iald C 76 rfl (zd_vp q1) kd_Mo_isLinked_7 rfl ?_
  refine zk_istore (lv' := [(4, _), (3, _), (0, _), (1, _), (2, _)]) C kd_Mo_isLinked_8 (by decide) rfl rfl ?_
  refine zk_lvs (lv' := [(0, .ref (S.1 68)), (2, .int x2), (3, .int 0), (4, .int (h.2.1 76 x1.toNatClampNeg))]) [2, 4, 1, 0] rfl ?_
  exact zl_Mo_isLinked_10 C hR zF x2 0 (h.2.1 76 x1.toNatClampNeg) e
set_option maxHeartbeats 4000000 in
set_option maxRecDepth 100000 in
theorem zb_Mo_leastRow_3 {X : zkj_T} {S : zs_T} {P : ze_T} {l : Launch} {D : va_G} {sz0 : Nat} {rv : Int32} {h : zs_H} (C : zk_C X km_Mo_leastRow (zs_G S l D sz0) { frames := 1, cells := 0, slots := 0, locals := 24 } (ze_E P)) (hR : zkj_R X (zd_PI S rv h) (some .int)) {k3 : Int32 → Int32 → Int32 → (Option Int32)} (hk3 : ∀ (x1 : Int32) (x3 : Int32) (x4 : Int32), k3 x1 x3 x4 = some rv → zk_Ab X (zs_W S h) 0 0 3 [(0, .ref (S.1 68)), (1, .int x1), (3, .int x3), (4, .int x4)] []) (x1 : Int32) (x3 : Int32) (x4 : Int32) (e : f_Mo_leastRow_3 h k3 x1 x3 x4 = some rv) : zk_Ab X (zs_W S h) 0 0 3 [(0, .ref (S.1 68)), (1, .int x1), (3, .int x3), (4, .int x4)] [] := by
  unfold f_Mo_leastRow_3 at e
  refine zk_iload C kd_Mo_leastRow_3 3 rfl rfl ?_
  refine zk_if_le (tgt := 31) C kd_Mo_leastRow_5 (by decide) rfl (fun b1 => ?_) (fun b1 => ?_)
  · replace e := zd_pos b1 e
    refine zk_iload C kd_Mo_leastRow_31 3 rfl rfl ?_
    exact zk_iret C hR kd_Mo_leastRow_33 rfl rfl (zd_rIO e)
  · replace e := zd_neg b1 e
    refine zk_aload_n C kd_Mo_leastRow_8 rfl 0 rfl rfl ?_
    refine zk_aload_n C kd_Mo_leastRow_9 rfl 0 rfl rfl ?_
    refine zk_iload_n C kd_Mo_leastRow_10 rfl 1 rfl rfl ?_
    refine zk_iload C kd_Mo_leastRow_11 3 rfl rfl ?_
    refine zk_iconst (v := 1) C kd_Mo_leastRow_13 (by decide) rfl ?_
    refine zk_isub C kd_Mo_leastRow_14 rfl ?_
    obtain ⟨v3, c2, e⟩ := zd_b e
    refine zs_callV (k := 68) (rn := { frames := 0, cells := 0, slots := 0, locals := 0 }) (As := [.int x1, .int (x4 - 1)]) (rest := [.ref (S.1 68)]) C (zc_Mo_rowOf h x1 (x4 - 1) c2) ku_Mo_rowOf kw2628 kv_Mo_rowOf rfl ⟨by decide, by decide⟩ ⟨by decide, by decide⟩ rfl rfl rfl (Nat.le_of_ble_eq_true rfl) kd_Mo_leastRow_15 rfl (c1 := 0) (s1 := 0) rfl rfl (fun v w hp => ?_)
    obtain ⟨rfl, rfl⟩ := hp
    refine zk_stk (r' := [.int v3, .ref (S.1 68)]) rfl ?_
    refine zk_iload_n C kd_Mo_leastRow_18 rfl 2 rfl rfl ?_
    obtain ⟨v5, c4, e⟩ := zd_b e
    refine zs_callV (k := 68) (rn := { frames := 0, cells := 0, slots := 0, locals := 0 }) (As := [.int v3, .int x3]) (rest := []) C (zc_Mo_isLinked h v3 x3 c4) ku_Mo_isLinked kw2640 kv_Mo_isLinked rfl ⟨by decide, by decide⟩ ⟨by decide, by decide⟩ rfl rfl rfl (Nat.le_of_ble_eq_true rfl) kd_Mo_leastRow_19 rfl (c1 := 0) (s1 := 0) rfl rfl (fun v w hp => ?_)
    obtain ⟨rfl, rfl, z6⟩ := hp
    refine zk_stk (r' := [.int v5]) rfl ?_
    refine zk_if_eq (tgt := 31) C kd_Mo_leastRow_22 (by decide) rfl (fun b7 => ?_) (fun b7 => ?_)
    · replace e := zd_pos b7 e
      refine zk_iload C kd_Mo_leastRow_31 3 rfl rfl ?_
      exact zk_iret C hR kd_Mo_leastRow_33 rfl rfl (zd_rIO e)
    · replace e := zd_neg b7 e
      refine zk_iinc (v := (x4 + (-1))) (lv' := [(4, _), (0, _), (1, _), (3, _)]) C kd_Mo_leastRow_25 3 rfl rfl (by decide) rfl rfl ?_
      refine zk_goto (tgt := 3) C kd_Mo_leastRow_28 (by decide) ?_
      refine zk_lvs (lv' := [(0, .ref (S.1 68)), (1, .int x1), (3, .int x3), (4, .int (x4 + (-1)))]) [1, 2, 3, 0] rfl ?_
      exact hk3 x1 x3 (x4 + (-1)) e
theorem zl_Mo_leastRow_3 {X : zkj_T} {S : zs_T} {P : ze_T} {l : Launch} {D : va_G} {sz0 : Nat} {rv : Int32} {h : zs_H} (C : zk_C X km_Mo_leastRow (zs_G S l D sz0) { frames := 1, cells := 0, slots := 0, locals := 24 } (ze_E P)) (hR : zkj_R X (zd_PI S rv h) (some .int)) (n : Nat) : ∀ (x1 : Int32) (x3 : Int32) (x4 : Int32), f_Mo_leastRow_L3 h n x1 x3 x4 = some rv → zk_Ab X (zs_W S h) 0 0 3 [(0, .ref (S.1 68)), (1, .int x1), (3, .int x3), (4, .int x4)] [] := by
  induction n with
  | zero => intro x1 x3 x4 e; exact zd_no e
  | succ n ih => intro x1 x3 x4 e; exact zb_Mo_leastRow_3 (k3 := f_Mo_leastRow_L3 h n) C hR ih x1 x3 x4 e
set_option maxHeartbeats 4000000 in
set_option maxRecDepth 100000 in
theorem zc_Mo_leastRow {l : Launch} {D : va_G} {sz0 : Nat} {S : zs_T} {P : ze_T} (h : zs_H) (x1 : Int32) (x2 : Int32) (x3 : Int32) {rv : Int32} (e : f_Mo_leastRow h x1 x2 x3 = some rv) : zk_Sp (zs_G S l D sz0) (ze_E P) km_Mo_leastRow { frames := 1, cells := 0, slots := 0, locals := 24 } [.ref (S.1 68), .int x1, .int x2, .int x3] (zs_W S h) (zd_PI S rv h) := by
  refine zk_met ku_Mo_leastRow (Nat.le_of_ble_eq_true rfl) (ze_Em P) ?_
  intro X C hR
  refine zk_lvs (lv' := [(0, .ref (S.1 68)), (1, .int x1), (2, .int x2), (3, .int x3)]) [0, 1, 2, 3] rfl ?_
  unfold f_Mo_leastRow at e
  refine zk_iload_n C kd_Mo_leastRow_0 rfl 2 rfl rfl ?_
  refine zk_istore (lv' := [(4, _), (0, _), (1, _), (2, _), (3, _)]) C kd_Mo_leastRow_1 (by decide) rfl rfl ?_
  refine zk_lvs (lv' := [(0, .ref (S.1 68)), (1, .int x1), (3, .int x3), (4, .int x2)]) [1, 2, 4, 0] rfl ?_
  exact zl_Mo_leastRow_3 C hR zF x1 x3 x2 e
set_option maxHeartbeats 4000000 in
set_option maxRecDepth 100000 in
theorem zb_Mo_contactCode_107 {X : zkj_T} {S : zs_T} {P : ze_T} {l : Launch} {D : va_G} {sz0 : Nat} {rh : zs_H} (C : zk_C X km_Mo_contactCode (zs_G S l D sz0) { frames := 1, cells := 0, slots := 0, locals := 24 } (ze_E P)) (hR : zkj_R X (zd_PV S rh) (none)) (h : zs_H) (x2 : Int32) (x3 : Int32) (x4 : Int32) (e : f_Mo_contactCode_107 h x2 x3 x4 = some rh) : zk_Ab X (zs_W S h) 0 0 107 [(0, .ref (S.1 68)), (2, .int x2), (3, .int x3), (4, .int x4)] [] := by
  unfold f_Mo_contactCode_107 at e
  refine zk_aload_n C kd_Mo_contactCode_107 rfl 0 rfl rfl ?_
  refine zk_bipush (v := 7) C kd_Mo_contactCode_108 (by decide) rfl ?_
  refine zk_bipush (v := 10) C kd_Mo_contactCode_110 (by decide) rfl ?_
  refine zk_iconst (v := 0) C kd_Mo_contactCode_112 (by decide) rfl ?_
  refine zk_iconst (v := 0) C kd_Mo_contactCode_113 (by decide) rfl ?_
  obtain ⟨v2, h3, c1, e⟩ := zd_Be e
  refine zs_callV (k := 68) (rn := { frames := 0, cells := 0, slots := 0, locals := 0 }) (As := [.int 7, .int 10, .int 0, .int 0]) (rest := []) C (zc_Mo_emit h 7 10 0 0 c1) ku_Mo_emit kw2524 kv_Mo_emit rfl ⟨by decide, by decide⟩ ⟨by decide, by decide⟩ rfl rfl rfl (Nat.le_of_ble_eq_true rfl) kd_Mo_contactCode_114 rfl (c1 := 0) (s1 := 0) rfl rfl (fun v w hp => ?_)
  obtain ⟨rfl, rfl⟩ := hp
  refine zk_stk (r' := [.int v2]) rfl ?_
  refine zk_istore (lv' := [(5, _), (0, _), (2, _), (3, _), (4, _)]) C kd_Mo_contactCode_117 (by decide) rfl rfl ?_
  refine zk_iload C kd_Mo_contactCode_119 4 rfl rfl ?_
  refine zk_iconst (v := 1) C kd_Mo_contactCode_121 (by decide) rfl ?_
  refine zk_icmp_le (tgt := 145) C kd_Mo_contactCode_122 (by decide) rfl (fun b4 => ?_) (fun b4 => ?_)
  · replace e := zd_pos b4 e
    exact zk_vret C hR kd_Mo_contactCode_145 rfl rfl (zd_rV e)
  · replace e := zd_neg b4 e
    refine zk_aload_n C kd_Mo_contactCode_125 rfl 1 rfl rfl ?_
    refine zk_iconst (v := 1) C kd_Mo_contactCode_126 (by decide) rfl ?_
    refine zk_iload_n C kd_Mo_contactCode_127 rfl 2 rfl rfl ?_
    refine zk_iconst (v := 0) C kd_Mo_contactCode_128 (by decide) rfl ?_
    refine zk_iconst (v := 0) C kd_Mo_contactCode_129 (by decide) rfl ?_
    obtain ⟨v6, h7, c5, e⟩ := zd_Be e
    refine zs_callV (k := 68) (rn := { frames := 0, cells := 0, slots := 0, locals := 0 }) (As := [.int 1, .int x2, .int 0, .int 0]) (rest := []) C (zc_Mo_emit h3 1 x2 0 0 c5) ku_Mo_emit kw2524 kv_Mo_emit rfl ⟨by decide, by decide⟩ ⟨by decide, by decide⟩ rfl rfl rfl (Nat.le_of_ble_eq_true rfl) kd_Mo_contactCode_130 rfl (c1 := 0) (s1 := 0) rfl rfl (fun v w hp => ?_)
    obtain ⟨rfl, rfl⟩ := hp
    refine zk_stk (r' := [.int v6]) rfl ?_
    refine zk_istore (lv' := [(5, _), (0, _), (2, _), (3, _), (4, _)]) C kd_Mo_contactCode_133 (by decide) rfl rfl ?_
    refine zk_aload_n C kd_Mo_contactCode_135 rfl 1 rfl rfl ?_
    refine zk_iconst (v := 2) C kd_Mo_contactCode_136 (by decide) rfl ?_
    refine zk_iload_n C kd_Mo_contactCode_137 rfl 3 rfl rfl ?_
    refine zk_iconst (v := 0) C kd_Mo_contactCode_138 (by decide) rfl ?_
    refine zk_iconst (v := 0) C kd_Mo_contactCode_139 (by decide) rfl ?_
    obtain ⟨v9, h10, c8, e⟩ := zd_Be e
    refine zs_callV (k := 68) (rn := { frames := 0, cells := 0, slots := 0, locals := 0 }) (As := [.int 2, .int x3, .int 0, .int 0]) (rest := []) C (zc_Mo_emit h7 2 x3 0 0 c8) ku_Mo_emit kw2524 kv_Mo_emit rfl ⟨by decide, by decide⟩ ⟨by decide, by decide⟩ rfl rfl rfl (Nat.le_of_ble_eq_true rfl) kd_Mo_contactCode_140 rfl (c1 := 0) (s1 := 0) rfl rfl (fun v w hp => ?_)
    obtain ⟨rfl, rfl⟩ := hp
    refine zk_stk (r' := [.int v9]) rfl ?_
    refine zk_istore (lv' := [(5, _), (0, _), (2, _), (3, _), (4, _)]) C kd_Mo_contactCode_143 (by decide) rfl rfl ?_
    exact zk_vret C hR kd_Mo_contactCode_145 rfl rfl (zd_rV e)
set_option maxHeartbeats 4000000 in
set_option maxRecDepth 100000 in
theorem zb_Mo_contactCode_89 {X : zkj_T} {S : zs_T} {P : ze_T} {l : Launch} {D : va_G} {sz0 : Nat} {rh : zs_H} (C : zk_C X km_Mo_contactCode (zs_G S l D sz0) { frames := 1, cells := 0, slots := 0, locals := 24 } (ze_E P)) (hR : zkj_R X (zd_PV S rh) (none)) (h : zs_H) (x2 : Int32) (x3 : Int32) (x4 : Int32) (e : f_Mo_contactCode_89 h x2 x3 x4 = some rh) : zk_Ab X (zs_W S h) 0 0 89 [(0, .ref (S.1 68)), (2, .int x2), (3, .int x3), (4, .int x4)] [] := by
  unfold f_Mo_contactCode_89 at e
  refine zk_iload C kd_Mo_contactCode_89 3 rfl rfl ?_
  refine zk_iconst (v := 1) C kd_Mo_contactCode_91 (by decide) rfl ?_
  refine zk_icmp_le (tgt := 107) C kd_Mo_contactCode_92 (by decide) rfl (fun b1 => ?_) (fun b1 => ?_)
  · replace e := zd_pos b1 e
    refine zk_lvs (lv' := [(0, .ref (S.1 68)), (2, .int x2), (3, .int x3), (4, .int x4)]) [0, 1, 2, 3] rfl ?_
    exact zb_Mo_contactCode_107 C hR h x2 x3 x4 e
  · replace e := zd_neg b1 e
    refine zk_aload_n C kd_Mo_contactCode_95 rfl 0 rfl rfl ?_
    refine zk_bipush (v := 7) C kd_Mo_contactCode_96 (by decide) rfl ?_
    refine zk_bipush (v := 10) C kd_Mo_contactCode_98 (by decide) rfl ?_
    refine zk_iconst (v := 0) C kd_Mo_contactCode_100 (by decide) rfl ?_
    refine zk_iconst (v := 0) C kd_Mo_contactCode_101 (by decide) rfl ?_
    obtain ⟨v3, h4, c2, e⟩ := zd_Be e
    refine zs_callV (k := 68) (rn := { frames := 0, cells := 0, slots := 0, locals := 0 }) (As := [.int 7, .int 10, .int 0, .int 0]) (rest := []) C (zc_Mo_emit h 7 10 0 0 c2) ku_Mo_emit kw2524 kv_Mo_emit rfl ⟨by decide, by decide⟩ ⟨by decide, by decide⟩ rfl rfl rfl (Nat.le_of_ble_eq_true rfl) kd_Mo_contactCode_102 rfl (c1 := 0) (s1 := 0) rfl rfl (fun v w hp => ?_)
    obtain ⟨rfl, rfl⟩ := hp
    refine zk_stk (r' := [.int v3]) rfl ?_
    refine zk_istore (lv' := [(5, _), (0, _), (2, _), (3, _), (4, _)]) C kd_Mo_contactCode_105 (by decide) rfl rfl ?_
    refine zk_lvs (lv' := [(0, .ref (S.1 68)), (2, .int x2), (3, .int x3), (4, .int x4)]) [1, 2, 3, 4] rfl ?_
    exact zb_Mo_contactCode_107 C hR h4 x2 x3 x4 e
set_option maxHeartbeats 4000000 in
set_option maxRecDepth 100000 in
theorem zb_Mo_contactCode_73 {X : zkj_T} {S : zs_T} {P : ze_T} {l : Launch} {D : va_G} {sz0 : Nat} {rh : zs_H} (C : zk_C X km_Mo_contactCode (zs_G S l D sz0) { frames := 1, cells := 0, slots := 0, locals := 24 } (ze_E P)) (hR : zkj_R X (zd_PV S rh) (none)) (h : zs_H) (x2 : Int32) (x3 : Int32) (x4 : Int32) (e : f_Mo_contactCode_73 h x2 x3 x4 = some rh) : zk_Ab X (zs_W S h) 0 0 73 [(0, .ref (S.1 68)), (2, .int x2), (3, .int x3), (4, .int x4)] [] := by
  unfold f_Mo_contactCode_73 at e
  refine zk_iload C kd_Mo_contactCode_73 3 rfl rfl ?_
  refine zk_if_le (tgt := 89) C kd_Mo_contactCode_75 (by decide) rfl (fun b1 => ?_) (fun b1 => ?_)
  · replace e := zd_pos b1 e
    refine zk_lvs (lv' := [(0, .ref (S.1 68)), (2, .int x2), (3, .int x3), (4, .int x4)]) [0, 1, 2, 3] rfl ?_
    exact zb_Mo_contactCode_89 C hR h x2 x3 x4 e
  · replace e := zd_neg b1 e
    refine zk_aload_n C kd_Mo_contactCode_78 rfl 0 rfl rfl ?_
    refine zk_bipush (v := 8) C kd_Mo_contactCode_79 (by decide) rfl ?_
    refine zk_iconst (v := 2) C kd_Mo_contactCode_81 (by decide) rfl ?_
    refine zk_iconst (v := 0) C kd_Mo_contactCode_82 (by decide) rfl ?_
    refine zk_iconst (v := 0) C kd_Mo_contactCode_83 (by decide) rfl ?_
    obtain ⟨v3, h4, c2, e⟩ := zd_Be e
    refine zs_callV (k := 68) (rn := { frames := 0, cells := 0, slots := 0, locals := 0 }) (As := [.int 8, .int 2, .int 0, .int 0]) (rest := []) C (zc_Mo_emit h 8 2 0 0 c2) ku_Mo_emit kw2524 kv_Mo_emit rfl ⟨by decide, by decide⟩ ⟨by decide, by decide⟩ rfl rfl rfl (Nat.le_of_ble_eq_true rfl) kd_Mo_contactCode_84 rfl (c1 := 0) (s1 := 0) rfl rfl (fun v w hp => ?_)
    obtain ⟨rfl, rfl⟩ := hp
    refine zk_stk (r' := [.int v3]) rfl ?_
    refine zk_istore (lv' := [(5, _), (0, _), (2, _), (3, _), (4, _)]) C kd_Mo_contactCode_87 (by decide) rfl rfl ?_
    refine zk_lvs (lv' := [(0, .ref (S.1 68)), (2, .int x2), (3, .int x3), (4, .int x4)]) [1, 2, 3, 4] rfl ?_
    exact zb_Mo_contactCode_89 C hR h4 x2 x3 x4 e
set_option maxHeartbeats 4000000 in
set_option maxRecDepth 100000 in
theorem zb_Mo_contactCode_66 {X : zkj_T} {S : zs_T} {P : ze_T} {l : Launch} {D : va_G} {sz0 : Nat} {rh : zs_H} (C : zk_C X km_Mo_contactCode (zs_G S l D sz0) { frames := 1, cells := 0, slots := 0, locals := 24 } (ze_E P)) (hR : zkj_R X (zd_PV S rh) (none)) (h : zs_H) (x2 : Int32) (x3 : Int32) (x4 : Int32) (y0 : Int32) (y1 : Int32) (e : f_Mo_contactCode_66 h x2 x3 x4 y0 y1 = some rh) : zk_Ab X (zs_W S h) 0 0 66 [(0, .ref (S.1 68)), (2, .int x2), (3, .int x3), (4, .int x4)] [.int y0, .int y1, .ref (S.1 68)] := by
  unfold f_Mo_contactCode_66 at e
  refine zk_iconst (v := 0) C kd_Mo_contactCode_66 (by decide) rfl ?_
  refine zk_iconst (v := 0) C kd_Mo_contactCode_67 (by decide) rfl ?_
  obtain ⟨v2, h3, c1, e⟩ := zd_Be e
  refine zs_callV (k := 68) (rn := { frames := 0, cells := 0, slots := 0, locals := 0 }) (As := [.int y1, .int y0, .int 0, .int 0]) (rest := []) C (zc_Mo_emit h y1 y0 0 0 c1) ku_Mo_emit kw2524 kv_Mo_emit rfl ⟨by decide, by decide⟩ ⟨by decide, by decide⟩ rfl rfl rfl (Nat.le_of_ble_eq_true rfl) kd_Mo_contactCode_68 rfl (c1 := 0) (s1 := 0) rfl rfl (fun v w hp => ?_)
  obtain ⟨rfl, rfl⟩ := hp
  refine zk_stk (r' := [.int v2]) rfl ?_
  refine zk_istore (lv' := [(5, _), (0, _), (2, _), (3, _), (4, _)]) C kd_Mo_contactCode_71 (by decide) rfl rfl ?_
  refine zk_lvs (lv' := [(0, .ref (S.1 68)), (2, .int x2), (3, .int x3), (4, .int x4)]) [1, 2, 3, 4] rfl ?_
  exact zb_Mo_contactCode_73 C hR h3 x2 x3 x4 e
set_option maxHeartbeats 4000000 in
set_option maxRecDepth 100000 in
theorem zb_Mo_contactCode_40 {X : zkj_T} {S : zs_T} {P : ze_T} {l : Launch} {D : va_G} {sz0 : Nat} {rh : zs_H} (C : zk_C X km_Mo_contactCode (zs_G S l D sz0) { frames := 1, cells := 0, slots := 0, locals := 24 } (ze_E P)) (hR : zkj_R X (zd_PV S rh) (none)) (h : zs_H) (x2 : Int32) (x3 : Int32) (x4 : Int32) (y0 : Int32) (y1 : Int32) (e : f_Mo_contactCode_40 h x2 x3 x4 y0 y1 = some rh) : zk_Ab X (zs_W S h) 0 0 40 [(0, .ref (S.1 68)), (2, .int x2), (3, .int x3), (4, .int x4)] [.int y0, .int y1, .ref (S.1 68)] := by
  unfold f_Mo_contactCode_40 at e
  refine zk_iconst (v := 0) C kd_Mo_contactCode_40 (by decide) rfl ?_
  refine zk_iconst (v := 0) C kd_Mo_contactCode_41 (by decide) rfl ?_
  obtain ⟨v2, h3, c1, e⟩ := zd_Be e
  refine zs_callV (k := 68) (rn := { frames := 0, cells := 0, slots := 0, locals := 0 }) (As := [.int y1, .int y0, .int 0, .int 0]) (rest := []) C (zc_Mo_emit h y1 y0 0 0 c1) ku_Mo_emit kw2524 kv_Mo_emit rfl ⟨by decide, by decide⟩ ⟨by decide, by decide⟩ rfl rfl rfl (Nat.le_of_ble_eq_true rfl) kd_Mo_contactCode_42 rfl (c1 := 0) (s1 := 0) rfl rfl (fun v w hp => ?_)
  obtain ⟨rfl, rfl⟩ := hp
  refine zk_stk (r' := [.int v2]) rfl ?_
  refine zk_istore (lv' := [(5, _), (0, _), (2, _), (3, _), (4, _)]) C kd_Mo_contactCode_45 (by decide) rfl rfl ?_
  refine zk_iload C kd_Mo_contactCode_47 4 rfl rfl ?_
  refine zk_iconst (v := 1) C kd_Mo_contactCode_49 (by decide) rfl ?_
  refine zk_icmp_le (tgt := 73) C kd_Mo_contactCode_50 (by decide) rfl (fun b4 => ?_) (fun b4 => ?_)
  · replace e := zd_pos b4 e
    refine zk_lvs (lv' := [(0, .ref (S.1 68)), (2, .int x2), (3, .int x3), (4, .int x4)]) [1, 2, 3, 4] rfl ?_
    exact zb_Mo_contactCode_73 C hR h3 x2 x3 x4 e
  · replace e := zd_neg b4 e
    refine zk_aload_n C kd_Mo_contactCode_53 rfl 1 rfl rfl ?_
    refine zk_iconst (v := 1) C kd_Mo_contactCode_54 (by decide) rfl ?_
    refine zk_iload C kd_Mo_contactCode_55 4 rfl rfl ?_
    refine zk_iconst (v := 3) C kd_Mo_contactCode_57 (by decide) rfl ?_
    refine zk_icmp_ne (tgt := 65) C kd_Mo_contactCode_58 (by decide) rfl (fun b5 => ?_) (fun b5 => ?_)
    · replace e := zd_neg b5 e
      refine zk_iload_n C kd_Mo_contactCode_65 rfl 3 rfl rfl ?_
      refine zk_lvs (lv' := [(0, .ref (S.1 68)), (2, .int x2), (3, .int x3), (4, .int x4)]) [1, 2, 3, 4] rfl ?_
      exact zb_Mo_contactCode_66 C hR h3 x2 x3 x4 x3 1 e
    · replace e := zd_pos b5 e
      refine zk_iload_n C kd_Mo_contactCode_61 rfl 2 rfl rfl ?_
      refine zk_goto (tgt := 66) C kd_Mo_contactCode_62 (by decide) ?_
      refine zk_lvs (lv' := [(0, .ref (S.1 68)), (2, .int x2), (3, .int x3), (4, .int x4)]) [1, 2, 3, 4] rfl ?_
      exact zb_Mo_contactCode_66 C hR h3 x2 x3 x4 x2 1 e
set_option maxHeartbeats 4000000 in
set_option maxRecDepth 100000 in
theorem zc_Mo_contactCode {l : Launch} {D : va_G} {sz0 : Nat} {S : zs_T} {P : ze_T} (h : zs_H) (x1 : Int32) {rh : zs_H} (e : f_Mo_contactCode h x1 = some rh) : zk_Sp (zs_G S l D sz0) (ze_E P) km_Mo_contactCode { frames := 1, cells := 0, slots := 0, locals := 24 } [.ref (S.1 68), .int x1] (zs_W S h) (zd_PV S rh) := by
  refine zk_met ku_Mo_contactCode (Nat.le_of_ble_eq_true rfl) (ze_Em P) ?_
  intro X C hR
  refine zk_lvs (lv' := [(0, .ref (S.1 68)), (1, .int x1)]) [0, 1] rfl ?_
  unfold f_Mo_contactCode at e
  refine zk_aload_n C kd_Mo_contactCode_0 rfl 0 rfl rfl ?_
  refine zs_get (v := .ref (S.1 101)) C 68 52 rfl rfl rfl rfl ki_Mo (by decide) kw1735 kd_Mo_contactCode_1 rfl ?_
  refine zk_aload_n C kd_Mo_contactCode_4 rfl 0 rfl rfl ?_
  refine zs_get (v := .ref (S.1 76)) C 68 19 rfl rfl rfl rfl ki_Mo (by decide) kw1702 kd_Mo_contactCode_5 rfl ?_
  refine zk_iload_n C kd_Mo_contactCode_8 rfl 1 rfl rfl ?_
  obtain ⟨q1, e⟩ := zd_g e
  refine zs_iald C 76 rfl (zd_vp q1) kd_Mo_contactCode_9 rfl ?_
  obtain ⟨q2, e⟩ := zd_g e
  refine zs_iald C 101 rfl (zd_vp q2) kd_Mo_contactCode_10 rfl ?_
  refine zk_istore_n (lv' := [(2, _), (0, _), (1, _)]) C kd_Mo_contactCode_11 rfl (by decide) rfl rfl ?_
  refine zk_aload_n C kd_Mo_contactCode_12 rfl 1 rfl rfl ?_
  refine zs_get (v := .ref (S.1 101)) C 68 52 rfl rfl rfl rfl ki_Mo (by decide) kw1735 kd_Mo_contactCode_13 rfl ?_
  refine zk_iload_n C kd_Mo_contactCode_16 rfl 2 rfl rfl ?_
  refine zs_iald C 101 rfl (zd_vp q1) kd_Mo_contactCode_17 rfl ?_
  refine zk_istore_n (lv' := [(3, _), (2, _), (0, _), (1, _)]) C kd_Mo_contactCode_18 rfl (by decide) rfl rfl ?_
  refine zk_aload_n C kd_Mo_contactCode_19 rfl 2 rfl rfl ?_
  refine zs_get (v := .ref (S.1 74)) C 68 17 rfl rfl rfl rfl ki_Mo (by decide) kw1700 kd_Mo_contactCode_20 rfl ?_
  refine zk_iload_n C kd_Mo_contactCode_23 rfl 3 rfl rfl ?_
  refine zs_iald C 74 rfl (zd_vp q1) kd_Mo_contactCode_24 rfl ?_
  refine zk_istore (lv' := [(4, _), (3, _), (2, _), (0, _), (1, _)]) C kd_Mo_contactCode_25 (by decide) rfl rfl ?_
  refine zk_aload_n C kd_Mo_contactCode_27 rfl 3 rfl rfl ?_
  refine zk_iconst (v := 1) C kd_Mo_contactCode_28 (by decide) rfl ?_
  refine zk_iload C kd_Mo_contactCode_29 0 rfl rfl ?_
  refine zk_iconst (v := 3) C kd_Mo_contactCode_31 (by decide) rfl ?_
  refine zk_icmp_ne (tgt := 39) C kd_Mo_contactCode_32 (by decide) rfl (fun b3 => ?_) (fun b3 => ?_)
  · replace e := zd_neg b3 e
    refine zk_iload_n C kd_Mo_contactCode_39 rfl 2 rfl rfl ?_
    refine zk_lvs (lv' := [(0, .ref (S.1 68)), (2, .int (h.2.1 101 (h.2.1 76 x1.toNatClampNeg).toNatClampNeg)), (3, .int (h.2.1 101 x1.toNatClampNeg)), (4, .int (h.2.1 74 x1.toNatClampNeg))]) [3, 2, 1, 0] rfl ?_
    exact zb_Mo_contactCode_40 C hR h (h.2.1 101 (h.2.1 76 x1.toNatClampNeg).toNatClampNeg) (h.2.1 101 x1.toNatClampNeg) (h.2.1 74 x1.toNatClampNeg) (h.2.1 101 (h.2.1 76 x1.toNatClampNeg).toNatClampNeg) 1 e
  · replace e := zd_pos b3 e
    refine zk_iload_n C kd_Mo_contactCode_35 rfl 1 rfl rfl ?_
    refine zk_goto (tgt := 40) C kd_Mo_contactCode_36 (by decide) ?_
    refine zk_lvs (lv' := [(0, .ref (S.1 68)), (2, .int (h.2.1 101 (h.2.1 76 x1.toNatClampNeg).toNatClampNeg)), (3, .int (h.2.1 101 x1.toNatClampNeg)), (4, .int (h.2.1 74 x1.toNatClampNeg))]) [3, 2, 1, 0] rfl ?_
    exact zb_Mo_contactCode_40 C hR h (h.2.1 101 (h.2.1 76 x1.toNatClampNeg).toNatClampNeg) (h.2.1 101 x1.toNatClampNeg) (h.2.1 74 x1.toNatClampNeg) (h.2.1 101 x1.toNatClampNeg) 1 e
set_option maxHeartbeats 4000000 in
set_option maxRecDepth 100000 in
theorem zc_Mo_powerCell {l : Launch} {D : va_G} {sz0 : Nat} {S : zs_T} {P : ze_T} (h : zs_H) (x1 : Int32) (x2 : Int32) (x3 : Int32) {rv : Int32} (e : f_Mo_powerCell h x1 x2 x3 = some rv) : zk_Sp (zs_G S l D sz0) (ze_E P) km_Mo_powerCell { frames := 2, cells := 0, slots := 0, locals := 48 } [.ref (S.1 68), .int x1, .int x2, .int x3] (zs_W S h) (zd_PI S rv h) := by
  refine zk_met ku_Mo_powerCell (Nat.le_of_ble_eq_true rfl) (ze_Em P) ?_
  intro X C hR
  refine zk_lvs (lv' := [(0, .ref (S.1 68)), (1, .int x1), (2, .int x2), (3, .int x3)]) [0, 1, 2, 3] rfl ?_
  unfold f_Mo_powerCell at e
  refine zk_aload_n C kd_Mo_powerCell_0 rfl 0 rfl rfl ?_
  refine zs_get (v := .ref (S.1 88)) C 68 38 rfl rfl rfl rfl ki_Mo (by decide) kw1721 kd_Mo_powerCell_1 rfl ?_
  refine zk_aload_n C kd_Mo_powerCell_4 rfl 0 rfl rfl ?_
  refine zs_get (v := .int (h.1 68 58)) C 68 58 rfl rfl rfl rfl ki_Mo (by decide) kw1741 kd_Mo_powerCell_5 rfl ?_
  obtain ⟨q1, e⟩ := zd_g e
  refine zs_iald C 88 rfl (zd_vp q1) kd_Mo_powerCell_8 rfl ?_
  refine zk_sipush (v := 156) C kd_Mo_powerCell_9 (by decide) rfl ?_
  refine zk_isub C kd_Mo_powerCell_12 rfl ?_
  refine zk_bipush (v := 12) C kd_Mo_powerCell_13 (by decide) rfl ?_
  refine zk_iload_n C kd_Mo_powerCell_15 rfl 3 rfl rfl ?_
  refine zk_iconst (v := 1) C kd_Mo_powerCell_16 (by decide) rfl ?_
  refine zk_isub C kd_Mo_powerCell_17 rfl ?_
  refine zk_imul C kd_Mo_powerCell_18 rfl ?_
  refine zk_iadd C kd_Mo_powerCell_19 rfl ?_
  refine zk_aload_n C kd_Mo_powerCell_20 rfl 0 rfl rfl ?_
  refine zk_iload_n C kd_Mo_powerCell_21 rfl 1 rfl rfl ?_
  refine zk_iload_n C kd_Mo_powerCell_22 rfl 2 rfl rfl ?_
  refine zk_iload_n C kd_Mo_powerCell_23 rfl 3 rfl rfl ?_
  obtain ⟨v3, c2, e⟩ := zd_b e
  refine zs_callV (k := 68) (rn := { frames := 1, cells := 0, slots := 0, locals := 24 }) (As := [.int x1, .int x2, .int x3]) (rest := [.int (((h.2.1 88 (h.1 68 58).toNatClampNeg) - 156) + (12 * (x3 - 1)))]) C (zc_Mo_leastRow h x1 x2 x3 c2) ku_Mo_leastRow kw2636 kv_Mo_leastRow rfl ⟨by decide, by decide⟩ ⟨by decide, by decide⟩ rfl rfl rfl (Nat.le_of_ble_eq_true rfl) kd_Mo_powerCell_24 rfl (c1 := 0) (s1 := 0) rfl rfl (fun v w hp => ?_)
  obtain ⟨rfl, rfl⟩ := hp
  refine zk_stk (r' := [.int v3, .int (((h.2.1 88 (h.1 68 58).toNatClampNeg) - 156) + (12 * (x3 - 1)))]) rfl ?_
  refine zk_iadd C kd_Mo_powerCell_27 rfl ?_
  exact zk_iret C hR kd_Mo_powerCell_28 rfl rfl (zd_rIO e)
