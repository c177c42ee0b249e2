theorem kw1081 : Jvm.Cond.methodLink "PlantKeeper$Judge" (227 : Nat) ({ cls := "PlantKeeper$Tree", name := "second", desc := "(I)I" } : Jvm.MethodName) ∈ zk_BW := zk_inT 1081 (by decide +kernel) rfl
theorem kw1082 : Jvm.Cond.instanceMethod ({ cls := "PlantKeeper$Tree", name := "second", desc := "(I)I" } : Jvm.MethodName) ∈ zk_BW := zk_inT 1082 (by decide +kernel) rfl
theorem kw1083 : Jvm.Cond.selects "PlantKeeper$Tree" ({ cls := "PlantKeeper$Tree", name := "second", desc := "(I)I" } : Jvm.MethodName) ({ cls := "PlantKeeper$Tree", name := "second", desc := "(I)I" } : Jvm.MethodName) ∈ zk_BW := zk_inT 1083 (by decide +kernel) rfl
theorem kw1084 : Jvm.Cond.code ({ cls := "PlantKeeper$Tree", name := "second", desc := "(I)I" } : Jvm.MethodName) prog_12_method_4_code (3 : Nat) (Option.some FieldType.int) ∈ zk_BW := zk_inT 1084 (by decide +kernel) rfl
theorem kw1089 : Jvm.Cond.methodLink "PlantKeeper$Judge" (240 : Nat) ({ cls := "PlantKeeper$Judge", name := "isInRange", desc := "(II)Z" } : Jvm.MethodName) ∈ zk_BW := zk_inT 1089 (by decide +kernel) rfl
theorem kw1091 : Jvm.Cond.instanceMethod ({ cls := "PlantKeeper$Judge", name := "isInRange", desc := "(II)Z" } : Jvm.MethodName) ∈ zk_BW := zk_inT 1091 (by decide +kernel) rfl
theorem kw1092 : Jvm.Cond.code ({ cls := "PlantKeeper$Judge", name := "isInRange", desc := "(II)Z" } : Jvm.MethodName) prog_4_method_19_code (4 : Nat) (Option.some FieldType.boolean) ∈ zk_BW := zk_inT 1092 (by decide +kernel) rfl
theorem kw1097 : Jvm.Cond.methodLink "PlantKeeper$Judge" (224 : Nat) ({ cls := "PlantKeeper$Judge", name := "placeCell", desc := "(I)I" } : Jvm.MethodName) ∈ zk_BW := zk_inT 1097 (by decide +kernel) rfl
theorem kw1098 : Jvm.Cond.static ({ cls := "PlantKeeper$Judge", name := "placeCell", desc := "(I)I" } : Jvm.MethodName) ∈ zk_BW := zk_inT 1098 (by decide +kernel) rfl
theorem kw1099 : Jvm.Cond.code ({ cls := "PlantKeeper$Judge", name := "placeCell", desc := "(I)I" } : Jvm.MethodName) prog_4_method_13_code (1 : Nat) (Option.some FieldType.int) ∈ zk_BW := zk_inT 1099 (by decide +kernel) rfl
theorem kw1108 : Jvm.Cond.instanceMethod ({ cls := "PlantKeeper$Judge", name := "judgePlace", desc := "(I)V" } : Jvm.MethodName) ∈ zk_BW := zk_inT 1108 (by decide +kernel) rfl
theorem kw1109 : Jvm.Cond.code ({ cls := "PlantKeeper$Judge", name := "judgePlace", desc := "(I)V" } : Jvm.MethodName) prog_4_method_14_code (4 : Nat) (Option.none : Option FieldType) ∈ zk_BW := zk_inT 1109 (by decide +kernel) rfl
theorem kw1112 : Jvm.Cond.instanceMethod ({ cls := "PlantKeeper$Judge", name := "judgeArray", desc := "(I)V" } : Jvm.MethodName) ∈ zk_BW := zk_inT 1112 (by decide +kernel) rfl
theorem kw1113 : Jvm.Cond.code ({ cls := "PlantKeeper$Judge", name := "judgeArray", desc := "(I)V" } : Jvm.MethodName) prog_4_method_15_code (8 : Nat) (Option.none : Option FieldType) ∈ zk_BW := zk_inT 1113 (by decide +kernel) rfl
theorem kw1114 : Jvm.Cond.constantLong "PlantKeeper$Judge" (230 : Nat) (256 : Int64) ∈ zk_BW := zk_inT 1114 (by decide +kernel) rfl
theorem kw1117 : Jvm.Cond.instanceMethod ({ cls := "PlantKeeper$Judge", name := "judgeBlockType", desc := "(I)V" } : Jvm.MethodName) ∈ zk_BW := zk_inT 1117 (by decide +kernel) rfl
theorem kw1118 : Jvm.Cond.code ({ cls := "PlantKeeper$Judge", name := "judgeBlockType", desc := "(I)V" } : Jvm.MethodName) prog_4_method_16_code (4 : Nat) (Option.none : Option FieldType) ∈ zk_BW := zk_inT 1118 (by decide +kernel) rfl
theorem kw1121 : Jvm.Cond.instanceMethod ({ cls := "PlantKeeper$Judge", name := "judgeAssignment", desc := "(I)V" } : Jvm.MethodName) ∈ zk_BW := zk_inT 1121 (by decide +kernel) rfl
theorem kw1122 : Jvm.Cond.code ({ cls := "PlantKeeper$Judge", name := "judgeAssignment", desc := "(I)V" } : Jvm.MethodName) prog_4_method_32_code (3 : Nat) (Option.none : Option FieldType) ∈ zk_BW := zk_inT 1122 (by decide +kernel) rfl
theorem kw1132 : Jvm.Cond.instanceMethod ({ cls := "PlantKeeper$Judge", name := "judgeParameter", desc := "(I)V" } : Jvm.MethodName) ∈ zk_BW := zk_inT 1132 (by decide +kernel) rfl
theorem kw1133 : Jvm.Cond.code ({ cls := "PlantKeeper$Judge", name := "judgeParameter", desc := "(I)V" } : Jvm.MethodName) prog_4_method_34_code (3 : Nat) (Option.none : Option FieldType) ∈ zk_BW := zk_inT 1133 (by decide +kernel) rfl
theorem kw1134 : Jvm.Cond.methodLink "PlantKeeper$Judge" (255 : Nat) ({ cls := "PlantKeeper$Plan", name := "variableOf", desc := "(II)I" } : Jvm.MethodName) ∈ zk_BW := zk_inT 1134 (by decide +kernel) rfl
theorem kw1138 : Jvm.Cond.methodLink "PlantKeeper$Judge" (325 : Nat) ({ cls := "PlantKeeper$Judge", name := "isToldBefore", desc := "(I)Z" } : Jvm.MethodName) ∈ zk_BW := zk_inT 1138 (by decide +kernel) rfl
theorem kw1140 : Jvm.Cond.instanceMethod ({ cls := "PlantKeeper$Judge", name := "isToldBefore", desc := "(I)Z" } : Jvm.MethodName) ∈ zk_BW := zk_inT 1140 (by decide +kernel) rfl
theorem kw1141 : Jvm.Cond.code ({ cls := "PlantKeeper$Judge", name := "isToldBefore", desc := "(I)Z" } : Jvm.MethodName) prog_4_method_35_code (4 : Nat) (Option.some FieldType.boolean) ∈ zk_BW := zk_inT 1141 (by decide +kernel) rfl
theorem kw1142 : Jvm.Cond.methodLink "PlantKeeper$Judge" (172 : Nat) ({ cls := "PlantKeeper$Judge", name := "variableAt", desc := "(II)I" } : Jvm.MethodName) ∈ zk_BW := zk_inT 1142 (by decide +kernel) rfl
theorem kw1144 : Jvm.Cond.instanceMethod ({ cls := "PlantKeeper$Judge", name := "variableAt", desc := "(II)I" } : Jvm.MethodName) ∈ zk_BW := zk_inT 1144 (by decide +kernel) rfl
theorem kw1145 : Jvm.Cond.code ({ cls := "PlantKeeper$Judge", name := "variableAt", desc := "(II)I" } : Jvm.MethodName) prog_4_method_21_code (5 : Nat) (Option.some FieldType.int) ∈ zk_BW := zk_inT 1145 (by decide +kernel) rfl
theorem kw1148 : Jvm.Cond.instanceMethod ({ cls := "PlantKeeper$Judge", name := "judgeIf", desc := "(I)V" } : Jvm.MethodName) ∈ zk_BW := zk_inT 1148 (by decide +kernel) rfl
theorem kw1149 : Jvm.Cond.code ({ cls := "PlantKeeper$Judge", name := "judgeIf", desc := "(I)V" } : Jvm.MethodName) prog_4_method_36_code (4 : Nat) (Option.none : Option FieldType) ∈ zk_BW := zk_inT 1149 (by decide +kernel) rfl
theorem kw1152 : Jvm.Cond.instanceMethod ({ cls := "PlantKeeper$Judge", name := "judgeRange", desc := "(I)V" } : Jvm.MethodName) ∈ zk_BW := zk_inT 1152 (by decide +kernel) rfl
theorem kw1153 : Jvm.Cond.code ({ cls := "PlantKeeper$Judge", name := "judgeRange", desc := "(I)V" } : Jvm.MethodName) prog_4_method_37_code (5 : Nat) (Option.none : Option FieldType) ∈ zk_BW := zk_inT 1153 (by decide +kernel) rfl
theorem kw1156 : Jvm.Cond.instanceMethod ({ cls := "PlantKeeper$Judge", name := "judgeFor", desc := "(I)V" } : Jvm.MethodName) ∈ zk_BW := zk_inT 1156 (by decide +kernel) rfl
theorem kw1157 : Jvm.Cond.code ({ cls := "PlantKeeper$Judge", name := "judgeFor", desc := "(I)V" } : Jvm.MethodName) prog_4_method_38_code (7 : Nat) (Option.none : Option FieldType) ∈ zk_BW := zk_inT 1157 (by decide +kernel) rfl
theorem kw1162 : Jvm.Cond.methodLink "PlantKeeper$Judge" (328 : Nat) ({ cls := "PlantKeeper$Tree", name := "stepOf", desc := "(I)I" } : Jvm.MethodName) ∈ zk_BW := zk_inT 1162 (by decide +kernel) rfl
theorem kw1163 : Jvm.Cond.instanceMethod ({ cls := "PlantKeeper$Tree", name := "stepOf", desc := "(I)I" } : Jvm.MethodName) ∈ zk_BW := zk_inT 1163 (by decide +kernel) rfl
theorem kw1164 : Jvm.Cond.selects "PlantKeeper$Tree" ({ cls := "PlantKeeper$Tree", name := "stepOf", desc := "(I)I" } : Jvm.MethodName) ({ cls := "PlantKeeper$Tree", name := "stepOf", desc := "(I)I" } : Jvm.MethodName) ∈ zk_BW := zk_inT 1164 (by decide +kernel) rfl
theorem kw1165 : Jvm.Cond.code ({ cls := "PlantKeeper$Tree", name := "stepOf", desc := "(I)I" } : Jvm.MethodName) prog_12_method_5_code (4 : Nat) (Option.some FieldType.int) ∈ zk_BW := zk_inT 1165 (by decide +kernel) rfl
theorem kw1166 : Jvm.Cond.methodLink "PlantKeeper$Tree" (44 : Nat) ({ cls := "PlantKeeper$Tree", name := "second", desc := "(I)I" } : Jvm.MethodName) ∈ zk_BW := zk_inT 1166 (by decide +kernel) rfl
theorem kw1167 : Jvm.Cond.methodLink "PlantKeeper$Tree" (48 : Nat) ({ cls := "PlantKeeper$Tree", name := "isConstant", desc := "(I)Z" } : Jvm.MethodName) ∈ zk_BW := zk_inT 1167 (by decide +kernel) rfl
theorem kw1168 : Jvm.Cond.methodLink "PlantKeeper$Judge" (331 : Nat) ({ cls := "PlantKeeper$Code", name := "times", desc := "(III)J" } : Jvm.MethodName) ∈ zk_BW := zk_inT 1168 (by decide +kernel) rfl
theorem kw1169 : Jvm.Cond.static ({ cls := "PlantKeeper$Code", name := "times", desc := "(III)J" } : Jvm.MethodName) ∈ zk_BW := zk_inT 1169 (by decide +kernel) rfl
theorem kw1170 : Jvm.Cond.code ({ cls := "PlantKeeper$Code", name := "times", desc := "(III)J" } : Jvm.MethodName) prog_2_method_14_code (7 : Nat) (Option.some FieldType.long) ∈ zk_BW := zk_inT 1170 (by decide +kernel) rfl
theorem kw1171 : Jvm.Cond.methodLink "PlantKeeper$Code" (62 : Nat) ({ cls := "java/lang/Math", name := "abs", desc := "(J)J" } : Jvm.MethodName) ∈ zk_BW := zk_inT 1171 (by decide +kernel) rfl
theorem kw1172 : Jvm.Cond.static ({ cls := "java/lang/Math", name := "abs", desc := "(J)J" } : Jvm.MethodName) ∈ zk_BW := zk_inT 1172 (by decide +kernel) rfl
theorem kw1174 : Jvm.Cond.constantLong "PlantKeeper$Judge" (335 : Nat) (1000000 : Int64) ∈ zk_BW := zk_inT 1174 (by decide +kernel) rfl
abbrev kc_Cd_times : ByteArray := prog_2_method_14_code
def km_Cd_times : zk_MT := (⟨"PlantKeeper$Code", "times", "(III)J"⟩, kc_Cd_times, 7, some .long, 3)
theorem ku_Cd_times : zk_My km_Cd_times := ⟨kw1170, kw12, by decide, by decide, by decide, by decide +kernel⟩
theorem ks_Cd_times : Cond.static km_Cd_times.1 ∈ zk_BW := kw1169
abbrev kc_Jd_isInRange : ByteArray := prog_4_method_19_code
def km_Jd_isInRange : zk_MT := (⟨"PlantKeeper$Judge", "isInRange", "(II)Z"⟩, kc_Jd_isInRange, 4, some .boolean, 2)
theorem ku_Jd_isInRange : zk_My km_Jd_isInRange := ⟨kw1092, kw11, by decide, by decide, by decide, by decide +kernel⟩
theorem kv_Jd_isInRange : zk_Mv km_Jd_isInRange := ⟨kw1091, zk_inS 59 (q := (⟨"PlantKeeper$Judge", "isInRange", "(II)Z"⟩, 14)) (by decide +kernel)⟩
abbrev kc_Jd_isToldBefore : ByteArray := prog_4_method_35_code
def km_Jd_isToldBefore : zk_MT := (⟨"PlantKeeper$Judge", "isToldBefore", "(I)Z"⟩, kc_Jd_isToldBefore, 4, some .boolean, 1)
theorem ku_Jd_isToldBefore : zk_My km_Jd_isToldBefore := ⟨kw1141, kw11, by decide, by decide, by decide, by decide +kernel⟩
theorem kv_Jd_isToldBefore : zk_Mv km_Jd_isToldBefore := ⟨kw1140, zk_inS 68 (q := (⟨"PlantKeeper$Judge", "isToldBefore", "(I)Z"⟩, 14)) (by decide +kernel)⟩
abbrev kc_Jd_judgeArray : ByteArray := prog_4_method_15_code
def km_Jd_judgeArray : zk_MT := (⟨"PlantKeeper$Judge", "judgeArray", "(I)V"⟩, kc_Jd_judgeArray, 8, none, 1)
theorem ku_Jd_judgeArray : zk_My km_Jd_judgeArray := ⟨kw1113, kw11, by decide, by decide, by decide, by decide +kernel⟩
theorem kv_Jd_judgeArray : zk_Mv km_Jd_judgeArray := ⟨kw1112, zk_inS 63 (q := (⟨"PlantKeeper$Judge", "judgeArray", "(I)V"⟩, 14)) (by decide +kernel)⟩
abbrev kc_Jd_judgeAssignment : ByteArray := prog_4_method_32_code
def km_Jd_judgeAssignment : zk_MT := (⟨"PlantKeeper$Judge", "judgeAssignment", "(I)V"⟩, kc_Jd_judgeAssignment, 3, none, 1)
theorem ku_Jd_judgeAssignment : zk_My km_Jd_judgeAssignment := ⟨kw1122, kw11, by decide, by decide, by decide, by decide +kernel⟩
theorem kv_Jd_judgeAssignment : zk_Mv km_Jd_judgeAssignment := ⟨kw1121, zk_inS 65 (q := (⟨"PlantKeeper$Judge", "judgeAssignment", "(I)V"⟩, 14)) (by decide +kernel)⟩
abbrev kc_Jd_judgeBlockType : ByteArray := prog_4_method_16_code
def km_Jd_judgeBlockType : zk_MT := (⟨"PlantKeeper$Judge", "judgeBlockType", "(I)V"⟩, kc_Jd_judgeBlockType, 4, none, 1)
theorem ku_Jd_judgeBlockType : zk_My km_Jd_judgeBlockType := ⟨kw1118, kw11, by decide, by decide, by decide, by decide +kernel⟩
theorem kv_Jd_judgeBlockType : zk_Mv km_Jd_judgeBlockType := ⟨kw1117, zk_inS 64 (q := (⟨"PlantKeeper$Judge", "judgeBlockType", "(I)V"⟩, 14)) (by decide +kernel)⟩
abbrev kc_Jd_judgeFor : ByteArray := prog_4_method_38_code
def km_Jd_judgeFor : zk_MT := (⟨"PlantKeeper$Judge", "judgeFor", "(I)V"⟩, kc_Jd_judgeFor, 7, none, 1)
theorem ku_Jd_judgeFor : zk_My km_Jd_judgeFor := ⟨kw1157, kw11, by decide, by decide, by decide, by decide +kernel⟩
theorem kv_Jd_judgeFor : zk_Mv km_Jd_judgeFor := ⟨kw1156, zk_inS 72 (q := (⟨"PlantKeeper$Judge", "judgeFor", "(I)V"⟩, 14)) (by decide +kernel)⟩
abbrev kc_Jd_judgeIf : ByteArray := prog_4_method_36_code
def km_Jd_judgeIf : zk_MT := (⟨"PlantKeeper$Judge", "judgeIf", "(I)V"⟩, kc_Jd_judgeIf, 4, none, 1)
theorem ku_Jd_judgeIf : zk_My km_Jd_judgeIf := ⟨kw1149, kw11, by decide, by decide, by decide, by decide +kernel⟩
theorem kv_Jd_judgeIf : zk_Mv km_Jd_judgeIf := ⟨kw1148, zk_inS 70 (q := (⟨"PlantKeeper$Judge", "judgeIf", "(I)V"⟩, 14)) (by decide +kernel)⟩
abbrev kc_Jd_judgeParameter : ByteArray := prog_4_method_34_code
def km_Jd_judgeParameter : zk_MT := (⟨"PlantKeeper$Judge", "judgeParameter", "(I)V"⟩, kc_Jd_judgeParameter, 3, none, 1)
theorem ku_Jd_judgeParameter : zk_My km_Jd_judgeParameter := ⟨kw1133, kw11, by decide, by decide, by decide, by decide +kernel⟩
theorem kv_Jd_judgeParameter : zk_Mv km_Jd_judgeParameter := ⟨kw1132, zk_inS 67 (q := (⟨"PlantKeeper$Judge", "judgeParameter", "(I)V"⟩, 14)) (by decide +kernel)⟩
abbrev kc_Jd_judgePlace : ByteArray := prog_4_method_14_code
def km_Jd_judgePlace : zk_MT := (⟨"PlantKeeper$Judge", "judgePlace", "(I)V"⟩, kc_Jd_judgePlace, 4, none, 1)
theorem ku_Jd_judgePlace : zk_My km_Jd_judgePlace := ⟨kw1109, kw11, by decide, by decide, by decide, by decide +kernel⟩
theorem kv_Jd_judgePlace : zk_Mv km_Jd_judgePlace := ⟨kw1108, zk_inS 62 (q := (⟨"PlantKeeper$Judge", "judgePlace", "(I)V"⟩, 14)) (by decide +kernel)⟩
abbrev kc_Jd_judgeRange : ByteArray := prog_4_method_37_code
def km_Jd_judgeRange : zk_MT := (⟨"PlantKeeper$Judge", "judgeRange", "(I)V"⟩, kc_Jd_judgeRange, 5, none, 1)
theorem ku_Jd_judgeRange : zk_My km_Jd_judgeRange := ⟨kw1153, kw11, by decide, by decide, by decide, by decide +kernel⟩
theorem kv_Jd_judgeRange : zk_Mv km_Jd_judgeRange := ⟨kw1152, zk_inS 71 (q := (⟨"PlantKeeper$Judge", "judgeRange", "(I)V"⟩, 14)) (by decide +kernel)⟩
abbrev kc_Jd_placeCell : ByteArray := prog_4_method_13_code
def km_Jd_placeCell : zk_MT := (⟨"PlantKeeper$Judge", "placeCell", "(I)I"⟩, kc_Jd_placeCell, 1, some .int, 1)
theorem ku_Jd_placeCell : zk_My km_Jd_placeCell := ⟨kw1099, kw11, by decide, by decide, by decide, by decide +kernel⟩
theorem ks_Jd_placeCell : Cond.static km_Jd_placeCell.1 ∈ zk_BW := kw1098
abbrev kc_Jd_variableAt : ByteArray := prog_4_method_21_code
def km_Jd_variableAt : zk_MT := (⟨"PlantKeeper$Judge", "variableAt", "(II)I"⟩, kc_Jd_variableAt, 5, some .int, 2)
theorem ku_Jd_variableAt : zk_My km_Jd_variableAt := ⟨kw1145, kw11, by decide, by decide, by decide, by decide +kernel⟩
theorem kv_Jd_variableAt : zk_Mv km_Jd_variableAt := ⟨kw1144, zk_inS 69 (q := (⟨"PlantKeeper$Judge", "variableAt", "(II)I"⟩, 14)) (by decide +kernel)⟩
abbrev kc_Tr_second : ByteArray := prog_12_method_4_code
def km_Tr_second : zk_MT := (⟨"PlantKeeper$Tree", "second", "(I)I"⟩, kc_Tr_second, 3, some .int, 1)
theorem ku_Tr_second : zk_My km_Tr_second := ⟨kw1084, kw8, by decide, by decide, by decide, by decide +kernel⟩
theorem kv_Tr_second : zk_Mv km_Tr_second := ⟨kw1082, kw1083⟩
abbrev kc_Tr_stepOf : ByteArray := prog_12_method_5_code
def km_Tr_stepOf : zk_MT := (⟨"PlantKeeper$Tree", "stepOf", "(I)I"⟩, kc_Tr_stepOf, 4, some .int, 1)
theorem ku_Tr_stepOf : zk_My km_Tr_stepOf := ⟨kw1165, kw8, by decide, by decide, by decide, by decide +kernel⟩
theorem kv_Tr_stepOf : zk_Mv km_Tr_stepOf := ⟨kw1163, kw1164⟩
theorem kd_Cd_times_0 : decode kc_Cd_times 0 = .ok (.iload_n 2, 1) := by decide +kernel
theorem kd_Cd_times_1 : decode kc_Cd_times 1 = .ok (.ifCond .le 11, 3) := by decide +kernel
theorem kd_Cd_times_4 : decode kc_Cd_times 4 = .ok (.iload_n 1, 1) := by decide +kernel
theorem kd_Cd_times_5 : decode kc_Cd_times 5 = .ok (.i2l, 1) := by decide +kernel
theorem kd_Cd_times_6 : decode kc_Cd_times 6 = .ok (.iload_n 0, 1) := by decide +kernel
theorem kd_Cd_times_7 : decode kc_Cd_times 7 = .ok (.i2l, 1) := by decide +kernel
theorem kd_Cd_times_8 : decode kc_Cd_times 8 = .ok (.lsub, 1) := by decide +kernel
theorem kd_Cd_times_9 : decode kc_Cd_times 9 = .ok (.goto 8, 3) := by decide +kernel
theorem kd_Cd_times_12 : decode kc_Cd_times 12 = .ok (.iload_n 0, 1) := by decide +kernel
theorem kd_Cd_times_13 : decode kc_Cd_times 13 = .ok (.i2l, 1) := by decide +kernel
theorem kd_Cd_times_14 : decode kc_Cd_times 14 = .ok (.iload_n 1, 1) := by decide +kernel
theorem kd_Cd_times_15 : decode kc_Cd_times 15 = .ok (.i2l, 1) := by decide +kernel
theorem kd_Cd_times_16 : decode kc_Cd_times 16 = .ok (.lsub, 1) := by decide +kernel
theorem kd_Cd_times_17 : decode kc_Cd_times 17 = .ok (.lstore_n 3, 1) := by decide +kernel
theorem kd_Cd_times_18 : decode kc_Cd_times 18 = .ok (.iload_n 2, 1) := by decide +kernel
theorem kd_Cd_times_19 : decode kc_Cd_times 19 = .ok (.i2l, 1) := by decide +kernel
theorem kd_Cd_times_20 : decode kc_Cd_times 20 = .ok (.invokestatic 62, 3) := by decide +kernel
theorem kd_Cd_times_23 : decode kc_Cd_times 23 = .ok (.lstore 5, 2) := by decide +kernel
theorem kd_Cd_times_25 : decode kc_Cd_times 25 = .ok (.lload_n 3, 1) := by decide +kernel
theorem kd_Cd_times_26 : decode kc_Cd_times 26 = .ok (.lconst 0, 1) := by decide +kernel
theorem kd_Cd_times_27 : decode kc_Cd_times 27 = .ok (.lcmp, 1) := by decide +kernel
theorem kd_Cd_times_28 : decode kc_Cd_times 28 = .ok (.ifCond .lt 10, 3) := by decide +kernel
theorem kd_Cd_times_31 : decode kc_Cd_times 31 = .ok (.lload 5, 2) := by decide +kernel
theorem kd_Cd_times_33 : decode kc_Cd_times 33 = .ok (.lconst 0, 1) := by decide +kernel
theorem kd_Cd_times_34 : decode kc_Cd_times 34 = .ok (.lcmp, 1) := by decide +kernel
theorem kd_Cd_times_35 : decode kc_Cd_times 35 = .ok (.ifCond .ne 7, 3) := by decide +kernel
theorem kd_Cd_times_38 : decode kc_Cd_times 38 = .ok (.lconst 0, 1) := by decide +kernel
theorem kd_Cd_times_39 : decode kc_Cd_times 39 = .ok (.goto 9, 3) := by decide +kernel
theorem kd_Cd_times_42 : decode kc_Cd_times 42 = .ok (.lload_n 3, 1) := by decide +kernel
theorem kd_Cd_times_43 : decode kc_Cd_times 43 = .ok (.lload 5, 2) := by decide +kernel
theorem kd_Cd_times_45 : decode kc_Cd_times 45 = .ok (.ldiv, 1) := by decide +kernel
theorem kd_Cd_times_46 : decode kc_Cd_times 46 = .ok (.lconst 1, 1) := by decide +kernel
theorem kd_Cd_times_47 : decode kc_Cd_times 47 = .ok (.ladd, 1) := by decide +kernel
theorem kd_Cd_times_48 : decode kc_Cd_times 48 = .ok (.lreturn, 1) := by decide +kernel
theorem kd_Jd_isInRange_0 : decode kc_Jd_isInRange 0 = .ok (.aload_n 0, 1) := by decide +kernel
theorem kd_Jd_isInRange_1 : decode kc_Jd_isInRange 1 = .ok (.getfield 9, 3) := by decide +kernel
theorem kd_Jd_isInRange_4 : decode kc_Jd_isInRange 4 = .ok (.getfield 78, 3) := by decide +kernel
theorem kd_Jd_isInRange_7 : decode kc_Jd_isInRange 7 = .ok (.iload_n 2, 1) := by decide +kernel
theorem kd_Jd_isInRange_8 : decode kc_Jd_isInRange 8 = .ok (.iaload, 1) := by decide +kernel
theorem kd_Jd_isInRange_9 : decode kc_Jd_isInRange 9 = .ok (.istore_n 3, 1) := by decide +kernel
theorem kd_Jd_isInRange_10 : decode kc_Jd_isInRange 10 = .ok (.iload_n 1, 1) := by decide +kernel
theorem kd_Jd_isInRange_11 : decode kc_Jd_isInRange 11 = .ok (.iconst 1, 1) := by decide +kernel
theorem kd_Jd_isInRange_12 : decode kc_Jd_isInRange 12 = .ok (.if_icmp .ne 17, 3) := by decide +kernel
theorem kd_Jd_isInRange_15 : decode kc_Jd_isInRange 15 = .ok (.iload_n 3, 1) := by decide +kernel
theorem kd_Jd_isInRange_16 : decode kc_Jd_isInRange 16 = .ok (.sipush (-32768), 3) := by decide +kernel
theorem kd_Jd_isInRange_19 : decode kc_Jd_isInRange 19 = .ok (.if_icmp .lt 14, 3) := by decide +kernel
theorem kd_Jd_isInRange_22 : decode kc_Jd_isInRange 22 = .ok (.iload_n 3, 1) := by decide +kernel
theorem kd_Jd_isInRange_23 : decode kc_Jd_isInRange 23 = .ok (.sipush 32767, 3) := by decide +kernel
theorem kd_Jd_isInRange_26 : decode kc_Jd_isInRange 26 = .ok (.if_icmp .gt 7, 3) := by decide +kernel
theorem kd_Jd_isInRange_29 : decode kc_Jd_isInRange 29 = .ok (.iconst 1, 1) := by decide +kernel
theorem kd_Jd_isInRange_30 : decode kc_Jd_isInRange 30 = .ok (.goto 4, 3) := by decide +kernel
theorem kd_Jd_isInRange_33 : decode kc_Jd_isInRange 33 = .ok (.iconst 0, 1) := by decide +kernel
theorem kd_Jd_isInRange_34 : decode kc_Jd_isInRange 34 = .ok (.ireturn, 1) := by decide +kernel
theorem kd_Jd_isToldBefore_0 : decode kc_Jd_isToldBefore 0 = .ok (.aload_n 0, 1) := by decide +kernel
theorem kd_Jd_isToldBefore_1 : decode kc_Jd_isToldBefore 1 = .ok (.getfield 90, 3) := by decide +kernel
theorem kd_Jd_isToldBefore_4 : decode kc_Jd_isToldBefore 4 = .ok (.istore_n 2, 1) := by decide +kernel
theorem kd_Jd_isToldBefore_5 : decode kc_Jd_isToldBefore 5 = .ok (.iconst 0, 1) := by decide +kernel
theorem kd_Jd_isToldBefore_6 : decode kc_Jd_isToldBefore 6 = .ok (.istore_n 3, 1) := by decide +kernel
theorem kd_Jd_isToldBefore_7 : decode kc_Jd_isToldBefore 7 = .ok (.iload_n 3, 1) := by decide +kernel
theorem kd_Jd_isToldBefore_8 : decode kc_Jd_isToldBefore 8 = .ok (.aload_n 0, 1) := by decide +kernel
theorem kd_Jd_isToldBefore_9 : decode kc_Jd_isToldBefore 9 = .ok (.getfield 9, 3) := by decide +kernel
theorem kd_Jd_isToldBefore_12 : decode kc_Jd_isToldBefore 12 = .ok (.getfield 52, 3) := by decide +kernel
theorem kd_Jd_isToldBefore_15 : decode kc_Jd_isToldBefore 15 = .ok (.if_icmp .ge 52, 3) := by decide +kernel
theorem kd_Jd_isToldBefore_18 : decode kc_Jd_isToldBefore 18 = .ok (.iload_n 2, 1) := by decide +kernel
theorem kd_Jd_isToldBefore_19 : decode kc_Jd_isToldBefore 19 = .ok (.iconst (-1), 1) := by decide +kernel
theorem kd_Jd_isToldBefore_20 : decode kc_Jd_isToldBefore 20 = .ok (.if_icmp .eq 47, 3) := by decide +kernel
theorem kd_Jd_isToldBefore_23 : decode kc_Jd_isToldBefore 23 = .ok (.iload_n 2, 1) := by decide +kernel
theorem kd_Jd_isToldBefore_24 : decode kc_Jd_isToldBefore 24 = .ok (.iload_n 1, 1) := by decide +kernel
theorem kd_Jd_isToldBefore_25 : decode kc_Jd_isToldBefore 25 = .ok (.if_icmp .eq 42, 3) := by decide +kernel
theorem kd_Jd_isToldBefore_28 : decode kc_Jd_isToldBefore 28 = .ok (.aload_n 0, 1) := by decide +kernel
theorem kd_Jd_isToldBefore_29 : decode kc_Jd_isToldBefore 29 = .ok (.getfield 9, 3) := by decide +kernel
theorem kd_Jd_isToldBefore_32 : decode kc_Jd_isToldBefore 32 = .ok (.getfield 78, 3) := by decide +kernel
theorem kd_Jd_isToldBefore_35 : decode kc_Jd_isToldBefore 35 = .ok (.iload_n 2, 1) := by decide +kernel
theorem kd_Jd_isToldBefore_36 : decode kc_Jd_isToldBefore 36 = .ok (.iaload, 1) := by decide +kernel
theorem kd_Jd_isToldBefore_37 : decode kc_Jd_isToldBefore 37 = .ok (.aload_n 0, 1) := by decide +kernel
theorem kd_Jd_isToldBefore_38 : decode kc_Jd_isToldBefore 38 = .ok (.getfield 9, 3) := by decide +kernel
theorem kd_Jd_isToldBefore_41 : decode kc_Jd_isToldBefore 41 = .ok (.getfield 78, 3) := by decide +kernel
theorem kd_Jd_isToldBefore_44 : decode kc_Jd_isToldBefore 44 = .ok (.iload_n 1, 1) := by decide +kernel
theorem kd_Jd_isToldBefore_45 : decode kc_Jd_isToldBefore 45 = .ok (.iaload, 1) := by decide +kernel
theorem kd_Jd_isToldBefore_46 : decode kc_Jd_isToldBefore 46 = .ok (.if_icmp .ne 5, 3) := by decide +kernel
theorem kd_Jd_isToldBefore_49 : decode kc_Jd_isToldBefore 49 = .ok (.iconst 1, 1) := by decide +kernel
theorem kd_Jd_isToldBefore_50 : decode kc_Jd_isToldBefore 50 = .ok (.ireturn, 1) := by decide +kernel
theorem kd_Jd_isToldBefore_51 : decode kc_Jd_isToldBefore 51 = .ok (.aload_n 0, 1) := by decide +kernel
theorem kd_Jd_isToldBefore_52 : decode kc_Jd_isToldBefore 52 = .ok (.getfield 9, 3) := by decide +kernel
theorem kd_Jd_isToldBefore_55 : decode kc_Jd_isToldBefore 55 = .ok (.getfield 55, 3) := by decide +kernel
theorem kd_Jd_isToldBefore_58 : decode kc_Jd_isToldBefore 58 = .ok (.iload_n 2, 1) := by decide +kernel
theorem kd_Jd_isToldBefore_59 : decode kc_Jd_isToldBefore 59 = .ok (.iaload, 1) := by decide +kernel
theorem kd_Jd_isToldBefore_60 : decode kc_Jd_isToldBefore 60 = .ok (.istore_n 2, 1) := by decide +kernel
theorem kd_Jd_isToldBefore_61 : decode kc_Jd_isToldBefore 61 = .ok (.iinc 3 1, 3) := by decide +kernel
theorem kd_Jd_isToldBefore_64 : decode kc_Jd_isToldBefore 64 = .ok (.goto (-57), 3) := by decide +kernel
theorem kd_Jd_isToldBefore_67 : decode kc_Jd_isToldBefore 67 = .ok (.iconst 0, 1) := by decide +kernel
theorem kd_Jd_isToldBefore_68 : decode kc_Jd_isToldBefore 68 = .ok (.ireturn, 1) := by decide +kernel
theorem kd_Jd_judgeArray_0 : decode kc_Jd_judgeArray 0 = .ok (.aload_n 0, 1) := by decide +kernel
theorem kd_Jd_judgeArray_1 : decode kc_Jd_judgeArray 1 = .ok (.getfield 9, 3) := by decide +kernel
theorem kd_Jd_judgeArray_4 : decode kc_Jd_judgeArray 4 = .ok (.getfield 49, 3) := by decide +kernel
theorem kd_Jd_judgeArray_7 : decode kc_Jd_judgeArray 7 = .ok (.iload_n 1, 1) := by decide +kernel
theorem kd_Jd_judgeArray_8 : decode kc_Jd_judgeArray 8 = .ok (.iaload, 1) := by decide +kernel
theorem kd_Jd_judgeArray_9 : decode kc_Jd_judgeArray 9 = .ok (.istore_n 2, 1) := by decide +kernel
theorem kd_Jd_judgeArray_10 : decode kc_Jd_judgeArray 10 = .ok (.aload_n 0, 1) := by decide +kernel
theorem kd_Jd_judgeArray_11 : decode kc_Jd_judgeArray 11 = .ok (.getfield 9, 3) := by decide +kernel
theorem kd_Jd_judgeArray_14 : decode kc_Jd_judgeArray 14 = .ok (.iload_n 1, 1) := by decide +kernel
theorem kd_Jd_judgeArray_15 : decode kc_Jd_judgeArray 15 = .ok (.invokevirtual 227, 3) := by decide +kernel
theorem kd_Jd_judgeArray_18 : decode kc_Jd_judgeArray 18 = .ok (.istore_n 3, 1) := by decide +kernel
theorem kd_Jd_judgeArray_19 : decode kc_Jd_judgeArray 19 = .ok (.aload_n 0, 1) := by decide +kernel
theorem kd_Jd_judgeArray_20 : decode kc_Jd_judgeArray 20 = .ok (.getfield 9, 3) := by decide +kernel
theorem kd_Jd_judgeArray_23 : decode kc_Jd_judgeArray 23 = .ok (.getfield 71, 3) := by decide +kernel
theorem kd_Jd_judgeArray_26 : decode kc_Jd_judgeArray 26 = .ok (.iload_n 2, 1) := by decide +kernel
theorem kd_Jd_judgeArray_27 : decode kc_Jd_judgeArray 27 = .ok (.baload, 1) := by decide +kernel
theorem kd_Jd_judgeArray_28 : decode kc_Jd_judgeArray 28 = .ok (.bipush 31, 2) := by decide +kernel
theorem kd_Jd_judgeArray_30 : decode kc_Jd_judgeArray 30 = .ok (.if_icmp .eq 17, 3) := by decide +kernel
theorem kd_Jd_judgeArray_33 : decode kc_Jd_judgeArray 33 = .ok (.aload_n 0, 1) := by decide +kernel
theorem kd_Jd_judgeArray_34 : decode kc_Jd_judgeArray 34 = .ok (.getfield 9, 3) := by decide +kernel
theorem kd_Jd_judgeArray_37 : decode kc_Jd_judgeArray 37 = .ok (.getfield 71, 3) := by decide +kernel
theorem kd_Jd_judgeArray_40 : decode kc_Jd_judgeArray 40 = .ok (.iload_n 3, 1) := by decide +kernel
theorem kd_Jd_judgeArray_41 : decode kc_Jd_judgeArray 41 = .ok (.baload, 1) := by decide +kernel
theorem kd_Jd_judgeArray_42 : decode kc_Jd_judgeArray 42 = .ok (.bipush 31, 2) := by decide +kernel
theorem kd_Jd_judgeArray_44 : decode kc_Jd_judgeArray 44 = .ok (.if_icmp .ne 7, 3) := by decide +kernel
theorem kd_Jd_judgeArray_47 : decode kc_Jd_judgeArray 47 = .ok (.iconst 1, 1) := by decide +kernel
theorem kd_Jd_judgeArray_48 : decode kc_Jd_judgeArray 48 = .ok (.goto 4, 3) := by decide +kernel
theorem kd_Jd_judgeArray_51 : decode kc_Jd_judgeArray 51 = .ok (.iconst 0, 1) := by decide +kernel
theorem kd_Jd_judgeArray_52 : decode kc_Jd_judgeArray 52 = .ok (.istore 4, 2) := by decide +kernel
theorem kd_Jd_judgeArray_54 : decode kc_Jd_judgeArray 54 = .ok (.aload_n 0, 1) := by decide +kernel
theorem kd_Jd_judgeArray_55 : decode kc_Jd_judgeArray 55 = .ok (.getfield 9, 3) := by decide +kernel
theorem kd_Jd_judgeArray_58 : decode kc_Jd_judgeArray 58 = .ok (.getfield 78, 3) := by decide +kernel
theorem kd_Jd_judgeArray_61 : decode kc_Jd_judgeArray 61 = .ok (.iload_n 3, 1) := by decide +kernel
theorem kd_Jd_judgeArray_62 : decode kc_Jd_judgeArray 62 = .ok (.iaload, 1) := by decide +kernel
theorem kd_Jd_judgeArray_63 : decode kc_Jd_judgeArray 63 = .ok (.i2l, 1) := by decide +kernel
theorem kd_Jd_judgeArray_64 : decode kc_Jd_judgeArray 64 = .ok (.aload_n 0, 1) := by decide +kernel
theorem kd_Jd_judgeArray_65 : decode kc_Jd_judgeArray 65 = .ok (.getfield 9, 3) := by decide +kernel
theorem kd_Jd_judgeArray_68 : decode kc_Jd_judgeArray 68 = .ok (.getfield 78, 3) := by decide +kernel
theorem kd_Jd_judgeArray_71 : decode kc_Jd_judgeArray 71 = .ok (.iload_n 2, 1) := by decide +kernel
theorem kd_Jd_judgeArray_72 : decode kc_Jd_judgeArray 72 = .ok (.iaload, 1) := by decide +kernel
theorem kd_Jd_judgeArray_73 : decode kc_Jd_judgeArray 73 = .ok (.i2l, 1) := by decide +kernel
theorem kd_Jd_judgeArray_74 : decode kc_Jd_judgeArray 74 = .ok (.lsub, 1) := by decide +kernel
theorem kd_Jd_judgeArray_75 : decode kc_Jd_judgeArray 75 = .ok (.lconst 1, 1) := by decide +kernel
theorem kd_Jd_judgeArray_76 : decode kc_Jd_judgeArray 76 = .ok (.ladd, 1) := by decide +kernel
theorem kd_Jd_judgeArray_77 : decode kc_Jd_judgeArray 77 = .ok (.lstore 5, 2) := by decide +kernel
theorem kd_Jd_judgeArray_79 : decode kc_Jd_judgeArray 79 = .ok (.aload_n 0, 1) := by decide +kernel
theorem kd_Jd_judgeArray_80 : decode kc_Jd_judgeArray 80 = .ok (.getfield 15, 3) := by decide +kernel
theorem kd_Jd_judgeArray_83 : decode kc_Jd_judgeArray 83 = .ok (.getfield 219, 3) := by decide +kernel
theorem kd_Jd_judgeArray_86 : decode kc_Jd_judgeArray 86 = .ok (.aload_n 0, 1) := by decide +kernel
theorem kd_Jd_judgeArray_87 : decode kc_Jd_judgeArray 87 = .ok (.getfield 129, 3) := by decide +kernel
theorem kd_Jd_judgeArray_90 : decode kc_Jd_judgeArray 90 = .ok (.iaload, 1) := by decide +kernel
theorem kd_Jd_judgeArray_91 : decode kc_Jd_judgeArray 91 = .ok (.iconst 1, 1) := by decide +kernel
theorem kd_Jd_judgeArray_92 : decode kc_Jd_judgeArray 92 = .ok (.if_icmp .eq 8, 3) := by decide +kernel
theorem kd_Jd_judgeArray_95 : decode kc_Jd_judgeArray 95 = .ok (.iload 4, 2) := by decide +kernel
theorem kd_Jd_judgeArray_97 : decode kc_Jd_judgeArray 97 = .ok (.ifCond .eq 7, 3) := by decide +kernel
theorem kd_Jd_judgeArray_100 : decode kc_Jd_judgeArray 100 = .ok (.iconst 1, 1) := by decide +kernel
theorem kd_Jd_judgeArray_101 : decode kc_Jd_judgeArray 101 = .ok (.goto 4, 3) := by decide +kernel
theorem kd_Jd_judgeArray_104 : decode kc_Jd_judgeArray 104 = .ok (.iconst 0, 1) := by decide +kernel
theorem kd_Jd_judgeArray_105 : decode kc_Jd_judgeArray 105 = .ok (.istore 7, 2) := by decide +kernel
theorem kd_Jd_judgeArray_107 : decode kc_Jd_judgeArray 107 = .ok (.aload_n 0, 1) := by decide +kernel
theorem kd_Jd_judgeArray_108 : decode kc_Jd_judgeArray 108 = .ok (.iload 7, 2) := by decide +kernel
theorem kd_Jd_judgeArray_110 : decode kc_Jd_judgeArray 110 = .ok (.ifCond .ne 19, 3) := by decide +kernel
theorem kd_Jd_judgeArray_113 : decode kc_Jd_judgeArray 113 = .ok (.lload 5, 2) := by decide +kernel
theorem kd_Jd_judgeArray_115 : decode kc_Jd_judgeArray 115 = .ok (.lconst 1, 1) := by decide +kernel
theorem kd_Jd_judgeArray_116 : decode kc_Jd_judgeArray 116 = .ok (.lcmp, 1) := by decide +kernel
theorem kd_Jd_judgeArray_117 : decode kc_Jd_judgeArray 117 = .ok (.ifCond .lt 12, 3) := by decide +kernel
theorem kd_Jd_judgeArray_120 : decode kc_Jd_judgeArray 120 = .ok (.lload 5, 2) := by decide +kernel
theorem kd_Jd_judgeArray_122 : decode kc_Jd_judgeArray 122 = .ok (.ldc2_w 230, 3) := by decide +kernel
theorem kd_Jd_judgeArray_125 : decode kc_Jd_judgeArray 125 = .ok (.lcmp, 1) := by decide +kernel
theorem kd_Jd_judgeArray_126 : decode kc_Jd_judgeArray 126 = .ok (.ifCond .le 7, 3) := by decide +kernel
theorem kd_Jd_judgeArray_129 : decode kc_Jd_judgeArray 129 = .ok (.iconst 1, 1) := by decide +kernel
theorem kd_Jd_judgeArray_130 : decode kc_Jd_judgeArray 130 = .ok (.goto 4, 3) := by decide +kernel
theorem kd_Jd_judgeArray_133 : decode kc_Jd_judgeArray 133 = .ok (.iconst 0, 1) := by decide +kernel
theorem kd_Jd_judgeArray_134 : decode kc_Jd_judgeArray 134 = .ok (.bipush 16, 2) := by decide +kernel
theorem kd_Jd_judgeArray_136 : decode kc_Jd_judgeArray 136 = .ok (.iload_n 1, 1) := by decide +kernel
theorem kd_Jd_judgeArray_137 : decode kc_Jd_judgeArray 137 = .ok (.invokevirtual 112, 3) := by decide +kernel
theorem kd_Jd_judgeArray_140 : decode kc_Jd_judgeArray 140 = .ok (.return_, 1) := by decide +kernel
theorem kd_Jd_judgeAssignment_0 : decode kc_Jd_judgeAssignment 0 = .ok (.aload_n 0, 1) := by decide +kernel
theorem kd_Jd_judgeAssignment_1 : decode kc_Jd_judgeAssignment 1 = .ok (.getfield 9, 3) := by decide +kernel
theorem kd_Jd_judgeAssignment_4 : decode kc_Jd_judgeAssignment 4 = .ok (.getfield 49, 3) := by decide +kernel
theorem kd_Jd_judgeAssignment_7 : decode kc_Jd_judgeAssignment 7 = .ok (.iload_n 1, 1) := by decide +kernel
theorem kd_Jd_judgeAssignment_8 : decode kc_Jd_judgeAssignment 8 = .ok (.iaload, 1) := by decide +kernel
theorem kd_Jd_judgeAssignment_9 : decode kc_Jd_judgeAssignment 9 = .ok (.istore_n 2, 1) := by decide +kernel
theorem kd_Jd_judgeAssignment_10 : decode kc_Jd_judgeAssignment 10 = .ok (.aload_n 0, 1) := by decide +kernel
theorem kd_Jd_judgeAssignment_11 : decode kc_Jd_judgeAssignment 11 = .ok (.aload_n 0, 1) := by decide +kernel
theorem kd_Jd_judgeAssignment_12 : decode kc_Jd_judgeAssignment 12 = .ok (.getfield 9, 3) := by decide +kernel
theorem kd_Jd_judgeAssignment_15 : decode kc_Jd_judgeAssignment 15 = .ok (.getfield 78, 3) := by decide +kernel
theorem kd_Jd_judgeAssignment_18 : decode kc_Jd_judgeAssignment 18 = .ok (.iload_n 2, 1) := by decide +kernel
theorem kd_Jd_judgeAssignment_19 : decode kc_Jd_judgeAssignment 19 = .ok (.iaload, 1) := by decide +kernel
theorem kd_Jd_judgeAssignment_20 : decode kc_Jd_judgeAssignment 20 = .ok (.iload_n 1, 1) := by decide +kernel
theorem kd_Jd_judgeAssignment_21 : decode kc_Jd_judgeAssignment 21 = .ok (.invokevirtual 319, 3) := by decide +kernel
theorem kd_Jd_judgeAssignment_24 : decode kc_Jd_judgeAssignment 24 = .ok (.aload_n 0, 1) := by decide +kernel
theorem kd_Jd_judgeAssignment_25 : decode kc_Jd_judgeAssignment 25 = .ok (.aload_n 0, 1) := by decide +kernel
theorem kd_Jd_judgeAssignment_26 : decode kc_Jd_judgeAssignment 26 = .ok (.getfield 9, 3) := by decide +kernel
theorem kd_Jd_judgeAssignment_29 : decode kc_Jd_judgeAssignment 29 = .ok (.getfield 178, 3) := by decide +kernel
theorem kd_Jd_judgeAssignment_32 : decode kc_Jd_judgeAssignment 32 = .ok (.aload_n 0, 1) := by decide +kernel
theorem kd_Jd_judgeAssignment_33 : decode kc_Jd_judgeAssignment 33 = .ok (.getfield 9, 3) := by decide +kernel
theorem kd_Jd_judgeAssignment_36 : decode kc_Jd_judgeAssignment 36 = .ok (.getfield 55, 3) := by decide +kernel
theorem kd_Jd_judgeAssignment_39 : decode kc_Jd_judgeAssignment 39 = .ok (.iload_n 2, 1) := by decide +kernel
theorem kd_Jd_judgeAssignment_40 : decode kc_Jd_judgeAssignment 40 = .ok (.iaload, 1) := by decide +kernel
theorem kd_Jd_judgeAssignment_41 : decode kc_Jd_judgeAssignment 41 = .ok (.baload, 1) := by decide +kernel
theorem kd_Jd_judgeAssignment_42 : decode kc_Jd_judgeAssignment 42 = .ok (.aload_n 0, 1) := by decide +kernel
theorem kd_Jd_judgeAssignment_43 : decode kc_Jd_judgeAssignment 43 = .ok (.getfield 9, 3) := by decide +kernel
theorem kd_Jd_judgeAssignment_46 : decode kc_Jd_judgeAssignment 46 = .ok (.getfield 178, 3) := by decide +kernel
theorem kd_Jd_judgeAssignment_49 : decode kc_Jd_judgeAssignment 49 = .ok (.iload_n 2, 1) := by decide +kernel
theorem kd_Jd_judgeAssignment_50 : decode kc_Jd_judgeAssignment 50 = .ok (.baload, 1) := by decide +kernel
theorem kd_Jd_judgeAssignment_51 : decode kc_Jd_judgeAssignment 51 = .ok (.invokestatic 267, 3) := by decide +kernel
theorem kd_Jd_judgeAssignment_54 : decode kc_Jd_judgeAssignment 54 = .ok (.ifCond .ne 7, 3) := by decide +kernel
theorem kd_Jd_judgeAssignment_57 : decode kc_Jd_judgeAssignment 57 = .ok (.iconst 1, 1) := by decide +kernel
theorem kd_Jd_judgeAssignment_58 : decode kc_Jd_judgeAssignment 58 = .ok (.goto 4, 3) := by decide +kernel
theorem kd_Jd_judgeAssignment_61 : decode kc_Jd_judgeAssignment 61 = .ok (.iconst 0, 1) := by decide +kernel
theorem kd_Jd_judgeAssignment_62 : decode kc_Jd_judgeAssignment 62 = .ok (.bipush 31, 2) := by decide +kernel
theorem kd_Jd_judgeAssignment_64 : decode kc_Jd_judgeAssignment 64 = .ok (.iload_n 1, 1) := by decide +kernel
theorem kd_Jd_judgeAssignment_65 : decode kc_Jd_judgeAssignment 65 = .ok (.invokevirtual 112, 3) := by decide +kernel
theorem kd_Jd_judgeAssignment_68 : decode kc_Jd_judgeAssignment 68 = .ok (.return_, 1) := by decide +kernel
theorem kd_Jd_judgeBlockType_0 : decode kc_Jd_judgeBlockType 0 = .ok (.aload_n 0, 1) := by decide +kernel
theorem kd_Jd_judgeBlockType_1 : decode kc_Jd_judgeBlockType 1 = .ok (.getfield 15, 3) := by decide +kernel
theorem kd_Jd_judgeBlockType_4 : decode kc_Jd_judgeBlockType 4 = .ok (.getfield 116, 3) := by decide +kernel
theorem kd_Jd_judgeBlockType_7 : decode kc_Jd_judgeBlockType 7 = .ok (.aload_n 0, 1) := by decide +kernel
theorem kd_Jd_judgeBlockType_8 : decode kc_Jd_judgeBlockType 8 = .ok (.getfield 9, 3) := by decide +kernel
theorem kd_Jd_judgeBlockType_11 : decode kc_Jd_judgeBlockType 11 = .ok (.getfield 78, 3) := by decide +kernel
theorem kd_Jd_judgeBlockType_14 : decode kc_Jd_judgeBlockType 14 = .ok (.iload_n 1, 1) := by decide +kernel
theorem kd_Jd_judgeBlockType_15 : decode kc_Jd_judgeBlockType 15 = .ok (.iaload, 1) := by decide +kernel
theorem kd_Jd_judgeBlockType_16 : decode kc_Jd_judgeBlockType 16 = .ok (.iaload, 1) := by decide +kernel
theorem kd_Jd_judgeBlockType_17 : decode kc_Jd_judgeBlockType 17 = .ok (.istore_n 2, 1) := by decide +kernel
theorem kd_Jd_judgeBlockType_18 : decode kc_Jd_judgeBlockType 18 = .ok (.iload_n 2, 1) := by decide +kernel
theorem kd_Jd_judgeBlockType_19 : decode kc_Jd_judgeBlockType 19 = .ok (.iconst (-1), 1) := by decide +kernel
theorem kd_Jd_judgeBlockType_20 : decode kc_Jd_judgeBlockType 20 = .ok (.if_icmp .eq 40, 3) := by decide +kernel
theorem kd_Jd_judgeBlockType_23 : decode kc_Jd_judgeBlockType 23 = .ok (.iload_n 2, 1) := by decide +kernel
theorem kd_Jd_judgeBlockType_24 : decode kc_Jd_judgeBlockType 24 = .ok (.aload_n 0, 1) := by decide +kernel
theorem kd_Jd_judgeBlockType_25 : decode kc_Jd_judgeBlockType 25 = .ok (.getfield 129, 3) := by decide +kernel
theorem kd_Jd_judgeBlockType_28 : decode kc_Jd_judgeBlockType 28 = .ok (.if_icmp .eq 32, 3) := by decide +kernel
theorem kd_Jd_judgeBlockType_31 : decode kc_Jd_judgeBlockType 31 = .ok (.aload_n 0, 1) := by decide +kernel
theorem kd_Jd_judgeBlockType_32 : decode kc_Jd_judgeBlockType 32 = .ok (.getfield 15, 3) := by decide +kernel
theorem kd_Jd_judgeBlockType_35 : decode kc_Jd_judgeBlockType 35 = .ok (.getfield 219, 3) := by decide +kernel
theorem kd_Jd_judgeBlockType_38 : decode kc_Jd_judgeBlockType 38 = .ok (.iload_n 2, 1) := by decide +kernel
theorem kd_Jd_judgeBlockType_39 : decode kc_Jd_judgeBlockType 39 = .ok (.iaload, 1) := by decide +kernel
theorem kd_Jd_judgeBlockType_40 : decode kc_Jd_judgeBlockType 40 = .ok (.ifCond .eq 16, 3) := by decide +kernel
theorem kd_Jd_judgeBlockType_43 : decode kc_Jd_judgeBlockType 43 = .ok (.aload_n 0, 1) := by decide +kernel
theorem kd_Jd_judgeBlockType_44 : decode kc_Jd_judgeBlockType 44 = .ok (.getfield 15, 3) := by decide +kernel
theorem kd_Jd_judgeBlockType_47 : decode kc_Jd_judgeBlockType 47 = .ok (.getfield 219, 3) := by decide +kernel
theorem kd_Jd_judgeBlockType_50 : decode kc_Jd_judgeBlockType 50 = .ok (.iload_n 2, 1) := by decide +kernel
theorem kd_Jd_judgeBlockType_51 : decode kc_Jd_judgeBlockType 51 = .ok (.iaload, 1) := by decide +kernel
theorem kd_Jd_judgeBlockType_52 : decode kc_Jd_judgeBlockType 52 = .ok (.iconst 2, 1) := by decide +kernel
theorem kd_Jd_judgeBlockType_53 : decode kc_Jd_judgeBlockType 53 = .ok (.if_icmp .ne 7, 3) := by decide +kernel
theorem kd_Jd_judgeBlockType_56 : decode kc_Jd_judgeBlockType 56 = .ok (.iconst 1, 1) := by decide +kernel
theorem kd_Jd_judgeBlockType_57 : decode kc_Jd_judgeBlockType 57 = .ok (.goto 4, 3) := by decide +kernel
theorem kd_Jd_judgeBlockType_60 : decode kc_Jd_judgeBlockType 60 = .ok (.iconst 0, 1) := by decide +kernel
theorem kd_Jd_judgeBlockType_61 : decode kc_Jd_judgeBlockType 61 = .ok (.istore_n 3, 1) := by decide +kernel
theorem kd_Jd_judgeBlockType_62 : decode kc_Jd_judgeBlockType 62 = .ok (.aload_n 0, 1) := by decide +kernel
theorem kd_Jd_judgeBlockType_63 : decode kc_Jd_judgeBlockType 63 = .ok (.iload_n 3, 1) := by decide +kernel
theorem kd_Jd_judgeBlockType_64 : decode kc_Jd_judgeBlockType 64 = .ok (.ifCond .eq 19, 3) := by decide +kernel
theorem kd_Jd_judgeBlockType_67 : decode kc_Jd_judgeBlockType 67 = .ok (.aload_n 0, 1) := by decide +kernel
theorem kd_Jd_judgeBlockType_68 : decode kc_Jd_judgeBlockType 68 = .ok (.getfield 15, 3) := by decide +kernel
theorem kd_Jd_judgeBlockType_71 : decode kc_Jd_judgeBlockType 71 = .ok (.getfield 219, 3) := by decide +kernel
theorem kd_Jd_judgeBlockType_74 : decode kc_Jd_judgeBlockType 74 = .ok (.aload_n 0, 1) := by decide +kernel
theorem kd_Jd_judgeBlockType_75 : decode kc_Jd_judgeBlockType 75 = .ok (.getfield 129, 3) := by decide +kernel
theorem kd_Jd_judgeBlockType_78 : decode kc_Jd_judgeBlockType 78 = .ok (.iaload, 1) := by decide +kernel
theorem kd_Jd_judgeBlockType_79 : decode kc_Jd_judgeBlockType 79 = .ok (.iconst 1, 1) := by decide +kernel
theorem kd_Jd_judgeBlockType_80 : decode kc_Jd_judgeBlockType 80 = .ok (.if_icmp .ne 7, 3) := by decide +kernel
theorem kd_Jd_judgeBlockType_83 : decode kc_Jd_judgeBlockType 83 = .ok (.iconst 1, 1) := by decide +kernel
theorem kd_Jd_judgeBlockType_84 : decode kc_Jd_judgeBlockType 84 = .ok (.goto 4, 3) := by decide +kernel
theorem kd_Jd_judgeBlockType_87 : decode kc_Jd_judgeBlockType 87 = .ok (.iconst 0, 1) := by decide +kernel
theorem kd_Jd_judgeBlockType_88 : decode kc_Jd_judgeBlockType 88 = .ok (.bipush 17, 2) := by decide +kernel
theorem kd_Jd_judgeBlockType_90 : decode kc_Jd_judgeBlockType 90 = .ok (.iload_n 1, 1) := by decide +kernel
theorem kd_Jd_judgeBlockType_91 : decode kc_Jd_judgeBlockType 91 = .ok (.invokevirtual 112, 3) := by decide +kernel
theorem kd_Jd_judgeBlockType_94 : decode kc_Jd_judgeBlockType 94 = .ok (.return_, 1) := by decide +kernel
theorem kd_Jd_judgeFor_0 : decode kc_Jd_judgeFor 0 = .ok (.aload_n 0, 1) := by decide +kernel
theorem kd_Jd_judgeFor_1 : decode kc_Jd_judgeFor 1 = .ok (.dup, 1) := by decide +kernel
theorem kd_Jd_judgeFor_2 : decode kc_Jd_judgeFor 2 = .ok (.getfield 33, 3) := by decide +kernel
theorem kd_Jd_judgeFor_5 : decode kc_Jd_judgeFor 5 = .ok (.iconst 1, 1) := by decide +kernel
theorem kd_Jd_judgeFor_6 : decode kc_Jd_judgeFor 6 = .ok (.isub, 1) := by decide +kernel
theorem kd_Jd_judgeFor_7 : decode kc_Jd_judgeFor 7 = .ok (.putfield 33, 3) := by decide +kernel
theorem kd_Jd_judgeFor_10 : decode kc_Jd_judgeFor 10 = .ok (.aload_n 0, 1) := by decide +kernel
theorem kd_Jd_judgeFor_11 : decode kc_Jd_judgeFor 11 = .ok (.iload_n 1, 1) := by decide +kernel
theorem kd_Jd_judgeFor_12 : decode kc_Jd_judgeFor 12 = .ok (.iconst (-1), 1) := by decide +kernel
theorem kd_Jd_judgeFor_13 : decode kc_Jd_judgeFor 13 = .ok (.invokevirtual 172, 3) := by decide +kernel
theorem kd_Jd_judgeFor_16 : decode kc_Jd_judgeFor 16 = .ok (.istore_n 2, 1) := by decide +kernel
theorem kd_Jd_judgeFor_17 : decode kc_Jd_judgeFor 17 = .ok (.aload_n 0, 1) := by decide +kernel
theorem kd_Jd_judgeFor_18 : decode kc_Jd_judgeFor 18 = .ok (.getfield 29, 3) := by decide +kernel
theorem kd_Jd_judgeFor_21 : decode kc_Jd_judgeFor 21 = .ok (.ifCond .eq 4, 3) := by decide +kernel
theorem kd_Jd_judgeFor_24 : decode kc_Jd_judgeFor 24 = .ok (.return_, 1) := by decide +kernel
theorem kd_Jd_judgeFor_25 : decode kc_Jd_judgeFor 25 = .ok (.aload_n 0, 1) := by decide +kernel
theorem kd_Jd_judgeFor_26 : decode kc_Jd_judgeFor 26 = .ok (.getfield 15, 3) := by decide +kernel
theorem kd_Jd_judgeFor_29 : decode kc_Jd_judgeFor 29 = .ok (.getfield 132, 3) := by decide +kernel
theorem kd_Jd_judgeFor_32 : decode kc_Jd_judgeFor 32 = .ok (.iload_n 2, 1) := by decide +kernel
theorem kd_Jd_judgeFor_33 : decode kc_Jd_judgeFor 33 = .ok (.iaload, 1) := by decide +kernel
theorem kd_Jd_judgeFor_34 : decode kc_Jd_judgeFor 34 = .ok (.istore_n 3, 1) := by decide +kernel
theorem kd_Jd_judgeFor_35 : decode kc_Jd_judgeFor 35 = .ok (.aload_n 0, 1) := by decide +kernel
theorem kd_Jd_judgeFor_36 : decode kc_Jd_judgeFor 36 = .ok (.iload_n 3, 1) := by decide +kernel
theorem kd_Jd_judgeFor_37 : decode kc_Jd_judgeFor 37 = .ok (.ifCond .ne 7, 3) := by decide +kernel
theorem kd_Jd_judgeFor_40 : decode kc_Jd_judgeFor 40 = .ok (.iconst 1, 1) := by decide +kernel
theorem kd_Jd_judgeFor_41 : decode kc_Jd_judgeFor 41 = .ok (.goto 4, 3) := by decide +kernel
theorem kd_Jd_judgeFor_44 : decode kc_Jd_judgeFor 44 = .ok (.iconst 0, 1) := by decide +kernel
theorem kd_Jd_judgeFor_45 : decode kc_Jd_judgeFor 45 = .ok (.bipush 22, 2) := by decide +kernel
theorem kd_Jd_judgeFor_47 : decode kc_Jd_judgeFor 47 = .ok (.iload_n 1, 1) := by decide +kernel
theorem kd_Jd_judgeFor_48 : decode kc_Jd_judgeFor 48 = .ok (.invokevirtual 112, 3) := by decide +kernel
theorem kd_Jd_judgeFor_51 : decode kc_Jd_judgeFor 51 = .ok (.aload_n 0, 1) := by decide +kernel
theorem kd_Jd_judgeFor_52 : decode kc_Jd_judgeFor 52 = .ok (.iload_n 2, 1) := by decide +kernel
theorem kd_Jd_judgeFor_53 : decode kc_Jd_judgeFor 53 = .ok (.iload_n 1, 1) := by decide +kernel
theorem kd_Jd_judgeFor_54 : decode kc_Jd_judgeFor 54 = .ok (.invokevirtual 319, 3) := by decide +kernel
theorem kd_Jd_judgeFor_57 : decode kc_Jd_judgeFor 57 = .ok (.aload_n 0, 1) := by decide +kernel
theorem kd_Jd_judgeFor_58 : decode kc_Jd_judgeFor 58 = .ok (.getfield 9, 3) := by decide +kernel
theorem kd_Jd_judgeFor_61 : decode kc_Jd_judgeFor 61 = .ok (.getfield 49, 3) := by decide +kernel
theorem kd_Jd_judgeFor_64 : decode kc_Jd_judgeFor 64 = .ok (.iload_n 1, 1) := by decide +kernel
theorem kd_Jd_judgeFor_65 : decode kc_Jd_judgeFor 65 = .ok (.iaload, 1) := by decide +kernel
theorem kd_Jd_judgeFor_66 : decode kc_Jd_judgeFor 66 = .ok (.istore 4, 2) := by decide +kernel
theorem kd_Jd_judgeFor_68 : decode kc_Jd_judgeFor 68 = .ok (.iconst 0, 1) := by decide +kernel
theorem kd_Jd_judgeFor_69 : decode kc_Jd_judgeFor 69 = .ok (.istore 5, 2) := by decide +kernel
theorem kd_Jd_judgeFor_71 : decode kc_Jd_judgeFor 71 = .ok (.iload 5, 2) := by decide +kernel
theorem kd_Jd_judgeFor_73 : decode kc_Jd_judgeFor 73 = .ok (.iconst 3, 1) := by decide +kernel
theorem kd_Jd_judgeFor_74 : decode kc_Jd_judgeFor 74 = .ok (.if_icmp .ge 70, 3) := by decide +kernel
theorem kd_Jd_judgeFor_77 : decode kc_Jd_judgeFor 77 = .ok (.aload_n 0, 1) := by decide +kernel
theorem kd_Jd_judgeFor_78 : decode kc_Jd_judgeFor 78 = .ok (.getfield 9, 3) := by decide +kernel
theorem kd_Jd_judgeFor_81 : decode kc_Jd_judgeFor 81 = .ok (.iload 4, 2) := by decide +kernel
theorem kd_Jd_judgeFor_83 : decode kc_Jd_judgeFor 83 = .ok (.invokevirtual 282, 3) := by decide +kernel
theorem kd_Jd_judgeFor_86 : decode kc_Jd_judgeFor 86 = .ok (.ifCond .eq 58, 3) := by decide +kernel
theorem kd_Jd_judgeFor_89 : decode kc_Jd_judgeFor 89 = .ok (.aload_n 0, 1) := by decide +kernel
theorem kd_Jd_judgeFor_90 : decode kc_Jd_judgeFor 90 = .ok (.aload_n 0, 1) := by decide +kernel
theorem kd_Jd_judgeFor_91 : decode kc_Jd_judgeFor 91 = .ok (.getfield 9, 3) := by decide +kernel
theorem kd_Jd_judgeFor_94 : decode kc_Jd_judgeFor 94 = .ok (.getfield 71, 3) := by decide +kernel
theorem kd_Jd_judgeFor_97 : decode kc_Jd_judgeFor 97 = .ok (.iload 4, 2) := by decide +kernel
theorem kd_Jd_judgeFor_99 : decode kc_Jd_judgeFor 99 = .ok (.baload, 1) := by decide +kernel
theorem kd_Jd_judgeFor_100 : decode kc_Jd_judgeFor 100 = .ok (.bipush 31, 2) := by decide +kernel
theorem kd_Jd_judgeFor_102 : decode kc_Jd_judgeFor 102 = .ok (.if_icmp .eq 13, 3) := by decide +kernel
theorem kd_Jd_judgeFor_105 : decode kc_Jd_judgeFor 105 = .ok (.aload_n 0, 1) := by decide +kernel
theorem kd_Jd_judgeFor_106 : decode kc_Jd_judgeFor 106 = .ok (.iload_n 3, 1) := by decide +kernel
theorem kd_Jd_judgeFor_107 : decode kc_Jd_judgeFor 107 = .ok (.iload 4, 2) := by decide +kernel
theorem kd_Jd_judgeFor_109 : decode kc_Jd_judgeFor 109 = .ok (.invokevirtual 240, 3) := by decide +kernel
theorem kd_Jd_judgeFor_112 : decode kc_Jd_judgeFor 112 = .ok (.ifCond .ne 7, 3) := by decide +kernel
theorem kd_Jd_judgeFor_115 : decode kc_Jd_judgeFor 115 = .ok (.iconst 1, 1) := by decide +kernel
theorem kd_Jd_judgeFor_116 : decode kc_Jd_judgeFor 116 = .ok (.goto 4, 3) := by decide +kernel
theorem kd_Jd_judgeFor_119 : decode kc_Jd_judgeFor 119 = .ok (.iconst 0, 1) := by decide +kernel
theorem kd_Jd_judgeFor_120 : decode kc_Jd_judgeFor 120 = .ok (.bipush 36, 2) := by decide +kernel
theorem kd_Jd_judgeFor_122 : decode kc_Jd_judgeFor 122 = .ok (.iload_n 1, 1) := by decide +kernel
theorem kd_Jd_judgeFor_123 : decode kc_Jd_judgeFor 123 = .ok (.invokevirtual 112, 3) := by decide +kernel
theorem kd_Jd_judgeFor_126 : decode kc_Jd_judgeFor 126 = .ok (.aload_n 0, 1) := by decide +kernel
theorem kd_Jd_judgeFor_127 : decode kc_Jd_judgeFor 127 = .ok (.getfield 9, 3) := by decide +kernel
theorem kd_Jd_judgeFor_130 : decode kc_Jd_judgeFor 130 = .ok (.getfield 55, 3) := by decide +kernel
theorem kd_Jd_judgeFor_133 : decode kc_Jd_judgeFor 133 = .ok (.iload 4, 2) := by decide +kernel
theorem kd_Jd_judgeFor_135 : decode kc_Jd_judgeFor 135 = .ok (.iaload, 1) := by decide +kernel
theorem kd_Jd_judgeFor_136 : decode kc_Jd_judgeFor 136 = .ok (.istore 4, 2) := by decide +kernel
theorem kd_Jd_judgeFor_138 : decode kc_Jd_judgeFor 138 = .ok (.iinc 5 1, 3) := by decide +kernel
theorem kd_Jd_judgeFor_141 : decode kc_Jd_judgeFor 141 = .ok (.goto (-70), 3) := by decide +kernel
theorem kd_Jd_judgeFor_144 : decode kc_Jd_judgeFor 144 = .ok (.aload_n 0, 1) := by decide +kernel
theorem kd_Jd_judgeFor_145 : decode kc_Jd_judgeFor 145 = .ok (.getfield 9, 3) := by decide +kernel
theorem kd_Jd_judgeFor_148 : decode kc_Jd_judgeFor 148 = .ok (.iload_n 1, 1) := by decide +kernel
theorem kd_Jd_judgeFor_149 : decode kc_Jd_judgeFor 149 = .ok (.invokevirtual 328, 3) := by decide +kernel
theorem kd_Jd_judgeFor_152 : decode kc_Jd_judgeFor 152 = .ok (.istore 5, 2) := by decide +kernel
theorem kd_Jd_judgeFor_154 : decode kc_Jd_judgeFor 154 = .ok (.aload_n 0, 1) := by decide +kernel
theorem kd_Jd_judgeFor_155 : decode kc_Jd_judgeFor 155 = .ok (.iload 5, 2) := by decide +kernel
theorem kd_Jd_judgeFor_157 : decode kc_Jd_judgeFor 157 = .ok (.ifCond .ne 7, 3) := by decide +kernel
theorem kd_Jd_judgeFor_160 : decode kc_Jd_judgeFor 160 = .ok (.iconst 1, 1) := by decide +kernel
theorem kd_Jd_judgeFor_161 : decode kc_Jd_judgeFor 161 = .ok (.goto 4, 3) := by decide +kernel
theorem kd_Jd_judgeFor_164 : decode kc_Jd_judgeFor 164 = .ok (.iconst 0, 1) := by decide +kernel
theorem kd_Jd_judgeFor_165 : decode kc_Jd_judgeFor 165 = .ok (.bipush 36, 2) := by decide +kernel
theorem kd_Jd_judgeFor_167 : decode kc_Jd_judgeFor 167 = .ok (.iload_n 1, 1) := by decide +kernel
theorem kd_Jd_judgeFor_168 : decode kc_Jd_judgeFor 168 = .ok (.invokevirtual 112, 3) := by decide +kernel
theorem kd_Jd_judgeFor_171 : decode kc_Jd_judgeFor 171 = .ok (.aload_n 0, 1) := by decide +kernel
theorem kd_Jd_judgeFor_172 : decode kc_Jd_judgeFor 172 = .ok (.getfield 9, 3) := by decide +kernel
theorem kd_Jd_judgeFor_175 : decode kc_Jd_judgeFor 175 = .ok (.getfield 78, 3) := by decide +kernel
theorem kd_Jd_judgeFor_178 : decode kc_Jd_judgeFor 178 = .ok (.aload_n 0, 1) := by decide +kernel
theorem kd_Jd_judgeFor_179 : decode kc_Jd_judgeFor 179 = .ok (.getfield 9, 3) := by decide +kernel
theorem kd_Jd_judgeFor_182 : decode kc_Jd_judgeFor 182 = .ok (.getfield 49, 3) := by decide +kernel
theorem kd_Jd_judgeFor_185 : decode kc_Jd_judgeFor 185 = .ok (.iload_n 1, 1) := by decide +kernel
theorem kd_Jd_judgeFor_186 : decode kc_Jd_judgeFor 186 = .ok (.iaload, 1) := by decide +kernel
theorem kd_Jd_judgeFor_187 : decode kc_Jd_judgeFor 187 = .ok (.iaload, 1) := by decide +kernel
theorem kd_Jd_judgeFor_188 : decode kc_Jd_judgeFor 188 = .ok (.istore 6, 2) := by decide +kernel
theorem kd_Jd_judgeFor_190 : decode kc_Jd_judgeFor 190 = .ok (.aload_n 0, 1) := by decide +kernel
theorem kd_Jd_judgeFor_191 : decode kc_Jd_judgeFor 191 = .ok (.iload 6, 2) := by decide +kernel
theorem kd_Jd_judgeFor_193 : decode kc_Jd_judgeFor 193 = .ok (.aload_n 0, 1) := by decide +kernel
theorem kd_Jd_judgeFor_194 : decode kc_Jd_judgeFor 194 = .ok (.getfield 9, 3) := by decide +kernel
theorem kd_Jd_judgeFor_197 : decode kc_Jd_judgeFor 197 = .ok (.getfield 78, 3) := by decide +kernel
theorem kd_Jd_judgeFor_200 : decode kc_Jd_judgeFor 200 = .ok (.aload_n 0, 1) := by decide +kernel
theorem kd_Jd_judgeFor_201 : decode kc_Jd_judgeFor 201 = .ok (.getfield 9, 3) := by decide +kernel
theorem kd_Jd_judgeFor_204 : decode kc_Jd_judgeFor 204 = .ok (.iload_n 1, 1) := by decide +kernel
theorem kd_Jd_judgeFor_205 : decode kc_Jd_judgeFor 205 = .ok (.invokevirtual 227, 3) := by decide +kernel
theorem kd_Jd_judgeFor_208 : decode kc_Jd_judgeFor 208 = .ok (.iaload, 1) := by decide +kernel
theorem kd_Jd_judgeFor_209 : decode kc_Jd_judgeFor 209 = .ok (.iload 5, 2) := by decide +kernel
theorem kd_Jd_judgeFor_211 : decode kc_Jd_judgeFor 211 = .ok (.invokestatic 331, 3) := by decide +kernel
theorem kd_Jd_judgeFor_214 : decode kc_Jd_judgeFor 214 = .ok (.ldc2_w 335, 3) := by decide +kernel
theorem kd_Jd_judgeFor_217 : decode kc_Jd_judgeFor 217 = .ok (.lcmp, 1) := by decide +kernel
theorem kd_Jd_judgeFor_218 : decode kc_Jd_judgeFor 218 = .ok (.ifCond .le 7, 3) := by decide +kernel
theorem kd_Jd_judgeFor_221 : decode kc_Jd_judgeFor 221 = .ok (.iconst 1, 1) := by decide +kernel
theorem kd_Jd_judgeFor_222 : decode kc_Jd_judgeFor 222 = .ok (.goto 4, 3) := by decide +kernel
theorem kd_Jd_judgeFor_225 : decode kc_Jd_judgeFor 225 = .ok (.iconst 0, 1) := by decide +kernel
theorem kd_Jd_judgeFor_226 : decode kc_Jd_judgeFor 226 = .ok (.bipush 36, 2) := by decide +kernel
theorem kd_Jd_judgeFor_228 : decode kc_Jd_judgeFor 228 = .ok (.iload_n 1, 1) := by decide +kernel
theorem kd_Jd_judgeFor_229 : decode kc_Jd_judgeFor 229 = .ok (.invokevirtual 112, 3) := by decide +kernel
theorem kd_Jd_judgeFor_232 : decode kc_Jd_judgeFor 232 = .ok (.aload_n 0, 1) := by decide +kernel
theorem kd_Jd_judgeFor_233 : decode kc_Jd_judgeFor 233 = .ok (.getfield 9, 3) := by decide +kernel
theorem kd_Jd_judgeFor_236 : decode kc_Jd_judgeFor 236 = .ok (.getfield 78, 3) := by decide +kernel
theorem kd_Jd_judgeFor_239 : decode kc_Jd_judgeFor 239 = .ok (.iload_n 1, 1) := by decide +kernel
theorem kd_Jd_judgeFor_240 : decode kc_Jd_judgeFor 240 = .ok (.iload_n 2, 1) := by decide +kernel
theorem kd_Jd_judgeFor_241 : decode kc_Jd_judgeFor 241 = .ok (.iastore, 1) := by decide +kernel
theorem kd_Jd_judgeFor_242 : decode kc_Jd_judgeFor 242 = .ok (.aload_n 0, 1) := by decide +kernel
theorem kd_Jd_judgeFor_243 : decode kc_Jd_judgeFor 243 = .ok (.getfield 9, 3) := by decide +kernel
theorem kd_Jd_judgeFor_246 : decode kc_Jd_judgeFor 246 = .ok (.getfield 178, 3) := by decide +kernel
theorem kd_Jd_judgeFor_249 : decode kc_Jd_judgeFor 249 = .ok (.iload_n 1, 1) := by decide +kernel
theorem kd_Jd_judgeFor_250 : decode kc_Jd_judgeFor 250 = .ok (.iload_n 3, 1) := by decide +kernel
theorem kd_Jd_judgeFor_251 : decode kc_Jd_judgeFor 251 = .ok (.i2b, 1) := by decide +kernel
theorem kd_Jd_judgeFor_252 : decode kc_Jd_judgeFor 252 = .ok (.bastore, 1) := by decide +kernel
theorem kd_Jd_judgeFor_253 : decode kc_Jd_judgeFor 253 = .ok (.return_, 1) := by decide +kernel
theorem kd_Jd_judgeIf_0 : decode kc_Jd_judgeIf 0 = .ok (.aload_n 0, 1) := by decide +kernel
theorem kd_Jd_judgeIf_1 : decode kc_Jd_judgeIf 1 = .ok (.getfield 9, 3) := by decide +kernel
theorem kd_Jd_judgeIf_4 : decode kc_Jd_judgeIf 4 = .ok (.getfield 49, 3) := by decide +kernel
theorem kd_Jd_judgeIf_7 : decode kc_Jd_judgeIf 7 = .ok (.iload_n 1, 1) := by decide +kernel
theorem kd_Jd_judgeIf_8 : decode kc_Jd_judgeIf 8 = .ok (.iaload, 1) := by decide +kernel
theorem kd_Jd_judgeIf_9 : decode kc_Jd_judgeIf 9 = .ok (.istore_n 2, 1) := by decide +kernel
theorem kd_Jd_judgeIf_10 : decode kc_Jd_judgeIf 10 = .ok (.iconst 0, 1) := by decide +kernel
theorem kd_Jd_judgeIf_11 : decode kc_Jd_judgeIf 11 = .ok (.istore_n 3, 1) := by decide +kernel
theorem kd_Jd_judgeIf_12 : decode kc_Jd_judgeIf 12 = .ok (.iload_n 3, 1) := by decide +kernel
theorem kd_Jd_judgeIf_13 : decode kc_Jd_judgeIf 13 = .ok (.aload_n 0, 1) := by decide +kernel
theorem kd_Jd_judgeIf_14 : decode kc_Jd_judgeIf 14 = .ok (.getfield 9, 3) := by decide +kernel
theorem kd_Jd_judgeIf_17 : decode kc_Jd_judgeIf 17 = .ok (.getfield 52, 3) := by decide +kernel
theorem kd_Jd_judgeIf_20 : decode kc_Jd_judgeIf 20 = .ok (.if_icmp .ge 62, 3) := by decide +kernel
theorem kd_Jd_judgeIf_23 : decode kc_Jd_judgeIf 23 = .ok (.iload_n 2, 1) := by decide +kernel
theorem kd_Jd_judgeIf_24 : decode kc_Jd_judgeIf 24 = .ok (.iconst (-1), 1) := by decide +kernel
theorem kd_Jd_judgeIf_25 : decode kc_Jd_judgeIf 25 = .ok (.if_icmp .eq 57, 3) := by decide +kernel
theorem kd_Jd_judgeIf_28 : decode kc_Jd_judgeIf 28 = .ok (.aload_n 0, 1) := by decide +kernel
theorem kd_Jd_judgeIf_29 : decode kc_Jd_judgeIf 29 = .ok (.aload_n 0, 1) := by decide +kernel
theorem kd_Jd_judgeIf_30 : decode kc_Jd_judgeIf 30 = .ok (.getfield 9, 3) := by decide +kernel
theorem kd_Jd_judgeIf_33 : decode kc_Jd_judgeIf 33 = .ok (.getfield 71, 3) := by decide +kernel
theorem kd_Jd_judgeIf_36 : decode kc_Jd_judgeIf 36 = .ok (.iload_n 2, 1) := by decide +kernel
theorem kd_Jd_judgeIf_37 : decode kc_Jd_judgeIf 37 = .ok (.baload, 1) := by decide +kernel
theorem kd_Jd_judgeIf_38 : decode kc_Jd_judgeIf 38 = .ok (.bipush 11, 2) := by decide +kernel
theorem kd_Jd_judgeIf_40 : decode kc_Jd_judgeIf 40 = .ok (.if_icmp .eq 19, 3) := by decide +kernel
theorem kd_Jd_judgeIf_43 : decode kc_Jd_judgeIf 43 = .ok (.aload_n 0, 1) := by decide +kernel
theorem kd_Jd_judgeIf_44 : decode kc_Jd_judgeIf 44 = .ok (.getfield 9, 3) := by decide +kernel
theorem kd_Jd_judgeIf_47 : decode kc_Jd_judgeIf 47 = .ok (.getfield 178, 3) := by decide +kernel
theorem kd_Jd_judgeIf_50 : decode kc_Jd_judgeIf 50 = .ok (.iload_n 2, 1) := by decide +kernel
theorem kd_Jd_judgeIf_51 : decode kc_Jd_judgeIf 51 = .ok (.baload, 1) := by decide +kernel
theorem kd_Jd_judgeIf_52 : decode kc_Jd_judgeIf 52 = .ok (.ifCond .eq 7, 3) := by decide +kernel
theorem kd_Jd_judgeIf_55 : decode kc_Jd_judgeIf 55 = .ok (.iconst 1, 1) := by decide +kernel
theorem kd_Jd_judgeIf_56 : decode kc_Jd_judgeIf 56 = .ok (.goto 4, 3) := by decide +kernel
theorem kd_Jd_judgeIf_59 : decode kc_Jd_judgeIf 59 = .ok (.iconst 0, 1) := by decide +kernel
theorem kd_Jd_judgeIf_60 : decode kc_Jd_judgeIf 60 = .ok (.bipush 34, 2) := by decide +kernel
theorem kd_Jd_judgeIf_62 : decode kc_Jd_judgeIf 62 = .ok (.iload_n 1, 1) := by decide +kernel
theorem kd_Jd_judgeIf_63 : decode kc_Jd_judgeIf 63 = .ok (.invokevirtual 112, 3) := by decide +kernel
theorem kd_Jd_judgeIf_66 : decode kc_Jd_judgeIf 66 = .ok (.aload_n 0, 1) := by decide +kernel
theorem kd_Jd_judgeIf_67 : decode kc_Jd_judgeIf 67 = .ok (.getfield 9, 3) := by decide +kernel
theorem kd_Jd_judgeIf_70 : decode kc_Jd_judgeIf 70 = .ok (.getfield 55, 3) := by decide +kernel
theorem kd_Jd_judgeIf_73 : decode kc_Jd_judgeIf 73 = .ok (.iload_n 2, 1) := by decide +kernel
theorem kd_Jd_judgeIf_74 : decode kc_Jd_judgeIf 74 = .ok (.iaload, 1) := by decide +kernel
theorem kd_Jd_judgeIf_75 : decode kc_Jd_judgeIf 75 = .ok (.istore_n 2, 1) := by decide +kernel
theorem kd_Jd_judgeIf_76 : decode kc_Jd_judgeIf 76 = .ok (.iinc 3 1, 3) := by decide +kernel
theorem kd_Jd_judgeIf_79 : decode kc_Jd_judgeIf 79 = .ok (.goto (-67), 3) := by decide +kernel
theorem kd_Jd_judgeIf_82 : decode kc_Jd_judgeIf 82 = .ok (.return_, 1) := by decide +kernel
theorem kd_Jd_judgeParameter_0 : decode kc_Jd_judgeParameter 0 = .ok (.aload_n 0, 1) := by decide +kernel
theorem kd_Jd_judgeParameter_1 : decode kc_Jd_judgeParameter 1 = .ok (.getfield 97, 3) := by decide +kernel
theorem kd_Jd_judgeParameter_4 : decode kc_Jd_judgeParameter 4 = .ok (.iconst (-1), 1) := by decide +kernel
theorem kd_Jd_judgeParameter_5 : decode kc_Jd_judgeParameter 5 = .ok (.if_icmp .ne 4, 3) := by decide +kernel
theorem kd_Jd_judgeParameter_8 : decode kc_Jd_judgeParameter 8 = .ok (.return_, 1) := by decide +kernel
theorem kd_Jd_judgeParameter_9 : decode kc_Jd_judgeParameter 9 = .ok (.aload_n 0, 1) := by decide +kernel
theorem kd_Jd_judgeParameter_10 : decode kc_Jd_judgeParameter 10 = .ok (.getfield 15, 3) := by decide +kernel
theorem kd_Jd_judgeParameter_13 : decode kc_Jd_judgeParameter 13 = .ok (.aload_n 0, 1) := by decide +kernel
theorem kd_Jd_judgeParameter_14 : decode kc_Jd_judgeParameter 14 = .ok (.getfield 15, 3) := by decide +kernel
theorem kd_Jd_judgeParameter_17 : decode kc_Jd_judgeParameter 17 = .ok (.getfield 100, 3) := by decide +kernel
theorem kd_Jd_judgeParameter_20 : decode kc_Jd_judgeParameter 20 = .ok (.aload_n 0, 1) := by decide +kernel
theorem kd_Jd_judgeParameter_21 : decode kc_Jd_judgeParameter 21 = .ok (.getfield 97, 3) := by decide +kernel
theorem kd_Jd_judgeParameter_24 : decode kc_Jd_judgeParameter 24 = .ok (.iaload, 1) := by decide +kernel
theorem kd_Jd_judgeParameter_25 : decode kc_Jd_judgeParameter 25 = .ok (.aload_n 0, 1) := by decide +kernel
theorem kd_Jd_judgeParameter_26 : decode kc_Jd_judgeParameter 26 = .ok (.getfield 9, 3) := by decide +kernel
theorem kd_Jd_judgeParameter_29 : decode kc_Jd_judgeParameter 29 = .ok (.getfield 78, 3) := by decide +kernel
theorem kd_Jd_judgeParameter_32 : decode kc_Jd_judgeParameter 32 = .ok (.iload_n 1, 1) := by decide +kernel
theorem kd_Jd_judgeParameter_33 : decode kc_Jd_judgeParameter 33 = .ok (.iaload, 1) := by decide +kernel
theorem kd_Jd_judgeParameter_34 : decode kc_Jd_judgeParameter 34 = .ok (.invokevirtual 255, 3) := by decide +kernel
theorem kd_Jd_judgeParameter_37 : decode kc_Jd_judgeParameter 37 = .ok (.istore_n 2, 1) := by decide +kernel
theorem kd_Jd_judgeParameter_38 : decode kc_Jd_judgeParameter 38 = .ok (.iload_n 2, 1) := by decide +kernel
theorem kd_Jd_judgeParameter_39 : decode kc_Jd_judgeParameter 39 = .ok (.iconst (-1), 1) := by decide +kernel
theorem kd_Jd_judgeParameter_40 : decode kc_Jd_judgeParameter 40 = .ok (.if_icmp .eq 16, 3) := by decide +kernel
theorem kd_Jd_judgeParameter_43 : decode kc_Jd_judgeParameter 43 = .ok (.aload_n 0, 1) := by decide +kernel
theorem kd_Jd_judgeParameter_44 : decode kc_Jd_judgeParameter 44 = .ok (.getfield 15, 3) := by decide +kernel
theorem kd_Jd_judgeParameter_47 : decode kc_Jd_judgeParameter 47 = .ok (.getfield 258, 3) := by decide +kernel
theorem kd_Jd_judgeParameter_50 : decode kc_Jd_judgeParameter 50 = .ok (.iload_n 2, 1) := by decide +kernel
theorem kd_Jd_judgeParameter_51 : decode kc_Jd_judgeParameter 51 = .ok (.iaload, 1) := by decide +kernel
theorem kd_Jd_judgeParameter_52 : decode kc_Jd_judgeParameter 52 = .ok (.iconst 1, 1) := by decide +kernel
theorem kd_Jd_judgeParameter_53 : decode kc_Jd_judgeParameter 53 = .ok (.if_icmp .eq 11, 3) := by decide +kernel
theorem kd_Jd_judgeParameter_56 : decode kc_Jd_judgeParameter 56 = .ok (.aload_n 0, 1) := by decide +kernel
theorem kd_Jd_judgeParameter_57 : decode kc_Jd_judgeParameter 57 = .ok (.bipush 32, 2) := by decide +kernel
theorem kd_Jd_judgeParameter_59 : decode kc_Jd_judgeParameter 59 = .ok (.iload_n 1, 1) := by decide +kernel
theorem kd_Jd_judgeParameter_60 : decode kc_Jd_judgeParameter 60 = .ok (.invokevirtual 68, 3) := by decide +kernel
theorem kd_Jd_judgeParameter_63 : decode kc_Jd_judgeParameter 63 = .ok (.return_, 1) := by decide +kernel
theorem kd_Jd_judgeParameter_64 : decode kc_Jd_judgeParameter 64 = .ok (.aload_n 0, 1) := by decide +kernel
theorem kd_Jd_judgeParameter_65 : decode kc_Jd_judgeParameter 65 = .ok (.getfield 9, 3) := by decide +kernel
theorem kd_Jd_judgeParameter_68 : decode kc_Jd_judgeParameter 68 = .ok (.getfield 78, 3) := by decide +kernel
theorem kd_Jd_judgeParameter_71 : decode kc_Jd_judgeParameter 71 = .ok (.iload_n 1, 1) := by decide +kernel
theorem kd_Jd_judgeParameter_72 : decode kc_Jd_judgeParameter 72 = .ok (.iload_n 2, 1) := by decide +kernel
theorem kd_Jd_judgeParameter_73 : decode kc_Jd_judgeParameter 73 = .ok (.iastore, 1) := by decide +kernel
theorem kd_Jd_judgeParameter_74 : decode kc_Jd_judgeParameter 74 = .ok (.aload_n 0, 1) := by decide +kernel
theorem kd_Jd_judgeParameter_75 : decode kc_Jd_judgeParameter 75 = .ok (.aload_n 0, 1) := by decide +kernel
theorem kd_Jd_judgeParameter_76 : decode kc_Jd_judgeParameter 76 = .ok (.iload_n 1, 1) := by decide +kernel
theorem kd_Jd_judgeParameter_77 : decode kc_Jd_judgeParameter 77 = .ok (.invokevirtual 325, 3) := by decide +kernel
theorem kd_Jd_judgeParameter_80 : decode kc_Jd_judgeParameter 80 = .ok (.bipush 33, 2) := by decide +kernel
theorem kd_Jd_judgeParameter_82 : decode kc_Jd_judgeParameter 82 = .ok (.iload_n 1, 1) := by decide +kernel
theorem kd_Jd_judgeParameter_83 : decode kc_Jd_judgeParameter 83 = .ok (.invokevirtual 112, 3) := by decide +kernel
theorem kd_Jd_judgeParameter_86 : decode kc_Jd_judgeParameter 86 = .ok (.aload_n 0, 1) := by decide +kernel
theorem kd_Jd_judgeParameter_87 : decode kc_Jd_judgeParameter 87 = .ok (.aload_n 0, 1) := by decide +kernel
theorem kd_Jd_judgeParameter_88 : decode kc_Jd_judgeParameter 88 = .ok (.getfield 9, 3) := by decide +kernel
theorem kd_Jd_judgeParameter_91 : decode kc_Jd_judgeParameter 91 = .ok (.getfield 178, 3) := by decide +kernel
theorem kd_Jd_judgeParameter_94 : decode kc_Jd_judgeParameter 94 = .ok (.aload_n 0, 1) := by decide +kernel
theorem kd_Jd_judgeParameter_95 : decode kc_Jd_judgeParameter 95 = .ok (.getfield 9, 3) := by decide +kernel
theorem kd_Jd_judgeParameter_98 : decode kc_Jd_judgeParameter 98 = .ok (.getfield 49, 3) := by decide +kernel
theorem kd_Jd_judgeParameter_101 : decode kc_Jd_judgeParameter 101 = .ok (.iload_n 1, 1) := by decide +kernel
theorem kd_Jd_judgeParameter_102 : decode kc_Jd_judgeParameter 102 = .ok (.iaload, 1) := by decide +kernel
theorem kd_Jd_judgeParameter_103 : decode kc_Jd_judgeParameter 103 = .ok (.baload, 1) := by decide +kernel
theorem kd_Jd_judgeParameter_104 : decode kc_Jd_judgeParameter 104 = .ok (.aload_n 0, 1) := by decide +kernel
theorem kd_Jd_judgeParameter_105 : decode kc_Jd_judgeParameter 105 = .ok (.getfield 15, 3) := by decide +kernel
theorem kd_Jd_judgeParameter_108 : decode kc_Jd_judgeParameter 108 = .ok (.getfield 132, 3) := by decide +kernel
theorem kd_Jd_judgeParameter_111 : decode kc_Jd_judgeParameter 111 = .ok (.iload_n 2, 1) := by decide +kernel
theorem kd_Jd_judgeParameter_112 : decode kc_Jd_judgeParameter 112 = .ok (.iaload, 1) := by decide +kernel
theorem kd_Jd_judgeParameter_113 : decode kc_Jd_judgeParameter 113 = .ok (.invokestatic 267, 3) := by decide +kernel
theorem kd_Jd_judgeParameter_116 : decode kc_Jd_judgeParameter 116 = .ok (.ifCond .ne 7, 3) := by decide +kernel
theorem kd_Jd_judgeParameter_119 : decode kc_Jd_judgeParameter 119 = .ok (.iconst 1, 1) := by decide +kernel
theorem kd_Jd_judgeParameter_120 : decode kc_Jd_judgeParameter 120 = .ok (.goto 4, 3) := by decide +kernel
theorem kd_Jd_judgeParameter_123 : decode kc_Jd_judgeParameter 123 = .ok (.iconst 0, 1) := by decide +kernel
theorem kd_Jd_judgeParameter_124 : decode kc_Jd_judgeParameter 124 = .ok (.bipush 31, 2) := by decide +kernel
theorem kd_Jd_judgeParameter_126 : decode kc_Jd_judgeParameter 126 = .ok (.iload_n 1, 1) := by decide +kernel
theorem kd_Jd_judgeParameter_127 : decode kc_Jd_judgeParameter 127 = .ok (.invokevirtual 112, 3) := by decide +kernel
theorem kd_Jd_judgeParameter_130 : decode kc_Jd_judgeParameter 130 = .ok (.return_, 1) := by decide +kernel
theorem kd_Jd_judgePlace_0 : decode kc_Jd_judgePlace 0 = .ok (.aload_n 0, 1) := by decide +kernel
theorem kd_Jd_judgePlace_1 : decode kc_Jd_judgePlace 1 = .ok (.getfield 9, 3) := by decide +kernel
theorem kd_Jd_judgePlace_4 : decode kc_Jd_judgePlace 4 = .ok (.getfield 78, 3) := by decide +kernel
theorem kd_Jd_judgePlace_7 : decode kc_Jd_judgePlace 7 = .ok (.iload_n 1, 1) := by decide +kernel
theorem kd_Jd_judgePlace_8 : decode kc_Jd_judgePlace 8 = .ok (.iaload, 1) := by decide +kernel
theorem kd_Jd_judgePlace_9 : decode kc_Jd_judgePlace 9 = .ok (.invokestatic 224, 3) := by decide +kernel
theorem kd_Jd_judgePlace_12 : decode kc_Jd_judgePlace 12 = .ok (.istore_n 2, 1) := by decide +kernel
theorem kd_Jd_judgePlace_13 : decode kc_Jd_judgePlace 13 = .ok (.aload_n 0, 1) := by decide +kernel
theorem kd_Jd_judgePlace_14 : decode kc_Jd_judgePlace 14 = .ok (.getfield 15, 3) := by decide +kernel
theorem kd_Jd_judgePlace_17 : decode kc_Jd_judgePlace 17 = .ok (.getfield 219, 3) := by decide +kernel
theorem kd_Jd_judgePlace_20 : decode kc_Jd_judgePlace 20 = .ok (.aload_n 0, 1) := by decide +kernel
theorem kd_Jd_judgePlace_21 : decode kc_Jd_judgePlace 21 = .ok (.getfield 129, 3) := by decide +kernel
theorem kd_Jd_judgePlace_24 : decode kc_Jd_judgePlace 24 = .ok (.iaload, 1) := by decide +kernel
theorem kd_Jd_judgePlace_25 : decode kc_Jd_judgePlace 25 = .ok (.iconst 3, 1) := by decide +kernel
theorem kd_Jd_judgePlace_26 : decode kc_Jd_judgePlace 26 = .ok (.if_icmp .ne 19, 3) := by decide +kernel
theorem kd_Jd_judgePlace_29 : decode kc_Jd_judgePlace 29 = .ok (.aload_n 0, 1) := by decide +kernel
theorem kd_Jd_judgePlace_30 : decode kc_Jd_judgePlace 30 = .ok (.getfield 15, 3) := by decide +kernel
theorem kd_Jd_judgePlace_33 : decode kc_Jd_judgePlace 33 = .ok (.getfield 84, 3) := by decide +kernel
theorem kd_Jd_judgePlace_36 : decode kc_Jd_judgePlace 36 = .ok (.aload_n 0, 1) := by decide +kernel
theorem kd_Jd_judgePlace_37 : decode kc_Jd_judgePlace 37 = .ok (.getfield 87, 3) := by decide +kernel
theorem kd_Jd_judgePlace_40 : decode kc_Jd_judgePlace 40 = .ok (.isub, 1) := by decide +kernel
theorem kd_Jd_judgePlace_41 : decode kc_Jd_judgePlace 41 = .ok (.iconst 1, 1) := by decide +kernel
theorem kd_Jd_judgePlace_42 : decode kc_Jd_judgePlace 42 = .ok (.if_icmp .le 7, 3) := by decide +kernel
theorem kd_Jd_judgePlace_45 : decode kc_Jd_judgePlace 45 = .ok (.iconst 1, 1) := by decide +kernel
theorem kd_Jd_judgePlace_46 : decode kc_Jd_judgePlace 46 = .ok (.goto 4, 3) := by decide +kernel
theorem kd_Jd_judgePlace_49 : decode kc_Jd_judgePlace 49 = .ok (.iconst 0, 1) := by decide +kernel
theorem kd_Jd_judgePlace_50 : decode kc_Jd_judgePlace 50 = .ok (.istore_n 3, 1) := by decide +kernel
theorem kd_Jd_judgePlace_51 : decode kc_Jd_judgePlace 51 = .ok (.aload_n 0, 1) := by decide +kernel
theorem kd_Jd_judgePlace_52 : decode kc_Jd_judgePlace 52 = .ok (.iload_n 3, 1) := by decide +kernel
theorem kd_Jd_judgePlace_53 : decode kc_Jd_judgePlace 53 = .ok (.ifCond .ne 12, 3) := by decide +kernel
theorem kd_Jd_judgePlace_56 : decode kc_Jd_judgePlace 56 = .ok (.aload_n 0, 1) := by decide +kernel
theorem kd_Jd_judgePlace_57 : decode kc_Jd_judgePlace 57 = .ok (.getfield 25, 3) := by decide +kernel
theorem kd_Jd_judgePlace_60 : decode kc_Jd_judgePlace 60 = .ok (.iload_n 2, 1) := by decide +kernel
theorem kd_Jd_judgePlace_61 : decode kc_Jd_judgePlace 61 = .ok (.baload, 1) := by decide +kernel
theorem kd_Jd_judgePlace_62 : decode kc_Jd_judgePlace 62 = .ok (.ifCond .eq 7, 3) := by decide +kernel
theorem kd_Jd_judgePlace_65 : decode kc_Jd_judgePlace 65 = .ok (.iconst 1, 1) := by decide +kernel
theorem kd_Jd_judgePlace_66 : decode kc_Jd_judgePlace 66 = .ok (.goto 4, 3) := by decide +kernel
theorem kd_Jd_judgePlace_69 : decode kc_Jd_judgePlace 69 = .ok (.iconst 0, 1) := by decide +kernel
theorem kd_Jd_judgePlace_70 : decode kc_Jd_judgePlace 70 = .ok (.bipush 14, 2) := by decide +kernel
theorem kd_Jd_judgePlace_72 : decode kc_Jd_judgePlace 72 = .ok (.iload_n 1, 1) := by decide +kernel
theorem kd_Jd_judgePlace_73 : decode kc_Jd_judgePlace 73 = .ok (.invokevirtual 112, 3) := by decide +kernel
theorem kd_Jd_judgePlace_76 : decode kc_Jd_judgePlace 76 = .ok (.aload_n 0, 1) := by decide +kernel
theorem kd_Jd_judgePlace_77 : decode kc_Jd_judgePlace 77 = .ok (.getfield 25, 3) := by decide +kernel
theorem kd_Jd_judgePlace_80 : decode kc_Jd_judgePlace 80 = .ok (.iload_n 2, 1) := by decide +kernel
theorem kd_Jd_judgePlace_81 : decode kc_Jd_judgePlace 81 = .ok (.iconst 1, 1) := by decide +kernel
theorem kd_Jd_judgePlace_82 : decode kc_Jd_judgePlace 82 = .ok (.bastore, 1) := by decide +kernel
theorem kd_Jd_judgePlace_83 : decode kc_Jd_judgePlace 83 = .ok (.return_, 1) := by decide +kernel
theorem kd_Jd_judgeRange_0 : decode kc_Jd_judgeRange 0 = .ok (.aload_n 0, 1) := by decide +kernel
theorem kd_Jd_judgeRange_1 : decode kc_Jd_judgeRange 1 = .ok (.getfield 9, 3) := by decide +kernel
theorem kd_Jd_judgeRange_4 : decode kc_Jd_judgeRange 4 = .ok (.getfield 49, 3) := by decide +kernel
theorem kd_Jd_judgeRange_7 : decode kc_Jd_judgeRange 7 = .ok (.iload_n 1, 1) := by decide +kernel
theorem kd_Jd_judgeRange_8 : decode kc_Jd_judgeRange 8 = .ok (.iaload, 1) := by decide +kernel
theorem kd_Jd_judgeRange_9 : decode kc_Jd_judgeRange 9 = .ok (.istore_n 2, 1) := by decide +kernel
theorem kd_Jd_judgeRange_10 : decode kc_Jd_judgeRange 10 = .ok (.aload_n 0, 1) := by decide +kernel
theorem kd_Jd_judgeRange_11 : decode kc_Jd_judgeRange 11 = .ok (.getfield 9, 3) := by decide +kernel
theorem kd_Jd_judgeRange_14 : decode kc_Jd_judgeRange 14 = .ok (.getfield 55, 3) := by decide +kernel
theorem kd_Jd_judgeRange_17 : decode kc_Jd_judgeRange 17 = .ok (.iload_n 2, 1) := by decide +kernel
theorem kd_Jd_judgeRange_18 : decode kc_Jd_judgeRange 18 = .ok (.iaload, 1) := by decide +kernel
theorem kd_Jd_judgeRange_19 : decode kc_Jd_judgeRange 19 = .ok (.istore_n 3, 1) := by decide +kernel
theorem kd_Jd_judgeRange_20 : decode kc_Jd_judgeRange 20 = .ok (.aload_n 0, 1) := by decide +kernel
theorem kd_Jd_judgeRange_21 : decode kc_Jd_judgeRange 21 = .ok (.getfield 9, 3) := by decide +kernel
theorem kd_Jd_judgeRange_24 : decode kc_Jd_judgeRange 24 = .ok (.getfield 71, 3) := by decide +kernel
theorem kd_Jd_judgeRange_27 : decode kc_Jd_judgeRange 27 = .ok (.iload_n 2, 1) := by decide +kernel
theorem kd_Jd_judgeRange_28 : decode kc_Jd_judgeRange 28 = .ok (.baload, 1) := by decide +kernel
theorem kd_Jd_judgeRange_29 : decode kc_Jd_judgeRange 29 = .ok (.bipush 31, 2) := by decide +kernel
theorem kd_Jd_judgeRange_31 : decode kc_Jd_judgeRange 31 = .ok (.if_icmp .ne 7, 3) := by decide +kernel
theorem kd_Jd_judgeRange_34 : decode kc_Jd_judgeRange 34 = .ok (.iconst 1, 1) := by decide +kernel
theorem kd_Jd_judgeRange_35 : decode kc_Jd_judgeRange 35 = .ok (.goto 4, 3) := by decide +kernel
theorem kd_Jd_judgeRange_38 : decode kc_Jd_judgeRange 38 = .ok (.iconst 0, 1) := by decide +kernel
theorem kd_Jd_judgeRange_39 : decode kc_Jd_judgeRange 39 = .ok (.istore 4, 2) := by decide +kernel
theorem kd_Jd_judgeRange_41 : decode kc_Jd_judgeRange 41 = .ok (.iload_n 3, 1) := by decide +kernel
theorem kd_Jd_judgeRange_42 : decode kc_Jd_judgeRange 42 = .ok (.iconst (-1), 1) := by decide +kernel
theorem kd_Jd_judgeRange_43 : decode kc_Jd_judgeRange 43 = .ok (.if_icmp .eq 48, 3) := by decide +kernel
theorem kd_Jd_judgeRange_46 : decode kc_Jd_judgeRange 46 = .ok (.iload 4, 2) := by decide +kernel
theorem kd_Jd_judgeRange_48 : decode kc_Jd_judgeRange 48 = .ok (.aload_n 0, 1) := by decide +kernel
theorem kd_Jd_judgeRange_49 : decode kc_Jd_judgeRange 49 = .ok (.getfield 9, 3) := by decide +kernel
theorem kd_Jd_judgeRange_52 : decode kc_Jd_judgeRange 52 = .ok (.getfield 71, 3) := by decide +kernel
theorem kd_Jd_judgeRange_55 : decode kc_Jd_judgeRange 55 = .ok (.iload_n 3, 1) := by decide +kernel
theorem kd_Jd_judgeRange_56 : decode kc_Jd_judgeRange 56 = .ok (.baload, 1) := by decide +kernel
theorem kd_Jd_judgeRange_57 : decode kc_Jd_judgeRange 57 = .ok (.bipush 31, 2) := by decide +kernel
theorem kd_Jd_judgeRange_59 : decode kc_Jd_judgeRange 59 = .ok (.if_icmp .eq 24, 3) := by decide +kernel
theorem kd_Jd_judgeRange_62 : decode kc_Jd_judgeRange 62 = .ok (.aload_n 0, 1) := by decide +kernel
theorem kd_Jd_judgeRange_63 : decode kc_Jd_judgeRange 63 = .ok (.getfield 9, 3) := by decide +kernel
theorem kd_Jd_judgeRange_66 : decode kc_Jd_judgeRange 66 = .ok (.getfield 78, 3) := by decide +kernel
theorem kd_Jd_judgeRange_69 : decode kc_Jd_judgeRange 69 = .ok (.iload_n 2, 1) := by decide +kernel
theorem kd_Jd_judgeRange_70 : decode kc_Jd_judgeRange 70 = .ok (.iaload, 1) := by decide +kernel
theorem kd_Jd_judgeRange_71 : decode kc_Jd_judgeRange 71 = .ok (.aload_n 0, 1) := by decide +kernel
theorem kd_Jd_judgeRange_72 : decode kc_Jd_judgeRange 72 = .ok (.getfield 9, 3) := by decide +kernel
theorem kd_Jd_judgeRange_75 : decode kc_Jd_judgeRange 75 = .ok (.getfield 78, 3) := by decide +kernel
theorem kd_Jd_judgeRange_78 : decode kc_Jd_judgeRange 78 = .ok (.iload_n 3, 1) := by decide +kernel
theorem kd_Jd_judgeRange_79 : decode kc_Jd_judgeRange 79 = .ok (.iaload, 1) := by decide +kernel
theorem kd_Jd_judgeRange_80 : decode kc_Jd_judgeRange 80 = .ok (.if_icmp .le 7, 3) := by decide +kernel
theorem kd_Jd_judgeRange_83 : decode kc_Jd_judgeRange 83 = .ok (.iconst 1, 1) := by decide +kernel
theorem kd_Jd_judgeRange_84 : decode kc_Jd_judgeRange 84 = .ok (.goto 4, 3) := by decide +kernel
theorem kd_Jd_judgeRange_87 : decode kc_Jd_judgeRange 87 = .ok (.iconst 0, 1) := by decide +kernel
theorem kd_Jd_judgeRange_88 : decode kc_Jd_judgeRange 88 = .ok (.ior, 1) := by decide +kernel
theorem kd_Jd_judgeRange_89 : decode kc_Jd_judgeRange 89 = .ok (.istore 4, 2) := by decide +kernel
theorem kd_Jd_judgeRange_91 : decode kc_Jd_judgeRange 91 = .ok (.aload_n 0, 1) := by decide +kernel
theorem kd_Jd_judgeRange_92 : decode kc_Jd_judgeRange 92 = .ok (.iload 4, 2) := by decide +kernel
theorem kd_Jd_judgeRange_94 : decode kc_Jd_judgeRange 94 = .ok (.bipush 35, 2) := by decide +kernel
theorem kd_Jd_judgeRange_96 : decode kc_Jd_judgeRange 96 = .ok (.iload_n 1, 1) := by decide +kernel
theorem kd_Jd_judgeRange_97 : decode kc_Jd_judgeRange 97 = .ok (.invokevirtual 112, 3) := by decide +kernel
theorem kd_Jd_judgeRange_100 : decode kc_Jd_judgeRange 100 = .ok (.return_, 1) := by decide +kernel
theorem kd_Jd_placeCell_0 : decode kc_Jd_placeCell 0 = .ok (.getstatic 221, 3) := by decide +kernel
theorem kd_Jd_placeCell_3 : decode kc_Jd_placeCell 3 = .ok (.iload_n 0, 1) := by decide +kernel
theorem kd_Jd_placeCell_4 : decode kc_Jd_placeCell 4 = .ok (.bipush 8, 2) := by decide +kernel
theorem kd_Jd_placeCell_6 : decode kc_Jd_placeCell 6 = .ok (.ishr, 1) := by decide +kernel
theorem kd_Jd_placeCell_7 : decode kc_Jd_placeCell 7 = .ok (.iaload, 1) := by decide +kernel
theorem kd_Jd_placeCell_8 : decode kc_Jd_placeCell 8 = .ok (.iload_n 0, 1) := by decide +kernel
theorem kd_Jd_placeCell_9 : decode kc_Jd_placeCell 9 = .ok (.sipush 255, 3) := by decide +kernel
theorem kd_Jd_placeCell_12 : decode kc_Jd_placeCell 12 = .ok (.iand, 1) := by decide +kernel
theorem kd_Jd_placeCell_13 : decode kc_Jd_placeCell 13 = .ok (.iadd, 1) := by decide +kernel
theorem kd_Jd_placeCell_14 : decode kc_Jd_placeCell 14 = .ok (.ireturn, 1) := by decide +kernel
theorem kd_Jd_variableAt_0 : decode kc_Jd_variableAt 0 = .ok (.aload_n 0, 1) := by decide +kernel
theorem kd_Jd_variableAt_1 : decode kc_Jd_variableAt 1 = .ok (.getfield 15, 3) := by decide +kernel
theorem kd_Jd_variableAt_4 : decode kc_Jd_variableAt 4 = .ok (.aload_n 0, 1) := by decide +kernel
theorem kd_Jd_variableAt_5 : decode kc_Jd_variableAt 5 = .ok (.getfield 9, 3) := by decide +kernel
theorem kd_Jd_variableAt_8 : decode kc_Jd_variableAt 8 = .ok (.getfield 78, 3) := by decide +kernel
theorem kd_Jd_variableAt_11 : decode kc_Jd_variableAt 11 = .ok (.iload_n 1, 1) := by decide +kernel
theorem kd_Jd_variableAt_12 : decode kc_Jd_variableAt 12 = .ok (.iaload, 1) := by decide +kernel
theorem kd_Jd_variableAt_13 : decode kc_Jd_variableAt 13 = .ok (.invokevirtual 93, 3) := by decide +kernel
theorem kd_Jd_variableAt_16 : decode kc_Jd_variableAt 16 = .ok (.istore_n 3, 1) := by decide +kernel
theorem kd_Jd_variableAt_17 : decode kc_Jd_variableAt 17 = .ok (.aload_n 0, 1) := by decide +kernel
theorem kd_Jd_variableAt_18 : decode kc_Jd_variableAt 18 = .ok (.iload_n 3, 1) := by decide +kernel
theorem kd_Jd_variableAt_19 : decode kc_Jd_variableAt 19 = .ok (.iconst (-1), 1) := by decide +kernel
theorem kd_Jd_variableAt_20 : decode kc_Jd_variableAt 20 = .ok (.if_icmp .ne 7, 3) := by decide +kernel
theorem kd_Jd_variableAt_23 : decode kc_Jd_variableAt 23 = .ok (.iconst 1, 1) := by decide +kernel
theorem kd_Jd_variableAt_24 : decode kc_Jd_variableAt 24 = .ok (.goto 4, 3) := by decide +kernel
theorem kd_Jd_variableAt_27 : decode kc_Jd_variableAt 27 = .ok (.iconst 0, 1) := by decide +kernel
theorem kd_Jd_variableAt_28 : decode kc_Jd_variableAt 28 = .ok (.bipush 20, 2) := by decide +kernel
theorem kd_Jd_variableAt_30 : decode kc_Jd_variableAt 30 = .ok (.iload_n 1, 1) := by decide +kernel
theorem kd_Jd_variableAt_31 : decode kc_Jd_variableAt 31 = .ok (.invokevirtual 112, 3) := by decide +kernel
theorem kd_Jd_variableAt_34 : decode kc_Jd_variableAt 34 = .ok (.aload_n 0, 1) := by decide +kernel
theorem kd_Jd_variableAt_35 : decode kc_Jd_variableAt 35 = .ok (.getfield 29, 3) := by decide +kernel
theorem kd_Jd_variableAt_38 : decode kc_Jd_variableAt 38 = .ok (.ifCond .ne 49, 3) := by decide +kernel
theorem kd_Jd_variableAt_41 : decode kc_Jd_variableAt 41 = .ok (.aload_n 0, 1) := by decide +kernel
theorem kd_Jd_variableAt_42 : decode kc_Jd_variableAt 42 = .ok (.getfield 15, 3) := by decide +kernel
theorem kd_Jd_variableAt_45 : decode kc_Jd_variableAt 45 = .ok (.getfield 100, 3) := by decide +kernel
theorem kd_Jd_variableAt_48 : decode kc_Jd_variableAt 48 = .ok (.iload_n 3, 1) := by decide +kernel
theorem kd_Jd_variableAt_49 : decode kc_Jd_variableAt 49 = .ok (.iaload, 1) := by decide +kernel
theorem kd_Jd_variableAt_50 : decode kc_Jd_variableAt 50 = .ok (.istore 4, 2) := by decide +kernel
theorem kd_Jd_variableAt_52 : decode kc_Jd_variableAt 52 = .ok (.aload_n 0, 1) := by decide +kernel
theorem kd_Jd_variableAt_53 : decode kc_Jd_variableAt 53 = .ok (.iload_n 2, 1) := by decide +kernel
theorem kd_Jd_variableAt_54 : decode kc_Jd_variableAt 54 = .ok (.ifCond .ge 17, 3) := by decide +kernel
theorem kd_Jd_variableAt_57 : decode kc_Jd_variableAt 57 = .ok (.iload 4, 2) := by decide +kernel
theorem kd_Jd_variableAt_59 : decode kc_Jd_variableAt 59 = .ok (.iload_n 2, 1) := by decide +kernel
theorem kd_Jd_variableAt_60 : decode kc_Jd_variableAt 60 = .ok (.if_icmp .eq 7, 3) := by decide +kernel
theorem kd_Jd_variableAt_63 : decode kc_Jd_variableAt 63 = .ok (.iconst 1, 1) := by decide +kernel
theorem kd_Jd_variableAt_64 : decode kc_Jd_variableAt 64 = .ok (.goto 17, 3) := by decide +kernel
theorem kd_Jd_variableAt_67 : decode kc_Jd_variableAt 67 = .ok (.iconst 0, 1) := by decide +kernel
theorem kd_Jd_variableAt_68 : decode kc_Jd_variableAt 68 = .ok (.goto 13, 3) := by decide +kernel
theorem kd_Jd_variableAt_71 : decode kc_Jd_variableAt 71 = .ok (.iload 4, 2) := by decide +kernel
theorem kd_Jd_variableAt_73 : decode kc_Jd_variableAt 73 = .ok (.ifCond .ge 7, 3) := by decide +kernel
theorem kd_Jd_variableAt_76 : decode kc_Jd_variableAt 76 = .ok (.iconst 1, 1) := by decide +kernel
theorem kd_Jd_variableAt_77 : decode kc_Jd_variableAt 77 = .ok (.goto 4, 3) := by decide +kernel
theorem kd_Jd_variableAt_80 : decode kc_Jd_variableAt 80 = .ok (.iconst 0, 1) := by decide +kernel
theorem kd_Jd_variableAt_81 : decode kc_Jd_variableAt 81 = .ok (.bipush 21, 2) := by decide +kernel
theorem kd_Jd_variableAt_83 : decode kc_Jd_variableAt 83 = .ok (.iload_n 1, 1) := by decide +kernel
theorem kd_Jd_variableAt_84 : decode kc_Jd_variableAt 84 = .ok (.invokevirtual 112, 3) := by decide +kernel
theorem kd_Jd_variableAt_87 : decode kc_Jd_variableAt 87 = .ok (.iload_n 3, 1) := by decide +kernel
theorem kd_Jd_variableAt_88 : decode kc_Jd_variableAt 88 = .ok (.ireturn, 1) := by decide +kernel
theorem kd_Tr_second_0 : decode kc_Tr_second 0 = .ok (.aload_n 0, 1) := by decide +kernel
theorem kd_Tr_second_1 : decode kc_Tr_second 1 = .ok (.getfield 27, 3) := by decide +kernel
theorem kd_Tr_second_4 : decode kc_Tr_second 4 = .ok (.iload_n 1, 1) := by decide +kernel
theorem kd_Tr_second_5 : decode kc_Tr_second 5 = .ok (.iaload, 1) := by decide +kernel
theorem kd_Tr_second_6 : decode kc_Tr_second 6 = .ok (.istore_n 2, 1) := by decide +kernel
theorem kd_Tr_second_7 : decode kc_Tr_second 7 = .ok (.iload_n 2, 1) := by decide +kernel
theorem kd_Tr_second_8 : decode kc_Tr_second 8 = .ok (.iconst (-1), 1) := by decide +kernel
theorem kd_Tr_second_9 : decode kc_Tr_second 9 = .ok (.if_icmp .ne 7, 3) := by decide +kernel
theorem kd_Tr_second_12 : decode kc_Tr_second 12 = .ok (.iconst (-1), 1) := by decide +kernel
theorem kd_Tr_second_13 : decode kc_Tr_second 13 = .ok (.goto 9, 3) := by decide +kernel
theorem kd_Tr_second_16 : decode kc_Tr_second 16 = .ok (.aload_n 0, 1) := by decide +kernel
theorem kd_Tr_second_17 : decode kc_Tr_second 17 = .ok (.getfield 30, 3) := by decide +kernel
theorem kd_Tr_second_20 : decode kc_Tr_second 20 = .ok (.iload_n 2, 1) := by decide +kernel
theorem kd_Tr_second_21 : decode kc_Tr_second 21 = .ok (.iaload, 1) := by decide +kernel
theorem kd_Tr_second_22 : decode kc_Tr_second 22 = .ok (.ireturn, 1) := by decide +kernel
theorem kd_Tr_stepOf_0 : decode kc_Tr_stepOf 0 = .ok (.aload_n 0, 1) := by decide +kernel
theorem kd_Tr_stepOf_1 : decode kc_Tr_stepOf 1 = .ok (.iload_n 1, 1) := by decide +kernel
theorem kd_Tr_stepOf_2 : decode kc_Tr_stepOf 2 = .ok (.invokevirtual 44, 3) := by decide +kernel
theorem kd_Tr_stepOf_5 : decode kc_Tr_stepOf 5 = .ok (.istore_n 2, 1) := by decide +kernel
theorem kd_Tr_stepOf_6 : decode kc_Tr_stepOf 6 = .ok (.iload_n 2, 1) := by decide +kernel
theorem kd_Tr_stepOf_7 : decode kc_Tr_stepOf 7 = .ok (.iconst (-1), 1) := by decide +kernel
theorem kd_Tr_stepOf_8 : decode kc_Tr_stepOf 8 = .ok (.if_icmp .ne 7, 3) := by decide +kernel
theorem kd_Tr_stepOf_11 : decode kc_Tr_stepOf 11 = .ok (.iconst (-1), 1) := by decide +kernel
theorem kd_Tr_stepOf_12 : decode kc_Tr_stepOf 12 = .ok (.goto 9, 3) := by decide +kernel
theorem kd_Tr_stepOf_15 : decode kc_Tr_stepOf 15 = .ok (.aload_n 0, 1) := by decide +kernel
theorem kd_Tr_stepOf_16 : decode kc_Tr_stepOf 16 = .ok (.getfield 30, 3) := by decide +kernel
theorem kd_Tr_stepOf_19 : decode kc_Tr_stepOf 19 = .ok (.iload_n 2, 1) := by decide +kernel
theorem kd_Tr_stepOf_20 : decode kc_Tr_stepOf 20 = .ok (.iaload, 1) := by decide +kernel
theorem kd_Tr_stepOf_21 : decode kc_Tr_stepOf 21 = .ok (.istore_n 3, 1) := by decide +kernel
theorem kd_Tr_stepOf_22 : decode kc_Tr_stepOf 22 = .ok (.aload_n 0, 1) := by decide +kernel
theorem kd_Tr_stepOf_23 : decode kc_Tr_stepOf 23 = .ok (.iload_n 3, 1) := by decide +kernel
theorem kd_Tr_stepOf_24 : decode kc_Tr_stepOf 24 = .ok (.invokevirtual 48, 3) := by decide +kernel
theorem kd_Tr_stepOf_27 : decode kc_Tr_stepOf 27 = .ok (.ifCond .eq 12, 3) := by decide +kernel
theorem kd_Tr_stepOf_30 : decode kc_Tr_stepOf 30 = .ok (.aload_n 0, 1) := by decide +kernel
theorem kd_Tr_stepOf_31 : decode kc_Tr_stepOf 31 = .ok (.getfield 23, 3) := by decide +kernel
theorem kd_Tr_stepOf_34 : decode kc_Tr_stepOf 34 = .ok (.iload_n 3, 1) := by decide +kernel
theorem kd_Tr_stepOf_35 : decode kc_Tr_stepOf 35 = .ok (.iaload, 1) := by decide +kernel
theorem kd_Tr_stepOf_36 : decode kc_Tr_stepOf 36 = .ok (.goto 4, 3) := by decide +kernel
theorem kd_Tr_stepOf_39 : decode kc_Tr_stepOf 39 = .ok (.iconst 1, 1) := by decide +kernel
theorem kd_Tr_stepOf_40 : decode kc_Tr_stepOf 40 = .ok (.ireturn, 1) := by decide +kernel
set_option maxHeartbeats 4000000 in
set_option maxRecDepth 100000 in
theorem zb_Jd_variableAt_81 {X : zkj_T} {S : zs_T} {P : ze_T} {l : Launch} {D : va_G} {sz0 : Nat} {rv : Int32} {rh : zs_H} (C : zk_C X km_Jd_variableAt (zs_G S l D sz0) { frames := 2, cells := 0, slots := 0, locals := 45 } (ze_E P)) (hR : zkj_R X (zd_PI S rv rh) (some .int)) (h : zs_H) (x1 : Int32) (x3 : Int32) (y0 : Int32) (e : f_Jd_variableAt_81 h x1 x3 y0 = some (rv, rh)) : zk_Ab X (zs_W S h) 0 0 81 [(1, .int x1), (3, .int x3)] [.int y0, .ref (S.1 38)] := by
  unfold f_Jd_variableAt_81 at e
  refine zk_bipush (v := 21) C kd_Jd_variableAt_81 (by decide) rfl ?_
  refine zk_iload_n C kd_Jd_variableAt_83 rfl 0 rfl rfl ?_
  obtain ⟨h2, c1, e⟩ := zd_b e
  refine zs_callV (k := 38) (rn := { frames := 1, cells := 0, slots := 0, locals := 22 }) (As := [.int y0, .int 21, .int x1]) (rest := []) C (zc_Jd_refuseIf h y0 21 x1 c1) ku_Jd_refuseIf kw1036 kv_Jd_refuseIf rfl ⟨by decide, by decide⟩ ⟨by decide, by decide⟩ rfl rfl rfl (Nat.le_of_ble_eq_true rfl) kd_Jd_variableAt_84 rfl (c1 := 0) (s1 := 0) rfl rfl (fun v w hp => ?_)
  obtain ⟨rfl, rfl⟩ := hp
  refine zk_stk (r' := []) rfl ?_
  refine zk_iload_n C kd_Jd_variableAt_87 rfl 1 rfl rfl ?_
  exact zk_iret C hR kd_Jd_variableAt_88 rfl rfl (zd_rIS e)
set_option maxHeartbeats 4000000 in
set_option maxRecDepth 100000 in
theorem zb_Jd_variableAt_28 {X : zkj_T} {S : zs_T} {P : ze_T} {l : Launch} {D : va_G} {sz0 : Nat} {rv : Int32} {rh : zs_H} (C : zk_C X km_Jd_variableAt (zs_G S l D sz0) { frames := 2, cells := 0, slots := 0, locals := 45 } (ze_E P)) (hR : zkj_R X (zd_PI S rv rh) (some .int)) (h : zs_H) (x1 : Int32) (x2 : Int32) (x3 : Int32) (y0 : Int32) (e : f_Jd_variableAt_28 h x1 x2 x3 y0 = some (rv, rh)) : zk_Ab X (zs_W S h) 0 0 28 [(0, .ref (S.1 38)), (1, .int x1), (2, .int x2), (3, .int x3)] [.int y0, .ref (S.1 38)] := by
  unfold f_Jd_variableAt_28 at e
  refine zk_bipush (v := 20) C kd_Jd_variableAt_28 (by decide) rfl ?_
  refine zk_iload_n C kd_Jd_variableAt_30 rfl 1 rfl rfl ?_
  obtain ⟨h2, c1, e⟩ := zd_b e
  refine zs_callV (k := 38) (rn := { frames := 1, cells := 0, slots := 0, locals := 22 }) (As := [.int y0, .int 20, .int x1]) (rest := []) C (zc_Jd_refuseIf h y0 20 x1 c1) ku_Jd_refuseIf kw1036 kv_Jd_refuseIf rfl ⟨by decide, by decide⟩ ⟨by decide, by decide⟩ rfl rfl rfl (Nat.le_of_ble_eq_true rfl) kd_Jd_variableAt_31 rfl (c1 := 0) (s1 := 0) rfl rfl (fun v w hp => ?_)
  obtain ⟨rfl, rfl⟩ := hp
  refine zk_stk (r' := []) rfl ?_
  refine zk_aload_n C kd_Jd_variableAt_34 rfl 0 rfl rfl ?_
  refine zs_get (v := .int (h2.1 38 3)) C 38 3 rfl rfl rfl rfl ki_Jd (by decide) kw354 kd_Jd_variableAt_35 rfl ?_
  refine zk_if_ne (tgt := 87) C kd_Jd_variableAt_38 (by decide) rfl (fun b3 => ?_) (fun b3 => ?_)
  · replace e := zd_neg b3 e
    refine zk_iload_n C kd_Jd_variableAt_87 rfl 3 rfl rfl ?_
    exact zk_iret C hR kd_Jd_variableAt_88 rfl rfl (zd_rIS e)
  · replace e := zd_pos b3 e
    refine zk_aload_n C kd_Jd_variableAt_41 rfl 0 rfl rfl ?_
    refine zs_get (v := .ref (S.1 20)) C 38 2 rfl rfl rfl rfl ki_Jd (by decide) kw353 kd_Jd_variableAt_42 rfl ?_
    refine zs_get (v := .ref (S.1 30)) C 20 9 rfl rfl rfl rfl ki_Pl (by decide) kw262 kd_Jd_variableAt_45 rfl ?_
    refine zk_iload_n C kd_Jd_variableAt_48 rfl 3 rfl rfl ?_
    obtain ⟨q4, e⟩ := zd_g e
    refine zs_iald C 30 rfl (zd_vp q4) kd_Jd_variableAt_49 rfl ?_
    refine zk_istore (lv' := [(4, _), (0, _), (1, _), (2, _), (3, _)]) C kd_Jd_variableAt_50 (by decide) rfl rfl ?_
    refine zk_aload_n C kd_Jd_variableAt_52 rfl 1 rfl rfl ?_
    refine zk_iload_n C kd_Jd_variableAt_53 rfl 3 rfl rfl ?_
    refine zk_if_ge (tgt := 71) C kd_Jd_variableAt_54 (by decide) rfl (fun b5 => ?_) (fun b5 => ?_)
    · replace e := zd_pos b5 e
      refine zk_iload C kd_Jd_variableAt_71 0 rfl rfl ?_
      refine zk_if_ge (tgt := 80) C kd_Jd_variableAt_73 (by decide) rfl (fun b6 => ?_) (fun b6 => ?_)
      · replace e := zd_pos b6 e
        refine zk_iconst (v := 0) C kd_Jd_variableAt_80 (by decide) rfl ?_
        refine zk_lvs (lv' := [(1, .int x1), (3, .int x3)]) [2, 4] rfl ?_
        exact zb_Jd_variableAt_81 C hR h2 x1 x3 0 e
      · replace e := zd_neg b6 e
        refine zk_iconst (v := 1) C kd_Jd_variableAt_76 (by decide) rfl ?_
        refine zk_goto (tgt := 81) C kd_Jd_variableAt_77 (by decide) ?_
        refine zk_lvs (lv' := [(1, .int x1), (3, .int x3)]) [2, 4] rfl ?_
        exact zb_Jd_variableAt_81 C hR h2 x1 x3 1 e
    · replace e := zd_neg b5 e
      refine zk_iload C kd_Jd_variableAt_57 0 rfl rfl ?_
      refine zk_iload_n C kd_Jd_variableAt_59 rfl 3 rfl rfl ?_
      refine zk_icmp_eq (tgt := 67) C kd_Jd_variableAt_60 (by decide) rfl (fun b7 => ?_) (fun b7 => ?_)
      · replace e := zd_pos b7 e
        refine zk_iconst (v := 0) C kd_Jd_variableAt_67 (by decide) rfl ?_
        refine zk_goto (tgt := 81) C kd_Jd_variableAt_68 (by decide) ?_
        refine zk_lvs (lv' := [(1, .int x1), (3, .int x3)]) [2, 4] rfl ?_
        exact zb_Jd_variableAt_81 C hR h2 x1 x3 0 e
      · replace e := zd_neg b7 e
        refine zk_iconst (v := 1) C kd_Jd_variableAt_63 (by decide) rfl ?_
        refine zk_goto (tgt := 81) C kd_Jd_variableAt_64 (by decide) ?_
        refine zk_lvs (lv' := [(1, .int x1), (3, .int x3)]) [2, 4] rfl ?_
        exact zb_Jd_variableAt_81 C hR h2 x1 x3 1 e
set_option maxHeartbeats 4000000 in
set_option maxRecDepth 100000 in
theorem zc_Jd_variableAt {l : Launch} {D : va_G} {sz0 : Nat} {S : zs_T} {P : ze_T} (h : zs_H) (x1 : Int32) (x2 : Int32) {rv : Int32} {rh : zs_H} (e : f_Jd_variableAt h x1 x2 = some (rv, rh)) : zk_Sp (zs_G S l D sz0) (ze_E P) km_Jd_variableAt { frames := 2, cells := 0, slots := 0, locals := 45 } [.ref (S.1 38), .int x1, .int x2] (zs_W S h) (zd_PI S rv rh) := by
  refine zk_met ku_Jd_variableAt (Nat.le_of_ble_eq_true rfl) (ze_Em P) ?_
  intro X C hR
  refine zk_lvs (lv' := [(0, .ref (S.1 38)), (1, .int x1), (2, .int x2)]) [0, 1, 2] rfl ?_
  unfold f_Jd_variableAt at e
  refine zk_aload_n C kd_Jd_variableAt_0 rfl 0 rfl rfl ?_
  refine zs_get (v := .ref (S.1 20)) C 38 2 rfl rfl rfl rfl ki_Jd (by decide) kw353 kd_Jd_variableAt_1 rfl ?_
  refine zk_aload_n C kd_Jd_variableAt_4 rfl 0 rfl rfl ?_
  refine zs_get (v := .ref (S.1 12)) C 38 1 rfl rfl rfl rfl ki_Jd (by decide) kw352 kd_Jd_variableAt_5 rfl ?_
  refine zs_get (v := .ref (S.1 16)) C 12 3 rfl rfl rfl rfl ki_Tr (by decide) kw168 kd_Jd_variableAt_8 rfl ?_
  refine zk_iload_n C kd_Jd_variableAt_11 rfl 1 rfl rfl ?_
  obtain ⟨q1, e⟩ := zd_g e
  refine zs_iald C 16 rfl (zd_vp q1) kd_Jd_variableAt_12 rfl ?_
  obtain ⟨v3, c2, e⟩ := zd_b e
  refine zs_callV (k := 20) (rn := { frames := 0, cells := 0, slots := 0, locals := 0 }) (As := [.int (h.2.1 16 x1.toNatClampNeg)]) (rest := []) C (zc_Pl_variableHere h (h.2.1 16 x1.toNatClampNeg) c2) ku_Pl_variableHere kw1049 kv_Pl_variableHere rfl ⟨by decide, by decide⟩ ⟨by decide, by decide⟩ rfl rfl rfl (Nat.le_of_ble_eq_true rfl) kd_Jd_variableAt_13 rfl (c1 := 0) (s1 := 0) rfl rfl (fun v w hp => ?_)
  obtain ⟨rfl, rfl⟩ := hp
  refine zk_stk (r' := [.int v3]) rfl ?_
  refine zk_istore_n (lv' := [(3, _), (0, _), (1, _), (2, _)]) C kd_Jd_variableAt_16 rfl (by decide) rfl rfl ?_
  refine zk_aload_n C kd_Jd_variableAt_17 rfl 1 rfl rfl ?_
  refine zk_iload_n C kd_Jd_variableAt_18 rfl 0 rfl rfl ?_
  refine zk_iconst (v := (-1)) C kd_Jd_variableAt_19 (by decide) rfl ?_
  refine zk_icmp_ne (tgt := 27) C kd_Jd_variableAt_20 (by decide) rfl (fun b4 => ?_) (fun b4 => ?_)
  · replace e := zd_neg b4 e
    refine zk_iconst (v := 0) C kd_Jd_variableAt_27 (by decide) rfl ?_
    refine zk_lvs (lv' := [(0, .ref (S.1 38)), (1, .int x1), (2, .int x2), (3, .int v3)]) [1, 2, 3, 0] rfl ?_
    exact zb_Jd_variableAt_28 C hR h x1 x2 v3 0 e
  · replace e := zd_pos b4 e
    refine zk_iconst (v := 1) C kd_Jd_variableAt_23 (by decide) rfl ?_
    refine zk_goto (tgt := 28) C kd_Jd_variableAt_24 (by decide) ?_
    refine zk_lvs (lv' := [(0, .ref (S.1 38)), (1, .int x1), (2, .int x2), (3, .int v3)]) [1, 2, 3, 0] rfl ?_
    exact zb_Jd_variableAt_28 C hR h x1 x2 v3 1 e
set_option maxHeartbeats 4000000 in
set_option maxRecDepth 100000 in
theorem zc_Jd_isInRange {l : Launch} {D : va_G} {sz0 : Nat} {S : zs_T} {P : ze_T} (h : zs_H) (x1 : Int32) (x2 : Int32) {rv : Int32} (e : f_Jd_isInRange h x1 x2 = some rv) : zk_Sp (zs_G S l D sz0) (ze_E P) km_Jd_isInRange { frames := 0, cells := 0, slots := 0, locals := 0 } [.ref (S.1 38), .int x1, .int x2] (zs_W S h) (zd_PZ S rv h) := by
  refine zk_met ku_Jd_isInRange (Nat.le_of_ble_eq_true rfl) (ze_Em P) ?_
  intro X C hR
  refine zk_lvs (lv' := [(0, .ref (S.1 38)), (1, .int x1), (2, .int x2)]) [0, 1, 2] rfl ?_
  unfold f_Jd_isInRange at e
  refine zk_aload_n C kd_Jd_isInRange_0 rfl 0 rfl rfl ?_
  refine zs_get (v := .ref (S.1 12)) C 38 1 rfl rfl rfl rfl ki_Jd (by decide) kw352 kd_Jd_isInRange_1 rfl ?_
  refine zs_get (v := .ref (S.1 16)) C 12 3 rfl rfl rfl rfl ki_Tr (by decide) kw168 kd_Jd_isInRange_4 rfl ?_
  refine zk_iload_n C kd_Jd_isInRange_7 rfl 2 rfl rfl ?_
  obtain ⟨q1, e⟩ := zd_g e
  refine zs_iald C 16 rfl (zd_vp q1) kd_Jd_isInRange_8 rfl ?_
  refine zk_istore_n (lv' := [(3, _), (0, _), (1, _), (2, _)]) C kd_Jd_isInRange_9 rfl (by decide) rfl rfl ?_
  refine zk_iload_n C kd_Jd_isInRange_10 rfl 2 rfl rfl ?_
  refine zk_iconst (v := 1) C kd_Jd_isInRange_11 (by decide) rfl ?_
  refine zk_icmp_ne (tgt := 29) C kd_Jd_isInRange_12 (by decide) rfl (fun b2 => ?_) (fun b2 => ?_)
  · replace e := zd_neg b2 e
    refine zk_iconst (v := 1) C kd_Jd_isInRange_29 (by decide) rfl ?_
    refine zk_goto (tgt := 34) C kd_Jd_isInRange_30 (by decide) ?_
    exact zk_zret C hR (zd_nb (Or.inr rfl)) kd_Jd_isInRange_34 rfl rfl (zd_rZO (Or.inr rfl) e)
  · replace e := zd_pos b2 e
    refine zk_iload_n C kd_Jd_isInRange_15 rfl 0 rfl rfl ?_
    refine zk_sipush (v := (-32768)) C kd_Jd_isInRange_16 (by decide) rfl ?_
    refine zk_icmp_lt (tgt := 33) C kd_Jd_isInRange_19 (by decide) rfl (fun b3 => ?_) (fun b3 => ?_)
    · replace e := zd_pos b3 e
      refine zk_iconst (v := 0) C kd_Jd_isInRange_33 (by decide) rfl ?_
      exact zk_zret C hR (zd_nb (Or.inl rfl)) kd_Jd_isInRange_34 rfl rfl (zd_rZO (Or.inl rfl) e)
    · replace e := zd_neg b3 e
      refine zk_iload_n C kd_Jd_isInRange_22 rfl 0 rfl rfl ?_
      refine zk_sipush (v := 32767) C kd_Jd_isInRange_23 (by decide) rfl ?_
      refine zk_icmp_gt (tgt := 33) C kd_Jd_isInRange_26 (by decide) rfl (fun b4 => ?_) (fun b4 => ?_)
      · replace e := zd_pos b4 e
        refine zk_iconst (v := 0) C kd_Jd_isInRange_33 (by decide) rfl ?_
        exact zk_zret C hR (zd_nb (Or.inl rfl)) kd_Jd_isInRange_34 rfl rfl (zd_rZO (Or.inl rfl) e)
      · replace e := zd_neg b4 e
        refine zk_iconst (v := 1) C kd_Jd_isInRange_29 (by decide) rfl ?_
        refine zk_goto (tgt := 34) C kd_Jd_isInRange_30 (by decide) ?_
        exact zk_zret C hR (zd_nb (Or.inr rfl)) kd_Jd_isInRange_34 rfl rfl (zd_rZO (Or.inr rfl) e)
set_option maxHeartbeats 4000000 in
set_option maxRecDepth 100000 in
theorem zc_Tr_second {l : Launch} {D : va_G} {sz0 : Nat} {S : zs_T} {P : ze_T} (h : zs_H) (x1 : Int32) {rv : Int32} (e : f_Tr_second h x1 = some rv) : zk_Sp (zs_G S l D sz0) (ze_E P) km_Tr_second { frames := 0, cells := 0, slots := 0, locals := 0 } [.ref (S.1 12), .int x1] (zs_W S h) (zd_PI S rv h) := by
  refine zk_met ku_Tr_second (Nat.le_of_ble_eq_true rfl) (ze_Em P) ?_
  intro X C hR
  refine zk_lvs (lv' := [(0, .ref (S.1 12)), (1, .int x1)]) [0, 1] rfl ?_
  unfold f_Tr_second at e
  refine zk_aload_n C kd_Tr_second_0 rfl 0 rfl rfl ?_
  refine zs_get (v := .ref (S.1 17)) C 12 4 rfl rfl rfl rfl ki_Tr (by decide) kw169 kd_Tr_second_1 rfl ?_
  refine zk_iload_n C kd_Tr_second_4 rfl 1 rfl rfl ?_
  obtain ⟨q1, e⟩ := zd_g e
  refine zs_iald C 17 rfl (zd_vp q1) kd_Tr_second_5 rfl ?_
  refine zk_istore_n (lv' := [(2, _), (0, _), (1, _)]) C kd_Tr_second_6 rfl (by decide) rfl rfl ?_
  refine zk_iload_n C kd_Tr_second_7 rfl 0 rfl rfl ?_
  refine zk_iconst (v := (-1)) C kd_Tr_second_8 (by decide) rfl ?_
  refine zk_icmp_ne (tgt := 16) C kd_Tr_second_9 (by decide) rfl (fun b2 => ?_) (fun b2 => ?_)
  · replace e := zd_neg b2 e
    refine zk_aload_n C kd_Tr_second_16 rfl 1 rfl rfl ?_
    refine zs_get (v := .ref (S.1 18)) C 12 5 rfl rfl rfl rfl ki_Tr (by decide) kw172 kd_Tr_second_17 rfl ?_
    refine zk_iload_n C kd_Tr_second_20 rfl 0 rfl rfl ?_
    obtain ⟨q3, e⟩ := zd_g e
    refine zs_iald C 18 rfl (zd_vp q3) kd_Tr_second_21 rfl ?_
    exact zk_iret C hR kd_Tr_second_22 rfl rfl (zd_rIO e)
  · replace e := zd_pos b2 e
    refine zk_iconst (v := (-1)) C kd_Tr_second_12 (by decide) rfl ?_
    refine zk_goto (tgt := 22) C kd_Tr_second_13 (by decide) ?_
    exact zk_iret C hR kd_Tr_second_22 rfl rfl (zd_rIO e)
set_option maxHeartbeats 4000000 in
set_option maxRecDepth 100000 in
theorem zb_Tr_stepOf_21 {X : zkj_T} {S : zs_T} {P : ze_T} {l : Launch} {D : va_G} {sz0 : Nat} {rv : Int32} {h : zs_H} (C : zk_C X km_Tr_stepOf (zs_G S l D sz0) { frames := 1, cells := 0, slots := 0, locals := 22 } (ze_E P)) (hR : zkj_R X (zd_PI S rv h) (some .int)) (y0 : Int32) (e : f_Tr_stepOf_21 h y0 = some rv) : zk_Ab X (zs_W S h) 0 0 21 [(0, .ref (S.1 12))] [.int y0] := by
  unfold f_Tr_stepOf_21 at e
  refine zk_istore_n (lv' := [(3, _), (0, _)]) C kd_Tr_stepOf_21 rfl (by decide) rfl rfl ?_
  refine zk_aload_n C kd_Tr_stepOf_22 rfl 1 rfl rfl ?_
  refine zk_iload_n C kd_Tr_stepOf_23 rfl 0 rfl rfl ?_
  obtain ⟨v2, c1, e⟩ := zd_b e
  refine zs_callV (k := 12) (rn := { frames := 0, cells := 0, slots := 0, locals := 0 }) (As := [.int y0]) (rest := []) C (zc_Tr_isConstant h y0 c1) ku_Tr_isConstant kw1167 kv_Tr_isConstant rfl ⟨by decide, by decide⟩ ⟨by decide, by decide⟩ rfl rfl rfl (Nat.le_of_ble_eq_true rfl) kd_Tr_stepOf_24 rfl (c1 := 0) (s1 := 0) rfl rfl (fun v w hp => ?_)
  obtain ⟨rfl, rfl, z3⟩ := hp
  refine zk_stk (r' := [.int v2]) rfl ?_
  refine zk_if_eq (tgt := 39) C kd_Tr_stepOf_27 (by decide) rfl (fun b4 => ?_) (fun b4 => ?_)
  · replace e := zd_pos b4 e
    refine zk_iconst (v := 1) C kd_Tr_stepOf_39 (by decide) rfl ?_
    exact zk_iret C hR kd_Tr_stepOf_40 rfl rfl (zd_rIO e)
  · replace e := zd_neg b4 e
    refine zk_aload_n C kd_Tr_stepOf_30 rfl 1 rfl rfl ?_
    refine zs_get (v := .ref (S.1 16)) C 12 3 rfl rfl rfl rfl ki_Tr (by decide) kw165 kd_Tr_stepOf_31 rfl ?_
    refine zk_iload_n C kd_Tr_stepOf_34 rfl 0 rfl rfl ?_
    obtain ⟨q5, e⟩ := zd_g e
    refine zs_iald C 16 rfl (zd_vp q5) kd_Tr_stepOf_35 rfl ?_
    refine zk_goto (tgt := 40) C kd_Tr_stepOf_36 (by decide) ?_
    exact zk_iret C hR kd_Tr_stepOf_40 rfl rfl (zd_rIO e)
set_option maxHeartbeats 4000000 in
set_option maxRecDepth 100000 in
theorem zc_Tr_stepOf {l : Launch} {D : va_G} {sz0 : Nat} {S : zs_T} {P : ze_T} (h : zs_H) (x1 : Int32) {rv : Int32} (e : f_Tr_stepOf h x1 = some rv) : zk_Sp (zs_G S l D sz0) (ze_E P) km_Tr_stepOf { frames := 1, cells := 0, slots := 0, locals := 22 } [.ref (S.1 12), .int x1] (zs_W S h) (zd_PI S rv h) := by
  refine zk_met ku_Tr_stepOf (Nat.le_of_ble_eq_true rfl) (ze_Em P) ?_
  intro X C hR
  refine zk_lvs (lv' := [(0, .ref (S.1 12)), (1, .int x1)]) [0, 1] rfl ?_
  unfold f_Tr_stepOf at e
  refine zk_aload_n C kd_Tr_stepOf_0 rfl 0 rfl rfl ?_
  refine zk_iload_n C kd_Tr_stepOf_1 rfl 1 rfl rfl ?_
  obtain ⟨v2, c1, e⟩ := zd_b e
  refine zs_callV (k := 12) (rn := { frames := 0, cells := 0, slots := 0, locals := 0 }) (As := [.int x1]) (rest := []) C (zc_Tr_second h x1 c1) ku_Tr_second kw1166 kv_Tr_second rfl ⟨by decide, by decide⟩ ⟨by decide, by decide⟩ rfl rfl rfl (Nat.le_of_ble_eq_true rfl) kd_Tr_stepOf_2 rfl (c1 := 0) (s1 := 0) rfl rfl (fun v w hp => ?_)
  obtain ⟨rfl, rfl⟩ := hp
  refine zk_stk (r' := [.int v2]) rfl ?_
  refine zk_istore_n (lv' := [(2, _), (0, _), (1, _)]) C kd_Tr_stepOf_5 rfl (by decide) rfl rfl ?_
  refine zk_iload_n C kd_Tr_stepOf_6 rfl 0 rfl rfl ?_
  refine zk_iconst (v := (-1)) C kd_Tr_stepOf_7 (by decide) rfl ?_
  refine zk_icmp_ne (tgt := 15) C kd_Tr_stepOf_8 (by decide) rfl (fun b3 => ?_) (fun b3 => ?_)
  · replace e := zd_neg b3 e
    refine zk_aload_n C kd_Tr_stepOf_15 rfl 1 rfl rfl ?_
    refine zs_get (v := .ref (S.1 18)) C 12 5 rfl rfl rfl rfl ki_Tr (by decide) kw172 kd_Tr_stepOf_16 rfl ?_
    refine zk_iload_n C kd_Tr_stepOf_19 rfl 0 rfl rfl ?_
    obtain ⟨q4, e⟩ := zd_g e
    refine zs_iald C 18 rfl (zd_vp q4) kd_Tr_stepOf_20 rfl ?_
    refine zk_lvs (lv' := [(0, .ref (S.1 12))]) [1] rfl ?_
    exact zb_Tr_stepOf_21 C hR (h.2.1 18 v2.toNatClampNeg) e
  · replace e := zd_pos b3 e
    refine zk_iconst (v := (-1)) C kd_Tr_stepOf_11 (by decide) rfl ?_
    refine zk_goto (tgt := 21) C kd_Tr_stepOf_12 (by decide) ?_
    refine zk_lvs (lv' := [(0, .ref (S.1 12))]) [1] rfl ?_
    exact zb_Tr_stepOf_21 C hR (-1) e
set_option maxHeartbeats 4000000 in
set_option maxRecDepth 100000 in
theorem zb_Cd_times_17 {X : zkj_T} {S : zs_T} {P : ze_T} {l : Launch} {D : va_G} {sz0 : Nat} {rv : Int64} {h : zs_H} (C : zk_C X km_Cd_times (zs_G S l D sz0) { frames := 1, cells := 0, slots := 0, locals := 23 } (ze_E P)) (hR : zkj_R X (zd_PJ S rv h) (some .long)) (x2 : Int32) (y0 : Int64) (e : f_Cd_times_17 x2 y0 = some rv) : zk_Ab X (zs_W S h) 0 0 17 [(2, .int x2)] [.long y0] := by
  unfold f_Cd_times_17 at e
  refine zk_lstore_n (lv' := [(3, _), (2, _)]) C kd_Cd_times_17 rfl (by decide) rfl rfl ?_
  refine zk_iload_n C kd_Cd_times_18 rfl 1 rfl rfl ?_
  refine zk_i2l C kd_Cd_times_19 rfl ?_
  refine zk_mabsl C kw1171 kw1172 kw19 (by decide) (Nat.le_of_ble_eq_true rfl) (Nat.le_refl _) (Nat.le_refl _) kd_Cd_times_20 rfl ?_
  refine zk_lstore (lv' := [(5, _), (3, _), (2, _)]) C kd_Cd_times_23 (by decide) rfl rfl ?_
  refine zk_lload_n C kd_Cd_times_25 rfl 1 rfl rfl ?_
  refine zk_lconst (v := 0) C kd_Cd_times_26 (by decide) rfl ?_
  refine zk_lcmp C kd_Cd_times_27 rfl ?_
  refine zk_if_lt (tgt := 38) C kd_Cd_times_28 (by decide) rfl (fun b1 => ?_) (fun b1 => ?_)
  · replace e := zd_pos (zd_clt.mp b1) e
    refine zk_lconst (v := 0) C kd_Cd_times_38 (by decide) rfl ?_
    refine zk_goto (tgt := 48) C kd_Cd_times_39 (by decide) ?_
    exact zk_lret C hR kd_Cd_times_48 rfl rfl (zd_rJO e)
  · replace e := zd_neg (fun z => b1 (zd_clt.mpr z)) e
    refine zk_lload C kd_Cd_times_31 0 rfl rfl ?_
    refine zk_lconst (v := 0) C kd_Cd_times_33 (by decide) rfl ?_
    refine zk_lcmp C kd_Cd_times_34 rfl ?_
    refine zk_if_ne (tgt := 42) C kd_Cd_times_35 (by decide) rfl (fun b2 => ?_) (fun b2 => ?_)
    · replace e := zd_neg (fun w => b2 (zd_ceq.mpr w)) e
      refine zk_lload_n C kd_Cd_times_42 rfl 1 rfl rfl ?_
      refine zk_lload C kd_Cd_times_43 0 rfl rfl ?_
      obtain ⟨q3, e⟩ := zd_gn e
      refine zk_ldiv C kd_Cd_times_45 q3 rfl ?_
      refine zk_lconst (v := 1) C kd_Cd_times_46 (by decide) rfl ?_
      refine zk_ladd C kd_Cd_times_47 rfl ?_
      exact zk_lret C hR kd_Cd_times_48 rfl rfl (zd_rJO e)
    · replace e := zd_pos (zd_ceq.mp b2) e
      refine zk_lconst (v := 0) C kd_Cd_times_38 (by decide) rfl ?_
      refine zk_goto (tgt := 48) C kd_Cd_times_39 (by decide) ?_
      exact zk_lret C hR kd_Cd_times_48 rfl rfl (zd_rJO e)
set_option maxHeartbeats 4000000 in
set_option maxRecDepth 100000 in
theorem zc_Cd_times {l : Launch} {D : va_G} {sz0 : Nat} {S : zs_T} {P : ze_T} (h : zs_H) (x0 : Int32) (x1 : Int32) (x2 : Int32) {rv : Int64} (e : f_Cd_times x0 x1 x2 = some rv) : zk_Sp (zs_G S l D sz0) (ze_E P) km_Cd_times { frames := 1, cells := 0, slots := 0, locals := 23 } [.int x0, .int x1, .int x2] (zs_W S h) (zd_PJ S rv h) := by
  refine zk_met ku_Cd_times (Nat.le_of_ble_eq_true rfl) (ze_Em P) ?_
  intro X C hR
  refine zk_lvs (lv' := [(0, .int x0), (1, .int x1), (2, .int x2)]) [0, 1, 2] rfl ?_
  unfold f_Cd_times at e
  refine zk_iload_n C kd_Cd_times_0 rfl 2 rfl rfl ?_
  refine zk_if_le (tgt := 12) C kd_Cd_times_1 (by decide) rfl (fun b1 => ?_) (fun b1 => ?_)
  · replace e := zd_pos b1 e
    refine zk_iload_n C kd_Cd_times_12 rfl 0 rfl rfl ?_
    refine zk_i2l C kd_Cd_times_13 rfl ?_
    refine zk_iload_n C kd_Cd_times_14 rfl 1 rfl rfl ?_
    refine zk_i2l C kd_Cd_times_15 rfl ?_
    refine zk_lsub C kd_Cd_times_16 rfl ?_
    refine zk_lvs (lv' := [(2, .int x2)]) [2] rfl ?_
    exact zb_Cd_times_17 C hR x2 ((x0.toInt64) - (x1.toInt64)) e
  · replace e := zd_neg b1 e
    refine zk_iload_n C kd_Cd_times_4 rfl 1 rfl rfl ?_
    refine zk_i2l C kd_Cd_times_5 rfl ?_
    refine zk_iload_n C kd_Cd_times_6 rfl 0 rfl rfl ?_
    refine zk_i2l C kd_Cd_times_7 rfl ?_
    refine zk_lsub C kd_Cd_times_8 rfl ?_
    refine zk_goto (tgt := 17) C kd_Cd_times_9 (by decide) ?_
    refine zk_lvs (lv' := [(2, .int x2)]) [2] rfl ?_
    exact zb_Cd_times_17 C hR x2 ((x1.toInt64) - (x0.toInt64)) e
set_option maxHeartbeats 4000000 in
set_option maxRecDepth 100000 in
theorem zb_Jd_judgeFor_120 {X : zkj_T} {S : zs_T} {P : ze_T} {l : Launch} {D : va_G} {sz0 : Nat} {rh : zs_H} (C : zk_C X km_Jd_judgeFor (zs_G S l D sz0) { frames := 3, cells := 0, slots := 0, locals := 72 } (ze_E P)) (hR : zkj_R X (zd_PV S rh) (none)) {k71 : zs_H → Int32 → Int32 → Int32 → Int32 → Int32 → (Option zs_H)} (hk71 : ∀ (h : zs_H) (x1 : Int32) (x2 : Int32) (x3 : Int32) (x4 : Int32) (x5 : Int32), k71 h x1 x2 x3 x4 x5 = some rh → zk_Ab X (zs_W S h) 0 0 71 [(0, .ref (S.1 38)), (1, .int x1), (2, .int x2), (3, .int x3), (4, .int x4), (5, .int x5)] []) (h : zs_H) (x1 : Int32) (x2 : Int32) (x3 : Int32) (x4 : Int32) (x5 : Int32) (y0 : Int32) (e : f_Jd_judgeFor_120 k71 h x1 x2 x3 x4 x5 y0 = some rh) : zk_Ab X (zs_W S h) 0 0 120 [(0, .ref (S.1 38)), (1, .int x1), (2, .int x2), (3, .int x3), (4, .int x4), (5, .int x5)] [.int y0, .ref (S.1 38)] := by
  unfold f_Jd_judgeFor_120 at e
  refine zk_bipush (v := 36) C kd_Jd_judgeFor_120 (by decide) rfl ?_
  refine zk_iload_n C kd_Jd_judgeFor_122 rfl 1 rfl rfl ?_
  obtain ⟨h2, c1, e⟩ := zd_b e
  refine zs_callV (k := 38) (rn := { frames := 1, cells := 0, slots := 0, locals := 22 }) (As := [.int y0, .int 36, .int x1]) (rest := []) C (zc_Jd_refuseIf h y0 36 x1 c1) ku_Jd_refuseIf kw1036 kv_Jd_refuseIf rfl ⟨by decide, by decide⟩ ⟨by decide, by decide⟩ rfl rfl rfl (Nat.le_of_ble_eq_true rfl) kd_Jd_judgeFor_123 rfl (c1 := 0) (s1 := 0) rfl rfl (fun v w hp => ?_)
  obtain ⟨rfl, rfl⟩ := hp
  refine zk_stk (r' := []) rfl ?_
  refine zk_aload_n C kd_Jd_judgeFor_126 rfl 0 rfl rfl ?_
  refine zs_get (v := .ref (S.1 12)) C 38 1 rfl rfl rfl rfl ki_Jd (by decide) kw352 kd_Jd_judgeFor_127 rfl ?_
  refine zs_get (v := .ref (S.1 18)) C 12 5 rfl rfl rfl rfl ki_Tr (by decide) kw173 kd_Jd_judgeFor_130 rfl ?_
  refine zk_iload C kd_Jd_judgeFor_133 4 rfl rfl ?_
  obtain ⟨q3, e⟩ := zd_g e
  refine zs_iald C 18 rfl (zd_vp q3) kd_Jd_judgeFor_135 rfl ?_
  refine zk_istore (lv' := [(4, _), (0, _), (1, _), (2, _), (3, _), (5, _)]) C kd_Jd_judgeFor_136 (by decide) rfl rfl ?_
  refine zk_iinc (v := (x5 + 1)) (lv' := [(5, _), (4, _), (0, _), (1, _), (2, _), (3, _)]) C kd_Jd_judgeFor_138 5 rfl rfl (by decide) rfl rfl ?_
  refine zk_goto (tgt := 71) C kd_Jd_judgeFor_141 (by decide) ?_
  refine zk_lvs (lv' := [(0, .ref (S.1 38)), (1, .int x1), (2, .int x2), (3, .int x3), (4, .int (h2.2.1 18 x4.toNatClampNeg)), (5, .int (x5 + 1))]) [2, 3, 4, 5, 1, 0] rfl ?_
  exact hk71 h2 x1 x2 x3 (h2.2.1 18 x4.toNatClampNeg) (x5 + 1) e
set_option maxHeartbeats 4000000 in
set_option maxRecDepth 100000 in
theorem zb_Jd_judgeFor_115 {X : zkj_T} {S : zs_T} {P : ze_T} {l : Launch} {D : va_G} {sz0 : Nat} {rh : zs_H} (C : zk_C X km_Jd_judgeFor (zs_G S l D sz0) { frames := 3, cells := 0, slots := 0, locals := 72 } (ze_E P)) (hR : zkj_R X (zd_PV S rh) (none)) {k71 : zs_H → Int32 → Int32 → Int32 → Int32 → Int32 → (Option zs_H)} (hk71 : ∀ (h : zs_H) (x1 : Int32) (x2 : Int32) (x3 : Int32) (x4 : Int32) (x5 : Int32), k71 h x1 x2 x3 x4 x5 = some rh → zk_Ab X (zs_W S h) 0 0 71 [(0, .ref (S.1 38)), (1, .int x1), (2, .int x2), (3, .int x3), (4, .int x4), (5, .int x5)] []) (h : zs_H) (x1 : Int32) (x2 : Int32) (x3 : Int32) (x4 : Int32) (x5 : Int32) (e : f_Jd_judgeFor_115 k71 h x1 x2 x3 x4 x5 = some rh) : zk_Ab X (zs_W S h) 0 0 115 [(0, .ref (S.1 38)), (1, .int x1), (2, .int x2), (3, .int x3), (4, .int x4), (5, .int x5)] [.ref (S.1 38)] := by
  unfold f_Jd_judgeFor_115 at e
  refine zk_iconst (v := 1) C kd_Jd_judgeFor_115 (by decide) rfl ?_
  refine zk_goto (tgt := 120) C kd_Jd_judgeFor_116 (by decide) ?_
  refine zk_lvs (lv' := [(0, .ref (S.1 38)), (1, .int x1), (2, .int x2), (3, .int x3), (4, .int x4), (5, .int x5)]) [0, 1, 2, 3, 4, 5] rfl ?_
  exact zb_Jd_judgeFor_120 C hR hk71 h x1 x2 x3 x4 x5 1 e
set_option maxHeartbeats 4000000 in
set_option maxRecDepth 100000 in
theorem zb_Jd_judgeFor_226 {X : zkj_T} {S : zs_T} {P : ze_T} {l : Launch} {D : va_G} {sz0 : Nat} {rh : zs_H} (C : zk_C X km_Jd_judgeFor (zs_G S l D sz0) { frames := 3, cells := 0, slots := 0, locals := 72 } (ze_E P)) (hR : zkj_R X (zd_PV S rh) (none)) (h : zs_H) (x1 : Int32) (x2 : Int32) (x3 : Int32) (y0 : Int32) (e : f_Jd_judgeFor_226 h x1 x2 x3 y0 = some rh) : zk_Ab X (zs_W S h) 0 0 226 [(0, .ref (S.1 38)), (1, .int x1), (2, .int x2), (3, .int x3)] [.int y0, .ref (S.1 38)] := by
  unfold f_Jd_judgeFor_226 at e
  refine zk_bipush (v := 36) C kd_Jd_judgeFor_226 (by decide) rfl ?_
  refine zk_iload_n C kd_Jd_judgeFor_228 rfl 1 rfl rfl ?_
  obtain ⟨h2, c1, e⟩ := zd_b e
  refine zs_callV (k := 38) (rn := { frames := 1, cells := 0, slots := 0, locals := 22 }) (As := [.int y0, .int 36, .int x1]) (rest := []) C (zc_Jd_refuseIf h y0 36 x1 c1) ku_Jd_refuseIf kw1036 kv_Jd_refuseIf rfl ⟨by decide, by decide⟩ ⟨by decide, by decide⟩ rfl rfl rfl (Nat.le_of_ble_eq_true rfl) kd_Jd_judgeFor_229 rfl (c1 := 0) (s1 := 0) rfl rfl (fun v w hp => ?_)
  obtain ⟨rfl, rfl⟩ := hp
  refine zk_stk (r' := []) rfl ?_
  refine zk_aload_n C kd_Jd_judgeFor_232 rfl 0 rfl rfl ?_
  refine zs_get (v := .ref (S.1 12)) C 38 1 rfl rfl rfl rfl ki_Jd (by decide) kw352 kd_Jd_judgeFor_233 rfl ?_
  refine zs_get (v := .ref (S.1 16)) C 12 3 rfl rfl rfl rfl ki_Tr (by decide) kw168 kd_Jd_judgeFor_236 rfl ?_
  refine zk_iload_n C kd_Jd_judgeFor_239 rfl 1 rfl rfl ?_
  refine zk_iload_n C kd_Jd_judgeFor_240 rfl 2 rfl rfl ?_
  obtain ⟨q3, e⟩ := zd_g e
  refine zs_iast C 16 rfl (zd_vp q3) kd_Jd_judgeFor_241 rfl ?_
  refine zk_aload_n C kd_Jd_judgeFor_242 rfl 0 rfl rfl ?_
  refine zs_get (v := .ref (S.1 12)) C 38 1 rfl rfl rfl rfl ki_Jd (by decide) kw352 kd_Jd_judgeFor_243 rfl ?_
  refine zs_get (v := .ref (S.1 14)) C 12 1 rfl rfl rfl rfl ki_Tr (by decide) kw160 kd_Jd_judgeFor_246 rfl ?_
  refine zk_iload_n C kd_Jd_judgeFor_249 rfl 1 rfl rfl ?_
  refine zk_iload_n C kd_Jd_judgeFor_250 rfl 3 rfl rfl ?_
  refine zk_i2b C kd_Jd_judgeFor_251 rfl ?_
  refine zs_bast C 14 rfl (zd_vp q3) kd_Jd_judgeFor_252 rfl ?_
  exact zk_vret C hR kd_Jd_judgeFor_253 rfl rfl (zd_rV e)
set_option maxHeartbeats 4000000 in
set_option maxRecDepth 100000 in
theorem zb_Jd_judgeFor_165 {X : zkj_T} {S : zs_T} {P : ze_T} {l : Launch} {D : va_G} {sz0 : Nat} {rh : zs_H} (C : zk_C X km_Jd_judgeFor (zs_G S l D sz0) { frames := 3, cells := 0, slots := 0, locals := 72 } (ze_E P)) (hR : zkj_R X (zd_PV S rh) (none)) (h : zs_H) (x1 : Int32) (x2 : Int32) (x3 : Int32) (x5 : Int32) (y0 : Int32) (e : f_Jd_judgeFor_165 h x1 x2 x3 x5 y0 = some rh) : zk_Ab X (zs_W S h) 0 0 165 [(0, .ref (S.1 38)), (1, .int x1), (2, .int x2), (3, .int x3), (5, .int x5)] [.int y0, .ref (S.1 38)] := by
  unfold f_Jd_judgeFor_165 at e
  refine zk_bipush (v := 36) C kd_Jd_judgeFor_165 (by decide) rfl ?_
  refine zk_iload_n C kd_Jd_judgeFor_167 rfl 1 rfl rfl ?_
  obtain ⟨h2, c1, e⟩ := zd_b e
  refine zs_callV (k := 38) (rn := { frames := 1, cells := 0, slots := 0, locals := 22 }) (As := [.int y0, .int 36, .int x1]) (rest := []) C (zc_Jd_refuseIf h y0 36 x1 c1) ku_Jd_refuseIf kw1036 kv_Jd_refuseIf rfl ⟨by decide, by decide⟩ ⟨by decide, by decide⟩ rfl rfl rfl (Nat.le_of_ble_eq_true rfl) kd_Jd_judgeFor_168 rfl (c1 := 0) (s1 := 0) rfl rfl (fun v w hp => ?_)
  obtain ⟨rfl, rfl⟩ := hp
  refine zk_stk (r' := []) rfl ?_
  refine zk_aload_n C kd_Jd_judgeFor_171 rfl 0 rfl rfl ?_
  refine zs_get (v := .ref (S.1 12)) C 38 1 rfl rfl rfl rfl ki_Jd (by decide) kw352 kd_Jd_judgeFor_172 rfl ?_
  refine zs_get (v := .ref (S.1 16)) C 12 3 rfl rfl rfl rfl ki_Tr (by decide) kw168 kd_Jd_judgeFor_175 rfl ?_
  refine zk_aload_n C kd_Jd_judgeFor_178 rfl 0 rfl rfl ?_
  refine zs_get (v := .ref (S.1 12)) C 38 1 rfl rfl rfl rfl ki_Jd (by decide) kw352 kd_Jd_judgeFor_179 rfl ?_
  refine zs_get (v := .ref (S.1 17)) C 12 4 rfl rfl rfl rfl ki_Tr (by decide) kw170 kd_Jd_judgeFor_182 rfl ?_
  refine zk_iload_n C kd_Jd_judgeFor_185 rfl 1 rfl rfl ?_
  obtain ⟨q3, e⟩ := zd_g e
  refine zs_iald C 17 rfl (zd_vp q3) kd_Jd_judgeFor_186 rfl ?_
  obtain ⟨q4, e⟩ := zd_g e
  refine zs_iald C 16 rfl (zd_vp q4) kd_Jd_judgeFor_187 rfl ?_
  refine zk_istore (lv' := [(6, _), (0, _), (1, _), (2, _), (3, _), (5, _)]) C kd_Jd_judgeFor_188 (by decide) rfl rfl ?_
  refine zk_aload_n C kd_Jd_judgeFor_190 rfl 1 rfl rfl ?_
  refine zk_iload C kd_Jd_judgeFor_191 0 rfl rfl ?_
  refine zk_aload_n C kd_Jd_judgeFor_193 rfl 1 rfl rfl ?_
  refine zs_get (v := .ref (S.1 12)) C 38 1 rfl rfl rfl rfl ki_Jd (by decide) kw352 kd_Jd_judgeFor_194 rfl ?_
  refine zs_get (v := .ref (S.1 16)) C 12 3 rfl rfl rfl rfl ki_Tr (by decide) kw168 kd_Jd_judgeFor_197 rfl ?_
  refine zk_aload_n C kd_Jd_judgeFor_200 rfl 1 rfl rfl ?_
  refine zs_get (v := .ref (S.1 12)) C 38 1 rfl rfl rfl rfl ki_Jd (by decide) kw352 kd_Jd_judgeFor_201 rfl ?_
  refine zk_iload_n C kd_Jd_judgeFor_204 rfl 2 rfl rfl ?_
  obtain ⟨v6, c5, e⟩ := zd_b e
  refine zs_callV (k := 12) (rn := { frames := 0, cells := 0, slots := 0, locals := 0 }) (As := [.int x1]) (rest := [.ref (S.1 16), .int (h2.2.1 16 (h2.2.1 17 x1.toNatClampNeg).toNatClampNeg), .ref (S.1 38)]) C (zc_Tr_second h2 x1 c5) ku_Tr_second kw1081 kv_Tr_second rfl ⟨by decide, by decide⟩ ⟨by decide, by decide⟩ rfl rfl rfl (Nat.le_of_ble_eq_true rfl) kd_Jd_judgeFor_205 rfl (c1 := 0) (s1 := 0) rfl rfl (fun v w hp => ?_)
  obtain ⟨rfl, rfl⟩ := hp
  refine zk_stk (r' := [.int v6, .ref (S.1 16), .int (h2.2.1 16 (h2.2.1 17 x1.toNatClampNeg).toNatClampNeg), .ref (S.1 38)]) rfl ?_
  obtain ⟨q7, e⟩ := zd_g e
  refine zs_iald C 16 rfl (zd_vp q7) kd_Jd_judgeFor_208 rfl ?_
  refine zk_iload C kd_Jd_judgeFor_209 5 rfl rfl ?_
  obtain ⟨v9, c8, e⟩ := zd_b e
  refine zk_callS (rn := { frames := 1, cells := 0, slots := 0, locals := 23 }) (As := [.int (h2.2.1 16 (h2.2.1 17 x1.toNatClampNeg).toNatClampNeg), .int (h2.2.1 16 v6.toNatClampNeg), .int x5]) (rest := [.ref (S.1 38)]) C (zc_Cd_times h2 (h2.2.1 16 (h2.2.1 17 x1.toNatClampNeg).toNatClampNeg) (h2.2.1 16 v6.toNatClampNeg) x5 c8) ku_Cd_times kw1168 ks_Cd_times rfl ⟨by decide, by decide⟩ ⟨by decide, by decide⟩ rfl (Nat.le_of_ble_eq_true rfl) kd_Jd_judgeFor_211 rfl (c1 := 0) (s1 := 0) rfl rfl (fun v w hp => ?_)
  obtain ⟨rfl, rfl⟩ := hp
  refine zk_stk (r' := [.long v9, .ref (S.1 38)]) rfl ?_
  refine zk_ldc2 (v := 1000000) C kw1174 kd_Jd_judgeFor_214 rfl ?_
  refine zk_lcmp C kd_Jd_judgeFor_217 rfl ?_
  refine zk_if_le (tgt := 225) C kd_Jd_judgeFor_218 (by decide) rfl (fun b10 => ?_) (fun b10 => ?_)
  · replace e := zd_pos (zd_cle.mp b10) e
    refine zk_iconst (v := 0) C kd_Jd_judgeFor_225 (by decide) rfl ?_
    refine zk_lvs (lv' := [(0, .ref (S.1 38)), (1, .int x1), (2, .int x2), (3, .int x3)]) [1, 2, 3, 4] rfl ?_
    exact zb_Jd_judgeFor_226 C hR h2 x1 x2 x3 0 e
  · replace e := zd_neg (fun z => b10 (zd_cle.mpr z)) e
    refine zk_iconst (v := 1) C kd_Jd_judgeFor_221 (by decide) rfl ?_
    refine zk_goto (tgt := 226) C kd_Jd_judgeFor_222 (by decide) ?_
    refine zk_lvs (lv' := [(0, .ref (S.1 38)), (1, .int x1), (2, .int x2), (3, .int x3)]) [1, 2, 3, 4] rfl ?_
    exact zb_Jd_judgeFor_226 C hR h2 x1 x2 x3 1 e
set_option maxHeartbeats 4000000 in
set_option maxRecDepth 100000 in
theorem zb_Jd_judgeFor_144 {X : zkj_T} {S : zs_T} {P : ze_T} {l : Launch} {D : va_G} {sz0 : Nat} {rh : zs_H} (C : zk_C X km_Jd_judgeFor (zs_G S l D sz0) { frames := 3, cells := 0, slots := 0, locals := 72 } (ze_E P)) (hR : zkj_R X (zd_PV S rh) (none)) (h : zs_H) (x1 : Int32) (x2 : Int32) (x3 : Int32) (e : f_Jd_judgeFor_144 h x1 x2 x3 = some rh) : zk_Ab X (zs_W S h) 0 0 144 [(0, .ref (S.1 38)), (1, .int x1), (2, .int x2), (3, .int x3)] [] := by
  unfold f_Jd_judgeFor_144 at e
  refine zk_aload_n C kd_Jd_judgeFor_144 rfl 0 rfl rfl ?_
  refine zs_get (v := .ref (S.1 12)) C 38 1 rfl rfl rfl rfl ki_Jd (by decide) kw352 kd_Jd_judgeFor_145 rfl ?_
  refine zk_iload_n C kd_Jd_judgeFor_148 rfl 1 rfl rfl ?_
  obtain ⟨v2, c1, e⟩ := zd_b e
  refine zs_callV (k := 12) (rn := { frames := 1, cells := 0, slots := 0, locals := 22 }) (As := [.int x1]) (rest := []) C (zc_Tr_stepOf h x1 c1) ku_Tr_stepOf kw1162 kv_Tr_stepOf rfl ⟨by decide, by decide⟩ ⟨by decide, by decide⟩ rfl rfl rfl (Nat.le_of_ble_eq_true rfl) kd_Jd_judgeFor_149 rfl (c1 := 0) (s1 := 0) rfl rfl (fun v w hp => ?_)
  obtain ⟨rfl, rfl⟩ := hp
  refine zk_stk (r' := [.int v2]) rfl ?_
  refine zk_istore (lv' := [(5, _), (0, _), (1, _), (2, _), (3, _)]) C kd_Jd_judgeFor_152 (by decide) rfl rfl ?_
  refine zk_aload_n C kd_Jd_judgeFor_154 rfl 1 rfl rfl ?_
  refine zk_iload C kd_Jd_judgeFor_155 0 rfl rfl ?_
  refine zk_if_ne (tgt := 164) C kd_Jd_judgeFor_157 (by decide) rfl (fun b3 => ?_) (fun b3 => ?_)
  · replace e := zd_neg b3 e
    refine zk_iconst (v := 0) C kd_Jd_judgeFor_164 (by decide) rfl ?_
    refine zk_lvs (lv' := [(0, .ref (S.1 38)), (1, .int x1), (2, .int x2), (3, .int x3), (5, .int v2)]) [1, 2, 3, 4, 0] rfl ?_
    exact zb_Jd_judgeFor_165 C hR h x1 x2 x3 v2 0 e
  · replace e := zd_pos b3 e
    refine zk_iconst (v := 1) C kd_Jd_judgeFor_160 (by decide) rfl ?_
    refine zk_goto (tgt := 165) C kd_Jd_judgeFor_161 (by decide) ?_
    refine zk_lvs (lv' := [(0, .ref (S.1 38)), (1, .int x1), (2, .int x2), (3, .int x3), (5, .int v2)]) [1, 2, 3, 4, 0] rfl ?_
    exact zb_Jd_judgeFor_165 C hR h x1 x2 x3 v2 1 e
set_option maxHeartbeats 4000000 in
set_option maxRecDepth 100000 in
theorem zb_Jd_judgeFor_71 {X : zkj_T} {S : zs_T} {P : ze_T} {l : Launch} {D : va_G} {sz0 : Nat} {rh : zs_H} (C : zk_C X km_Jd_judgeFor (zs_G S l D sz0) { frames := 3, cells := 0, slots := 0, locals := 72 } (ze_E P)) (hR : zkj_R X (zd_PV S rh) (none)) {k71 : zs_H → Int32 → Int32 → Int32 → Int32 → Int32 → (Option zs_H)} (hk71 : ∀ (h : zs_H) (x1 : Int32) (x2 : Int32) (x3 : Int32) (x4 : Int32) (x5 : Int32), k71 h x1 x2 x3 x4 x5 = some rh → zk_Ab X (zs_W S h) 0 0 71 [(0, .ref (S.1 38)), (1, .int x1), (2, .int x2), (3, .int x3), (4, .int x4), (5, .int x5)] []) (h : zs_H) (x1 : Int32) (x2 : Int32) (x3 : Int32) (x4 : Int32) (x5 : Int32) (e : f_Jd_judgeFor_71 k71 h x1 x2 x3 x4 x5 = some rh) : zk_Ab X (zs_W S h) 0 0 71 [(0, .ref (S.1 38)), (1, .int x1), (2, .int x2), (3, .int x3), (4, .int x4), (5, .int x5)] [] := by
  unfold f_Jd_judgeFor_71 at e
  refine zk_iload C kd_Jd_judgeFor_71 5 rfl rfl ?_
  refine zk_iconst (v := 3) C kd_Jd_judgeFor_73 (by decide) rfl ?_
  refine zk_icmp_ge (tgt := 144) C kd_Jd_judgeFor_74 (by decide) rfl (fun b1 => ?_) (fun b1 => ?_)
  · replace e := zd_pos b1 e
    refine zk_lvs (lv' := [(0, .ref (S.1 38)), (1, .int x1), (2, .int x2), (3, .int x3)]) [0, 1, 2, 3] rfl ?_
    exact zb_Jd_judgeFor_144 C hR h x1 x2 x3 e
  · replace e := zd_neg b1 e
    refine zk_aload_n C kd_Jd_judgeFor_77 rfl 0 rfl rfl ?_
    refine zs_get (v := .ref (S.1 12)) C 38 1 rfl rfl rfl rfl ki_Jd (by decide) kw352 kd_Jd_judgeFor_78 rfl ?_
    refine zk_iload C kd_Jd_judgeFor_81 4 rfl rfl ?_
    obtain ⟨v3, c2, e⟩ := zd_b e
    refine zs_callV (k := 12) (rn := { frames := 0, cells := 0, slots := 0, locals := 0 }) (As := [.int x4]) (rest := []) C (zc_Tr_isConstant h x4 c2) ku_Tr_isConstant kw1158 kv_Tr_isConstant rfl ⟨by decide, by decide⟩ ⟨by decide, by decide⟩ rfl rfl rfl (Nat.le_of_ble_eq_true rfl) kd_Jd_judgeFor_83 rfl (c1 := 0) (s1 := 0) rfl rfl (fun v w hp => ?_)
    obtain ⟨rfl, rfl, z4⟩ := hp
    refine zk_stk (r' := [.int v3]) rfl ?_
    refine zk_if_eq (tgt := 144) C kd_Jd_judgeFor_86 (by decide) rfl (fun b5 => ?_) (fun b5 => ?_)
    · replace e := zd_pos b5 e
      refine zk_lvs (lv' := [(0, .ref (S.1 38)), (1, .int x1), (2, .int x2), (3, .int x3)]) [0, 1, 2, 3] rfl ?_
      exact zb_Jd_judgeFor_144 C hR h x1 x2 x3 e
    · replace e := zd_neg b5 e
      refine zk_aload_n C kd_Jd_judgeFor_89 rfl 0 rfl rfl ?_
      refine zk_aload_n C kd_Jd_judgeFor_90 rfl 0 rfl rfl ?_
      refine zs_get (v := .ref (S.1 12)) C 38 1 rfl rfl rfl rfl ki_Jd (by decide) kw352 kd_Jd_judgeFor_91 rfl ?_
      refine zs_get (v := .ref (S.1 13)) C 12 0 rfl rfl rfl rfl ki_Tr (by decide) kw157 kd_Jd_judgeFor_94 rfl ?_
      refine zk_iload C kd_Jd_judgeFor_97 4 rfl rfl ?_
      obtain ⟨q6, e⟩ := zd_g e
      refine zs_bald C 13 rfl (zd_vp q6) kd_Jd_judgeFor_99 rfl ?_
      refine zk_bipush (v := 31) C kd_Jd_judgeFor_100 (by decide) rfl ?_
      refine zk_icmp_eq (tgt := 115) C kd_Jd_judgeFor_102 (by decide) rfl (fun b7 => ?_) (fun b7 => ?_)
      · replace e := zd_pos b7 e
        refine zk_lvs (lv' := [(0, .ref (S.1 38)), (1, .int x1), (2, .int x2), (3, .int x3), (4, .int x4), (5, .int x5)]) [0, 1, 2, 3, 4, 5] rfl ?_
        exact zb_Jd_judgeFor_115 C hR hk71 h x1 x2 x3 x4 x5 e
      · replace e := zd_neg b7 e
        refine zk_aload_n C kd_Jd_judgeFor_105 rfl 0 rfl rfl ?_
        refine zk_iload_n C kd_Jd_judgeFor_106 rfl 3 rfl rfl ?_
        refine zk_iload C kd_Jd_judgeFor_107 4 rfl rfl ?_
        obtain ⟨v9, c8, e⟩ := zd_b e
        refine zs_callV (k := 38) (rn := { frames := 0, cells := 0, slots := 0, locals := 0 }) (As := [.int x3, .int x4]) (rest := [.ref (S.1 38)]) C (zc_Jd_isInRange h x3 x4 c8) ku_Jd_isInRange kw1089 kv_Jd_isInRange rfl ⟨by decide, by decide⟩ ⟨by decide, by decide⟩ rfl rfl rfl (Nat.le_of_ble_eq_true rfl) kd_Jd_judgeFor_109 rfl (c1 := 0) (s1 := 0) rfl rfl (fun v w hp => ?_)
        obtain ⟨rfl, rfl, z10⟩ := hp
        refine zk_stk (r' := [.int v9, .ref (S.1 38)]) rfl ?_
        refine zk_if_ne (tgt := 119) C kd_Jd_judgeFor_112 (by decide) rfl (fun b11 => ?_) (fun b11 => ?_)
        · replace e := zd_neg b11 e
          refine zk_iconst (v := 0) C kd_Jd_judgeFor_119 (by decide) rfl ?_
          refine zk_lvs (lv' := [(0, .ref (S.1 38)), (1, .int x1), (2, .int x2), (3, .int x3), (4, .int x4), (5, .int x5)]) [0, 1, 2, 3, 4, 5] rfl ?_
          exact zb_Jd_judgeFor_120 C hR hk71 h x1 x2 x3 x4 x5 0 e
        · replace e := zd_pos b11 e
          refine zk_lvs (lv' := [(0, .ref (S.1 38)), (1, .int x1), (2, .int x2), (3, .int x3), (4, .int x4), (5, .int x5)]) [0, 1, 2, 3, 4, 5] rfl ?_
          exact zb_Jd_judgeFor_115 C hR hk71 h x1 x2 x3 x4 x5 e
theorem zl_Jd_judgeFor_71 {X : zkj_T} {S : zs_T} {P : ze_T} {l : Launch} {D : va_G} {sz0 : Nat} {rh : zs_H} (C : zk_C X km_Jd_judgeFor (zs_G S l D sz0) { frames := 3, cells := 0, slots := 0, locals := 72 } (ze_E P)) (hR : zkj_R X (zd_PV S rh) (none)) (n : Nat) : ∀ (h : zs_H) (x1 : Int32) (x2 : Int32) (x3 : Int32) (x4 : Int32) (x5 : Int32), f_Jd_judgeFor_L71 n h x1 x2 x3 x4 x5 = some rh → zk_Ab X (zs_W S h) 0 0 71 [(0, .ref (S.1 38)), (1, .int x1), (2, .int x2), (3, .int x3), (4, .int x4), (5, .int x5)] [] := by
  induction n with
  | zero => intro h x1 x2 x3 x4 x5 e; exact zd_no e
  | succ n ih => intro h x1 x2 x3 x4 x5 e; exact zb_Jd_judgeFor_71 (k71 := f_Jd_judgeFor_L71  n) C hR ih h x1 x2 x3 x4 x5 e
set_option maxHeartbeats 4000000 in
set_option maxRecDepth 100000 in
theorem zb_Jd_judgeFor_45 {X : zkj_T} {S : zs_T} {P : ze_T} {l : Launch} {D : va_G} {sz0 : Nat} {rh : zs_H} (C : zk_C X km_Jd_judgeFor (zs_G S l D sz0) { frames := 3, cells := 0, slots := 0, locals := 72 } (ze_E P)) (hR : zkj_R X (zd_PV S rh) (none)) (h : zs_H) (x1 : Int32) (x2 : Int32) (x3 : Int32) (y0 : Int32) (e : f_Jd_judgeFor_45 h x1 x2 x3 y0 = some rh) : zk_Ab X (zs_W S h) 0 0 45 [(0, .ref (S.1 38)), (1, .int x1), (2, .int x2), (3, .int x3)] [.int y0, .ref (S.1 38)] := by
  unfold f_Jd_judgeFor_45 at e
  refine zk_bipush (v := 22) C kd_Jd_judgeFor_45 (by decide) rfl ?_
  refine zk_iload_n C kd_Jd_judgeFor_47 rfl 1 rfl rfl ?_
  obtain ⟨h2, c1, e⟩ := zd_b e
  refine zs_callV (k := 38) (rn := { frames := 1, cells := 0, slots := 0, locals := 22 }) (As := [.int y0, .int 22, .int x1]) (rest := []) C (zc_Jd_refuseIf h y0 22 x1 c1) ku_Jd_refuseIf kw1036 kv_Jd_refuseIf rfl ⟨by decide, by decide⟩ ⟨by decide, by decide⟩ rfl rfl rfl (Nat.le_of_ble_eq_true rfl) kd_Jd_judgeFor_48 rfl (c1 := 0) (s1 := 0) rfl rfl (fun v w hp => ?_)
  obtain ⟨rfl, rfl⟩ := hp
  refine zk_stk (r' := []) rfl ?_
  refine zk_aload_n C kd_Jd_judgeFor_51 rfl 0 rfl rfl ?_
  refine zk_iload_n C kd_Jd_judgeFor_52 rfl 2 rfl rfl ?_
  refine zk_iload_n C kd_Jd_judgeFor_53 rfl 1 rfl rfl ?_
  obtain ⟨h4, c3, e⟩ := zd_b e
  refine zs_callV (k := 38) (rn := { frames := 2, cells := 0, slots := 0, locals := 45 }) (As := [.int x2, .int x1]) (rest := []) C (zc_Jd_judgeAssigned h2 x2 x1 c3) ku_Jd_judgeAssigned kw1123 kv_Jd_judgeAssigned rfl ⟨by decide, by decide⟩ ⟨by decide, by decide⟩ rfl rfl rfl (Nat.le_of_ble_eq_true rfl) kd_Jd_judgeFor_54 rfl (c1 := 0) (s1 := 0) rfl rfl (fun v w hp => ?_)
  obtain ⟨rfl, rfl⟩ := hp
  refine zk_stk (r' := []) rfl ?_
  refine zk_aload_n C kd_Jd_judgeFor_57 rfl 0 rfl rfl ?_
  refine zs_get (v := .ref (S.1 12)) C 38 1 rfl rfl rfl rfl ki_Jd (by decide) kw352 kd_Jd_judgeFor_58 rfl ?_
  refine zs_get (v := .ref (S.1 17)) C 12 4 rfl rfl rfl rfl ki_Tr (by decide) kw170 kd_Jd_judgeFor_61 rfl ?_
  refine zk_iload_n C kd_Jd_judgeFor_64 rfl 1 rfl rfl ?_
  obtain ⟨q5, e⟩ := zd_g e
  refine zs_iald C 17 rfl (zd_vp q5) kd_Jd_judgeFor_65 rfl ?_
  refine zk_istore (lv' := [(4, _), (0, _), (1, _), (2, _), (3, _)]) C kd_Jd_judgeFor_66 (by decide) rfl rfl ?_
  refine zk_iconst (v := 0) C kd_Jd_judgeFor_68 (by decide) rfl ?_
  refine zk_istore (lv' := [(5, _), (4, _), (0, _), (1, _), (2, _), (3, _)]) C kd_Jd_judgeFor_69 (by decide) rfl rfl ?_
  refine zk_lvs (lv' := [(0, .ref (S.1 38)), (1, .int x1), (2, .int x2), (3, .int x3), (4, .int (h4.2.1 17 x1.toNatClampNeg)), (5, .int 0)]) [2, 3, 4, 5, 1, 0] rfl ?_
  exact zl_Jd_judgeFor_71 C hR zF h4 x1 x2 x3 (h4.2.1 17 x1.toNatClampNeg) 0 e
set_option maxHeartbeats 4000000 in
set_option maxRecDepth 100000 in
theorem zc_Jd_judgeFor {l : Launch} {D : va_G} {sz0 : Nat} {S : zs_T} {P : ze_T} (h : zs_H) (x1 : Int32) {rh : zs_H} (e : f_Jd_judgeFor h x1 = some rh) : zk_Sp (zs_G S l D sz0) (ze_E P) km_Jd_judgeFor { frames := 3, cells := 0, slots := 0, locals := 72 } [.ref (S.1 38), .int x1] (zs_W S h) (zd_PV S rh) := by
  refine zk_met ku_Jd_judgeFor (Nat.le_of_ble_eq_true rfl) (ze_Em P) ?_
  intro X C hR
  refine zk_lvs (lv' := [(0, .ref (S.1 38)), (1, .int x1)]) [0, 1] rfl ?_
  unfold f_Jd_judgeFor at e
  refine zk_aload_n C kd_Jd_judgeFor_0 rfl 0 rfl rfl ?_
  refine zk_dup C kd_Jd_judgeFor_1 rfl rfl ?_
  refine zs_get (v := .int (h.1 38 12)) C 38 12 rfl rfl rfl rfl ki_Jd (by decide) kw363 kd_Jd_judgeFor_2 rfl ?_
  refine zk_iconst (v := 1) C kd_Jd_judgeFor_5 (by decide) rfl ?_
  refine zk_isub C kd_Jd_judgeFor_6 rfl ?_
  refine zs_put (ty := .int) C 38 12 ((h.1 38 12) - 1) rfl rfl rfl rfl ki_Jd ky_Jd ko_Jd kn_Jd (by decide) kw363 rfl rfl rfl rfl (by decide) kd_Jd_judgeFor_7 rfl ?_
  refine zk_aload_n C kd_Jd_judgeFor_10 rfl 0 rfl rfl ?_
  refine zk_iload_n C kd_Jd_judgeFor_11 rfl 1 rfl rfl ?_
  refine zk_iconst (v := (-1)) C kd_Jd_judgeFor_12 (by decide) rfl ?_
  obtain ⟨v2, h3, c1, e⟩ := zd_Be e
  refine zs_callV (k := 38) (rn := { frames := 2, cells := 0, slots := 0, locals := 45 }) (As := [.int x1, .int (-1)]) (rest := []) C (zc_Jd_variableAt (zs_uF h 38 12 ((h.1 38 12) - 1)) x1 (-1) c1) ku_Jd_variableAt kw1142 kv_Jd_variableAt rfl ⟨by decide, by decide⟩ ⟨by decide, by decide⟩ rfl rfl rfl (Nat.le_of_ble_eq_true rfl) kd_Jd_judgeFor_13 rfl (c1 := 0) (s1 := 0) rfl rfl (fun v w hp => ?_)
  obtain ⟨rfl, rfl⟩ := hp
  refine zk_stk (r' := [.int v2]) rfl ?_
  refine zk_istore_n (lv' := [(2, _), (0, _), (1, _)]) C kd_Jd_judgeFor_16 rfl (by decide) rfl rfl ?_
  refine zk_aload_n C kd_Jd_judgeFor_17 rfl 1 rfl rfl ?_
  refine zs_get (v := .int (h3.1 38 3)) C 38 3 rfl rfl rfl rfl ki_Jd (by decide) kw354 kd_Jd_judgeFor_18 rfl ?_
  refine zk_if_eq (tgt := 25) C kd_Jd_judgeFor_21 (by decide) rfl (fun b4 => ?_) (fun b4 => ?_)
  · replace e := zd_pos b4 e
    refine zk_aload_n C kd_Jd_judgeFor_25 rfl 1 rfl rfl ?_
    refine zs_get (v := .ref (S.1 20)) C 38 2 rfl rfl rfl rfl ki_Jd (by decide) kw353 kd_Jd_judgeFor_26 rfl ?_
    refine zs_get (v := .ref (S.1 31)) C 20 10 rfl rfl rfl rfl ki_Pl (by decide) kw266 kd_Jd_judgeFor_29 rfl ?_
    refine zk_iload_n C kd_Jd_judgeFor_32 rfl 0 rfl rfl ?_
    obtain ⟨q5, e⟩ := zd_g e
    refine zs_iald C 31 rfl (zd_vp q5) kd_Jd_judgeFor_33 rfl ?_
    refine zk_istore_n (lv' := [(3, _), (2, _), (0, _), (1, _)]) C kd_Jd_judgeFor_34 rfl (by decide) rfl rfl ?_
    refine zk_aload_n C kd_Jd_judgeFor_35 rfl 2 rfl rfl ?_
    refine zk_iload_n C kd_Jd_judgeFor_36 rfl 0 rfl rfl ?_
    refine zk_if_ne (tgt := 44) C kd_Jd_judgeFor_37 (by decide) rfl (fun b6 => ?_) (fun b6 => ?_)
    · replace e := zd_neg b6 e
      refine zk_iconst (v := 0) C kd_Jd_judgeFor_44 (by decide) rfl ?_
      refine zk_lvs (lv' := [(0, .ref (S.1 38)), (1, .int x1), (2, .int v2), (3, .int (h3.2.1 31 v2.toNatClampNeg))]) [2, 3, 1, 0] rfl ?_
      exact zb_Jd_judgeFor_45 C hR h3 x1 v2 (h3.2.1 31 v2.toNatClampNeg) 0 e
    · replace e := zd_pos b6 e
      refine zk_iconst (v := 1) C kd_Jd_judgeFor_40 (by decide) rfl ?_
      refine zk_goto (tgt := 45) C kd_Jd_judgeFor_41 (by decide) ?_
      refine zk_lvs (lv' := [(0, .ref (S.1 38)), (1, .int x1), (2, .int v2), (3, .int (h3.2.1 31 v2.toNatClampNeg))]) [2, 3, 1, 0] rfl ?_
      exact zb_Jd_judgeFor_45 C hR h3 x1 v2 (h3.2.1 31 v2.toNatClampNeg) 1 e
  · replace e := zd_neg b4 e
    exact zk_vret C hR kd_Jd_judgeFor_24 rfl rfl (zd_rV e)
set_option maxHeartbeats 4000000 in
set_option maxRecDepth 100000 in
theorem zb_Jd_judgeRange_91 {X : zkj_T} {S : zs_T} {P : ze_T} {l : Launch} {D : va_G} {sz0 : Nat} {rh : zs_H} (C : zk_C X km_Jd_judgeRange (zs_G S l D sz0) { frames := 2, cells := 0, slots := 0, locals := 45 } (ze_E P)) (hR : zkj_R X (zd_PV S rh) (none)) (h : zs_H) (x1 : Int32) (x4 : Int32) (e : f_Jd_judgeRange_91 h x1 x4 = some rh) : zk_Ab X (zs_W S h) 0 0 91 [(0, .ref (S.1 38)), (1, .int x1), (4, .int x4)] [] := by
  unfold f_Jd_judgeRange_91 at e
  refine zk_aload_n C kd_Jd_judgeRange_91 rfl 0 rfl rfl ?_
  refine zk_iload C kd_Jd_judgeRange_92 2 rfl rfl ?_
  refine zk_bipush (v := 35) C kd_Jd_judgeRange_94 (by decide) rfl ?_
  refine zk_iload_n C kd_Jd_judgeRange_96 rfl 1 rfl rfl ?_
  obtain ⟨h2, c1, e⟩ := zd_b e
  refine zs_callV (k := 38) (rn := { frames := 1, cells := 0, slots := 0, locals := 22 }) (As := [.int x4, .int 35, .int x1]) (rest := []) C (zc_Jd_refuseIf h x4 35 x1 c1) ku_Jd_refuseIf kw1036 kv_Jd_refuseIf rfl ⟨by decide, by decide⟩ ⟨by decide, by decide⟩ rfl rfl rfl (Nat.le_of_ble_eq_true rfl) kd_Jd_judgeRange_97 rfl (c1 := 0) (s1 := 0) rfl rfl (fun v w hp => ?_)
  obtain ⟨rfl, rfl⟩ := hp
  refine zk_stk (r' := []) rfl ?_
  exact zk_vret C hR kd_Jd_judgeRange_100 rfl rfl (zd_rV e)
set_option maxHeartbeats 4000000 in
set_option maxRecDepth 100000 in
theorem zb_Jd_judgeRange_88 {X : zkj_T} {S : zs_T} {P : ze_T} {l : Launch} {D : va_G} {sz0 : Nat} {rh : zs_H} (C : zk_C X km_Jd_judgeRange (zs_G S l D sz0) { frames := 2, cells := 0, slots := 0, locals := 45 } (ze_E P)) (hR : zkj_R X (zd_PV S rh) (none)) (h : zs_H) (x1 : Int32) (y0 : Int32) (y1 : Int32) (e : f_Jd_judgeRange_88 h x1 y0 y1 = some rh) : zk_Ab X (zs_W S h) 0 0 88 [(0, .ref (S.1 38)), (1, .int x1)] [.int y0, .int y1] := by
  unfold f_Jd_judgeRange_88 at e
  refine zk_ior C kd_Jd_judgeRange_88 rfl ?_
  refine zk_istore (lv' := [(4, _), (0, _), (1, _)]) C kd_Jd_judgeRange_89 (by decide) rfl rfl ?_
  refine zk_lvs (lv' := [(0, .ref (S.1 38)), (1, .int x1), (4, .int (y1 ||| y0))]) [1, 2, 0] rfl ?_
  exact zb_Jd_judgeRange_91 C hR h x1 (y1 ||| y0) e
set_option maxHeartbeats 4000000 in
set_option maxRecDepth 100000 in
theorem zb_Jd_judgeRange_83 {X : zkj_T} {S : zs_T} {P : ze_T} {l : Launch} {D : va_G} {sz0 : Nat} {rh : zs_H} (C : zk_C X km_Jd_judgeRange (zs_G S l D sz0) { frames := 2, cells := 0, slots := 0, locals := 45 } (ze_E P)) (hR : zkj_R X (zd_PV S rh) (none)) (h : zs_H) (x1 : Int32) (y0 : Int32) (e : f_Jd_judgeRange_83 h x1 y0 = some rh) : zk_Ab X (zs_W S h) 0 0 83 [(0, .ref (S.1 38)), (1, .int x1)] [.int y0] := by
  unfold f_Jd_judgeRange_83 at e
  refine zk_iconst (v := 1) C kd_Jd_judgeRange_83 (by decide) rfl ?_
  refine zk_goto (tgt := 88) C kd_Jd_judgeRange_84 (by decide) ?_
  refine zk_lvs (lv' := [(0, .ref (S.1 38)), (1, .int x1)]) [0, 1] rfl ?_
  exact zb_Jd_judgeRange_88 C hR h x1 1 y0 e
set_option maxHeartbeats 4000000 in
set_option maxRecDepth 100000 in
theorem zb_Jd_judgeRange_39 {X : zkj_T} {S : zs_T} {P : ze_T} {l : Launch} {D : va_G} {sz0 : Nat} {rh : zs_H} (C : zk_C X km_Jd_judgeRange (zs_G S l D sz0) { frames := 2, cells := 0, slots := 0, locals := 45 } (ze_E P)) (hR : zkj_R X (zd_PV S rh) (none)) (h : zs_H) (x1 : Int32) (x2 : Int32) (x3 : Int32) (y0 : Int32) (e : f_Jd_judgeRange_39 h x1 x2 x3 y0 = some rh) : zk_Ab X (zs_W S h) 0 0 39 [(0, .ref (S.1 38)), (1, .int x1), (2, .int x2), (3, .int x3)] [.int y0] := by
  unfold f_Jd_judgeRange_39 at e
  refine zk_istore (lv' := [(4, _), (0, _), (1, _), (2, _), (3, _)]) C kd_Jd_judgeRange_39 (by decide) rfl rfl ?_
  refine zk_iload_n C kd_Jd_judgeRange_41 rfl 4 rfl rfl ?_
  refine zk_iconst (v := (-1)) C kd_Jd_judgeRange_42 (by decide) rfl ?_
  refine zk_icmp_eq (tgt := 91) C kd_Jd_judgeRange_43 (by decide) rfl (fun b1 => ?_) (fun b1 => ?_)
  · replace e := zd_pos b1 e
    refine zk_lvs (lv' := [(0, .ref (S.1 38)), (1, .int x1), (4, .int y0)]) [1, 2, 0] rfl ?_
    exact zb_Jd_judgeRange_91 C hR h x1 y0 e
  · replace e := zd_neg b1 e
    refine zk_iload C kd_Jd_judgeRange_46 0 rfl rfl ?_
    refine zk_aload_n C kd_Jd_judgeRange_48 rfl 1 rfl rfl ?_
    refine zs_get (v := .ref (S.1 12)) C 38 1 rfl rfl rfl rfl ki_Jd (by decide) kw352 kd_Jd_judgeRange_49 rfl ?_
    refine zs_get (v := .ref (S.1 13)) C 12 0 rfl rfl rfl rfl ki_Tr (by decide) kw157 kd_Jd_judgeRange_52 rfl ?_
    refine zk_iload_n C kd_Jd_judgeRange_55 rfl 4 rfl rfl ?_
    obtain ⟨q2, e⟩ := zd_g e
    refine zs_bald C 13 rfl (zd_vp q2) kd_Jd_judgeRange_56 rfl ?_
    refine zk_bipush (v := 31) C kd_Jd_judgeRange_57 (by decide) rfl ?_
    refine zk_icmp_eq (tgt := 83) C kd_Jd_judgeRange_59 (by decide) rfl (fun b3 => ?_) (fun b3 => ?_)
    · replace e := zd_pos b3 e
      refine zk_lvs (lv' := [(0, .ref (S.1 38)), (1, .int x1)]) [1, 2] rfl ?_
      exact zb_Jd_judgeRange_83 C hR h x1 y0 e
    · replace e := zd_neg b3 e
      refine zk_aload_n C kd_Jd_judgeRange_62 rfl 1 rfl rfl ?_
      refine zs_get (v := .ref (S.1 12)) C 38 1 rfl rfl rfl rfl ki_Jd (by decide) kw352 kd_Jd_judgeRange_63 rfl ?_
      refine zs_get (v := .ref (S.1 16)) C 12 3 rfl rfl rfl rfl ki_Tr (by decide) kw168 kd_Jd_judgeRange_66 rfl ?_
      refine zk_iload_n C kd_Jd_judgeRange_69 rfl 3 rfl rfl ?_
      obtain ⟨q4, e⟩ := zd_g e
      refine zs_iald C 16 rfl (zd_vp q4) kd_Jd_judgeRange_70 rfl ?_
      refine zk_aload_n C kd_Jd_judgeRange_71 rfl 1 rfl rfl ?_
      refine zs_get (v := .ref (S.1 12)) C 38 1 rfl rfl rfl rfl ki_Jd (by decide) kw352 kd_Jd_judgeRange_72 rfl ?_
      refine zs_get (v := .ref (S.1 16)) C 12 3 rfl rfl rfl rfl ki_Tr (by decide) kw168 kd_Jd_judgeRange_75 rfl ?_
      refine zk_iload_n C kd_Jd_judgeRange_78 rfl 4 rfl rfl ?_
      refine zs_iald C 16 rfl (zd_vp q2) kd_Jd_judgeRange_79 rfl ?_
      refine zk_icmp_le (tgt := 87) C kd_Jd_judgeRange_80 (by decide) rfl (fun b5 => ?_) (fun b5 => ?_)
      · replace e := zd_pos b5 e
        refine zk_iconst (v := 0) C kd_Jd_judgeRange_87 (by decide) rfl ?_
        refine zk_lvs (lv' := [(0, .ref (S.1 38)), (1, .int x1)]) [1, 2] rfl ?_
        exact zb_Jd_judgeRange_88 C hR h x1 0 y0 e
      · replace e := zd_neg b5 e
        refine zk_lvs (lv' := [(0, .ref (S.1 38)), (1, .int x1)]) [1, 2] rfl ?_
        exact zb_Jd_judgeRange_83 C hR h x1 y0 e
set_option maxHeartbeats 4000000 in
set_option maxRecDepth 100000 in
theorem zc_Jd_judgeRange {l : Launch} {D : va_G} {sz0 : Nat} {S : zs_T} {P : ze_T} (h : zs_H) (x1 : Int32) {rh : zs_H} (e : f_Jd_judgeRange h x1 = some rh) : zk_Sp (zs_G S l D sz0) (ze_E P) km_Jd_judgeRange { frames := 2, cells := 0, slots := 0, locals := 45 } [.ref (S.1 38), .int x1] (zs_W S h) (zd_PV S rh) := by
  refine zk_met ku_Jd_judgeRange (Nat.le_of_ble_eq_true rfl) (ze_Em P) ?_
  intro X C hR
  refine zk_lvs (lv' := [(0, .ref (S.1 38)), (1, .int x1)]) [0, 1] rfl ?_
  unfold f_Jd_judgeRange at e
  refine zk_aload_n C kd_Jd_judgeRange_0 rfl 0 rfl rfl ?_
  refine zs_get (v := .ref (S.1 12)) C 38 1 rfl rfl rfl rfl ki_Jd (by decide) kw352 kd_Jd_judgeRange_1 rfl ?_
  refine zs_get (v := .ref (S.1 17)) C 12 4 rfl rfl rfl rfl ki_Tr (by decide) kw170 kd_Jd_judgeRange_4 rfl ?_
  refine zk_iload_n C kd_Jd_judgeRange_7 rfl 1 rfl rfl ?_
  obtain ⟨q1, e⟩ := zd_g e
  refine zs_iald C 17 rfl (zd_vp q1) kd_Jd_judgeRange_8 rfl ?_
  refine zk_istore_n (lv' := [(2, _), (0, _), (1, _)]) C kd_Jd_judgeRange_9 rfl (by decide) rfl rfl ?_
  refine zk_aload_n C kd_Jd_judgeRange_10 rfl 1 rfl rfl ?_
  refine zs_get (v := .ref (S.1 12)) C 38 1 rfl rfl rfl rfl ki_Jd (by decide) kw352 kd_Jd_judgeRange_11 rfl ?_
  refine zs_get (v := .ref (S.1 18)) C 12 5 rfl rfl rfl rfl ki_Tr (by decide) kw173 kd_Jd_judgeRange_14 rfl ?_
  refine zk_iload_n C kd_Jd_judgeRange_17 rfl 0 rfl rfl ?_
  obtain ⟨q2, e⟩ := zd_g e
  refine zs_iald C 18 rfl (zd_vp q2) kd_Jd_judgeRange_18 rfl ?_
  refine zk_istore_n (lv' := [(3, _), (2, _), (0, _), (1, _)]) C kd_Jd_judgeRange_19 rfl (by decide) rfl rfl ?_
  refine zk_aload_n C kd_Jd_judgeRange_20 rfl 2 rfl rfl ?_
  refine zs_get (v := .ref (S.1 12)) C 38 1 rfl rfl rfl rfl ki_Jd (by decide) kw352 kd_Jd_judgeRange_21 rfl ?_
  refine zs_get (v := .ref (S.1 13)) C 12 0 rfl rfl rfl rfl ki_Tr (by decide) kw157 kd_Jd_judgeRange_24 rfl ?_
  refine zk_iload_n C kd_Jd_judgeRange_27 rfl 1 rfl rfl ?_
  refine zs_bald C 13 rfl (zd_vp q2) kd_Jd_judgeRange_28 rfl ?_
  refine zk_bipush (v := 31) C kd_Jd_judgeRange_29 (by decide) rfl ?_
  refine zk_icmp_ne (tgt := 38) C kd_Jd_judgeRange_31 (by decide) rfl (fun b3 => ?_) (fun b3 => ?_)
  · replace e := zd_neg b3 e
    refine zk_iconst (v := 0) C kd_Jd_judgeRange_38 (by decide) rfl ?_
    refine zk_lvs (lv' := [(0, .ref (S.1 38)), (1, .int x1), (2, .int (h.2.1 17 x1.toNatClampNeg)), (3, .int (h.2.1 18 (h.2.1 17 x1.toNatClampNeg).toNatClampNeg))]) [2, 3, 1, 0] rfl ?_
    exact zb_Jd_judgeRange_39 C hR h x1 (h.2.1 17 x1.toNatClampNeg) (h.2.1 18 (h.2.1 17 x1.toNatClampNeg).toNatClampNeg) 0 e
  · replace e := zd_pos b3 e
    refine zk_iconst (v := 1) C kd_Jd_judgeRange_34 (by decide) rfl ?_
    refine zk_goto (tgt := 39) C kd_Jd_judgeRange_35 (by decide) ?_
    refine zk_lvs (lv' := [(0, .ref (S.1 38)), (1, .int x1), (2, .int (h.2.1 17 x1.toNatClampNeg)), (3, .int (h.2.1 18 (h.2.1 17 x1.toNatClampNeg).toNatClampNeg))]) [2, 3, 1, 0] rfl ?_
    exact zb_Jd_judgeRange_39 C hR h x1 (h.2.1 17 x1.toNatClampNeg) (h.2.1 18 (h.2.1 17 x1.toNatClampNeg).toNatClampNeg) 1 e
set_option maxHeartbeats 4000000 in
set_option maxRecDepth 100000 in
theorem zb_Jd_judgeIf_60 {X : zkj_T} {S : zs_T} {P : ze_T} {l : Launch} {D : va_G} {sz0 : Nat} {rh : zs_H} (C : zk_C X km_Jd_judgeIf (zs_G S l D sz0) { frames := 2, cells := 0, slots := 0, locals := 45 } (ze_E P)) (hR : zkj_R X (zd_PV S rh) (none)) {k12 : zs_H → Int32 → Int32 → Int32 → (Option zs_H)} (hk12 : ∀ (h : zs_H) (x1 : Int32) (x2 : Int32) (x3 : Int32), k12 h x1 x2 x3 = some rh → zk_Ab X (zs_W S h) 0 0 12 [(0, .ref (S.1 38)), (1, .int x1), (2, .int x2), (3, .int x3)] []) (h : zs_H) (x1 : Int32) (x2 : Int32) (x3 : Int32) (y0 : Int32) (e : f_Jd_judgeIf_60 k12 h x1 x2 x3 y0 = some rh) : zk_Ab X (zs_W S h) 0 0 60 [(0, .ref (S.1 38)), (1, .int x1), (2, .int x2), (3, .int x3)] [.int y0, .ref (S.1 38)] := by
  unfold f_Jd_judgeIf_60 at e
  refine zk_bipush (v := 34) C kd_Jd_judgeIf_60 (by decide) rfl ?_
  refine zk_iload_n C kd_Jd_judgeIf_62 rfl 1 rfl rfl ?_
  obtain ⟨h2, c1, e⟩ := zd_b e
  refine zs_callV (k := 38) (rn := { frames := 1, cells := 0, slots := 0, locals := 22 }) (As := [.int y0, .int 34, .int x1]) (rest := []) C (zc_Jd_refuseIf h y0 34 x1 c1) ku_Jd_refuseIf kw1036 kv_Jd_refuseIf rfl ⟨by decide, by decide⟩ ⟨by decide, by decide⟩ rfl rfl rfl (Nat.le_of_ble_eq_true rfl) kd_Jd_judgeIf_63 rfl (c1 := 0) (s1 := 0) rfl rfl (fun v w hp => ?_)
  obtain ⟨rfl, rfl⟩ := hp
  refine zk_stk (r' := []) rfl ?_
  refine zk_aload_n C kd_Jd_judgeIf_66 rfl 0 rfl rfl ?_
  refine zs_get (v := .ref (S.1 12)) C 38 1 rfl rfl rfl rfl ki_Jd (by decide) kw352 kd_Jd_judgeIf_67 rfl ?_
  refine zs_get (v := .ref (S.1 18)) C 12 5 rfl rfl rfl rfl ki_Tr (by decide) kw173 kd_Jd_judgeIf_70 rfl ?_
  refine zk_iload_n C kd_Jd_judgeIf_73 rfl 2 rfl rfl ?_
  obtain ⟨q3, e⟩ := zd_g e
  refine zs_iald C 18 rfl (zd_vp q3) kd_Jd_judgeIf_74 rfl ?_
  refine zk_istore_n (lv' := [(2, _), (0, _), (1, _), (3, _)]) C kd_Jd_judgeIf_75 rfl (by decide) rfl rfl ?_
  refine zk_iinc (v := (x3 + 1)) (lv' := [(3, _), (2, _), (0, _), (1, _)]) C kd_Jd_judgeIf_76 3 rfl rfl (by decide) rfl rfl ?_
  refine zk_goto (tgt := 12) C kd_Jd_judgeIf_79 (by decide) ?_
  refine zk_lvs (lv' := [(0, .ref (S.1 38)), (1, .int x1), (2, .int (h2.2.1 18 x2.toNatClampNeg)), (3, .int (x3 + 1))]) [2, 3, 1, 0] rfl ?_
  exact hk12 h2 x1 (h2.2.1 18 x2.toNatClampNeg) (x3 + 1) e
set_option maxHeartbeats 4000000 in
set_option maxRecDepth 100000 in
theorem zb_Jd_judgeIf_59 {X : zkj_T} {S : zs_T} {P : ze_T} {l : Launch} {D : va_G} {sz0 : Nat} {rh : zs_H} (C : zk_C X km_Jd_judgeIf (zs_G S l D sz0) { frames := 2, cells := 0, slots := 0, locals := 45 } (ze_E P)) (hR : zkj_R X (zd_PV S rh) (none)) {k12 : zs_H → Int32 → Int32 → Int32 → (Option zs_H)} (hk12 : ∀ (h : zs_H) (x1 : Int32) (x2 : Int32) (x3 : Int32), k12 h x1 x2 x3 = some rh → zk_Ab X (zs_W S h) 0 0 12 [(0, .ref (S.1 38)), (1, .int x1), (2, .int x2), (3, .int x3)] []) (h : zs_H) (x1 : Int32) (x2 : Int32) (x3 : Int32) (e : f_Jd_judgeIf_59 k12 h x1 x2 x3 = some rh) : zk_Ab X (zs_W S h) 0 0 59 [(0, .ref (S.1 38)), (1, .int x1), (2, .int x2), (3, .int x3)] [.ref (S.1 38)] := by
  unfold f_Jd_judgeIf_59 at e
  refine zk_iconst (v := 0) C kd_Jd_judgeIf_59 (by decide) rfl ?_
  refine zk_lvs (lv' := [(0, .ref (S.1 38)), (1, .int x1), (2, .int x2), (3, .int x3)]) [0, 1, 2, 3] rfl ?_
  exact zb_Jd_judgeIf_60 C hR hk12 h x1 x2 x3 0 e
set_option maxHeartbeats 4000000 in
set_option maxRecDepth 100000 in
theorem zb_Jd_judgeIf_12 {X : zkj_T} {S : zs_T} {P : ze_T} {l : Launch} {D : va_G} {sz0 : Nat} {rh : zs_H} (C : zk_C X km_Jd_judgeIf (zs_G S l D sz0) { frames := 2, cells := 0, slots := 0, locals := 45 } (ze_E P)) (hR : zkj_R X (zd_PV S rh) (none)) {k12 : zs_H → Int32 → Int32 → Int32 → (Option zs_H)} (hk12 : ∀ (h : zs_H) (x1 : Int32) (x2 : Int32) (x3 : Int32), k12 h x1 x2 x3 = some rh → zk_Ab X (zs_W S h) 0 0 12 [(0, .ref (S.1 38)), (1, .int x1), (2, .int x2), (3, .int x3)] []) (h : zs_H) (x1 : Int32) (x2 : Int32) (x3 : Int32) (e : f_Jd_judgeIf_12 k12 h x1 x2 x3 = some rh) : zk_Ab X (zs_W S h) 0 0 12 [(0, .ref (S.1 38)), (1, .int x1), (2, .int x2), (3, .int x3)] [] := by
  unfold f_Jd_judgeIf_12 at e
  refine zk_iload_n C kd_Jd_judgeIf_12 rfl 3 rfl rfl ?_
  refine zk_aload_n C kd_Jd_judgeIf_13 rfl 0 rfl rfl ?_
  refine zs_get (v := .ref (S.1 12)) C 38 1 rfl rfl rfl rfl ki_Jd (by decide) kw352 kd_Jd_judgeIf_14 rfl ?_
  refine zs_get (v := .int (h.1 12 6)) C 12 6 rfl rfl rfl rfl ki_Tr (by decide) kw177 kd_Jd_judgeIf_17 rfl ?_
  refine zk_icmp_ge (tgt := 82) C kd_Jd_judgeIf_20 (by decide) rfl (fun b1 => ?_) (fun b1 => ?_)
  · replace e := zd_pos b1 e
    exact zk_vret C hR kd_Jd_judgeIf_82 rfl rfl (zd_rV e)
  · replace e := zd_neg b1 e
    refine zk_iload_n C kd_Jd_judgeIf_23 rfl 2 rfl rfl ?_
    refine zk_iconst (v := (-1)) C kd_Jd_judgeIf_24 (by decide) rfl ?_
    refine zk_icmp_eq (tgt := 82) C kd_Jd_judgeIf_25 (by decide) rfl (fun b2 => ?_) (fun b2 => ?_)
    · replace e := zd_pos b2 e
      exact zk_vret C hR kd_Jd_judgeIf_82 rfl rfl (zd_rV e)
    · replace e := zd_neg b2 e
      refine zk_aload_n C kd_Jd_judgeIf_28 rfl 0 rfl rfl ?_
      refine zk_aload_n C kd_Jd_judgeIf_29 rfl 0 rfl rfl ?_
      refine zs_get (v := .ref (S.1 12)) C 38 1 rfl rfl rfl rfl ki_Jd (by decide) kw352 kd_Jd_judgeIf_30 rfl ?_
      refine zs_get (v := .ref (S.1 13)) C 12 0 rfl rfl rfl rfl ki_Tr (by decide) kw157 kd_Jd_judgeIf_33 rfl ?_
      refine zk_iload_n C kd_Jd_judgeIf_36 rfl 2 rfl rfl ?_
      obtain ⟨q3, e⟩ := zd_g e
      refine zs_bald C 13 rfl (zd_vp q3) kd_Jd_judgeIf_37 rfl ?_
      refine zk_bipush (v := 11) C kd_Jd_judgeIf_38 (by decide) rfl ?_
      refine zk_icmp_eq (tgt := 59) C kd_Jd_judgeIf_40 (by decide) rfl (fun b4 => ?_) (fun b4 => ?_)
      · replace e := zd_pos b4 e
        refine zk_lvs (lv' := [(0, .ref (S.1 38)), (1, .int x1), (2, .int x2), (3, .int x3)]) [0, 1, 2, 3] rfl ?_
        exact zb_Jd_judgeIf_59 C hR hk12 h x1 x2 x3 e
      · replace e := zd_neg b4 e
        refine zk_aload_n C kd_Jd_judgeIf_43 rfl 0 rfl rfl ?_
        refine zs_get (v := .ref (S.1 12)) C 38 1 rfl rfl rfl rfl ki_Jd (by decide) kw352 kd_Jd_judgeIf_44 rfl ?_
        refine zs_get (v := .ref (S.1 14)) C 12 1 rfl rfl rfl rfl ki_Tr (by decide) kw160 kd_Jd_judgeIf_47 rfl ?_
        refine zk_iload_n C kd_Jd_judgeIf_50 rfl 2 rfl rfl ?_
        refine zs_bald C 14 rfl (zd_vp q3) kd_Jd_judgeIf_51 rfl ?_
        refine zk_if_eq (tgt := 59) C kd_Jd_judgeIf_52 (by decide) rfl (fun b5 => ?_) (fun b5 => ?_)
        · replace e := zd_pos b5 e
          refine zk_lvs (lv' := [(0, .ref (S.1 38)), (1, .int x1), (2, .int x2), (3, .int x3)]) [0, 1, 2, 3] rfl ?_
          exact zb_Jd_judgeIf_59 C hR hk12 h x1 x2 x3 e
        · replace e := zd_neg b5 e
          refine zk_iconst (v := 1) C kd_Jd_judgeIf_55 (by decide) rfl ?_
          refine zk_goto (tgt := 60) C kd_Jd_judgeIf_56 (by decide) ?_
          refine zk_lvs (lv' := [(0, .ref (S.1 38)), (1, .int x1), (2, .int x2), (3, .int x3)]) [0, 1, 2, 3] rfl ?_
          exact zb_Jd_judgeIf_60 C hR hk12 h x1 x2 x3 1 e
theorem zl_Jd_judgeIf_12 {X : zkj_T} {S : zs_T} {P : ze_T} {l : Launch} {D : va_G} {sz0 : Nat} {rh : zs_H} (C : zk_C X km_Jd_judgeIf (zs_G S l D sz0) { frames := 2, cells := 0, slots := 0, locals := 45 } (ze_E P)) (hR : zkj_R X (zd_PV S rh) (none)) (n : Nat) : ∀ (h : zs_H) (x1 : Int32) (x2 : Int32) (x3 : Int32), f_Jd_judgeIf_L12 n h x1 x2 x3 = some rh → zk_Ab X (zs_W S h) 0 0 12 [(0, .ref (S.1 38)), (1, .int x1), (2, .int x2), (3, .int x3)] [] := by
  induction n with
  | zero => intro h x1 x2 x3 e; exact zd_no e
  | succ n ih => intro h x1 x2 x3 e; exact zb_Jd_judgeIf_12 (k12 := f_Jd_judgeIf_L12  n) C hR ih h x1 x2 x3 e
set_option maxHeartbeats 4000000 in
set_option maxRecDepth 100000 in
theorem zc_Jd_judgeIf {l : Launch} {D : va_G} {sz0 : Nat} {S : zs_T} {P : ze_T} (h : zs_H) (x1 : Int32) {rh : zs_H} (e : f_Jd_judgeIf h x1 = some rh) : zk_Sp (zs_G S l D sz0) (ze_E P) km_Jd_judgeIf { frames := 2, cells := 0, slots := 0, locals := 45 } [.ref (S.1 38), .int x1] (zs_W S h) (zd_PV S rh) := by
  refine zk_met ku_Jd_judgeIf (Nat.le_of_ble_eq_true rfl) (ze_Em P) ?_
  intro X C hR
  refine zk_lvs (lv' := [(0, .ref (S.1 38)), (1, .int x1)]) [0, 1] rfl ?_
  unfold f_Jd_judgeIf at e
  refine zk_aload_n C kd_Jd_judgeIf_0 rfl 0 rfl rfl ?_
  refine zs_get (v := .ref (S.1 12)) C 38 1 rfl rfl rfl rfl ki_Jd (by decide) kw352 kd_Jd_judgeIf_1 rfl ?_
  refine zs_get (v := .ref (S.1 17)) C 12 4 rfl rfl rfl rfl ki_Tr (by decide) kw170 kd_Jd_judgeIf_4 rfl ?_
  refine zk_iload_n C kd_Jd_judgeIf_7 rfl 1 rfl rfl ?_
  obtain ⟨q1, e⟩ := zd_g e
  refine zs_iald C 17 rfl (zd_vp q1) kd_Jd_judgeIf_8 rfl ?_
  refine zk_istore_n (lv' := [(2, _), (0, _), (1, _)]) C kd_Jd_judgeIf_9 rfl (by decide) rfl rfl ?_
  refine zk_iconst (v := 0) C kd_Jd_judgeIf_10 (by decide) rfl ?_
  refine zk_istore_n (lv' := [(3, _), (2, _), (0, _), (1, _)]) C kd_Jd_judgeIf_11 rfl (by decide) rfl rfl ?_
  refine zk_lvs (lv' := [(0, .ref (S.1 38)), (1, .int x1), (2, .int (h.2.1 17 x1.toNatClampNeg)), (3, .int 0)]) [2, 3, 1, 0] rfl ?_
  exact zl_Jd_judgeIf_12 C hR zF h x1 (h.2.1 17 x1.toNatClampNeg) 0 e
set_option maxHeartbeats 4000000 in
set_option maxRecDepth 100000 in
theorem zb_Jd_isToldBefore_7 {X : zkj_T} {S : zs_T} {P : ze_T} {l : Launch} {D : va_G} {sz0 : Nat} {rv : Int32} {h : zs_H} (C : zk_C X km_Jd_isToldBefore (zs_G S l D sz0) { frames := 0, cells := 0, slots := 0, locals := 0 } (ze_E P)) (hR : zkj_R X (zd_PZ S rv h) (some .boolean)) {k7 : Int32 → Int32 → Int32 → (Option Int32)} (hk7 : ∀ (x1 : Int32) (x2 : Int32) (x3 : Int32), k7 x1 x2 x3 = some rv → zk_Ab X (zs_W S h) 0 0 7 [(0, .ref (S.1 38)), (1, .int x1), (2, .int x2), (3, .int x3)] []) (x1 : Int32) (x2 : Int32) (x3 : Int32) (e : f_Jd_isToldBefore_7 h k7 x1 x2 x3 = some rv) : zk_Ab X (zs_W S h) 0 0 7 [(0, .ref (S.1 38)), (1, .int x1), (2, .int x2), (3, .int x3)] [] := by
  unfold f_Jd_isToldBefore_7 at e
  refine zk_iload_n C kd_Jd_isToldBefore_7 rfl 3 rfl rfl ?_
  refine zk_aload_n C kd_Jd_isToldBefore_8 rfl 0 rfl rfl ?_
  refine zs_get (v := .ref (S.1 12)) C 38 1 rfl rfl rfl rfl ki_Jd (by decide) kw352 kd_Jd_isToldBefore_9 rfl ?_
  refine zs_get (v := .int (h.1 12 6)) C 12 6 rfl rfl rfl rfl ki_Tr (by decide) kw177 kd_Jd_isToldBefore_12 rfl ?_
  refine zk_icmp_ge (tgt := 67) C kd_Jd_isToldBefore_15 (by decide) rfl (fun b1 => ?_) (fun b1 => ?_)
  · replace e := zd_pos b1 e
    refine zk_iconst (v := 0) C kd_Jd_isToldBefore_67 (by decide) rfl ?_
    exact zk_zret C hR (zd_nb (Or.inl rfl)) kd_Jd_isToldBefore_68 rfl rfl (zd_rZO (Or.inl rfl) e)
  · replace e := zd_neg b1 e
    refine zk_iload_n C kd_Jd_isToldBefore_18 rfl 2 rfl rfl ?_
    refine zk_iconst (v := (-1)) C kd_Jd_isToldBefore_19 (by decide) rfl ?_
    refine zk_icmp_eq (tgt := 67) C kd_Jd_isToldBefore_20 (by decide) rfl (fun b2 => ?_) (fun b2 => ?_)
    · replace e := zd_pos b2 e
      refine zk_iconst (v := 0) C kd_Jd_isToldBefore_67 (by decide) rfl ?_
      exact zk_zret C hR (zd_nb (Or.inl rfl)) kd_Jd_isToldBefore_68 rfl rfl (zd_rZO (Or.inl rfl) e)
    · replace e := zd_neg b2 e
      refine zk_iload_n C kd_Jd_isToldBefore_23 rfl 2 rfl rfl ?_
      refine zk_iload_n C kd_Jd_isToldBefore_24 rfl 1 rfl rfl ?_
      refine zk_icmp_eq (tgt := 67) C kd_Jd_isToldBefore_25 (by decide) rfl (fun b3 => ?_) (fun b3 => ?_)
      · replace e := zd_pos b3 e
        refine zk_iconst (v := 0) C kd_Jd_isToldBefore_67 (by decide) rfl ?_
        exact zk_zret C hR (zd_nb (Or.inl rfl)) kd_Jd_isToldBefore_68 rfl rfl (zd_rZO (Or.inl rfl) e)
      · replace e := zd_neg b3 e
        refine zk_aload_n C kd_Jd_isToldBefore_28 rfl 0 rfl rfl ?_
        refine zs_get (v := .ref (S.1 12)) C 38 1 rfl rfl rfl rfl ki_Jd (by decide) kw352 kd_Jd_isToldBefore_29 rfl ?_
        refine zs_get (v := .ref (S.1 16)) C 12 3 rfl rfl rfl rfl ki_Tr (by decide) kw168 kd_Jd_isToldBefore_32 rfl ?_
        refine zk_iload_n C kd_Jd_isToldBefore_35 rfl 2 rfl rfl ?_
        obtain ⟨q4, e⟩ := zd_g e
        refine zs_iald C 16 rfl (zd_vp q4) kd_Jd_isToldBefore_36 rfl ?_
        refine zk_aload_n C kd_Jd_isToldBefore_37 rfl 0 rfl rfl ?_
        refine zs_get (v := .ref (S.1 12)) C 38 1 rfl rfl rfl rfl ki_Jd (by decide) kw352 kd_Jd_isToldBefore_38 rfl ?_
        refine zs_get (v := .ref (S.1 16)) C 12 3 rfl rfl rfl rfl ki_Tr (by decide) kw168 kd_Jd_isToldBefore_41 rfl ?_
        refine zk_iload_n C kd_Jd_isToldBefore_44 rfl 1 rfl rfl ?_
        obtain ⟨q5, e⟩ := zd_g e
        refine zs_iald C 16 rfl (zd_vp q5) kd_Jd_isToldBefore_45 rfl ?_
        refine zk_icmp_ne (tgt := 51) C kd_Jd_isToldBefore_46 (by decide) rfl (fun b6 => ?_) (fun b6 => ?_)
        · replace e := zd_neg b6 e
          refine zk_aload_n C kd_Jd_isToldBefore_51 rfl 0 rfl rfl ?_
          refine zs_get (v := .ref (S.1 12)) C 38 1 rfl rfl rfl rfl ki_Jd (by decide) kw352 kd_Jd_isToldBefore_52 rfl ?_
          refine zs_get (v := .ref (S.1 18)) C 12 5 rfl rfl rfl rfl ki_Tr (by decide) kw173 kd_Jd_isToldBefore_55 rfl ?_
          refine zk_iload_n C kd_Jd_isToldBefore_58 rfl 2 rfl rfl ?_
          refine zs_iald C 18 rfl (zd_vp q4) kd_Jd_isToldBefore_59 rfl ?_
          refine zk_istore_n (lv' := [(2, _), (0, _), (1, _), (3, _)]) C kd_Jd_isToldBefore_60 rfl (by decide) rfl rfl ?_
          refine zk_iinc (v := (x3 + 1)) (lv' := [(3, _), (2, _), (0, _), (1, _)]) C kd_Jd_isToldBefore_61 3 rfl rfl (by decide) rfl rfl ?_
          refine zk_goto (tgt := 7) C kd_Jd_isToldBefore_64 (by decide) ?_
          refine zk_lvs (lv' := [(0, .ref (S.1 38)), (1, .int x1), (2, .int (h.2.1 18 x2.toNatClampNeg)), (3, .int (x3 + 1))]) [2, 3, 1, 0] rfl ?_
          exact hk7 x1 (h.2.1 18 x2.toNatClampNeg) (x3 + 1) e
        · replace e := zd_pos b6 e
          refine zk_iconst (v := 1) C kd_Jd_isToldBefore_49 (by decide) rfl ?_
          exact zk_zret C hR (zd_nb (Or.inr rfl)) kd_Jd_isToldBefore_50 rfl rfl (zd_rZO (Or.inr rfl) e)
theorem zl_Jd_isToldBefore_7 {X : zkj_T} {S : zs_T} {P : ze_T} {l : Launch} {D : va_G} {sz0 : Nat} {rv : Int32} {h : zs_H} (C : zk_C X km_Jd_isToldBefore (zs_G S l D sz0) { frames := 0, cells := 0, slots := 0, locals := 0 } (ze_E P)) (hR : zkj_R X (zd_PZ S rv h) (some .boolean)) (n : Nat) : ∀ (x1 : Int32) (x2 : Int32) (x3 : Int32), f_Jd_isToldBefore_L7 h n x1 x2 x3 = some rv → zk_Ab X (zs_W S h) 0 0 7 [(0, .ref (S.1 38)), (1, .int x1), (2, .int x2), (3, .int x3)] [] := by
  induction n with
  | zero => intro x1 x2 x3 e; exact zd_no e
  | succ n ih => intro x1 x2 x3 e; exact zb_Jd_isToldBefore_7 (k7 := f_Jd_isToldBefore_L7 h n) C hR ih x1 x2 x3 e
set_option maxHeartbeats 4000000 in
set_option maxRecDepth 100000 in
theorem zc_Jd_isToldBefore {l : Launch} {D : va_G} {sz0 : Nat} {S : zs_T} {P : ze_T} (h : zs_H) (x1 : Int32) {rv : Int32} (e : f_Jd_isToldBefore h x1 = some rv) : zk_Sp (zs_G S l D sz0) (ze_E P) km_Jd_isToldBefore { frames := 0, cells := 0, slots := 0, locals := 0 } [.ref (S.1 38), .int x1] (zs_W S h) (zd_PZ S rv h) := by
  refine zk_met ku_Jd_isToldBefore (Nat.le_of_ble_eq_true rfl) (ze_Em P) ?_
  intro X C hR
  refine zk_lvs (lv' := [(0, .ref (S.1 38)), (1, .int x1)]) [0, 1] rfl ?_
  unfold f_Jd_isToldBefore at e
  refine zk_aload_n C kd_Jd_isToldBefore_0 rfl 0 rfl rfl ?_
  refine zs_get (v := .int (h.1 38 8)) C 38 8 rfl rfl rfl rfl ki_Jd (by decide) kw359 kd_Jd_isToldBefore_1 rfl ?_
  refine zk_istore_n (lv' := [(2, _), (0, _), (1, _)]) C kd_Jd_isToldBefore_4 rfl (by decide) rfl rfl ?_
  refine zk_iconst (v := 0) C kd_Jd_isToldBefore_5 (by decide) rfl ?_
  refine zk_istore_n (lv' := [(3, _), (2, _), (0, _), (1, _)]) C kd_Jd_isToldBefore_6 rfl (by decide) rfl rfl ?_
  refine zk_lvs (lv' := [(0, .ref (S.1 38)), (1, .int x1), (2, .int (h.1 38 8)), (3, .int 0)]) [2, 3, 1, 0] rfl ?_
  exact zl_Jd_isToldBefore_7 C hR zF x1 (h.1 38 8) 0 e
set_option maxHeartbeats 4000000 in
set_option maxRecDepth 100000 in
theorem zb_Jd_judgeParameter_56 {X : zkj_T} {S : zs_T} {P : ze_T} {l : Launch} {D : va_G} {sz0 : Nat} {rh : zs_H} (C : zk_C X km_Jd_judgeParameter (zs_G S l D sz0) { frames := 2, cells := 0, slots := 0, locals := 45 } (ze_E P)) (hR : zkj_R X (zd_PV S rh) (none)) (h : zs_H) (x1 : Int32) (e : f_Jd_judgeParameter_56 h x1 = some rh) : zk_Ab X (zs_W S h) 0 0 56 [(0, .ref (S.1 38)), (1, .int x1)] [] := by
  unfold f_Jd_judgeParameter_56 at e
  refine zk_aload_n C kd_Jd_judgeParameter_56 rfl 0 rfl rfl ?_
  refine zk_bipush (v := 32) C kd_Jd_judgeParameter_57 (by decide) rfl ?_
  refine zk_iload_n C kd_Jd_judgeParameter_59 rfl 1 rfl rfl ?_
  obtain ⟨h2, c1, e⟩ := zd_b e
  refine zs_callV (k := 38) (rn := { frames := 0, cells := 0, slots := 0, locals := 0 }) (As := [.int 32, .int x1]) (rest := []) C (zc_Jd_refuse h 32 x1 c1) ku_Jd_refuse kw1040 kv_Jd_refuse rfl ⟨by decide, by decide⟩ ⟨by decide, by decide⟩ rfl rfl rfl (Nat.le_of_ble_eq_true rfl) kd_Jd_judgeParameter_60 rfl (c1 := 0) (s1 := 0) rfl rfl (fun v w hp => ?_)
  obtain ⟨rfl, rfl⟩ := hp
  refine zk_stk (r' := []) rfl ?_
  exact zk_vret C hR kd_Jd_judgeParameter_63 rfl rfl (zd_rV e)
set_option maxHeartbeats 4000000 in
set_option maxRecDepth 100000 in
theorem zb_Jd_judgeParameter_124 {X : zkj_T} {S : zs_T} {P : ze_T} {l : Launch} {D : va_G} {sz0 : Nat} {rh : zs_H} (C : zk_C X km_Jd_judgeParameter (zs_G S l D sz0) { frames := 2, cells := 0, slots := 0, locals := 45 } (ze_E P)) (hR : zkj_R X (zd_PV S rh) (none)) (h : zs_H) (x1 : Int32) (y0 : Int32) (e : f_Jd_judgeParameter_124 h x1 y0 = some rh) : zk_Ab X (zs_W S h) 0 0 124 [(1, .int x1)] [.int y0, .ref (S.1 38)] := by
  unfold f_Jd_judgeParameter_124 at e
  refine zk_bipush (v := 31) C kd_Jd_judgeParameter_124 (by decide) rfl ?_
  refine zk_iload_n C kd_Jd_judgeParameter_126 rfl 0 rfl rfl ?_
  obtain ⟨h2, c1, e⟩ := zd_b e
  refine zs_callV (k := 38) (rn := { frames := 1, cells := 0, slots := 0, locals := 22 }) (As := [.int y0, .int 31, .int x1]) (rest := []) C (zc_Jd_refuseIf h y0 31 x1 c1) ku_Jd_refuseIf kw1036 kv_Jd_refuseIf rfl ⟨by decide, by decide⟩ ⟨by decide, by decide⟩ rfl rfl rfl (Nat.le_of_ble_eq_true rfl) kd_Jd_judgeParameter_127 rfl (c1 := 0) (s1 := 0) rfl rfl (fun v w hp => ?_)
  obtain ⟨rfl, rfl⟩ := hp
  refine zk_stk (r' := []) rfl ?_
  exact zk_vret C hR kd_Jd_judgeParameter_130 rfl rfl (zd_rV e)
set_option maxHeartbeats 4000000 in
set_option maxRecDepth 100000 in
theorem zc_Jd_judgeParameter {l : Launch} {D : va_G} {sz0 : Nat} {S : zs_T} {P : ze_T} (h : zs_H) (x1 : Int32) {rh : zs_H} (e : f_Jd_judgeParameter h x1 = some rh) : zk_Sp (zs_G S l D sz0) (ze_E P) km_Jd_judgeParameter { frames := 2, cells := 0, slots := 0, locals := 45 } [.ref (S.1 38), .int x1] (zs_W S h) (zd_PV S rh) := by
  refine zk_met ku_Jd_judgeParameter (Nat.le_of_ble_eq_true rfl) (ze_Em P) ?_
  intro X C hR
  refine zk_lvs (lv' := [(0, .ref (S.1 38)), (1, .int x1)]) [0, 1] rfl ?_
  unfold f_Jd_judgeParameter at e
  refine zk_aload_n C kd_Jd_judgeParameter_0 rfl 0 rfl rfl ?_
  refine zs_get (v := .int (h.1 38 7)) C 38 7 rfl rfl rfl rfl ki_Jd (by decide) kw358 kd_Jd_judgeParameter_1 rfl ?_
  refine zk_iconst (v := (-1)) C kd_Jd_judgeParameter_4 (by decide) rfl ?_
  refine zk_icmp_ne (tgt := 9) C kd_Jd_judgeParameter_5 (by decide) rfl (fun b1 => ?_) (fun b1 => ?_)
  · replace e := zd_neg b1 e
    refine zk_aload_n C kd_Jd_judgeParameter_9 rfl 0 rfl rfl ?_
    refine zs_get (v := .ref (S.1 20)) C 38 2 rfl rfl rfl rfl ki_Jd (by decide) kw353 kd_Jd_judgeParameter_10 rfl ?_
    refine zk_aload_n C kd_Jd_judgeParameter_13 rfl 0 rfl rfl ?_
    refine zs_get (v := .ref (S.1 20)) C 38 2 rfl rfl rfl rfl ki_Jd (by decide) kw353 kd_Jd_judgeParameter_14 rfl ?_
    refine zs_get (v := .ref (S.1 30)) C 20 9 rfl rfl rfl rfl ki_Pl (by decide) kw262 kd_Jd_judgeParameter_17 rfl ?_
    refine zk_aload_n C kd_Jd_judgeParameter_20 rfl 0 rfl rfl ?_
    refine zs_get (v := .int (h.1 38 7)) C 38 7 rfl rfl rfl rfl ki_Jd (by decide) kw358 kd_Jd_judgeParameter_21 rfl ?_
    obtain ⟨q2, e⟩ := zd_g e
    refine zs_iald C 30 rfl (zd_vp q2) kd_Jd_judgeParameter_24 rfl ?_
    refine zk_aload_n C kd_Jd_judgeParameter_25 rfl 0 rfl rfl ?_
    refine zs_get (v := .ref (S.1 12)) C 38 1 rfl rfl rfl rfl ki_Jd (by decide) kw352 kd_Jd_judgeParameter_26 rfl ?_
    refine zs_get (v := .ref (S.1 16)) C 12 3 rfl rfl rfl rfl ki_Tr (by decide) kw168 kd_Jd_judgeParameter_29 rfl ?_
    refine zk_iload_n C kd_Jd_judgeParameter_32 rfl 1 rfl rfl ?_
    obtain ⟨q3, e⟩ := zd_g e
    refine zs_iald C 16 rfl (zd_vp q3) kd_Jd_judgeParameter_33 rfl ?_
    obtain ⟨v5, c4, e⟩ := zd_b e
    refine zs_callV (k := 20) (rn := { frames := 0, cells := 0, slots := 0, locals := 0 }) (As := [.int (h.2.1 30 (h.1 38 7).toNatClampNeg), .int (h.2.1 16 x1.toNatClampNeg)]) (rest := []) C (zc_Pl_variableOf h (h.2.1 30 (h.1 38 7).toNatClampNeg) (h.2.1 16 x1.toNatClampNeg) c4) ku_Pl_variableOf kw1134 kv_Pl_variableOf rfl ⟨by decide, by decide⟩ ⟨by decide, by decide⟩ rfl rfl rfl (Nat.le_of_ble_eq_true rfl) kd_Jd_judgeParameter_34 rfl (c1 := 0) (s1 := 0) rfl rfl (fun v w hp => ?_)
    obtain ⟨rfl, rfl⟩ := hp
    refine zk_stk (r' := [.int v5]) rfl ?_
    refine zk_istore_n (lv' := [(2, _), (0, _), (1, _)]) C kd_Jd_judgeParameter_37 rfl (by decide) rfl rfl ?_
    refine zk_iload_n C kd_Jd_judgeParameter_38 rfl 0 rfl rfl ?_
    refine zk_iconst (v := (-1)) C kd_Jd_judgeParameter_39 (by decide) rfl ?_
    refine zk_icmp_eq (tgt := 56) C kd_Jd_judgeParameter_40 (by decide) rfl (fun b6 => ?_) (fun b6 => ?_)
    · replace e := zd_pos b6 e
      refine zk_lvs (lv' := [(0, .ref (S.1 38)), (1, .int x1)]) [1, 2] rfl ?_
      exact zb_Jd_judgeParameter_56 C hR h x1 e
    · replace e := zd_neg b6 e
      refine zk_aload_n C kd_Jd_judgeParameter_43 rfl 1 rfl rfl ?_
      refine zs_get (v := .ref (S.1 20)) C 38 2 rfl rfl rfl rfl ki_Jd (by decide) kw353 kd_Jd_judgeParameter_44 rfl ?_
      refine zs_get (v := .ref (S.1 29)) C 20 8 rfl rfl rfl rfl ki_Pl (by decide) kw259 kd_Jd_judgeParameter_47 rfl ?_
      refine zk_iload_n C kd_Jd_judgeParameter_50 rfl 0 rfl rfl ?_
      obtain ⟨q7, e⟩ := zd_g e
      refine zs_iald C 29 rfl (zd_vp q7) kd_Jd_judgeParameter_51 rfl ?_
      refine zk_iconst (v := 1) C kd_Jd_judgeParameter_52 (by decide) rfl ?_
      refine zk_icmp_eq (tgt := 64) C kd_Jd_judgeParameter_53 (by decide) rfl (fun b8 => ?_) (fun b8 => ?_)
      · replace e := zd_pos b8 e
        refine zk_aload_n C kd_Jd_judgeParameter_64 rfl 1 rfl rfl ?_
        refine zs_get (v := .ref (S.1 12)) C 38 1 rfl rfl rfl rfl ki_Jd (by decide) kw352 kd_Jd_judgeParameter_65 rfl ?_
        refine zs_get (v := .ref (S.1 16)) C 12 3 rfl rfl rfl rfl ki_Tr (by decide) kw168 kd_Jd_judgeParameter_68 rfl ?_
        refine zk_iload_n C kd_Jd_judgeParameter_71 rfl 2 rfl rfl ?_
        refine zk_iload_n C kd_Jd_judgeParameter_72 rfl 0 rfl rfl ?_
        refine zs_iast C 16 rfl (zd_vp q3) kd_Jd_judgeParameter_73 rfl ?_
        refine zk_aload_n C kd_Jd_judgeParameter_74 rfl 1 rfl rfl ?_
        refine zk_aload_n C kd_Jd_judgeParameter_75 rfl 1 rfl rfl ?_
        refine zk_iload_n C kd_Jd_judgeParameter_76 rfl 2 rfl rfl ?_
        obtain ⟨v10, c9, e⟩ := zd_b e
        refine zs_callV (k := 38) (rn := { frames := 0, cells := 0, slots := 0, locals := 0 }) (As := [.int x1]) (rest := [.ref (S.1 38)]) C (zc_Jd_isToldBefore (zs_uM h 16 x1.toNatClampNeg v5) x1 c9) ku_Jd_isToldBefore kw1138 kv_Jd_isToldBefore rfl ⟨by decide, by decide⟩ ⟨by decide, by decide⟩ rfl rfl rfl (Nat.le_of_ble_eq_true rfl) kd_Jd_judgeParameter_77 rfl (c1 := 0) (s1 := 0) rfl rfl (fun v w hp => ?_)
        obtain ⟨rfl, rfl, z11⟩ := hp
        refine zk_stk (r' := [.int v10, .ref (S.1 38)]) rfl ?_
        refine zk_bipush (v := 33) C kd_Jd_judgeParameter_80 (by decide) rfl ?_
        refine zk_iload_n C kd_Jd_judgeParameter_82 rfl 2 rfl rfl ?_
        obtain ⟨h13, c12, e⟩ := zd_b e
        refine zs_callV (k := 38) (rn := { frames := 1, cells := 0, slots := 0, locals := 22 }) (As := [.int v10, .int 33, .int x1]) (rest := []) C (zc_Jd_refuseIf (zs_uM h 16 x1.toNatClampNeg v5) v10 33 x1 c12) ku_Jd_refuseIf kw1036 kv_Jd_refuseIf rfl ⟨by decide, by decide⟩ ⟨by decide, by decide⟩ rfl rfl rfl (Nat.le_of_ble_eq_true rfl) kd_Jd_judgeParameter_83 rfl (c1 := 0) (s1 := 0) rfl rfl (fun v w hp => ?_)
        obtain ⟨rfl, rfl⟩ := hp
        refine zk_stk (r' := []) rfl ?_
        refine zk_aload_n C kd_Jd_judgeParameter_86 rfl 1 rfl rfl ?_
        refine zk_aload_n C kd_Jd_judgeParameter_87 rfl 1 rfl rfl ?_
        refine zs_get (v := .ref (S.1 12)) C 38 1 rfl rfl rfl rfl ki_Jd (by decide) kw352 kd_Jd_judgeParameter_88 rfl ?_
        refine zs_get (v := .ref (S.1 14)) C 12 1 rfl rfl rfl rfl ki_Tr (by decide) kw160 kd_Jd_judgeParameter_91 rfl ?_
        refine zk_aload_n C kd_Jd_judgeParameter_94 rfl 1 rfl rfl ?_
        refine zs_get (v := .ref (S.1 12)) C 38 1 rfl rfl rfl rfl ki_Jd (by decide) kw352 kd_Jd_judgeParameter_95 rfl ?_
        refine zs_get (v := .ref (S.1 17)) C 12 4 rfl rfl rfl rfl ki_Tr (by decide) kw170 kd_Jd_judgeParameter_98 rfl ?_
        refine zk_iload_n C kd_Jd_judgeParameter_101 rfl 2 rfl rfl ?_
        obtain ⟨q14, e⟩ := zd_g e
        refine zs_iald C 17 rfl (zd_vp q14) kd_Jd_judgeParameter_102 rfl ?_
        obtain ⟨q15, e⟩ := zd_g e
        refine zs_bald C 14 rfl (zd_vp q15) kd_Jd_judgeParameter_103 rfl ?_
        refine zk_aload_n C kd_Jd_judgeParameter_104 rfl 1 rfl rfl ?_
        refine zs_get (v := .ref (S.1 20)) C 38 2 rfl rfl rfl rfl ki_Jd (by decide) kw353 kd_Jd_judgeParameter_105 rfl ?_
        refine zs_get (v := .ref (S.1 31)) C 20 10 rfl rfl rfl rfl ki_Pl (by decide) kw266 kd_Jd_judgeParameter_108 rfl ?_
        refine zk_iload_n C kd_Jd_judgeParameter_111 rfl 0 rfl rfl ?_
        obtain ⟨q16, e⟩ := zd_g e
        refine zs_iald C 31 rfl (zd_vp q16) kd_Jd_judgeParameter_112 rfl ?_
        refine zk_callS (rn := { frames := 0, cells := 0, slots := 0, locals := 0 }) (As := [.int (h13.2.1 14 (h13.2.1 17 x1.toNatClampNeg).toNatClampNeg), .int (h13.2.1 31 v5.toNatClampNeg)]) (rest := [.ref (S.1 38)]) C (zc_Jd_fits h13 (h13.2.1 14 (h13.2.1 17 x1.toNatClampNeg).toNatClampNeg) (h13.2.1 31 v5.toNatClampNeg)) ku_Jd_fits kw1127 ks_Jd_fits rfl ⟨by decide, by decide⟩ ⟨by decide, by decide⟩ rfl (Nat.le_of_ble_eq_true rfl) kd_Jd_judgeParameter_113 rfl (c1 := 0) (s1 := 0) rfl rfl (fun v w hp => ?_)
        obtain ⟨rfl, rfl, z17⟩ := hp
        refine zk_stk (r' := [.int (f_Jd_fits (h13.2.1 14 (h13.2.1 17 x1.toNatClampNeg).toNatClampNeg) (h13.2.1 31 v5.toNatClampNeg)), .ref (S.1 38)]) rfl ?_
        refine zk_if_ne (tgt := 123) C kd_Jd_judgeParameter_116 (by decide) rfl (fun b18 => ?_) (fun b18 => ?_)
        · replace e := zd_neg b18 e
          refine zk_iconst (v := 0) C kd_Jd_judgeParameter_123 (by decide) rfl ?_
          refine zk_lvs (lv' := [(1, .int x1)]) [2] rfl ?_
          exact zb_Jd_judgeParameter_124 C hR h13 x1 0 e
        · replace e := zd_pos b18 e
          refine zk_iconst (v := 1) C kd_Jd_judgeParameter_119 (by decide) rfl ?_
          refine zk_goto (tgt := 124) C kd_Jd_judgeParameter_120 (by decide) ?_
          refine zk_lvs (lv' := [(1, .int x1)]) [2] rfl ?_
          exact zb_Jd_judgeParameter_124 C hR h13 x1 1 e
      · replace e := zd_neg b8 e
        refine zk_lvs (lv' := [(0, .ref (S.1 38)), (1, .int x1)]) [1, 2] rfl ?_
        exact zb_Jd_judgeParameter_56 C hR h x1 e
  · replace e := zd_pos b1 e
    exact zk_vret C hR kd_Jd_judgeParameter_8 rfl rfl (zd_rV e)
set_option maxHeartbeats 4000000 in
set_option maxRecDepth 100000 in
theorem zb_Jd_judgeAssignment_62 {X : zkj_T} {S : zs_T} {P : ze_T} {l : Launch} {D : va_G} {sz0 : Nat} {rh : zs_H} (C : zk_C X km_Jd_judgeAssignment (zs_G S l D sz0) { frames := 3, cells := 0, slots := 0, locals := 72 } (ze_E P)) (hR : zkj_R X (zd_PV S rh) (none)) (h : zs_H) (x1 : Int32) (y0 : Int32) (e : f_Jd_judgeAssignment_62 h x1 y0 = some rh) : zk_Ab X (zs_W S h) 0 0 62 [(1, .int x1)] [.int y0, .ref (S.1 38)] := by
  unfold f_Jd_judgeAssignment_62 at e
  refine zk_bipush (v := 31) C kd_Jd_judgeAssignment_62 (by decide) rfl ?_
  refine zk_iload_n C kd_Jd_judgeAssignment_64 rfl 0 rfl rfl ?_
  obtain ⟨h2, c1, e⟩ := zd_b e
  refine zs_callV (k := 38) (rn := { frames := 1, cells := 0, slots := 0, locals := 22 }) (As := [.int y0, .int 31, .int x1]) (rest := []) C (zc_Jd_refuseIf h y0 31 x1 c1) ku_Jd_refuseIf kw1036 kv_Jd_refuseIf rfl ⟨by decide, by decide⟩ ⟨by decide, by decide⟩ rfl rfl rfl (Nat.le_of_ble_eq_true rfl) kd_Jd_judgeAssignment_65 rfl (c1 := 0) (s1 := 0) rfl rfl (fun v w hp => ?_)
  obtain ⟨rfl, rfl⟩ := hp
  refine zk_stk (r' := []) rfl ?_
  exact zk_vret C hR kd_Jd_judgeAssignment_68 rfl rfl (zd_rV e)
set_option maxHeartbeats 4000000 in
set_option maxRecDepth 100000 in
theorem zc_Jd_judgeAssignment {l : Launch} {D : va_G} {sz0 : Nat} {S : zs_T} {P : ze_T} (h : zs_H) (x1 : Int32) {rh : zs_H} (e : f_Jd_judgeAssignment h x1 = some rh) : zk_Sp (zs_G S l D sz0) (ze_E P) km_Jd_judgeAssignment { frames := 3, cells := 0, slots := 0, locals := 72 } [.ref (S.1 38), .int x1] (zs_W S h) (zd_PV S rh) := by
  refine zk_met ku_Jd_judgeAssignment (Nat.le_of_ble_eq_true rfl) (ze_Em P) ?_
  intro X C hR
  refine zk_lvs (lv' := [(0, .ref (S.1 38)), (1, .int x1)]) [0, 1] rfl ?_
  unfold f_Jd_judgeAssignment at e
  refine zk_aload_n C kd_Jd_judgeAssignment_0 rfl 0 rfl rfl ?_
  refine zs_get (v := .ref (S.1 12)) C 38 1 rfl rfl rfl rfl ki_Jd (by decide) kw352 kd_Jd_judgeAssignment_1 rfl ?_
  refine zs_get (v := .ref (S.1 17)) C 12 4 rfl rfl rfl rfl ki_Tr (by decide) kw170 kd_Jd_judgeAssignment_4 rfl ?_
  refine zk_iload_n C kd_Jd_judgeAssignment_7 rfl 1 rfl rfl ?_
  obtain ⟨q1, e⟩ := zd_g e
  refine zs_iald C 17 rfl (zd_vp q1) kd_Jd_judgeAssignment_8 rfl ?_
  refine zk_istore_n (lv' := [(2, _), (0, _), (1, _)]) C kd_Jd_judgeAssignment_9 rfl (by decide) rfl rfl ?_
  refine zk_aload_n C kd_Jd_judgeAssignment_10 rfl 1 rfl rfl ?_
  refine zk_aload_n C kd_Jd_judgeAssignment_11 rfl 1 rfl rfl ?_
  refine zs_get (v := .ref (S.1 12)) C 38 1 rfl rfl rfl rfl ki_Jd (by decide) kw352 kd_Jd_judgeAssignment_12 rfl ?_
  refine zs_get (v := .ref (S.1 16)) C 12 3 rfl rfl rfl rfl ki_Tr (by decide) kw168 kd_Jd_judgeAssignment_15 rfl ?_
  refine zk_iload_n C kd_Jd_judgeAssignment_18 rfl 0 rfl rfl ?_
  obtain ⟨q2, e⟩ := zd_g e
  refine zs_iald C 16 rfl (zd_vp q2) kd_Jd_judgeAssignment_19 rfl ?_
  refine zk_iload_n C kd_Jd_judgeAssignment_20 rfl 2 rfl rfl ?_
  obtain ⟨h4, c3, e⟩ := zd_b e
  refine zs_callV (k := 38) (rn := { frames := 2, cells := 0, slots := 0, locals := 45 }) (As := [.int (h.2.1 16 (h.2.1 17 x1.toNatClampNeg).toNatClampNeg), .int x1]) (rest := []) C (zc_Jd_judgeAssigned h (h.2.1 16 (h.2.1 17 x1.toNatClampNeg).toNatClampNeg) x1 c3) ku_Jd_judgeAssigned kw1123 kv_Jd_judgeAssigned rfl ⟨by decide, by decide⟩ ⟨by decide, by decide⟩ rfl rfl rfl (Nat.le_of_ble_eq_true rfl) kd_Jd_judgeAssignment_21 rfl (c1 := 0) (s1 := 0) rfl rfl (fun v w hp => ?_)
  obtain ⟨rfl, rfl⟩ := hp
  refine zk_stk (r' := []) rfl ?_
  refine zk_aload_n C kd_Jd_judgeAssignment_24 rfl 1 rfl rfl ?_
  refine zk_aload_n C kd_Jd_judgeAssignment_25 rfl 1 rfl rfl ?_
  refine zs_get (v := .ref (S.1 12)) C 38 1 rfl rfl rfl rfl ki_Jd (by decide) kw352 kd_Jd_judgeAssignment_26 rfl ?_
  refine zs_get (v := .ref (S.1 14)) C 12 1 rfl rfl rfl rfl ki_Tr (by decide) kw160 kd_Jd_judgeAssignment_29 rfl ?_
  refine zk_aload_n C kd_Jd_judgeAssignment_32 rfl 1 rfl rfl ?_
  refine zs_get (v := .ref (S.1 12)) C 38 1 rfl rfl rfl rfl ki_Jd (by decide) kw352 kd_Jd_judgeAssignment_33 rfl ?_
  refine zs_get (v := .ref (S.1 18)) C 12 5 rfl rfl rfl rfl ki_Tr (by decide) kw173 kd_Jd_judgeAssignment_36 rfl ?_
  refine zk_iload_n C kd_Jd_judgeAssignment_39 rfl 0 rfl rfl ?_
  obtain ⟨q5, e⟩ := zd_g e
  refine zs_iald C 18 rfl (zd_vp q5) kd_Jd_judgeAssignment_40 rfl ?_
  obtain ⟨q6, e⟩ := zd_g e
  refine zs_bald C 14 rfl (zd_vp q6) kd_Jd_judgeAssignment_41 rfl ?_
  refine zk_aload_n C kd_Jd_judgeAssignment_42 rfl 1 rfl rfl ?_
  refine zs_get (v := .ref (S.1 12)) C 38 1 rfl rfl rfl rfl ki_Jd (by decide) kw352 kd_Jd_judgeAssignment_43 rfl ?_
  refine zs_get (v := .ref (S.1 14)) C 12 1 rfl rfl rfl rfl ki_Tr (by decide) kw160 kd_Jd_judgeAssignment_46 rfl ?_
  refine zk_iload_n C kd_Jd_judgeAssignment_49 rfl 0 rfl rfl ?_
  refine zs_bald C 14 rfl (zd_vp q5) kd_Jd_judgeAssignment_50 rfl ?_
  refine zk_callS (rn := { frames := 0, cells := 0, slots := 0, locals := 0 }) (As := [.int (h4.2.1 14 (h4.2.1 18 (h.2.1 17 x1.toNatClampNeg).toNatClampNeg).toNatClampNeg), .int (h4.2.1 14 (h.2.1 17 x1.toNatClampNeg).toNatClampNeg)]) (rest := [.ref (S.1 38)]) C (zc_Jd_fits h4 (h4.2.1 14 (h4.2.1 18 (h.2.1 17 x1.toNatClampNeg).toNatClampNeg).toNatClampNeg) (h4.2.1 14 (h.2.1 17 x1.toNatClampNeg).toNatClampNeg)) ku_Jd_fits kw1127 ks_Jd_fits rfl ⟨by decide, by decide⟩ ⟨by decide, by decide⟩ rfl (Nat.le_of_ble_eq_true rfl) kd_Jd_judgeAssignment_51 rfl (c1 := 0) (s1 := 0) rfl rfl (fun v w hp => ?_)
  obtain ⟨rfl, rfl, z7⟩ := hp
  refine zk_stk (r' := [.int (f_Jd_fits (h4.2.1 14 (h4.2.1 18 (h.2.1 17 x1.toNatClampNeg).toNatClampNeg).toNatClampNeg) (h4.2.1 14 (h.2.1 17 x1.toNatClampNeg).toNatClampNeg)), .ref (S.1 38)]) rfl ?_
  refine zk_if_ne (tgt := 61) C kd_Jd_judgeAssignment_54 (by decide) rfl (fun b8 => ?_) (fun b8 => ?_)
  · replace e := zd_neg b8 e
    refine zk_iconst (v := 0) C kd_Jd_judgeAssignment_61 (by decide) rfl ?_
    refine zk_lvs (lv' := [(1, .int x1)]) [2] rfl ?_
    exact zb_Jd_judgeAssignment_62 C hR h4 x1 0 e
  · replace e := zd_pos b8 e
    refine zk_iconst (v := 1) C kd_Jd_judgeAssignment_57 (by decide) rfl ?_
    refine zk_goto (tgt := 62) C kd_Jd_judgeAssignment_58 (by decide) ?_
    refine zk_lvs (lv' := [(1, .int x1)]) [2] rfl ?_
    exact zb_Jd_judgeAssignment_62 C hR h4 x1 1 e
set_option maxHeartbeats 4000000 in
set_option maxRecDepth 100000 in
theorem zb_Jd_judgeBlockType_88 {X : zkj_T} {S : zs_T} {P : ze_T} {l : Launch} {D : va_G} {sz0 : Nat} {rh : zs_H} (C : zk_C X km_Jd_judgeBlockType (zs_G S l D sz0) { frames := 2, cells := 0, slots := 0, locals := 45 } (ze_E P)) (hR : zkj_R X (zd_PV S rh) (none)) (h : zs_H) (x1 : Int32) (y0 : Int32) (e : f_Jd_judgeBlockType_88 h x1 y0 = some rh) : zk_Ab X (zs_W S h) 0 0 88 [(1, .int x1)] [.int y0, .ref (S.1 38)] := by
  unfold f_Jd_judgeBlockType_88 at e
  refine zk_bipush (v := 17) C kd_Jd_judgeBlockType_88 (by decide) rfl ?_
  refine zk_iload_n C kd_Jd_judgeBlockType_90 rfl 0 rfl rfl ?_
  obtain ⟨h2, c1, e⟩ := zd_b e
  refine zs_callV (k := 38) (rn := { frames := 1, cells := 0, slots := 0, locals := 22 }) (As := [.int y0, .int 17, .int x1]) (rest := []) C (zc_Jd_refuseIf h y0 17 x1 c1) ku_Jd_refuseIf kw1036 kv_Jd_refuseIf rfl ⟨by decide, by decide⟩ ⟨by decide, by decide⟩ rfl rfl rfl (Nat.le_of_ble_eq_true rfl) kd_Jd_judgeBlockType_91 rfl (c1 := 0) (s1 := 0) rfl rfl (fun v w hp => ?_)
  obtain ⟨rfl, rfl⟩ := hp
  refine zk_stk (r' := []) rfl ?_
  exact zk_vret C hR kd_Jd_judgeBlockType_94 rfl rfl (zd_rV e)
set_option maxHeartbeats 4000000 in
set_option maxRecDepth 100000 in
theorem zb_Jd_judgeBlockType_83 {X : zkj_T} {S : zs_T} {P : ze_T} {l : Launch} {D : va_G} {sz0 : Nat} {rh : zs_H} (C : zk_C X km_Jd_judgeBlockType (zs_G S l D sz0) { frames := 2, cells := 0, slots := 0, locals := 45 } (ze_E P)) (hR : zkj_R X (zd_PV S rh) (none)) (h : zs_H) (x1 : Int32) (e : f_Jd_judgeBlockType_83 h x1 = some rh) : zk_Ab X (zs_W S h) 0 0 83 [(1, .int x1)] [.ref (S.1 38)] := by
  unfold f_Jd_judgeBlockType_83 at e
  refine zk_iconst (v := 1) C kd_Jd_judgeBlockType_83 (by decide) rfl ?_
  refine zk_goto (tgt := 88) C kd_Jd_judgeBlockType_84 (by decide) ?_
  refine zk_lvs (lv' := [(1, .int x1)]) [0] rfl ?_
  exact zb_Jd_judgeBlockType_88 C hR h x1 1 e
set_option maxHeartbeats 4000000 in
set_option maxRecDepth 100000 in
theorem zb_Jd_judgeBlockType_61 {X : zkj_T} {S : zs_T} {P : ze_T} {l : Launch} {D : va_G} {sz0 : Nat} {rh : zs_H} (C : zk_C X km_Jd_judgeBlockType (zs_G S l D sz0) { frames := 2, cells := 0, slots := 0, locals := 45 } (ze_E P)) (hR : zkj_R X (zd_PV S rh) (none)) (h : zs_H) (x1 : Int32) (y0 : Int32) (e : f_Jd_judgeBlockType_61 h x1 y0 = some rh) : zk_Ab X (zs_W S h) 0 0 61 [(0, .ref (S.1 38)), (1, .int x1)] [.int y0] := by
  unfold f_Jd_judgeBlockType_61 at e
  refine zk_istore_n (lv' := [(3, _), (0, _), (1, _)]) C kd_Jd_judgeBlockType_61 rfl (by decide) rfl rfl ?_
  refine zk_aload_n C kd_Jd_judgeBlockType_62 rfl 1 rfl rfl ?_
  refine zk_iload_n C kd_Jd_judgeBlockType_63 rfl 0 rfl rfl ?_
  refine zk_if_eq (tgt := 83) C kd_Jd_judgeBlockType_64 (by decide) rfl (fun b1 => ?_) (fun b1 => ?_)
  · replace e := zd_pos b1 e
    refine zk_lvs (lv' := [(1, .int x1)]) [2] rfl ?_
    exact zb_Jd_judgeBlockType_83 C hR h x1 e
  · replace e := zd_neg b1 e
    refine zk_aload_n C kd_Jd_judgeBlockType_67 rfl 1 rfl rfl ?_
    refine zs_get (v := .ref (S.1 20)) C 38 2 rfl rfl rfl rfl ki_Jd (by decide) kw353 kd_Jd_judgeBlockType_68 rfl ?_
    refine zs_get (v := .ref (S.1 21)) C 20 0 rfl rfl rfl rfl ki_Pl (by decide) kw235 kd_Jd_judgeBlockType_71 rfl ?_
    refine zk_aload_n C kd_Jd_judgeBlockType_74 rfl 1 rfl rfl ?_
    refine zs_get (v := .int (h.1 38 4)) C 38 4 rfl rfl rfl rfl ki_Jd (by decide) kw355 kd_Jd_judgeBlockType_75 rfl ?_
    obtain ⟨q2, e⟩ := zd_g e
    refine zs_iald C 21 rfl (zd_vp q2) kd_Jd_judgeBlockType_78 rfl ?_
    refine zk_iconst (v := 1) C kd_Jd_judgeBlockType_79 (by decide) rfl ?_
    refine zk_icmp_ne (tgt := 87) C kd_Jd_judgeBlockType_80 (by decide) rfl (fun b3 => ?_) (fun b3 => ?_)
    · replace e := zd_neg b3 e
      refine zk_iconst (v := 0) C kd_Jd_judgeBlockType_87 (by decide) rfl ?_
      refine zk_lvs (lv' := [(1, .int x1)]) [2] rfl ?_
      exact zb_Jd_judgeBlockType_88 C hR h x1 0 e
    · replace e := zd_pos b3 e
      refine zk_lvs (lv' := [(1, .int x1)]) [2] rfl ?_
      exact zb_Jd_judgeBlockType_83 C hR h x1 e
set_option maxHeartbeats 4000000 in
set_option maxRecDepth 100000 in
theorem zb_Jd_judgeBlockType_56 {X : zkj_T} {S : zs_T} {P : ze_T} {l : Launch} {D : va_G} {sz0 : Nat} {rh : zs_H} (C : zk_C X km_Jd_judgeBlockType (zs_G S l D sz0) { frames := 2, cells := 0, slots := 0, locals := 45 } (ze_E P)) (hR : zkj_R X (zd_PV S rh) (none)) (h : zs_H) (x1 : Int32) (e : f_Jd_judgeBlockType_56 h x1 = some rh) : zk_Ab X (zs_W S h) 0 0 56 [(0, .ref (S.1 38)), (1, .int x1)] [] := by
  unfold f_Jd_judgeBlockType_56 at e
  refine zk_iconst (v := 1) C kd_Jd_judgeBlockType_56 (by decide) rfl ?_
  refine zk_goto (tgt := 61) C kd_Jd_judgeBlockType_57 (by decide) ?_
  refine zk_lvs (lv' := [(0, .ref (S.1 38)), (1, .int x1)]) [0, 1] rfl ?_
  exact zb_Jd_judgeBlockType_61 C hR h x1 1 e
set_option maxHeartbeats 4000000 in
set_option maxRecDepth 100000 in
theorem zb_Jd_judgeBlockType_60 {X : zkj_T} {S : zs_T} {P : ze_T} {l : Launch} {D : va_G} {sz0 : Nat} {rh : zs_H} (C : zk_C X km_Jd_judgeBlockType (zs_G S l D sz0) { frames := 2, cells := 0, slots := 0, locals := 45 } (ze_E P)) (hR : zkj_R X (zd_PV S rh) (none)) (h : zs_H) (x1 : Int32) (e : f_Jd_judgeBlockType_60 h x1 = some rh) : zk_Ab X (zs_W S h) 0 0 60 [(0, .ref (S.1 38)), (1, .int x1)] [] := by
  unfold f_Jd_judgeBlockType_60 at e
  refine zk_iconst (v := 0) C kd_Jd_judgeBlockType_60 (by decide) rfl ?_
  refine zk_lvs (lv' := [(0, .ref (S.1 38)), (1, .int x1)]) [0, 1] rfl ?_
  exact zb_Jd_judgeBlockType_61 C hR h x1 0 e
set_option maxHeartbeats 4000000 in
set_option maxRecDepth 100000 in
theorem zc_Jd_judgeBlockType {l : Launch} {D : va_G} {sz0 : Nat} {S : zs_T} {P : ze_T} (h : zs_H) (x1 : Int32) {rh : zs_H} (e : f_Jd_judgeBlockType h x1 = some rh) : zk_Sp (zs_G S l D sz0) (ze_E P) km_Jd_judgeBlockType { frames := 2, cells := 0, slots := 0, locals := 45 } [.ref (S.1 38), .int x1] (zs_W S h) (zd_PV S rh) := by
  refine zk_met ku_Jd_judgeBlockType (Nat.le_of_ble_eq_true rfl) (ze_Em P) ?_
  intro X C hR
  refine zk_lvs (lv' := [(0, .ref (S.1 38)), (1, .int x1)]) [0, 1] rfl ?_
  unfold f_Jd_judgeBlockType at e
  refine zk_aload_n C kd_Jd_judgeBlockType_0 rfl 0 rfl rfl ?_
  refine zs_get (v := .ref (S.1 20)) C 38 2 rfl rfl rfl rfl ki_Jd (by decide) kw353 kd_Jd_judgeBlockType_1 rfl ?_
  refine zs_get (v := .ref (S.1 36)) C 20 15 rfl rfl rfl rfl ki_Pl (by decide) kw287 kd_Jd_judgeBlockType_4 rfl ?_
  refine zk_aload_n C kd_Jd_judgeBlockType_7 rfl 0 rfl rfl ?_
  refine zs_get (v := .ref (S.1 12)) C 38 1 rfl rfl rfl rfl ki_Jd (by decide) kw352 kd_Jd_judgeBlockType_8 rfl ?_
  refine zs_get (v := .ref (S.1 16)) C 12 3 rfl rfl rfl rfl ki_Tr (by decide) kw168 kd_Jd_judgeBlockType_11 rfl ?_
  refine zk_iload_n C kd_Jd_judgeBlockType_14 rfl 1 rfl rfl ?_
  obtain ⟨q1, e⟩ := zd_g e
  refine zs_iald C 16 rfl (zd_vp q1) kd_Jd_judgeBlockType_15 rfl ?_
  obtain ⟨q2, e⟩ := zd_g e
  refine zs_iald C 36 rfl (zd_vp q2) kd_Jd_judgeBlockType_16 rfl ?_
  refine zk_istore_n (lv' := [(2, _), (0, _), (1, _)]) C kd_Jd_judgeBlockType_17 rfl (by decide) rfl rfl ?_
  refine zk_iload_n C kd_Jd_judgeBlockType_18 rfl 0 rfl rfl ?_
  refine zk_iconst (v := (-1)) C kd_Jd_judgeBlockType_19 (by decide) rfl ?_
  refine zk_icmp_eq (tgt := 60) C kd_Jd_judgeBlockType_20 (by decide) rfl (fun b3 => ?_) (fun b3 => ?_)
  · replace e := zd_pos b3 e
    refine zk_lvs (lv' := [(0, .ref (S.1 38)), (1, .int x1)]) [1, 2] rfl ?_
    exact zb_Jd_judgeBlockType_60 C hR h x1 e
  · replace e := zd_neg b3 e
    refine zk_iload_n C kd_Jd_judgeBlockType_23 rfl 0 rfl rfl ?_
    refine zk_aload_n C kd_Jd_judgeBlockType_24 rfl 1 rfl rfl ?_
    refine zs_get (v := .int (h.1 38 4)) C 38 4 rfl rfl rfl rfl ki_Jd (by decide) kw355 kd_Jd_judgeBlockType_25 rfl ?_
    refine zk_icmp_eq (tgt := 60) C kd_Jd_judgeBlockType_28 (by decide) rfl (fun b4 => ?_) (fun b4 => ?_)
    · replace e := zd_pos b4 e
      refine zk_lvs (lv' := [(0, .ref (S.1 38)), (1, .int x1)]) [1, 2] rfl ?_
      exact zb_Jd_judgeBlockType_60 C hR h x1 e
    · replace e := zd_neg b4 e
      refine zk_aload_n C kd_Jd_judgeBlockType_31 rfl 1 rfl rfl ?_
      refine zs_get (v := .ref (S.1 20)) C 38 2 rfl rfl rfl rfl ki_Jd (by decide) kw353 kd_Jd_judgeBlockType_32 rfl ?_
      refine zs_get (v := .ref (S.1 21)) C 20 0 rfl rfl rfl rfl ki_Pl (by decide) kw235 kd_Jd_judgeBlockType_35 rfl ?_
      refine zk_iload_n C kd_Jd_judgeBlockType_38 rfl 0 rfl rfl ?_
      obtain ⟨q5, e⟩ := zd_g e
      refine zs_iald C 21 rfl (zd_vp q5) kd_Jd_judgeBlockType_39 rfl ?_
      refine zk_if_eq (tgt := 56) C kd_Jd_judgeBlockType_40 (by decide) rfl (fun b6 => ?_) (fun b6 => ?_)
      · replace e := zd_pos b6 e
        refine zk_lvs (lv' := [(0, .ref (S.1 38)), (1, .int x1)]) [1, 2] rfl ?_
        exact zb_Jd_judgeBlockType_56 C hR h x1 e
      · replace e := zd_neg b6 e
        refine zk_aload_n C kd_Jd_judgeBlockType_43 rfl 1 rfl rfl ?_
        refine zs_get (v := .ref (S.1 20)) C 38 2 rfl rfl rfl rfl ki_Jd (by decide) kw353 kd_Jd_judgeBlockType_44 rfl ?_
        refine zs_get (v := .ref (S.1 21)) C 20 0 rfl rfl rfl rfl ki_Pl (by decide) kw235 kd_Jd_judgeBlockType_47 rfl ?_
        refine zk_iload_n C kd_Jd_judgeBlockType_50 rfl 0 rfl rfl ?_
        refine zs_iald C 21 rfl (zd_vp q5) kd_Jd_judgeBlockType_51 rfl ?_
        refine zk_iconst (v := 2) C kd_Jd_judgeBlockType_52 (by decide) rfl ?_
        refine zk_icmp_ne (tgt := 60) C kd_Jd_judgeBlockType_53 (by decide) rfl (fun b7 => ?_) (fun b7 => ?_)
        · replace e := zd_neg b7 e
          refine zk_lvs (lv' := [(0, .ref (S.1 38)), (1, .int x1)]) [1, 2] rfl ?_
          exact zb_Jd_judgeBlockType_60 C hR h x1 e
        · replace e := zd_pos b7 e
          refine zk_lvs (lv' := [(0, .ref (S.1 38)), (1, .int x1)]) [1, 2] rfl ?_
          exact zb_Jd_judgeBlockType_56 C hR h x1 e
set_option maxHeartbeats 4000000 in
set_option maxRecDepth 100000 in
theorem zb_Jd_judgeArray_134 {X : zkj_T} {S : zs_T} {P : ze_T} {l : Launch} {D : va_G} {sz0 : Nat} {rh : zs_H} (C : zk_C X km_Jd_judgeArray (zs_G S l D sz0) { frames := 2, cells := 0, slots := 0, locals := 45 } (ze_E P)) (hR : zkj_R X (zd_PV S rh) (none)) (h : zs_H) (x1 : Int32) (y0 : Int32) (e : f_Jd_judgeArray_134 h x1 y0 = some rh) : zk_Ab X (zs_W S h) 0 0 134 [(1, .int x1)] [.int y0, .ref (S.1 38)] := by
  unfold f_Jd_judgeArray_134 at e
  refine zk_bipush (v := 16) C kd_Jd_judgeArray_134 (by decide) rfl ?_
  refine zk_iload_n C kd_Jd_judgeArray_136 rfl 0 rfl rfl ?_
  obtain ⟨h2, c1, e⟩ := zd_b e
  refine zs_callV (k := 38) (rn := { frames := 1, cells := 0, slots := 0, locals := 22 }) (As := [.int y0, .int 16, .int x1]) (rest := []) C (zc_Jd_refuseIf h y0 16 x1 c1) ku_Jd_refuseIf kw1036 kv_Jd_refuseIf rfl ⟨by decide, by decide⟩ ⟨by decide, by decide⟩ rfl rfl rfl (Nat.le_of_ble_eq_true rfl) kd_Jd_judgeArray_137 rfl (c1 := 0) (s1 := 0) rfl rfl (fun v w hp => ?_)
  obtain ⟨rfl, rfl⟩ := hp
  refine zk_stk (r' := []) rfl ?_
  exact zk_vret C hR kd_Jd_judgeArray_140 rfl rfl (zd_rV e)
set_option maxHeartbeats 4000000 in
set_option maxRecDepth 100000 in
theorem zb_Jd_judgeArray_129 {X : zkj_T} {S : zs_T} {P : ze_T} {l : Launch} {D : va_G} {sz0 : Nat} {rh : zs_H} (C : zk_C X km_Jd_judgeArray (zs_G S l D sz0) { frames := 2, cells := 0, slots := 0, locals := 45 } (ze_E P)) (hR : zkj_R X (zd_PV S rh) (none)) (h : zs_H) (x1 : Int32) (e : f_Jd_judgeArray_129 h x1 = some rh) : zk_Ab X (zs_W S h) 0 0 129 [(1, .int x1)] [.ref (S.1 38)] := by
  unfold f_Jd_judgeArray_129 at e
  refine zk_iconst (v := 1) C kd_Jd_judgeArray_129 (by decide) rfl ?_
  refine zk_goto (tgt := 134) C kd_Jd_judgeArray_130 (by decide) ?_
  refine zk_lvs (lv' := [(1, .int x1)]) [0] rfl ?_
  exact zb_Jd_judgeArray_134 C hR h x1 1 e
set_option maxHeartbeats 4000000 in
set_option maxRecDepth 100000 in
theorem zb_Jd_judgeArray_105 {X : zkj_T} {S : zs_T} {P : ze_T} {l : Launch} {D : va_G} {sz0 : Nat} {rh : zs_H} (C : zk_C X km_Jd_judgeArray (zs_G S l D sz0) { frames := 2, cells := 0, slots := 0, locals := 45 } (ze_E P)) (hR : zkj_R X (zd_PV S rh) (none)) (h : zs_H) (x1 : Int32) (x5 : Int64) (y0 : Int32) (e : f_Jd_judgeArray_105 h x1 x5 y0 = some rh) : zk_Ab X (zs_W S h) 0 0 105 [(0, .ref (S.1 38)), (1, .int x1), (5, .long x5)] [.int y0] := by
  unfold f_Jd_judgeArray_105 at e
  refine zk_istore (lv' := [(7, _), (0, _), (1, _), (5, _)]) C kd_Jd_judgeArray_105 (by decide) rfl rfl ?_
  refine zk_aload_n C kd_Jd_judgeArray_107 rfl 1 rfl rfl ?_
  refine zk_iload C kd_Jd_judgeArray_108 0 rfl rfl ?_
  refine zk_if_ne (tgt := 129) C kd_Jd_judgeArray_110 (by decide) rfl (fun b1 => ?_) (fun b1 => ?_)
  · replace e := zd_neg b1 e
    refine zk_lvs (lv' := [(1, .int x1)]) [2] rfl ?_
    exact zb_Jd_judgeArray_129 C hR h x1 e
  · replace e := zd_pos b1 e
    refine zk_lload C kd_Jd_judgeArray_113 3 rfl rfl ?_
    refine zk_lconst (v := 1) C kd_Jd_judgeArray_115 (by decide) rfl ?_
    refine zk_lcmp C kd_Jd_judgeArray_116 rfl ?_
    refine zk_if_lt (tgt := 129) C kd_Jd_judgeArray_117 (by decide) rfl (fun b2 => ?_) (fun b2 => ?_)
    · replace e := zd_pos (zd_clt.mp b2) e
      refine zk_lvs (lv' := [(1, .int x1)]) [2] rfl ?_
      exact zb_Jd_judgeArray_129 C hR h x1 e
    · replace e := zd_neg (fun z => b2 (zd_clt.mpr z)) e
      refine zk_lload C kd_Jd_judgeArray_120 3 rfl rfl ?_
      refine zk_ldc2 (v := 256) C kw1114 kd_Jd_judgeArray_122 rfl ?_
      refine zk_lcmp C kd_Jd_judgeArray_125 rfl ?_
      refine zk_if_le (tgt := 133) C kd_Jd_judgeArray_126 (by decide) rfl (fun b3 => ?_) (fun b3 => ?_)
      · replace e := zd_pos (zd_cle.mp b3) e
        refine zk_iconst (v := 0) C kd_Jd_judgeArray_133 (by decide) rfl ?_
        refine zk_lvs (lv' := [(1, .int x1)]) [2] rfl ?_
        exact zb_Jd_judgeArray_134 C hR h x1 0 e
      · replace e := zd_neg (fun z => b3 (zd_cle.mpr z)) e
        refine zk_lvs (lv' := [(1, .int x1)]) [2] rfl ?_
        exact zb_Jd_judgeArray_129 C hR h x1 e
set_option maxHeartbeats 4000000 in
set_option maxRecDepth 100000 in
theorem zb_Jd_judgeArray_100 {X : zkj_T} {S : zs_T} {P : ze_T} {l : Launch} {D : va_G} {sz0 : Nat} {rh : zs_H} (C : zk_C X km_Jd_judgeArray (zs_G S l D sz0) { frames := 2, cells := 0, slots := 0, locals := 45 } (ze_E P)) (hR : zkj_R X (zd_PV S rh) (none)) (h : zs_H) (x1 : Int32) (x5 : Int64) (e : f_Jd_judgeArray_100 h x1 x5 = some rh) : zk_Ab X (zs_W S h) 0 0 100 [(0, .ref (S.1 38)), (1, .int x1), (5, .long x5)] [] := by
  unfold f_Jd_judgeArray_100 at e
  refine zk_iconst (v := 1) C kd_Jd_judgeArray_100 (by decide) rfl ?_
  refine zk_goto (tgt := 105) C kd_Jd_judgeArray_101 (by decide) ?_
  refine zk_lvs (lv' := [(0, .ref (S.1 38)), (1, .int x1), (5, .long x5)]) [0, 1, 2] rfl ?_
  exact zb_Jd_judgeArray_105 C hR h x1 x5 1 e
set_option maxHeartbeats 4000000 in
set_option maxRecDepth 100000 in
theorem zb_Jd_judgeArray_52 {X : zkj_T} {S : zs_T} {P : ze_T} {l : Launch} {D : va_G} {sz0 : Nat} {rh : zs_H} (C : zk_C X km_Jd_judgeArray (zs_G S l D sz0) { frames := 2, cells := 0, slots := 0, locals := 45 } (ze_E P)) (hR : zkj_R X (zd_PV S rh) (none)) (h : zs_H) (x1 : Int32) (x2 : Int32) (x3 : Int32) (y0 : Int32) (e : f_Jd_judgeArray_52 h x1 x2 x3 y0 = some rh) : zk_Ab X (zs_W S h) 0 0 52 [(0, .ref (S.1 38)), (1, .int x1), (2, .int x2), (3, .int x3)] [.int y0] := by
  unfold f_Jd_judgeArray_52 at e
  refine zk_istore (lv' := [(4, _), (0, _), (1, _), (2, _), (3, _)]) C kd_Jd_judgeArray_52 (by decide) rfl rfl ?_
  refine zk_aload_n C kd_Jd_judgeArray_54 rfl 1 rfl rfl ?_
  refine zs_get (v := .ref (S.1 12)) C 38 1 rfl rfl rfl rfl ki_Jd (by decide) kw352 kd_Jd_judgeArray_55 rfl ?_
  refine zs_get (v := .ref (S.1 16)) C 12 3 rfl rfl rfl rfl ki_Tr (by decide) kw168 kd_Jd_judgeArray_58 rfl ?_
  refine zk_iload_n C kd_Jd_judgeArray_61 rfl 4 rfl rfl ?_
  obtain ⟨q1, e⟩ := zd_g e
  refine zs_iald C 16 rfl (zd_vp q1) kd_Jd_judgeArray_62 rfl ?_
  refine zk_i2l C kd_Jd_judgeArray_63 rfl ?_
  refine zk_aload_n C kd_Jd_judgeArray_64 rfl 1 rfl rfl ?_
  refine zs_get (v := .ref (S.1 12)) C 38 1 rfl rfl rfl rfl ki_Jd (by decide) kw352 kd_Jd_judgeArray_65 rfl ?_
  refine zs_get (v := .ref (S.1 16)) C 12 3 rfl rfl rfl rfl ki_Tr (by decide) kw168 kd_Jd_judgeArray_68 rfl ?_
  refine zk_iload_n C kd_Jd_judgeArray_71 rfl 3 rfl rfl ?_
  obtain ⟨q2, e⟩ := zd_g e
  refine zs_iald C 16 rfl (zd_vp q2) kd_Jd_judgeArray_72 rfl ?_
  refine zk_i2l C kd_Jd_judgeArray_73 rfl ?_
  refine zk_lsub C kd_Jd_judgeArray_74 rfl ?_
  refine zk_lconst (v := 1) C kd_Jd_judgeArray_75 (by decide) rfl ?_
  refine zk_ladd C kd_Jd_judgeArray_76 rfl ?_
  refine zk_lstore (lv' := [(5, _), (4, _), (0, _), (1, _), (2, _), (3, _)]) C kd_Jd_judgeArray_77 (by decide) rfl rfl ?_
  refine zk_aload_n C kd_Jd_judgeArray_79 rfl 2 rfl rfl ?_
  refine zs_get (v := .ref (S.1 20)) C 38 2 rfl rfl rfl rfl ki_Jd (by decide) kw353 kd_Jd_judgeArray_80 rfl ?_
  refine zs_get (v := .ref (S.1 21)) C 20 0 rfl rfl rfl rfl ki_Pl (by decide) kw235 kd_Jd_judgeArray_83 rfl ?_
  refine zk_aload_n C kd_Jd_judgeArray_86 rfl 2 rfl rfl ?_
  refine zs_get (v := .int (h.1 38 4)) C 38 4 rfl rfl rfl rfl ki_Jd (by decide) kw355 kd_Jd_judgeArray_87 rfl ?_
  obtain ⟨q3, e⟩ := zd_g e
  refine zs_iald C 21 rfl (zd_vp q3) kd_Jd_judgeArray_90 rfl ?_
  refine zk_iconst (v := 1) C kd_Jd_judgeArray_91 (by decide) rfl ?_
  refine zk_icmp_eq (tgt := 100) C kd_Jd_judgeArray_92 (by decide) rfl (fun b4 => ?_) (fun b4 => ?_)
  · replace e := zd_pos b4 e
    refine zk_lvs (lv' := [(0, .ref (S.1 38)), (1, .int x1), (5, .long ((((h.2.1 16 x3.toNatClampNeg).toInt64) - ((h.2.1 16 x2.toNatClampNeg).toInt64)) + (1 : Int64)))]) [2, 3, 0] rfl ?_
    exact zb_Jd_judgeArray_100 C hR h x1 ((((h.2.1 16 x3.toNatClampNeg).toInt64) - ((h.2.1 16 x2.toNatClampNeg).toInt64)) + (1 : Int64)) e
  · replace e := zd_neg b4 e
    refine zk_iload C kd_Jd_judgeArray_95 1 rfl rfl ?_
    refine zk_if_eq (tgt := 104) C kd_Jd_judgeArray_97 (by decide) rfl (fun b5 => ?_) (fun b5 => ?_)
    · replace e := zd_pos b5 e
      refine zk_iconst (v := 0) C kd_Jd_judgeArray_104 (by decide) rfl ?_
      refine zk_lvs (lv' := [(0, .ref (S.1 38)), (1, .int x1), (5, .long ((((h.2.1 16 x3.toNatClampNeg).toInt64) - ((h.2.1 16 x2.toNatClampNeg).toInt64)) + (1 : Int64)))]) [2, 3, 0] rfl ?_
      exact zb_Jd_judgeArray_105 C hR h x1 ((((h.2.1 16 x3.toNatClampNeg).toInt64) - ((h.2.1 16 x2.toNatClampNeg).toInt64)) + (1 : Int64)) 0 e
    · replace e := zd_neg b5 e
      refine zk_lvs (lv' := [(0, .ref (S.1 38)), (1, .int x1), (5, .long ((((h.2.1 16 x3.toNatClampNeg).toInt64) - ((h.2.1 16 x2.toNatClampNeg).toInt64)) + (1 : Int64)))]) [2, 3, 0] rfl ?_
      exact zb_Jd_judgeArray_100 C hR h x1 ((((h.2.1 16 x3.toNatClampNeg).toInt64) - ((h.2.1 16 x2.toNatClampNeg).toInt64)) + (1 : Int64)) e
set_option maxHeartbeats 4000000 in
set_option maxRecDepth 100000 in
theorem zb_Jd_judgeArray_47 {X : zkj_T} {S : zs_T} {P : ze_T} {l : Launch} {D : va_G} {sz0 : Nat} {rh : zs_H} (C : zk_C X km_Jd_judgeArray (zs_G S l D sz0) { frames := 2, cells := 0, slots := 0, locals := 45 } (ze_E P)) (hR : zkj_R X (zd_PV S rh) (none)) (h : zs_H) (x1 : Int32) (x2 : Int32) (x3 : Int32) (e : f_Jd_judgeArray_47 h x1 x2 x3 = some rh) : zk_Ab X (zs_W S h) 0 0 47 [(0, .ref (S.1 38)), (1, .int x1), (2, .int x2), (3, .int x3)] [] := by
  unfold f_Jd_judgeArray_47 at e
  refine zk_iconst (v := 1) C kd_Jd_judgeArray_47 (by decide) rfl ?_
  refine zk_goto (tgt := 52) C kd_Jd_judgeArray_48 (by decide) ?_
  refine zk_lvs (lv' := [(0, .ref (S.1 38)), (1, .int x1), (2, .int x2), (3, .int x3)]) [0, 1, 2, 3] rfl ?_
  exact zb_Jd_judgeArray_52 C hR h x1 x2 x3 1 e
set_option maxHeartbeats 4000000 in
set_option maxRecDepth 100000 in
theorem zc_Jd_judgeArray {l : Launch} {D : va_G} {sz0 : Nat} {S : zs_T} {P : ze_T} (h : zs_H) (x1 : Int32) {rh : zs_H} (e : f_Jd_judgeArray h x1 = some rh) : zk_Sp (zs_G S l D sz0) (ze_E P) km_Jd_judgeArray { frames := 2, cells := 0, slots := 0, locals := 45 } [.ref (S.1 38), .int x1] (zs_W S h) (zd_PV S rh) := by
  refine zk_met ku_Jd_judgeArray (Nat.le_of_ble_eq_true rfl) (ze_Em P) ?_
  intro X C hR
  refine zk_lvs (lv' := [(0, .ref (S.1 38)), (1, .int x1)]) [0, 1] rfl ?_
  unfold f_Jd_judgeArray at e
  refine zk_aload_n C kd_Jd_judgeArray_0 rfl 0 rfl rfl ?_
  refine zs_get (v := .ref (S.1 12)) C 38 1 rfl rfl rfl rfl ki_Jd (by decide) kw352 kd_Jd_judgeArray_1 rfl ?_
  refine zs_get (v := .ref (S.1 17)) C 12 4 rfl rfl rfl rfl ki_Tr (by decide) kw170 kd_Jd_judgeArray_4 rfl ?_
  refine zk_iload_n C kd_Jd_judgeArray_7 rfl 1 rfl rfl ?_
  obtain ⟨q1, e⟩ := zd_g e
  refine zs_iald C 17 rfl (zd_vp q1) kd_Jd_judgeArray_8 rfl ?_
  refine zk_istore_n (lv' := [(2, _), (0, _), (1, _)]) C kd_Jd_judgeArray_9 rfl (by decide) rfl rfl ?_
  refine zk_aload_n C kd_Jd_judgeArray_10 rfl 1 rfl rfl ?_
  refine zs_get (v := .ref (S.1 12)) C 38 1 rfl rfl rfl rfl ki_Jd (by decide) kw352 kd_Jd_judgeArray_11 rfl ?_
  refine zk_iload_n C kd_Jd_judgeArray_14 rfl 2 rfl rfl ?_
  obtain ⟨v3, c2, e⟩ := zd_b e
  refine zs_callV (k := 12) (rn := { frames := 0, cells := 0, slots := 0, locals := 0 }) (As := [.int x1]) (rest := []) C (zc_Tr_second h x1 c2) ku_Tr_second kw1081 kv_Tr_second rfl ⟨by decide, by decide⟩ ⟨by decide, by decide⟩ rfl rfl rfl (Nat.le_of_ble_eq_true rfl) kd_Jd_judgeArray_15 rfl (c1 := 0) (s1 := 0) rfl rfl (fun v w hp => ?_)
  obtain ⟨rfl, rfl⟩ := hp
  refine zk_stk (r' := [.int v3]) rfl ?_
  refine zk_istore_n (lv' := [(3, _), (2, _), (0, _), (1, _)]) C kd_Jd_judgeArray_18 rfl (by decide) rfl rfl ?_
  refine zk_aload_n C kd_Jd_judgeArray_19 rfl 2 rfl rfl ?_
  refine zs_get (v := .ref (S.1 12)) C 38 1 rfl rfl rfl rfl ki_Jd (by decide) kw352 kd_Jd_judgeArray_20 rfl ?_
  refine zs_get (v := .ref (S.1 13)) C 12 0 rfl rfl rfl rfl ki_Tr (by decide) kw157 kd_Jd_judgeArray_23 rfl ?_
  refine zk_iload_n C kd_Jd_judgeArray_26 rfl 1 rfl rfl ?_
  obtain ⟨q4, e⟩ := zd_g e
  refine zs_bald C 13 rfl (zd_vp q4) kd_Jd_judgeArray_27 rfl ?_
  refine zk_bipush (v := 31) C kd_Jd_judgeArray_28 (by decide) rfl ?_
  refine zk_icmp_eq (tgt := 47) C kd_Jd_judgeArray_30 (by decide) rfl (fun b5 => ?_) (fun b5 => ?_)
  · replace e := zd_pos b5 e
    refine zk_lvs (lv' := [(0, .ref (S.1 38)), (1, .int x1), (2, .int (h.2.1 17 x1.toNatClampNeg)), (3, .int v3)]) [2, 3, 1, 0] rfl ?_
    exact zb_Jd_judgeArray_47 C hR h x1 (h.2.1 17 x1.toNatClampNeg) v3 e
  · replace e := zd_neg b5 e
    refine zk_aload_n C kd_Jd_judgeArray_33 rfl 2 rfl rfl ?_
    refine zs_get (v := .ref (S.1 12)) C 38 1 rfl rfl rfl rfl ki_Jd (by decide) kw352 kd_Jd_judgeArray_34 rfl ?_
    refine zs_get (v := .ref (S.1 13)) C 12 0 rfl rfl rfl rfl ki_Tr (by decide) kw157 kd_Jd_judgeArray_37 rfl ?_
    refine zk_iload_n C kd_Jd_judgeArray_40 rfl 0 rfl rfl ?_
    obtain ⟨q6, e⟩ := zd_g e
    refine zs_bald C 13 rfl (zd_vp q6) kd_Jd_judgeArray_41 rfl ?_
    refine zk_bipush (v := 31) C kd_Jd_judgeArray_42 (by decide) rfl ?_
    refine zk_icmp_ne (tgt := 51) C kd_Jd_judgeArray_44 (by decide) rfl (fun b7 => ?_) (fun b7 => ?_)
    · replace e := zd_neg b7 e
      refine zk_iconst (v := 0) C kd_Jd_judgeArray_51 (by decide) rfl ?_
      refine zk_lvs (lv' := [(0, .ref (S.1 38)), (1, .int x1), (2, .int (h.2.1 17 x1.toNatClampNeg)), (3, .int v3)]) [2, 3, 1, 0] rfl ?_
      exact zb_Jd_judgeArray_52 C hR h x1 (h.2.1 17 x1.toNatClampNeg) v3 0 e
    · replace e := zd_pos b7 e
      refine zk_lvs (lv' := [(0, .ref (S.1 38)), (1, .int x1), (2, .int (h.2.1 17 x1.toNatClampNeg)), (3, .int v3)]) [2, 3, 1, 0] rfl ?_
      exact zb_Jd_judgeArray_47 C hR h x1 (h.2.1 17 x1.toNatClampNeg) v3 e
set_option maxHeartbeats 4000000 in
set_option maxRecDepth 100000 in
theorem zc_Jd_placeCell {l : Launch} {D : va_G} {sz0 : Nat} {S : zs_T} {P : ze_T} (h : zs_H) (x0 : Int32) {rv : Int32} (e : f_Jd_placeCell x0 = some rv) : zk_Sp (zs_G S l D sz0) (ze_E P) km_Jd_placeCell { frames := 0, cells := 0, slots := 0, locals := 0 } [.int x0] (zs_W S h) (zd_PI S rv h) := by
  refine zk_met ku_Jd_placeCell (Nat.le_of_ble_eq_true rfl) (ze_Em P) ?_
  intro X C hR
  refine zk_lvs (lv' := [(0, .int x0)]) [0] rfl ?_
  unfold f_Jd_placeCell at e
  refine ze_getsN (j := 3) (host := "PlantKeeper") C rfl (by decide +kernel) kd_Jd_placeCell_0 rfl ?_
  refine zk_iload_n C kd_Jd_placeCell_3 rfl 0 rfl rfl ?_
  refine zk_bipush (v := 8) C kd_Jd_placeCell_4 (by decide) rfl ?_
  refine zk_ishr C kd_Jd_placeCell_6 rfl ?_
  obtain ⟨q1, e⟩ := zd_g e
  refine ze_ti C rfl (zd_vp q1) kd_Jd_placeCell_7 rfl ?_
  refine zk_stk (r' := [.int (zt_3.getD (x0 >>> ((8 : Int32) &&& 31)).toNatClampNeg 0)]) rfl ?_
  refine zk_iload_n C kd_Jd_placeCell_8 rfl 0 rfl rfl ?_
  refine zk_sipush (v := 255) C kd_Jd_placeCell_9 (by decide) rfl ?_
  refine zk_iand C kd_Jd_placeCell_12 rfl ?_
  refine zk_iadd C kd_Jd_placeCell_13 rfl ?_
  exact zk_iret C hR kd_Jd_placeCell_14 rfl rfl (zd_rIO e)
set_option maxHeartbeats 4000000 in
set_option maxRecDepth 100000 in
theorem zb_Jd_judgePlace_70 {X : zkj_T} {S : zs_T} {P : ze_T} {l : Launch} {D : va_G} {sz0 : Nat} {rh : zs_H} (C : zk_C X km_Jd_judgePlace (zs_G S l D sz0) { frames := 2, cells := 0, slots := 0, locals := 45 } (ze_E P)) (hR : zkj_R X (zd_PV S rh) (none)) (h : zs_H) (x1 : Int32) (x2 : Int32) (y0 : Int32) (e : f_Jd_judgePlace_70 h x1 x2 y0 = some rh) : zk_Ab X (zs_W S h) 0 0 70 [(0, .ref (S.1 38)), (1, .int x1), (2, .int x2)] [.int y0, .ref (S.1 38)] := by
  unfold f_Jd_judgePlace_70 at e
  refine zk_bipush (v := 14) C kd_Jd_judgePlace_70 (by decide) rfl ?_
  refine zk_iload_n C kd_Jd_judgePlace_72 rfl 1 rfl rfl ?_
  obtain ⟨h2, c1, e⟩ := zd_b e
  refine zs_callV (k := 38) (rn := { frames := 1, cells := 0, slots := 0, locals := 22 }) (As := [.int y0, .int 14, .int x1]) (rest := []) C (zc_Jd_refuseIf h y0 14 x1 c1) ku_Jd_refuseIf kw1036 kv_Jd_refuseIf rfl ⟨by decide, by decide⟩ ⟨by decide, by decide⟩ rfl rfl rfl (Nat.le_of_ble_eq_true rfl) kd_Jd_judgePlace_73 rfl (c1 := 0) (s1 := 0) rfl rfl (fun v w hp => ?_)
  obtain ⟨rfl, rfl⟩ := hp
  refine zk_stk (r' := []) rfl ?_
  refine zk_aload_n C kd_Jd_judgePlace_76 rfl 0 rfl rfl ?_
  refine zs_get (v := .ref (S.1 40)) C 38 13 rfl rfl rfl rfl ki_Jd (by decide) kw364 kd_Jd_judgePlace_77 rfl ?_
  refine zk_iload_n C kd_Jd_judgePlace_80 rfl 2 rfl rfl ?_
  refine zk_iconst (v := 1) C kd_Jd_judgePlace_81 (by decide) rfl ?_
  obtain ⟨q3, e⟩ := zd_g e
  refine zs_zast C 40 rfl (zd_vp q3) kd_Jd_judgePlace_82 rfl ?_
  exact zk_vret C hR kd_Jd_judgePlace_83 rfl rfl (zd_rV e)
set_option maxHeartbeats 4000000 in
set_option maxRecDepth 100000 in
theorem zb_Jd_judgePlace_65 {X : zkj_T} {S : zs_T} {P : ze_T} {l : Launch} {D : va_G} {sz0 : Nat} {rh : zs_H} (C : zk_C X km_Jd_judgePlace (zs_G S l D sz0) { frames := 2, cells := 0, slots := 0, locals := 45 } (ze_E P)) (hR : zkj_R X (zd_PV S rh) (none)) (h : zs_H) (x1 : Int32) (x2 : Int32) (e : f_Jd_judgePlace_65 h x1 x2 = some rh) : zk_Ab X (zs_W S h) 0 0 65 [(0, .ref (S.1 38)), (1, .int x1), (2, .int x2)] [.ref (S.1 38)] := by
  unfold f_Jd_judgePlace_65 at e
  refine zk_iconst (v := 1) C kd_Jd_judgePlace_65 (by decide) rfl ?_
  refine zk_goto (tgt := 70) C kd_Jd_judgePlace_66 (by decide) ?_
  refine zk_lvs (lv' := [(0, .ref (S.1 38)), (1, .int x1), (2, .int x2)]) [0, 1, 2] rfl ?_
  exact zb_Jd_judgePlace_70 C hR h x1 x2 1 e
set_option maxHeartbeats 4000000 in
set_option maxRecDepth 100000 in
theorem zb_Jd_judgePlace_50 {X : zkj_T} {S : zs_T} {P : ze_T} {l : Launch} {D : va_G} {sz0 : Nat} {rh : zs_H} (C : zk_C X km_Jd_judgePlace (zs_G S l D sz0) { frames := 2, cells := 0, slots := 0, locals := 45 } (ze_E P)) (hR : zkj_R X (zd_PV S rh) (none)) (h : zs_H) (x1 : Int32) (x2 : Int32) (y0 : Int32) (e : f_Jd_judgePlace_50 h x1 x2 y0 = some rh) : zk_Ab X (zs_W S h) 0 0 50 [(0, .ref (S.1 38)), (1, .int x1), (2, .int x2)] [.int y0] := by
  unfold f_Jd_judgePlace_50 at e
  refine zk_istore_n (lv' := [(3, _), (0, _), (1, _), (2, _)]) C kd_Jd_judgePlace_50 rfl (by decide) rfl rfl ?_
  refine zk_aload_n C kd_Jd_judgePlace_51 rfl 1 rfl rfl ?_
  refine zk_iload_n C kd_Jd_judgePlace_52 rfl 0 rfl rfl ?_
  refine zk_if_ne (tgt := 65) C kd_Jd_judgePlace_53 (by decide) rfl (fun b1 => ?_) (fun b1 => ?_)
  · replace e := zd_neg b1 e
    refine zk_lvs (lv' := [(0, .ref (S.1 38)), (1, .int x1), (2, .int x2)]) [1, 2, 3] rfl ?_
    exact zb_Jd_judgePlace_65 C hR h x1 x2 e
  · replace e := zd_pos b1 e
    refine zk_aload_n C kd_Jd_judgePlace_56 rfl 1 rfl rfl ?_
    refine zs_get (v := .ref (S.1 40)) C 38 13 rfl rfl rfl rfl ki_Jd (by decide) kw364 kd_Jd_judgePlace_57 rfl ?_
    refine zk_iload_n C kd_Jd_judgePlace_60 rfl 3 rfl rfl ?_
    obtain ⟨q2, e⟩ := zd_g e
    refine zs_zald C 40 rfl (zd_vp q2) kd_Jd_judgePlace_61 rfl ?_
    refine zk_if_eq (tgt := 69) C kd_Jd_judgePlace_62 (by decide) rfl (fun b3 => ?_) (fun b3 => ?_)
    · replace e := zd_pos b3 e
      refine zk_iconst (v := 0) C kd_Jd_judgePlace_69 (by decide) rfl ?_
      refine zk_lvs (lv' := [(0, .ref (S.1 38)), (1, .int x1), (2, .int x2)]) [1, 2, 3] rfl ?_
      exact zb_Jd_judgePlace_70 C hR h x1 x2 0 e
    · replace e := zd_neg b3 e
      refine zk_lvs (lv' := [(0, .ref (S.1 38)), (1, .int x1), (2, .int x2)]) [1, 2, 3] rfl ?_
      exact zb_Jd_judgePlace_65 C hR h x1 x2 e
set_option maxHeartbeats 4000000 in
set_option maxRecDepth 100000 in
theorem zb_Jd_judgePlace_45 {X : zkj_T} {S : zs_T} {P : ze_T} {l : Launch} {D : va_G} {sz0 : Nat} {rh : zs_H} (C : zk_C X km_Jd_judgePlace (zs_G S l D sz0) { frames := 2, cells := 0, slots := 0, locals := 45 } (ze_E P)) (hR : zkj_R X (zd_PV S rh) (none)) (h : zs_H) (x1 : Int32) (x2 : Int32) (e : f_Jd_judgePlace_45 h x1 x2 = some rh) : zk_Ab X (zs_W S h) 0 0 45 [(0, .ref (S.1 38)), (1, .int x1), (2, .int x2)] [] := by
  unfold f_Jd_judgePlace_45 at e
  refine zk_iconst (v := 1) C kd_Jd_judgePlace_45 (by decide) rfl ?_
  refine zk_goto (tgt := 50) C kd_Jd_judgePlace_46 (by decide) ?_
  refine zk_lvs (lv' := [(0, .ref (S.1 38)), (1, .int x1), (2, .int x2)]) [0, 1, 2] rfl ?_
  exact zb_Jd_judgePlace_50 C hR h x1 x2 1 e
set_option maxHeartbeats 4000000 in
set_option maxRecDepth 100000 in
theorem zc_Jd_judgePlace {l : Launch} {D : va_G} {sz0 : Nat} {S : zs_T} {P : ze_T} (h : zs_H) (x1 : Int32) {rh : zs_H} (e : f_Jd_judgePlace h x1 = some rh) : zk_Sp (zs_G S l D sz0) (ze_E P) km_Jd_judgePlace { frames := 2, cells := 0, slots := 0, locals := 45 } [.ref (S.1 38), .int x1] (zs_W S h) (zd_PV S rh) := by
  refine zk_met ku_Jd_judgePlace (Nat.le_of_ble_eq_true rfl) (ze_Em P) ?_
  intro X C hR
  refine zk_lvs (lv' := [(0, .ref (S.1 38)), (1, .int x1)]) [0, 1] rfl ?_
  unfold f_Jd_judgePlace at e
  refine zk_aload_n C kd_Jd_judgePlace_0 rfl 0 rfl rfl ?_
  refine zs_get (v := .ref (S.1 12)) C 38 1 rfl rfl rfl rfl ki_Jd (by decide) kw352 kd_Jd_judgePlace_1 rfl ?_
  refine zs_get (v := .ref (S.1 16)) C 12 3 rfl rfl rfl rfl ki_Tr (by decide) kw168 kd_Jd_judgePlace_4 rfl ?_
  refine zk_iload_n C kd_Jd_judgePlace_7 rfl 1 rfl rfl ?_
  obtain ⟨q1, e⟩ := zd_g e
  refine zs_iald C 16 rfl (zd_vp q1) kd_Jd_judgePlace_8 rfl ?_
  obtain ⟨v3, c2, e⟩ := zd_b e
  refine zk_callS (rn := { frames := 0, cells := 0, slots := 0, locals := 0 }) (As := [.int (h.2.1 16 x1.toNatClampNeg)]) (rest := []) C (zc_Jd_placeCell h (h.2.1 16 x1.toNatClampNeg) c2) ku_Jd_placeCell kw1097 ks_Jd_placeCell rfl ⟨by decide, by decide⟩ ⟨by decide, by decide⟩ rfl (Nat.le_of_ble_eq_true rfl) kd_Jd_judgePlace_9 rfl (c1 := 0) (s1 := 0) rfl rfl (fun v w hp => ?_)
  obtain ⟨rfl, rfl⟩ := hp
  refine zk_stk (r' := [.int v3]) rfl ?_
  refine zk_istore_n (lv' := [(2, _), (0, _), (1, _)]) C kd_Jd_judgePlace_12 rfl (by decide) rfl rfl ?_
  refine zk_aload_n C kd_Jd_judgePlace_13 rfl 1 rfl rfl ?_
  refine zs_get (v := .ref (S.1 20)) C 38 2 rfl rfl rfl rfl ki_Jd (by decide) kw353 kd_Jd_judgePlace_14 rfl ?_
  refine zs_get (v := .ref (S.1 21)) C 20 0 rfl rfl rfl rfl ki_Pl (by decide) kw235 kd_Jd_judgePlace_17 rfl ?_
  refine zk_aload_n C kd_Jd_judgePlace_20 rfl 1 rfl rfl ?_
  refine zs_get (v := .int (h.1 38 4)) C 38 4 rfl rfl rfl rfl ki_Jd (by decide) kw355 kd_Jd_judgePlace_21 rfl ?_
  obtain ⟨q4, e⟩ := zd_g e
  refine zs_iald C 21 rfl (zd_vp q4) kd_Jd_judgePlace_24 rfl ?_
  refine zk_iconst (v := 3) C kd_Jd_judgePlace_25 (by decide) rfl ?_
  refine zk_icmp_ne (tgt := 45) C kd_Jd_judgePlace_26 (by decide) rfl (fun b5 => ?_) (fun b5 => ?_)
  · replace e := zd_neg b5 e
    refine zk_lvs (lv' := [(0, .ref (S.1 38)), (1, .int x1), (2, .int v3)]) [1, 2, 0] rfl ?_
    exact zb_Jd_judgePlace_45 C hR h x1 v3 e
  · replace e := zd_pos b5 e
    refine zk_aload_n C kd_Jd_judgePlace_29 rfl 1 rfl rfl ?_
    refine zs_get (v := .ref (S.1 20)) C 38 2 rfl rfl rfl rfl ki_Jd (by decide) kw353 kd_Jd_judgePlace_30 rfl ?_
    refine zs_get (v := .int (h.1 20 18)) C 20 18 rfl rfl rfl rfl ki_Pl (by decide) kw293 kd_Jd_judgePlace_33 rfl ?_
    refine zk_aload_n C kd_Jd_judgePlace_36 rfl 1 rfl rfl ?_
    refine zs_get (v := .int (h.1 38 6)) C 38 6 rfl rfl rfl rfl ki_Jd (by decide) kw357 kd_Jd_judgePlace_37 rfl ?_
    refine zk_isub C kd_Jd_judgePlace_40 rfl ?_
    refine zk_iconst (v := 1) C kd_Jd_judgePlace_41 (by decide) rfl ?_
    refine zk_icmp_le (tgt := 49) C kd_Jd_judgePlace_42 (by decide) rfl (fun b6 => ?_) (fun b6 => ?_)
    · replace e := zd_pos b6 e
      refine zk_iconst (v := 0) C kd_Jd_judgePlace_49 (by decide) rfl ?_
      refine zk_lvs (lv' := [(0, .ref (S.1 38)), (1, .int x1), (2, .int v3)]) [1, 2, 0] rfl ?_
      exact zb_Jd_judgePlace_50 C hR h x1 v3 0 e
    · replace e := zd_neg b6 e
      refine zk_lvs (lv' := [(0, .ref (S.1 38)), (1, .int x1), (2, .int v3)]) [1, 2, 0] rfl ?_
      exact zb_Jd_judgePlace_45 C hR h x1 v3 e
