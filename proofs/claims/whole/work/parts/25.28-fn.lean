theorem kw157 : Jvm.Cond.fieldLink "PlantKeeper$Judge" (71 : Nat) "PlantKeeper$Tree" "kind" "[B" ∈ zk_BW := zk_inT 157 (by decide +kernel) rfl
theorem kw160 : Jvm.Cond.fieldLink "PlantKeeper$Judge" (178 : Nat) "PlantKeeper$Tree" "type" "[B" ∈ zk_BW := zk_inT 160 (by decide +kernel) rfl
theorem kw163 : Jvm.Cond.fieldLink "PlantKeeper$Judge" (61 : Nat) "PlantKeeper$Tree" "place" "[C" ∈ zk_BW := zk_inT 163 (by decide +kernel) rfl
theorem kw168 : Jvm.Cond.fieldLink "PlantKeeper$Judge" (78 : Nat) "PlantKeeper$Tree" "value" "[I" ∈ zk_BW := zk_inT 168 (by decide +kernel) rfl
theorem kw170 : Jvm.Cond.fieldLink "PlantKeeper$Judge" (49 : Nat) "PlantKeeper$Tree" "child" "[I" ∈ zk_BW := zk_inT 170 (by decide +kernel) rfl
theorem kw173 : Jvm.Cond.fieldLink "PlantKeeper$Judge" (55 : Nat) "PlantKeeper$Tree" "next" "[I" ∈ zk_BW := zk_inT 173 (by decide +kernel) rfl
theorem kw248 : Jvm.Cond.fieldLink "PlantKeeper$Judge" (139 : Nat) "PlantKeeper$Plan" "variableCells" "[I" ∈ zk_BW := zk_inT 248 (by decide +kernel) rfl
theorem kw262 : Jvm.Cond.fieldLink "PlantKeeper$Judge" (100 : Nat) "PlantKeeper$Plan" "instanceOf" "[I" ∈ zk_BW := zk_inT 262 (by decide +kernel) rfl
theorem kw266 : Jvm.Cond.fieldLink "PlantKeeper$Judge" (132 : Nat) "PlantKeeper$Plan" "type" "[I" ∈ zk_BW := zk_inT 266 (by decide +kernel) rfl
theorem kw287 : Jvm.Cond.fieldLink "PlantKeeper$Judge" (116 : Nat) "PlantKeeper$Plan" "blockNamed" "[I" ∈ zk_BW := zk_inT 287 (by decide +kernel) rfl
theorem kw293 : Jvm.Cond.fieldLink "PlantKeeper$Judge" (84 : Nat) "PlantKeeper$Plan" "variables" "I" ∈ zk_BW := zk_inT 293 (by decide +kernel) rfl
theorem kw296 : Jvm.Cond.fieldLink "PlantKeeper$Judge" (109 : Nat) "PlantKeeper$Plan" "program" "I" ∈ zk_BW := zk_inT 296 (by decide +kernel) rfl
theorem kw298 : Jvm.Cond.fieldLink "PlantKeeper$Plan" (81 : Nat) "PlantKeeper$Plan" "allCells" "I" ∈ zk_BW := zk_inT 298 (by decide +kernel) rfl
theorem kw350 : Jvm.Cond.fieldLink "PlantKeeper$Judge" (65 : Nat) "PlantKeeper$Judge" "faultPlace" "I" ∈ zk_BW := zk_inT 350 (by decide +kernel) rfl
theorem kw354 : Jvm.Cond.fieldLink "PlantKeeper$Judge" (29 : Nat) "PlantKeeper$Judge" "fault" "I" ∈ zk_BW := zk_inT 354 (by decide +kernel) rfl
theorem kw355 : Jvm.Cond.fieldLink "PlantKeeper$Judge" (129 : Nat) "PlantKeeper$Judge" "block" "I" ∈ zk_BW := zk_inT 355 (by decide +kernel) rfl
theorem kw356 : Jvm.Cond.fieldLink "PlantKeeper$Judge" (81 : Nat) "PlantKeeper$Judge" "section" "I" ∈ zk_BW := zk_inT 356 (by decide +kernel) rfl
theorem kw357 : Jvm.Cond.fieldLink "PlantKeeper$Judge" (87 : Nat) "PlantKeeper$Judge" "firstDeclared" "I" ∈ zk_BW := zk_inT 357 (by decide +kernel) rfl
theorem kw358 : Jvm.Cond.fieldLink "PlantKeeper$Judge" (97 : Nat) "PlantKeeper$Judge" "invoked" "I" ∈ zk_BW := zk_inT 358 (by decide +kernel) rfl
theorem kw359 : Jvm.Cond.fieldLink "PlantKeeper$Judge" (90 : Nat) "PlantKeeper$Judge" "firstParameter" "I" ∈ zk_BW := zk_inT 359 (by decide +kernel) rfl
theorem kw360 : Jvm.Cond.fieldLink "PlantKeeper$Judge" (106 : Nat) "PlantKeeper$Judge" "row" "I" ∈ zk_BW := zk_inT 360 (by decide +kernel) rfl
theorem kw361 : Jvm.Cond.fieldLink "PlantKeeper$Judge" (103 : Nat) "PlantKeeper$Judge" "ownCells" "I" ∈ zk_BW := zk_inT 361 (by decide +kernel) rfl
theorem kw363 : Jvm.Cond.fieldLink "PlantKeeper$Judge" (33 : Nat) "PlantKeeper$Judge" "loops" "I" ∈ zk_BW := zk_inT 363 (by decide +kernel) rfl
theorem kw1003 : Jvm.Cond.instanceMethod ({ cls := "PlantKeeper$Plan", name := "forget", desc := "()V" } : Jvm.MethodName) ∈ zk_BW := zk_inT 1003 (by decide +kernel) rfl
theorem kw1004 : Jvm.Cond.selects "PlantKeeper$Plan" ({ cls := "PlantKeeper$Plan", name := "forget", desc := "()V" } : Jvm.MethodName) ({ cls := "PlantKeeper$Plan", name := "forget", desc := "()V" } : Jvm.MethodName) ∈ zk_BW := zk_inT 1004 (by decide +kernel) rfl
theorem kw1005 : Jvm.Cond.code ({ cls := "PlantKeeper$Plan", name := "forget", desc := "()V" } : Jvm.MethodName) prog_9_method_2_code (3 : Nat) (Option.none : Option FieldType) ∈ zk_BW := zk_inT 1005 (by decide +kernel) rfl
theorem kw1006 : Jvm.Cond.methodLink "PlantKeeper$Plan" (65 : Nat) ({ cls := "java/util/Arrays", name := "fill", desc := "([II)V" } : Jvm.MethodName) ∈ zk_BW := zk_inT 1006 (by decide +kernel) rfl
theorem kw1007 : Jvm.Cond.methodLink "PlantKeeper$Plan" (84 : Nat) ({ cls := "PlantKeeper$Plan", name := "open", desc := "(III)I" } : Jvm.MethodName) ∈ zk_BW := zk_inT 1007 (by decide +kernel) rfl
theorem kw1014 : Jvm.Cond.methodLink "PlantKeeper$Plan" (91 : Nat) ({ cls := "PlantKeeper$Plan", name := "addStandard", desc := "(I)V" } : Jvm.MethodName) ∈ zk_BW := zk_inT 1014 (by decide +kernel) rfl
theorem kw1022 : Jvm.Cond.fieldLink "PlantKeeper$Plan" (95 : Nat) "PlantKeeper$Plan" "STANDARD_CELLS" "[I" ∈ zk_BW := zk_inT 1022 (by decide +kernel) rfl
theorem kw1030 : Jvm.Cond.instanceMethod ({ cls := "PlantKeeper$Judge", name := "enter", desc := "(I)V" } : Jvm.MethodName) ∈ zk_BW := zk_inT 1030 (by decide +kernel) rfl
theorem kw1031 : Jvm.Cond.code ({ cls := "PlantKeeper$Judge", name := "enter", desc := "(I)V" } : Jvm.MethodName) prog_4_method_6_code (2 : Nat) (Option.none : Option FieldType) ∈ zk_BW := zk_inT 1031 (by decide +kernel) rfl
theorem kw1032 : Jvm.Cond.methodLink "PlantKeeper$Judge" (75 : Nat) ({ cls := "PlantKeeper$Judge", name := "enterBlock", desc := "(I)V" } : Jvm.MethodName) ∈ zk_BW := zk_inT 1032 (by decide +kernel) rfl
theorem kw1034 : Jvm.Cond.instanceMethod ({ cls := "PlantKeeper$Judge", name := "enterBlock", desc := "(I)V" } : Jvm.MethodName) ∈ zk_BW := zk_inT 1034 (by decide +kernel) rfl
theorem kw1035 : Jvm.Cond.code ({ cls := "PlantKeeper$Judge", name := "enterBlock", desc := "(I)V" } : Jvm.MethodName) prog_4_method_7_code (3 : Nat) (Option.none : Option FieldType) ∈ zk_BW := zk_inT 1035 (by decide +kernel) rfl
theorem kw1036 : Jvm.Cond.methodLink "PlantKeeper$Judge" (112 : Nat) ({ cls := "PlantKeeper$Judge", name := "refuseIf", desc := "(ZII)V" } : Jvm.MethodName) ∈ zk_BW := zk_inT 1036 (by decide +kernel) rfl
theorem kw1038 : Jvm.Cond.instanceMethod ({ cls := "PlantKeeper$Judge", name := "refuseIf", desc := "(ZII)V" } : Jvm.MethodName) ∈ zk_BW := zk_inT 1038 (by decide +kernel) rfl
theorem kw1039 : Jvm.Cond.code ({ cls := "PlantKeeper$Judge", name := "refuseIf", desc := "(ZII)V" } : Jvm.MethodName) prog_4_method_5_code (4 : Nat) (Option.none : Option FieldType) ∈ zk_BW := zk_inT 1039 (by decide +kernel) rfl
theorem kw1040 : Jvm.Cond.methodLink "PlantKeeper$Judge" (68 : Nat) ({ cls := "PlantKeeper$Judge", name := "refuse", desc := "(II)V" } : Jvm.MethodName) ∈ zk_BW := zk_inT 1040 (by decide +kernel) rfl
theorem kw1042 : Jvm.Cond.instanceMethod ({ cls := "PlantKeeper$Judge", name := "refuse", desc := "(II)V" } : Jvm.MethodName) ∈ zk_BW := zk_inT 1042 (by decide +kernel) rfl
theorem kw1043 : Jvm.Cond.code ({ cls := "PlantKeeper$Judge", name := "refuse", desc := "(II)V" } : Jvm.MethodName) prog_4_method_4_code (3 : Nat) (Option.none : Option FieldType) ∈ zk_BW := zk_inT 1043 (by decide +kernel) rfl
theorem kw1044 : Jvm.Cond.methodLink "PlantKeeper$Judge" (119 : Nat) ({ cls := "PlantKeeper$Names", name := "isStandardFunction", desc := "(I)Z" } : Jvm.MethodName) ∈ zk_BW := zk_inT 1044 (by decide +kernel) rfl
theorem kw1045 : Jvm.Cond.static ({ cls := "PlantKeeper$Names", name := "isStandardFunction", desc := "(I)Z" } : Jvm.MethodName) ∈ zk_BW := zk_inT 1045 (by decide +kernel) rfl
theorem kw1046 : Jvm.Cond.code ({ cls := "PlantKeeper$Names", name := "isStandardFunction", desc := "(I)Z" } : Jvm.MethodName) prog_7_method_4_code (1 : Nat) (Option.some FieldType.boolean) ∈ zk_BW := zk_inT 1046 (by decide +kernel) rfl
theorem kw1047 : Jvm.Cond.methodLink "PlantKeeper$Judge" (125 : Nat) ({ cls := "PlantKeeper$Plan", name := "open", desc := "(III)I" } : Jvm.MethodName) ∈ zk_BW := zk_inT 1047 (by decide +kernel) rfl
theorem kw1048 : Jvm.Cond.methodLink "PlantKeeper$Judge" (135 : Nat) ({ cls := "PlantKeeper$Plan", name := "add", desc := "(II)I" } : Jvm.MethodName) ∈ zk_BW := zk_inT 1048 (by decide +kernel) rfl
theorem kw1049 : Jvm.Cond.methodLink "PlantKeeper$Judge" (93 : Nat) ({ cls := "PlantKeeper$Plan", name := "variableHere", desc := "(I)I" } : Jvm.MethodName) ∈ zk_BW := zk_inT 1049 (by decide +kernel) rfl
theorem kw1050 : Jvm.Cond.instanceMethod ({ cls := "PlantKeeper$Plan", name := "variableHere", desc := "(I)I" } : Jvm.MethodName) ∈ zk_BW := zk_inT 1050 (by decide +kernel) rfl
theorem kw1051 : Jvm.Cond.selects "PlantKeeper$Plan" ({ cls := "PlantKeeper$Plan", name := "variableHere", desc := "(I)I" } : Jvm.MethodName) ({ cls := "PlantKeeper$Plan", name := "variableHere", desc := "(I)I" } : Jvm.MethodName) ∈ zk_BW := zk_inT 1051 (by decide +kernel) rfl
theorem kw1052 : Jvm.Cond.code ({ cls := "PlantKeeper$Plan", name := "variableHere", desc := "(I)I" } : Jvm.MethodName) prog_9_method_6_code (3 : Nat) (Option.some FieldType.int) ∈ zk_BW := zk_inT 1052 (by decide +kernel) rfl
theorem kw1104 : Jvm.Cond.instanceMethod ({ cls := "PlantKeeper$Judge", name := "declareName", desc := "(I)V" } : Jvm.MethodName) ∈ zk_BW := zk_inT 1104 (by decide +kernel) rfl
theorem kw1105 : Jvm.Cond.code ({ cls := "PlantKeeper$Judge", name := "declareName", desc := "(I)V" } : Jvm.MethodName) prog_4_method_12_code (4 : Nat) (Option.none : Option FieldType) ∈ zk_BW := zk_inT 1105 (by decide +kernel) rfl
theorem kw1158 : Jvm.Cond.methodLink "PlantKeeper$Judge" (282 : Nat) ({ cls := "PlantKeeper$Tree", name := "isConstant", desc := "(I)Z" } : Jvm.MethodName) ∈ zk_BW := zk_inT 1158 (by decide +kernel) rfl
theorem kw1159 : Jvm.Cond.instanceMethod ({ cls := "PlantKeeper$Tree", name := "isConstant", desc := "(I)Z" } : Jvm.MethodName) ∈ zk_BW := zk_inT 1159 (by decide +kernel) rfl
theorem kw1160 : Jvm.Cond.selects "PlantKeeper$Tree" ({ cls := "PlantKeeper$Tree", name := "isConstant", desc := "(I)Z" } : Jvm.MethodName) ({ cls := "PlantKeeper$Tree", name := "isConstant", desc := "(I)Z" } : Jvm.MethodName) ∈ zk_BW := zk_inT 1160 (by decide +kernel) rfl
theorem kw1161 : Jvm.Cond.code ({ cls := "PlantKeeper$Tree", name := "isConstant", desc := "(I)Z" } : Jvm.MethodName) prog_12_method_6_code (2 : Nat) (Option.some FieldType.boolean) ∈ zk_BW := zk_inT 1161 (by decide +kernel) rfl
theorem kw1206 : Jvm.Cond.static ({ cls := "PlantKeeper$Judge", name := "standardType", desc := "(IIII)I" } : Jvm.MethodName) ∈ zk_BW := zk_inT 1206 (by decide +kernel) rfl
theorem kw1207 : Jvm.Cond.code ({ cls := "PlantKeeper$Judge", name := "standardType", desc := "(IIII)I" } : Jvm.MethodName) prog_4_method_25_code (5 : Nat) (Option.some FieldType.int) ∈ zk_BW := zk_inT 1207 (by decide +kernel) rfl
theorem kw1208 : Jvm.Cond.methodLink "PlantKeeper$Judge" (292 : Nat) ({ cls := "PlantKeeper$Judge", name := "alike", desc := "(II)I" } : Jvm.MethodName) ∈ zk_BW := zk_inT 1208 (by decide +kernel) rfl
theorem kw1209 : Jvm.Cond.static ({ cls := "PlantKeeper$Judge", name := "alike", desc := "(II)I" } : Jvm.MethodName) ∈ zk_BW := zk_inT 1209 (by decide +kernel) rfl
theorem kw1210 : Jvm.Cond.code ({ cls := "PlantKeeper$Judge", name := "alike", desc := "(II)I" } : Jvm.MethodName) prog_4_method_27_code (2 : Nat) (Option.some FieldType.int) ∈ zk_BW := zk_inT 1210 (by decide +kernel) rfl
theorem kw1211 : Jvm.Cond.methodLink "PlantKeeper$Judge" (298 : Nat) ({ cls := "java/lang/Math", name := "max", desc := "(II)I" } : Jvm.MethodName) ∈ zk_BW := zk_inT 1211 (by decide +kernel) rfl
theorem kw1212 : Jvm.Cond.methodLink "PlantKeeper$Judge" (295 : Nat) ({ cls := "PlantKeeper$Judge", name := "wider", desc := "(II)I" } : Jvm.MethodName) ∈ zk_BW := zk_inT 1212 (by decide +kernel) rfl
theorem kw1213 : Jvm.Cond.static ({ cls := "PlantKeeper$Judge", name := "wider", desc := "(II)I" } : Jvm.MethodName) ∈ zk_BW := zk_inT 1213 (by decide +kernel) rfl
theorem kw1214 : Jvm.Cond.code ({ cls := "PlantKeeper$Judge", name := "wider", desc := "(II)I" } : Jvm.MethodName) prog_4_method_26_code (2 : Nat) (Option.some FieldType.int) ∈ zk_BW := zk_inT 1214 (by decide +kernel) rfl
theorem kw1216 : Jvm.Cond.static ({ cls := "PlantKeeper$Code", name := "standard", desc := "(IIIII)I" } : Jvm.MethodName) ∈ zk_BW := zk_inT 1216 (by decide +kernel) rfl
theorem kw1217 : Jvm.Cond.code ({ cls := "PlantKeeper$Code", name := "standard", desc := "(IIIII)I" } : Jvm.MethodName) prog_2_method_10_code (6 : Nat) (Option.some FieldType.int) ∈ zk_BW := zk_inT 1217 (by decide +kernel) rfl
theorem kw1220 : Jvm.Cond.methodLink "PlantKeeper$Code" (44 : Nat) ({ cls := "PlantKeeper$Code", name := "standardKind", desc := "(II)I" } : Jvm.MethodName) ∈ zk_BW := zk_inT 1220 (by decide +kernel) rfl
theorem kw1221 : Jvm.Cond.static ({ cls := "PlantKeeper$Code", name := "standardKind", desc := "(II)I" } : Jvm.MethodName) ∈ zk_BW := zk_inT 1221 (by decide +kernel) rfl
theorem kw1222 : Jvm.Cond.code ({ cls := "PlantKeeper$Code", name := "standardKind", desc := "(II)I" } : Jvm.MethodName) prog_2_method_9_code (2 : Nat) (Option.some FieldType.int) ∈ zk_BW := zk_inT 1222 (by decide +kernel) rfl
theorem kw1223 : Jvm.Cond.fieldLink "PlantKeeper$Code" (47 : Nat) "PlantKeeper$Code" "ARGUMENTS" "[I" ∈ zk_BW := zk_inT 1223 (by decide +kernel) rfl
theorem kw1224 : Jvm.Cond.methodLink "PlantKeeper$Code" (50 : Nat) ({ cls := "PlantKeeper$Code", name := "one", desc := "(II)I" } : Jvm.MethodName) ∈ zk_BW := zk_inT 1224 (by decide +kernel) rfl
theorem kw1230 : Jvm.Cond.methodLink "PlantKeeper$Code" (53 : Nat) ({ cls := "PlantKeeper$Code", name := "two", desc := "(III)I" } : Jvm.MethodName) ∈ zk_BW := zk_inT 1230 (by decide +kernel) rfl
theorem kw1234 : Jvm.Cond.methodLink "PlantKeeper$Judge" (289 : Nat) ({ cls := "PlantKeeper$Judge", name := "fold", desc := "(II)V" } : Jvm.MethodName) ∈ zk_BW := zk_inT 1234 (by decide +kernel) rfl
theorem kw1236 : Jvm.Cond.instanceMethod ({ cls := "PlantKeeper$Judge", name := "fold", desc := "(II)V" } : Jvm.MethodName) ∈ zk_BW := zk_inT 1236 (by decide +kernel) rfl
theorem kw1237 : Jvm.Cond.code ({ cls := "PlantKeeper$Judge", name := "fold", desc := "(II)V" } : Jvm.MethodName) prog_4_method_29_code (3 : Nat) (Option.none : Option FieldType) ∈ zk_BW := zk_inT 1237 (by decide +kernel) rfl
theorem kw1245 : Jvm.Cond.instanceMethod ({ cls := "PlantKeeper$Judge", name := "judgeTwo", desc := "(I)V" } : Jvm.MethodName) ∈ zk_BW := zk_inT 1245 (by decide +kernel) rfl
theorem kw1246 : Jvm.Cond.code ({ cls := "PlantKeeper$Judge", name := "judgeTwo", desc := "(I)V" } : Jvm.MethodName) prog_4_method_30_code (10 : Nat) (Option.none : Option FieldType) ∈ zk_BW := zk_inT 1246 (by decide +kernel) rfl
theorem kw1247 : Jvm.Cond.methodLink "PlantKeeper$Judge" (303 : Nat) ({ cls := "PlantKeeper$Code", name := "operation", desc := "(II)I" } : Jvm.MethodName) ∈ zk_BW := zk_inT 1247 (by decide +kernel) rfl
theorem kw1248 : Jvm.Cond.static ({ cls := "PlantKeeper$Code", name := "operation", desc := "(II)I" } : Jvm.MethodName) ∈ zk_BW := zk_inT 1248 (by decide +kernel) rfl
theorem kw1249 : Jvm.Cond.code ({ cls := "PlantKeeper$Code", name := "operation", desc := "(II)I" } : Jvm.MethodName) prog_2_method_7_code (2 : Nat) (Option.some FieldType.int) ∈ zk_BW := zk_inT 1249 (by decide +kernel) rfl
theorem kw1250 : Jvm.Cond.methodLink "PlantKeeper$Judge" (306 : Nat) ({ cls := "PlantKeeper$Code", name := "isByZero", desc := "(II)Z" } : Jvm.MethodName) ∈ zk_BW := zk_inT 1250 (by decide +kernel) rfl
theorem kw1253 : Jvm.Cond.methodLink "PlantKeeper$Judge" (309 : Nat) ({ cls := "PlantKeeper$Code", name := "two", desc := "(III)I" } : Jvm.MethodName) ∈ zk_BW := zk_inT 1253 (by decide +kernel) rfl
theorem kw1256 : Jvm.Cond.instanceMethod ({ cls := "PlantKeeper$Judge", name := "judgeOne", desc := "(I)V" } : Jvm.MethodName) ∈ zk_BW := zk_inT 1256 (by decide +kernel) rfl
theorem kw1257 : Jvm.Cond.code ({ cls := "PlantKeeper$Judge", name := "judgeOne", desc := "(I)V" } : Jvm.MethodName) prog_4_method_31_code (5 : Nat) (Option.none : Option FieldType) ∈ zk_BW := zk_inT 1257 (by decide +kernel) rfl
theorem kw1258 : Jvm.Cond.methodLink "PlantKeeper$Judge" (312 : Nat) ({ cls := "PlantKeeper$Code", name := "turning", desc := "(ZI)I" } : Jvm.MethodName) ∈ zk_BW := zk_inT 1258 (by decide +kernel) rfl
theorem kw1259 : Jvm.Cond.static ({ cls := "PlantKeeper$Code", name := "turning", desc := "(ZI)I" } : Jvm.MethodName) ∈ zk_BW := zk_inT 1259 (by decide +kernel) rfl
theorem kw1260 : Jvm.Cond.code ({ cls := "PlantKeeper$Code", name := "turning", desc := "(ZI)I" } : Jvm.MethodName) prog_2_method_8_code (2 : Nat) (Option.some FieldType.int) ∈ zk_BW := zk_inT 1260 (by decide +kernel) rfl
theorem kw1261 : Jvm.Cond.methodLink "PlantKeeper$Judge" (316 : Nat) ({ cls := "PlantKeeper$Code", name := "one", desc := "(II)I" } : Jvm.MethodName) ∈ zk_BW := zk_inT 1261 (by decide +kernel) rfl
abbrev kc_Cd_operation : ByteArray := prog_2_method_7_code
def km_Cd_operation : zk_MT := (⟨"PlantKeeper$Code", "operation", "(II)I"⟩, kc_Cd_operation, 2, some .int, 2)
theorem ku_Cd_operation : zk_My km_Cd_operation := ⟨kw1249, kw12, by decide, by decide, by decide, by decide +kernel⟩
theorem ks_Cd_operation : Cond.static km_Cd_operation.1 ∈ zk_BW := kw1248
abbrev kc_Cd_standard : ByteArray := prog_2_method_10_code
def km_Cd_standard : zk_MT := (⟨"PlantKeeper$Code", "standard", "(IIIII)I"⟩, kc_Cd_standard, 6, some .int, 5)
theorem ku_Cd_standard : zk_My km_Cd_standard := ⟨kw1217, kw12, by decide, by decide, by decide, by decide +kernel⟩
theorem ks_Cd_standard : Cond.static km_Cd_standard.1 ∈ zk_BW := kw1216
abbrev kc_Cd_standardKind : ByteArray := prog_2_method_9_code
def km_Cd_standardKind : zk_MT := (⟨"PlantKeeper$Code", "standardKind", "(II)I"⟩, kc_Cd_standardKind, 2, some .int, 2)
theorem ku_Cd_standardKind : zk_My km_Cd_standardKind := ⟨kw1222, kw12, by decide, by decide, by decide, by decide +kernel⟩
theorem ks_Cd_standardKind : Cond.static km_Cd_standardKind.1 ∈ zk_BW := kw1221
abbrev kc_Cd_turning : ByteArray := prog_2_method_8_code
def km_Cd_turning : zk_MT := (⟨"PlantKeeper$Code", "turning", "(ZI)I"⟩, kc_Cd_turning, 2, some .int, 2)
theorem ku_Cd_turning : zk_My km_Cd_turning := ⟨kw1260, kw12, by decide, by decide, by decide, by decide +kernel⟩
theorem ks_Cd_turning : Cond.static km_Cd_turning.1 ∈ zk_BW := kw1259
abbrev kc_Jd_alike : ByteArray := prog_4_method_27_code
def km_Jd_alike : zk_MT := (⟨"PlantKeeper$Judge", "alike", "(II)I"⟩, kc_Jd_alike, 2, some .int, 2)
theorem ku_Jd_alike : zk_My km_Jd_alike := ⟨kw1210, kw11, by decide, by decide, by decide, by decide +kernel⟩
theorem ks_Jd_alike : Cond.static km_Jd_alike.1 ∈ zk_BW := kw1209
abbrev kc_Jd_declareName : ByteArray := prog_4_method_12_code
def km_Jd_declareName : zk_MT := (⟨"PlantKeeper$Judge", "declareName", "(I)V"⟩, kc_Jd_declareName, 4, none, 1)
theorem ku_Jd_declareName : zk_My km_Jd_declareName := ⟨kw1105, kw11, by decide, by decide, by decide, by decide +kernel⟩
theorem kv_Jd_declareName : zk_Mv km_Jd_declareName := ⟨kw1104, zk_inS 61 (q := (⟨"PlantKeeper$Judge", "declareName", "(I)V"⟩, 14)) (by decide +kernel)⟩
abbrev kc_Jd_enter : ByteArray := prog_4_method_6_code
def km_Jd_enter : zk_MT := (⟨"PlantKeeper$Judge", "enter", "(I)V"⟩, kc_Jd_enter, 2, none, 1)
theorem ku_Jd_enter : zk_My km_Jd_enter := ⟨kw1031, kw11, by decide, by decide, by decide, by decide +kernel⟩
theorem kv_Jd_enter : zk_Mv km_Jd_enter := ⟨kw1030, zk_inS 49 (q := (⟨"PlantKeeper$Judge", "enter", "(I)V"⟩, 14)) (by decide +kernel)⟩
abbrev kc_Jd_enterBlock : ByteArray := prog_4_method_7_code
def km_Jd_enterBlock : zk_MT := (⟨"PlantKeeper$Judge", "enterBlock", "(I)V"⟩, kc_Jd_enterBlock, 3, none, 1)
theorem ku_Jd_enterBlock : zk_My km_Jd_enterBlock := ⟨kw1035, kw11, by decide, by decide, by decide, by decide +kernel⟩
theorem kv_Jd_enterBlock : zk_Mv km_Jd_enterBlock := ⟨kw1034, zk_inS 50 (q := (⟨"PlantKeeper$Judge", "enterBlock", "(I)V"⟩, 14)) (by decide +kernel)⟩
abbrev kc_Jd_fold : ByteArray := prog_4_method_29_code
def km_Jd_fold : zk_MT := (⟨"PlantKeeper$Judge", "fold", "(II)V"⟩, kc_Jd_fold, 3, none, 2)
theorem ku_Jd_fold : zk_My km_Jd_fold := ⟨kw1237, kw11, by decide, by decide, by decide, by decide +kernel⟩
theorem kv_Jd_fold : zk_Mv km_Jd_fold := ⟨kw1236, zk_inS 80 (q := (⟨"PlantKeeper$Judge", "fold", "(II)V"⟩, 14)) (by decide +kernel)⟩
abbrev kc_Jd_judgeOne : ByteArray := prog_4_method_31_code
def km_Jd_judgeOne : zk_MT := (⟨"PlantKeeper$Judge", "judgeOne", "(I)V"⟩, kc_Jd_judgeOne, 5, none, 1)
theorem ku_Jd_judgeOne : zk_My km_Jd_judgeOne := ⟨kw1257, kw11, by decide, by decide, by decide, by decide +kernel⟩
theorem kv_Jd_judgeOne : zk_Mv km_Jd_judgeOne := ⟨kw1256, zk_inS 82 (q := (⟨"PlantKeeper$Judge", "judgeOne", "(I)V"⟩, 14)) (by decide +kernel)⟩
abbrev kc_Jd_judgeTwo : ByteArray := prog_4_method_30_code
def km_Jd_judgeTwo : zk_MT := (⟨"PlantKeeper$Judge", "judgeTwo", "(I)V"⟩, kc_Jd_judgeTwo, 10, none, 1)
theorem ku_Jd_judgeTwo : zk_My km_Jd_judgeTwo := ⟨kw1246, kw11, by decide, by decide, by decide, by decide +kernel⟩
theorem kv_Jd_judgeTwo : zk_Mv km_Jd_judgeTwo := ⟨kw1245, zk_inS 81 (q := (⟨"PlantKeeper$Judge", "judgeTwo", "(I)V"⟩, 14)) (by decide +kernel)⟩
abbrev kc_Jd_refuse : ByteArray := prog_4_method_4_code
def km_Jd_refuse : zk_MT := (⟨"PlantKeeper$Judge", "refuse", "(II)V"⟩, kc_Jd_refuse, 3, none, 2)
theorem ku_Jd_refuse : zk_My km_Jd_refuse := ⟨kw1043, kw11, by decide, by decide, by decide, by decide +kernel⟩
theorem kv_Jd_refuse : zk_Mv km_Jd_refuse := ⟨kw1042, zk_inS 52 (q := (⟨"PlantKeeper$Judge", "refuse", "(II)V"⟩, 14)) (by decide +kernel)⟩
abbrev kc_Jd_refuseIf : ByteArray := prog_4_method_5_code
def km_Jd_refuseIf : zk_MT := (⟨"PlantKeeper$Judge", "refuseIf", "(ZII)V"⟩, kc_Jd_refuseIf, 4, none, 3)
theorem ku_Jd_refuseIf : zk_My km_Jd_refuseIf := ⟨kw1039, kw11, by decide, by decide, by decide, by decide +kernel⟩
theorem kv_Jd_refuseIf : zk_Mv km_Jd_refuseIf := ⟨kw1038, zk_inS 51 (q := (⟨"PlantKeeper$Judge", "refuseIf", "(ZII)V"⟩, 14)) (by decide +kernel)⟩
abbrev kc_Jd_standardType : ByteArray := prog_4_method_25_code
def km_Jd_standardType : zk_MT := (⟨"PlantKeeper$Judge", "standardType", "(IIII)I"⟩, kc_Jd_standardType, 5, some .int, 4)
theorem ku_Jd_standardType : zk_My km_Jd_standardType := ⟨kw1207, kw11, by decide, by decide, by decide, by decide +kernel⟩
theorem ks_Jd_standardType : Cond.static km_Jd_standardType.1 ∈ zk_BW := kw1206
abbrev kc_Jd_wider : ByteArray := prog_4_method_26_code
def km_Jd_wider : zk_MT := (⟨"PlantKeeper$Judge", "wider", "(II)I"⟩, kc_Jd_wider, 2, some .int, 2)
theorem ku_Jd_wider : zk_My km_Jd_wider := ⟨kw1214, kw11, by decide, by decide, by decide, by decide +kernel⟩
theorem ks_Jd_wider : Cond.static km_Jd_wider.1 ∈ zk_BW := kw1213
abbrev kc_Nm_isStandardFunction : ByteArray := prog_7_method_4_code
def km_Nm_isStandardFunction : zk_MT := (⟨"PlantKeeper$Names", "isStandardFunction", "(I)Z"⟩, kc_Nm_isStandardFunction, 1, some .boolean, 1)
theorem ku_Nm_isStandardFunction : zk_My km_Nm_isStandardFunction := ⟨kw1046, kw2, by decide, by decide, by decide, by decide +kernel⟩
theorem ks_Nm_isStandardFunction : Cond.static km_Nm_isStandardFunction.1 ∈ zk_BW := kw1045
abbrev kc_Pl_forget : ByteArray := prog_9_method_2_code
def km_Pl_forget : zk_MT := (⟨"PlantKeeper$Plan", "forget", "()V"⟩, kc_Pl_forget, 3, none, 0)
theorem ku_Pl_forget : zk_My km_Pl_forget := ⟨kw1005, kw10, by decide, by decide, by decide, by decide +kernel⟩
theorem kv_Pl_forget : zk_Mv km_Pl_forget := ⟨kw1003, kw1004⟩
abbrev kc_Pl_variableHere : ByteArray := prog_9_method_6_code
def km_Pl_variableHere : zk_MT := (⟨"PlantKeeper$Plan", "variableHere", "(I)I"⟩, kc_Pl_variableHere, 3, some .int, 1)
theorem ku_Pl_variableHere : zk_My km_Pl_variableHere := ⟨kw1052, kw10, by decide, by decide, by decide, by decide +kernel⟩
theorem kv_Pl_variableHere : zk_Mv km_Pl_variableHere := ⟨kw1050, kw1051⟩
abbrev kc_Tr_isConstant : ByteArray := prog_12_method_6_code
def km_Tr_isConstant : zk_MT := (⟨"PlantKeeper$Tree", "isConstant", "(I)Z"⟩, kc_Tr_isConstant, 2, some .boolean, 1)
theorem ku_Tr_isConstant : zk_My km_Tr_isConstant := ⟨kw1161, kw8, by decide, by decide, by decide, by decide +kernel⟩
theorem kv_Tr_isConstant : zk_Mv km_Tr_isConstant := ⟨kw1159, kw1160⟩
theorem kd_Cd_operation_0 : decode kc_Cd_operation 0 = .ok (.iload_n 0, 1) := by decide +kernel
theorem kd_Cd_operation_1 : decode kc_Cd_operation 1 = .ok (.bipush 9, 2) := by decide +kernel
theorem kd_Cd_operation_3 : decode kc_Cd_operation 3 = .ok (.if_icmp .lt 19, 3) := by decide +kernel
theorem kd_Cd_operation_6 : decode kc_Cd_operation 6 = .ok (.iload_n 0, 1) := by decide +kernel
theorem kd_Cd_operation_7 : decode kc_Cd_operation 7 = .ok (.bipush 9, 2) := by decide +kernel
theorem kd_Cd_operation_9 : decode kc_Cd_operation 9 = .ok (.isub, 1) := by decide +kernel
theorem kd_Cd_operation_10 : decode kc_Cd_operation 10 = .ok (.iload_n 1, 1) := by decide +kernel
theorem kd_Cd_operation_11 : decode kc_Cd_operation 11 = .ok (.iconst 1, 1) := by decide +kernel
theorem kd_Cd_operation_12 : decode kc_Cd_operation 12 = .ok (.if_icmp .ne 7, 3) := by decide +kernel
theorem kd_Cd_operation_15 : decode kc_Cd_operation 15 = .ok (.iconst 0, 1) := by decide +kernel
theorem kd_Cd_operation_16 : decode kc_Cd_operation 16 = .ok (.goto 4, 3) := by decide +kernel
theorem kd_Cd_operation_19 : decode kc_Cd_operation 19 = .ok (.iconst 5, 1) := by decide +kernel
theorem kd_Cd_operation_20 : decode kc_Cd_operation 20 = .ok (.iadd, 1) := by decide +kernel
theorem kd_Cd_operation_21 : decode kc_Cd_operation 21 = .ok (.ireturn, 1) := by decide +kernel
theorem kd_Cd_operation_22 : decode kc_Cd_operation 22 = .ok (.iload_n 0, 1) := by decide +kernel
theorem kd_Cd_operation_23 : decode kc_Cd_operation 23 = .ok (.iconst 3, 1) := by decide +kernel
theorem kd_Cd_operation_24 : decode kc_Cd_operation 24 = .ok (.if_icmp .lt 10, 3) := by decide +kernel
theorem kd_Cd_operation_27 : decode kc_Cd_operation 27 = .ok (.iload_n 0, 1) := by decide +kernel
theorem kd_Cd_operation_28 : decode kc_Cd_operation 28 = .ok (.iconst 3, 1) := by decide +kernel
theorem kd_Cd_operation_29 : decode kc_Cd_operation 29 = .ok (.isub, 1) := by decide +kernel
theorem kd_Cd_operation_30 : decode kc_Cd_operation 30 = .ok (.bipush 13, 2) := by decide +kernel
theorem kd_Cd_operation_32 : decode kc_Cd_operation 32 = .ok (.iadd, 1) := by decide +kernel
theorem kd_Cd_operation_33 : decode kc_Cd_operation 33 = .ok (.ireturn, 1) := by decide +kernel
theorem kd_Cd_operation_34 : decode kc_Cd_operation 34 = .ok (.iload_n 0, 1) := by decide +kernel
theorem kd_Cd_operation_35 : decode kc_Cd_operation 35 = .ok (.ifCond .ne 8, 3) := by decide +kernel
theorem kd_Cd_operation_38 : decode kc_Cd_operation 38 = .ok (.bipush 11, 2) := by decide +kernel
theorem kd_Cd_operation_40 : decode kc_Cd_operation 40 = .ok (.goto 15, 3) := by decide +kernel
theorem kd_Cd_operation_43 : decode kc_Cd_operation 43 = .ok (.iload_n 0, 1) := by decide +kernel
theorem kd_Cd_operation_44 : decode kc_Cd_operation 44 = .ok (.iconst 1, 1) := by decide +kernel
theorem kd_Cd_operation_45 : decode kc_Cd_operation 45 = .ok (.if_icmp .ne 8, 3) := by decide +kernel
theorem kd_Cd_operation_48 : decode kc_Cd_operation 48 = .ok (.bipush 12, 2) := by decide +kernel
theorem kd_Cd_operation_50 : decode kc_Cd_operation 50 = .ok (.goto 5, 3) := by decide +kernel
theorem kd_Cd_operation_53 : decode kc_Cd_operation 53 = .ok (.bipush 10, 2) := by decide +kernel
theorem kd_Cd_operation_55 : decode kc_Cd_operation 55 = .ok (.ireturn, 1) := by decide +kernel
theorem kd_Cd_standard_0 : decode kc_Cd_standard 0 = .ok (.iload_n 0, 1) := by decide +kernel
theorem kd_Cd_standard_1 : decode kc_Cd_standard 1 = .ok (.bipush 8, 2) := by decide +kernel
theorem kd_Cd_standard_3 : decode kc_Cd_standard 3 = .ok (.if_icmp .ne 5, 3) := by decide +kernel
theorem kd_Cd_standard_6 : decode kc_Cd_standard 6 = .ok (.iload_n 2, 1) := by decide +kernel
theorem kd_Cd_standard_7 : decode kc_Cd_standard 7 = .ok (.ireturn, 1) := by decide +kernel
theorem kd_Cd_standard_8 : decode kc_Cd_standard 8 = .ok (.iload_n 0, 1) := by decide +kernel
theorem kd_Cd_standard_9 : decode kc_Cd_standard 9 = .ok (.iconst 4, 1) := by decide +kernel
theorem kd_Cd_standard_10 : decode kc_Cd_standard 10 = .ok (.if_icmp .ne 14, 3) := by decide +kernel
theorem kd_Cd_standard_13 : decode kc_Cd_standard 13 = .ok (.iload_n 2, 1) := by decide +kernel
theorem kd_Cd_standard_14 : decode kc_Cd_standard 14 = .ok (.ifCond .eq 8, 3) := by decide +kernel
theorem kd_Cd_standard_17 : decode kc_Cd_standard 17 = .ok (.iload 4, 2) := by decide +kernel
theorem kd_Cd_standard_19 : decode kc_Cd_standard 19 = .ok (.goto 4, 3) := by decide +kernel
theorem kd_Cd_standard_22 : decode kc_Cd_standard 22 = .ok (.iload_n 3, 1) := by decide +kernel
theorem kd_Cd_standard_23 : decode kc_Cd_standard 23 = .ok (.ireturn, 1) := by decide +kernel
theorem kd_Cd_standard_24 : decode kc_Cd_standard 24 = .ok (.iload_n 0, 1) := by decide +kernel
theorem kd_Cd_standard_25 : decode kc_Cd_standard 25 = .ok (.iconst 3, 1) := by decide +kernel
theorem kd_Cd_standard_26 : decode kc_Cd_standard 26 = .ok (.if_icmp .ne 14, 3) := by decide +kernel
theorem kd_Cd_standard_29 : decode kc_Cd_standard 29 = .ok (.iload_n 2, 1) := by decide +kernel
theorem kd_Cd_standard_30 : decode kc_Cd_standard 30 = .ok (.iload_n 3, 1) := by decide +kernel
theorem kd_Cd_standard_31 : decode kc_Cd_standard 31 = .ok (.invokestatic 35, 3) := by decide +kernel
theorem kd_Cd_standard_34 : decode kc_Cd_standard 34 = .ok (.iload 4, 2) := by decide +kernel
theorem kd_Cd_standard_36 : decode kc_Cd_standard 36 = .ok (.invokestatic 41, 3) := by decide +kernel
theorem kd_Cd_standard_39 : decode kc_Cd_standard 39 = .ok (.ireturn, 1) := by decide +kernel
theorem kd_Cd_standard_40 : decode kc_Cd_standard 40 = .ok (.iload_n 0, 1) := by decide +kernel
theorem kd_Cd_standard_41 : decode kc_Cd_standard 41 = .ok (.iload_n 1, 1) := by decide +kernel
theorem kd_Cd_standard_42 : decode kc_Cd_standard 42 = .ok (.invokestatic 44, 3) := by decide +kernel
theorem kd_Cd_standard_45 : decode kc_Cd_standard 45 = .ok (.istore 5, 2) := by decide +kernel
theorem kd_Cd_standard_47 : decode kc_Cd_standard 47 = .ok (.getstatic 47, 3) := by decide +kernel
theorem kd_Cd_standard_50 : decode kc_Cd_standard 50 = .ok (.iload_n 0, 1) := by decide +kernel
theorem kd_Cd_standard_51 : decode kc_Cd_standard 51 = .ok (.iaload, 1) := by decide +kernel
theorem kd_Cd_standard_52 : decode kc_Cd_standard 52 = .ok (.iconst 1, 1) := by decide +kernel
theorem kd_Cd_standard_53 : decode kc_Cd_standard 53 = .ok (.if_icmp .ne 12, 3) := by decide +kernel
theorem kd_Cd_standard_56 : decode kc_Cd_standard 56 = .ok (.iload 5, 2) := by decide +kernel
theorem kd_Cd_standard_58 : decode kc_Cd_standard 58 = .ok (.iload_n 2, 1) := by decide +kernel
theorem kd_Cd_standard_59 : decode kc_Cd_standard 59 = .ok (.invokestatic 50, 3) := by decide +kernel
theorem kd_Cd_standard_62 : decode kc_Cd_standard 62 = .ok (.goto 10, 3) := by decide +kernel
theorem kd_Cd_standard_65 : decode kc_Cd_standard 65 = .ok (.iload 5, 2) := by decide +kernel
theorem kd_Cd_standard_67 : decode kc_Cd_standard 67 = .ok (.iload_n 2, 1) := by decide +kernel
theorem kd_Cd_standard_68 : decode kc_Cd_standard 68 = .ok (.iload_n 3, 1) := by decide +kernel
theorem kd_Cd_standard_69 : decode kc_Cd_standard 69 = .ok (.invokestatic 53, 3) := by decide +kernel
theorem kd_Cd_standard_72 : decode kc_Cd_standard 72 = .ok (.ireturn, 1) := by decide +kernel
theorem kd_Cd_standardKind_0 : decode kc_Cd_standardKind 0 = .ok (.iload_n 0, 1) := by decide +kernel
theorem kd_Cd_standardKind_1 : decode kc_Cd_standardKind 1 = .ok (.tableswitch 93 0 7 #[47, 58, 61, 93, 93, 64, 77, 90], 47) := by decide +kernel
theorem kd_Cd_standardKind_48 : decode kc_Cd_standardKind 48 = .ok (.iload_n 1, 1) := by decide +kernel
theorem kd_Cd_standardKind_49 : decode kc_Cd_standardKind 49 = .ok (.iconst 1, 1) := by decide +kernel
theorem kd_Cd_standardKind_50 : decode kc_Cd_standardKind 50 = .ok (.if_icmp .ne 7, 3) := by decide +kernel
theorem kd_Cd_standardKind_53 : decode kc_Cd_standardKind 53 = .ok (.iconst 4, 1) := by decide +kernel
theorem kd_Cd_standardKind_54 : decode kc_Cd_standardKind 54 = .ok (.goto 4, 3) := by decide +kernel
theorem kd_Cd_standardKind_57 : decode kc_Cd_standardKind 57 = .ok (.iconst 5, 1) := by decide +kernel
theorem kd_Cd_standardKind_58 : decode kc_Cd_standardKind 58 = .ok (.ireturn, 1) := by decide +kernel
theorem kd_Cd_standardKind_59 : decode kc_Cd_standardKind 59 = .ok (.bipush 23, 2) := by decide +kernel
theorem kd_Cd_standardKind_61 : decode kc_Cd_standardKind 61 = .ok (.ireturn, 1) := by decide +kernel
theorem kd_Cd_standardKind_62 : decode kc_Cd_standardKind 62 = .ok (.bipush 24, 2) := by decide +kernel
theorem kd_Cd_standardKind_64 : decode kc_Cd_standardKind 64 = .ok (.ireturn, 1) := by decide +kernel
theorem kd_Cd_standardKind_65 : decode kc_Cd_standardKind 65 = .ok (.iload_n 1, 1) := by decide +kernel
theorem kd_Cd_standardKind_66 : decode kc_Cd_standardKind 66 = .ok (.iconst 1, 1) := by decide +kernel
theorem kd_Cd_standardKind_67 : decode kc_Cd_standardKind 67 = .ok (.if_icmp .ne 8, 3) := by decide +kernel
theorem kd_Cd_standardKind_70 : decode kc_Cd_standardKind 70 = .ok (.bipush 19, 2) := by decide +kernel
theorem kd_Cd_standardKind_72 : decode kc_Cd_standardKind 72 = .ok (.goto 5, 3) := by decide +kernel
theorem kd_Cd_standardKind_75 : decode kc_Cd_standardKind 75 = .ok (.bipush 21, 2) := by decide +kernel
theorem kd_Cd_standardKind_77 : decode kc_Cd_standardKind 77 = .ok (.ireturn, 1) := by decide +kernel
theorem kd_Cd_standardKind_78 : decode kc_Cd_standardKind 78 = .ok (.iload_n 1, 1) := by decide +kernel
theorem kd_Cd_standardKind_79 : decode kc_Cd_standardKind 79 = .ok (.iconst 1, 1) := by decide +kernel
theorem kd_Cd_standardKind_80 : decode kc_Cd_standardKind 80 = .ok (.if_icmp .ne 8, 3) := by decide +kernel
theorem kd_Cd_standardKind_83 : decode kc_Cd_standardKind 83 = .ok (.bipush 20, 2) := by decide +kernel
theorem kd_Cd_standardKind_85 : decode kc_Cd_standardKind 85 = .ok (.goto 5, 3) := by decide +kernel
theorem kd_Cd_standardKind_88 : decode kc_Cd_standardKind 88 = .ok (.bipush 22, 2) := by decide +kernel
theorem kd_Cd_standardKind_90 : decode kc_Cd_standardKind 90 = .ok (.ireturn, 1) := by decide +kernel
theorem kd_Cd_standardKind_91 : decode kc_Cd_standardKind 91 = .ok (.bipush 6, 2) := by decide +kernel
theorem kd_Cd_standardKind_93 : decode kc_Cd_standardKind 93 = .ok (.ireturn, 1) := by decide +kernel
theorem kd_Cd_standardKind_94 : decode kc_Cd_standardKind 94 = .ok (.bipush 7, 2) := by decide +kernel
theorem kd_Cd_standardKind_96 : decode kc_Cd_standardKind 96 = .ok (.ireturn, 1) := by decide +kernel
theorem kd_Cd_turning_0 : decode kc_Cd_turning 0 = .ok (.iload_n 0, 1) := by decide +kernel
theorem kd_Cd_turning_1 : decode kc_Cd_turning 1 = .ok (.ifCond .eq 14, 3) := by decide +kernel
theorem kd_Cd_turning_4 : decode kc_Cd_turning 4 = .ok (.iload_n 1, 1) := by decide +kernel
theorem kd_Cd_turning_5 : decode kc_Cd_turning 5 = .ok (.iconst 1, 1) := by decide +kernel
theorem kd_Cd_turning_6 : decode kc_Cd_turning 6 = .ok (.if_icmp .ne 7, 3) := by decide +kernel
theorem kd_Cd_turning_9 : decode kc_Cd_turning 9 = .ok (.iconst 0, 1) := by decide +kernel
theorem kd_Cd_turning_10 : decode kc_Cd_turning 10 = .ok (.goto 4, 3) := by decide +kernel
theorem kd_Cd_turning_13 : decode kc_Cd_turning 13 = .ok (.iconst 1, 1) := by decide +kernel
theorem kd_Cd_turning_14 : decode kc_Cd_turning 14 = .ok (.ireturn, 1) := by decide +kernel
theorem kd_Cd_turning_15 : decode kc_Cd_turning 15 = .ok (.iload_n 1, 1) := by decide +kernel
theorem kd_Cd_turning_16 : decode kc_Cd_turning 16 = .ok (.ifCond .ne 7, 3) := by decide +kernel
theorem kd_Cd_turning_19 : decode kc_Cd_turning 19 = .ok (.iconst 2, 1) := by decide +kernel
theorem kd_Cd_turning_20 : decode kc_Cd_turning 20 = .ok (.goto 4, 3) := by decide +kernel
theorem kd_Cd_turning_23 : decode kc_Cd_turning 23 = .ok (.iconst 3, 1) := by decide +kernel
theorem kd_Cd_turning_24 : decode kc_Cd_turning 24 = .ok (.ireturn, 1) := by decide +kernel
theorem kd_Jd_alike_0 : decode kc_Jd_alike 0 = .ok (.iload_n 0, 1) := by decide +kernel
theorem kd_Jd_alike_1 : decode kc_Jd_alike 1 = .ok (.ifCond .ne 7, 3) := by decide +kernel
theorem kd_Jd_alike_4 : decode kc_Jd_alike 4 = .ok (.iconst 1, 1) := by decide +kernel
theorem kd_Jd_alike_5 : decode kc_Jd_alike 5 = .ok (.goto 4, 3) := by decide +kernel
theorem kd_Jd_alike_8 : decode kc_Jd_alike 8 = .ok (.iconst 0, 1) := by decide +kernel
theorem kd_Jd_alike_9 : decode kc_Jd_alike 9 = .ok (.iload_n 1, 1) := by decide +kernel
theorem kd_Jd_alike_10 : decode kc_Jd_alike 10 = .ok (.ifCond .ne 7, 3) := by decide +kernel
theorem kd_Jd_alike_13 : decode kc_Jd_alike 13 = .ok (.iconst 1, 1) := by decide +kernel
theorem kd_Jd_alike_14 : decode kc_Jd_alike 14 = .ok (.goto 4, 3) := by decide +kernel
theorem kd_Jd_alike_17 : decode kc_Jd_alike 17 = .ok (.iconst 0, 1) := by decide +kernel
theorem kd_Jd_alike_18 : decode kc_Jd_alike 18 = .ok (.if_icmp .ne 11, 3) := by decide +kernel
theorem kd_Jd_alike_21 : decode kc_Jd_alike 21 = .ok (.iload_n 0, 1) := by decide +kernel
theorem kd_Jd_alike_22 : decode kc_Jd_alike 22 = .ok (.iload_n 1, 1) := by decide +kernel
theorem kd_Jd_alike_23 : decode kc_Jd_alike 23 = .ok (.invokestatic 298, 3) := by decide +kernel
theorem kd_Jd_alike_26 : decode kc_Jd_alike 26 = .ok (.goto 4, 3) := by decide +kernel
theorem kd_Jd_alike_29 : decode kc_Jd_alike 29 = .ok (.iconst (-1), 1) := by decide +kernel
theorem kd_Jd_alike_30 : decode kc_Jd_alike 30 = .ok (.ireturn, 1) := by decide +kernel
theorem kd_Jd_declareName_0 : decode kc_Jd_declareName 0 = .ok (.aload_n 0, 1) := by decide +kernel
theorem kd_Jd_declareName_1 : decode kc_Jd_declareName 1 = .ok (.getfield 9, 3) := by decide +kernel
theorem kd_Jd_declareName_4 : decode kc_Jd_declareName 4 = .ok (.getfield 78, 3) := by decide +kernel
theorem kd_Jd_declareName_7 : decode kc_Jd_declareName 7 = .ok (.iload_n 1, 1) := by decide +kernel
theorem kd_Jd_declareName_8 : decode kc_Jd_declareName 8 = .ok (.iaload, 1) := by decide +kernel
theorem kd_Jd_declareName_9 : decode kc_Jd_declareName 9 = .ok (.istore_n 2, 1) := by decide +kernel
theorem kd_Jd_declareName_10 : decode kc_Jd_declareName 10 = .ok (.aload_n 0, 1) := by decide +kernel
theorem kd_Jd_declareName_11 : decode kc_Jd_declareName 11 = .ok (.getfield 15, 3) := by decide +kernel
theorem kd_Jd_declareName_14 : decode kc_Jd_declareName 14 = .ok (.iload_n 2, 1) := by decide +kernel
theorem kd_Jd_declareName_15 : decode kc_Jd_declareName 15 = .ok (.invokevirtual 93, 3) := by decide +kernel
theorem kd_Jd_declareName_18 : decode kc_Jd_declareName 18 = .ok (.iconst (-1), 1) := by decide +kernel
theorem kd_Jd_declareName_19 : decode kc_Jd_declareName 19 = .ok (.if_icmp .ne 23, 3) := by decide +kernel
theorem kd_Jd_declareName_22 : decode kc_Jd_declareName 22 = .ok (.aload_n 0, 1) := by decide +kernel
theorem kd_Jd_declareName_23 : decode kc_Jd_declareName 23 = .ok (.getfield 15, 3) := by decide +kernel
theorem kd_Jd_declareName_26 : decode kc_Jd_declareName 26 = .ok (.getfield 116, 3) := by decide +kernel
theorem kd_Jd_declareName_29 : decode kc_Jd_declareName 29 = .ok (.iload_n 2, 1) := by decide +kernel
theorem kd_Jd_declareName_30 : decode kc_Jd_declareName 30 = .ok (.iaload, 1) := by decide +kernel
theorem kd_Jd_declareName_31 : decode kc_Jd_declareName 31 = .ok (.iconst (-1), 1) := by decide +kernel
theorem kd_Jd_declareName_32 : decode kc_Jd_declareName 32 = .ok (.if_icmp .ne 10, 3) := by decide +kernel
theorem kd_Jd_declareName_35 : decode kc_Jd_declareName 35 = .ok (.iload_n 2, 1) := by decide +kernel
theorem kd_Jd_declareName_36 : decode kc_Jd_declareName 36 = .ok (.invokestatic 119, 3) := by decide +kernel
theorem kd_Jd_declareName_39 : decode kc_Jd_declareName 39 = .ok (.ifCond .eq 7, 3) := by decide +kernel
theorem kd_Jd_declareName_42 : decode kc_Jd_declareName 42 = .ok (.iconst 1, 1) := by decide +kernel
theorem kd_Jd_declareName_43 : decode kc_Jd_declareName 43 = .ok (.goto 4, 3) := by decide +kernel
theorem kd_Jd_declareName_46 : decode kc_Jd_declareName 46 = .ok (.iconst 0, 1) := by decide +kernel
theorem kd_Jd_declareName_47 : decode kc_Jd_declareName 47 = .ok (.istore_n 3, 1) := by decide +kernel
theorem kd_Jd_declareName_48 : decode kc_Jd_declareName 48 = .ok (.iload_n 3, 1) := by decide +kernel
theorem kd_Jd_declareName_49 : decode kc_Jd_declareName 49 = .ok (.ifCond .eq 13, 3) := by decide +kernel
theorem kd_Jd_declareName_52 : decode kc_Jd_declareName 52 = .ok (.aload_n 0, 1) := by decide +kernel
theorem kd_Jd_declareName_53 : decode kc_Jd_declareName 53 = .ok (.bipush 12, 2) := by decide +kernel
theorem kd_Jd_declareName_55 : decode kc_Jd_declareName 55 = .ok (.iload_n 1, 1) := by decide +kernel
theorem kd_Jd_declareName_56 : decode kc_Jd_declareName 56 = .ok (.invokevirtual 68, 3) := by decide +kernel
theorem kd_Jd_declareName_59 : decode kc_Jd_declareName 59 = .ok (.goto 16, 3) := by decide +kernel
theorem kd_Jd_declareName_62 : decode kc_Jd_declareName 62 = .ok (.aload_n 0, 1) := by decide +kernel
theorem kd_Jd_declareName_63 : decode kc_Jd_declareName 63 = .ok (.getfield 15, 3) := by decide +kernel
theorem kd_Jd_declareName_66 : decode kc_Jd_declareName 66 = .ok (.iload_n 2, 1) := by decide +kernel
theorem kd_Jd_declareName_67 : decode kc_Jd_declareName 67 = .ok (.aload_n 0, 1) := by decide +kernel
theorem kd_Jd_declareName_68 : decode kc_Jd_declareName 68 = .ok (.getfield 81, 3) := by decide +kernel
theorem kd_Jd_declareName_71 : decode kc_Jd_declareName 71 = .ok (.invokevirtual 135, 3) := by decide +kernel
theorem kd_Jd_declareName_74 : decode kc_Jd_declareName 74 = .ok (.pop, 1) := by decide +kernel
theorem kd_Jd_declareName_75 : decode kc_Jd_declareName 75 = .ok (.return_, 1) := by decide +kernel
theorem kd_Jd_enter_0 : decode kc_Jd_enter 0 = .ok (.aload_n 0, 1) := by decide +kernel
theorem kd_Jd_enter_1 : decode kc_Jd_enter 1 = .ok (.getfield 9, 3) := by decide +kernel
theorem kd_Jd_enter_4 : decode kc_Jd_enter 4 = .ok (.getfield 71, 3) := by decide +kernel
theorem kd_Jd_enter_7 : decode kc_Jd_enter 7 = .ok (.iload_n 1, 1) := by decide +kernel
theorem kd_Jd_enter_8 : decode kc_Jd_enter 8 = .ok (.baload, 1) := by decide +kernel
theorem kd_Jd_enter_9 : decode kc_Jd_enter 9 = .ok (.tableswitch 302 1 24 #[111, 111, 111, 119, 135, 302, 302, 302, 302, 302, 302, 302, 149, 302, 302, 213, 302, 302, 226, 302, 302, 279, 302, 294], 111) := by decide +kernel
theorem kd_Jd_enter_120 : decode kc_Jd_enter 120 = .ok (.aload_n 0, 1) := by decide +kernel
theorem kd_Jd_enter_121 : decode kc_Jd_enter 121 = .ok (.iload_n 1, 1) := by decide +kernel
theorem kd_Jd_enter_122 : decode kc_Jd_enter 122 = .ok (.invokevirtual 75, 3) := by decide +kernel
theorem kd_Jd_enter_125 : decode kc_Jd_enter 125 = .ok (.goto 186, 3) := by decide +kernel
theorem kd_Jd_enter_128 : decode kc_Jd_enter 128 = .ok (.aload_n 0, 1) := by decide +kernel
theorem kd_Jd_enter_129 : decode kc_Jd_enter 129 = .ok (.aload_n 0, 1) := by decide +kernel
theorem kd_Jd_enter_130 : decode kc_Jd_enter 130 = .ok (.getfield 9, 3) := by decide +kernel
theorem kd_Jd_enter_133 : decode kc_Jd_enter 133 = .ok (.getfield 78, 3) := by decide +kernel
theorem kd_Jd_enter_136 : decode kc_Jd_enter 136 = .ok (.iload_n 1, 1) := by decide +kernel
theorem kd_Jd_enter_137 : decode kc_Jd_enter 137 = .ok (.iaload, 1) := by decide +kernel
theorem kd_Jd_enter_138 : decode kc_Jd_enter 138 = .ok (.putfield 81, 3) := by decide +kernel
theorem kd_Jd_enter_141 : decode kc_Jd_enter 141 = .ok (.goto 170, 3) := by decide +kernel
theorem kd_Jd_enter_144 : decode kc_Jd_enter 144 = .ok (.aload_n 0, 1) := by decide +kernel
theorem kd_Jd_enter_145 : decode kc_Jd_enter 145 = .ok (.aload_n 0, 1) := by decide +kernel
theorem kd_Jd_enter_146 : decode kc_Jd_enter 146 = .ok (.getfield 15, 3) := by decide +kernel
theorem kd_Jd_enter_149 : decode kc_Jd_enter 149 = .ok (.getfield 84, 3) := by decide +kernel
theorem kd_Jd_enter_152 : decode kc_Jd_enter 152 = .ok (.putfield 87, 3) := by decide +kernel
theorem kd_Jd_enter_155 : decode kc_Jd_enter 155 = .ok (.goto 156, 3) := by decide +kernel
theorem kd_Jd_enter_158 : decode kc_Jd_enter 158 = .ok (.aload_n 0, 1) := by decide +kernel
theorem kd_Jd_enter_159 : decode kc_Jd_enter 159 = .ok (.aload_n 0, 1) := by decide +kernel
theorem kd_Jd_enter_160 : decode kc_Jd_enter 160 = .ok (.getfield 9, 3) := by decide +kernel
theorem kd_Jd_enter_163 : decode kc_Jd_enter 163 = .ok (.getfield 49, 3) := by decide +kernel
theorem kd_Jd_enter_166 : decode kc_Jd_enter 166 = .ok (.iload_n 1, 1) := by decide +kernel
theorem kd_Jd_enter_167 : decode kc_Jd_enter 167 = .ok (.iaload, 1) := by decide +kernel
theorem kd_Jd_enter_168 : decode kc_Jd_enter 168 = .ok (.putfield 90, 3) := by decide +kernel
theorem kd_Jd_enter_171 : decode kc_Jd_enter 171 = .ok (.aload_n 0, 1) := by decide +kernel
theorem kd_Jd_enter_172 : decode kc_Jd_enter 172 = .ok (.aload_n 0, 1) := by decide +kernel
theorem kd_Jd_enter_173 : decode kc_Jd_enter 173 = .ok (.getfield 15, 3) := by decide +kernel
theorem kd_Jd_enter_176 : decode kc_Jd_enter 176 = .ok (.aload_n 0, 1) := by decide +kernel
theorem kd_Jd_enter_177 : decode kc_Jd_enter 177 = .ok (.getfield 9, 3) := by decide +kernel
theorem kd_Jd_enter_180 : decode kc_Jd_enter 180 = .ok (.getfield 78, 3) := by decide +kernel
theorem kd_Jd_enter_183 : decode kc_Jd_enter 183 = .ok (.iload_n 1, 1) := by decide +kernel
theorem kd_Jd_enter_184 : decode kc_Jd_enter 184 = .ok (.iaload, 1) := by decide +kernel
theorem kd_Jd_enter_185 : decode kc_Jd_enter 185 = .ok (.invokevirtual 93, 3) := by decide +kernel
theorem kd_Jd_enter_188 : decode kc_Jd_enter 188 = .ok (.putfield 97, 3) := by decide +kernel
theorem kd_Jd_enter_191 : decode kc_Jd_enter 191 = .ok (.aload_n 0, 1) := by decide +kernel
theorem kd_Jd_enter_192 : decode kc_Jd_enter 192 = .ok (.getfield 97, 3) := by decide +kernel
theorem kd_Jd_enter_195 : decode kc_Jd_enter 195 = .ok (.iconst (-1), 1) := by decide +kernel
theorem kd_Jd_enter_196 : decode kc_Jd_enter 196 = .ok (.if_icmp .eq 115, 3) := by decide +kernel
theorem kd_Jd_enter_199 : decode kc_Jd_enter 199 = .ok (.aload_n 0, 1) := by decide +kernel
theorem kd_Jd_enter_200 : decode kc_Jd_enter 200 = .ok (.getfield 15, 3) := by decide +kernel
theorem kd_Jd_enter_203 : decode kc_Jd_enter 203 = .ok (.getfield 100, 3) := by decide +kernel
theorem kd_Jd_enter_206 : decode kc_Jd_enter 206 = .ok (.aload_n 0, 1) := by decide +kernel
theorem kd_Jd_enter_207 : decode kc_Jd_enter 207 = .ok (.getfield 97, 3) := by decide +kernel
theorem kd_Jd_enter_210 : decode kc_Jd_enter 210 = .ok (.iaload, 1) := by decide +kernel
theorem kd_Jd_enter_211 : decode kc_Jd_enter 211 = .ok (.ifCond .ge 100, 3) := by decide +kernel
theorem kd_Jd_enter_214 : decode kc_Jd_enter 214 = .ok (.aload_n 0, 1) := by decide +kernel
theorem kd_Jd_enter_215 : decode kc_Jd_enter 215 = .ok (.iconst (-1), 1) := by decide +kernel
theorem kd_Jd_enter_216 : decode kc_Jd_enter 216 = .ok (.putfield 97, 3) := by decide +kernel
theorem kd_Jd_enter_219 : decode kc_Jd_enter 219 = .ok (.goto 92, 3) := by decide +kernel
theorem kd_Jd_enter_222 : decode kc_Jd_enter 222 = .ok (.aload_n 0, 1) := by decide +kernel
theorem kd_Jd_enter_223 : decode kc_Jd_enter 223 = .ok (.dup, 1) := by decide +kernel
theorem kd_Jd_enter_224 : decode kc_Jd_enter 224 = .ok (.getfield 103, 3) := by decide +kernel
theorem kd_Jd_enter_227 : decode kc_Jd_enter 227 = .ok (.iconst 1, 1) := by decide +kernel
theorem kd_Jd_enter_228 : decode kc_Jd_enter 228 = .ok (.iadd, 1) := by decide +kernel
theorem kd_Jd_enter_229 : decode kc_Jd_enter 229 = .ok (.putfield 103, 3) := by decide +kernel
theorem kd_Jd_enter_232 : decode kc_Jd_enter 232 = .ok (.goto 79, 3) := by decide +kernel
theorem kd_Jd_enter_235 : decode kc_Jd_enter 235 = .ok (.aload_n 0, 1) := by decide +kernel
theorem kd_Jd_enter_236 : decode kc_Jd_enter 236 = .ok (.dup, 1) := by decide +kernel
theorem kd_Jd_enter_237 : decode kc_Jd_enter 237 = .ok (.getfield 103, 3) := by decide +kernel
theorem kd_Jd_enter_240 : decode kc_Jd_enter 240 = .ok (.iconst 1, 1) := by decide +kernel
theorem kd_Jd_enter_241 : decode kc_Jd_enter 241 = .ok (.iadd, 1) := by decide +kernel
theorem kd_Jd_enter_242 : decode kc_Jd_enter 242 = .ok (.putfield 103, 3) := by decide +kernel
theorem kd_Jd_enter_245 : decode kc_Jd_enter 245 = .ok (.aload_n 0, 1) := by decide +kernel
theorem kd_Jd_enter_246 : decode kc_Jd_enter 246 = .ok (.getfield 33, 3) := by decide +kernel
theorem kd_Jd_enter_249 : decode kc_Jd_enter 249 = .ok (.aload_n 0, 1) := by decide +kernel
theorem kd_Jd_enter_250 : decode kc_Jd_enter 250 = .ok (.getfield 21, 3) := by decide +kernel
theorem kd_Jd_enter_253 : decode kc_Jd_enter 253 = .ok (.arraylength, 1) := by decide +kernel
theorem kd_Jd_enter_254 : decode kc_Jd_enter 254 = .ok (.if_icmp .ge 57, 3) := by decide +kernel
theorem kd_Jd_enter_257 : decode kc_Jd_enter 257 = .ok (.aload_n 0, 1) := by decide +kernel
theorem kd_Jd_enter_258 : decode kc_Jd_enter 258 = .ok (.getfield 21, 3) := by decide +kernel
theorem kd_Jd_enter_261 : decode kc_Jd_enter 261 = .ok (.aload_n 0, 1) := by decide +kernel
theorem kd_Jd_enter_262 : decode kc_Jd_enter 262 = .ok (.getfield 33, 3) := by decide +kernel
theorem kd_Jd_enter_265 : decode kc_Jd_enter 265 = .ok (.aload_n 0, 1) := by decide +kernel
theorem kd_Jd_enter_266 : decode kc_Jd_enter 266 = .ok (.getfield 9, 3) := by decide +kernel
theorem kd_Jd_enter_269 : decode kc_Jd_enter 269 = .ok (.getfield 78, 3) := by decide +kernel
theorem kd_Jd_enter_272 : decode kc_Jd_enter 272 = .ok (.iload_n 1, 1) := by decide +kernel
theorem kd_Jd_enter_273 : decode kc_Jd_enter 273 = .ok (.iaload, 1) := by decide +kernel
theorem kd_Jd_enter_274 : decode kc_Jd_enter 274 = .ok (.iastore, 1) := by decide +kernel
theorem kd_Jd_enter_275 : decode kc_Jd_enter 275 = .ok (.aload_n 0, 1) := by decide +kernel
theorem kd_Jd_enter_276 : decode kc_Jd_enter 276 = .ok (.dup, 1) := by decide +kernel
theorem kd_Jd_enter_277 : decode kc_Jd_enter 277 = .ok (.getfield 33, 3) := by decide +kernel
theorem kd_Jd_enter_280 : decode kc_Jd_enter 280 = .ok (.iconst 1, 1) := by decide +kernel
theorem kd_Jd_enter_281 : decode kc_Jd_enter 281 = .ok (.iadd, 1) := by decide +kernel
theorem kd_Jd_enter_282 : decode kc_Jd_enter 282 = .ok (.putfield 33, 3) := by decide +kernel
theorem kd_Jd_enter_285 : decode kc_Jd_enter 285 = .ok (.goto 26, 3) := by decide +kernel
theorem kd_Jd_enter_288 : decode kc_Jd_enter 288 = .ok (.aload_n 0, 1) := by decide +kernel
theorem kd_Jd_enter_289 : decode kc_Jd_enter 289 = .ok (.dup, 1) := by decide +kernel
theorem kd_Jd_enter_290 : decode kc_Jd_enter 290 = .ok (.getfield 103, 3) := by decide +kernel
theorem kd_Jd_enter_293 : decode kc_Jd_enter 293 = .ok (.sipush 156, 3) := by decide +kernel
theorem kd_Jd_enter_296 : decode kc_Jd_enter 296 = .ok (.iadd, 1) := by decide +kernel
theorem kd_Jd_enter_297 : decode kc_Jd_enter 297 = .ok (.putfield 103, 3) := by decide +kernel
theorem kd_Jd_enter_300 : decode kc_Jd_enter 300 = .ok (.goto 11, 3) := by decide +kernel
theorem kd_Jd_enter_303 : decode kc_Jd_enter 303 = .ok (.aload_n 0, 1) := by decide +kernel
theorem kd_Jd_enter_304 : decode kc_Jd_enter 304 = .ok (.iload_n 1, 1) := by decide +kernel
theorem kd_Jd_enter_305 : decode kc_Jd_enter 305 = .ok (.putfield 106, 3) := by decide +kernel
theorem kd_Jd_enter_308 : decode kc_Jd_enter 308 = .ok (.goto 3, 3) := by decide +kernel
theorem kd_Jd_enter_311 : decode kc_Jd_enter 311 = .ok (.return_, 1) := by decide +kernel
theorem kd_Jd_enterBlock_0 : decode kc_Jd_enterBlock 0 = .ok (.aload_n 0, 1) := by decide +kernel
theorem kd_Jd_enterBlock_1 : decode kc_Jd_enterBlock 1 = .ok (.getfield 9, 3) := by decide +kernel
theorem kd_Jd_enterBlock_4 : decode kc_Jd_enterBlock 4 = .ok (.getfield 78, 3) := by decide +kernel
theorem kd_Jd_enterBlock_7 : decode kc_Jd_enterBlock 7 = .ok (.iload_n 1, 1) := by decide +kernel
theorem kd_Jd_enterBlock_8 : decode kc_Jd_enterBlock 8 = .ok (.iaload, 1) := by decide +kernel
theorem kd_Jd_enterBlock_9 : decode kc_Jd_enterBlock 9 = .ok (.istore_n 2, 1) := by decide +kernel
theorem kd_Jd_enterBlock_10 : decode kc_Jd_enterBlock 10 = .ok (.aload_n 0, 1) := by decide +kernel
theorem kd_Jd_enterBlock_11 : decode kc_Jd_enterBlock 11 = .ok (.aload_n 0, 1) := by decide +kernel
theorem kd_Jd_enterBlock_12 : decode kc_Jd_enterBlock 12 = .ok (.getfield 15, 3) := by decide +kernel
theorem kd_Jd_enterBlock_15 : decode kc_Jd_enterBlock 15 = .ok (.getfield 109, 3) := by decide +kernel
theorem kd_Jd_enterBlock_18 : decode kc_Jd_enterBlock 18 = .ok (.iconst (-1), 1) := by decide +kernel
theorem kd_Jd_enterBlock_19 : decode kc_Jd_enterBlock 19 = .ok (.if_icmp .eq 7, 3) := by decide +kernel
theorem kd_Jd_enterBlock_22 : decode kc_Jd_enterBlock 22 = .ok (.iconst 1, 1) := by decide +kernel
theorem kd_Jd_enterBlock_23 : decode kc_Jd_enterBlock 23 = .ok (.goto 4, 3) := by decide +kernel
theorem kd_Jd_enterBlock_26 : decode kc_Jd_enterBlock 26 = .ok (.iconst 0, 1) := by decide +kernel
theorem kd_Jd_enterBlock_27 : decode kc_Jd_enterBlock 27 = .ok (.bipush 10, 2) := by decide +kernel
theorem kd_Jd_enterBlock_29 : decode kc_Jd_enterBlock 29 = .ok (.iload_n 1, 1) := by decide +kernel
theorem kd_Jd_enterBlock_30 : decode kc_Jd_enterBlock 30 = .ok (.invokevirtual 112, 3) := by decide +kernel
theorem kd_Jd_enterBlock_33 : decode kc_Jd_enterBlock 33 = .ok (.aload_n 0, 1) := by decide +kernel
theorem kd_Jd_enterBlock_34 : decode kc_Jd_enterBlock 34 = .ok (.aload_n 0, 1) := by decide +kernel
theorem kd_Jd_enterBlock_35 : decode kc_Jd_enterBlock 35 = .ok (.getfield 15, 3) := by decide +kernel
theorem kd_Jd_enterBlock_38 : decode kc_Jd_enterBlock 38 = .ok (.getfield 116, 3) := by decide +kernel
theorem kd_Jd_enterBlock_41 : decode kc_Jd_enterBlock 41 = .ok (.iload_n 2, 1) := by decide +kernel
theorem kd_Jd_enterBlock_42 : decode kc_Jd_enterBlock 42 = .ok (.iaload, 1) := by decide +kernel
theorem kd_Jd_enterBlock_43 : decode kc_Jd_enterBlock 43 = .ok (.iconst (-1), 1) := by decide +kernel
theorem kd_Jd_enterBlock_44 : decode kc_Jd_enterBlock 44 = .ok (.if_icmp .ne 10, 3) := by decide +kernel
theorem kd_Jd_enterBlock_47 : decode kc_Jd_enterBlock 47 = .ok (.iload_n 2, 1) := by decide +kernel
theorem kd_Jd_enterBlock_48 : decode kc_Jd_enterBlock 48 = .ok (.invokestatic 119, 3) := by decide +kernel
theorem kd_Jd_enterBlock_51 : decode kc_Jd_enterBlock 51 = .ok (.ifCond .eq 7, 3) := by decide +kernel
theorem kd_Jd_enterBlock_54 : decode kc_Jd_enterBlock 54 = .ok (.iconst 1, 1) := by decide +kernel
theorem kd_Jd_enterBlock_55 : decode kc_Jd_enterBlock 55 = .ok (.goto 4, 3) := by decide +kernel
theorem kd_Jd_enterBlock_58 : decode kc_Jd_enterBlock 58 = .ok (.iconst 0, 1) := by decide +kernel
theorem kd_Jd_enterBlock_59 : decode kc_Jd_enterBlock 59 = .ok (.bipush 11, 2) := by decide +kernel
theorem kd_Jd_enterBlock_61 : decode kc_Jd_enterBlock 61 = .ok (.iload_n 1, 1) := by decide +kernel
theorem kd_Jd_enterBlock_62 : decode kc_Jd_enterBlock 62 = .ok (.invokevirtual 112, 3) := by decide +kernel
theorem kd_Jd_enterBlock_65 : decode kc_Jd_enterBlock 65 = .ok (.aload_n 0, 1) := by decide +kernel
theorem kd_Jd_enterBlock_66 : decode kc_Jd_enterBlock 66 = .ok (.getfield 29, 3) := by decide +kernel
theorem kd_Jd_enterBlock_69 : decode kc_Jd_enterBlock 69 = .ok (.ifCond .eq 4, 3) := by decide +kernel
theorem kd_Jd_enterBlock_72 : decode kc_Jd_enterBlock 72 = .ok (.return_, 1) := by decide +kernel
theorem kd_Jd_enterBlock_73 : decode kc_Jd_enterBlock 73 = .ok (.aload_n 0, 1) := by decide +kernel
theorem kd_Jd_enterBlock_74 : decode kc_Jd_enterBlock 74 = .ok (.aload_n 0, 1) := by decide +kernel
theorem kd_Jd_enterBlock_75 : decode kc_Jd_enterBlock 75 = .ok (.getfield 15, 3) := by decide +kernel
theorem kd_Jd_enterBlock_78 : decode kc_Jd_enterBlock 78 = .ok (.aload_n 0, 1) := by decide +kernel
theorem kd_Jd_enterBlock_79 : decode kc_Jd_enterBlock 79 = .ok (.getfield 9, 3) := by decide +kernel
theorem kd_Jd_enterBlock_82 : decode kc_Jd_enterBlock 82 = .ok (.getfield 71, 3) := by decide +kernel
theorem kd_Jd_enterBlock_85 : decode kc_Jd_enterBlock 85 = .ok (.iload_n 1, 1) := by decide +kernel
theorem kd_Jd_enterBlock_86 : decode kc_Jd_enterBlock 86 = .ok (.baload, 1) := by decide +kernel
theorem kd_Jd_enterBlock_87 : decode kc_Jd_enterBlock 87 = .ok (.iload_n 2, 1) := by decide +kernel
theorem kd_Jd_enterBlock_88 : decode kc_Jd_enterBlock 88 = .ok (.iload_n 1, 1) := by decide +kernel
theorem kd_Jd_enterBlock_89 : decode kc_Jd_enterBlock 89 = .ok (.invokevirtual 125, 3) := by decide +kernel
theorem kd_Jd_enterBlock_92 : decode kc_Jd_enterBlock 92 = .ok (.putfield 129, 3) := by decide +kernel
theorem kd_Jd_enterBlock_95 : decode kc_Jd_enterBlock 95 = .ok (.aload_n 0, 1) := by decide +kernel
theorem kd_Jd_enterBlock_96 : decode kc_Jd_enterBlock 96 = .ok (.iconst 0, 1) := by decide +kernel
theorem kd_Jd_enterBlock_97 : decode kc_Jd_enterBlock 97 = .ok (.putfield 103, 3) := by decide +kernel
theorem kd_Jd_enterBlock_100 : decode kc_Jd_enterBlock 100 = .ok (.aload_n 0, 1) := by decide +kernel
theorem kd_Jd_enterBlock_101 : decode kc_Jd_enterBlock 101 = .ok (.getfield 9, 3) := by decide +kernel
theorem kd_Jd_enterBlock_104 : decode kc_Jd_enterBlock 104 = .ok (.getfield 71, 3) := by decide +kernel
theorem kd_Jd_enterBlock_107 : decode kc_Jd_enterBlock 107 = .ok (.iload_n 1, 1) := by decide +kernel
theorem kd_Jd_enterBlock_108 : decode kc_Jd_enterBlock 108 = .ok (.baload, 1) := by decide +kernel
theorem kd_Jd_enterBlock_109 : decode kc_Jd_enterBlock 109 = .ok (.iconst 1, 1) := by decide +kernel
theorem kd_Jd_enterBlock_110 : decode kc_Jd_enterBlock 110 = .ok (.if_icmp .ne 50, 3) := by decide +kernel
theorem kd_Jd_enterBlock_113 : decode kc_Jd_enterBlock 113 = .ok (.aload_n 0, 1) := by decide +kernel
theorem kd_Jd_enterBlock_114 : decode kc_Jd_enterBlock 114 = .ok (.getfield 15, 3) := by decide +kernel
theorem kd_Jd_enterBlock_117 : decode kc_Jd_enterBlock 117 = .ok (.getfield 132, 3) := by decide +kernel
theorem kd_Jd_enterBlock_120 : decode kc_Jd_enterBlock 120 = .ok (.aload_n 0, 1) := by decide +kernel
theorem kd_Jd_enterBlock_121 : decode kc_Jd_enterBlock 121 = .ok (.getfield 15, 3) := by decide +kernel
theorem kd_Jd_enterBlock_124 : decode kc_Jd_enterBlock 124 = .ok (.iload_n 2, 1) := by decide +kernel
theorem kd_Jd_enterBlock_125 : decode kc_Jd_enterBlock 125 = .ok (.iconst 3, 1) := by decide +kernel
theorem kd_Jd_enterBlock_126 : decode kc_Jd_enterBlock 126 = .ok (.invokevirtual 135, 3) := by decide +kernel
theorem kd_Jd_enterBlock_129 : decode kc_Jd_enterBlock 129 = .ok (.aload_n 0, 1) := by decide +kernel
theorem kd_Jd_enterBlock_130 : decode kc_Jd_enterBlock 130 = .ok (.getfield 9, 3) := by decide +kernel
theorem kd_Jd_enterBlock_133 : decode kc_Jd_enterBlock 133 = .ok (.getfield 78, 3) := by decide +kernel
theorem kd_Jd_enterBlock_136 : decode kc_Jd_enterBlock 136 = .ok (.aload_n 0, 1) := by decide +kernel
theorem kd_Jd_enterBlock_137 : decode kc_Jd_enterBlock 137 = .ok (.getfield 9, 3) := by decide +kernel
theorem kd_Jd_enterBlock_140 : decode kc_Jd_enterBlock 140 = .ok (.getfield 49, 3) := by decide +kernel
theorem kd_Jd_enterBlock_143 : decode kc_Jd_enterBlock 143 = .ok (.iload_n 1, 1) := by decide +kernel
theorem kd_Jd_enterBlock_144 : decode kc_Jd_enterBlock 144 = .ok (.iaload, 1) := by decide +kernel
theorem kd_Jd_enterBlock_145 : decode kc_Jd_enterBlock 145 = .ok (.iaload, 1) := by decide +kernel
theorem kd_Jd_enterBlock_146 : decode kc_Jd_enterBlock 146 = .ok (.iastore, 1) := by decide +kernel
theorem kd_Jd_enterBlock_147 : decode kc_Jd_enterBlock 147 = .ok (.aload_n 0, 1) := by decide +kernel
theorem kd_Jd_enterBlock_148 : decode kc_Jd_enterBlock 148 = .ok (.getfield 15, 3) := by decide +kernel
theorem kd_Jd_enterBlock_151 : decode kc_Jd_enterBlock 151 = .ok (.getfield 139, 3) := by decide +kernel
theorem kd_Jd_enterBlock_154 : decode kc_Jd_enterBlock 154 = .ok (.aload_n 0, 1) := by decide +kernel
theorem kd_Jd_enterBlock_155 : decode kc_Jd_enterBlock 155 = .ok (.getfield 129, 3) := by decide +kernel
theorem kd_Jd_enterBlock_158 : decode kc_Jd_enterBlock 158 = .ok (.iconst 1, 1) := by decide +kernel
theorem kd_Jd_enterBlock_159 : decode kc_Jd_enterBlock 159 = .ok (.iastore, 1) := by decide +kernel
theorem kd_Jd_enterBlock_160 : decode kc_Jd_enterBlock 160 = .ok (.return_, 1) := by decide +kernel
theorem kd_Jd_fold_0 : decode kc_Jd_fold 0 = .ok (.aload_n 0, 1) := by decide +kernel
theorem kd_Jd_fold_1 : decode kc_Jd_fold 1 = .ok (.getfield 9, 3) := by decide +kernel
theorem kd_Jd_fold_4 : decode kc_Jd_fold 4 = .ok (.getfield 71, 3) := by decide +kernel
theorem kd_Jd_fold_7 : decode kc_Jd_fold 7 = .ok (.iload_n 1, 1) := by decide +kernel
theorem kd_Jd_fold_8 : decode kc_Jd_fold 8 = .ok (.bipush 30, 2) := by decide +kernel
theorem kd_Jd_fold_10 : decode kc_Jd_fold 10 = .ok (.bastore, 1) := by decide +kernel
theorem kd_Jd_fold_11 : decode kc_Jd_fold 11 = .ok (.aload_n 0, 1) := by decide +kernel
theorem kd_Jd_fold_12 : decode kc_Jd_fold 12 = .ok (.getfield 9, 3) := by decide +kernel
theorem kd_Jd_fold_15 : decode kc_Jd_fold 15 = .ok (.getfield 78, 3) := by decide +kernel
theorem kd_Jd_fold_18 : decode kc_Jd_fold 18 = .ok (.iload_n 1, 1) := by decide +kernel
theorem kd_Jd_fold_19 : decode kc_Jd_fold 19 = .ok (.iload_n 2, 1) := by decide +kernel
theorem kd_Jd_fold_20 : decode kc_Jd_fold 20 = .ok (.iastore, 1) := by decide +kernel
theorem kd_Jd_fold_21 : decode kc_Jd_fold 21 = .ok (.aload_n 0, 1) := by decide +kernel
theorem kd_Jd_fold_22 : decode kc_Jd_fold 22 = .ok (.getfield 9, 3) := by decide +kernel
theorem kd_Jd_fold_25 : decode kc_Jd_fold 25 = .ok (.getfield 49, 3) := by decide +kernel
theorem kd_Jd_fold_28 : decode kc_Jd_fold 28 = .ok (.iload_n 1, 1) := by decide +kernel
theorem kd_Jd_fold_29 : decode kc_Jd_fold 29 = .ok (.iconst (-1), 1) := by decide +kernel
theorem kd_Jd_fold_30 : decode kc_Jd_fold 30 = .ok (.iastore, 1) := by decide +kernel
theorem kd_Jd_fold_31 : decode kc_Jd_fold 31 = .ok (.return_, 1) := by decide +kernel
theorem kd_Jd_judgeOne_0 : decode kc_Jd_judgeOne 0 = .ok (.aload_n 0, 1) := by decide +kernel
theorem kd_Jd_judgeOne_1 : decode kc_Jd_judgeOne 1 = .ok (.getfield 9, 3) := by decide +kernel
theorem kd_Jd_judgeOne_4 : decode kc_Jd_judgeOne 4 = .ok (.getfield 49, 3) := by decide +kernel
theorem kd_Jd_judgeOne_7 : decode kc_Jd_judgeOne 7 = .ok (.iload_n 1, 1) := by decide +kernel
theorem kd_Jd_judgeOne_8 : decode kc_Jd_judgeOne 8 = .ok (.iaload, 1) := by decide +kernel
theorem kd_Jd_judgeOne_9 : decode kc_Jd_judgeOne 9 = .ok (.istore_n 2, 1) := by decide +kernel
theorem kd_Jd_judgeOne_10 : decode kc_Jd_judgeOne 10 = .ok (.aload_n 0, 1) := by decide +kernel
theorem kd_Jd_judgeOne_11 : decode kc_Jd_judgeOne 11 = .ok (.getfield 9, 3) := by decide +kernel
theorem kd_Jd_judgeOne_14 : decode kc_Jd_judgeOne 14 = .ok (.getfield 178, 3) := by decide +kernel
theorem kd_Jd_judgeOne_17 : decode kc_Jd_judgeOne 17 = .ok (.iload_n 2, 1) := by decide +kernel
theorem kd_Jd_judgeOne_18 : decode kc_Jd_judgeOne 18 = .ok (.baload, 1) := by decide +kernel
theorem kd_Jd_judgeOne_19 : decode kc_Jd_judgeOne 19 = .ok (.istore_n 3, 1) := by decide +kernel
theorem kd_Jd_judgeOne_20 : decode kc_Jd_judgeOne 20 = .ok (.aload_n 0, 1) := by decide +kernel
theorem kd_Jd_judgeOne_21 : decode kc_Jd_judgeOne 21 = .ok (.getfield 9, 3) := by decide +kernel
theorem kd_Jd_judgeOne_24 : decode kc_Jd_judgeOne 24 = .ok (.getfield 78, 3) := by decide +kernel
theorem kd_Jd_judgeOne_27 : decode kc_Jd_judgeOne 27 = .ok (.iload_n 1, 1) := by decide +kernel
theorem kd_Jd_judgeOne_28 : decode kc_Jd_judgeOne 28 = .ok (.iaload, 1) := by decide +kernel
theorem kd_Jd_judgeOne_29 : decode kc_Jd_judgeOne 29 = .ok (.ifCond .ne 7, 3) := by decide +kernel
theorem kd_Jd_judgeOne_32 : decode kc_Jd_judgeOne 32 = .ok (.iconst 1, 1) := by decide +kernel
theorem kd_Jd_judgeOne_33 : decode kc_Jd_judgeOne 33 = .ok (.goto 4, 3) := by decide +kernel
theorem kd_Jd_judgeOne_36 : decode kc_Jd_judgeOne 36 = .ok (.iconst 0, 1) := by decide +kernel
theorem kd_Jd_judgeOne_37 : decode kc_Jd_judgeOne 37 = .ok (.istore 4, 2) := by decide +kernel
theorem kd_Jd_judgeOne_39 : decode kc_Jd_judgeOne 39 = .ok (.aload_n 0, 1) := by decide +kernel
theorem kd_Jd_judgeOne_40 : decode kc_Jd_judgeOne 40 = .ok (.iload 4, 2) := by decide +kernel
theorem kd_Jd_judgeOne_42 : decode kc_Jd_judgeOne 42 = .ok (.ifCond .eq 11, 3) := by decide +kernel
theorem kd_Jd_judgeOne_45 : decode kc_Jd_judgeOne 45 = .ok (.iload_n 3, 1) := by decide +kernel
theorem kd_Jd_judgeOne_46 : decode kc_Jd_judgeOne 46 = .ok (.ifCond .ne 7, 3) := by decide +kernel
theorem kd_Jd_judgeOne_49 : decode kc_Jd_judgeOne 49 = .ok (.iconst 1, 1) := by decide +kernel
theorem kd_Jd_judgeOne_50 : decode kc_Jd_judgeOne 50 = .ok (.goto 4, 3) := by decide +kernel
theorem kd_Jd_judgeOne_53 : decode kc_Jd_judgeOne 53 = .ok (.iconst 0, 1) := by decide +kernel
theorem kd_Jd_judgeOne_54 : decode kc_Jd_judgeOne 54 = .ok (.bipush 28, 2) := by decide +kernel
theorem kd_Jd_judgeOne_56 : decode kc_Jd_judgeOne 56 = .ok (.iload_n 1, 1) := by decide +kernel
theorem kd_Jd_judgeOne_57 : decode kc_Jd_judgeOne 57 = .ok (.invokevirtual 112, 3) := by decide +kernel
theorem kd_Jd_judgeOne_60 : decode kc_Jd_judgeOne 60 = .ok (.aload_n 0, 1) := by decide +kernel
theorem kd_Jd_judgeOne_61 : decode kc_Jd_judgeOne 61 = .ok (.getfield 9, 3) := by decide +kernel
theorem kd_Jd_judgeOne_64 : decode kc_Jd_judgeOne 64 = .ok (.getfield 178, 3) := by decide +kernel
theorem kd_Jd_judgeOne_67 : decode kc_Jd_judgeOne 67 = .ok (.iload_n 1, 1) := by decide +kernel
theorem kd_Jd_judgeOne_68 : decode kc_Jd_judgeOne 68 = .ok (.iload_n 3, 1) := by decide +kernel
theorem kd_Jd_judgeOne_69 : decode kc_Jd_judgeOne 69 = .ok (.i2b, 1) := by decide +kernel
theorem kd_Jd_judgeOne_70 : decode kc_Jd_judgeOne 70 = .ok (.bastore, 1) := by decide +kernel
theorem kd_Jd_judgeOne_71 : decode kc_Jd_judgeOne 71 = .ok (.aload_n 0, 1) := by decide +kernel
theorem kd_Jd_judgeOne_72 : decode kc_Jd_judgeOne 72 = .ok (.getfield 9, 3) := by decide +kernel
theorem kd_Jd_judgeOne_75 : decode kc_Jd_judgeOne 75 = .ok (.iload_n 2, 1) := by decide +kernel
theorem kd_Jd_judgeOne_76 : decode kc_Jd_judgeOne 76 = .ok (.invokevirtual 282, 3) := by decide +kernel
theorem kd_Jd_judgeOne_79 : decode kc_Jd_judgeOne 79 = .ok (.ifCond .eq 26, 3) := by decide +kernel
theorem kd_Jd_judgeOne_82 : decode kc_Jd_judgeOne 82 = .ok (.aload_n 0, 1) := by decide +kernel
theorem kd_Jd_judgeOne_83 : decode kc_Jd_judgeOne 83 = .ok (.iload_n 1, 1) := by decide +kernel
theorem kd_Jd_judgeOne_84 : decode kc_Jd_judgeOne 84 = .ok (.iload 4, 2) := by decide +kernel
theorem kd_Jd_judgeOne_86 : decode kc_Jd_judgeOne 86 = .ok (.iload_n 3, 1) := by decide +kernel
theorem kd_Jd_judgeOne_87 : decode kc_Jd_judgeOne 87 = .ok (.invokestatic 312, 3) := by decide +kernel
theorem kd_Jd_judgeOne_90 : decode kc_Jd_judgeOne 90 = .ok (.aload_n 0, 1) := by decide +kernel
theorem kd_Jd_judgeOne_91 : decode kc_Jd_judgeOne 91 = .ok (.getfield 9, 3) := by decide +kernel
theorem kd_Jd_judgeOne_94 : decode kc_Jd_judgeOne 94 = .ok (.getfield 78, 3) := by decide +kernel
theorem kd_Jd_judgeOne_97 : decode kc_Jd_judgeOne 97 = .ok (.iload_n 2, 1) := by decide +kernel
theorem kd_Jd_judgeOne_98 : decode kc_Jd_judgeOne 98 = .ok (.iaload, 1) := by decide +kernel
theorem kd_Jd_judgeOne_99 : decode kc_Jd_judgeOne 99 = .ok (.invokestatic 316, 3) := by decide +kernel
theorem kd_Jd_judgeOne_102 : decode kc_Jd_judgeOne 102 = .ok (.invokevirtual 289, 3) := by decide +kernel
theorem kd_Jd_judgeOne_105 : decode kc_Jd_judgeOne 105 = .ok (.return_, 1) := by decide +kernel
theorem kd_Jd_judgeTwo_0 : decode kc_Jd_judgeTwo 0 = .ok (.aload_n 0, 1) := by decide +kernel
theorem kd_Jd_judgeTwo_1 : decode kc_Jd_judgeTwo 1 = .ok (.getfield 9, 3) := by decide +kernel
theorem kd_Jd_judgeTwo_4 : decode kc_Jd_judgeTwo 4 = .ok (.getfield 49, 3) := by decide +kernel
theorem kd_Jd_judgeTwo_7 : decode kc_Jd_judgeTwo 7 = .ok (.iload_n 1, 1) := by decide +kernel
theorem kd_Jd_judgeTwo_8 : decode kc_Jd_judgeTwo 8 = .ok (.iaload, 1) := by decide +kernel
theorem kd_Jd_judgeTwo_9 : decode kc_Jd_judgeTwo 9 = .ok (.istore_n 2, 1) := by decide +kernel
theorem kd_Jd_judgeTwo_10 : decode kc_Jd_judgeTwo 10 = .ok (.aload_n 0, 1) := by decide +kernel
theorem kd_Jd_judgeTwo_11 : decode kc_Jd_judgeTwo 11 = .ok (.getfield 9, 3) := by decide +kernel
theorem kd_Jd_judgeTwo_14 : decode kc_Jd_judgeTwo 14 = .ok (.getfield 55, 3) := by decide +kernel
theorem kd_Jd_judgeTwo_17 : decode kc_Jd_judgeTwo 17 = .ok (.iload_n 2, 1) := by decide +kernel
theorem kd_Jd_judgeTwo_18 : decode kc_Jd_judgeTwo 18 = .ok (.iaload, 1) := by decide +kernel
theorem kd_Jd_judgeTwo_19 : decode kc_Jd_judgeTwo 19 = .ok (.istore_n 3, 1) := by decide +kernel
theorem kd_Jd_judgeTwo_20 : decode kc_Jd_judgeTwo 20 = .ok (.aload_n 0, 1) := by decide +kernel
theorem kd_Jd_judgeTwo_21 : decode kc_Jd_judgeTwo 21 = .ok (.getfield 9, 3) := by decide +kernel
theorem kd_Jd_judgeTwo_24 : decode kc_Jd_judgeTwo 24 = .ok (.getfield 78, 3) := by decide +kernel
theorem kd_Jd_judgeTwo_27 : decode kc_Jd_judgeTwo 27 = .ok (.iload_n 1, 1) := by decide +kernel
theorem kd_Jd_judgeTwo_28 : decode kc_Jd_judgeTwo 28 = .ok (.iaload, 1) := by decide +kernel
theorem kd_Jd_judgeTwo_29 : decode kc_Jd_judgeTwo 29 = .ok (.istore 4, 2) := by decide +kernel
theorem kd_Jd_judgeTwo_31 : decode kc_Jd_judgeTwo 31 = .ok (.iload 4, 2) := by decide +kernel
theorem kd_Jd_judgeTwo_33 : decode kc_Jd_judgeTwo 33 = .ok (.iconst 4, 1) := by decide +kernel
theorem kd_Jd_judgeTwo_34 : decode kc_Jd_judgeTwo 34 = .ok (.if_icmp .le 7, 3) := by decide +kernel
theorem kd_Jd_judgeTwo_37 : decode kc_Jd_judgeTwo 37 = .ok (.iconst 1, 1) := by decide +kernel
theorem kd_Jd_judgeTwo_38 : decode kc_Jd_judgeTwo 38 = .ok (.goto 4, 3) := by decide +kernel
theorem kd_Jd_judgeTwo_41 : decode kc_Jd_judgeTwo 41 = .ok (.iconst 0, 1) := by decide +kernel
theorem kd_Jd_judgeTwo_42 : decode kc_Jd_judgeTwo 42 = .ok (.istore 5, 2) := by decide +kernel
theorem kd_Jd_judgeTwo_44 : decode kc_Jd_judgeTwo 44 = .ok (.iload 5, 2) := by decide +kernel
theorem kd_Jd_judgeTwo_46 : decode kc_Jd_judgeTwo 46 = .ok (.ifCond .eq 27, 3) := by decide +kernel
theorem kd_Jd_judgeTwo_49 : decode kc_Jd_judgeTwo 49 = .ok (.aload_n 0, 1) := by decide +kernel
theorem kd_Jd_judgeTwo_50 : decode kc_Jd_judgeTwo 50 = .ok (.getfield 9, 3) := by decide +kernel
theorem kd_Jd_judgeTwo_53 : decode kc_Jd_judgeTwo 53 = .ok (.getfield 178, 3) := by decide +kernel
theorem kd_Jd_judgeTwo_56 : decode kc_Jd_judgeTwo 56 = .ok (.iload_n 2, 1) := by decide +kernel
theorem kd_Jd_judgeTwo_57 : decode kc_Jd_judgeTwo 57 = .ok (.baload, 1) := by decide +kernel
theorem kd_Jd_judgeTwo_58 : decode kc_Jd_judgeTwo 58 = .ok (.aload_n 0, 1) := by decide +kernel
theorem kd_Jd_judgeTwo_59 : decode kc_Jd_judgeTwo 59 = .ok (.getfield 9, 3) := by decide +kernel
theorem kd_Jd_judgeTwo_62 : decode kc_Jd_judgeTwo 62 = .ok (.getfield 178, 3) := by decide +kernel
theorem kd_Jd_judgeTwo_65 : decode kc_Jd_judgeTwo 65 = .ok (.iload_n 3, 1) := by decide +kernel
theorem kd_Jd_judgeTwo_66 : decode kc_Jd_judgeTwo 66 = .ok (.baload, 1) := by decide +kernel
theorem kd_Jd_judgeTwo_67 : decode kc_Jd_judgeTwo 67 = .ok (.invokestatic 295, 3) := by decide +kernel
theorem kd_Jd_judgeTwo_70 : decode kc_Jd_judgeTwo 70 = .ok (.goto 24, 3) := by decide +kernel
theorem kd_Jd_judgeTwo_73 : decode kc_Jd_judgeTwo 73 = .ok (.aload_n 0, 1) := by decide +kernel
theorem kd_Jd_judgeTwo_74 : decode kc_Jd_judgeTwo 74 = .ok (.getfield 9, 3) := by decide +kernel
theorem kd_Jd_judgeTwo_77 : decode kc_Jd_judgeTwo 77 = .ok (.getfield 178, 3) := by decide +kernel
theorem kd_Jd_judgeTwo_80 : decode kc_Jd_judgeTwo 80 = .ok (.iload_n 2, 1) := by decide +kernel
theorem kd_Jd_judgeTwo_81 : decode kc_Jd_judgeTwo 81 = .ok (.baload, 1) := by decide +kernel
theorem kd_Jd_judgeTwo_82 : decode kc_Jd_judgeTwo 82 = .ok (.aload_n 0, 1) := by decide +kernel
theorem kd_Jd_judgeTwo_83 : decode kc_Jd_judgeTwo 83 = .ok (.getfield 9, 3) := by decide +kernel
theorem kd_Jd_judgeTwo_86 : decode kc_Jd_judgeTwo 86 = .ok (.getfield 178, 3) := by decide +kernel
theorem kd_Jd_judgeTwo_89 : decode kc_Jd_judgeTwo 89 = .ok (.iload_n 3, 1) := by decide +kernel
theorem kd_Jd_judgeTwo_90 : decode kc_Jd_judgeTwo 90 = .ok (.baload, 1) := by decide +kernel
theorem kd_Jd_judgeTwo_91 : decode kc_Jd_judgeTwo 91 = .ok (.invokestatic 292, 3) := by decide +kernel
theorem kd_Jd_judgeTwo_94 : decode kc_Jd_judgeTwo 94 = .ok (.istore 6, 2) := by decide +kernel
theorem kd_Jd_judgeTwo_96 : decode kc_Jd_judgeTwo 96 = .ok (.iload 6, 2) := by decide +kernel
theorem kd_Jd_judgeTwo_98 : decode kc_Jd_judgeTwo 98 = .ok (.iconst (-1), 1) := by decide +kernel
theorem kd_Jd_judgeTwo_99 : decode kc_Jd_judgeTwo 99 = .ok (.if_icmp .ne 11, 3) := by decide +kernel
theorem kd_Jd_judgeTwo_102 : decode kc_Jd_judgeTwo 102 = .ok (.aload_n 0, 1) := by decide +kernel
theorem kd_Jd_judgeTwo_103 : decode kc_Jd_judgeTwo 103 = .ok (.bipush 27, 2) := by decide +kernel
theorem kd_Jd_judgeTwo_105 : decode kc_Jd_judgeTwo 105 = .ok (.iload_n 1, 1) := by decide +kernel
theorem kd_Jd_judgeTwo_106 : decode kc_Jd_judgeTwo 106 = .ok (.invokevirtual 68, 3) := by decide +kernel
theorem kd_Jd_judgeTwo_109 : decode kc_Jd_judgeTwo 109 = .ok (.return_, 1) := by decide +kernel
theorem kd_Jd_judgeTwo_110 : decode kc_Jd_judgeTwo 110 = .ok (.iload 4, 2) := by decide +kernel
theorem kd_Jd_judgeTwo_112 : decode kc_Jd_judgeTwo 112 = .ok (.iconst 3, 1) := by decide +kernel
theorem kd_Jd_judgeTwo_113 : decode kc_Jd_judgeTwo 113 = .ok (.if_icmp .lt 14, 3) := by decide +kernel
theorem kd_Jd_judgeTwo_116 : decode kc_Jd_judgeTwo 116 = .ok (.iload 4, 2) := by decide +kernel
theorem kd_Jd_judgeTwo_118 : decode kc_Jd_judgeTwo 118 = .ok (.bipush 8, 2) := by decide +kernel
theorem kd_Jd_judgeTwo_120 : decode kc_Jd_judgeTwo 120 = .ok (.if_icmp .gt 7, 3) := by decide +kernel
theorem kd_Jd_judgeTwo_123 : decode kc_Jd_judgeTwo 123 = .ok (.iconst 1, 1) := by decide +kernel
theorem kd_Jd_judgeTwo_124 : decode kc_Jd_judgeTwo 124 = .ok (.goto 4, 3) := by decide +kernel
theorem kd_Jd_judgeTwo_127 : decode kc_Jd_judgeTwo 127 = .ok (.iconst 0, 1) := by decide +kernel
theorem kd_Jd_judgeTwo_128 : decode kc_Jd_judgeTwo 128 = .ok (.istore 7, 2) := by decide +kernel
theorem kd_Jd_judgeTwo_130 : decode kc_Jd_judgeTwo 130 = .ok (.aload_n 0, 1) := by decide +kernel
theorem kd_Jd_judgeTwo_131 : decode kc_Jd_judgeTwo 131 = .ok (.getfield 9, 3) := by decide +kernel
theorem kd_Jd_judgeTwo_134 : decode kc_Jd_judgeTwo 134 = .ok (.getfield 178, 3) := by decide +kernel
theorem kd_Jd_judgeTwo_137 : decode kc_Jd_judgeTwo 137 = .ok (.iload_n 1, 1) := by decide +kernel
theorem kd_Jd_judgeTwo_138 : decode kc_Jd_judgeTwo 138 = .ok (.iload 7, 2) := by decide +kernel
theorem kd_Jd_judgeTwo_140 : decode kc_Jd_judgeTwo 140 = .ok (.ifCond .eq 7, 3) := by decide +kernel
theorem kd_Jd_judgeTwo_143 : decode kc_Jd_judgeTwo 143 = .ok (.iconst 0, 1) := by decide +kernel
theorem kd_Jd_judgeTwo_144 : decode kc_Jd_judgeTwo 144 = .ok (.goto 5, 3) := by decide +kernel
theorem kd_Jd_judgeTwo_147 : decode kc_Jd_judgeTwo 147 = .ok (.iload 6, 2) := by decide +kernel
theorem kd_Jd_judgeTwo_149 : decode kc_Jd_judgeTwo 149 = .ok (.i2b, 1) := by decide +kernel
theorem kd_Jd_judgeTwo_150 : decode kc_Jd_judgeTwo 150 = .ok (.bastore, 1) := by decide +kernel
theorem kd_Jd_judgeTwo_151 : decode kc_Jd_judgeTwo 151 = .ok (.iload 4, 2) := by decide +kernel
theorem kd_Jd_judgeTwo_153 : decode kc_Jd_judgeTwo 153 = .ok (.aload_n 0, 1) := by decide +kernel
theorem kd_Jd_judgeTwo_154 : decode kc_Jd_judgeTwo 154 = .ok (.getfield 9, 3) := by decide +kernel
theorem kd_Jd_judgeTwo_157 : decode kc_Jd_judgeTwo 157 = .ok (.getfield 178, 3) := by decide +kernel
theorem kd_Jd_judgeTwo_160 : decode kc_Jd_judgeTwo 160 = .ok (.iload_n 1, 1) := by decide +kernel
theorem kd_Jd_judgeTwo_161 : decode kc_Jd_judgeTwo 161 = .ok (.baload, 1) := by decide +kernel
theorem kd_Jd_judgeTwo_162 : decode kc_Jd_judgeTwo 162 = .ok (.invokestatic 303, 3) := by decide +kernel
theorem kd_Jd_judgeTwo_165 : decode kc_Jd_judgeTwo 165 = .ok (.istore 8, 2) := by decide +kernel
theorem kd_Jd_judgeTwo_167 : decode kc_Jd_judgeTwo 167 = .ok (.aload_n 0, 1) := by decide +kernel
theorem kd_Jd_judgeTwo_168 : decode kc_Jd_judgeTwo 168 = .ok (.getfield 9, 3) := by decide +kernel
theorem kd_Jd_judgeTwo_171 : decode kc_Jd_judgeTwo 171 = .ok (.iload_n 2, 1) := by decide +kernel
theorem kd_Jd_judgeTwo_172 : decode kc_Jd_judgeTwo 172 = .ok (.invokevirtual 282, 3) := by decide +kernel
theorem kd_Jd_judgeTwo_175 : decode kc_Jd_judgeTwo 175 = .ok (.ifCond .eq 18, 3) := by decide +kernel
theorem kd_Jd_judgeTwo_178 : decode kc_Jd_judgeTwo 178 = .ok (.aload_n 0, 1) := by decide +kernel
theorem kd_Jd_judgeTwo_179 : decode kc_Jd_judgeTwo 179 = .ok (.getfield 9, 3) := by decide +kernel
theorem kd_Jd_judgeTwo_182 : decode kc_Jd_judgeTwo 182 = .ok (.iload_n 3, 1) := by decide +kernel
theorem kd_Jd_judgeTwo_183 : decode kc_Jd_judgeTwo 183 = .ok (.invokevirtual 282, 3) := by decide +kernel
theorem kd_Jd_judgeTwo_186 : decode kc_Jd_judgeTwo 186 = .ok (.ifCond .eq 7, 3) := by decide +kernel
theorem kd_Jd_judgeTwo_189 : decode kc_Jd_judgeTwo 189 = .ok (.iconst 1, 1) := by decide +kernel
theorem kd_Jd_judgeTwo_190 : decode kc_Jd_judgeTwo 190 = .ok (.goto 4, 3) := by decide +kernel
theorem kd_Jd_judgeTwo_193 : decode kc_Jd_judgeTwo 193 = .ok (.iconst 0, 1) := by decide +kernel
theorem kd_Jd_judgeTwo_194 : decode kc_Jd_judgeTwo 194 = .ok (.istore 9, 2) := by decide +kernel
theorem kd_Jd_judgeTwo_196 : decode kc_Jd_judgeTwo 196 = .ok (.iload 9, 2) := by decide +kernel
theorem kd_Jd_judgeTwo_198 : decode kc_Jd_judgeTwo 198 = .ok (.ifCond .eq 48, 3) := by decide +kernel
theorem kd_Jd_judgeTwo_201 : decode kc_Jd_judgeTwo 201 = .ok (.iload 8, 2) := by decide +kernel
theorem kd_Jd_judgeTwo_203 : decode kc_Jd_judgeTwo 203 = .ok (.aload_n 0, 1) := by decide +kernel
theorem kd_Jd_judgeTwo_204 : decode kc_Jd_judgeTwo 204 = .ok (.getfield 9, 3) := by decide +kernel
theorem kd_Jd_judgeTwo_207 : decode kc_Jd_judgeTwo 207 = .ok (.getfield 78, 3) := by decide +kernel
theorem kd_Jd_judgeTwo_210 : decode kc_Jd_judgeTwo 210 = .ok (.iload_n 3, 1) := by decide +kernel
theorem kd_Jd_judgeTwo_211 : decode kc_Jd_judgeTwo 211 = .ok (.iaload, 1) := by decide +kernel
theorem kd_Jd_judgeTwo_212 : decode kc_Jd_judgeTwo 212 = .ok (.invokestatic 306, 3) := by decide +kernel
theorem kd_Jd_judgeTwo_215 : decode kc_Jd_judgeTwo 215 = .ok (.ifCond .ne 31, 3) := by decide +kernel
theorem kd_Jd_judgeTwo_218 : decode kc_Jd_judgeTwo 218 = .ok (.aload_n 0, 1) := by decide +kernel
theorem kd_Jd_judgeTwo_219 : decode kc_Jd_judgeTwo 219 = .ok (.iload_n 1, 1) := by decide +kernel
theorem kd_Jd_judgeTwo_220 : decode kc_Jd_judgeTwo 220 = .ok (.iload 8, 2) := by decide +kernel
theorem kd_Jd_judgeTwo_222 : decode kc_Jd_judgeTwo 222 = .ok (.aload_n 0, 1) := by decide +kernel
theorem kd_Jd_judgeTwo_223 : decode kc_Jd_judgeTwo 223 = .ok (.getfield 9, 3) := by decide +kernel
theorem kd_Jd_judgeTwo_226 : decode kc_Jd_judgeTwo 226 = .ok (.getfield 78, 3) := by decide +kernel
theorem kd_Jd_judgeTwo_229 : decode kc_Jd_judgeTwo 229 = .ok (.iload_n 2, 1) := by decide +kernel
theorem kd_Jd_judgeTwo_230 : decode kc_Jd_judgeTwo 230 = .ok (.iaload, 1) := by decide +kernel
theorem kd_Jd_judgeTwo_231 : decode kc_Jd_judgeTwo 231 = .ok (.aload_n 0, 1) := by decide +kernel
theorem kd_Jd_judgeTwo_232 : decode kc_Jd_judgeTwo 232 = .ok (.getfield 9, 3) := by decide +kernel
theorem kd_Jd_judgeTwo_235 : decode kc_Jd_judgeTwo 235 = .ok (.getfield 78, 3) := by decide +kernel
theorem kd_Jd_judgeTwo_238 : decode kc_Jd_judgeTwo 238 = .ok (.iload_n 3, 1) := by decide +kernel
theorem kd_Jd_judgeTwo_239 : decode kc_Jd_judgeTwo 239 = .ok (.iaload, 1) := by decide +kernel
theorem kd_Jd_judgeTwo_240 : decode kc_Jd_judgeTwo 240 = .ok (.invokestatic 309, 3) := by decide +kernel
theorem kd_Jd_judgeTwo_243 : decode kc_Jd_judgeTwo 243 = .ok (.invokevirtual 289, 3) := by decide +kernel
theorem kd_Jd_judgeTwo_246 : decode kc_Jd_judgeTwo 246 = .ok (.return_, 1) := by decide +kernel
theorem kd_Jd_refuse_0 : decode kc_Jd_refuse 0 = .ok (.aload_n 0, 1) := by decide +kernel
theorem kd_Jd_refuse_1 : decode kc_Jd_refuse 1 = .ok (.getfield 29, 3) := by decide +kernel
theorem kd_Jd_refuse_4 : decode kc_Jd_refuse 4 = .ok (.ifCond .ne 21, 3) := by decide +kernel
theorem kd_Jd_refuse_7 : decode kc_Jd_refuse 7 = .ok (.aload_n 0, 1) := by decide +kernel
theorem kd_Jd_refuse_8 : decode kc_Jd_refuse 8 = .ok (.iload_n 1, 1) := by decide +kernel
theorem kd_Jd_refuse_9 : decode kc_Jd_refuse 9 = .ok (.putfield 29, 3) := by decide +kernel
theorem kd_Jd_refuse_12 : decode kc_Jd_refuse 12 = .ok (.aload_n 0, 1) := by decide +kernel
theorem kd_Jd_refuse_13 : decode kc_Jd_refuse 13 = .ok (.aload_n 0, 1) := by decide +kernel
theorem kd_Jd_refuse_14 : decode kc_Jd_refuse 14 = .ok (.getfield 9, 3) := by decide +kernel
theorem kd_Jd_refuse_17 : decode kc_Jd_refuse 17 = .ok (.getfield 61, 3) := by decide +kernel
theorem kd_Jd_refuse_20 : decode kc_Jd_refuse 20 = .ok (.iload_n 2, 1) := by decide +kernel
theorem kd_Jd_refuse_21 : decode kc_Jd_refuse 21 = .ok (.caload, 1) := by decide +kernel
theorem kd_Jd_refuse_22 : decode kc_Jd_refuse 22 = .ok (.putfield 65, 3) := by decide +kernel
theorem kd_Jd_refuse_25 : decode kc_Jd_refuse 25 = .ok (.return_, 1) := by decide +kernel
theorem kd_Jd_refuseIf_0 : decode kc_Jd_refuseIf 0 = .ok (.iload_n 1, 1) := by decide +kernel
theorem kd_Jd_refuseIf_1 : decode kc_Jd_refuseIf 1 = .ok (.ifCond .eq 9, 3) := by decide +kernel
theorem kd_Jd_refuseIf_4 : decode kc_Jd_refuseIf 4 = .ok (.aload_n 0, 1) := by decide +kernel
theorem kd_Jd_refuseIf_5 : decode kc_Jd_refuseIf 5 = .ok (.iload_n 2, 1) := by decide +kernel
theorem kd_Jd_refuseIf_6 : decode kc_Jd_refuseIf 6 = .ok (.iload_n 3, 1) := by decide +kernel
theorem kd_Jd_refuseIf_7 : decode kc_Jd_refuseIf 7 = .ok (.invokevirtual 68, 3) := by decide +kernel
theorem kd_Jd_refuseIf_10 : decode kc_Jd_refuseIf 10 = .ok (.return_, 1) := by decide +kernel
theorem kd_Jd_standardType_0 : decode kc_Jd_standardType 0 = .ok (.iload_n 0, 1) := by decide +kernel
theorem kd_Jd_standardType_1 : decode kc_Jd_standardType 1 = .ok (.tableswitch 108 0 9 #[98, 108, 108, 108, 69, 83, 83, 55, 57, 59], 55) := by decide +kernel
theorem kd_Jd_standardType_56 : decode kc_Jd_standardType 56 = .ok (.iconst 1, 1) := by decide +kernel
theorem kd_Jd_standardType_57 : decode kc_Jd_standardType 57 = .ok (.ireturn, 1) := by decide +kernel
theorem kd_Jd_standardType_58 : decode kc_Jd_standardType 58 = .ok (.iconst 2, 1) := by decide +kernel
theorem kd_Jd_standardType_59 : decode kc_Jd_standardType 59 = .ok (.ireturn, 1) := by decide +kernel
theorem kd_Jd_standardType_60 : decode kc_Jd_standardType 60 = .ok (.iload_n 1, 1) := by decide +kernel
theorem kd_Jd_standardType_61 : decode kc_Jd_standardType 61 = .ok (.ifCond .ne 7, 3) := by decide +kernel
theorem kd_Jd_standardType_64 : decode kc_Jd_standardType 64 = .ok (.iconst (-1), 1) := by decide +kernel
theorem kd_Jd_standardType_65 : decode kc_Jd_standardType 65 = .ok (.goto 4, 3) := by decide +kernel
theorem kd_Jd_standardType_68 : decode kc_Jd_standardType 68 = .ok (.iconst 0, 1) := by decide +kernel
theorem kd_Jd_standardType_69 : decode kc_Jd_standardType 69 = .ok (.ireturn, 1) := by decide +kernel
theorem kd_Jd_standardType_70 : decode kc_Jd_standardType 70 = .ok (.iload_n 1, 1) := by decide +kernel
theorem kd_Jd_standardType_71 : decode kc_Jd_standardType 71 = .ok (.ifCond .ne 11, 3) := by decide +kernel
theorem kd_Jd_standardType_74 : decode kc_Jd_standardType 74 = .ok (.iload_n 2, 1) := by decide +kernel
theorem kd_Jd_standardType_75 : decode kc_Jd_standardType 75 = .ok (.iload_n 3, 1) := by decide +kernel
theorem kd_Jd_standardType_76 : decode kc_Jd_standardType 76 = .ok (.invokestatic 292, 3) := by decide +kernel
theorem kd_Jd_standardType_79 : decode kc_Jd_standardType 79 = .ok (.goto 4, 3) := by decide +kernel
theorem kd_Jd_standardType_82 : decode kc_Jd_standardType 82 = .ok (.iconst (-1), 1) := by decide +kernel
theorem kd_Jd_standardType_83 : decode kc_Jd_standardType 83 = .ok (.ireturn, 1) := by decide +kernel
theorem kd_Jd_standardType_84 : decode kc_Jd_standardType 84 = .ok (.iload_n 1, 1) := by decide +kernel
theorem kd_Jd_standardType_85 : decode kc_Jd_standardType 85 = .ok (.iload_n 2, 1) := by decide +kernel
theorem kd_Jd_standardType_86 : decode kc_Jd_standardType 86 = .ok (.invokestatic 295, 3) := by decide +kernel
theorem kd_Jd_standardType_89 : decode kc_Jd_standardType 89 = .ok (.iconst (-1), 1) := by decide +kernel
theorem kd_Jd_standardType_90 : decode kc_Jd_standardType 90 = .ok (.if_icmp .ne 7, 3) := by decide +kernel
theorem kd_Jd_standardType_93 : decode kc_Jd_standardType 93 = .ok (.iconst (-1), 1) := by decide +kernel
theorem kd_Jd_standardType_94 : decode kc_Jd_standardType 94 = .ok (.goto 4, 3) := by decide +kernel
theorem kd_Jd_standardType_97 : decode kc_Jd_standardType 97 = .ok (.iload_n 1, 1) := by decide +kernel
theorem kd_Jd_standardType_98 : decode kc_Jd_standardType 98 = .ok (.ireturn, 1) := by decide +kernel
theorem kd_Jd_standardType_99 : decode kc_Jd_standardType 99 = .ok (.iload_n 1, 1) := by decide +kernel
theorem kd_Jd_standardType_100 : decode kc_Jd_standardType 100 = .ok (.ifCond .ne 7, 3) := by decide +kernel
theorem kd_Jd_standardType_103 : decode kc_Jd_standardType 103 = .ok (.iconst (-1), 1) := by decide +kernel
theorem kd_Jd_standardType_104 : decode kc_Jd_standardType 104 = .ok (.goto 4, 3) := by decide +kernel
theorem kd_Jd_standardType_107 : decode kc_Jd_standardType 107 = .ok (.iload_n 1, 1) := by decide +kernel
theorem kd_Jd_standardType_108 : decode kc_Jd_standardType 108 = .ok (.ireturn, 1) := by decide +kernel
theorem kd_Jd_standardType_109 : decode kc_Jd_standardType 109 = .ok (.iload_n 1, 1) := by decide +kernel
theorem kd_Jd_standardType_110 : decode kc_Jd_standardType 110 = .ok (.iload_n 2, 1) := by decide +kernel
theorem kd_Jd_standardType_111 : decode kc_Jd_standardType 111 = .ok (.invokestatic 295, 3) := by decide +kernel
theorem kd_Jd_standardType_114 : decode kc_Jd_standardType 114 = .ok (.istore 4, 2) := by decide +kernel
theorem kd_Jd_standardType_116 : decode kc_Jd_standardType 116 = .ok (.iload 4, 2) := by decide +kernel
theorem kd_Jd_standardType_118 : decode kc_Jd_standardType 118 = .ok (.iconst (-1), 1) := by decide +kernel
theorem kd_Jd_standardType_119 : decode kc_Jd_standardType 119 = .ok (.if_icmp .ne 7, 3) := by decide +kernel
theorem kd_Jd_standardType_122 : decode kc_Jd_standardType 122 = .ok (.iconst (-1), 1) := by decide +kernel
theorem kd_Jd_standardType_123 : decode kc_Jd_standardType 123 = .ok (.goto 9, 3) := by decide +kernel
theorem kd_Jd_standardType_126 : decode kc_Jd_standardType 126 = .ok (.iload 4, 2) := by decide +kernel
theorem kd_Jd_standardType_128 : decode kc_Jd_standardType 128 = .ok (.iload_n 3, 1) := by decide +kernel
theorem kd_Jd_standardType_129 : decode kc_Jd_standardType 129 = .ok (.invokestatic 295, 3) := by decide +kernel
theorem kd_Jd_standardType_132 : decode kc_Jd_standardType 132 = .ok (.ireturn, 1) := by decide +kernel
theorem kd_Jd_wider_0 : decode kc_Jd_wider 0 = .ok (.iload_n 0, 1) := by decide +kernel
theorem kd_Jd_wider_1 : decode kc_Jd_wider 1 = .ok (.ifCond .eq 7, 3) := by decide +kernel
theorem kd_Jd_wider_4 : decode kc_Jd_wider 4 = .ok (.iload_n 1, 1) := by decide +kernel
theorem kd_Jd_wider_5 : decode kc_Jd_wider 5 = .ok (.ifCond .ne 7, 3) := by decide +kernel
theorem kd_Jd_wider_8 : decode kc_Jd_wider 8 = .ok (.iconst (-1), 1) := by decide +kernel
theorem kd_Jd_wider_9 : decode kc_Jd_wider 9 = .ok (.goto 8, 3) := by decide +kernel
theorem kd_Jd_wider_12 : decode kc_Jd_wider 12 = .ok (.iload_n 0, 1) := by decide +kernel
theorem kd_Jd_wider_13 : decode kc_Jd_wider 13 = .ok (.iload_n 1, 1) := by decide +kernel
theorem kd_Jd_wider_14 : decode kc_Jd_wider 14 = .ok (.invokestatic 298, 3) := by decide +kernel
theorem kd_Jd_wider_17 : decode kc_Jd_wider 17 = .ok (.ireturn, 1) := by decide +kernel
theorem kd_Nm_isStandardFunction_0 : decode kc_Nm_isStandardFunction 0 = .ok (.iload_n 0, 1) := by decide +kernel
theorem kd_Nm_isStandardFunction_1 : decode kc_Nm_isStandardFunction 1 = .ok (.bipush 50, 2) := by decide +kernel
theorem kd_Nm_isStandardFunction_3 : decode kc_Nm_isStandardFunction 3 = .ok (.if_icmp .lt 13, 3) := by decide +kernel
theorem kd_Nm_isStandardFunction_6 : decode kc_Nm_isStandardFunction 6 = .ok (.iload_n 0, 1) := by decide +kernel
theorem kd_Nm_isStandardFunction_7 : decode kc_Nm_isStandardFunction 7 = .ok (.bipush 60, 2) := by decide +kernel
theorem kd_Nm_isStandardFunction_9 : decode kc_Nm_isStandardFunction 9 = .ok (.if_icmp .ge 7, 3) := by decide +kernel
theorem kd_Nm_isStandardFunction_12 : decode kc_Nm_isStandardFunction 12 = .ok (.iconst 1, 1) := by decide +kernel
theorem kd_Nm_isStandardFunction_13 : decode kc_Nm_isStandardFunction 13 = .ok (.goto 4, 3) := by decide +kernel
theorem kd_Nm_isStandardFunction_16 : decode kc_Nm_isStandardFunction 16 = .ok (.iconst 0, 1) := by decide +kernel
theorem kd_Nm_isStandardFunction_17 : decode kc_Nm_isStandardFunction 17 = .ok (.ireturn, 1) := by decide +kernel
theorem kd_Pl_forget_0 : decode kc_Pl_forget 0 = .ok (.aload_n 0, 1) := by decide +kernel
theorem kd_Pl_forget_1 : decode kc_Pl_forget 1 = .ok (.getfield 59, 3) := by decide +kernel
theorem kd_Pl_forget_4 : decode kc_Pl_forget 4 = .ok (.iconst (-1), 1) := by decide +kernel
theorem kd_Pl_forget_5 : decode kc_Pl_forget 5 = .ok (.invokestatic 65, 3) := by decide +kernel
theorem kd_Pl_forget_8 : decode kc_Pl_forget 8 = .ok (.aload_n 0, 1) := by decide +kernel
theorem kd_Pl_forget_9 : decode kc_Pl_forget 9 = .ok (.getfield 62, 3) := by decide +kernel
theorem kd_Pl_forget_12 : decode kc_Pl_forget 12 = .ok (.iconst (-1), 1) := by decide +kernel
theorem kd_Pl_forget_13 : decode kc_Pl_forget 13 = .ok (.invokestatic 65, 3) := by decide +kernel
theorem kd_Pl_forget_16 : decode kc_Pl_forget 16 = .ok (.aload_n 0, 1) := by decide +kernel
theorem kd_Pl_forget_17 : decode kc_Pl_forget 17 = .ok (.iconst 0, 1) := by decide +kernel
theorem kd_Pl_forget_18 : decode kc_Pl_forget 18 = .ok (.putfield 71, 3) := by decide +kernel
theorem kd_Pl_forget_21 : decode kc_Pl_forget 21 = .ok (.aload_n 0, 1) := by decide +kernel
theorem kd_Pl_forget_22 : decode kc_Pl_forget 22 = .ok (.iconst 0, 1) := by decide +kernel
theorem kd_Pl_forget_23 : decode kc_Pl_forget 23 = .ok (.putfield 75, 3) := by decide +kernel
theorem kd_Pl_forget_26 : decode kc_Pl_forget 26 = .ok (.aload_n 0, 1) := by decide +kernel
theorem kd_Pl_forget_27 : decode kc_Pl_forget 27 = .ok (.iconst (-1), 1) := by decide +kernel
theorem kd_Pl_forget_28 : decode kc_Pl_forget 28 = .ok (.putfield 78, 3) := by decide +kernel
theorem kd_Pl_forget_31 : decode kc_Pl_forget 31 = .ok (.aload_n 0, 1) := by decide +kernel
theorem kd_Pl_forget_32 : decode kc_Pl_forget 32 = .ok (.iconst 0, 1) := by decide +kernel
theorem kd_Pl_forget_33 : decode kc_Pl_forget 33 = .ok (.putfield 81, 3) := by decide +kernel
theorem kd_Pl_forget_36 : decode kc_Pl_forget 36 = .ok (.iconst 0, 1) := by decide +kernel
theorem kd_Pl_forget_37 : decode kc_Pl_forget 37 = .ok (.istore_n 1, 1) := by decide +kernel
theorem kd_Pl_forget_38 : decode kc_Pl_forget 38 = .ok (.iconst 0, 1) := by decide +kernel
theorem kd_Pl_forget_39 : decode kc_Pl_forget 39 = .ok (.istore_n 2, 1) := by decide +kernel
theorem kd_Pl_forget_40 : decode kc_Pl_forget 40 = .ok (.iload_n 2, 1) := by decide +kernel
theorem kd_Pl_forget_41 : decode kc_Pl_forget 41 = .ok (.bipush 9, 2) := by decide +kernel
theorem kd_Pl_forget_43 : decode kc_Pl_forget 43 = .ok (.if_icmp .ge 72, 3) := by decide +kernel
theorem kd_Pl_forget_46 : decode kc_Pl_forget 46 = .ok (.aload_n 0, 1) := by decide +kernel
theorem kd_Pl_forget_47 : decode kc_Pl_forget 47 = .ok (.iconst 0, 1) := by decide +kernel
theorem kd_Pl_forget_48 : decode kc_Pl_forget 48 = .ok (.bipush 41, 2) := by decide +kernel
theorem kd_Pl_forget_50 : decode kc_Pl_forget 50 = .ok (.iload_n 2, 1) := by decide +kernel
theorem kd_Pl_forget_51 : decode kc_Pl_forget 51 = .ok (.iadd, 1) := by decide +kernel
theorem kd_Pl_forget_52 : decode kc_Pl_forget 52 = .ok (.iconst (-1), 1) := by decide +kernel
theorem kd_Pl_forget_53 : decode kc_Pl_forget 53 = .ok (.invokevirtual 84, 3) := by decide +kernel
theorem kd_Pl_forget_56 : decode kc_Pl_forget 56 = .ok (.pop, 1) := by decide +kernel
theorem kd_Pl_forget_57 : decode kc_Pl_forget 57 = .ok (.iload_n 1, 1) := by decide +kernel
theorem kd_Pl_forget_58 : decode kc_Pl_forget 58 = .ok (.iconst 4, 1) := by decide +kernel
theorem kd_Pl_forget_59 : decode kc_Pl_forget 59 = .ok (.iadd, 1) := by decide +kernel
theorem kd_Pl_forget_60 : decode kc_Pl_forget 60 = .ok (.getstatic 88, 3) := by decide +kernel
theorem kd_Pl_forget_63 : decode kc_Pl_forget 63 = .ok (.arraylength, 1) := by decide +kernel
theorem kd_Pl_forget_64 : decode kc_Pl_forget 64 = .ok (.if_icmp .ge 23, 3) := by decide +kernel
theorem kd_Pl_forget_67 : decode kc_Pl_forget 67 = .ok (.getstatic 88, 3) := by decide +kernel
theorem kd_Pl_forget_70 : decode kc_Pl_forget 70 = .ok (.iload_n 1, 1) := by decide +kernel
theorem kd_Pl_forget_71 : decode kc_Pl_forget 71 = .ok (.iaload, 1) := by decide +kernel
theorem kd_Pl_forget_72 : decode kc_Pl_forget 72 = .ok (.iload_n 2, 1) := by decide +kernel
theorem kd_Pl_forget_73 : decode kc_Pl_forget 73 = .ok (.if_icmp .ne 14, 3) := by decide +kernel
theorem kd_Pl_forget_76 : decode kc_Pl_forget 76 = .ok (.aload_n 0, 1) := by decide +kernel
theorem kd_Pl_forget_77 : decode kc_Pl_forget 77 = .ok (.iload_n 1, 1) := by decide +kernel
theorem kd_Pl_forget_78 : decode kc_Pl_forget 78 = .ok (.invokevirtual 91, 3) := by decide +kernel
theorem kd_Pl_forget_81 : decode kc_Pl_forget 81 = .ok (.iinc 1 5, 3) := by decide +kernel
theorem kd_Pl_forget_84 : decode kc_Pl_forget 84 = .ok (.goto (-27), 3) := by decide +kernel
theorem kd_Pl_forget_87 : decode kc_Pl_forget 87 = .ok (.aload_n 0, 1) := by decide +kernel
theorem kd_Pl_forget_88 : decode kc_Pl_forget 88 = .ok (.getfield 24, 3) := by decide +kernel
theorem kd_Pl_forget_91 : decode kc_Pl_forget 91 = .ok (.iload_n 2, 1) := by decide +kernel
theorem kd_Pl_forget_92 : decode kc_Pl_forget 92 = .ok (.getstatic 95, 3) := by decide +kernel
theorem kd_Pl_forget_95 : decode kc_Pl_forget 95 = .ok (.iload_n 2, 1) := by decide +kernel
theorem kd_Pl_forget_96 : decode kc_Pl_forget 96 = .ok (.iaload, 1) := by decide +kernel
theorem kd_Pl_forget_97 : decode kc_Pl_forget 97 = .ok (.iastore, 1) := by decide +kernel
theorem kd_Pl_forget_98 : decode kc_Pl_forget 98 = .ok (.aload_n 0, 1) := by decide +kernel
theorem kd_Pl_forget_99 : decode kc_Pl_forget 99 = .ok (.getfield 27, 3) := by decide +kernel
theorem kd_Pl_forget_102 : decode kc_Pl_forget 102 = .ok (.iload_n 2, 1) := by decide +kernel
theorem kd_Pl_forget_103 : decode kc_Pl_forget 103 = .ok (.getstatic 95, 3) := by decide +kernel
theorem kd_Pl_forget_106 : decode kc_Pl_forget 106 = .ok (.iload_n 2, 1) := by decide +kernel
theorem kd_Pl_forget_107 : decode kc_Pl_forget 107 = .ok (.iaload, 1) := by decide +kernel
theorem kd_Pl_forget_108 : decode kc_Pl_forget 108 = .ok (.iastore, 1) := by decide +kernel
theorem kd_Pl_forget_109 : decode kc_Pl_forget 109 = .ok (.iinc 2 1, 3) := by decide +kernel
theorem kd_Pl_forget_112 : decode kc_Pl_forget 112 = .ok (.goto (-72), 3) := by decide +kernel
theorem kd_Pl_forget_115 : decode kc_Pl_forget 115 = .ok (.return_, 1) := by decide +kernel
theorem kd_Pl_variableHere_0 : decode kc_Pl_variableHere 0 = .ok (.aload_n 0, 1) := by decide +kernel
theorem kd_Pl_variableHere_1 : decode kc_Pl_variableHere 1 = .ok (.getfield 62, 3) := by decide +kernel
theorem kd_Pl_variableHere_4 : decode kc_Pl_variableHere 4 = .ok (.iload_n 1, 1) := by decide +kernel
theorem kd_Pl_variableHere_5 : decode kc_Pl_variableHere 5 = .ok (.iaload, 1) := by decide +kernel
theorem kd_Pl_variableHere_6 : decode kc_Pl_variableHere 6 = .ok (.istore_n 2, 1) := by decide +kernel
theorem kd_Pl_variableHere_7 : decode kc_Pl_variableHere 7 = .ok (.aload_n 0, 1) := by decide +kernel
theorem kd_Pl_variableHere_8 : decode kc_Pl_variableHere 8 = .ok (.getfield 71, 3) := by decide +kernel
theorem kd_Pl_variableHere_11 : decode kc_Pl_variableHere 11 = .ok (.ifCond .le 22, 3) := by decide +kernel
theorem kd_Pl_variableHere_14 : decode kc_Pl_variableHere 14 = .ok (.iload_n 2, 1) := by decide +kernel
theorem kd_Pl_variableHere_15 : decode kc_Pl_variableHere 15 = .ok (.aload_n 0, 1) := by decide +kernel
theorem kd_Pl_variableHere_16 : decode kc_Pl_variableHere 16 = .ok (.getfield 18, 3) := by decide +kernel
theorem kd_Pl_variableHere_19 : decode kc_Pl_variableHere 19 = .ok (.aload_n 0, 1) := by decide +kernel
theorem kd_Pl_variableHere_20 : decode kc_Pl_variableHere 20 = .ok (.getfield 71, 3) := by decide +kernel
theorem kd_Pl_variableHere_23 : decode kc_Pl_variableHere 23 = .ok (.iconst 1, 1) := by decide +kernel
theorem kd_Pl_variableHere_24 : decode kc_Pl_variableHere 24 = .ok (.isub, 1) := by decide +kernel
theorem kd_Pl_variableHere_25 : decode kc_Pl_variableHere 25 = .ok (.iaload, 1) := by decide +kernel
theorem kd_Pl_variableHere_26 : decode kc_Pl_variableHere 26 = .ok (.if_icmp .lt 7, 3) := by decide +kernel
theorem kd_Pl_variableHere_29 : decode kc_Pl_variableHere 29 = .ok (.iload_n 2, 1) := by decide +kernel
theorem kd_Pl_variableHere_30 : decode kc_Pl_variableHere 30 = .ok (.goto 4, 3) := by decide +kernel
theorem kd_Pl_variableHere_33 : decode kc_Pl_variableHere 33 = .ok (.iconst (-1), 1) := by decide +kernel
theorem kd_Pl_variableHere_34 : decode kc_Pl_variableHere 34 = .ok (.ireturn, 1) := by decide +kernel
theorem kd_Tr_isConstant_0 : decode kc_Tr_isConstant 0 = .ok (.iload_n 1, 1) := by decide +kernel
theorem kd_Tr_isConstant_1 : decode kc_Tr_isConstant 1 = .ok (.iconst (-1), 1) := by decide +kernel
theorem kd_Tr_isConstant_2 : decode kc_Tr_isConstant 2 = .ok (.if_icmp .eq 29, 3) := by decide +kernel
theorem kd_Tr_isConstant_5 : decode kc_Tr_isConstant 5 = .ok (.aload_n 0, 1) := by decide +kernel
theorem kd_Tr_isConstant_6 : decode kc_Tr_isConstant 6 = .ok (.getfield 12, 3) := by decide +kernel
theorem kd_Tr_isConstant_9 : decode kc_Tr_isConstant 9 = .ok (.iload_n 1, 1) := by decide +kernel
theorem kd_Tr_isConstant_10 : decode kc_Tr_isConstant 10 = .ok (.baload, 1) := by decide +kernel
theorem kd_Tr_isConstant_11 : decode kc_Tr_isConstant 11 = .ok (.bipush 30, 2) := by decide +kernel
theorem kd_Tr_isConstant_13 : decode kc_Tr_isConstant 13 = .ok (.if_icmp .eq 14, 3) := by decide +kernel
theorem kd_Tr_isConstant_16 : decode kc_Tr_isConstant 16 = .ok (.aload_n 0, 1) := by decide +kernel
theorem kd_Tr_isConstant_17 : decode kc_Tr_isConstant 17 = .ok (.getfield 12, 3) := by decide +kernel
theorem kd_Tr_isConstant_20 : decode kc_Tr_isConstant 20 = .ok (.iload_n 1, 1) := by decide +kernel
theorem kd_Tr_isConstant_21 : decode kc_Tr_isConstant 21 = .ok (.baload, 1) := by decide +kernel
theorem kd_Tr_isConstant_22 : decode kc_Tr_isConstant 22 = .ok (.bipush 31, 2) := by decide +kernel
theorem kd_Tr_isConstant_24 : decode kc_Tr_isConstant 24 = .ok (.if_icmp .ne 7, 3) := by decide +kernel
theorem kd_Tr_isConstant_27 : decode kc_Tr_isConstant 27 = .ok (.iconst 1, 1) := by decide +kernel
theorem kd_Tr_isConstant_28 : decode kc_Tr_isConstant 28 = .ok (.goto 4, 3) := by decide +kernel
theorem kd_Tr_isConstant_31 : decode kc_Tr_isConstant 31 = .ok (.iconst 0, 1) := by decide +kernel
theorem kd_Tr_isConstant_32 : decode kc_Tr_isConstant 32 = .ok (.ireturn, 1) := by decide +kernel
set_option maxHeartbeats 4000000 in
set_option maxRecDepth 100000 in
theorem zb_Pl_forget_87 {X : zkj_T} {S : zs_T} {P : ze_T} {l : Launch} {D : va_G} {sz0 : Nat} {rh : zs_H} (C : zk_C X km_Pl_forget (zs_G S l D sz0) { frames := 3, cells := 0, slots := 0, locals := 68 } (ze_E P)) (hR : zkj_R X (zd_PV S rh) (none)) {k40 : zs_H → Int32 → Int32 → (Option zs_H)} (hk40 : ∀ (h : zs_H) (x1 : Int32) (x2 : Int32), k40 h x1 x2 = some rh → zk_Ab X (zs_W S h) 0 0 40 [(0, .ref (S.1 20)), (1, .int x1), (2, .int x2)] []) (h : zs_H) (x1 : Int32) (x2 : Int32) (e : f_Pl_forget_87 k40 h x1 x2 = some rh) : zk_Ab X (zs_W S h) 0 0 87 [(0, .ref (S.1 20)), (1, .int x1), (2, .int x2)] [] := by
  unfold f_Pl_forget_87 at e
  refine zk_aload_n C kd_Pl_forget_87 rfl 0 rfl rfl ?_
  refine zs_get (v := .ref (S.1 25)) C 20 4 rfl rfl rfl rfl ki_Pl (by decide) kw246 kd_Pl_forget_88 rfl ?_
  refine zk_iload_n C kd_Pl_forget_91 rfl 2 rfl rfl ?_
  refine ze_gets (j := 2) C rfl kw1022 kd_Pl_forget_92 rfl ?_
  refine zk_iload_n C kd_Pl_forget_95 rfl 2 rfl rfl ?_
  obtain ⟨q1, e⟩ := zd_g e
  refine ze_ti C rfl (zd_vp q1) kd_Pl_forget_96 rfl ?_
  refine zk_stk (r' := [.int (zt_2.getD x2.toNatClampNeg 0), .int x2, .ref (S.1 25)]) rfl ?_
  obtain ⟨q2, e⟩ := zd_g e
  refine zs_iast C 25 rfl (zd_vp q2) kd_Pl_forget_97 rfl ?_
  refine zk_aload_n C kd_Pl_forget_98 rfl 0 rfl rfl ?_
  refine zs_get (v := .ref (S.1 26)) C 20 5 rfl rfl rfl rfl ki_Pl (by decide) kw249 kd_Pl_forget_99 rfl ?_
  refine zk_iload_n C kd_Pl_forget_102 rfl 2 rfl rfl ?_
  refine ze_gets (j := 2) C rfl kw1022 kd_Pl_forget_103 rfl ?_
  refine zk_iload_n C kd_Pl_forget_106 rfl 2 rfl rfl ?_
  refine ze_ti C rfl (zd_vp q1) kd_Pl_forget_107 rfl ?_
  refine zk_stk (r' := [.int (zt_2.getD x2.toNatClampNeg 0), .int x2, .ref (S.1 26)]) rfl ?_
  refine zs_iast C 26 rfl (zd_vp q2) kd_Pl_forget_108 rfl ?_
  refine zk_iinc (v := (x2 + 1)) (lv' := [(2, _), (0, _), (1, _)]) C kd_Pl_forget_109 2 rfl rfl (by decide) rfl rfl ?_
  refine zk_goto (tgt := 40) C kd_Pl_forget_112 (by decide) ?_
  refine zk_lvs (lv' := [(0, .ref (S.1 20)), (1, .int x1), (2, .int (x2 + 1))]) [1, 2, 0] rfl ?_
  exact hk40 (zs_uM (zs_uM h 25 x2.toNatClampNeg (zt_2.getD x2.toNatClampNeg 0)) 26 x2.toNatClampNeg (zt_2.getD x2.toNatClampNeg 0)) x1 (x2 + 1) e
set_option maxHeartbeats 4000000 in
set_option maxRecDepth 100000 in
theorem zb_Pl_forget_57 {X : zkj_T} {S : zs_T} {P : ze_T} {l : Launch} {D : va_G} {sz0 : Nat} {rh : zs_H} (C : zk_C X km_Pl_forget (zs_G S l D sz0) { frames := 3, cells := 0, slots := 0, locals := 68 } (ze_E P)) (hR : zkj_R X (zd_PV S rh) (none)) {k40 : zs_H → Int32 → Int32 → (Option zs_H)} (hk40 : ∀ (h : zs_H) (x1 : Int32) (x2 : Int32), k40 h x1 x2 = some rh → zk_Ab X (zs_W S h) 0 0 40 [(0, .ref (S.1 20)), (1, .int x1), (2, .int x2)] []) {k57 : zs_H → Int32 → Int32 → (Option zs_H)} (hk57 : ∀ (h : zs_H) (x1 : Int32) (x2 : Int32), k57 h x1 x2 = some rh → zk_Ab X (zs_W S h) 0 0 57 [(0, .ref (S.1 20)), (1, .int x1), (2, .int x2)] []) (h : zs_H) (x1 : Int32) (x2 : Int32) (e : f_Pl_forget_57 k40 k57 h x1 x2 = some rh) : zk_Ab X (zs_W S h) 0 0 57 [(0, .ref (S.1 20)), (1, .int x1), (2, .int x2)] [] := by
  unfold f_Pl_forget_57 at e
  refine zk_iload_n C kd_Pl_forget_57 rfl 1 rfl rfl ?_
  refine zk_iconst (v := 4) C kd_Pl_forget_58 (by decide) rfl ?_
  refine zk_iadd C kd_Pl_forget_59 rfl ?_
  refine ze_gets (j := 1) C rfl kw1012 kd_Pl_forget_60 rfl ?_
  refine ze_tlen C rfl kd_Pl_forget_63 rfl ?_
  refine zk_stk (r' := [.int 160, .int (x1 + 4)]) rfl ?_
  refine zk_icmp_ge (tgt := 87) C kd_Pl_forget_64 (by decide) rfl (fun b1 => ?_) (fun b1 => ?_)
  · replace e := zd_pos b1 e
    refine zk_lvs (lv' := [(0, .ref (S.1 20)), (1, .int x1), (2, .int x2)]) [0, 1, 2] rfl ?_
    exact zb_Pl_forget_87 C hR hk40 h x1 x2 e
  · replace e := zd_neg b1 e
    refine ze_gets (j := 1) C rfl kw1012 kd_Pl_forget_67 rfl ?_
    refine zk_iload_n C kd_Pl_forget_70 rfl 1 rfl rfl ?_
    obtain ⟨q2, e⟩ := zd_g e
    refine ze_ti C rfl (zd_vp q2) kd_Pl_forget_71 rfl ?_
    refine zk_stk (r' := [.int (zt_1.getD x1.toNatClampNeg 0)]) rfl ?_
    refine zk_iload_n C kd_Pl_forget_72 rfl 2 rfl rfl ?_
    refine zk_icmp_ne (tgt := 87) C kd_Pl_forget_73 (by decide) rfl (fun b3 => ?_) (fun b3 => ?_)
    · replace e := zd_neg b3 e
      refine zk_lvs (lv' := [(0, .ref (S.1 20)), (1, .int x1), (2, .int x2)]) [0, 1, 2] rfl ?_
      exact zb_Pl_forget_87 C hR hk40 h x1 x2 e
    · replace e := zd_pos b3 e
      refine zk_aload_n C kd_Pl_forget_76 rfl 0 rfl rfl ?_
      refine zk_iload_n C kd_Pl_forget_77 rfl 1 rfl rfl ?_
      obtain ⟨h5, c4, e⟩ := zd_b e
      refine zs_callV (k := 20) (rn := { frames := 2, cells := 0, slots := 0, locals := 46 }) (As := [.int x1]) (rest := []) C (zc_Pl_addStandard h x1 c4) ku_Pl_addStandard kw1014 kv_Pl_addStandard rfl ⟨by decide, by decide⟩ ⟨by decide, by decide⟩ rfl rfl rfl (Nat.le_of_ble_eq_true rfl) kd_Pl_forget_78 rfl (c1 := 0) (s1 := 0) rfl rfl (fun v w hp => ?_)
      obtain ⟨rfl, rfl⟩ := hp
      refine zk_stk (r' := []) rfl ?_
      refine zk_iinc (v := (x1 + 5)) (lv' := [(1, _), (0, _), (2, _)]) C kd_Pl_forget_81 1 rfl rfl (by decide) rfl rfl ?_
      refine zk_goto (tgt := 57) C kd_Pl_forget_84 (by decide) ?_
      refine zk_lvs (lv' := [(0, .ref (S.1 20)), (1, .int (x1 + 5)), (2, .int x2)]) [1, 0, 2] rfl ?_
      exact hk57 h5 (x1 + 5) x2 e
theorem zl_Pl_forget_57 {X : zkj_T} {S : zs_T} {P : ze_T} {l : Launch} {D : va_G} {sz0 : Nat} {rh : zs_H} (C : zk_C X km_Pl_forget (zs_G S l D sz0) { frames := 3, cells := 0, slots := 0, locals := 68 } (ze_E P)) (hR : zkj_R X (zd_PV S rh) (none)) {k40 : zs_H → Int32 → Int32 → (Option zs_H)} (hk40 : ∀ (h : zs_H) (x1 : Int32) (x2 : Int32), k40 h x1 x2 = some rh → zk_Ab X (zs_W S h) 0 0 40 [(0, .ref (S.1 20)), (1, .int x1), (2, .int x2)] []) (n : Nat) : ∀ (h : zs_H) (x1 : Int32) (x2 : Int32), f_Pl_forget_L57 k40 n h x1 x2 = some rh → zk_Ab X (zs_W S h) 0 0 57 [(0, .ref (S.1 20)), (1, .int x1), (2, .int x2)] [] := by
  induction n with
  | zero => intro h x1 x2 e; exact zd_no e
  | succ n ih => intro h x1 x2 e; exact zb_Pl_forget_57 (k57 := f_Pl_forget_L57 k40 n) C hR hk40 ih h x1 x2 e
set_option maxHeartbeats 4000000 in
set_option maxRecDepth 100000 in
theorem zb_Pl_forget_40 {X : zkj_T} {S : zs_T} {P : ze_T} {l : Launch} {D : va_G} {sz0 : Nat} {rh : zs_H} (C : zk_C X km_Pl_forget (zs_G S l D sz0) { frames := 3, cells := 0, slots := 0, locals := 68 } (ze_E P)) (hR : zkj_R X (zd_PV S rh) (none)) {k40 : zs_H → Int32 → Int32 → (Option zs_H)} (hk40 : ∀ (h : zs_H) (x1 : Int32) (x2 : Int32), k40 h x1 x2 = some rh → zk_Ab X (zs_W S h) 0 0 40 [(0, .ref (S.1 20)), (1, .int x1), (2, .int x2)] []) (h : zs_H) (x1 : Int32) (x2 : Int32) (e : f_Pl_forget_40 k40 h x1 x2 = some rh) : zk_Ab X (zs_W S h) 0 0 40 [(0, .ref (S.1 20)), (1, .int x1), (2, .int x2)] [] := by
  unfold f_Pl_forget_40 at e
  refine zk_iload_n C kd_Pl_forget_40 rfl 2 rfl rfl ?_
  refine zk_bipush (v := 9) C kd_Pl_forget_41 (by decide) rfl ?_
  refine zk_icmp_ge (tgt := 115) C kd_Pl_forget_43 (by decide) rfl (fun b1 => ?_) (fun b1 => ?_)
  · replace e := zd_pos b1 e
    exact zk_vret C hR kd_Pl_forget_115 rfl rfl (zd_rV e)
  · replace e := zd_neg b1 e
    refine zk_aload_n C kd_Pl_forget_46 rfl 0 rfl rfl ?_
    refine zk_iconst (v := 0) C kd_Pl_forget_47 (by decide) rfl ?_
    refine zk_bipush (v := 41) C kd_Pl_forget_48 (by decide) rfl ?_
    refine zk_iload_n C kd_Pl_forget_50 rfl 2 rfl rfl ?_
    refine zk_iadd C kd_Pl_forget_51 rfl ?_
    refine zk_iconst (v := (-1)) C kd_Pl_forget_52 (by decide) rfl ?_
    obtain ⟨v3, h4, c2, e⟩ := zd_Be e
    refine zs_callV (k := 20) (rn := { frames := 1, cells := 0, slots := 0, locals := 23 }) (As := [.int 0, .int (41 + x2), .int (-1)]) (rest := []) C (zc_Pl_open h 0 (41 + x2) (-1) c2) ku_Pl_open kw1007 kv_Pl_open rfl ⟨by decide, by decide⟩ ⟨by decide, by decide⟩ rfl rfl rfl (Nat.le_of_ble_eq_true rfl) kd_Pl_forget_53 rfl (c1 := 0) (s1 := 0) rfl rfl (fun v w hp => ?_)
    obtain ⟨rfl, rfl⟩ := hp
    refine zk_stk (r' := [.int v3]) rfl ?_
    refine zk_pop C kd_Pl_forget_56 rfl rfl ?_
    refine zk_lvs (lv' := [(0, .ref (S.1 20)), (1, .int x1), (2, .int x2)]) [0, 1, 2] rfl ?_
    exact zl_Pl_forget_57 C hR hk40 zF h4 x1 x2 e
theorem zl_Pl_forget_40 {X : zkj_T} {S : zs_T} {P : ze_T} {l : Launch} {D : va_G} {sz0 : Nat} {rh : zs_H} (C : zk_C X km_Pl_forget (zs_G S l D sz0) { frames := 3, cells := 0, slots := 0, locals := 68 } (ze_E P)) (hR : zkj_R X (zd_PV S rh) (none)) (n : Nat) : ∀ (h : zs_H) (x1 : Int32) (x2 : Int32), f_Pl_forget_L40 n h x1 x2 = some rh → zk_Ab X (zs_W S h) 0 0 40 [(0, .ref (S.1 20)), (1, .int x1), (2, .int x2)] [] := by
  induction n with
  | zero => intro h x1 x2 e; exact zd_no e
  | succ n ih => intro h x1 x2 e; exact zb_Pl_forget_40 (k40 := f_Pl_forget_L40  n) C hR ih h x1 x2 e
set_option maxHeartbeats 4000000 in
set_option maxRecDepth 100000 in
theorem zc_Pl_forget {l : Launch} {D : va_G} {sz0 : Nat} {S : zs_T} {P : ze_T} (h : zs_H) {rh : zs_H} (e : f_Pl_forget h = some rh) : zk_Sp (zs_G S l D sz0) (ze_E P) km_Pl_forget { frames := 3, cells := 0, slots := 0, locals := 68 } [.ref (S.1 20)] (zs_W S h) (zd_PV S rh) := by
  refine zk_met ku_Pl_forget (Nat.le_of_ble_eq_true rfl) (ze_Em P) ?_
  intro X C hR
  refine zk_lvs (lv' := [(0, .ref (S.1 20))]) [0] rfl ?_
  unfold f_Pl_forget at e
  refine zk_aload_n C kd_Pl_forget_0 rfl 0 rfl rfl ?_
  refine zs_get (v := .ref (S.1 36)) C 20 15 rfl rfl rfl rfl ki_Pl (by decide) kw286 kd_Pl_forget_1 rfl ?_
  refine zk_iconst (v := (-1)) C kd_Pl_forget_4 (by decide) rfl ?_
  obtain ⟨h2, c1, e⟩ := zd_b e
  refine zk_callS (rn := { frames := 0, cells := 0, slots := 0, locals := 0 }) (As := [.ref (S.1 36), .int (-1)]) (rest := []) C (zc_Ar_fill_c36 h (-1) c1) ku_Ar_fill kw1006 ks_Ar_fill rfl ⟨by decide, by decide⟩ ⟨by decide, by decide⟩ rfl (Nat.le_of_ble_eq_true rfl) kd_Pl_forget_5 rfl (c1 := 0) (s1 := 0) rfl rfl (fun v w hp => ?_)
  obtain ⟨rfl, rfl⟩ := hp
  refine zk_stk (r' := []) rfl ?_
  refine zk_aload_n C kd_Pl_forget_8 rfl 0 rfl rfl ?_
  refine zs_get (v := .ref (S.1 37)) C 20 16 rfl rfl rfl rfl ki_Pl (by decide) kw288 kd_Pl_forget_9 rfl ?_
  refine zk_iconst (v := (-1)) C kd_Pl_forget_12 (by decide) rfl ?_
  obtain ⟨h4, c3, e⟩ := zd_b e
  refine zk_callS (rn := { frames := 0, cells := 0, slots := 0, locals := 0 }) (As := [.ref (S.1 37), .int (-1)]) (rest := []) C (zc_Ar_fill_c37 h2 (-1) c3) ku_Ar_fill kw1006 ks_Ar_fill rfl ⟨by decide, by decide⟩ ⟨by decide, by decide⟩ rfl (Nat.le_of_ble_eq_true rfl) kd_Pl_forget_13 rfl (c1 := 0) (s1 := 0) rfl rfl (fun v w hp => ?_)
  obtain ⟨rfl, rfl⟩ := hp
  refine zk_stk (r' := []) rfl ?_
  refine zk_aload_n C kd_Pl_forget_16 rfl 0 rfl rfl ?_
  refine zk_iconst (v := 0) C kd_Pl_forget_17 (by decide) rfl ?_
  refine zs_put (ty := .int) C 20 17 0 rfl rfl rfl rfl ki_Pl ky_Pl ko_Pl kn_Pl (by decide) kw290 rfl rfl rfl rfl (by decide) kd_Pl_forget_18 rfl ?_
  refine zk_aload_n C kd_Pl_forget_21 rfl 0 rfl rfl ?_
  refine zk_iconst (v := 0) C kd_Pl_forget_22 (by decide) rfl ?_
  refine zs_put (ty := .int) C 20 18 0 rfl rfl rfl rfl ki_Pl ky_Pl ko_Pl kn_Pl (by decide) kw292 rfl rfl rfl rfl (by decide) kd_Pl_forget_23 rfl ?_
  refine zk_aload_n C kd_Pl_forget_26 rfl 0 rfl rfl ?_
  refine zk_iconst (v := (-1)) C kd_Pl_forget_27 (by decide) rfl ?_
  refine zs_put (ty := .int) C 20 19 (-1) rfl rfl rfl rfl ki_Pl ky_Pl ko_Pl kn_Pl (by decide) kw294 rfl rfl rfl rfl (by decide) kd_Pl_forget_28 rfl ?_
  refine zk_aload_n C kd_Pl_forget_31 rfl 0 rfl rfl ?_
  refine zk_iconst (v := 0) C kd_Pl_forget_32 (by decide) rfl ?_
  refine zs_put (ty := .int) C 20 20 0 rfl rfl rfl rfl ki_Pl ky_Pl ko_Pl kn_Pl (by decide) kw298 rfl rfl rfl rfl (by decide) kd_Pl_forget_33 rfl ?_
  refine zk_iconst (v := 0) C kd_Pl_forget_36 (by decide) rfl ?_
  refine zk_istore_n (lv' := [(1, _), (0, _)]) C kd_Pl_forget_37 rfl (by decide) rfl rfl ?_
  refine zk_iconst (v := 0) C kd_Pl_forget_38 (by decide) rfl ?_
  refine zk_istore_n (lv' := [(2, _), (1, _), (0, _)]) C kd_Pl_forget_39 rfl (by decide) rfl rfl ?_
  refine zk_lvs (lv' := [(0, .ref (S.1 20)), (1, .int 0), (2, .int 0)]) [2, 1, 0] rfl ?_
  exact zl_Pl_forget_40 C hR zF (zs_uF (zs_uF (zs_uF (zs_uF h4 20 17 0) 20 18 0) 20 19 (-1)) 20 20 0) 0 0 e
set_option maxHeartbeats 4000000 in
set_option maxRecDepth 100000 in
theorem zc_Pl_variableHere {l : Launch} {D : va_G} {sz0 : Nat} {S : zs_T} {P : ze_T} (h : zs_H) (x1 : Int32) {rv : Int32} (e : f_Pl_variableHere h x1 = some rv) : zk_Sp (zs_G S l D sz0) (ze_E P) km_Pl_variableHere { frames := 0, cells := 0, slots := 0, locals := 0 } [.ref (S.1 20), .int x1] (zs_W S h) (zd_PI S rv h) := by
  refine zk_met ku_Pl_variableHere (Nat.le_of_ble_eq_true rfl) (ze_Em P) ?_
  intro X C hR
  refine zk_lvs (lv' := [(0, .ref (S.1 20)), (1, .int x1)]) [0, 1] rfl ?_
  unfold f_Pl_variableHere at e
  refine zk_aload_n C kd_Pl_variableHere_0 rfl 0 rfl rfl ?_
  refine zs_get (v := .ref (S.1 37)) C 20 16 rfl rfl rfl rfl ki_Pl (by decide) kw288 kd_Pl_variableHere_1 rfl ?_
  refine zk_iload_n C kd_Pl_variableHere_4 rfl 1 rfl rfl ?_
  obtain ⟨q1, e⟩ := zd_g e
  refine zs_iald C 37 rfl (zd_vp q1) kd_Pl_variableHere_5 rfl ?_
  refine zk_istore_n (lv' := [(2, _), (0, _), (1, _)]) C kd_Pl_variableHere_6 rfl (by decide) rfl rfl ?_
  refine zk_aload_n C kd_Pl_variableHere_7 rfl 1 rfl rfl ?_
  refine zs_get (v := .int (h.1 20 17)) C 20 17 rfl rfl rfl rfl ki_Pl (by decide) kw290 kd_Pl_variableHere_8 rfl ?_
  refine zk_if_le (tgt := 33) C kd_Pl_variableHere_11 (by decide) rfl (fun b2 => ?_) (fun b2 => ?_)
  · replace e := zd_pos b2 e
    refine zk_iconst (v := (-1)) C kd_Pl_variableHere_33 (by decide) rfl ?_
    exact zk_iret C hR kd_Pl_variableHere_34 rfl rfl (zd_rIO e)
  · replace e := zd_neg b2 e
    refine zk_iload_n C kd_Pl_variableHere_14 rfl 0 rfl rfl ?_
    refine zk_aload_n C kd_Pl_variableHere_15 rfl 1 rfl rfl ?_
    refine zs_get (v := .ref (S.1 23)) C 20 2 rfl rfl rfl rfl ki_Pl (by decide) kw239 kd_Pl_variableHere_16 rfl ?_
    refine zk_aload_n C kd_Pl_variableHere_19 rfl 1 rfl rfl ?_
    refine zs_get (v := .int (h.1 20 17)) C 20 17 rfl rfl rfl rfl ki_Pl (by decide) kw290 kd_Pl_variableHere_20 rfl ?_
    refine zk_iconst (v := 1) C kd_Pl_variableHere_23 (by decide) rfl ?_
    refine zk_isub C kd_Pl_variableHere_24 rfl ?_
    obtain ⟨q3, e⟩ := zd_g e
    refine zs_iald C 23 rfl (zd_vp q3) kd_Pl_variableHere_25 rfl ?_
    refine zk_icmp_lt (tgt := 33) C kd_Pl_variableHere_26 (by decide) rfl (fun b4 => ?_) (fun b4 => ?_)
    · replace e := zd_pos b4 e
      refine zk_iconst (v := (-1)) C kd_Pl_variableHere_33 (by decide) rfl ?_
      exact zk_iret C hR kd_Pl_variableHere_34 rfl rfl (zd_rIO e)
    · replace e := zd_neg b4 e
      refine zk_iload_n C kd_Pl_variableHere_29 rfl 0 rfl rfl ?_
      refine zk_goto (tgt := 34) C kd_Pl_variableHere_30 (by decide) ?_
      exact zk_iret C hR kd_Pl_variableHere_34 rfl rfl (zd_rIO e)
set_option maxHeartbeats 4000000 in
set_option maxRecDepth 100000 in
theorem zc_Jd_refuse {l : Launch} {D : va_G} {sz0 : Nat} {S : zs_T} {P : ze_T} (h : zs_H) (x1 : Int32) (x2 : Int32) {rh : zs_H} (e : f_Jd_refuse h x1 x2 = some rh) : zk_Sp (zs_G S l D sz0) (ze_E P) km_Jd_refuse { frames := 0, cells := 0, slots := 0, locals := 0 } [.ref (S.1 38), .int x1, .int x2] (zs_W S h) (zd_PV S rh) := by
  refine zk_met ku_Jd_refuse (Nat.le_of_ble_eq_true rfl) (ze_Em P) ?_
  intro X C hR
  refine zk_lvs (lv' := [(0, .ref (S.1 38)), (1, .int x1), (2, .int x2)]) [0, 1, 2] rfl ?_
  unfold f_Jd_refuse at e
  refine zk_aload_n C kd_Jd_refuse_0 rfl 0 rfl rfl ?_
  refine zs_get (v := .int (h.1 38 3)) C 38 3 rfl rfl rfl rfl ki_Jd (by decide) kw354 kd_Jd_refuse_1 rfl ?_
  refine zk_if_ne (tgt := 25) C kd_Jd_refuse_4 (by decide) rfl (fun b1 => ?_) (fun b1 => ?_)
  · replace e := zd_neg b1 e
    exact zk_vret C hR kd_Jd_refuse_25 rfl rfl (zd_rV e)
  · replace e := zd_pos b1 e
    refine zk_aload_n C kd_Jd_refuse_7 rfl 0 rfl rfl ?_
    refine zk_iload_n C kd_Jd_refuse_8 rfl 1 rfl rfl ?_
    refine zs_put (ty := .int) C 38 3 x1 rfl rfl rfl rfl ki_Jd ky_Jd ko_Jd kn_Jd (by decide) kw354 rfl rfl rfl rfl (by decide) kd_Jd_refuse_9 rfl ?_
    refine zk_aload_n C kd_Jd_refuse_12 rfl 0 rfl rfl ?_
    refine zk_aload_n C kd_Jd_refuse_13 rfl 0 rfl rfl ?_
    refine zs_get (v := .ref (S.1 12)) C 38 1 rfl rfl rfl rfl ki_Jd (by decide) kw352 kd_Jd_refuse_14 rfl ?_
    refine zs_get (v := .ref (S.1 15)) C 12 2 rfl rfl rfl rfl ki_Tr (by decide) kw163 kd_Jd_refuse_17 rfl ?_
    refine zk_iload_n C kd_Jd_refuse_20 rfl 2 rfl rfl ?_
    obtain ⟨q2, e⟩ := zd_g e
    refine zs_cald C 15 rfl (zd_vp q2) kd_Jd_refuse_21 rfl ?_
    refine zk_stk (r' := [.int (h.2.1 15 x2.toNatClampNeg), .ref (S.1 38)]) rfl ?_
    refine zs_put (ty := .int) C 38 0 (h.2.1 15 x2.toNatClampNeg) rfl rfl rfl rfl ki_Jd ky_Jd ko_Jd kn_Jd (by decide) kw350 rfl rfl rfl rfl (by decide) kd_Jd_refuse_22 rfl ?_
    exact zk_vret C hR kd_Jd_refuse_25 rfl rfl (zd_rV e)
set_option maxHeartbeats 4000000 in
set_option maxRecDepth 100000 in
theorem zc_Jd_refuseIf {l : Launch} {D : va_G} {sz0 : Nat} {S : zs_T} {P : ze_T} (h : zs_H) (x1 : Int32) (x2 : Int32) (x3 : Int32) {rh : zs_H} (e : f_Jd_refuseIf h x1 x2 x3 = some rh) : zk_Sp (zs_G S l D sz0) (ze_E P) km_Jd_refuseIf { frames := 1, cells := 0, slots := 0, locals := 22 } [.ref (S.1 38), .int x1, .int x2, .int x3] (zs_W S h) (zd_PV S rh) := by
  refine zk_met ku_Jd_refuseIf (Nat.le_of_ble_eq_true rfl) (ze_Em P) ?_
  intro X C hR
  refine zk_lvs (lv' := [(0, .ref (S.1 38)), (1, .int x1), (2, .int x2), (3, .int x3)]) [0, 1, 2, 3] rfl ?_
  unfold f_Jd_refuseIf at e
  refine zk_iload_n C kd_Jd_refuseIf_0 rfl 1 rfl rfl ?_
  refine zk_if_eq (tgt := 10) C kd_Jd_refuseIf_1 (by decide) rfl (fun b1 => ?_) (fun b1 => ?_)
  · replace e := zd_pos b1 e
    exact zk_vret C hR kd_Jd_refuseIf_10 rfl rfl (zd_rV e)
  · replace e := zd_neg b1 e
    refine zk_aload_n C kd_Jd_refuseIf_4 rfl 0 rfl rfl ?_
    refine zk_iload_n C kd_Jd_refuseIf_5 rfl 2 rfl rfl ?_
    refine zk_iload_n C kd_Jd_refuseIf_6 rfl 3 rfl rfl ?_
    obtain ⟨h3, c2, e⟩ := zd_b e
    refine zs_callV (k := 38) (rn := { frames := 0, cells := 0, slots := 0, locals := 0 }) (As := [.int x2, .int x3]) (rest := []) C (zc_Jd_refuse h x2 x3 c2) ku_Jd_refuse kw1040 kv_Jd_refuse rfl ⟨by decide, by decide⟩ ⟨by decide, by decide⟩ rfl rfl rfl (Nat.le_of_ble_eq_true rfl) kd_Jd_refuseIf_7 rfl (c1 := 0) (s1 := 0) rfl rfl (fun v w hp => ?_)
    obtain ⟨rfl, rfl⟩ := hp
    refine zk_stk (r' := []) rfl ?_
    exact zk_vret C hR kd_Jd_refuseIf_10 rfl rfl (zd_rV e)
set_option maxHeartbeats 4000000 in
set_option maxRecDepth 100000 in
theorem zc_Nm_isStandardFunction {l : Launch} {D : va_G} {sz0 : Nat} {S : zs_T} {P : ze_T} (h : zs_H) (x0 : Int32) : zk_Sp (zs_G S l D sz0) (ze_E P) km_Nm_isStandardFunction { frames := 0, cells := 0, slots := 0, locals := 0 } [.int x0] (zs_W S h) (zd_PZ S (f_Nm_isStandardFunction x0) h) := by
  obtain ⟨rv, e⟩ : ∃ rv, f_Nm_isStandardFunction x0 = rv := ⟨_, rfl⟩
  rw [e]
  refine zk_met ku_Nm_isStandardFunction (Nat.le_of_ble_eq_true rfl) (ze_Em P) ?_
  intro X C hR
  refine zk_lvs (lv' := [(0, .int x0)]) [0] rfl ?_
  unfold f_Nm_isStandardFunction at e
  refine zk_iload_n C kd_Nm_isStandardFunction_0 rfl 0 rfl rfl ?_
  refine zk_bipush (v := 50) C kd_Nm_isStandardFunction_1 (by decide) rfl ?_
  refine zk_icmp_lt (tgt := 16) C kd_Nm_isStandardFunction_3 (by decide) rfl (fun b1 => ?_) (fun b1 => ?_)
  · replace e := zd_pos b1 e
    refine zk_iconst (v := 0) C kd_Nm_isStandardFunction_16 (by decide) rfl ?_
    exact zk_zret C hR (zd_nb (Or.inl rfl)) kd_Nm_isStandardFunction_17 rfl rfl (zd_rZT (Or.inl rfl) e)
  · replace e := zd_neg b1 e
    refine zk_iload_n C kd_Nm_isStandardFunction_6 rfl 0 rfl rfl ?_
    refine zk_bipush (v := 60) C kd_Nm_isStandardFunction_7 (by decide) rfl ?_
    refine zk_icmp_ge (tgt := 16) C kd_Nm_isStandardFunction_9 (by decide) rfl (fun b2 => ?_) (fun b2 => ?_)
    · replace e := zd_pos b2 e
      refine zk_iconst (v := 0) C kd_Nm_isStandardFunction_16 (by decide) rfl ?_
      exact zk_zret C hR (zd_nb (Or.inl rfl)) kd_Nm_isStandardFunction_17 rfl rfl (zd_rZT (Or.inl rfl) e)
    · replace e := zd_neg b2 e
      refine zk_iconst (v := 1) C kd_Nm_isStandardFunction_12 (by decide) rfl ?_
      refine zk_goto (tgt := 17) C kd_Nm_isStandardFunction_13 (by decide) ?_
      exact zk_zret C hR (zd_nb (Or.inr rfl)) kd_Nm_isStandardFunction_17 rfl rfl (zd_rZT (Or.inr rfl) e)
set_option maxHeartbeats 4000000 in
set_option maxRecDepth 100000 in
theorem zb_Jd_enterBlock_59 {X : zkj_T} {S : zs_T} {P : ze_T} {l : Launch} {D : va_G} {sz0 : Nat} {rh : zs_H} (C : zk_C X km_Jd_enterBlock (zs_G S l D sz0) { frames := 2, cells := 0, slots := 0, locals := 47 } (ze_E P)) (hR : zkj_R X (zd_PV S rh) (none)) (h : zs_H) (x1 : Int32) (x2 : Int32) (y0 : Int32) (e : f_Jd_enterBlock_59 h x1 x2 y0 = some rh) : zk_Ab X (zs_W S h) 0 0 59 [(0, .ref (S.1 38)), (1, .int x1), (2, .int x2)] [.int y0, .ref (S.1 38)] := by
  unfold f_Jd_enterBlock_59 at e
  refine zk_bipush (v := 11) C kd_Jd_enterBlock_59 (by decide) rfl ?_
  refine zk_iload_n C kd_Jd_enterBlock_61 rfl 1 rfl rfl ?_
  obtain ⟨h2, c1, e⟩ := zd_b e
  refine zs_callV (k := 38) (rn := { frames := 1, cells := 0, slots := 0, locals := 22 }) (As := [.int y0, .int 11, .int x1]) (rest := []) C (zc_Jd_refuseIf h y0 11 x1 c1) ku_Jd_refuseIf kw1036 kv_Jd_refuseIf rfl ⟨by decide, by decide⟩ ⟨by decide, by decide⟩ rfl rfl rfl (Nat.le_of_ble_eq_true rfl) kd_Jd_enterBlock_62 rfl (c1 := 0) (s1 := 0) rfl rfl (fun v w hp => ?_)
  obtain ⟨rfl, rfl⟩ := hp
  refine zk_stk (r' := []) rfl ?_
  refine zk_aload_n C kd_Jd_enterBlock_65 rfl 0 rfl rfl ?_
  refine zs_get (v := .int (h2.1 38 3)) C 38 3 rfl rfl rfl rfl ki_Jd (by decide) kw354 kd_Jd_enterBlock_66 rfl ?_
  refine zk_if_eq (tgt := 73) C kd_Jd_enterBlock_69 (by decide) rfl (fun b3 => ?_) (fun b3 => ?_)
  · replace e := zd_pos b3 e
    refine zk_aload_n C kd_Jd_enterBlock_73 rfl 0 rfl rfl ?_
    refine zk_aload_n C kd_Jd_enterBlock_74 rfl 0 rfl rfl ?_
    refine zs_get (v := .ref (S.1 20)) C 38 2 rfl rfl rfl rfl ki_Jd (by decide) kw353 kd_Jd_enterBlock_75 rfl ?_
    refine zk_aload_n C kd_Jd_enterBlock_78 rfl 0 rfl rfl ?_
    refine zs_get (v := .ref (S.1 12)) C 38 1 rfl rfl rfl rfl ki_Jd (by decide) kw352 kd_Jd_enterBlock_79 rfl ?_
    refine zs_get (v := .ref (S.1 13)) C 12 0 rfl rfl rfl rfl ki_Tr (by decide) kw157 kd_Jd_enterBlock_82 rfl ?_
    refine zk_iload_n C kd_Jd_enterBlock_85 rfl 1 rfl rfl ?_
    obtain ⟨q4, e⟩ := zd_g e
    refine zs_bald C 13 rfl (zd_vp q4) kd_Jd_enterBlock_86 rfl ?_
    refine zk_iload_n C kd_Jd_enterBlock_87 rfl 2 rfl rfl ?_
    refine zk_iload_n C kd_Jd_enterBlock_88 rfl 1 rfl rfl ?_
    obtain ⟨v6, h7, c5, e⟩ := zd_Be e
    refine zs_callV (k := 20) (rn := { frames := 1, cells := 0, slots := 0, locals := 23 }) (As := [.int (h2.2.1 13 x1.toNatClampNeg), .int x2, .int x1]) (rest := [.ref (S.1 38)]) C (zc_Pl_open h2 (h2.2.1 13 x1.toNatClampNeg) x2 x1 c5) ku_Pl_open kw1047 kv_Pl_open rfl ⟨by decide, by decide⟩ ⟨by decide, by decide⟩ rfl rfl rfl (Nat.le_of_ble_eq_true rfl) kd_Jd_enterBlock_89 rfl (c1 := 0) (s1 := 0) rfl rfl (fun v w hp => ?_)
    obtain ⟨rfl, rfl⟩ := hp
    refine zk_stk (r' := [.int v6, .ref (S.1 38)]) rfl ?_
    refine zs_put (ty := .int) C 38 4 v6 rfl rfl rfl rfl ki_Jd ky_Jd ko_Jd kn_Jd (by decide) kw355 rfl rfl rfl rfl (by decide) kd_Jd_enterBlock_92 rfl ?_
    refine zk_aload_n C kd_Jd_enterBlock_95 rfl 0 rfl rfl ?_
    refine zk_iconst (v := 0) C kd_Jd_enterBlock_96 (by decide) rfl ?_
    refine zs_put (ty := .int) C 38 10 0 rfl rfl rfl rfl ki_Jd ky_Jd ko_Jd kn_Jd (by decide) kw361 rfl rfl rfl rfl (by decide) kd_Jd_enterBlock_97 rfl ?_
    refine zk_aload_n C kd_Jd_enterBlock_100 rfl 0 rfl rfl ?_
    refine zs_get (v := .ref (S.1 12)) C 38 1 rfl rfl rfl rfl ki_Jd (by decide) kw352 kd_Jd_enterBlock_101 rfl ?_
    refine zs_get (v := .ref (S.1 13)) C 12 0 rfl rfl rfl rfl ki_Tr (by decide) kw157 kd_Jd_enterBlock_104 rfl ?_
    refine zk_iload_n C kd_Jd_enterBlock_107 rfl 1 rfl rfl ?_
    obtain ⟨q8, e⟩ := zd_g e
    refine zs_bald C 13 rfl (zd_vp q8) kd_Jd_enterBlock_108 rfl ?_
    refine zk_stk (r' := [.int (h7.2.1 13 x1.toNatClampNeg)]) rfl ?_
    refine zk_iconst (v := 1) C kd_Jd_enterBlock_109 (by decide) rfl ?_
    refine zk_icmp_ne (tgt := 160) C kd_Jd_enterBlock_110 (by decide) rfl (fun b9 => ?_) (fun b9 => ?_)
    · replace e := zd_neg b9 e
      exact zk_vret C hR kd_Jd_enterBlock_160 rfl rfl (zd_rV e)
    · replace e := zd_pos b9 e
      refine zk_aload_n C kd_Jd_enterBlock_113 rfl 0 rfl rfl ?_
      refine zs_get (v := .ref (S.1 20)) C 38 2 rfl rfl rfl rfl ki_Jd (by decide) kw353 kd_Jd_enterBlock_114 rfl ?_
      refine zs_get (v := .ref (S.1 31)) C 20 10 rfl rfl rfl rfl ki_Pl (by decide) kw266 kd_Jd_enterBlock_117 rfl ?_
      refine zk_aload_n C kd_Jd_enterBlock_120 rfl 0 rfl rfl ?_
      refine zs_get (v := .ref (S.1 20)) C 38 2 rfl rfl rfl rfl ki_Jd (by decide) kw353 kd_Jd_enterBlock_121 rfl ?_
      refine zk_iload_n C kd_Jd_enterBlock_124 rfl 2 rfl rfl ?_
      refine zk_iconst (v := 3) C kd_Jd_enterBlock_125 (by decide) rfl ?_
      obtain ⟨v11, h12, c10, e⟩ := zd_Be e
      refine zs_callV (k := 20) (rn := { frames := 1, cells := 0, slots := 0, locals := 23 }) (As := [.int x2, .int 3]) (rest := [.ref (S.1 31)]) C (zc_Pl_add (zs_uF (zs_uF h7 38 4 v6) 38 10 0) x2 3 c10) ku_Pl_add kw1048 kv_Pl_add rfl ⟨by decide, by decide⟩ ⟨by decide, by decide⟩ rfl rfl rfl (Nat.le_of_ble_eq_true rfl) kd_Jd_enterBlock_126 rfl (c1 := 0) (s1 := 0) rfl rfl (fun v w hp => ?_)
      obtain ⟨rfl, rfl⟩ := hp
      refine zk_stk (r' := [.int v11, .ref (S.1 31)]) rfl ?_
      refine zk_aload_n C kd_Jd_enterBlock_129 rfl 0 rfl rfl ?_
      refine zs_get (v := .ref (S.1 12)) C 38 1 rfl rfl rfl rfl ki_Jd (by decide) kw352 kd_Jd_enterBlock_130 rfl ?_
      refine zs_get (v := .ref (S.1 16)) C 12 3 rfl rfl rfl rfl ki_Tr (by decide) kw168 kd_Jd_enterBlock_133 rfl ?_
      refine zk_aload_n C kd_Jd_enterBlock_136 rfl 0 rfl rfl ?_
      refine zs_get (v := .ref (S.1 12)) C 38 1 rfl rfl rfl rfl ki_Jd (by decide) kw352 kd_Jd_enterBlock_137 rfl ?_
      refine zs_get (v := .ref (S.1 17)) C 12 4 rfl rfl rfl rfl ki_Tr (by decide) kw170 kd_Jd_enterBlock_140 rfl ?_
      refine zk_iload_n C kd_Jd_enterBlock_143 rfl 1 rfl rfl ?_
      obtain ⟨q13, e⟩ := zd_g e
      refine zs_iald C 17 rfl (zd_vp q13) kd_Jd_enterBlock_144 rfl ?_
      obtain ⟨q14, e⟩ := zd_g e
      refine zs_iald C 16 rfl (zd_vp q14) kd_Jd_enterBlock_145 rfl ?_
      obtain ⟨q15, e⟩ := zd_g e
      refine zs_iast C 31 rfl (zd_vp q15) kd_Jd_enterBlock_146 rfl ?_
      refine zk_aload_n C kd_Jd_enterBlock_147 rfl 0 rfl rfl ?_
      refine zs_get (v := .ref (S.1 20)) C 38 2 rfl rfl rfl rfl ki_Jd (by decide) kw353 kd_Jd_enterBlock_148 rfl ?_
      refine zs_get (v := .ref (S.1 25)) C 20 4 rfl rfl rfl rfl ki_Pl (by decide) kw248 kd_Jd_enterBlock_151 rfl ?_
      refine zk_aload_n C kd_Jd_enterBlock_154 rfl 0 rfl rfl ?_
      refine zs_get (v := .int (h12.1 38 4)) C 38 4 rfl rfl rfl rfl ki_Jd (by decide) kw355 kd_Jd_enterBlock_155 rfl ?_
      refine zk_iconst (v := 1) C kd_Jd_enterBlock_158 (by decide) rfl ?_
      obtain ⟨q16, e⟩ := zd_g e
      refine zs_iast C 25 rfl (zd_vp q16) kd_Jd_enterBlock_159 rfl ?_
      exact zk_vret C hR kd_Jd_enterBlock_160 rfl rfl (zd_rV e)
  · replace e := zd_neg b3 e
    exact zk_vret C hR kd_Jd_enterBlock_72 rfl rfl (zd_rV e)
set_option maxHeartbeats 4000000 in
set_option maxRecDepth 100000 in
theorem zb_Jd_enterBlock_54 {X : zkj_T} {S : zs_T} {P : ze_T} {l : Launch} {D : va_G} {sz0 : Nat} {rh : zs_H} (C : zk_C X km_Jd_enterBlock (zs_G S l D sz0) { frames := 2, cells := 0, slots := 0, locals := 47 } (ze_E P)) (hR : zkj_R X (zd_PV S rh) (none)) (h : zs_H) (x1 : Int32) (x2 : Int32) (e : f_Jd_enterBlock_54 h x1 x2 = some rh) : zk_Ab X (zs_W S h) 0 0 54 [(0, .ref (S.1 38)), (1, .int x1), (2, .int x2)] [.ref (S.1 38)] := by
  unfold f_Jd_enterBlock_54 at e
  refine zk_iconst (v := 1) C kd_Jd_enterBlock_54 (by decide) rfl ?_
  refine zk_goto (tgt := 59) C kd_Jd_enterBlock_55 (by decide) ?_
  refine zk_lvs (lv' := [(0, .ref (S.1 38)), (1, .int x1), (2, .int x2)]) [0, 1, 2] rfl ?_
  exact zb_Jd_enterBlock_59 C hR h x1 x2 1 e
set_option maxHeartbeats 4000000 in
set_option maxRecDepth 100000 in
theorem zb_Jd_enterBlock_27 {X : zkj_T} {S : zs_T} {P : ze_T} {l : Launch} {D : va_G} {sz0 : Nat} {rh : zs_H} (C : zk_C X km_Jd_enterBlock (zs_G S l D sz0) { frames := 2, cells := 0, slots := 0, locals := 47 } (ze_E P)) (hR : zkj_R X (zd_PV S rh) (none)) (h : zs_H) (x1 : Int32) (x2 : Int32) (y0 : Int32) (e : f_Jd_enterBlock_27 h x1 x2 y0 = some rh) : zk_Ab X (zs_W S h) 0 0 27 [(0, .ref (S.1 38)), (1, .int x1), (2, .int x2)] [.int y0, .ref (S.1 38)] := by
  unfold f_Jd_enterBlock_27 at e
  refine zk_bipush (v := 10) C kd_Jd_enterBlock_27 (by decide) rfl ?_
  refine zk_iload_n C kd_Jd_enterBlock_29 rfl 1 rfl rfl ?_
  obtain ⟨h2, c1, e⟩ := zd_b e
  refine zs_callV (k := 38) (rn := { frames := 1, cells := 0, slots := 0, locals := 22 }) (As := [.int y0, .int 10, .int x1]) (rest := []) C (zc_Jd_refuseIf h y0 10 x1 c1) ku_Jd_refuseIf kw1036 kv_Jd_refuseIf rfl ⟨by decide, by decide⟩ ⟨by decide, by decide⟩ rfl rfl rfl (Nat.le_of_ble_eq_true rfl) kd_Jd_enterBlock_30 rfl (c1 := 0) (s1 := 0) rfl rfl (fun v w hp => ?_)
  obtain ⟨rfl, rfl⟩ := hp
  refine zk_stk (r' := []) rfl ?_
  refine zk_aload_n C kd_Jd_enterBlock_33 rfl 0 rfl rfl ?_
  refine zk_aload_n C kd_Jd_enterBlock_34 rfl 0 rfl rfl ?_
  refine zs_get (v := .ref (S.1 20)) C 38 2 rfl rfl rfl rfl ki_Jd (by decide) kw353 kd_Jd_enterBlock_35 rfl ?_
  refine zs_get (v := .ref (S.1 36)) C 20 15 rfl rfl rfl rfl ki_Pl (by decide) kw287 kd_Jd_enterBlock_38 rfl ?_
  refine zk_iload_n C kd_Jd_enterBlock_41 rfl 2 rfl rfl ?_
  obtain ⟨q3, e⟩ := zd_g e
  refine zs_iald C 36 rfl (zd_vp q3) kd_Jd_enterBlock_42 rfl ?_
  refine zk_iconst (v := (-1)) C kd_Jd_enterBlock_43 (by decide) rfl ?_
  refine zk_icmp_ne (tgt := 54) C kd_Jd_enterBlock_44 (by decide) rfl (fun b4 => ?_) (fun b4 => ?_)
  · replace e := zd_neg b4 e
    refine zk_lvs (lv' := [(0, .ref (S.1 38)), (1, .int x1), (2, .int x2)]) [0, 1, 2] rfl ?_
    exact zb_Jd_enterBlock_54 C hR h2 x1 x2 e
  · replace e := zd_pos b4 e
    refine zk_iload_n C kd_Jd_enterBlock_47 rfl 2 rfl rfl ?_
    refine zk_callS (rn := { frames := 0, cells := 0, slots := 0, locals := 0 }) (As := [.int x2]) (rest := [.ref (S.1 38)]) C (zc_Nm_isStandardFunction h2 x2) ku_Nm_isStandardFunction kw1044 ks_Nm_isStandardFunction rfl ⟨by decide, by decide⟩ ⟨by decide, by decide⟩ rfl (Nat.le_of_ble_eq_true rfl) kd_Jd_enterBlock_48 rfl (c1 := 0) (s1 := 0) rfl rfl (fun v w hp => ?_)
    obtain ⟨rfl, rfl, z5⟩ := hp
    refine zk_stk (r' := [.int (f_Nm_isStandardFunction x2), .ref (S.1 38)]) rfl ?_
    refine zk_if_eq (tgt := 58) C kd_Jd_enterBlock_51 (by decide) rfl (fun b6 => ?_) (fun b6 => ?_)
    · replace e := zd_pos b6 e
      refine zk_iconst (v := 0) C kd_Jd_enterBlock_58 (by decide) rfl ?_
      refine zk_lvs (lv' := [(0, .ref (S.1 38)), (1, .int x1), (2, .int x2)]) [0, 1, 2] rfl ?_
      exact zb_Jd_enterBlock_59 C hR h2 x1 x2 0 e
    · replace e := zd_neg b6 e
      refine zk_lvs (lv' := [(0, .ref (S.1 38)), (1, .int x1), (2, .int x2)]) [0, 1, 2] rfl ?_
      exact zb_Jd_enterBlock_54 C hR h2 x1 x2 e
set_option maxHeartbeats 4000000 in
set_option maxRecDepth 100000 in
theorem zc_Jd_enterBlock {l : Launch} {D : va_G} {sz0 : Nat} {S : zs_T} {P : ze_T} (h : zs_H) (x1 : Int32) {rh : zs_H} (e : f_Jd_enterBlock h x1 = some rh) : zk_Sp (zs_G S l D sz0) (ze_E P) km_Jd_enterBlock { frames := 2, cells := 0, slots := 0, locals := 47 } [.ref (S.1 38), .int x1] (zs_W S h) (zd_PV S rh) := by
  refine zk_met ku_Jd_enterBlock (Nat.le_of_ble_eq_true rfl) (ze_Em P) ?_
  intro X C hR
  refine zk_lvs (lv' := [(0, .ref (S.1 38)), (1, .int x1)]) [0, 1] rfl ?_
  unfold f_Jd_enterBlock at e
  refine zk_aload_n C kd_Jd_enterBlock_0 rfl 0 rfl rfl ?_
  refine zs_get (v := .ref (S.1 12)) C 38 1 rfl rfl rfl rfl ki_Jd (by decide) kw352 kd_Jd_enterBlock_1 rfl ?_
  refine zs_get (v := .ref (S.1 16)) C 12 3 rfl rfl rfl rfl ki_Tr (by decide) kw168 kd_Jd_enterBlock_4 rfl ?_
  refine zk_iload_n C kd_Jd_enterBlock_7 rfl 1 rfl rfl ?_
  obtain ⟨q1, e⟩ := zd_g e
  refine zs_iald C 16 rfl (zd_vp q1) kd_Jd_enterBlock_8 rfl ?_
  refine zk_istore_n (lv' := [(2, _), (0, _), (1, _)]) C kd_Jd_enterBlock_9 rfl (by decide) rfl rfl ?_
  refine zk_aload_n C kd_Jd_enterBlock_10 rfl 1 rfl rfl ?_
  refine zk_aload_n C kd_Jd_enterBlock_11 rfl 1 rfl rfl ?_
  refine zs_get (v := .ref (S.1 20)) C 38 2 rfl rfl rfl rfl ki_Jd (by decide) kw353 kd_Jd_enterBlock_12 rfl ?_
  refine zs_get (v := .int (h.1 20 19)) C 20 19 rfl rfl rfl rfl ki_Pl (by decide) kw296 kd_Jd_enterBlock_15 rfl ?_
  refine zk_iconst (v := (-1)) C kd_Jd_enterBlock_18 (by decide) rfl ?_
  refine zk_icmp_eq (tgt := 26) C kd_Jd_enterBlock_19 (by decide) rfl (fun b2 => ?_) (fun b2 => ?_)
  · replace e := zd_pos b2 e
    refine zk_iconst (v := 0) C kd_Jd_enterBlock_26 (by decide) rfl ?_
    refine zk_lvs (lv' := [(0, .ref (S.1 38)), (1, .int x1), (2, .int (h.2.1 16 x1.toNatClampNeg))]) [1, 2, 0] rfl ?_
    exact zb_Jd_enterBlock_27 C hR h x1 (h.2.1 16 x1.toNatClampNeg) 0 e
  · replace e := zd_neg b2 e
    refine zk_iconst (v := 1) C kd_Jd_enterBlock_22 (by decide) rfl ?_
    refine zk_goto (tgt := 27) C kd_Jd_enterBlock_23 (by decide) ?_
    refine zk_lvs (lv' := [(0, .ref (S.1 38)), (1, .int x1), (2, .int (h.2.1 16 x1.toNatClampNeg))]) [1, 2, 0] rfl ?_
    exact zb_Jd_enterBlock_27 C hR h x1 (h.2.1 16 x1.toNatClampNeg) 1 e
set_option maxHeartbeats 4000000 in
set_option maxRecDepth 100000 in
theorem zc_Jd_enter {l : Launch} {D : va_G} {sz0 : Nat} {S : zs_T} {P : ze_T} (h : zs_H) (x1 : Int32) {rh : zs_H} (e : f_Jd_enter h x1 = some rh) : zk_Sp (zs_G S l D sz0) (ze_E P) km_Jd_enter { frames := 3, cells := 0, slots := 0, locals := 69 } [.ref (S.1 38), .int x1] (zs_W S h) (zd_PV S rh) := by
  refine zk_met ku_Jd_enter (Nat.le_of_ble_eq_true rfl) (ze_Em P) ?_
  intro X C hR
  refine zk_lvs (lv' := [(0, .ref (S.1 38)), (1, .int x1)]) [0, 1] rfl ?_
  unfold f_Jd_enter at e
  refine zk_aload_n C kd_Jd_enter_0 rfl 0 rfl rfl ?_
  refine zs_get (v := .ref (S.1 12)) C 38 1 rfl rfl rfl rfl ki_Jd (by decide) kw352 kd_Jd_enter_1 rfl ?_
  refine zs_get (v := .ref (S.1 13)) C 12 0 rfl rfl rfl rfl ki_Tr (by decide) kw157 kd_Jd_enter_4 rfl ?_
  refine zk_iload_n C kd_Jd_enter_7 rfl 1 rfl rfl ?_
  obtain ⟨q1, e⟩ := zd_g e
  refine zs_bald C 13 rfl (zd_vp q1) kd_Jd_enter_8 rfl ?_
  by_cases b2 : (h.2.1 13 x1.toNatClampNeg) = 1
  · replace e := zd_pos b2 e
    refine zk_tableIn (tgt := 120) C kd_Jd_enter_9 (by rw [b2]; decide) (by rw [b2]; decide) (by rw [b2]; rfl) (by decide) ?_
    refine zk_aload_n C kd_Jd_enter_120 rfl 0 rfl rfl ?_
    refine zk_iload_n C kd_Jd_enter_121 rfl 1 rfl rfl ?_
    obtain ⟨h4, c3, e⟩ := zd_b e
    refine zs_callV (k := 38) (rn := { frames := 2, cells := 0, slots := 0, locals := 47 }) (As := [.int x1]) (rest := []) C (zc_Jd_enterBlock h x1 c3) ku_Jd_enterBlock kw1032 kv_Jd_enterBlock rfl ⟨by decide, by decide⟩ ⟨by decide, by decide⟩ rfl rfl rfl (Nat.le_of_ble_eq_true rfl) kd_Jd_enter_122 rfl (c1 := 0) (s1 := 0) rfl rfl (fun v w hp => ?_)
    obtain ⟨rfl, rfl⟩ := hp
    refine zk_stk (r' := []) rfl ?_
    refine zk_goto (tgt := 311) C kd_Jd_enter_125 (by decide) ?_
    exact zk_vret C hR kd_Jd_enter_311 rfl rfl (zd_rV e)
  replace e := zd_neg b2 e
  by_cases b5 : (h.2.1 13 x1.toNatClampNeg) = 2
  · replace e := zd_pos b5 e
    refine zk_tableIn (tgt := 120) C kd_Jd_enter_9 (by rw [b5]; decide) (by rw [b5]; decide) (by rw [b5]; rfl) (by decide) ?_
    refine zk_aload_n C kd_Jd_enter_120 rfl 0 rfl rfl ?_
    refine zk_iload_n C kd_Jd_enter_121 rfl 1 rfl rfl ?_
    obtain ⟨h7, c6, e⟩ := zd_b e
    refine zs_callV (k := 38) (rn := { frames := 2, cells := 0, slots := 0, locals := 47 }) (As := [.int x1]) (rest := []) C (zc_Jd_enterBlock h x1 c6) ku_Jd_enterBlock kw1032 kv_Jd_enterBlock rfl ⟨by decide, by decide⟩ ⟨by decide, by decide⟩ rfl rfl rfl (Nat.le_of_ble_eq_true rfl) kd_Jd_enter_122 rfl (c1 := 0) (s1 := 0) rfl rfl (fun v w hp => ?_)
    obtain ⟨rfl, rfl⟩ := hp
    refine zk_stk (r' := []) rfl ?_
    refine zk_goto (tgt := 311) C kd_Jd_enter_125 (by decide) ?_
    exact zk_vret C hR kd_Jd_enter_311 rfl rfl (zd_rV e)
  replace e := zd_neg b5 e
  by_cases b8 : (h.2.1 13 x1.toNatClampNeg) = 3
  · replace e := zd_pos b8 e
    refine zk_tableIn (tgt := 120) C kd_Jd_enter_9 (by rw [b8]; decide) (by rw [b8]; decide) (by rw [b8]; rfl) (by decide) ?_
    refine zk_aload_n C kd_Jd_enter_120 rfl 0 rfl rfl ?_
    refine zk_iload_n C kd_Jd_enter_121 rfl 1 rfl rfl ?_
    obtain ⟨h10, c9, e⟩ := zd_b e
    refine zs_callV (k := 38) (rn := { frames := 2, cells := 0, slots := 0, locals := 47 }) (As := [.int x1]) (rest := []) C (zc_Jd_enterBlock h x1 c9) ku_Jd_enterBlock kw1032 kv_Jd_enterBlock rfl ⟨by decide, by decide⟩ ⟨by decide, by decide⟩ rfl rfl rfl (Nat.le_of_ble_eq_true rfl) kd_Jd_enter_122 rfl (c1 := 0) (s1 := 0) rfl rfl (fun v w hp => ?_)
    obtain ⟨rfl, rfl⟩ := hp
    refine zk_stk (r' := []) rfl ?_
    refine zk_goto (tgt := 311) C kd_Jd_enter_125 (by decide) ?_
    exact zk_vret C hR kd_Jd_enter_311 rfl rfl (zd_rV e)
  replace e := zd_neg b8 e
  by_cases b11 : (h.2.1 13 x1.toNatClampNeg) = 4
  · replace e := zd_pos b11 e
    refine zk_tableIn (tgt := 128) C kd_Jd_enter_9 (by rw [b11]; decide) (by rw [b11]; decide) (by rw [b11]; rfl) (by decide) ?_
    refine zk_aload_n C kd_Jd_enter_128 rfl 0 rfl rfl ?_
    refine zk_aload_n C kd_Jd_enter_129 rfl 0 rfl rfl ?_
    refine zs_get (v := .ref (S.1 12)) C 38 1 rfl rfl rfl rfl ki_Jd (by decide) kw352 kd_Jd_enter_130 rfl ?_
    refine zs_get (v := .ref (S.1 16)) C 12 3 rfl rfl rfl rfl ki_Tr (by decide) kw168 kd_Jd_enter_133 rfl ?_
    refine zk_iload_n C kd_Jd_enter_136 rfl 1 rfl rfl ?_
    refine zs_iald C 16 rfl (zd_vp q1) kd_Jd_enter_137 rfl ?_
    refine zs_put (ty := .int) C 38 5 (h.2.1 16 x1.toNatClampNeg) rfl rfl rfl rfl ki_Jd ky_Jd ko_Jd kn_Jd (by decide) kw356 rfl rfl rfl rfl (by decide) kd_Jd_enter_138 rfl ?_
    refine zk_goto (tgt := 311) C kd_Jd_enter_141 (by decide) ?_
    exact zk_vret C hR kd_Jd_enter_311 rfl rfl (zd_rV e)
  replace e := zd_neg b11 e
  by_cases b12 : (h.2.1 13 x1.toNatClampNeg) = 5
  · replace e := zd_pos b12 e
    refine zk_tableIn (tgt := 144) C kd_Jd_enter_9 (by rw [b12]; decide) (by rw [b12]; decide) (by rw [b12]; rfl) (by decide) ?_
    refine zk_aload_n C kd_Jd_enter_144 rfl 0 rfl rfl ?_
    refine zk_aload_n C kd_Jd_enter_145 rfl 0 rfl rfl ?_
    refine zs_get (v := .ref (S.1 20)) C 38 2 rfl rfl rfl rfl ki_Jd (by decide) kw353 kd_Jd_enter_146 rfl ?_
    refine zs_get (v := .int (h.1 20 18)) C 20 18 rfl rfl rfl rfl ki_Pl (by decide) kw293 kd_Jd_enter_149 rfl ?_
    refine zs_put (ty := .int) C 38 6 (h.1 20 18) rfl rfl rfl rfl ki_Jd ky_Jd ko_Jd kn_Jd (by decide) kw357 rfl rfl rfl rfl (by decide) kd_Jd_enter_152 rfl ?_
    refine zk_goto (tgt := 311) C kd_Jd_enter_155 (by decide) ?_
    exact zk_vret C hR kd_Jd_enter_311 rfl rfl (zd_rV e)
  replace e := zd_neg b12 e
  by_cases b13 : (h.2.1 13 x1.toNatClampNeg) = 13
  · replace e := zd_pos b13 e
    refine zk_tableIn (tgt := 158) C kd_Jd_enter_9 (by rw [b13]; decide) (by rw [b13]; decide) (by rw [b13]; rfl) (by decide) ?_
    refine zk_aload_n C kd_Jd_enter_158 rfl 0 rfl rfl ?_
    refine zk_aload_n C kd_Jd_enter_159 rfl 0 rfl rfl ?_
    refine zs_get (v := .ref (S.1 12)) C 38 1 rfl rfl rfl rfl ki_Jd (by decide) kw352 kd_Jd_enter_160 rfl ?_
    refine zs_get (v := .ref (S.1 17)) C 12 4 rfl rfl rfl rfl ki_Tr (by decide) kw170 kd_Jd_enter_163 rfl ?_
    refine zk_iload_n C kd_Jd_enter_166 rfl 1 rfl rfl ?_
    refine zs_iald C 17 rfl (zd_vp q1) kd_Jd_enter_167 rfl ?_
    refine zs_put (ty := .int) C 38 8 (h.2.1 17 x1.toNatClampNeg) rfl rfl rfl rfl ki_Jd ky_Jd ko_Jd kn_Jd (by decide) kw359 rfl rfl rfl rfl (by decide) kd_Jd_enter_168 rfl ?_
    refine zk_aload_n C kd_Jd_enter_171 rfl 0 rfl rfl ?_
    refine zk_aload_n C kd_Jd_enter_172 rfl 0 rfl rfl ?_
    refine zs_get (v := .ref (S.1 20)) C 38 2 rfl rfl rfl rfl ki_Jd (by decide) kw353 kd_Jd_enter_173 rfl ?_
    refine zk_aload_n C kd_Jd_enter_176 rfl 0 rfl rfl ?_
    refine zs_get (v := .ref (S.1 12)) C 38 1 rfl rfl rfl rfl ki_Jd (by decide) kw352 kd_Jd_enter_177 rfl ?_
    refine zs_get (v := .ref (S.1 16)) C 12 3 rfl rfl rfl rfl ki_Tr (by decide) kw168 kd_Jd_enter_180 rfl ?_
    refine zk_iload_n C kd_Jd_enter_183 rfl 1 rfl rfl ?_
    refine zs_iald C 16 rfl (zd_vp q1) kd_Jd_enter_184 rfl ?_
    refine zk_stk (r' := [.int (h.2.1 16 x1.toNatClampNeg), .ref (S.1 20), .ref (S.1 38)]) rfl ?_
    obtain ⟨v15, c14, e⟩ := zd_b e
    refine zs_callV (k := 20) (rn := { frames := 0, cells := 0, slots := 0, locals := 0 }) (As := [.int (h.2.1 16 x1.toNatClampNeg)]) (rest := [.ref (S.1 38)]) C (zc_Pl_variableHere (zs_uF h 38 8 (h.2.1 17 x1.toNatClampNeg)) (h.2.1 16 x1.toNatClampNeg) c14) ku_Pl_variableHere kw1049 kv_Pl_variableHere rfl ⟨by decide, by decide⟩ ⟨by decide, by decide⟩ rfl rfl rfl (Nat.le_of_ble_eq_true rfl) kd_Jd_enter_185 rfl (c1 := 0) (s1 := 0) rfl rfl (fun v w hp => ?_)
    obtain ⟨rfl, rfl⟩ := hp
    refine zk_stk (r' := [.int v15, .ref (S.1 38)]) rfl ?_
    refine zs_put (ty := .int) C 38 7 v15 rfl rfl rfl rfl ki_Jd ky_Jd ko_Jd kn_Jd (by decide) kw358 rfl rfl rfl rfl (by decide) kd_Jd_enter_188 rfl ?_
    refine zk_aload_n C kd_Jd_enter_191 rfl 0 rfl rfl ?_
    refine zs_get (v := .int v15) C 38 7 rfl rfl rfl rfl ki_Jd (by decide) kw358 kd_Jd_enter_192 rfl ?_
    refine zk_iconst (v := (-1)) C kd_Jd_enter_195 (by decide) rfl ?_
    refine zk_icmp_eq (tgt := 311) C kd_Jd_enter_196 (by decide) rfl (fun b16 => ?_) (fun b16 => ?_)
    · replace e := zd_pos b16 e
      exact zk_vret C hR kd_Jd_enter_311 rfl rfl (zd_rV e)
    · replace e := zd_neg b16 e
      refine zk_aload_n C kd_Jd_enter_199 rfl 0 rfl rfl ?_
      refine zs_get (v := .ref (S.1 20)) C 38 2 rfl rfl rfl rfl ki_Jd (by decide) kw353 kd_Jd_enter_200 rfl ?_
      refine zs_get (v := .ref (S.1 30)) C 20 9 rfl rfl rfl rfl ki_Pl (by decide) kw262 kd_Jd_enter_203 rfl ?_
      refine zk_aload_n C kd_Jd_enter_206 rfl 0 rfl rfl ?_
      refine zs_get (v := .int v15) C 38 7 rfl rfl rfl rfl ki_Jd (by decide) kw358 kd_Jd_enter_207 rfl ?_
      obtain ⟨q17, e⟩ := zd_g e
      refine zs_iald C 30 rfl (zd_vp q17) kd_Jd_enter_210 rfl ?_
      refine zk_stk (r' := [.int (h.2.1 30 v15.toNatClampNeg)]) rfl ?_
      refine zk_if_ge (tgt := 311) C kd_Jd_enter_211 (by decide) rfl (fun b18 => ?_) (fun b18 => ?_)
      · replace e := zd_pos b18 e
        exact zk_vret C hR kd_Jd_enter_311 rfl rfl (zd_rV e)
      · replace e := zd_neg b18 e
        refine zk_aload_n C kd_Jd_enter_214 rfl 0 rfl rfl ?_
        refine zk_iconst (v := (-1)) C kd_Jd_enter_215 (by decide) rfl ?_
        refine zs_put (ty := .int) C 38 7 (-1) rfl rfl rfl rfl ki_Jd ky_Jd ko_Jd kn_Jd (by decide) kw358 rfl rfl rfl rfl (by decide) kd_Jd_enter_216 rfl ?_
        refine zk_goto (tgt := 311) C kd_Jd_enter_219 (by decide) ?_
        exact zk_vret C hR kd_Jd_enter_311 rfl rfl (zd_rV e)
  replace e := zd_neg b13 e
  by_cases b19 : (h.2.1 13 x1.toNatClampNeg) = 16
  · replace e := zd_pos b19 e
    refine zk_tableIn (tgt := 222) C kd_Jd_enter_9 (by rw [b19]; decide) (by rw [b19]; decide) (by rw [b19]; rfl) (by decide) ?_
    refine zk_aload_n C kd_Jd_enter_222 rfl 0 rfl rfl ?_
    refine zk_dup C kd_Jd_enter_223 rfl rfl ?_
    refine zs_get (v := .int (h.1 38 10)) C 38 10 rfl rfl rfl rfl ki_Jd (by decide) kw361 kd_Jd_enter_224 rfl ?_
    refine zk_iconst (v := 1) C kd_Jd_enter_227 (by decide) rfl ?_
    refine zk_iadd C kd_Jd_enter_228 rfl ?_
    refine zs_put (ty := .int) C 38 10 ((h.1 38 10) + 1) rfl rfl rfl rfl ki_Jd ky_Jd ko_Jd kn_Jd (by decide) kw361 rfl rfl rfl rfl (by decide) kd_Jd_enter_229 rfl ?_
    refine zk_goto (tgt := 311) C kd_Jd_enter_232 (by decide) ?_
    exact zk_vret C hR kd_Jd_enter_311 rfl rfl (zd_rV e)
  replace e := zd_neg b19 e
  by_cases b20 : (h.2.1 13 x1.toNatClampNeg) = 19
  · replace e := zd_pos b20 e
    refine zk_tableIn (tgt := 235) C kd_Jd_enter_9 (by rw [b20]; decide) (by rw [b20]; decide) (by rw [b20]; rfl) (by decide) ?_
    refine zk_aload_n C kd_Jd_enter_235 rfl 0 rfl rfl ?_
    refine zk_dup C kd_Jd_enter_236 rfl rfl ?_
    refine zs_get (v := .int (h.1 38 10)) C 38 10 rfl rfl rfl rfl ki_Jd (by decide) kw361 kd_Jd_enter_237 rfl ?_
    refine zk_iconst (v := 1) C kd_Jd_enter_240 (by decide) rfl ?_
    refine zk_iadd C kd_Jd_enter_241 rfl ?_
    refine zs_put (ty := .int) C 38 10 ((h.1 38 10) + 1) rfl rfl rfl rfl ki_Jd ky_Jd ko_Jd kn_Jd (by decide) kw361 rfl rfl rfl rfl (by decide) kd_Jd_enter_242 rfl ?_
    refine zk_aload_n C kd_Jd_enter_245 rfl 0 rfl rfl ?_
    refine zs_get (v := .int (h.1 38 12)) C 38 12 rfl rfl rfl rfl ki_Jd (by decide) kw363 kd_Jd_enter_246 rfl ?_
    refine zk_aload_n C kd_Jd_enter_249 rfl 0 rfl rfl ?_
    refine zs_get (v := .ref (S.1 39)) C 38 11 rfl rfl rfl rfl ki_Jd (by decide) kw362 kd_Jd_enter_250 rfl ?_
    refine zs_alen (v := 240) C 39 rfl (by decide) rfl kd_Jd_enter_253 rfl ?_
    refine zk_icmp_ge (tgt := 311) C kd_Jd_enter_254 (by decide) rfl (fun b21 => ?_) (fun b21 => ?_)
    · replace e := zd_pos b21 e
      exact zk_vret C hR kd_Jd_enter_311 rfl rfl (zd_rV e)
    · replace e := zd_neg b21 e
      refine zk_aload_n C kd_Jd_enter_257 rfl 0 rfl rfl ?_
      refine zs_get (v := .ref (S.1 39)) C 38 11 rfl rfl rfl rfl ki_Jd (by decide) kw362 kd_Jd_enter_258 rfl ?_
      refine zk_aload_n C kd_Jd_enter_261 rfl 0 rfl rfl ?_
      refine zs_get (v := .int (h.1 38 12)) C 38 12 rfl rfl rfl rfl ki_Jd (by decide) kw363 kd_Jd_enter_262 rfl ?_
      refine zk_aload_n C kd_Jd_enter_265 rfl 0 rfl rfl ?_
      refine zs_get (v := .ref (S.1 12)) C 38 1 rfl rfl rfl rfl ki_Jd (by decide) kw352 kd_Jd_enter_266 rfl ?_
      refine zs_get (v := .ref (S.1 16)) C 12 3 rfl rfl rfl rfl ki_Tr (by decide) kw168 kd_Jd_enter_269 rfl ?_
      refine zk_iload_n C kd_Jd_enter_272 rfl 1 rfl rfl ?_
      refine zs_iald C 16 rfl (zd_vp q1) kd_Jd_enter_273 rfl ?_
      refine zk_stk (r' := [.int (h.2.1 16 x1.toNatClampNeg), .int (h.1 38 12), .ref (S.1 39)]) rfl ?_
      obtain ⟨q22, e⟩ := zd_g e
      refine zs_iast C 39 rfl (zd_vp q22) kd_Jd_enter_274 rfl ?_
      refine zk_aload_n C kd_Jd_enter_275 rfl 0 rfl rfl ?_
      refine zk_dup C kd_Jd_enter_276 rfl rfl ?_
      refine zs_get (v := .int (h.1 38 12)) C 38 12 rfl rfl rfl rfl ki_Jd (by decide) kw363 kd_Jd_enter_277 rfl ?_
      refine zk_iconst (v := 1) C kd_Jd_enter_280 (by decide) rfl ?_
      refine zk_iadd C kd_Jd_enter_281 rfl ?_
      refine zs_put (ty := .int) C 38 12 ((h.1 38 12) + 1) rfl rfl rfl rfl ki_Jd ky_Jd ko_Jd kn_Jd (by decide) kw363 rfl rfl rfl rfl (by decide) kd_Jd_enter_282 rfl ?_
      refine zk_goto (tgt := 311) C kd_Jd_enter_285 (by decide) ?_
      exact zk_vret C hR kd_Jd_enter_311 rfl rfl (zd_rV e)
  replace e := zd_neg b20 e
  by_cases b23 : (h.2.1 13 x1.toNatClampNeg) = 22
  · replace e := zd_pos b23 e
    refine zk_tableIn (tgt := 288) C kd_Jd_enter_9 (by rw [b23]; decide) (by rw [b23]; decide) (by rw [b23]; rfl) (by decide) ?_
    refine zk_aload_n C kd_Jd_enter_288 rfl 0 rfl rfl ?_
    refine zk_dup C kd_Jd_enter_289 rfl rfl ?_
    refine zs_get (v := .int (h.1 38 10)) C 38 10 rfl rfl rfl rfl ki_Jd (by decide) kw361 kd_Jd_enter_290 rfl ?_
    refine zk_sipush (v := 156) C kd_Jd_enter_293 (by decide) rfl ?_
    refine zk_iadd C kd_Jd_enter_296 rfl ?_
    refine zs_put (ty := .int) C 38 10 ((h.1 38 10) + 156) rfl rfl rfl rfl ki_Jd ky_Jd ko_Jd kn_Jd (by decide) kw361 rfl rfl rfl rfl (by decide) kd_Jd_enter_297 rfl ?_
    refine zk_goto (tgt := 311) C kd_Jd_enter_300 (by decide) ?_
    exact zk_vret C hR kd_Jd_enter_311 rfl rfl (zd_rV e)
  replace e := zd_neg b23 e
  by_cases b24 : (h.2.1 13 x1.toNatClampNeg) = 24
  · replace e := zd_pos b24 e
    refine zk_tableIn (tgt := 303) C kd_Jd_enter_9 (by rw [b24]; decide) (by rw [b24]; decide) (by rw [b24]; rfl) (by decide) ?_
    refine zk_aload_n C kd_Jd_enter_303 rfl 0 rfl rfl ?_
    refine zk_iload_n C kd_Jd_enter_304 rfl 1 rfl rfl ?_
    refine zs_put (ty := .int) C 38 9 x1 rfl rfl rfl rfl ki_Jd ky_Jd ko_Jd kn_Jd (by decide) kw360 rfl rfl rfl rfl (by decide) kd_Jd_enter_305 rfl ?_
    refine zk_goto (tgt := 311) C kd_Jd_enter_308 (by decide) ?_
    exact zk_vret C hR kd_Jd_enter_311 rfl rfl (zd_rV e)
  replace e := zd_neg b24 e
  refine zd_tableD (tgt := 311) C kd_Jd_enter_9 (by decide) [1, 2, 3, 4, 5, 13, 16, 19, 22, 24] (by decide +kernel) (by have n0 := lv_neT b2 (a := 1) (by decide); have n1 := lv_neT b5 (a := 2) (by decide); have n2 := lv_neT b8 (a := 3) (by decide); have n3 := lv_neT b11 (a := 4) (by decide); have n4 := lv_neT b12 (a := 5) (by decide); have n5 := lv_neT b13 (a := 13) (by decide); have n6 := lv_neT b19 (a := 16) (by decide); have n7 := lv_neT b20 (a := 19) (by decide); have n8 := lv_neT b23 (a := 22) (by decide); have n9 := lv_neT b24 (a := 24) (by decide); simp only [List.mem_cons, List.not_mem_nil, or_false, not_or]; exact ⟨n0, n1, n2, n3, n4, n5, n6, n7, n8, n9⟩) ?_
  exact zk_vret C hR kd_Jd_enter_311 rfl rfl (zd_rV e)
set_option maxHeartbeats 4000000 in
set_option maxRecDepth 100000 in
theorem zb_Jd_declareName_47 {X : zkj_T} {S : zs_T} {P : ze_T} {l : Launch} {D : va_G} {sz0 : Nat} {rh : zs_H} (C : zk_C X km_Jd_declareName (zs_G S l D sz0) { frames := 2, cells := 0, slots := 0, locals := 46 } (ze_E P)) (hR : zkj_R X (zd_PV S rh) (none)) (h : zs_H) (x1 : Int32) (x2 : Int32) (y0 : Int32) (e : f_Jd_declareName_47 h x1 x2 y0 = some rh) : zk_Ab X (zs_W S h) 0 0 47 [(0, .ref (S.1 38)), (1, .int x1), (2, .int x2)] [.int y0] := by
  unfold f_Jd_declareName_47 at e
  refine zk_istore_n (lv' := [(3, _), (0, _), (1, _), (2, _)]) C kd_Jd_declareName_47 rfl (by decide) rfl rfl ?_
  refine zk_iload_n C kd_Jd_declareName_48 rfl 0 rfl rfl ?_
  refine zk_if_eq (tgt := 62) C kd_Jd_declareName_49 (by decide) rfl (fun b1 => ?_) (fun b1 => ?_)
  · replace e := zd_pos b1 e
    refine zk_aload_n C kd_Jd_declareName_62 rfl 1 rfl rfl ?_
    refine zs_get (v := .ref (S.1 20)) C 38 2 rfl rfl rfl rfl ki_Jd (by decide) kw353 kd_Jd_declareName_63 rfl ?_
    refine zk_iload_n C kd_Jd_declareName_66 rfl 3 rfl rfl ?_
    refine zk_aload_n C kd_Jd_declareName_67 rfl 1 rfl rfl ?_
    refine zs_get (v := .int (h.1 38 5)) C 38 5 rfl rfl rfl rfl ki_Jd (by decide) kw356 kd_Jd_declareName_68 rfl ?_
    obtain ⟨v3, h4, c2, e⟩ := zd_Be e
    refine zs_callV (k := 20) (rn := { frames := 1, cells := 0, slots := 0, locals := 23 }) (As := [.int x2, .int (h.1 38 5)]) (rest := []) C (zc_Pl_add h x2 (h.1 38 5) c2) ku_Pl_add kw1048 kv_Pl_add rfl ⟨by decide, by decide⟩ ⟨by decide, by decide⟩ rfl rfl rfl (Nat.le_of_ble_eq_true rfl) kd_Jd_declareName_71 rfl (c1 := 0) (s1 := 0) rfl rfl (fun v w hp => ?_)
    obtain ⟨rfl, rfl⟩ := hp
    refine zk_stk (r' := [.int v3]) rfl ?_
    refine zk_pop C kd_Jd_declareName_74 rfl rfl ?_
    exact zk_vret C hR kd_Jd_declareName_75 rfl rfl (zd_rV e)
  · replace e := zd_neg b1 e
    refine zk_aload_n C kd_Jd_declareName_52 rfl 1 rfl rfl ?_
    refine zk_bipush (v := 12) C kd_Jd_declareName_53 (by decide) rfl ?_
    refine zk_iload_n C kd_Jd_declareName_55 rfl 2 rfl rfl ?_
    obtain ⟨h6, c5, e⟩ := zd_b e
    refine zs_callV (k := 38) (rn := { frames := 0, cells := 0, slots := 0, locals := 0 }) (As := [.int 12, .int x1]) (rest := []) C (zc_Jd_refuse h 12 x1 c5) ku_Jd_refuse kw1040 kv_Jd_refuse rfl ⟨by decide, by decide⟩ ⟨by decide, by decide⟩ rfl rfl rfl (Nat.le_of_ble_eq_true rfl) kd_Jd_declareName_56 rfl (c1 := 0) (s1 := 0) rfl rfl (fun v w hp => ?_)
    obtain ⟨rfl, rfl⟩ := hp
    refine zk_stk (r' := []) rfl ?_
    refine zk_goto (tgt := 75) C kd_Jd_declareName_59 (by decide) ?_
    exact zk_vret C hR kd_Jd_declareName_75 rfl rfl (zd_rV e)
set_option maxHeartbeats 4000000 in
set_option maxRecDepth 100000 in
theorem zb_Jd_declareName_42 {X : zkj_T} {S : zs_T} {P : ze_T} {l : Launch} {D : va_G} {sz0 : Nat} {rh : zs_H} (C : zk_C X km_Jd_declareName (zs_G S l D sz0) { frames := 2, cells := 0, slots := 0, locals := 46 } (ze_E P)) (hR : zkj_R X (zd_PV S rh) (none)) (h : zs_H) (x1 : Int32) (x2 : Int32) (e : f_Jd_declareName_42 h x1 x2 = some rh) : zk_Ab X (zs_W S h) 0 0 42 [(0, .ref (S.1 38)), (1, .int x1), (2, .int x2)] [] := by
  unfold f_Jd_declareName_42 at e
  refine zk_iconst (v := 1) C kd_Jd_declareName_42 (by decide) rfl ?_
  refine zk_goto (tgt := 47) C kd_Jd_declareName_43 (by decide) ?_
  refine zk_lvs (lv' := [(0, .ref (S.1 38)), (1, .int x1), (2, .int x2)]) [0, 1, 2] rfl ?_
  exact zb_Jd_declareName_47 C hR h x1 x2 1 e
set_option maxHeartbeats 4000000 in
set_option maxRecDepth 100000 in
theorem zc_Jd_declareName {l : Launch} {D : va_G} {sz0 : Nat} {S : zs_T} {P : ze_T} (h : zs_H) (x1 : Int32) {rh : zs_H} (e : f_Jd_declareName h x1 = some rh) : zk_Sp (zs_G S l D sz0) (ze_E P) km_Jd_declareName { frames := 2, cells := 0, slots := 0, locals := 46 } [.ref (S.1 38), .int x1] (zs_W S h) (zd_PV S rh) := by
  refine zk_met ku_Jd_declareName (Nat.le_of_ble_eq_true rfl) (ze_Em P) ?_
  intro X C hR
  refine zk_lvs (lv' := [(0, .ref (S.1 38)), (1, .int x1)]) [0, 1] rfl ?_
  unfold f_Jd_declareName at e
  refine zk_aload_n C kd_Jd_declareName_0 rfl 0 rfl rfl ?_
  refine zs_get (v := .ref (S.1 12)) C 38 1 rfl rfl rfl rfl ki_Jd (by decide) kw352 kd_Jd_declareName_1 rfl ?_
  refine zs_get (v := .ref (S.1 16)) C 12 3 rfl rfl rfl rfl ki_Tr (by decide) kw168 kd_Jd_declareName_4 rfl ?_
  refine zk_iload_n C kd_Jd_declareName_7 rfl 1 rfl rfl ?_
  obtain ⟨q1, e⟩ := zd_g e
  refine zs_iald C 16 rfl (zd_vp q1) kd_Jd_declareName_8 rfl ?_
  refine zk_istore_n (lv' := [(2, _), (0, _), (1, _)]) C kd_Jd_declareName_9 rfl (by decide) rfl rfl ?_
  refine zk_aload_n C kd_Jd_declareName_10 rfl 1 rfl rfl ?_
  refine zs_get (v := .ref (S.1 20)) C 38 2 rfl rfl rfl rfl ki_Jd (by decide) kw353 kd_Jd_declareName_11 rfl ?_
  refine zk_iload_n C kd_Jd_declareName_14 rfl 0 rfl rfl ?_
  obtain ⟨v3, c2, e⟩ := zd_b e
  refine zs_callV (k := 20) (rn := { frames := 0, cells := 0, slots := 0, locals := 0 }) (As := [.int (h.2.1 16 x1.toNatClampNeg)]) (rest := []) C (zc_Pl_variableHere h (h.2.1 16 x1.toNatClampNeg) c2) ku_Pl_variableHere kw1049 kv_Pl_variableHere rfl ⟨by decide, by decide⟩ ⟨by decide, by decide⟩ rfl rfl rfl (Nat.le_of_ble_eq_true rfl) kd_Jd_declareName_15 rfl (c1 := 0) (s1 := 0) rfl rfl (fun v w hp => ?_)
  obtain ⟨rfl, rfl⟩ := hp
  refine zk_stk (r' := [.int v3]) rfl ?_
  refine zk_iconst (v := (-1)) C kd_Jd_declareName_18 (by decide) rfl ?_
  refine zk_icmp_ne (tgt := 42) C kd_Jd_declareName_19 (by decide) rfl (fun b4 => ?_) (fun b4 => ?_)
  · replace e := zd_neg b4 e
    refine zk_lvs (lv' := [(0, .ref (S.1 38)), (1, .int x1), (2, .int (h.2.1 16 x1.toNatClampNeg))]) [1, 2, 0] rfl ?_
    exact zb_Jd_declareName_42 C hR h x1 (h.2.1 16 x1.toNatClampNeg) e
  · replace e := zd_pos b4 e
    refine zk_aload_n C kd_Jd_declareName_22 rfl 1 rfl rfl ?_
    refine zs_get (v := .ref (S.1 20)) C 38 2 rfl rfl rfl rfl ki_Jd (by decide) kw353 kd_Jd_declareName_23 rfl ?_
    refine zs_get (v := .ref (S.1 36)) C 20 15 rfl rfl rfl rfl ki_Pl (by decide) kw287 kd_Jd_declareName_26 rfl ?_
    refine zk_iload_n C kd_Jd_declareName_29 rfl 0 rfl rfl ?_
    obtain ⟨q5, e⟩ := zd_g e
    refine zs_iald C 36 rfl (zd_vp q5) kd_Jd_declareName_30 rfl ?_
    refine zk_iconst (v := (-1)) C kd_Jd_declareName_31 (by decide) rfl ?_
    refine zk_icmp_ne (tgt := 42) C kd_Jd_declareName_32 (by decide) rfl (fun b6 => ?_) (fun b6 => ?_)
    · replace e := zd_neg b6 e
      refine zk_lvs (lv' := [(0, .ref (S.1 38)), (1, .int x1), (2, .int (h.2.1 16 x1.toNatClampNeg))]) [1, 2, 0] rfl ?_
      exact zb_Jd_declareName_42 C hR h x1 (h.2.1 16 x1.toNatClampNeg) e
    · replace e := zd_pos b6 e
      refine zk_iload_n C kd_Jd_declareName_35 rfl 0 rfl rfl ?_
      refine zk_callS (rn := { frames := 0, cells := 0, slots := 0, locals := 0 }) (As := [.int (h.2.1 16 x1.toNatClampNeg)]) (rest := []) C (zc_Nm_isStandardFunction h (h.2.1 16 x1.toNatClampNeg)) ku_Nm_isStandardFunction kw1044 ks_Nm_isStandardFunction rfl ⟨by decide, by decide⟩ ⟨by decide, by decide⟩ rfl (Nat.le_of_ble_eq_true rfl) kd_Jd_declareName_36 rfl (c1 := 0) (s1 := 0) rfl rfl (fun v w hp => ?_)
      obtain ⟨rfl, rfl, z7⟩ := hp
      refine zk_stk (r' := [.int (f_Nm_isStandardFunction (h.2.1 16 x1.toNatClampNeg))]) rfl ?_
      refine zk_if_eq (tgt := 46) C kd_Jd_declareName_39 (by decide) rfl (fun b8 => ?_) (fun b8 => ?_)
      · replace e := zd_pos b8 e
        refine zk_iconst (v := 0) C kd_Jd_declareName_46 (by decide) rfl ?_
        refine zk_lvs (lv' := [(0, .ref (S.1 38)), (1, .int x1), (2, .int (h.2.1 16 x1.toNatClampNeg))]) [1, 2, 0] rfl ?_
        exact zb_Jd_declareName_47 C hR h x1 (h.2.1 16 x1.toNatClampNeg) 0 e
      · replace e := zd_neg b8 e
        refine zk_lvs (lv' := [(0, .ref (S.1 38)), (1, .int x1), (2, .int (h.2.1 16 x1.toNatClampNeg))]) [1, 2, 0] rfl ?_
        exact zb_Jd_declareName_42 C hR h x1 (h.2.1 16 x1.toNatClampNeg) e
set_option maxHeartbeats 4000000 in
set_option maxRecDepth 100000 in
theorem zc_Tr_isConstant {l : Launch} {D : va_G} {sz0 : Nat} {S : zs_T} {P : ze_T} (h : zs_H) (x1 : Int32) {rv : Int32} (e : f_Tr_isConstant h x1 = some rv) : zk_Sp (zs_G S l D sz0) (ze_E P) km_Tr_isConstant { frames := 0, cells := 0, slots := 0, locals := 0 } [.ref (S.1 12), .int x1] (zs_W S h) (zd_PZ S rv h) := by
  refine zk_met ku_Tr_isConstant (Nat.le_of_ble_eq_true rfl) (ze_Em P) ?_
  intro X C hR
  refine zk_lvs (lv' := [(0, .ref (S.1 12)), (1, .int x1)]) [0, 1] rfl ?_
  unfold f_Tr_isConstant at e
  refine zk_iload_n C kd_Tr_isConstant_0 rfl 1 rfl rfl ?_
  refine zk_iconst (v := (-1)) C kd_Tr_isConstant_1 (by decide) rfl ?_
  refine zk_icmp_eq (tgt := 31) C kd_Tr_isConstant_2 (by decide) rfl (fun b1 => ?_) (fun b1 => ?_)
  · replace e := zd_pos b1 e
    refine zk_iconst (v := 0) C kd_Tr_isConstant_31 (by decide) rfl ?_
    exact zk_zret C hR (zd_nb (Or.inl rfl)) kd_Tr_isConstant_32 rfl rfl (zd_rZO (Or.inl rfl) e)
  · replace e := zd_neg b1 e
    refine zk_aload_n C kd_Tr_isConstant_5 rfl 0 rfl rfl ?_
    refine zs_get (v := .ref (S.1 13)) C 12 0 rfl rfl rfl rfl ki_Tr (by decide) kw155 kd_Tr_isConstant_6 rfl ?_
    refine zk_iload_n C kd_Tr_isConstant_9 rfl 1 rfl rfl ?_
    obtain ⟨q2, e⟩ := zd_g e
    refine zs_bald C 13 rfl (zd_vp q2) kd_Tr_isConstant_10 rfl ?_
    refine zk_bipush (v := 30) C kd_Tr_isConstant_11 (by decide) rfl ?_
    refine zk_icmp_eq (tgt := 27) C kd_Tr_isConstant_13 (by decide) rfl (fun b3 => ?_) (fun b3 => ?_)
    · replace e := zd_pos b3 e
      refine zk_iconst (v := 1) C kd_Tr_isConstant_27 (by decide) rfl ?_
      refine zk_goto (tgt := 32) C kd_Tr_isConstant_28 (by decide) ?_
      exact zk_zret C hR (zd_nb (Or.inr rfl)) kd_Tr_isConstant_32 rfl rfl (zd_rZO (Or.inr rfl) e)
    · replace e := zd_neg b3 e
      refine zk_aload_n C kd_Tr_isConstant_16 rfl 0 rfl rfl ?_
      refine zs_get (v := .ref (S.1 13)) C 12 0 rfl rfl rfl rfl ki_Tr (by decide) kw155 kd_Tr_isConstant_17 rfl ?_
      refine zk_iload_n C kd_Tr_isConstant_20 rfl 1 rfl rfl ?_
      refine zs_bald C 13 rfl (zd_vp q2) kd_Tr_isConstant_21 rfl ?_
      refine zk_bipush (v := 31) C kd_Tr_isConstant_22 (by decide) rfl ?_
      refine zk_icmp_ne (tgt := 31) C kd_Tr_isConstant_24 (by decide) rfl (fun b4 => ?_) (fun b4 => ?_)
      · replace e := zd_neg b4 e
        refine zk_iconst (v := 0) C kd_Tr_isConstant_31 (by decide) rfl ?_
        exact zk_zret C hR (zd_nb (Or.inl rfl)) kd_Tr_isConstant_32 rfl rfl (zd_rZO (Or.inl rfl) e)
      · replace e := zd_pos b4 e
        refine zk_iconst (v := 1) C kd_Tr_isConstant_27 (by decide) rfl ?_
        refine zk_goto (tgt := 32) C kd_Tr_isConstant_28 (by decide) ?_
        exact zk_zret C hR (zd_nb (Or.inr rfl)) kd_Tr_isConstant_32 rfl rfl (zd_rZO (Or.inr rfl) e)
set_option maxHeartbeats 4000000 in
set_option maxRecDepth 100000 in
theorem zc_Cd_turning {l : Launch} {D : va_G} {sz0 : Nat} {S : zs_T} {P : ze_T} (h : zs_H) (x0 : Int32) (x1 : Int32) : zk_Sp (zs_G S l D sz0) (ze_E P) km_Cd_turning { frames := 0, cells := 0, slots := 0, locals := 0 } [.int x0, .int x1] (zs_W S h) (zd_PI S (f_Cd_turning x0 x1) h) := by
  obtain ⟨rv, e⟩ : ∃ rv, f_Cd_turning x0 x1 = rv := ⟨_, rfl⟩
  rw [e]
  refine zk_met ku_Cd_turning (Nat.le_of_ble_eq_true rfl) (ze_Em P) ?_
  intro X C hR
  refine zk_lvs (lv' := [(0, .int x0), (1, .int x1)]) [0, 1] rfl ?_
  unfold f_Cd_turning at e
  refine zk_iload_n C kd_Cd_turning_0 rfl 0 rfl rfl ?_
  refine zk_if_eq (tgt := 15) C kd_Cd_turning_1 (by decide) rfl (fun b1 => ?_) (fun b1 => ?_)
  · replace e := zd_pos b1 e
    refine zk_iload_n C kd_Cd_turning_15 rfl 1 rfl rfl ?_
    refine zk_if_ne (tgt := 23) C kd_Cd_turning_16 (by decide) rfl (fun b2 => ?_) (fun b2 => ?_)
    · replace e := zd_neg b2 e
      refine zk_iconst (v := 3) C kd_Cd_turning_23 (by decide) rfl ?_
      exact zk_iret C hR kd_Cd_turning_24 rfl rfl (zd_rIT e)
    · replace e := zd_pos b2 e
      refine zk_iconst (v := 2) C kd_Cd_turning_19 (by decide) rfl ?_
      refine zk_goto (tgt := 24) C kd_Cd_turning_20 (by decide) ?_
      exact zk_iret C hR kd_Cd_turning_24 rfl rfl (zd_rIT e)
  · replace e := zd_neg b1 e
    refine zk_iload_n C kd_Cd_turning_4 rfl 1 rfl rfl ?_
    refine zk_iconst (v := 1) C kd_Cd_turning_5 (by decide) rfl ?_
    refine zk_icmp_ne (tgt := 13) C kd_Cd_turning_6 (by decide) rfl (fun b3 => ?_) (fun b3 => ?_)
    · replace e := zd_neg b3 e
      refine zk_iconst (v := 1) C kd_Cd_turning_13 (by decide) rfl ?_
      exact zk_iret C hR kd_Cd_turning_14 rfl rfl (zd_rIT e)
    · replace e := zd_pos b3 e
      refine zk_iconst (v := 0) C kd_Cd_turning_9 (by decide) rfl ?_
      refine zk_goto (tgt := 14) C kd_Cd_turning_10 (by decide) ?_
      exact zk_iret C hR kd_Cd_turning_14 rfl rfl (zd_rIT e)
set_option maxHeartbeats 4000000 in
set_option maxRecDepth 100000 in
theorem zc_Jd_fold {l : Launch} {D : va_G} {sz0 : Nat} {S : zs_T} {P : ze_T} (h : zs_H) (x1 : Int32) (x2 : Int32) {rh : zs_H} (e : f_Jd_fold h x1 x2 = some rh) : zk_Sp (zs_G S l D sz0) (ze_E P) km_Jd_fold { frames := 0, cells := 0, slots := 0, locals := 0 } [.ref (S.1 38), .int x1, .int x2] (zs_W S h) (zd_PV S rh) := by
  refine zk_met ku_Jd_fold (Nat.le_of_ble_eq_true rfl) (ze_Em P) ?_
  intro X C hR
  refine zk_lvs (lv' := [(0, .ref (S.1 38)), (1, .int x1), (2, .int x2)]) [0, 1, 2] rfl ?_
  unfold f_Jd_fold at e
  refine zk_aload_n C kd_Jd_fold_0 rfl 0 rfl rfl ?_
  refine zs_get (v := .ref (S.1 12)) C 38 1 rfl rfl rfl rfl ki_Jd (by decide) kw352 kd_Jd_fold_1 rfl ?_
  refine zs_get (v := .ref (S.1 13)) C 12 0 rfl rfl rfl rfl ki_Tr (by decide) kw157 kd_Jd_fold_4 rfl ?_
  refine zk_iload_n C kd_Jd_fold_7 rfl 1 rfl rfl ?_
  refine zk_bipush (v := 30) C kd_Jd_fold_8 (by decide) rfl ?_
  obtain ⟨q1, e⟩ := zd_g e
  refine zs_bast C 13 rfl (zd_vp q1) kd_Jd_fold_10 rfl ?_
  refine zk_aload_n C kd_Jd_fold_11 rfl 0 rfl rfl ?_
  refine zs_get (v := .ref (S.1 12)) C 38 1 rfl rfl rfl rfl ki_Jd (by decide) kw352 kd_Jd_fold_12 rfl ?_
  refine zs_get (v := .ref (S.1 16)) C 12 3 rfl rfl rfl rfl ki_Tr (by decide) kw168 kd_Jd_fold_15 rfl ?_
  refine zk_iload_n C kd_Jd_fold_18 rfl 1 rfl rfl ?_
  refine zk_iload_n C kd_Jd_fold_19 rfl 2 rfl rfl ?_
  refine zs_iast C 16 rfl (zd_vp q1) kd_Jd_fold_20 rfl ?_
  refine zk_aload_n C kd_Jd_fold_21 rfl 0 rfl rfl ?_
  refine zs_get (v := .ref (S.1 12)) C 38 1 rfl rfl rfl rfl ki_Jd (by decide) kw352 kd_Jd_fold_22 rfl ?_
  refine zs_get (v := .ref (S.1 17)) C 12 4 rfl rfl rfl rfl ki_Tr (by decide) kw170 kd_Jd_fold_25 rfl ?_
  refine zk_iload_n C kd_Jd_fold_28 rfl 1 rfl rfl ?_
  refine zk_iconst (v := (-1)) C kd_Jd_fold_29 (by decide) rfl ?_
  refine zs_iast C 17 rfl (zd_vp q1) kd_Jd_fold_30 rfl ?_
  exact zk_vret C hR kd_Jd_fold_31 rfl rfl (zd_rV e)
set_option maxHeartbeats 4000000 in
set_option maxRecDepth 100000 in
theorem zb_Jd_judgeOne_54 {X : zkj_T} {S : zs_T} {P : ze_T} {l : Launch} {D : va_G} {sz0 : Nat} {rh : zs_H} (C : zk_C X km_Jd_judgeOne (zs_G S l D sz0) { frames := 2, cells := 0, slots := 0, locals := 45 } (ze_E P)) (hR : zkj_R X (zd_PV S rh) (none)) (h : zs_H) (x1 : Int32) (x2 : Int32) (x3 : Int32) (x4 : Int32) (y0 : Int32) (e : f_Jd_judgeOne_54 h x1 x2 x3 x4 y0 = some rh) : zk_Ab X (zs_W S h) 0 0 54 [(0, .ref (S.1 38)), (1, .int x1), (2, .int x2), (3, .int x3), (4, .int x4)] [.int y0, .ref (S.1 38)] := by
  unfold f_Jd_judgeOne_54 at e
  refine zk_bipush (v := 28) C kd_Jd_judgeOne_54 (by decide) rfl ?_
  refine zk_iload_n C kd_Jd_judgeOne_56 rfl 1 rfl rfl ?_
  obtain ⟨h2, c1, e⟩ := zd_b e
  refine zs_callV (k := 38) (rn := { frames := 1, cells := 0, slots := 0, locals := 22 }) (As := [.int y0, .int 28, .int x1]) (rest := []) C (zc_Jd_refuseIf h y0 28 x1 c1) ku_Jd_refuseIf kw1036 kv_Jd_refuseIf rfl ⟨by decide, by decide⟩ ⟨by decide, by decide⟩ rfl rfl rfl (Nat.le_of_ble_eq_true rfl) kd_Jd_judgeOne_57 rfl (c1 := 0) (s1 := 0) rfl rfl (fun v w hp => ?_)
  obtain ⟨rfl, rfl⟩ := hp
  refine zk_stk (r' := []) rfl ?_
  refine zk_aload_n C kd_Jd_judgeOne_60 rfl 0 rfl rfl ?_
  refine zs_get (v := .ref (S.1 12)) C 38 1 rfl rfl rfl rfl ki_Jd (by decide) kw352 kd_Jd_judgeOne_61 rfl ?_
  refine zs_get (v := .ref (S.1 14)) C 12 1 rfl rfl rfl rfl ki_Tr (by decide) kw160 kd_Jd_judgeOne_64 rfl ?_
  refine zk_iload_n C kd_Jd_judgeOne_67 rfl 1 rfl rfl ?_
  refine zk_iload_n C kd_Jd_judgeOne_68 rfl 3 rfl rfl ?_
  refine zk_i2b C kd_Jd_judgeOne_69 rfl ?_
  obtain ⟨q3, e⟩ := zd_g e
  refine zs_bast C 14 rfl (zd_vp q3) kd_Jd_judgeOne_70 rfl ?_
  refine zk_aload_n C kd_Jd_judgeOne_71 rfl 0 rfl rfl ?_
  refine zs_get (v := .ref (S.1 12)) C 38 1 rfl rfl rfl rfl ki_Jd (by decide) kw352 kd_Jd_judgeOne_72 rfl ?_
  refine zk_iload_n C kd_Jd_judgeOne_75 rfl 2 rfl rfl ?_
  obtain ⟨v5, c4, e⟩ := zd_b e
  refine zs_callV (k := 12) (rn := { frames := 0, cells := 0, slots := 0, locals := 0 }) (As := [.int x2]) (rest := []) C (zc_Tr_isConstant (zs_uM h2 14 x1.toNatClampNeg (vp_nar .byte (x3.toInt8.toInt32))) x2 c4) ku_Tr_isConstant kw1158 kv_Tr_isConstant rfl ⟨by decide, by decide⟩ ⟨by decide, by decide⟩ rfl rfl rfl (Nat.le_of_ble_eq_true rfl) kd_Jd_judgeOne_76 rfl (c1 := 0) (s1 := 0) rfl rfl (fun v w hp => ?_)
  obtain ⟨rfl, rfl, z6⟩ := hp
  refine zk_stk (r' := [.int v5]) rfl ?_
  refine zk_if_eq (tgt := 105) C kd_Jd_judgeOne_79 (by decide) rfl (fun b7 => ?_) (fun b7 => ?_)
  · replace e := zd_pos b7 e
    exact zk_vret C hR kd_Jd_judgeOne_105 rfl rfl (zd_rV e)
  · replace e := zd_neg b7 e
    refine zk_aload_n C kd_Jd_judgeOne_82 rfl 0 rfl rfl ?_
    refine zk_iload_n C kd_Jd_judgeOne_83 rfl 1 rfl rfl ?_
    refine zk_iload C kd_Jd_judgeOne_84 4 rfl rfl ?_
    refine zk_iload_n C kd_Jd_judgeOne_86 rfl 3 rfl rfl ?_
    refine zk_callS (rn := { frames := 0, cells := 0, slots := 0, locals := 0 }) (As := [.int x4, .int x3]) (rest := [.int x1, .ref (S.1 38)]) C (zc_Cd_turning (zs_uM h2 14 x1.toNatClampNeg (vp_nar .byte (x3.toInt8.toInt32))) x4 x3) ku_Cd_turning kw1258 ks_Cd_turning rfl ⟨by decide, by decide⟩ ⟨by decide, by decide⟩ rfl (Nat.le_of_ble_eq_true rfl) kd_Jd_judgeOne_87 rfl (c1 := 0) (s1 := 0) rfl rfl (fun v w hp => ?_)
    obtain ⟨rfl, rfl⟩ := hp
    refine zk_stk (r' := [.int (f_Cd_turning x4 x3), .int x1, .ref (S.1 38)]) rfl ?_
    refine zk_aload_n C kd_Jd_judgeOne_90 rfl 0 rfl rfl ?_
    refine zs_get (v := .ref (S.1 12)) C 38 1 rfl rfl rfl rfl ki_Jd (by decide) kw352 kd_Jd_judgeOne_91 rfl ?_
    refine zs_get (v := .ref (S.1 16)) C 12 3 rfl rfl rfl rfl ki_Tr (by decide) kw168 kd_Jd_judgeOne_94 rfl ?_
    refine zk_iload_n C kd_Jd_judgeOne_97 rfl 2 rfl rfl ?_
    obtain ⟨q8, e⟩ := zd_g e
    refine zs_iald C 16 rfl (zd_vp q8) kd_Jd_judgeOne_98 rfl ?_
    refine zk_stk (r' := [.int (h2.2.1 16 x2.toNatClampNeg), .int (f_Cd_turning x4 x3), .int x1, .ref (S.1 38)]) rfl ?_
    refine zk_callS (rn := { frames := 1, cells := 0, slots := 0, locals := 23 }) (As := [.int (f_Cd_turning x4 x3), .int (h2.2.1 16 x2.toNatClampNeg)]) (rest := [.int x1, .ref (S.1 38)]) C (zc_Cd_one (zs_uM h2 14 x1.toNatClampNeg (vp_nar .byte (x3.toInt8.toInt32))) (f_Cd_turning x4 x3) (h2.2.1 16 x2.toNatClampNeg)) ku_Cd_one kw1261 ks_Cd_one rfl ⟨by decide, by decide⟩ ⟨by decide, by decide⟩ rfl (Nat.le_of_ble_eq_true rfl) kd_Jd_judgeOne_99 rfl (c1 := 0) (s1 := 0) rfl rfl (fun v w hp => ?_)
    obtain ⟨rfl, rfl⟩ := hp
    refine zk_stk (r' := [.int (f_Cd_one (f_Cd_turning x4 x3) (h2.2.1 16 x2.toNatClampNeg)), .int x1, .ref (S.1 38)]) rfl ?_
    obtain ⟨h10, c9, e⟩ := zd_b e
    refine zs_callV (k := 38) (rn := { frames := 0, cells := 0, slots := 0, locals := 0 }) (As := [.int x1, .int (f_Cd_one (f_Cd_turning x4 x3) (h2.2.1 16 x2.toNatClampNeg))]) (rest := []) C (zc_Jd_fold (zs_uM h2 14 x1.toNatClampNeg (vp_nar .byte (x3.toInt8.toInt32))) x1 (f_Cd_one (f_Cd_turning x4 x3) (h2.2.1 16 x2.toNatClampNeg)) c9) ku_Jd_fold kw1234 kv_Jd_fold rfl ⟨by decide, by decide⟩ ⟨by decide, by decide⟩ rfl rfl rfl (Nat.le_of_ble_eq_true rfl) kd_Jd_judgeOne_102 rfl (c1 := 0) (s1 := 0) rfl rfl (fun v w hp => ?_)
    obtain ⟨rfl, rfl⟩ := hp
    refine zk_stk (r' := []) rfl ?_
    exact zk_vret C hR kd_Jd_judgeOne_105 rfl rfl (zd_rV e)
set_option maxHeartbeats 4000000 in
set_option maxRecDepth 100000 in
theorem zb_Jd_judgeOne_53 {X : zkj_T} {S : zs_T} {P : ze_T} {l : Launch} {D : va_G} {sz0 : Nat} {rh : zs_H} (C : zk_C X km_Jd_judgeOne (zs_G S l D sz0) { frames := 2, cells := 0, slots := 0, locals := 45 } (ze_E P)) (hR : zkj_R X (zd_PV S rh) (none)) (h : zs_H) (x1 : Int32) (x2 : Int32) (x3 : Int32) (x4 : Int32) (e : f_Jd_judgeOne_53 h x1 x2 x3 x4 = some rh) : zk_Ab X (zs_W S h) 0 0 53 [(0, .ref (S.1 38)), (1, .int x1), (2, .int x2), (3, .int x3), (4, .int x4)] [.ref (S.1 38)] := by
  unfold f_Jd_judgeOne_53 at e
  refine zk_iconst (v := 0) C kd_Jd_judgeOne_53 (by decide) rfl ?_
  refine zk_lvs (lv' := [(0, .ref (S.1 38)), (1, .int x1), (2, .int x2), (3, .int x3), (4, .int x4)]) [0, 1, 2, 3, 4] rfl ?_
  exact zb_Jd_judgeOne_54 C hR h x1 x2 x3 x4 0 e
set_option maxHeartbeats 4000000 in
set_option maxRecDepth 100000 in
theorem zb_Jd_judgeOne_37 {X : zkj_T} {S : zs_T} {P : ze_T} {l : Launch} {D : va_G} {sz0 : Nat} {rh : zs_H} (C : zk_C X km_Jd_judgeOne (zs_G S l D sz0) { frames := 2, cells := 0, slots := 0, locals := 45 } (ze_E P)) (hR : zkj_R X (zd_PV S rh) (none)) (h : zs_H) (x1 : Int32) (x2 : Int32) (x3 : Int32) (y0 : Int32) (e : f_Jd_judgeOne_37 h x1 x2 x3 y0 = some rh) : zk_Ab X (zs_W S h) 0 0 37 [(0, .ref (S.1 38)), (1, .int x1), (2, .int x2), (3, .int x3)] [.int y0] := by
  unfold f_Jd_judgeOne_37 at e
  refine zk_istore (lv' := [(4, _), (0, _), (1, _), (2, _), (3, _)]) C kd_Jd_judgeOne_37 (by decide) rfl rfl ?_
  refine zk_aload_n C kd_Jd_judgeOne_39 rfl 1 rfl rfl ?_
  refine zk_iload C kd_Jd_judgeOne_40 0 rfl rfl ?_
  refine zk_if_eq (tgt := 53) C kd_Jd_judgeOne_42 (by decide) rfl (fun b1 => ?_) (fun b1 => ?_)
  · replace e := zd_pos b1 e
    refine zk_lvs (lv' := [(0, .ref (S.1 38)), (1, .int x1), (2, .int x2), (3, .int x3), (4, .int y0)]) [1, 2, 3, 4, 0] rfl ?_
    exact zb_Jd_judgeOne_53 C hR h x1 x2 x3 y0 e
  · replace e := zd_neg b1 e
    refine zk_iload_n C kd_Jd_judgeOne_45 rfl 4 rfl rfl ?_
    refine zk_if_ne (tgt := 53) C kd_Jd_judgeOne_46 (by decide) rfl (fun b2 => ?_) (fun b2 => ?_)
    · replace e := zd_neg b2 e
      refine zk_lvs (lv' := [(0, .ref (S.1 38)), (1, .int x1), (2, .int x2), (3, .int x3), (4, .int y0)]) [1, 2, 3, 4, 0] rfl ?_
      exact zb_Jd_judgeOne_53 C hR h x1 x2 x3 y0 e
    · replace e := zd_pos b2 e
      refine zk_iconst (v := 1) C kd_Jd_judgeOne_49 (by decide) rfl ?_
      refine zk_goto (tgt := 54) C kd_Jd_judgeOne_50 (by decide) ?_
      refine zk_lvs (lv' := [(0, .ref (S.1 38)), (1, .int x1), (2, .int x2), (3, .int x3), (4, .int y0)]) [1, 2, 3, 4, 0] rfl ?_
      exact zb_Jd_judgeOne_54 C hR h x1 x2 x3 y0 1 e
set_option maxHeartbeats 4000000 in
set_option maxRecDepth 100000 in
theorem zc_Jd_judgeOne {l : Launch} {D : va_G} {sz0 : Nat} {S : zs_T} {P : ze_T} (h : zs_H) (x1 : Int32) {rh : zs_H} (e : f_Jd_judgeOne h x1 = some rh) : zk_Sp (zs_G S l D sz0) (ze_E P) km_Jd_judgeOne { frames := 2, cells := 0, slots := 0, locals := 45 } [.ref (S.1 38), .int x1] (zs_W S h) (zd_PV S rh) := by
  refine zk_met ku_Jd_judgeOne (Nat.le_of_ble_eq_true rfl) (ze_Em P) ?_
  intro X C hR
  refine zk_lvs (lv' := [(0, .ref (S.1 38)), (1, .int x1)]) [0, 1] rfl ?_
  unfold f_Jd_judgeOne at e
  refine zk_aload_n C kd_Jd_judgeOne_0 rfl 0 rfl rfl ?_
  refine zs_get (v := .ref (S.1 12)) C 38 1 rfl rfl rfl rfl ki_Jd (by decide) kw352 kd_Jd_judgeOne_1 rfl ?_
  refine zs_get (v := .ref (S.1 17)) C 12 4 rfl rfl rfl rfl ki_Tr (by decide) kw170 kd_Jd_judgeOne_4 rfl ?_
  refine zk_iload_n C kd_Jd_judgeOne_7 rfl 1 rfl rfl ?_
  obtain ⟨q1, e⟩ := zd_g e
  refine zs_iald C 17 rfl (zd_vp q1) kd_Jd_judgeOne_8 rfl ?_
  refine zk_istore_n (lv' := [(2, _), (0, _), (1, _)]) C kd_Jd_judgeOne_9 rfl (by decide) rfl rfl ?_
  refine zk_aload_n C kd_Jd_judgeOne_10 rfl 1 rfl rfl ?_
  refine zs_get (v := .ref (S.1 12)) C 38 1 rfl rfl rfl rfl ki_Jd (by decide) kw352 kd_Jd_judgeOne_11 rfl ?_
  refine zs_get (v := .ref (S.1 14)) C 12 1 rfl rfl rfl rfl ki_Tr (by decide) kw160 kd_Jd_judgeOne_14 rfl ?_
  refine zk_iload_n C kd_Jd_judgeOne_17 rfl 0 rfl rfl ?_
  obtain ⟨q2, e⟩ := zd_g e
  refine zs_bald C 14 rfl (zd_vp q2) kd_Jd_judgeOne_18 rfl ?_
  refine zk_istore_n (lv' := [(3, _), (2, _), (0, _), (1, _)]) C kd_Jd_judgeOne_19 rfl (by decide) rfl rfl ?_
  refine zk_aload_n C kd_Jd_judgeOne_20 rfl 2 rfl rfl ?_
  refine zs_get (v := .ref (S.1 12)) C 38 1 rfl rfl rfl rfl ki_Jd (by decide) kw352 kd_Jd_judgeOne_21 rfl ?_
  refine zs_get (v := .ref (S.1 16)) C 12 3 rfl rfl rfl rfl ki_Tr (by decide) kw168 kd_Jd_judgeOne_24 rfl ?_
  refine zk_iload_n C kd_Jd_judgeOne_27 rfl 3 rfl rfl ?_
  refine zs_iald C 16 rfl (zd_vp q1) kd_Jd_judgeOne_28 rfl ?_
  refine zk_if_ne (tgt := 36) C kd_Jd_judgeOne_29 (by decide) rfl (fun b3 => ?_) (fun b3 => ?_)
  · replace e := zd_neg b3 e
    refine zk_iconst (v := 0) C kd_Jd_judgeOne_36 (by decide) rfl ?_
    refine zk_lvs (lv' := [(0, .ref (S.1 38)), (1, .int x1), (2, .int (h.2.1 17 x1.toNatClampNeg)), (3, .int (h.2.1 14 (h.2.1 17 x1.toNatClampNeg).toNatClampNeg))]) [2, 3, 1, 0] rfl ?_
    exact zb_Jd_judgeOne_37 C hR h x1 (h.2.1 17 x1.toNatClampNeg) (h.2.1 14 (h.2.1 17 x1.toNatClampNeg).toNatClampNeg) 0 e
  · replace e := zd_pos b3 e
    refine zk_iconst (v := 1) C kd_Jd_judgeOne_32 (by decide) rfl ?_
    refine zk_goto (tgt := 37) C kd_Jd_judgeOne_33 (by decide) ?_
    refine zk_lvs (lv' := [(0, .ref (S.1 38)), (1, .int x1), (2, .int (h.2.1 17 x1.toNatClampNeg)), (3, .int (h.2.1 14 (h.2.1 17 x1.toNatClampNeg).toNatClampNeg))]) [2, 3, 1, 0] rfl ?_
    exact zb_Jd_judgeOne_37 C hR h x1 (h.2.1 17 x1.toNatClampNeg) (h.2.1 14 (h.2.1 17 x1.toNatClampNeg).toNatClampNeg) 1 e
set_option maxHeartbeats 4000000 in
set_option maxRecDepth 100000 in
theorem zc_Jd_wider {l : Launch} {D : va_G} {sz0 : Nat} {S : zs_T} {P : ze_T} (h : zs_H) (x0 : Int32) (x1 : Int32) : zk_Sp (zs_G S l D sz0) (ze_E P) km_Jd_wider { frames := 1, cells := 0, slots := 0, locals := 23 } [.int x0, .int x1] (zs_W S h) (zd_PI S (f_Jd_wider x0 x1) h) := by
  obtain ⟨rv, e⟩ : ∃ rv, f_Jd_wider x0 x1 = rv := ⟨_, rfl⟩
  rw [e]
  refine zk_met ku_Jd_wider (Nat.le_of_ble_eq_true rfl) (ze_Em P) ?_
  intro X C hR
  refine zk_lvs (lv' := [(0, .int x0), (1, .int x1)]) [0, 1] rfl ?_
  unfold f_Jd_wider at e
  refine zk_iload_n C kd_Jd_wider_0 rfl 0 rfl rfl ?_
  refine zk_if_eq (tgt := 8) C kd_Jd_wider_1 (by decide) rfl (fun b1 => ?_) (fun b1 => ?_)
  · replace e := zd_pos b1 e
    refine zk_iconst (v := (-1)) C kd_Jd_wider_8 (by decide) rfl ?_
    refine zk_goto (tgt := 17) C kd_Jd_wider_9 (by decide) ?_
    exact zk_iret C hR kd_Jd_wider_17 rfl rfl (zd_rIT e)
  · replace e := zd_neg b1 e
    refine zk_iload_n C kd_Jd_wider_4 rfl 1 rfl rfl ?_
    refine zk_if_ne (tgt := 12) C kd_Jd_wider_5 (by decide) rfl (fun b2 => ?_) (fun b2 => ?_)
    · replace e := zd_neg b2 e
      refine zk_iload_n C kd_Jd_wider_12 rfl 0 rfl rfl ?_
      refine zk_iload_n C kd_Jd_wider_13 rfl 1 rfl rfl ?_
      refine zk_mmax C kw1211 kw797 kw19 (by decide) (Nat.le_of_ble_eq_true rfl) (Nat.le_refl _) (Nat.le_refl _) kd_Jd_wider_14 rfl ?_
      exact zk_iret C hR kd_Jd_wider_17 rfl rfl (zd_rIT e)
    · replace e := zd_pos b2 e
      refine zk_iconst (v := (-1)) C kd_Jd_wider_8 (by decide) rfl ?_
      refine zk_goto (tgt := 17) C kd_Jd_wider_9 (by decide) ?_
      exact zk_iret C hR kd_Jd_wider_17 rfl rfl (zd_rIT e)
set_option maxHeartbeats 4000000 in
set_option maxRecDepth 100000 in
theorem zb_Cd_operation_20 {X : zkj_T} {S : zs_T} {P : ze_T} {l : Launch} {D : va_G} {sz0 : Nat} {rv : Int32} {h : zs_H} (C : zk_C X km_Cd_operation (zs_G S l D sz0) { frames := 0, cells := 0, slots := 0, locals := 0 } (ze_E P)) (hR : zkj_R X (zd_PI S rv h) (some .int)) (y0 : Int32) (y1 : Int32) (e : f_Cd_operation_20 y0 y1 = rv) : zk_Ab X (zs_W S h) 0 0 20 [] [.int y0, .int y1] := by
  unfold f_Cd_operation_20 at e
  refine zk_iadd C kd_Cd_operation_20 rfl ?_
  exact zk_iret C hR kd_Cd_operation_21 rfl rfl (zd_rIT e)
set_option maxHeartbeats 4000000 in
set_option maxRecDepth 100000 in
theorem zc_Cd_operation {l : Launch} {D : va_G} {sz0 : Nat} {S : zs_T} {P : ze_T} (h : zs_H) (x0 : Int32) (x1 : Int32) : zk_Sp (zs_G S l D sz0) (ze_E P) km_Cd_operation { frames := 0, cells := 0, slots := 0, locals := 0 } [.int x0, .int x1] (zs_W S h) (zd_PI S (f_Cd_operation x0 x1) h) := by
  obtain ⟨rv, e⟩ : ∃ rv, f_Cd_operation x0 x1 = rv := ⟨_, rfl⟩
  rw [e]
  refine zk_met ku_Cd_operation (Nat.le_of_ble_eq_true rfl) (ze_Em P) ?_
  intro X C hR
  refine zk_lvs (lv' := [(0, .int x0), (1, .int x1)]) [0, 1] rfl ?_
  unfold f_Cd_operation at e
  refine zk_iload_n C kd_Cd_operation_0 rfl 0 rfl rfl ?_
  refine zk_bipush (v := 9) C kd_Cd_operation_1 (by decide) rfl ?_
  refine zk_icmp_lt (tgt := 22) C kd_Cd_operation_3 (by decide) rfl (fun b1 => ?_) (fun b1 => ?_)
  · replace e := zd_pos b1 e
    refine zk_iload_n C kd_Cd_operation_22 rfl 0 rfl rfl ?_
    refine zk_iconst (v := 3) C kd_Cd_operation_23 (by decide) rfl ?_
    refine zk_icmp_lt (tgt := 34) C kd_Cd_operation_24 (by decide) rfl (fun b2 => ?_) (fun b2 => ?_)
    · replace e := zd_pos b2 e
      refine zk_iload_n C kd_Cd_operation_34 rfl 0 rfl rfl ?_
      refine zk_if_ne (tgt := 43) C kd_Cd_operation_35 (by decide) rfl (fun b3 => ?_) (fun b3 => ?_)
      · replace e := zd_neg b3 e
        refine zk_iload_n C kd_Cd_operation_43 rfl 0 rfl rfl ?_
        refine zk_iconst (v := 1) C kd_Cd_operation_44 (by decide) rfl ?_
        refine zk_icmp_ne (tgt := 53) C kd_Cd_operation_45 (by decide) rfl (fun b4 => ?_) (fun b4 => ?_)
        · replace e := zd_neg b4 e
          refine zk_bipush (v := 10) C kd_Cd_operation_53 (by decide) rfl ?_
          exact zk_iret C hR kd_Cd_operation_55 rfl rfl (zd_rIT e)
        · replace e := zd_pos b4 e
          refine zk_bipush (v := 12) C kd_Cd_operation_48 (by decide) rfl ?_
          refine zk_goto (tgt := 55) C kd_Cd_operation_50 (by decide) ?_
          exact zk_iret C hR kd_Cd_operation_55 rfl rfl (zd_rIT e)
      · replace e := zd_pos b3 e
        refine zk_bipush (v := 11) C kd_Cd_operation_38 (by decide) rfl ?_
        refine zk_goto (tgt := 55) C kd_Cd_operation_40 (by decide) ?_
        exact zk_iret C hR kd_Cd_operation_55 rfl rfl (zd_rIT e)
    · replace e := zd_neg b2 e
      refine zk_iload_n C kd_Cd_operation_27 rfl 0 rfl rfl ?_
      refine zk_iconst (v := 3) C kd_Cd_operation_28 (by decide) rfl ?_
      refine zk_isub C kd_Cd_operation_29 rfl ?_
      refine zk_bipush (v := 13) C kd_Cd_operation_30 (by decide) rfl ?_
      refine zk_iadd C kd_Cd_operation_32 rfl ?_
      exact zk_iret C hR kd_Cd_operation_33 rfl rfl (zd_rIT e)
  · replace e := zd_neg b1 e
    refine zk_iload_n C kd_Cd_operation_6 rfl 0 rfl rfl ?_
    refine zk_bipush (v := 9) C kd_Cd_operation_7 (by decide) rfl ?_
    refine zk_isub C kd_Cd_operation_9 rfl ?_
    refine zk_iload_n C kd_Cd_operation_10 rfl 1 rfl rfl ?_
    refine zk_iconst (v := 1) C kd_Cd_operation_11 (by decide) rfl ?_
    refine zk_icmp_ne (tgt := 19) C kd_Cd_operation_12 (by decide) rfl (fun b5 => ?_) (fun b5 => ?_)
    · replace e := zd_neg b5 e
      refine zk_iconst (v := 5) C kd_Cd_operation_19 (by decide) rfl ?_
      refine zk_lvs (lv' := []) [] rfl ?_
      exact zb_Cd_operation_20 C hR 5 (x0 - 9) e
    · replace e := zd_pos b5 e
      refine zk_iconst (v := 0) C kd_Cd_operation_15 (by decide) rfl ?_
      refine zk_goto (tgt := 20) C kd_Cd_operation_16 (by decide) ?_
      refine zk_lvs (lv' := []) [] rfl ?_
      exact zb_Cd_operation_20 C hR 0 (x0 - 9) e
set_option maxHeartbeats 4000000 in
set_option maxRecDepth 100000 in
theorem zb_Jd_alike_18 {X : zkj_T} {S : zs_T} {P : ze_T} {l : Launch} {D : va_G} {sz0 : Nat} {rv : Int32} {h : zs_H} (C : zk_C X km_Jd_alike (zs_G S l D sz0) { frames := 1, cells := 0, slots := 0, locals := 23 } (ze_E P)) (hR : zkj_R X (zd_PI S rv h) (some .int)) (x0 : Int32) (x1 : Int32) (y0 : Int32) (y1 : Int32) (e : f_Jd_alike_18 x0 x1 y0 y1 = rv) : zk_Ab X (zs_W S h) 0 0 18 [(0, .int x0), (1, .int x1)] [.int y0, .int y1] := by
  unfold f_Jd_alike_18 at e
  refine zk_icmp_ne (tgt := 29) C kd_Jd_alike_18 (by decide) rfl (fun b1 => ?_) (fun b1 => ?_)
  · replace e := zd_neg b1 e
    refine zk_iconst (v := (-1)) C kd_Jd_alike_29 (by decide) rfl ?_
    exact zk_iret C hR kd_Jd_alike_30 rfl rfl (zd_rIT e)
  · replace e := zd_pos b1 e
    refine zk_iload_n C kd_Jd_alike_21 rfl 0 rfl rfl ?_
    refine zk_iload_n C kd_Jd_alike_22 rfl 1 rfl rfl ?_
    refine zk_mmax C kw1211 kw797 kw19 (by decide) (Nat.le_of_ble_eq_true rfl) (Nat.le_refl _) (Nat.le_refl _) kd_Jd_alike_23 rfl ?_
    refine zk_goto (tgt := 30) C kd_Jd_alike_26 (by decide) ?_
    exact zk_iret C hR kd_Jd_alike_30 rfl rfl (zd_rIT e)
set_option maxHeartbeats 4000000 in
set_option maxRecDepth 100000 in
theorem zb_Jd_alike_9 {X : zkj_T} {S : zs_T} {P : ze_T} {l : Launch} {D : va_G} {sz0 : Nat} {rv : Int32} {h : zs_H} (C : zk_C X km_Jd_alike (zs_G S l D sz0) { frames := 1, cells := 0, slots := 0, locals := 23 } (ze_E P)) (hR : zkj_R X (zd_PI S rv h) (some .int)) (x0 : Int32) (x1 : Int32) (y0 : Int32) (e : f_Jd_alike_9 x0 x1 y0 = rv) : zk_Ab X (zs_W S h) 0 0 9 [(0, .int x0), (1, .int x1)] [.int y0] := by
  unfold f_Jd_alike_9 at e
  refine zk_iload_n C kd_Jd_alike_9 rfl 1 rfl rfl ?_
  refine zk_if_ne (tgt := 17) C kd_Jd_alike_10 (by decide) rfl (fun b1 => ?_) (fun b1 => ?_)
  · replace e := zd_neg b1 e
    refine zk_iconst (v := 0) C kd_Jd_alike_17 (by decide) rfl ?_
    refine zk_lvs (lv' := [(0, .int x0), (1, .int x1)]) [0, 1] rfl ?_
    exact zb_Jd_alike_18 C hR x0 x1 0 y0 e
  · replace e := zd_pos b1 e
    refine zk_iconst (v := 1) C kd_Jd_alike_13 (by decide) rfl ?_
    refine zk_goto (tgt := 18) C kd_Jd_alike_14 (by decide) ?_
    refine zk_lvs (lv' := [(0, .int x0), (1, .int x1)]) [0, 1] rfl ?_
    exact zb_Jd_alike_18 C hR x0 x1 1 y0 e
set_option maxHeartbeats 4000000 in
set_option maxRecDepth 100000 in
theorem zc_Jd_alike {l : Launch} {D : va_G} {sz0 : Nat} {S : zs_T} {P : ze_T} (h : zs_H) (x0 : Int32) (x1 : Int32) : zk_Sp (zs_G S l D sz0) (ze_E P) km_Jd_alike { frames := 1, cells := 0, slots := 0, locals := 23 } [.int x0, .int x1] (zs_W S h) (zd_PI S (f_Jd_alike x0 x1) h) := by
  obtain ⟨rv, e⟩ : ∃ rv, f_Jd_alike x0 x1 = rv := ⟨_, rfl⟩
  rw [e]
  refine zk_met ku_Jd_alike (Nat.le_of_ble_eq_true rfl) (ze_Em P) ?_
  intro X C hR
  refine zk_lvs (lv' := [(0, .int x0), (1, .int x1)]) [0, 1] rfl ?_
  unfold f_Jd_alike at e
  refine zk_iload_n C kd_Jd_alike_0 rfl 0 rfl rfl ?_
  refine zk_if_ne (tgt := 8) C kd_Jd_alike_1 (by decide) rfl (fun b1 => ?_) (fun b1 => ?_)
  · replace e := zd_neg b1 e
    refine zk_iconst (v := 0) C kd_Jd_alike_8 (by decide) rfl ?_
    refine zk_lvs (lv' := [(0, .int x0), (1, .int x1)]) [0, 1] rfl ?_
    exact zb_Jd_alike_9 C hR x0 x1 0 e
  · replace e := zd_pos b1 e
    refine zk_iconst (v := 1) C kd_Jd_alike_4 (by decide) rfl ?_
    refine zk_goto (tgt := 9) C kd_Jd_alike_5 (by decide) ?_
    refine zk_lvs (lv' := [(0, .int x0), (1, .int x1)]) [0, 1] rfl ?_
    exact zb_Jd_alike_9 C hR x0 x1 1 e
set_option maxHeartbeats 4000000 in
set_option maxRecDepth 100000 in
theorem zb_Jd_judgeTwo_194 {X : zkj_T} {S : zs_T} {P : ze_T} {l : Launch} {D : va_G} {sz0 : Nat} {rh : zs_H} (C : zk_C X km_Jd_judgeTwo (zs_G S l D sz0) { frames := 2, cells := 0, slots := 0, locals := 45 } (ze_E P)) (hR : zkj_R X (zd_PV S rh) (none)) (h : zs_H) (x1 : Int32) (x2 : Int32) (x3 : Int32) (x8 : Int32) (y0 : Int32) (e : f_Jd_judgeTwo_194 h x1 x2 x3 x8 y0 = some rh) : zk_Ab X (zs_W S h) 0 0 194 [(0, .ref (S.1 38)), (1, .int x1), (2, .int x2), (3, .int x3), (8, .int x8)] [.int y0] := by
  unfold f_Jd_judgeTwo_194 at e
  refine zk_istore (lv' := [(9, _), (0, _), (1, _), (2, _), (3, _), (8, _)]) C kd_Jd_judgeTwo_194 (by decide) rfl rfl ?_
  refine zk_iload C kd_Jd_judgeTwo_196 0 rfl rfl ?_
  refine zk_if_eq (tgt := 246) C kd_Jd_judgeTwo_198 (by decide) rfl (fun b1 => ?_) (fun b1 => ?_)
  · replace e := zd_pos b1 e
    exact zk_vret C hR kd_Jd_judgeTwo_246 rfl rfl (zd_rV e)
  · replace e := zd_neg b1 e
    refine zk_iload C kd_Jd_judgeTwo_201 5 rfl rfl ?_
    refine zk_aload_n C kd_Jd_judgeTwo_203 rfl 1 rfl rfl ?_
    refine zs_get (v := .ref (S.1 12)) C 38 1 rfl rfl rfl rfl ki_Jd (by decide) kw352 kd_Jd_judgeTwo_204 rfl ?_
    refine zs_get (v := .ref (S.1 16)) C 12 3 rfl rfl rfl rfl ki_Tr (by decide) kw168 kd_Jd_judgeTwo_207 rfl ?_
    refine zk_iload_n C kd_Jd_judgeTwo_210 rfl 4 rfl rfl ?_
    obtain ⟨q2, e⟩ := zd_g e
    refine zs_iald C 16 rfl (zd_vp q2) kd_Jd_judgeTwo_211 rfl ?_
    refine zk_callS (rn := { frames := 0, cells := 0, slots := 0, locals := 0 }) (As := [.int x8, .int (h.2.1 16 x3.toNatClampNeg)]) (rest := []) C (zc_Cd_isByZero h x8 (h.2.1 16 x3.toNatClampNeg)) ku_Cd_isByZero kw1250 ks_Cd_isByZero rfl ⟨by decide, by decide⟩ ⟨by decide, by decide⟩ rfl (Nat.le_of_ble_eq_true rfl) kd_Jd_judgeTwo_212 rfl (c1 := 0) (s1 := 0) rfl rfl (fun v w hp => ?_)
    obtain ⟨rfl, rfl, z3⟩ := hp
    refine zk_stk (r' := [.int (f_Cd_isByZero x8 (h.2.1 16 x3.toNatClampNeg))]) rfl ?_
    refine zk_if_ne (tgt := 246) C kd_Jd_judgeTwo_215 (by decide) rfl (fun b4 => ?_) (fun b4 => ?_)
    · replace e := zd_neg b4 e
      exact zk_vret C hR kd_Jd_judgeTwo_246 rfl rfl (zd_rV e)
    · replace e := zd_pos b4 e
      refine zk_aload_n C kd_Jd_judgeTwo_218 rfl 1 rfl rfl ?_
      refine zk_iload_n C kd_Jd_judgeTwo_219 rfl 2 rfl rfl ?_
      refine zk_iload C kd_Jd_judgeTwo_220 5 rfl rfl ?_
      refine zk_aload_n C kd_Jd_judgeTwo_222 rfl 1 rfl rfl ?_
      refine zs_get (v := .ref (S.1 12)) C 38 1 rfl rfl rfl rfl ki_Jd (by decide) kw352 kd_Jd_judgeTwo_223 rfl ?_
      refine zs_get (v := .ref (S.1 16)) C 12 3 rfl rfl rfl rfl ki_Tr (by decide) kw168 kd_Jd_judgeTwo_226 rfl ?_
      refine zk_iload_n C kd_Jd_judgeTwo_229 rfl 3 rfl rfl ?_
      obtain ⟨q5, e⟩ := zd_g e
      refine zs_iald C 16 rfl (zd_vp q5) kd_Jd_judgeTwo_230 rfl ?_
      refine zk_aload_n C kd_Jd_judgeTwo_231 rfl 1 rfl rfl ?_
      refine zs_get (v := .ref (S.1 12)) C 38 1 rfl rfl rfl rfl ki_Jd (by decide) kw352 kd_Jd_judgeTwo_232 rfl ?_
      refine zs_get (v := .ref (S.1 16)) C 12 3 rfl rfl rfl rfl ki_Tr (by decide) kw168 kd_Jd_judgeTwo_235 rfl ?_
      refine zk_iload_n C kd_Jd_judgeTwo_238 rfl 4 rfl rfl ?_
      refine zs_iald C 16 rfl (zd_vp q2) kd_Jd_judgeTwo_239 rfl ?_
      obtain ⟨v7, c6, e⟩ := zd_b e
      refine zk_callS (rn := { frames := 1, cells := 0, slots := 0, locals := 23 }) (As := [.int x8, .int (h.2.1 16 x2.toNatClampNeg), .int (h.2.1 16 x3.toNatClampNeg)]) (rest := [.int x1, .ref (S.1 38)]) C (zc_Cd_two h x8 (h.2.1 16 x2.toNatClampNeg) (h.2.1 16 x3.toNatClampNeg) c6) ku_Cd_two kw1253 ks_Cd_two rfl ⟨by decide, by decide⟩ ⟨by decide, by decide⟩ rfl (Nat.le_of_ble_eq_true rfl) kd_Jd_judgeTwo_240 rfl (c1 := 0) (s1 := 0) rfl rfl (fun v w hp => ?_)
      obtain ⟨rfl, rfl⟩ := hp
      refine zk_stk (r' := [.int v7, .int x1, .ref (S.1 38)]) rfl ?_
      obtain ⟨h9, c8, e⟩ := zd_b e
      refine zs_callV (k := 38) (rn := { frames := 0, cells := 0, slots := 0, locals := 0 }) (As := [.int x1, .int v7]) (rest := []) C (zc_Jd_fold h x1 v7 c8) ku_Jd_fold kw1234 kv_Jd_fold rfl ⟨by decide, by decide⟩ ⟨by decide, by decide⟩ rfl rfl rfl (Nat.le_of_ble_eq_true rfl) kd_Jd_judgeTwo_243 rfl (c1 := 0) (s1 := 0) rfl rfl (fun v w hp => ?_)
      obtain ⟨rfl, rfl⟩ := hp
      refine zk_stk (r' := []) rfl ?_
      exact zk_vret C hR kd_Jd_judgeTwo_246 rfl rfl (zd_rV e)
set_option maxHeartbeats 4000000 in
set_option maxRecDepth 100000 in
theorem zb_Jd_judgeTwo_193 {X : zkj_T} {S : zs_T} {P : ze_T} {l : Launch} {D : va_G} {sz0 : Nat} {rh : zs_H} (C : zk_C X km_Jd_judgeTwo (zs_G S l D sz0) { frames := 2, cells := 0, slots := 0, locals := 45 } (ze_E P)) (hR : zkj_R X (zd_PV S rh) (none)) (h : zs_H) (x1 : Int32) (x2 : Int32) (x3 : Int32) (x8 : Int32) (e : f_Jd_judgeTwo_193 h x1 x2 x3 x8 = some rh) : zk_Ab X (zs_W S h) 0 0 193 [(0, .ref (S.1 38)), (1, .int x1), (2, .int x2), (3, .int x3), (8, .int x8)] [] := by
  unfold f_Jd_judgeTwo_193 at e
  refine zk_iconst (v := 0) C kd_Jd_judgeTwo_193 (by decide) rfl ?_
  refine zk_lvs (lv' := [(0, .ref (S.1 38)), (1, .int x1), (2, .int x2), (3, .int x3), (8, .int x8)]) [0, 1, 2, 3, 4] rfl ?_
  exact zb_Jd_judgeTwo_194 C hR h x1 x2 x3 x8 0 e
set_option maxHeartbeats 4000000 in
set_option maxRecDepth 100000 in
theorem zb_Jd_judgeTwo_149 {X : zkj_T} {S : zs_T} {P : ze_T} {l : Launch} {D : va_G} {sz0 : Nat} {rh : zs_H} (C : zk_C X km_Jd_judgeTwo (zs_G S l D sz0) { frames := 2, cells := 0, slots := 0, locals := 45 } (ze_E P)) (hR : zkj_R X (zd_PV S rh) (none)) (h : zs_H) (x1 : Int32) (x2 : Int32) (x3 : Int32) (x4 : Int32) (y0 : Int32) (y1 : Int32) (e : f_Jd_judgeTwo_149 h x1 x2 x3 x4 y0 y1 = some rh) : zk_Ab X (zs_W S h) 0 0 149 [(0, .ref (S.1 38)), (1, .int x1), (2, .int x2), (3, .int x3), (4, .int x4)] [.int y0, .int y1, .ref (S.1 14)] := by
  unfold f_Jd_judgeTwo_149 at e
  refine zk_i2b C kd_Jd_judgeTwo_149 rfl ?_
  obtain ⟨q1, e⟩ := zd_g e
  refine zs_bast C 14 rfl (zd_vp q1) kd_Jd_judgeTwo_150 rfl ?_
  refine zk_iload C kd_Jd_judgeTwo_151 4 rfl rfl ?_
  refine zk_aload_n C kd_Jd_judgeTwo_153 rfl 0 rfl rfl ?_
  refine zs_get (v := .ref (S.1 12)) C 38 1 rfl rfl rfl rfl ki_Jd (by decide) kw352 kd_Jd_judgeTwo_154 rfl ?_
  refine zs_get (v := .ref (S.1 14)) C 12 1 rfl rfl rfl rfl ki_Tr (by decide) kw160 kd_Jd_judgeTwo_157 rfl ?_
  refine zk_iload_n C kd_Jd_judgeTwo_160 rfl 1 rfl rfl ?_
  obtain ⟨q2, e⟩ := zd_g e
  refine zs_bald C 14 rfl (zd_vp q2) kd_Jd_judgeTwo_161 rfl ?_
  refine zk_stk (r' := [.int ((zs_uM h 14 y1.toNatClampNeg (vp_nar .byte (y0.toInt8.toInt32))).2.1 14 x1.toNatClampNeg), .int x4]) rfl ?_
  refine zk_callS (rn := { frames := 0, cells := 0, slots := 0, locals := 0 }) (As := [.int x4, .int ((zs_uM h 14 y1.toNatClampNeg (vp_nar .byte (y0.toInt8.toInt32))).2.1 14 x1.toNatClampNeg)]) (rest := []) C (zc_Cd_operation (zs_uM h 14 y1.toNatClampNeg (vp_nar .byte (y0.toInt8.toInt32))) x4 ((zs_uM h 14 y1.toNatClampNeg (vp_nar .byte (y0.toInt8.toInt32))).2.1 14 x1.toNatClampNeg)) ku_Cd_operation kw1247 ks_Cd_operation rfl ⟨by decide, by decide⟩ ⟨by decide, by decide⟩ rfl (Nat.le_of_ble_eq_true rfl) kd_Jd_judgeTwo_162 rfl (c1 := 0) (s1 := 0) rfl rfl (fun v w hp => ?_)
  obtain ⟨rfl, rfl⟩ := hp
  refine zk_stk (r' := [.int (f_Cd_operation x4 ((zs_uM h 14 y1.toNatClampNeg (vp_nar .byte (y0.toInt8.toInt32))).2.1 14 x1.toNatClampNeg))]) rfl ?_
  refine zk_istore (lv' := [(8, _), (0, _), (1, _), (2, _), (3, _), (4, _)]) C kd_Jd_judgeTwo_165 (by decide) rfl rfl ?_
  refine zk_aload_n C kd_Jd_judgeTwo_167 rfl 1 rfl rfl ?_
  refine zs_get (v := .ref (S.1 12)) C 38 1 rfl rfl rfl rfl ki_Jd (by decide) kw352 kd_Jd_judgeTwo_168 rfl ?_
  refine zk_iload_n C kd_Jd_judgeTwo_171 rfl 3 rfl rfl ?_
  obtain ⟨v4, c3, e⟩ := zd_b e
  refine zs_callV (k := 12) (rn := { frames := 0, cells := 0, slots := 0, locals := 0 }) (As := [.int x2]) (rest := []) C (zc_Tr_isConstant (zs_uM h 14 y1.toNatClampNeg (vp_nar .byte (y0.toInt8.toInt32))) x2 c3) ku_Tr_isConstant kw1158 kv_Tr_isConstant rfl ⟨by decide, by decide⟩ ⟨by decide, by decide⟩ rfl rfl rfl (Nat.le_of_ble_eq_true rfl) kd_Jd_judgeTwo_172 rfl (c1 := 0) (s1 := 0) rfl rfl (fun v w hp => ?_)
  obtain ⟨rfl, rfl, z5⟩ := hp
  refine zk_stk (r' := [.int v4]) rfl ?_
  refine zk_if_eq (tgt := 193) C kd_Jd_judgeTwo_175 (by decide) rfl (fun b6 => ?_) (fun b6 => ?_)
  · replace e := zd_pos b6 e
    refine zk_lvs (lv' := [(0, .ref (S.1 38)), (1, .int x1), (2, .int x2), (3, .int x3), (8, .int (f_Cd_operation x4 ((zs_uM h 14 y1.toNatClampNeg (vp_nar .byte (y0.toInt8.toInt32))).2.1 14 x1.toNatClampNeg)))]) [1, 2, 3, 4, 0] rfl ?_
    exact zb_Jd_judgeTwo_193 C hR (zs_uM h 14 y1.toNatClampNeg (vp_nar .byte (y0.toInt8.toInt32))) x1 x2 x3 (f_Cd_operation x4 ((zs_uM h 14 y1.toNatClampNeg (vp_nar .byte (y0.toInt8.toInt32))).2.1 14 x1.toNatClampNeg)) e
  · replace e := zd_neg b6 e
    refine zk_aload_n C kd_Jd_judgeTwo_178 rfl 1 rfl rfl ?_
    refine zs_get (v := .ref (S.1 12)) C 38 1 rfl rfl rfl rfl ki_Jd (by decide) kw352 kd_Jd_judgeTwo_179 rfl ?_
    refine zk_iload_n C kd_Jd_judgeTwo_182 rfl 4 rfl rfl ?_
    obtain ⟨v8, c7, e⟩ := zd_b e
    refine zs_callV (k := 12) (rn := { frames := 0, cells := 0, slots := 0, locals := 0 }) (As := [.int x3]) (rest := []) C (zc_Tr_isConstant (zs_uM h 14 y1.toNatClampNeg (vp_nar .byte (y0.toInt8.toInt32))) x3 c7) ku_Tr_isConstant kw1158 kv_Tr_isConstant rfl ⟨by decide, by decide⟩ ⟨by decide, by decide⟩ rfl rfl rfl (Nat.le_of_ble_eq_true rfl) kd_Jd_judgeTwo_183 rfl (c1 := 0) (s1 := 0) rfl rfl (fun v w hp => ?_)
    obtain ⟨rfl, rfl, z9⟩ := hp
    refine zk_stk (r' := [.int v8]) rfl ?_
    refine zk_if_eq (tgt := 193) C kd_Jd_judgeTwo_186 (by decide) rfl (fun b10 => ?_) (fun b10 => ?_)
    · replace e := zd_pos b10 e
      refine zk_lvs (lv' := [(0, .ref (S.1 38)), (1, .int x1), (2, .int x2), (3, .int x3), (8, .int (f_Cd_operation x4 ((zs_uM h 14 y1.toNatClampNeg (vp_nar .byte (y0.toInt8.toInt32))).2.1 14 x1.toNatClampNeg)))]) [1, 2, 3, 4, 0] rfl ?_
      exact zb_Jd_judgeTwo_193 C hR (zs_uM h 14 y1.toNatClampNeg (vp_nar .byte (y0.toInt8.toInt32))) x1 x2 x3 (f_Cd_operation x4 ((zs_uM h 14 y1.toNatClampNeg (vp_nar .byte (y0.toInt8.toInt32))).2.1 14 x1.toNatClampNeg)) e
    · replace e := zd_neg b10 e
      refine zk_iconst (v := 1) C kd_Jd_judgeTwo_189 (by decide) rfl ?_
      refine zk_goto (tgt := 194) C kd_Jd_judgeTwo_190 (by decide) ?_
      refine zk_lvs (lv' := [(0, .ref (S.1 38)), (1, .int x1), (2, .int x2), (3, .int x3), (8, .int (f_Cd_operation x4 ((zs_uM h 14 y1.toNatClampNeg (vp_nar .byte (y0.toInt8.toInt32))).2.1 14 x1.toNatClampNeg)))]) [1, 2, 3, 4, 0] rfl ?_
      exact zb_Jd_judgeTwo_194 C hR (zs_uM h 14 y1.toNatClampNeg (vp_nar .byte (y0.toInt8.toInt32))) x1 x2 x3 (f_Cd_operation x4 ((zs_uM h 14 y1.toNatClampNeg (vp_nar .byte (y0.toInt8.toInt32))).2.1 14 x1.toNatClampNeg)) 1 e
set_option maxHeartbeats 4000000 in
set_option maxRecDepth 100000 in
theorem zb_Jd_judgeTwo_128 {X : zkj_T} {S : zs_T} {P : ze_T} {l : Launch} {D : va_G} {sz0 : Nat} {rh : zs_H} (C : zk_C X km_Jd_judgeTwo (zs_G S l D sz0) { frames := 2, cells := 0, slots := 0, locals := 45 } (ze_E P)) (hR : zkj_R X (zd_PV S rh) (none)) (h : zs_H) (x1 : Int32) (x2 : Int32) (x3 : Int32) (x4 : Int32) (x6 : Int32) (y0 : Int32) (e : f_Jd_judgeTwo_128 h x1 x2 x3 x4 x6 y0 = some rh) : zk_Ab X (zs_W S h) 0 0 128 [(0, .ref (S.1 38)), (1, .int x1), (2, .int x2), (3, .int x3), (4, .int x4), (6, .int x6)] [.int y0] := by
  unfold f_Jd_judgeTwo_128 at e
  refine zk_istore (lv' := [(7, _), (0, _), (1, _), (2, _), (3, _), (4, _), (6, _)]) C kd_Jd_judgeTwo_128 (by decide) rfl rfl ?_
  refine zk_aload_n C kd_Jd_judgeTwo_130 rfl 1 rfl rfl ?_
  refine zs_get (v := .ref (S.1 12)) C 38 1 rfl rfl rfl rfl ki_Jd (by decide) kw352 kd_Jd_judgeTwo_131 rfl ?_
  refine zs_get (v := .ref (S.1 14)) C 12 1 rfl rfl rfl rfl ki_Tr (by decide) kw160 kd_Jd_judgeTwo_134 rfl ?_
  refine zk_iload_n C kd_Jd_judgeTwo_137 rfl 2 rfl rfl ?_
  refine zk_iload C kd_Jd_judgeTwo_138 0 rfl rfl ?_
  refine zk_if_eq (tgt := 147) C kd_Jd_judgeTwo_140 (by decide) rfl (fun b1 => ?_) (fun b1 => ?_)
  · replace e := zd_pos b1 e
    refine zk_iload C kd_Jd_judgeTwo_147 6 rfl rfl ?_
    refine zk_lvs (lv' := [(0, .ref (S.1 38)), (1, .int x1), (2, .int x2), (3, .int x3), (4, .int x4)]) [1, 2, 3, 4, 5] rfl ?_
    exact zb_Jd_judgeTwo_149 C hR h x1 x2 x3 x4 x6 x1 e
  · replace e := zd_neg b1 e
    refine zk_iconst (v := 0) C kd_Jd_judgeTwo_143 (by decide) rfl ?_
    refine zk_goto (tgt := 149) C kd_Jd_judgeTwo_144 (by decide) ?_
    refine zk_lvs (lv' := [(0, .ref (S.1 38)), (1, .int x1), (2, .int x2), (3, .int x3), (4, .int x4)]) [1, 2, 3, 4, 5] rfl ?_
    exact zb_Jd_judgeTwo_149 C hR h x1 x2 x3 x4 0 x1 e
set_option maxHeartbeats 4000000 in
set_option maxRecDepth 100000 in
theorem zb_Jd_judgeTwo_127 {X : zkj_T} {S : zs_T} {P : ze_T} {l : Launch} {D : va_G} {sz0 : Nat} {rh : zs_H} (C : zk_C X km_Jd_judgeTwo (zs_G S l D sz0) { frames := 2, cells := 0, slots := 0, locals := 45 } (ze_E P)) (hR : zkj_R X (zd_PV S rh) (none)) (h : zs_H) (x1 : Int32) (x2 : Int32) (x3 : Int32) (x4 : Int32) (x6 : Int32) (e : f_Jd_judgeTwo_127 h x1 x2 x3 x4 x6 = some rh) : zk_Ab X (zs_W S h) 0 0 127 [(0, .ref (S.1 38)), (1, .int x1), (2, .int x2), (3, .int x3), (4, .int x4), (6, .int x6)] [] := by
  unfold f_Jd_judgeTwo_127 at e
  refine zk_iconst (v := 0) C kd_Jd_judgeTwo_127 (by decide) rfl ?_
  refine zk_lvs (lv' := [(0, .ref (S.1 38)), (1, .int x1), (2, .int x2), (3, .int x3), (4, .int x4), (6, .int x6)]) [0, 1, 2, 3, 4, 5] rfl ?_
  exact zb_Jd_judgeTwo_128 C hR h x1 x2 x3 x4 x6 0 e
set_option maxHeartbeats 4000000 in
set_option maxRecDepth 100000 in
theorem zb_Jd_judgeTwo_94 {X : zkj_T} {S : zs_T} {P : ze_T} {l : Launch} {D : va_G} {sz0 : Nat} {rh : zs_H} (C : zk_C X km_Jd_judgeTwo (zs_G S l D sz0) { frames := 2, cells := 0, slots := 0, locals := 45 } (ze_E P)) (hR : zkj_R X (zd_PV S rh) (none)) (h : zs_H) (x1 : Int32) (x2 : Int32) (x3 : Int32) (x4 : Int32) (y0 : Int32) (e : f_Jd_judgeTwo_94 h x1 x2 x3 x4 y0 = some rh) : zk_Ab X (zs_W S h) 0 0 94 [(0, .ref (S.1 38)), (1, .int x1), (2, .int x2), (3, .int x3), (4, .int x4)] [.int y0] := by
  unfold f_Jd_judgeTwo_94 at e
  refine zk_istore (lv' := [(6, _), (0, _), (1, _), (2, _), (3, _), (4, _)]) C kd_Jd_judgeTwo_94 (by decide) rfl rfl ?_
  refine zk_iload C kd_Jd_judgeTwo_96 0 rfl rfl ?_
  refine zk_iconst (v := (-1)) C kd_Jd_judgeTwo_98 (by decide) rfl ?_
  refine zk_icmp_ne (tgt := 110) C kd_Jd_judgeTwo_99 (by decide) rfl (fun b1 => ?_) (fun b1 => ?_)
  · replace e := zd_neg b1 e
    refine zk_iload C kd_Jd_judgeTwo_110 5 rfl rfl ?_
    refine zk_iconst (v := 3) C kd_Jd_judgeTwo_112 (by decide) rfl ?_
    refine zk_icmp_lt (tgt := 127) C kd_Jd_judgeTwo_113 (by decide) rfl (fun b2 => ?_) (fun b2 => ?_)
    · replace e := zd_pos b2 e
      refine zk_lvs (lv' := [(0, .ref (S.1 38)), (1, .int x1), (2, .int x2), (3, .int x3), (4, .int x4), (6, .int y0)]) [1, 2, 3, 4, 5, 0] rfl ?_
      exact zb_Jd_judgeTwo_127 C hR h x1 x2 x3 x4 y0 e
    · replace e := zd_neg b2 e
      refine zk_iload C kd_Jd_judgeTwo_116 5 rfl rfl ?_
      refine zk_bipush (v := 8) C kd_Jd_judgeTwo_118 (by decide) rfl ?_
      refine zk_icmp_gt (tgt := 127) C kd_Jd_judgeTwo_120 (by decide) rfl (fun b3 => ?_) (fun b3 => ?_)
      · replace e := zd_pos b3 e
        refine zk_lvs (lv' := [(0, .ref (S.1 38)), (1, .int x1), (2, .int x2), (3, .int x3), (4, .int x4), (6, .int y0)]) [1, 2, 3, 4, 5, 0] rfl ?_
        exact zb_Jd_judgeTwo_127 C hR h x1 x2 x3 x4 y0 e
      · replace e := zd_neg b3 e
        refine zk_iconst (v := 1) C kd_Jd_judgeTwo_123 (by decide) rfl ?_
        refine zk_goto (tgt := 128) C kd_Jd_judgeTwo_124 (by decide) ?_
        refine zk_lvs (lv' := [(0, .ref (S.1 38)), (1, .int x1), (2, .int x2), (3, .int x3), (4, .int x4), (6, .int y0)]) [1, 2, 3, 4, 5, 0] rfl ?_
        exact zb_Jd_judgeTwo_128 C hR h x1 x2 x3 x4 y0 1 e
  · replace e := zd_pos b1 e
    refine zk_aload_n C kd_Jd_judgeTwo_102 rfl 1 rfl rfl ?_
    refine zk_bipush (v := 27) C kd_Jd_judgeTwo_103 (by decide) rfl ?_
    refine zk_iload_n C kd_Jd_judgeTwo_105 rfl 2 rfl rfl ?_
    obtain ⟨h5, c4, e⟩ := zd_b e
    refine zs_callV (k := 38) (rn := { frames := 0, cells := 0, slots := 0, locals := 0 }) (As := [.int 27, .int x1]) (rest := []) C (zc_Jd_refuse h 27 x1 c4) ku_Jd_refuse kw1040 kv_Jd_refuse rfl ⟨by decide, by decide⟩ ⟨by decide, by decide⟩ rfl rfl rfl (Nat.le_of_ble_eq_true rfl) kd_Jd_judgeTwo_106 rfl (c1 := 0) (s1 := 0) rfl rfl (fun v w hp => ?_)
    obtain ⟨rfl, rfl⟩ := hp
    refine zk_stk (r' := []) rfl ?_
    exact zk_vret C hR kd_Jd_judgeTwo_109 rfl rfl (zd_rV e)
set_option maxHeartbeats 4000000 in
set_option maxRecDepth 100000 in
theorem zb_Jd_judgeTwo_42 {X : zkj_T} {S : zs_T} {P : ze_T} {l : Launch} {D : va_G} {sz0 : Nat} {rh : zs_H} (C : zk_C X km_Jd_judgeTwo (zs_G S l D sz0) { frames := 2, cells := 0, slots := 0, locals := 45 } (ze_E P)) (hR : zkj_R X (zd_PV S rh) (none)) (h : zs_H) (x1 : Int32) (x2 : Int32) (x3 : Int32) (x4 : Int32) (y0 : Int32) (e : f_Jd_judgeTwo_42 h x1 x2 x3 x4 y0 = some rh) : zk_Ab X (zs_W S h) 0 0 42 [(0, .ref (S.1 38)), (1, .int x1), (2, .int x2), (3, .int x3), (4, .int x4)] [.int y0] := by
  unfold f_Jd_judgeTwo_42 at e
  refine zk_istore (lv' := [(5, _), (0, _), (1, _), (2, _), (3, _), (4, _)]) C kd_Jd_judgeTwo_42 (by decide) rfl rfl ?_
  refine zk_iload C kd_Jd_judgeTwo_44 0 rfl rfl ?_
  refine zk_if_eq (tgt := 73) C kd_Jd_judgeTwo_46 (by decide) rfl (fun b1 => ?_) (fun b1 => ?_)
  · replace e := zd_pos b1 e
    refine zk_aload_n C kd_Jd_judgeTwo_73 rfl 1 rfl rfl ?_
    refine zs_get (v := .ref (S.1 12)) C 38 1 rfl rfl rfl rfl ki_Jd (by decide) kw352 kd_Jd_judgeTwo_74 rfl ?_
    refine zs_get (v := .ref (S.1 14)) C 12 1 rfl rfl rfl rfl ki_Tr (by decide) kw160 kd_Jd_judgeTwo_77 rfl ?_
    refine zk_iload_n C kd_Jd_judgeTwo_80 rfl 3 rfl rfl ?_
    obtain ⟨q2, e⟩ := zd_g e
    refine zs_bald C 14 rfl (zd_vp q2) kd_Jd_judgeTwo_81 rfl ?_
    refine zk_aload_n C kd_Jd_judgeTwo_82 rfl 1 rfl rfl ?_
    refine zs_get (v := .ref (S.1 12)) C 38 1 rfl rfl rfl rfl ki_Jd (by decide) kw352 kd_Jd_judgeTwo_83 rfl ?_
    refine zs_get (v := .ref (S.1 14)) C 12 1 rfl rfl rfl rfl ki_Tr (by decide) kw160 kd_Jd_judgeTwo_86 rfl ?_
    refine zk_iload_n C kd_Jd_judgeTwo_89 rfl 4 rfl rfl ?_
    obtain ⟨q3, e⟩ := zd_g e
    refine zs_bald C 14 rfl (zd_vp q3) kd_Jd_judgeTwo_90 rfl ?_
    refine zk_callS (rn := { frames := 1, cells := 0, slots := 0, locals := 23 }) (As := [.int (h.2.1 14 x2.toNatClampNeg), .int (h.2.1 14 x3.toNatClampNeg)]) (rest := []) C (zc_Jd_alike h (h.2.1 14 x2.toNatClampNeg) (h.2.1 14 x3.toNatClampNeg)) ku_Jd_alike kw1208 ks_Jd_alike rfl ⟨by decide, by decide⟩ ⟨by decide, by decide⟩ rfl (Nat.le_of_ble_eq_true rfl) kd_Jd_judgeTwo_91 rfl (c1 := 0) (s1 := 0) rfl rfl (fun v w hp => ?_)
    obtain ⟨rfl, rfl⟩ := hp
    refine zk_stk (r' := [.int (f_Jd_alike (h.2.1 14 x2.toNatClampNeg) (h.2.1 14 x3.toNatClampNeg))]) rfl ?_
    refine zk_lvs (lv' := [(0, .ref (S.1 38)), (1, .int x1), (2, .int x2), (3, .int x3), (4, .int x4)]) [1, 2, 3, 4, 5] rfl ?_
    exact zb_Jd_judgeTwo_94 C hR h x1 x2 x3 x4 (f_Jd_alike (h.2.1 14 x2.toNatClampNeg) (h.2.1 14 x3.toNatClampNeg)) e
  · replace e := zd_neg b1 e
    refine zk_aload_n C kd_Jd_judgeTwo_49 rfl 1 rfl rfl ?_
    refine zs_get (v := .ref (S.1 12)) C 38 1 rfl rfl rfl rfl ki_Jd (by decide) kw352 kd_Jd_judgeTwo_50 rfl ?_
    refine zs_get (v := .ref (S.1 14)) C 12 1 rfl rfl rfl rfl ki_Tr (by decide) kw160 kd_Jd_judgeTwo_53 rfl ?_
    refine zk_iload_n C kd_Jd_judgeTwo_56 rfl 3 rfl rfl ?_
    obtain ⟨q4, e⟩ := zd_g e
    refine zs_bald C 14 rfl (zd_vp q4) kd_Jd_judgeTwo_57 rfl ?_
    refine zk_aload_n C kd_Jd_judgeTwo_58 rfl 1 rfl rfl ?_
    refine zs_get (v := .ref (S.1 12)) C 38 1 rfl rfl rfl rfl ki_Jd (by decide) kw352 kd_Jd_judgeTwo_59 rfl ?_
    refine zs_get (v := .ref (S.1 14)) C 12 1 rfl rfl rfl rfl ki_Tr (by decide) kw160 kd_Jd_judgeTwo_62 rfl ?_
    refine zk_iload_n C kd_Jd_judgeTwo_65 rfl 4 rfl rfl ?_
    obtain ⟨q5, e⟩ := zd_g e
    refine zs_bald C 14 rfl (zd_vp q5) kd_Jd_judgeTwo_66 rfl ?_
    refine zk_callS (rn := { frames := 1, cells := 0, slots := 0, locals := 23 }) (As := [.int (h.2.1 14 x2.toNatClampNeg), .int (h.2.1 14 x3.toNatClampNeg)]) (rest := []) C (zc_Jd_wider h (h.2.1 14 x2.toNatClampNeg) (h.2.1 14 x3.toNatClampNeg)) ku_Jd_wider kw1212 ks_Jd_wider rfl ⟨by decide, by decide⟩ ⟨by decide, by decide⟩ rfl (Nat.le_of_ble_eq_true rfl) kd_Jd_judgeTwo_67 rfl (c1 := 0) (s1 := 0) rfl rfl (fun v w hp => ?_)
    obtain ⟨rfl, rfl⟩ := hp
    refine zk_stk (r' := [.int (f_Jd_wider (h.2.1 14 x2.toNatClampNeg) (h.2.1 14 x3.toNatClampNeg))]) rfl ?_
    refine zk_goto (tgt := 94) C kd_Jd_judgeTwo_70 (by decide) ?_
    refine zk_lvs (lv' := [(0, .ref (S.1 38)), (1, .int x1), (2, .int x2), (3, .int x3), (4, .int x4)]) [1, 2, 3, 4, 5] rfl ?_
    exact zb_Jd_judgeTwo_94 C hR h x1 x2 x3 x4 (f_Jd_wider (h.2.1 14 x2.toNatClampNeg) (h.2.1 14 x3.toNatClampNeg)) e
set_option maxHeartbeats 4000000 in
set_option maxRecDepth 100000 in
theorem zc_Jd_judgeTwo {l : Launch} {D : va_G} {sz0 : Nat} {S : zs_T} {P : ze_T} (h : zs_H) (x1 : Int32) {rh : zs_H} (e : f_Jd_judgeTwo h x1 = some rh) : zk_Sp (zs_G S l D sz0) (ze_E P) km_Jd_judgeTwo { frames := 2, cells := 0, slots := 0, locals := 45 } [.ref (S.1 38), .int x1] (zs_W S h) (zd_PV S rh) := by
  refine zk_met ku_Jd_judgeTwo (Nat.le_of_ble_eq_true rfl) (ze_Em P) ?_
  intro X C hR
  refine zk_lvs (lv' := [(0, .ref (S.1 38)), (1, .int x1)]) [0, 1] rfl ?_
  unfold f_Jd_judgeTwo at e
  refine zk_aload_n C kd_Jd_judgeTwo_0 rfl 0 rfl rfl ?_
  refine zs_get (v := .ref (S.1 12)) C 38 1 rfl rfl rfl rfl ki_Jd (by decide) kw352 kd_Jd_judgeTwo_1 rfl ?_
  refine zs_get (v := .ref (S.1 17)) C 12 4 rfl rfl rfl rfl ki_Tr (by decide) kw170 kd_Jd_judgeTwo_4 rfl ?_
  refine zk_iload_n C kd_Jd_judgeTwo_7 rfl 1 rfl rfl ?_
  obtain ⟨q1, e⟩ := zd_g e
  refine zs_iald C 17 rfl (zd_vp q1) kd_Jd_judgeTwo_8 rfl ?_
  refine zk_istore_n (lv' := [(2, _), (0, _), (1, _)]) C kd_Jd_judgeTwo_9 rfl (by decide) rfl rfl ?_
  refine zk_aload_n C kd_Jd_judgeTwo_10 rfl 1 rfl rfl ?_
  refine zs_get (v := .ref (S.1 12)) C 38 1 rfl rfl rfl rfl ki_Jd (by decide) kw352 kd_Jd_judgeTwo_11 rfl ?_
  refine zs_get (v := .ref (S.1 18)) C 12 5 rfl rfl rfl rfl ki_Tr (by decide) kw173 kd_Jd_judgeTwo_14 rfl ?_
  refine zk_iload_n C kd_Jd_judgeTwo_17 rfl 0 rfl rfl ?_
  obtain ⟨q2, e⟩ := zd_g e
  refine zs_iald C 18 rfl (zd_vp q2) kd_Jd_judgeTwo_18 rfl ?_
  refine zk_istore_n (lv' := [(3, _), (2, _), (0, _), (1, _)]) C kd_Jd_judgeTwo_19 rfl (by decide) rfl rfl ?_
  refine zk_aload_n C kd_Jd_judgeTwo_20 rfl 2 rfl rfl ?_
  refine zs_get (v := .ref (S.1 12)) C 38 1 rfl rfl rfl rfl ki_Jd (by decide) kw352 kd_Jd_judgeTwo_21 rfl ?_
  refine zs_get (v := .ref (S.1 16)) C 12 3 rfl rfl rfl rfl ki_Tr (by decide) kw168 kd_Jd_judgeTwo_24 rfl ?_
  refine zk_iload_n C kd_Jd_judgeTwo_27 rfl 3 rfl rfl ?_
  refine zs_iald C 16 rfl (zd_vp q1) kd_Jd_judgeTwo_28 rfl ?_
  refine zk_istore (lv' := [(4, _), (3, _), (2, _), (0, _), (1, _)]) C kd_Jd_judgeTwo_29 (by decide) rfl rfl ?_
  refine zk_iload C kd_Jd_judgeTwo_31 0 rfl rfl ?_
  refine zk_iconst (v := 4) C kd_Jd_judgeTwo_33 (by decide) rfl ?_
  refine zk_icmp_le (tgt := 41) C kd_Jd_judgeTwo_34 (by decide) rfl (fun b3 => ?_) (fun b3 => ?_)
  · replace e := zd_pos b3 e
    refine zk_iconst (v := 0) C kd_Jd_judgeTwo_41 (by decide) rfl ?_
    refine zk_lvs (lv' := [(0, .ref (S.1 38)), (1, .int x1), (2, .int (h.2.1 17 x1.toNatClampNeg)), (3, .int (h.2.1 18 (h.2.1 17 x1.toNatClampNeg).toNatClampNeg)), (4, .int (h.2.1 16 x1.toNatClampNeg))]) [3, 4, 2, 1, 0] rfl ?_
    exact zb_Jd_judgeTwo_42 C hR h x1 (h.2.1 17 x1.toNatClampNeg) (h.2.1 18 (h.2.1 17 x1.toNatClampNeg).toNatClampNeg) (h.2.1 16 x1.toNatClampNeg) 0 e
  · replace e := zd_neg b3 e
    refine zk_iconst (v := 1) C kd_Jd_judgeTwo_37 (by decide) rfl ?_
    refine zk_goto (tgt := 42) C kd_Jd_judgeTwo_38 (by decide) ?_
    refine zk_lvs (lv' := [(0, .ref (S.1 38)), (1, .int x1), (2, .int (h.2.1 17 x1.toNatClampNeg)), (3, .int (h.2.1 18 (h.2.1 17 x1.toNatClampNeg).toNatClampNeg)), (4, .int (h.2.1 16 x1.toNatClampNeg))]) [3, 4, 2, 1, 0] rfl ?_
    exact zb_Jd_judgeTwo_42 C hR h x1 (h.2.1 17 x1.toNatClampNeg) (h.2.1 18 (h.2.1 17 x1.toNatClampNeg).toNatClampNeg) (h.2.1 16 x1.toNatClampNeg) 1 e
set_option maxHeartbeats 4000000 in
set_option maxRecDepth 100000 in
theorem zc_Jd_standardType {l : Launch} {D : va_G} {sz0 : Nat} {S : zs_T} {P : ze_T} (h : zs_H) (x0 : Int32) (x1 : Int32) (x2 : Int32) (x3 : Int32) : zk_Sp (zs_G S l D sz0) (ze_E P) km_Jd_standardType { frames := 2, cells := 0, slots := 0, locals := 44 } [.int x0, .int x1, .int x2, .int x3] (zs_W S h) (zd_PI S (f_Jd_standardType x0 x1 x2 x3) h) := by
  obtain ⟨rv, e⟩ : ∃ rv, f_Jd_standardType x0 x1 x2 x3 = rv := ⟨_, rfl⟩
  rw [e]
  refine zk_met ku_Jd_standardType (Nat.le_of_ble_eq_true rfl) (ze_Em P) ?_
  intro X C hR
  refine zk_lvs (lv' := [(0, .int x0), (1, .int x1), (2, .int x2), (3, .int x3)]) [0, 1, 2, 3] rfl ?_
  unfold f_Jd_standardType at e
  refine zk_iload_n C kd_Jd_standardType_0 rfl 0 rfl rfl ?_
  by_cases b1 : x0 = 0
  · replace e := zd_pos b1 e
    refine zk_tableIn (tgt := 99) C kd_Jd_standardType_1 (by rw [b1]; decide) (by rw [b1]; decide) (by rw [b1]; rfl) (by decide) ?_
    refine zk_iload_n C kd_Jd_standardType_99 rfl 1 rfl rfl ?_
    refine zk_if_ne (tgt := 107) C kd_Jd_standardType_100 (by decide) rfl (fun b2 => ?_) (fun b2 => ?_)
    · replace e := zd_neg b2 e
      refine zk_iload_n C kd_Jd_standardType_107 rfl 1 rfl rfl ?_
      exact zk_iret C hR kd_Jd_standardType_108 rfl rfl (zd_rIT e)
    · replace e := zd_pos b2 e
      refine zk_iconst (v := (-1)) C kd_Jd_standardType_103 (by decide) rfl ?_
      refine zk_goto (tgt := 108) C kd_Jd_standardType_104 (by decide) ?_
      exact zk_iret C hR kd_Jd_standardType_108 rfl rfl (zd_rIT e)
  replace e := zd_neg b1 e
  by_cases b3 : x0 = 4
  · replace e := zd_pos b3 e
    refine zk_tableIn (tgt := 70) C kd_Jd_standardType_1 (by rw [b3]; decide) (by rw [b3]; decide) (by rw [b3]; rfl) (by decide) ?_
    refine zk_iload_n C kd_Jd_standardType_70 rfl 1 rfl rfl ?_
    refine zk_if_ne (tgt := 82) C kd_Jd_standardType_71 (by decide) rfl (fun b4 => ?_) (fun b4 => ?_)
    · replace e := zd_neg b4 e
      refine zk_iconst (v := (-1)) C kd_Jd_standardType_82 (by decide) rfl ?_
      exact zk_iret C hR kd_Jd_standardType_83 rfl rfl (zd_rIT e)
    · replace e := zd_pos b4 e
      refine zk_iload_n C kd_Jd_standardType_74 rfl 2 rfl rfl ?_
      refine zk_iload_n C kd_Jd_standardType_75 rfl 3 rfl rfl ?_
      refine zk_callS (rn := { frames := 1, cells := 0, slots := 0, locals := 23 }) (As := [.int x2, .int x3]) (rest := []) C (zc_Jd_alike h x2 x3) ku_Jd_alike kw1208 ks_Jd_alike rfl ⟨by decide, by decide⟩ ⟨by decide, by decide⟩ rfl (Nat.le_of_ble_eq_true rfl) kd_Jd_standardType_76 rfl (c1 := 0) (s1 := 0) rfl rfl (fun v w hp => ?_)
      obtain ⟨rfl, rfl⟩ := hp
      refine zk_stk (r' := [.int (f_Jd_alike x2 x3)]) rfl ?_
      refine zk_goto (tgt := 83) C kd_Jd_standardType_79 (by decide) ?_
      exact zk_iret C hR kd_Jd_standardType_83 rfl rfl (zd_rIT e)
  replace e := zd_neg b3 e
  by_cases b5 : x0 = 5
  · replace e := zd_pos b5 e
    refine zk_tableIn (tgt := 84) C kd_Jd_standardType_1 (by rw [b5]; decide) (by rw [b5]; decide) (by rw [b5]; rfl) (by decide) ?_
    refine zk_iload_n C kd_Jd_standardType_84 rfl 1 rfl rfl ?_
    refine zk_iload_n C kd_Jd_standardType_85 rfl 2 rfl rfl ?_
    refine zk_callS (rn := { frames := 1, cells := 0, slots := 0, locals := 23 }) (As := [.int x1, .int x2]) (rest := []) C (zc_Jd_wider h x1 x2) ku_Jd_wider kw1212 ks_Jd_wider rfl ⟨by decide, by decide⟩ ⟨by decide, by decide⟩ rfl (Nat.le_of_ble_eq_true rfl) kd_Jd_standardType_86 rfl (c1 := 0) (s1 := 0) rfl rfl (fun v w hp => ?_)
    obtain ⟨rfl, rfl⟩ := hp
    refine zk_stk (r' := [.int (f_Jd_wider x1 x2)]) rfl ?_
    refine zk_iconst (v := (-1)) C kd_Jd_standardType_89 (by decide) rfl ?_
    refine zk_icmp_ne (tgt := 97) C kd_Jd_standardType_90 (by decide) rfl (fun b6 => ?_) (fun b6 => ?_)
    · replace e := zd_neg b6 e
      refine zk_iload_n C kd_Jd_standardType_97 rfl 1 rfl rfl ?_
      exact zk_iret C hR kd_Jd_standardType_98 rfl rfl (zd_rIT e)
    · replace e := zd_pos b6 e
      refine zk_iconst (v := (-1)) C kd_Jd_standardType_93 (by decide) rfl ?_
      refine zk_goto (tgt := 98) C kd_Jd_standardType_94 (by decide) ?_
      exact zk_iret C hR kd_Jd_standardType_98 rfl rfl (zd_rIT e)
  replace e := zd_neg b5 e
  by_cases b7 : x0 = 6
  · replace e := zd_pos b7 e
    refine zk_tableIn (tgt := 84) C kd_Jd_standardType_1 (by rw [b7]; decide) (by rw [b7]; decide) (by rw [b7]; rfl) (by decide) ?_
    refine zk_iload_n C kd_Jd_standardType_84 rfl 1 rfl rfl ?_
    refine zk_iload_n C kd_Jd_standardType_85 rfl 2 rfl rfl ?_
    refine zk_callS (rn := { frames := 1, cells := 0, slots := 0, locals := 23 }) (As := [.int x1, .int x2]) (rest := []) C (zc_Jd_wider h x1 x2) ku_Jd_wider kw1212 ks_Jd_wider rfl ⟨by decide, by decide⟩ ⟨by decide, by decide⟩ rfl (Nat.le_of_ble_eq_true rfl) kd_Jd_standardType_86 rfl (c1 := 0) (s1 := 0) rfl rfl (fun v w hp => ?_)
    obtain ⟨rfl, rfl⟩ := hp
    refine zk_stk (r' := [.int (f_Jd_wider x1 x2)]) rfl ?_
    refine zk_iconst (v := (-1)) C kd_Jd_standardType_89 (by decide) rfl ?_
    refine zk_icmp_ne (tgt := 97) C kd_Jd_standardType_90 (by decide) rfl (fun b8 => ?_) (fun b8 => ?_)
    · replace e := zd_neg b8 e
      refine zk_iload_n C kd_Jd_standardType_97 rfl 1 rfl rfl ?_
      exact zk_iret C hR kd_Jd_standardType_98 rfl rfl (zd_rIT e)
    · replace e := zd_pos b8 e
      refine zk_iconst (v := (-1)) C kd_Jd_standardType_93 (by decide) rfl ?_
      refine zk_goto (tgt := 98) C kd_Jd_standardType_94 (by decide) ?_
      exact zk_iret C hR kd_Jd_standardType_98 rfl rfl (zd_rIT e)
  replace e := zd_neg b7 e
  by_cases b9 : x0 = 7
  · replace e := zd_pos b9 e
    refine zk_tableIn (tgt := 56) C kd_Jd_standardType_1 (by rw [b9]; decide) (by rw [b9]; decide) (by rw [b9]; rfl) (by decide) ?_
    refine zk_iconst (v := 1) C kd_Jd_standardType_56 (by decide) rfl ?_
    exact zk_iret C hR kd_Jd_standardType_57 rfl rfl (zd_rIT e)
  replace e := zd_neg b9 e
  by_cases b10 : x0 = 8
  · replace e := zd_pos b10 e
    refine zk_tableIn (tgt := 58) C kd_Jd_standardType_1 (by rw [b10]; decide) (by rw [b10]; decide) (by rw [b10]; rfl) (by decide) ?_
    refine zk_iconst (v := 2) C kd_Jd_standardType_58 (by decide) rfl ?_
    exact zk_iret C hR kd_Jd_standardType_59 rfl rfl (zd_rIT e)
  replace e := zd_neg b10 e
  by_cases b11 : x0 = 9
  · replace e := zd_pos b11 e
    refine zk_tableIn (tgt := 60) C kd_Jd_standardType_1 (by rw [b11]; decide) (by rw [b11]; decide) (by rw [b11]; rfl) (by decide) ?_
    refine zk_iload_n C kd_Jd_standardType_60 rfl 1 rfl rfl ?_
    refine zk_if_ne (tgt := 68) C kd_Jd_standardType_61 (by decide) rfl (fun b12 => ?_) (fun b12 => ?_)
    · replace e := zd_neg b12 e
      refine zk_iconst (v := 0) C kd_Jd_standardType_68 (by decide) rfl ?_
      exact zk_iret C hR kd_Jd_standardType_69 rfl rfl (zd_rIT e)
    · replace e := zd_pos b12 e
      refine zk_iconst (v := (-1)) C kd_Jd_standardType_64 (by decide) rfl ?_
      refine zk_goto (tgt := 69) C kd_Jd_standardType_65 (by decide) ?_
      exact zk_iret C hR kd_Jd_standardType_69 rfl rfl (zd_rIT e)
  replace e := zd_neg b11 e
  refine zd_tableD (tgt := 109) C kd_Jd_standardType_1 (by decide) [0, 4, 5, 6, 7, 8, 9] (by decide +kernel) (by have n0 := lv_neT b1 (a := 0) (by decide); have n1 := lv_neT b3 (a := 4) (by decide); have n2 := lv_neT b5 (a := 5) (by decide); have n3 := lv_neT b7 (a := 6) (by decide); have n4 := lv_neT b9 (a := 7) (by decide); have n5 := lv_neT b10 (a := 8) (by decide); have n6 := lv_neT b11 (a := 9) (by decide); simp only [List.mem_cons, List.not_mem_nil, or_false, not_or]; exact ⟨n0, n1, n2, n3, n4, n5, n6⟩) ?_
  refine zk_iload_n C kd_Jd_standardType_109 rfl 1 rfl rfl ?_
  refine zk_iload_n C kd_Jd_standardType_110 rfl 2 rfl rfl ?_
  refine zk_callS (rn := { frames := 1, cells := 0, slots := 0, locals := 23 }) (As := [.int x1, .int x2]) (rest := []) C (zc_Jd_wider h x1 x2) ku_Jd_wider kw1212 ks_Jd_wider rfl ⟨by decide, by decide⟩ ⟨by decide, by decide⟩ rfl (Nat.le_of_ble_eq_true rfl) kd_Jd_standardType_111 rfl (c1 := 0) (s1 := 0) rfl rfl (fun v w hp => ?_)
  obtain ⟨rfl, rfl⟩ := hp
  refine zk_stk (r' := [.int (f_Jd_wider x1 x2)]) rfl ?_
  refine zk_istore (lv' := [(4, _), (0, _), (1, _), (2, _), (3, _)]) C kd_Jd_standardType_114 (by decide) rfl rfl ?_
  refine zk_iload C kd_Jd_standardType_116 0 rfl rfl ?_
  refine zk_iconst (v := (-1)) C kd_Jd_standardType_118 (by decide) rfl ?_
  refine zk_icmp_ne (tgt := 126) C kd_Jd_standardType_119 (by decide) rfl (fun b13 => ?_) (fun b13 => ?_)
  · replace e := zd_neg b13 e
    refine zk_iload C kd_Jd_standardType_126 0 rfl rfl ?_
    refine zk_iload_n C kd_Jd_standardType_128 rfl 4 rfl rfl ?_
    refine zk_callS (rn := { frames := 1, cells := 0, slots := 0, locals := 23 }) (As := [.int (f_Jd_wider x1 x2), .int x3]) (rest := []) C (zc_Jd_wider h (f_Jd_wider x1 x2) x3) ku_Jd_wider kw1212 ks_Jd_wider rfl ⟨by decide, by decide⟩ ⟨by decide, by decide⟩ rfl (Nat.le_of_ble_eq_true rfl) kd_Jd_standardType_129 rfl (c1 := 0) (s1 := 0) rfl rfl (fun v w hp => ?_)
    obtain ⟨rfl, rfl⟩ := hp
    refine zk_stk (r' := [.int (f_Jd_wider (f_Jd_wider x1 x2) x3)]) rfl ?_
    exact zk_iret C hR kd_Jd_standardType_132 rfl rfl (zd_rIT e)
  · replace e := zd_pos b13 e
    refine zk_iconst (v := (-1)) C kd_Jd_standardType_122 (by decide) rfl ?_
    refine zk_goto (tgt := 132) C kd_Jd_standardType_123 (by decide) ?_
    exact zk_iret C hR kd_Jd_standardType_132 rfl rfl (zd_rIT e)
set_option maxHeartbeats 4000000 in
set_option maxRecDepth 100000 in
theorem zc_Cd_standardKind {l : Launch} {D : va_G} {sz0 : Nat} {S : zs_T} {P : ze_T} (h : zs_H) (x0 : Int32) (x1 : Int32) : zk_Sp (zs_G S l D sz0) (ze_E P) km_Cd_standardKind { frames := 0, cells := 0, slots := 0, locals := 0 } [.int x0, .int x1] (zs_W S h) (zd_PI S (f_Cd_standardKind x0 x1) h) := by
  obtain ⟨rv, e⟩ : ∃ rv, f_Cd_standardKind x0 x1 = rv := ⟨_, rfl⟩
  rw [e]
  refine zk_met ku_Cd_standardKind (Nat.le_of_ble_eq_true rfl) (ze_Em P) ?_
  intro X C hR
  refine zk_lvs (lv' := [(0, .int x0), (1, .int x1)]) [0, 1] rfl ?_
  unfold f_Cd_standardKind at e
  refine zk_iload_n C kd_Cd_standardKind_0 rfl 0 rfl rfl ?_
  by_cases b1 : x0 = 0
  · replace e := zd_pos b1 e
    refine zk_tableIn (tgt := 48) C kd_Cd_standardKind_1 (by rw [b1]; decide) (by rw [b1]; decide) (by rw [b1]; rfl) (by decide) ?_
    refine zk_iload_n C kd_Cd_standardKind_48 rfl 1 rfl rfl ?_
    refine zk_iconst (v := 1) C kd_Cd_standardKind_49 (by decide) rfl ?_
    refine zk_icmp_ne (tgt := 57) C kd_Cd_standardKind_50 (by decide) rfl (fun b2 => ?_) (fun b2 => ?_)
    · replace e := zd_neg b2 e
      refine zk_iconst (v := 5) C kd_Cd_standardKind_57 (by decide) rfl ?_
      exact zk_iret C hR kd_Cd_standardKind_58 rfl rfl (zd_rIT e)
    · replace e := zd_pos b2 e
      refine zk_iconst (v := 4) C kd_Cd_standardKind_53 (by decide) rfl ?_
      refine zk_goto (tgt := 58) C kd_Cd_standardKind_54 (by decide) ?_
      exact zk_iret C hR kd_Cd_standardKind_58 rfl rfl (zd_rIT e)
  replace e := zd_neg b1 e
  by_cases b3 : x0 = 1
  · replace e := zd_pos b3 e
    refine zk_tableIn (tgt := 59) C kd_Cd_standardKind_1 (by rw [b3]; decide) (by rw [b3]; decide) (by rw [b3]; rfl) (by decide) ?_
    refine zk_bipush (v := 23) C kd_Cd_standardKind_59 (by decide) rfl ?_
    exact zk_iret C hR kd_Cd_standardKind_61 rfl rfl (zd_rIT e)
  replace e := zd_neg b3 e
  by_cases b4 : x0 = 2
  · replace e := zd_pos b4 e
    refine zk_tableIn (tgt := 62) C kd_Cd_standardKind_1 (by rw [b4]; decide) (by rw [b4]; decide) (by rw [b4]; rfl) (by decide) ?_
    refine zk_bipush (v := 24) C kd_Cd_standardKind_62 (by decide) rfl ?_
    exact zk_iret C hR kd_Cd_standardKind_64 rfl rfl (zd_rIT e)
  replace e := zd_neg b4 e
  by_cases b5 : x0 = 5
  · replace e := zd_pos b5 e
    refine zk_tableIn (tgt := 65) C kd_Cd_standardKind_1 (by rw [b5]; decide) (by rw [b5]; decide) (by rw [b5]; rfl) (by decide) ?_
    refine zk_iload_n C kd_Cd_standardKind_65 rfl 1 rfl rfl ?_
    refine zk_iconst (v := 1) C kd_Cd_standardKind_66 (by decide) rfl ?_
    refine zk_icmp_ne (tgt := 75) C kd_Cd_standardKind_67 (by decide) rfl (fun b6 => ?_) (fun b6 => ?_)
    · replace e := zd_neg b6 e
      refine zk_bipush (v := 21) C kd_Cd_standardKind_75 (by decide) rfl ?_
      exact zk_iret C hR kd_Cd_standardKind_77 rfl rfl (zd_rIT e)
    · replace e := zd_pos b6 e
      refine zk_bipush (v := 19) C kd_Cd_standardKind_70 (by decide) rfl ?_
      refine zk_goto (tgt := 77) C kd_Cd_standardKind_72 (by decide) ?_
      exact zk_iret C hR kd_Cd_standardKind_77 rfl rfl (zd_rIT e)
  replace e := zd_neg b5 e
  by_cases b7 : x0 = 6
  · replace e := zd_pos b7 e
    refine zk_tableIn (tgt := 78) C kd_Cd_standardKind_1 (by rw [b7]; decide) (by rw [b7]; decide) (by rw [b7]; rfl) (by decide) ?_
    refine zk_iload_n C kd_Cd_standardKind_78 rfl 1 rfl rfl ?_
    refine zk_iconst (v := 1) C kd_Cd_standardKind_79 (by decide) rfl ?_
    refine zk_icmp_ne (tgt := 88) C kd_Cd_standardKind_80 (by decide) rfl (fun b8 => ?_) (fun b8 => ?_)
    · replace e := zd_neg b8 e
      refine zk_bipush (v := 22) C kd_Cd_standardKind_88 (by decide) rfl ?_
      exact zk_iret C hR kd_Cd_standardKind_90 rfl rfl (zd_rIT e)
    · replace e := zd_pos b8 e
      refine zk_bipush (v := 20) C kd_Cd_standardKind_83 (by decide) rfl ?_
      refine zk_goto (tgt := 90) C kd_Cd_standardKind_85 (by decide) ?_
      exact zk_iret C hR kd_Cd_standardKind_90 rfl rfl (zd_rIT e)
  replace e := zd_neg b7 e
  by_cases b9 : x0 = 7
  · replace e := zd_pos b9 e
    refine zk_tableIn (tgt := 91) C kd_Cd_standardKind_1 (by rw [b9]; decide) (by rw [b9]; decide) (by rw [b9]; rfl) (by decide) ?_
    refine zk_bipush (v := 6) C kd_Cd_standardKind_91 (by decide) rfl ?_
    exact zk_iret C hR kd_Cd_standardKind_93 rfl rfl (zd_rIT e)
  replace e := zd_neg b9 e
  refine zd_tableD (tgt := 94) C kd_Cd_standardKind_1 (by decide) [0, 1, 2, 5, 6, 7] (by decide +kernel) (by have n0 := lv_neT b1 (a := 0) (by decide); have n1 := lv_neT b3 (a := 1) (by decide); have n2 := lv_neT b4 (a := 2) (by decide); have n3 := lv_neT b5 (a := 5) (by decide); have n4 := lv_neT b7 (a := 6) (by decide); have n5 := lv_neT b9 (a := 7) (by decide); simp only [List.mem_cons, List.not_mem_nil, or_false, not_or]; exact ⟨n0, n1, n2, n3, n4, n5⟩) ?_
  refine zk_bipush (v := 7) C kd_Cd_standardKind_94 (by decide) rfl ?_
  exact zk_iret C hR kd_Cd_standardKind_96 rfl rfl (zd_rIT e)
set_option maxHeartbeats 4000000 in
set_option maxRecDepth 100000 in
theorem zc_Cd_standard {l : Launch} {D : va_G} {sz0 : Nat} {S : zs_T} {P : ze_T} (h : zs_H) (x0 : Int32) (x1 : Int32) (x2 : Int32) (x3 : Int32) (x4 : Int32) {rv : Int32} (e : f_Cd_standard x0 x1 x2 x3 x4 = some rv) : zk_Sp (zs_G S l D sz0) (ze_E P) km_Cd_standard { frames := 2, cells := 0, slots := 0, locals := 45 } [.int x0, .int x1, .int x2, .int x3, .int x4] (zs_W S h) (zd_PI S rv h) := by
  refine zk_met ku_Cd_standard (Nat.le_of_ble_eq_true rfl) (ze_Em P) ?_
  intro X C hR
  refine zk_lvs (lv' := [(0, .int x0), (1, .int x1), (2, .int x2), (3, .int x3), (4, .int x4)]) [0, 1, 2, 3, 4] rfl ?_
  unfold f_Cd_standard at e
  refine zk_iload_n C kd_Cd_standard_0 rfl 0 rfl rfl ?_
  refine zk_bipush (v := 8) C kd_Cd_standard_1 (by decide) rfl ?_
  refine zk_icmp_ne (tgt := 8) C kd_Cd_standard_3 (by decide) rfl (fun b1 => ?_) (fun b1 => ?_)
  · replace e := zd_neg b1 e
    refine zk_iload_n C kd_Cd_standard_8 rfl 0 rfl rfl ?_
    refine zk_iconst (v := 4) C kd_Cd_standard_9 (by decide) rfl ?_
    refine zk_icmp_ne (tgt := 24) C kd_Cd_standard_10 (by decide) rfl (fun b2 => ?_) (fun b2 => ?_)
    · replace e := zd_neg b2 e
      refine zk_iload_n C kd_Cd_standard_24 rfl 0 rfl rfl ?_
      refine zk_iconst (v := 3) C kd_Cd_standard_25 (by decide) rfl ?_
      refine zk_icmp_ne (tgt := 40) C kd_Cd_standard_26 (by decide) rfl (fun b3 => ?_) (fun b3 => ?_)
      · replace e := zd_neg b3 e
        refine zk_iload_n C kd_Cd_standard_40 rfl 0 rfl rfl ?_
        refine zk_iload_n C kd_Cd_standard_41 rfl 1 rfl rfl ?_
        refine zk_callS (rn := { frames := 0, cells := 0, slots := 0, locals := 0 }) (As := [.int x0, .int x1]) (rest := []) C (zc_Cd_standardKind h x0 x1) ku_Cd_standardKind kw1220 ks_Cd_standardKind rfl ⟨by decide, by decide⟩ ⟨by decide, by decide⟩ rfl (Nat.le_of_ble_eq_true rfl) kd_Cd_standard_42 rfl (c1 := 0) (s1 := 0) rfl rfl (fun v w hp => ?_)
        obtain ⟨rfl, rfl⟩ := hp
        refine zk_stk (r' := [.int (f_Cd_standardKind x0 x1)]) rfl ?_
        refine zk_istore (lv' := [(5, _), (0, _), (1, _), (2, _), (3, _), (4, _)]) C kd_Cd_standard_45 (by decide) rfl rfl ?_
        refine ze_gets (j := 4) C rfl kw1223 kd_Cd_standard_47 rfl ?_
        refine zk_iload_n C kd_Cd_standard_50 rfl 1 rfl rfl ?_
        obtain ⟨q4, e⟩ := zd_g e
        refine ze_ti C rfl (zd_vp q4) kd_Cd_standard_51 rfl ?_
        refine zk_stk (r' := [.int (zt_4.getD x0.toNatClampNeg 0)]) rfl ?_
        refine zk_iconst (v := 1) C kd_Cd_standard_52 (by decide) rfl ?_
        refine zk_icmp_ne (tgt := 65) C kd_Cd_standard_53 (by decide) rfl (fun b5 => ?_) (fun b5 => ?_)
        · replace e := zd_neg b5 e
          refine zk_iload C kd_Cd_standard_65 0 rfl rfl ?_
          refine zk_iload_n C kd_Cd_standard_67 rfl 3 rfl rfl ?_
          refine zk_iload_n C kd_Cd_standard_68 rfl 4 rfl rfl ?_
          obtain ⟨v7, c6, e⟩ := zd_b e
          refine zk_callS (rn := { frames := 1, cells := 0, slots := 0, locals := 23 }) (As := [.int (f_Cd_standardKind x0 x1), .int x2, .int x3]) (rest := []) C (zc_Cd_two h (f_Cd_standardKind x0 x1) x2 x3 c6) ku_Cd_two kw1230 ks_Cd_two rfl ⟨by decide, by decide⟩ ⟨by decide, by decide⟩ rfl (Nat.le_of_ble_eq_true rfl) kd_Cd_standard_69 rfl (c1 := 0) (s1 := 0) rfl rfl (fun v w hp => ?_)
          obtain ⟨rfl, rfl⟩ := hp
          refine zk_stk (r' := [.int v7]) rfl ?_
          exact zk_iret C hR kd_Cd_standard_72 rfl rfl (zd_rIO e)
        · replace e := zd_pos b5 e
          refine zk_iload C kd_Cd_standard_56 0 rfl rfl ?_
          refine zk_iload_n C kd_Cd_standard_58 rfl 3 rfl rfl ?_
          refine zk_callS (rn := { frames := 1, cells := 0, slots := 0, locals := 23 }) (As := [.int (f_Cd_standardKind x0 x1), .int x2]) (rest := []) C (zc_Cd_one h (f_Cd_standardKind x0 x1) x2) ku_Cd_one kw1224 ks_Cd_one rfl ⟨by decide, by decide⟩ ⟨by decide, by decide⟩ rfl (Nat.le_of_ble_eq_true rfl) kd_Cd_standard_59 rfl (c1 := 0) (s1 := 0) rfl rfl (fun v w hp => ?_)
          obtain ⟨rfl, rfl⟩ := hp
          refine zk_stk (r' := [.int (f_Cd_one (f_Cd_standardKind x0 x1) x2)]) rfl ?_
          refine zk_goto (tgt := 72) C kd_Cd_standard_62 (by decide) ?_
          exact zk_iret C hR kd_Cd_standard_72 rfl rfl (zd_rIO e)
      · replace e := zd_pos b3 e
        refine zk_iload_n C kd_Cd_standard_29 rfl 2 rfl rfl ?_
        refine zk_iload_n C kd_Cd_standard_30 rfl 3 rfl rfl ?_
        refine zk_mmax C kw1218 kw797 kw19 (by decide) (Nat.le_of_ble_eq_true rfl) (Nat.le_refl _) (Nat.le_refl _) kd_Cd_standard_31 rfl ?_
        refine zk_iload C kd_Cd_standard_34 4 rfl rfl ?_
        refine zk_mmin C kw1219 kw816 kw19 (by decide) (Nat.le_of_ble_eq_true rfl) (Nat.le_refl _) (Nat.le_refl _) kd_Cd_standard_36 rfl ?_
        exact zk_iret C hR kd_Cd_standard_39 rfl rfl (zd_rIO e)
    · replace e := zd_pos b2 e
      refine zk_iload_n C kd_Cd_standard_13 rfl 2 rfl rfl ?_
      refine zk_if_eq (tgt := 22) C kd_Cd_standard_14 (by decide) rfl (fun b8 => ?_) (fun b8 => ?_)
      · replace e := zd_pos b8 e
        refine zk_iload_n C kd_Cd_standard_22 rfl 3 rfl rfl ?_
        exact zk_iret C hR kd_Cd_standard_23 rfl rfl (zd_rIO e)
      · replace e := zd_neg b8 e
        refine zk_iload C kd_Cd_standard_17 4 rfl rfl ?_
        refine zk_goto (tgt := 23) C kd_Cd_standard_19 (by decide) ?_
        exact zk_iret C hR kd_Cd_standard_23 rfl rfl (zd_rIO e)
  · replace e := zd_pos b1 e
    refine zk_iload_n C kd_Cd_standard_6 rfl 2 rfl rfl ?_
    exact zk_iret C hR kd_Cd_standard_7 rfl rfl (zd_rIO e)
