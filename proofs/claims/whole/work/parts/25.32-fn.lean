theorem kw156 : Jvm.Cond.fieldLink "PlantKeeper$Coder" (90 : Nat) "PlantKeeper$Tree" "kind" "[B" ∈ zk_BW := zk_inT 156 (by decide +kernel) rfl
theorem kw167 : Jvm.Cond.fieldLink "PlantKeeper$Coder" (135 : Nat) "PlantKeeper$Tree" "value" "[I" ∈ zk_BW := zk_inT 167 (by decide +kernel) rfl
theorem kw171 : Jvm.Cond.fieldLink "PlantKeeper$Coder" (80 : Nat) "PlantKeeper$Tree" "child" "[I" ∈ zk_BW := zk_inT 171 (by decide +kernel) rfl
theorem kw240 : Jvm.Cond.fieldLink "PlantKeeper$Coder" (105 : Nat) "PlantKeeper$Plan" "first" "[I" ∈ zk_BW := zk_inT 240 (by decide +kernel) rfl
theorem kw244 : Jvm.Cond.fieldLink "PlantKeeper$Coder" (108 : Nat) "PlantKeeper$Plan" "behind" "[I" ∈ zk_BW := zk_inT 244 (by decide +kernel) rfl
theorem kw258 : Jvm.Cond.fieldLink "PlantKeeper$Coder" (111 : Nat) "PlantKeeper$Plan" "section" "[I" ∈ zk_BW := zk_inT 258 (by decide +kernel) rfl
theorem kw269 : Jvm.Cond.fieldLink "PlantKeeper$Coder" (117 : Nat) "PlantKeeper$Plan" "cell" "[I" ∈ zk_BW := zk_inT 269 (by decide +kernel) rfl
theorem kw283 : Jvm.Cond.fieldLink "PlantKeeper$Coder" (114 : Nat) "PlantKeeper$Plan" "constant" "[I" ∈ zk_BW := zk_inT 283 (by decide +kernel) rfl
theorem kw415 : Jvm.Cond.fieldLink "PlantKeeper$Code" (28 : Nat) "PlantKeeper$Code" "size" "I" ∈ zk_BW := zk_inT 415 (by decide +kernel) rfl
theorem kw418 : Jvm.Cond.fieldLink "PlantKeeper$Code" (32 : Nat) "PlantKeeper$Code" "units" "I" ∈ zk_BW := zk_inT 418 (by decide +kernel) rfl
theorem kw445 : Jvm.Cond.fieldLink "PlantKeeper$Coder" (45 : Nat) "PlantKeeper$Coder" "block" "I" ∈ zk_BW := zk_inT 445 (by decide +kernel) rfl
theorem kw999 : Jvm.Cond.instanceMethod ({ cls := "PlantKeeper$Judge", name := "judge", desc := "()I" } : Jvm.MethodName) ∈ zk_BW := zk_inT 999 (by decide +kernel) rfl
theorem kw1000 : Jvm.Cond.selects "PlantKeeper$Judge" ({ cls := "PlantKeeper$Judge", name := "judge", desc := "()I" } : Jvm.MethodName) ({ cls := "PlantKeeper$Judge", name := "judge", desc := "()I" } : Jvm.MethodName) ∈ zk_BW := zk_inT 1000 (by decide +kernel) rfl
theorem kw1001 : Jvm.Cond.code ({ cls := "PlantKeeper$Judge", name := "judge", desc := "()I" } : Jvm.MethodName) prog_4_method_2_code (2 : Nat) (Option.some FieldType.int) ∈ zk_BW := zk_inT 1001 (by decide +kernel) rfl
theorem kw1002 : Jvm.Cond.methodLink "PlantKeeper$Judge" (36 : Nat) ({ cls := "PlantKeeper$Plan", name := "forget", desc := "()V" } : Jvm.MethodName) ∈ zk_BW := zk_inT 1002 (by decide +kernel) rfl
theorem kw1024 : Jvm.Cond.methodLink "PlantKeeper$Judge" (41 : Nat) ({ cls := "PlantKeeper$Judge", name := "visit", desc := "(II)V" } : Jvm.MethodName) ∈ zk_BW := zk_inT 1024 (by decide +kernel) rfl
theorem kw1026 : Jvm.Cond.instanceMethod ({ cls := "PlantKeeper$Judge", name := "visit", desc := "(II)V" } : Jvm.MethodName) ∈ zk_BW := zk_inT 1026 (by decide +kernel) rfl
theorem kw1027 : Jvm.Cond.code ({ cls := "PlantKeeper$Judge", name := "visit", desc := "(II)V" } : Jvm.MethodName) prog_4_method_3_code (5 : Nat) (Option.none : Option FieldType) ∈ zk_BW := zk_inT 1027 (by decide +kernel) rfl
theorem kw1028 : Jvm.Cond.methodLink "PlantKeeper$Judge" (45 : Nat) ({ cls := "PlantKeeper$Judge", name := "enter", desc := "(I)V" } : Jvm.MethodName) ∈ zk_BW := zk_inT 1028 (by decide +kernel) rfl
theorem kw1053 : Jvm.Cond.methodLink "PlantKeeper$Judge" (58 : Nat) ({ cls := "PlantKeeper$Judge", name := "leave", desc := "(I)V" } : Jvm.MethodName) ∈ zk_BW := zk_inT 1053 (by decide +kernel) rfl
theorem kw1055 : Jvm.Cond.instanceMethod ({ cls := "PlantKeeper$Judge", name := "leave", desc := "(I)V" } : Jvm.MethodName) ∈ zk_BW := zk_inT 1055 (by decide +kernel) rfl
theorem kw1056 : Jvm.Cond.code ({ cls := "PlantKeeper$Judge", name := "leave", desc := "(I)V" } : Jvm.MethodName) prog_4_method_8_code (3 : Nat) (Option.none : Option FieldType) ∈ zk_BW := zk_inT 1056 (by decide +kernel) rfl
theorem kw1057 : Jvm.Cond.methodLink "PlantKeeper$Judge" (142 : Nat) ({ cls := "PlantKeeper$Judge", name := "leaveText", desc := "(I)V" } : Jvm.MethodName) ∈ zk_BW := zk_inT 1057 (by decide +kernel) rfl
theorem kw1065 : Jvm.Cond.methodLink "PlantKeeper$Judge" (145 : Nat) ({ cls := "PlantKeeper$Judge", name := "leaveBlock", desc := "(I)V" } : Jvm.MethodName) ∈ zk_BW := zk_inT 1065 (by decide +kernel) rfl
theorem kw1073 : Jvm.Cond.methodLink "PlantKeeper$Judge" (148 : Nat) ({ cls := "PlantKeeper$Judge", name := "judgeSection", desc := "(I)V" } : Jvm.MethodName) ∈ zk_BW := zk_inT 1073 (by decide +kernel) rfl
theorem kw1077 : Jvm.Cond.methodLink "PlantKeeper$Judge" (151 : Nat) ({ cls := "PlantKeeper$Judge", name := "judgeDeclaration", desc := "(I)V" } : Jvm.MethodName) ∈ zk_BW := zk_inT 1077 (by decide +kernel) rfl
theorem kw1102 : Jvm.Cond.methodLink "PlantKeeper$Judge" (154 : Nat) ({ cls := "PlantKeeper$Judge", name := "declareName", desc := "(I)V" } : Jvm.MethodName) ∈ zk_BW := zk_inT 1102 (by decide +kernel) rfl
theorem kw1106 : Jvm.Cond.methodLink "PlantKeeper$Judge" (157 : Nat) ({ cls := "PlantKeeper$Judge", name := "judgePlace", desc := "(I)V" } : Jvm.MethodName) ∈ zk_BW := zk_inT 1106 (by decide +kernel) rfl
theorem kw1110 : Jvm.Cond.methodLink "PlantKeeper$Judge" (160 : Nat) ({ cls := "PlantKeeper$Judge", name := "judgeArray", desc := "(I)V" } : Jvm.MethodName) ∈ zk_BW := zk_inT 1110 (by decide +kernel) rfl
theorem kw1115 : Jvm.Cond.methodLink "PlantKeeper$Judge" (163 : Nat) ({ cls := "PlantKeeper$Judge", name := "judgeBlockType", desc := "(I)V" } : Jvm.MethodName) ∈ zk_BW := zk_inT 1115 (by decide +kernel) rfl
theorem kw1119 : Jvm.Cond.methodLink "PlantKeeper$Judge" (166 : Nat) ({ cls := "PlantKeeper$Judge", name := "judgeAssignment", desc := "(I)V" } : Jvm.MethodName) ∈ zk_BW := zk_inT 1119 (by decide +kernel) rfl
theorem kw1130 : Jvm.Cond.methodLink "PlantKeeper$Judge" (169 : Nat) ({ cls := "PlantKeeper$Judge", name := "judgeParameter", desc := "(I)V" } : Jvm.MethodName) ∈ zk_BW := zk_inT 1130 (by decide +kernel) rfl
theorem kw1146 : Jvm.Cond.methodLink "PlantKeeper$Judge" (175 : Nat) ({ cls := "PlantKeeper$Judge", name := "judgeIf", desc := "(I)V" } : Jvm.MethodName) ∈ zk_BW := zk_inT 1146 (by decide +kernel) rfl
theorem kw1150 : Jvm.Cond.methodLink "PlantKeeper$Judge" (180 : Nat) ({ cls := "PlantKeeper$Judge", name := "judgeRange", desc := "(I)V" } : Jvm.MethodName) ∈ zk_BW := zk_inT 1150 (by decide +kernel) rfl
theorem kw1154 : Jvm.Cond.methodLink "PlantKeeper$Judge" (183 : Nat) ({ cls := "PlantKeeper$Judge", name := "judgeFor", desc := "(I)V" } : Jvm.MethodName) ∈ zk_BW := zk_inT 1154 (by decide +kernel) rfl
theorem kw1175 : Jvm.Cond.methodLink "PlantKeeper$Judge" (186 : Nat) ({ cls := "PlantKeeper$Judge", name := "judgeRung", desc := "(I)V" } : Jvm.MethodName) ∈ zk_BW := zk_inT 1175 (by decide +kernel) rfl
theorem kw1183 : Jvm.Cond.methodLink "PlantKeeper$Judge" (189 : Nat) ({ cls := "PlantKeeper$Judge", name := "judgeContact", desc := "(I)V" } : Jvm.MethodName) ∈ zk_BW := zk_inT 1183 (by decide +kernel) rfl
theorem kw1187 : Jvm.Cond.methodLink "PlantKeeper$Judge" (192 : Nat) ({ cls := "PlantKeeper$Judge", name := "judgeCoil", desc := "(I)V" } : Jvm.MethodName) ∈ zk_BW := zk_inT 1187 (by decide +kernel) rfl
theorem kw1191 : Jvm.Cond.methodLink "PlantKeeper$Judge" (195 : Nat) ({ cls := "PlantKeeper$Judge", name := "judgeVariable", desc := "(I)V" } : Jvm.MethodName) ∈ zk_BW := zk_inT 1191 (by decide +kernel) rfl
theorem kw1195 : Jvm.Cond.methodLink "PlantKeeper$Judge" (198 : Nat) ({ cls := "PlantKeeper$Judge", name := "judgeCall", desc := "(I)V" } : Jvm.MethodName) ∈ zk_BW := zk_inT 1195 (by decide +kernel) rfl
theorem kw1243 : Jvm.Cond.methodLink "PlantKeeper$Judge" (201 : Nat) ({ cls := "PlantKeeper$Judge", name := "judgeTwo", desc := "(I)V" } : Jvm.MethodName) ∈ zk_BW := zk_inT 1243 (by decide +kernel) rfl
theorem kw1254 : Jvm.Cond.methodLink "PlantKeeper$Judge" (204 : Nat) ({ cls := "PlantKeeper$Judge", name := "judgeOne", desc := "(I)V" } : Jvm.MethodName) ∈ zk_BW := zk_inT 1254 (by decide +kernel) rfl
theorem kw1267 : Jvm.Cond.instanceMethod ({ cls := "PlantKeeper$Code", name := "forget", desc := "()V" } : Jvm.MethodName) ∈ zk_BW := zk_inT 1267 (by decide +kernel) rfl
theorem kw1268 : Jvm.Cond.selects "PlantKeeper$Code" ({ cls := "PlantKeeper$Code", name := "forget", desc := "()V" } : Jvm.MethodName) ({ cls := "PlantKeeper$Code", name := "forget", desc := "()V" } : Jvm.MethodName) ∈ zk_BW := zk_inT 1268 (by decide +kernel) rfl
theorem kw1269 : Jvm.Cond.code ({ cls := "PlantKeeper$Code", name := "forget", desc := "()V" } : Jvm.MethodName) prog_2_method_2_code (1 : Nat) (Option.none : Option FieldType) ∈ zk_BW := zk_inT 1269 (by decide +kernel) rfl
theorem kw1276 : Jvm.Cond.instanceMethod ({ cls := "PlantKeeper$Coder", name := "beginFunction", desc := "()V" } : Jvm.MethodName) ∈ zk_BW := zk_inT 1276 (by decide +kernel) rfl
theorem kw1277 : Jvm.Cond.code ({ cls := "PlantKeeper$Coder", name := "beginFunction", desc := "()V" } : Jvm.MethodName) prog_3_method_4_code (2 : Nat) (Option.none : Option FieldType) ∈ zk_BW := zk_inT 1277 (by decide +kernel) rfl
theorem kw1278 : Jvm.Cond.methodLink "PlantKeeper$Coder" (101 : Nat) ({ cls := "PlantKeeper$Code", name := "emit", desc := "(II)I" } : Jvm.MethodName) ∈ zk_BW := zk_inT 1278 (by decide +kernel) rfl
theorem kw1279 : Jvm.Cond.instanceMethod ({ cls := "PlantKeeper$Code", name := "emit", desc := "(II)I" } : Jvm.MethodName) ∈ zk_BW := zk_inT 1279 (by decide +kernel) rfl
theorem kw1280 : Jvm.Cond.selects "PlantKeeper$Code" ({ cls := "PlantKeeper$Code", name := "emit", desc := "(II)I" } : Jvm.MethodName) ({ cls := "PlantKeeper$Code", name := "emit", desc := "(II)I" } : Jvm.MethodName) ∈ zk_BW := zk_inT 1280 (by decide +kernel) rfl
theorem kw1281 : Jvm.Cond.code ({ cls := "PlantKeeper$Code", name := "emit", desc := "(II)I" } : Jvm.MethodName) prog_2_method_4_code (4 : Nat) (Option.some FieldType.int) ∈ zk_BW := zk_inT 1281 (by decide +kernel) rfl
theorem kw1296 : Jvm.Cond.instanceMethod ({ cls := "PlantKeeper$Coder", name := "cellOf", desc := "(I)I" } : Jvm.MethodName) ∈ zk_BW := zk_inT 1296 (by decide +kernel) rfl
theorem kw1297 : Jvm.Cond.code ({ cls := "PlantKeeper$Coder", name := "cellOf", desc := "(I)I" } : Jvm.MethodName) prog_3_method_23_code (3 : Nat) (Option.some FieldType.int) ∈ zk_BW := zk_inT 1297 (by decide +kernel) rfl
theorem kw1299 : Jvm.Cond.instanceMethod ({ cls := "PlantKeeper$Code", name := "with", desc := "(II)V" } : Jvm.MethodName) ∈ zk_BW := zk_inT 1299 (by decide +kernel) rfl
theorem kw1300 : Jvm.Cond.selects "PlantKeeper$Code" ({ cls := "PlantKeeper$Code", name := "with", desc := "(II)V" } : Jvm.MethodName) ({ cls := "PlantKeeper$Code", name := "with", desc := "(II)V" } : Jvm.MethodName) ∈ zk_BW := zk_inT 1300 (by decide +kernel) rfl
theorem kw1301 : Jvm.Cond.code ({ cls := "PlantKeeper$Code", name := "with", desc := "(II)V" } : Jvm.MethodName) prog_2_method_5_code (3 : Nat) (Option.none : Option FieldType) ∈ zk_BW := zk_inT 1301 (by decide +kernel) rfl
theorem kw1327 : Jvm.Cond.instanceMethod ({ cls := "PlantKeeper$Code", name := "joinHere", desc := "(I)V" } : Jvm.MethodName) ∈ zk_BW := zk_inT 1327 (by decide +kernel) rfl
theorem kw1328 : Jvm.Cond.selects "PlantKeeper$Code" ({ cls := "PlantKeeper$Code", name := "joinHere", desc := "(I)V" } : Jvm.MethodName) ({ cls := "PlantKeeper$Code", name := "joinHere", desc := "(I)V" } : Jvm.MethodName) ∈ zk_BW := zk_inT 1328 (by decide +kernel) rfl
theorem kw1329 : Jvm.Cond.code ({ cls := "PlantKeeper$Code", name := "joinHere", desc := "(I)V" } : Jvm.MethodName) prog_2_method_6_code (5 : Nat) (Option.none : Option FieldType) ∈ zk_BW := zk_inT 1329 (by decide +kernel) rfl
abbrev kc_Cd_emit : ByteArray := prog_2_method_4_code
def km_Cd_emit : zk_MT := (⟨"PlantKeeper$Code", "emit", "(II)I"⟩, kc_Cd_emit, 4, some .int, 2)
theorem ku_Cd_emit : zk_My km_Cd_emit := ⟨kw1281, kw12, by decide, by decide, by decide, by decide +kernel⟩
theorem kv_Cd_emit : zk_Mv km_Cd_emit := ⟨kw1279, kw1280⟩
abbrev kc_Cd_forget : ByteArray := prog_2_method_2_code
def km_Cd_forget : zk_MT := (⟨"PlantKeeper$Code", "forget", "()V"⟩, kc_Cd_forget, 1, none, 0)
theorem ku_Cd_forget : zk_My km_Cd_forget := ⟨kw1269, kw12, by decide, by decide, by decide, by decide +kernel⟩
theorem kv_Cd_forget : zk_Mv km_Cd_forget := ⟨kw1267, kw1268⟩
abbrev kc_Cd_joinHere : ByteArray := prog_2_method_6_code
def km_Cd_joinHere : zk_MT := (⟨"PlantKeeper$Code", "joinHere", "(I)V"⟩, kc_Cd_joinHere, 5, none, 1)
theorem ku_Cd_joinHere : zk_My km_Cd_joinHere := ⟨kw1329, kw12, by decide, by decide, by decide, by decide +kernel⟩
theorem kv_Cd_joinHere : zk_Mv km_Cd_joinHere := ⟨kw1327, kw1328⟩
abbrev kc_Cd_with : ByteArray := prog_2_method_5_code
def km_Cd_with : zk_MT := (⟨"PlantKeeper$Code", "with", "(II)V"⟩, kc_Cd_with, 3, none, 2)
theorem ku_Cd_with : zk_My km_Cd_with := ⟨kw1301, kw12, by decide, by decide, by decide, by decide +kernel⟩
theorem kv_Cd_with : zk_Mv km_Cd_with := ⟨kw1299, kw1300⟩
abbrev kc_Cr_beginFunction : ByteArray := prog_3_method_4_code
def km_Cr_beginFunction : zk_MT := (⟨"PlantKeeper$Coder", "beginFunction", "()V"⟩, kc_Cr_beginFunction, 2, none, 0)
theorem ku_Cr_beginFunction : zk_My km_Cr_beginFunction := ⟨kw1277, kw13, by decide, by decide, by decide, by decide +kernel⟩
theorem kv_Cr_beginFunction : zk_Mv km_Cr_beginFunction := ⟨kw1276, zk_inS 84 (q := (⟨"PlantKeeper$Coder", "beginFunction", "()V"⟩, 12)) (by decide +kernel)⟩
abbrev kc_Cr_cellOf : ByteArray := prog_3_method_23_code
def km_Cr_cellOf : zk_MT := (⟨"PlantKeeper$Coder", "cellOf", "(I)I"⟩, kc_Cr_cellOf, 3, some .int, 1)
theorem ku_Cr_cellOf : zk_My km_Cr_cellOf := ⟨kw1297, kw13, by decide, by decide, by decide, by decide +kernel⟩
theorem kv_Cr_cellOf : zk_Mv km_Cr_cellOf := ⟨kw1296, zk_inS 88 (q := (⟨"PlantKeeper$Coder", "cellOf", "(I)I"⟩, 12)) (by decide +kernel)⟩
abbrev kc_Jd_judge : ByteArray := prog_4_method_2_code
def km_Jd_judge : zk_MT := (⟨"PlantKeeper$Judge", "judge", "()I"⟩, kc_Jd_judge, 2, some .int, 0)
theorem ku_Jd_judge : zk_My km_Jd_judge := ⟨kw1001, kw11, by decide, by decide, by decide, by decide +kernel⟩
theorem kv_Jd_judge : zk_Mv km_Jd_judge := ⟨kw999, kw1000⟩
abbrev kc_Jd_leave : ByteArray := prog_4_method_8_code
def km_Jd_leave : zk_MT := (⟨"PlantKeeper$Judge", "leave", "(I)V"⟩, kc_Jd_leave, 3, none, 1)
theorem ku_Jd_leave : zk_My km_Jd_leave := ⟨kw1056, kw11, by decide, by decide, by decide, by decide +kernel⟩
theorem kv_Jd_leave : zk_Mv km_Jd_leave := ⟨kw1055, zk_inS 53 (q := (⟨"PlantKeeper$Judge", "leave", "(I)V"⟩, 14)) (by decide +kernel)⟩
abbrev kc_Jd_visit : ByteArray := prog_4_method_3_code
def km_Jd_visit : zk_MT := (⟨"PlantKeeper$Judge", "visit", "(II)V"⟩, kc_Jd_visit, 5, none, 2)
theorem ku_Jd_visit : zk_My km_Jd_visit := ⟨kw1027, kw11, by decide, by decide, by decide, by decide +kernel⟩
theorem kv_Jd_visit : zk_Mv km_Jd_visit := ⟨kw1026, zk_inS 48 (q := (⟨"PlantKeeper$Judge", "visit", "(II)V"⟩, 14)) (by decide +kernel)⟩
theorem kd_Cd_emit_0 : decode kc_Cd_emit 0 = .ok (.aload_n 0, 1) := by decide +kernel
theorem kd_Cd_emit_1 : decode kc_Cd_emit 1 = .ok (.getfield 28, 3) := by decide +kernel
theorem kd_Cd_emit_4 : decode kc_Cd_emit 4 = .ok (.istore_n 3, 1) := by decide +kernel
theorem kd_Cd_emit_5 : decode kc_Cd_emit 5 = .ok (.iload_n 3, 1) := by decide +kernel
theorem kd_Cd_emit_6 : decode kc_Cd_emit 6 = .ok (.sipush 4000, 3) := by decide +kernel
theorem kd_Cd_emit_9 : decode kc_Cd_emit 9 = .ok (.if_icmp .ge 32, 3) := by decide +kernel
theorem kd_Cd_emit_12 : decode kc_Cd_emit 12 = .ok (.aload_n 0, 1) := by decide +kernel
theorem kd_Cd_emit_13 : decode kc_Cd_emit 13 = .ok (.getfield 9, 3) := by decide +kernel
theorem kd_Cd_emit_16 : decode kc_Cd_emit 16 = .ok (.iload_n 3, 1) := by decide +kernel
theorem kd_Cd_emit_17 : decode kc_Cd_emit 17 = .ok (.iload_n 1, 1) := by decide +kernel
theorem kd_Cd_emit_18 : decode kc_Cd_emit 18 = .ok (.i2b, 1) := by decide +kernel
theorem kd_Cd_emit_19 : decode kc_Cd_emit 19 = .ok (.bastore, 1) := by decide +kernel
theorem kd_Cd_emit_20 : decode kc_Cd_emit 20 = .ok (.aload_n 0, 1) := by decide +kernel
theorem kd_Cd_emit_21 : decode kc_Cd_emit 21 = .ok (.getfield 15, 3) := by decide +kernel
theorem kd_Cd_emit_24 : decode kc_Cd_emit 24 = .ok (.iload_n 3, 1) := by decide +kernel
theorem kd_Cd_emit_25 : decode kc_Cd_emit 25 = .ok (.iload_n 2, 1) := by decide +kernel
theorem kd_Cd_emit_26 : decode kc_Cd_emit 26 = .ok (.iastore, 1) := by decide +kernel
theorem kd_Cd_emit_27 : decode kc_Cd_emit 27 = .ok (.aload_n 0, 1) := by decide +kernel
theorem kd_Cd_emit_28 : decode kc_Cd_emit 28 = .ok (.getfield 19, 3) := by decide +kernel
theorem kd_Cd_emit_31 : decode kc_Cd_emit 31 = .ok (.iload_n 3, 1) := by decide +kernel
theorem kd_Cd_emit_32 : decode kc_Cd_emit 32 = .ok (.iconst 0, 1) := by decide +kernel
theorem kd_Cd_emit_33 : decode kc_Cd_emit 33 = .ok (.iastore, 1) := by decide +kernel
theorem kd_Cd_emit_34 : decode kc_Cd_emit 34 = .ok (.aload_n 0, 1) := by decide +kernel
theorem kd_Cd_emit_35 : decode kc_Cd_emit 35 = .ok (.getfield 22, 3) := by decide +kernel
theorem kd_Cd_emit_38 : decode kc_Cd_emit 38 = .ok (.iload_n 3, 1) := by decide +kernel
theorem kd_Cd_emit_39 : decode kc_Cd_emit 39 = .ok (.iconst 0, 1) := by decide +kernel
theorem kd_Cd_emit_40 : decode kc_Cd_emit 40 = .ok (.iastore, 1) := by decide +kernel
theorem kd_Cd_emit_41 : decode kc_Cd_emit 41 = .ok (.aload_n 0, 1) := by decide +kernel
theorem kd_Cd_emit_42 : decode kc_Cd_emit 42 = .ok (.dup, 1) := by decide +kernel
theorem kd_Cd_emit_43 : decode kc_Cd_emit 43 = .ok (.getfield 28, 3) := by decide +kernel
theorem kd_Cd_emit_46 : decode kc_Cd_emit 46 = .ok (.iconst 1, 1) := by decide +kernel
theorem kd_Cd_emit_47 : decode kc_Cd_emit 47 = .ok (.iadd, 1) := by decide +kernel
theorem kd_Cd_emit_48 : decode kc_Cd_emit 48 = .ok (.putfield 28, 3) := by decide +kernel
theorem kd_Cd_emit_51 : decode kc_Cd_emit 51 = .ok (.iload_n 3, 1) := by decide +kernel
theorem kd_Cd_emit_52 : decode kc_Cd_emit 52 = .ok (.ireturn, 1) := by decide +kernel
theorem kd_Cd_forget_0 : decode kc_Cd_forget 0 = .ok (.aload_n 0, 1) := by decide +kernel
theorem kd_Cd_forget_1 : decode kc_Cd_forget 1 = .ok (.iconst 0, 1) := by decide +kernel
theorem kd_Cd_forget_2 : decode kc_Cd_forget 2 = .ok (.putfield 28, 3) := by decide +kernel
theorem kd_Cd_forget_5 : decode kc_Cd_forget 5 = .ok (.aload_n 0, 1) := by decide +kernel
theorem kd_Cd_forget_6 : decode kc_Cd_forget 6 = .ok (.iconst 0, 1) := by decide +kernel
theorem kd_Cd_forget_7 : decode kc_Cd_forget 7 = .ok (.putfield 32, 3) := by decide +kernel
theorem kd_Cd_forget_10 : decode kc_Cd_forget 10 = .ok (.return_, 1) := by decide +kernel
theorem kd_Cd_joinHere_0 : decode kc_Cd_joinHere 0 = .ok (.iload_n 1, 1) := by decide +kernel
theorem kd_Cd_joinHere_1 : decode kc_Cd_joinHere 1 = .ok (.istore_n 2, 1) := by decide +kernel
theorem kd_Cd_joinHere_2 : decode kc_Cd_joinHere 2 = .ok (.iconst 0, 1) := by decide +kernel
theorem kd_Cd_joinHere_3 : decode kc_Cd_joinHere 3 = .ok (.istore_n 3, 1) := by decide +kernel
theorem kd_Cd_joinHere_4 : decode kc_Cd_joinHere 4 = .ok (.iload_n 3, 1) := by decide +kernel
theorem kd_Cd_joinHere_5 : decode kc_Cd_joinHere 5 = .ok (.sipush 4000, 3) := by decide +kernel
theorem kd_Cd_joinHere_8 : decode kc_Cd_joinHere 8 = .ok (.if_icmp .ge 41, 3) := by decide +kernel
theorem kd_Cd_joinHere_11 : decode kc_Cd_joinHere 11 = .ok (.iload_n 2, 1) := by decide +kernel
theorem kd_Cd_joinHere_12 : decode kc_Cd_joinHere 12 = .ok (.ifCond .lt 37, 3) := by decide +kernel
theorem kd_Cd_joinHere_15 : decode kc_Cd_joinHere 15 = .ok (.iload_n 2, 1) := by decide +kernel
theorem kd_Cd_joinHere_16 : decode kc_Cd_joinHere 16 = .ok (.sipush 4000, 3) := by decide +kernel
theorem kd_Cd_joinHere_19 : decode kc_Cd_joinHere 19 = .ok (.if_icmp .ge 30, 3) := by decide +kernel
theorem kd_Cd_joinHere_22 : decode kc_Cd_joinHere 22 = .ok (.aload_n 0, 1) := by decide +kernel
theorem kd_Cd_joinHere_23 : decode kc_Cd_joinHere 23 = .ok (.getfield 15, 3) := by decide +kernel
theorem kd_Cd_joinHere_26 : decode kc_Cd_joinHere 26 = .ok (.iload_n 2, 1) := by decide +kernel
theorem kd_Cd_joinHere_27 : decode kc_Cd_joinHere 27 = .ok (.iaload, 1) := by decide +kernel
theorem kd_Cd_joinHere_28 : decode kc_Cd_joinHere 28 = .ok (.istore 4, 2) := by decide +kernel
theorem kd_Cd_joinHere_30 : decode kc_Cd_joinHere 30 = .ok (.aload_n 0, 1) := by decide +kernel
theorem kd_Cd_joinHere_31 : decode kc_Cd_joinHere 31 = .ok (.getfield 15, 3) := by decide +kernel
theorem kd_Cd_joinHere_34 : decode kc_Cd_joinHere 34 = .ok (.iload_n 2, 1) := by decide +kernel
theorem kd_Cd_joinHere_35 : decode kc_Cd_joinHere 35 = .ok (.aload_n 0, 1) := by decide +kernel
theorem kd_Cd_joinHere_36 : decode kc_Cd_joinHere 36 = .ok (.getfield 28, 3) := by decide +kernel
theorem kd_Cd_joinHere_39 : decode kc_Cd_joinHere 39 = .ok (.iastore, 1) := by decide +kernel
theorem kd_Cd_joinHere_40 : decode kc_Cd_joinHere 40 = .ok (.iload 4, 2) := by decide +kernel
theorem kd_Cd_joinHere_42 : decode kc_Cd_joinHere 42 = .ok (.istore_n 2, 1) := by decide +kernel
theorem kd_Cd_joinHere_43 : decode kc_Cd_joinHere 43 = .ok (.iinc 3 1, 3) := by decide +kernel
theorem kd_Cd_joinHere_46 : decode kc_Cd_joinHere 46 = .ok (.goto (-42), 3) := by decide +kernel
theorem kd_Cd_joinHere_49 : decode kc_Cd_joinHere 49 = .ok (.return_, 1) := by decide +kernel
theorem kd_Cd_with_0 : decode kc_Cd_with 0 = .ok (.aload_n 0, 1) := by decide +kernel
theorem kd_Cd_with_1 : decode kc_Cd_with 1 = .ok (.getfield 28, 3) := by decide +kernel
theorem kd_Cd_with_4 : decode kc_Cd_with 4 = .ok (.ifCond .le 37, 3) := by decide +kernel
theorem kd_Cd_with_7 : decode kc_Cd_with 7 = .ok (.aload_n 0, 1) := by decide +kernel
theorem kd_Cd_with_8 : decode kc_Cd_with 8 = .ok (.getfield 28, 3) := by decide +kernel
theorem kd_Cd_with_11 : decode kc_Cd_with 11 = .ok (.sipush 4000, 3) := by decide +kernel
theorem kd_Cd_with_14 : decode kc_Cd_with 14 = .ok (.if_icmp .gt 27, 3) := by decide +kernel
theorem kd_Cd_with_17 : decode kc_Cd_with 17 = .ok (.aload_n 0, 1) := by decide +kernel
theorem kd_Cd_with_18 : decode kc_Cd_with 18 = .ok (.getfield 19, 3) := by decide +kernel
theorem kd_Cd_with_21 : decode kc_Cd_with 21 = .ok (.aload_n 0, 1) := by decide +kernel
theorem kd_Cd_with_22 : decode kc_Cd_with 22 = .ok (.getfield 28, 3) := by decide +kernel
theorem kd_Cd_with_25 : decode kc_Cd_with 25 = .ok (.iconst 1, 1) := by decide +kernel
theorem kd_Cd_with_26 : decode kc_Cd_with 26 = .ok (.isub, 1) := by decide +kernel
theorem kd_Cd_with_27 : decode kc_Cd_with 27 = .ok (.iload_n 1, 1) := by decide +kernel
theorem kd_Cd_with_28 : decode kc_Cd_with 28 = .ok (.iastore, 1) := by decide +kernel
theorem kd_Cd_with_29 : decode kc_Cd_with 29 = .ok (.aload_n 0, 1) := by decide +kernel
theorem kd_Cd_with_30 : decode kc_Cd_with 30 = .ok (.getfield 22, 3) := by decide +kernel
theorem kd_Cd_with_33 : decode kc_Cd_with 33 = .ok (.aload_n 0, 1) := by decide +kernel
theorem kd_Cd_with_34 : decode kc_Cd_with 34 = .ok (.getfield 28, 3) := by decide +kernel
theorem kd_Cd_with_37 : decode kc_Cd_with 37 = .ok (.iconst 1, 1) := by decide +kernel
theorem kd_Cd_with_38 : decode kc_Cd_with 38 = .ok (.isub, 1) := by decide +kernel
theorem kd_Cd_with_39 : decode kc_Cd_with 39 = .ok (.iload_n 2, 1) := by decide +kernel
theorem kd_Cd_with_40 : decode kc_Cd_with 40 = .ok (.iastore, 1) := by decide +kernel
theorem kd_Cd_with_41 : decode kc_Cd_with 41 = .ok (.return_, 1) := by decide +kernel
theorem kd_Cr_beginFunction_0 : decode kc_Cr_beginFunction 0 = .ok (.aload_n 0, 1) := by decide +kernel
theorem kd_Cr_beginFunction_1 : decode kc_Cr_beginFunction 1 = .ok (.getfield 19, 3) := by decide +kernel
theorem kd_Cr_beginFunction_4 : decode kc_Cr_beginFunction 4 = .ok (.iconst 0, 1) := by decide +kernel
theorem kd_Cr_beginFunction_5 : decode kc_Cr_beginFunction 5 = .ok (.iconst 0, 1) := by decide +kernel
theorem kd_Cr_beginFunction_6 : decode kc_Cr_beginFunction 6 = .ok (.invokevirtual 101, 3) := by decide +kernel
theorem kd_Cr_beginFunction_9 : decode kc_Cr_beginFunction 9 = .ok (.pop, 1) := by decide +kernel
theorem kd_Cr_beginFunction_10 : decode kc_Cr_beginFunction 10 = .ok (.aload_n 0, 1) := by decide +kernel
theorem kd_Cr_beginFunction_11 : decode kc_Cr_beginFunction 11 = .ok (.getfield 19, 3) := by decide +kernel
theorem kd_Cr_beginFunction_14 : decode kc_Cr_beginFunction 14 = .ok (.iconst 2, 1) := by decide +kernel
theorem kd_Cr_beginFunction_15 : decode kc_Cr_beginFunction 15 = .ok (.iconst 0, 1) := by decide +kernel
theorem kd_Cr_beginFunction_16 : decode kc_Cr_beginFunction 16 = .ok (.invokevirtual 101, 3) := by decide +kernel
theorem kd_Cr_beginFunction_19 : decode kc_Cr_beginFunction 19 = .ok (.pop, 1) := by decide +kernel
theorem kd_Cr_beginFunction_20 : decode kc_Cr_beginFunction 20 = .ok (.aload_n 0, 1) := by decide +kernel
theorem kd_Cr_beginFunction_21 : decode kc_Cr_beginFunction 21 = .ok (.getfield 15, 3) := by decide +kernel
theorem kd_Cr_beginFunction_24 : decode kc_Cr_beginFunction 24 = .ok (.getfield 105, 3) := by decide +kernel
theorem kd_Cr_beginFunction_27 : decode kc_Cr_beginFunction 27 = .ok (.aload_n 0, 1) := by decide +kernel
theorem kd_Cr_beginFunction_28 : decode kc_Cr_beginFunction 28 = .ok (.getfield 45, 3) := by decide +kernel
theorem kd_Cr_beginFunction_31 : decode kc_Cr_beginFunction 31 = .ok (.iaload, 1) := by decide +kernel
theorem kd_Cr_beginFunction_32 : decode kc_Cr_beginFunction 32 = .ok (.istore_n 1, 1) := by decide +kernel
theorem kd_Cr_beginFunction_33 : decode kc_Cr_beginFunction 33 = .ok (.iload_n 1, 1) := by decide +kernel
theorem kd_Cr_beginFunction_34 : decode kc_Cr_beginFunction 34 = .ok (.aload_n 0, 1) := by decide +kernel
theorem kd_Cr_beginFunction_35 : decode kc_Cr_beginFunction 35 = .ok (.getfield 15, 3) := by decide +kernel
theorem kd_Cr_beginFunction_38 : decode kc_Cr_beginFunction 38 = .ok (.getfield 108, 3) := by decide +kernel
theorem kd_Cr_beginFunction_41 : decode kc_Cr_beginFunction 41 = .ok (.aload_n 0, 1) := by decide +kernel
theorem kd_Cr_beginFunction_42 : decode kc_Cr_beginFunction 42 = .ok (.getfield 45, 3) := by decide +kernel
theorem kd_Cr_beginFunction_45 : decode kc_Cr_beginFunction 45 = .ok (.iaload, 1) := by decide +kernel
theorem kd_Cr_beginFunction_46 : decode kc_Cr_beginFunction 46 = .ok (.if_icmp .ge 57, 3) := by decide +kernel
theorem kd_Cr_beginFunction_49 : decode kc_Cr_beginFunction 49 = .ok (.aload_n 0, 1) := by decide +kernel
theorem kd_Cr_beginFunction_50 : decode kc_Cr_beginFunction 50 = .ok (.getfield 15, 3) := by decide +kernel
theorem kd_Cr_beginFunction_53 : decode kc_Cr_beginFunction 53 = .ok (.getfield 111, 3) := by decide +kernel
theorem kd_Cr_beginFunction_56 : decode kc_Cr_beginFunction 56 = .ok (.iload_n 1, 1) := by decide +kernel
theorem kd_Cr_beginFunction_57 : decode kc_Cr_beginFunction 57 = .ok (.iaload, 1) := by decide +kernel
theorem kd_Cr_beginFunction_58 : decode kc_Cr_beginFunction 58 = .ok (.ifCond .ne 39, 3) := by decide +kernel
theorem kd_Cr_beginFunction_61 : decode kc_Cr_beginFunction 61 = .ok (.aload_n 0, 1) := by decide +kernel
theorem kd_Cr_beginFunction_62 : decode kc_Cr_beginFunction 62 = .ok (.getfield 19, 3) := by decide +kernel
theorem kd_Cr_beginFunction_65 : decode kc_Cr_beginFunction 65 = .ok (.iconst 0, 1) := by decide +kernel
theorem kd_Cr_beginFunction_66 : decode kc_Cr_beginFunction 66 = .ok (.aload_n 0, 1) := by decide +kernel
theorem kd_Cr_beginFunction_67 : decode kc_Cr_beginFunction 67 = .ok (.getfield 15, 3) := by decide +kernel
theorem kd_Cr_beginFunction_70 : decode kc_Cr_beginFunction 70 = .ok (.getfield 114, 3) := by decide +kernel
theorem kd_Cr_beginFunction_73 : decode kc_Cr_beginFunction 73 = .ok (.iload_n 1, 1) := by decide +kernel
theorem kd_Cr_beginFunction_74 : decode kc_Cr_beginFunction 74 = .ok (.iaload, 1) := by decide +kernel
theorem kd_Cr_beginFunction_75 : decode kc_Cr_beginFunction 75 = .ok (.invokevirtual 101, 3) := by decide +kernel
theorem kd_Cr_beginFunction_78 : decode kc_Cr_beginFunction 78 = .ok (.pop, 1) := by decide +kernel
theorem kd_Cr_beginFunction_79 : decode kc_Cr_beginFunction 79 = .ok (.aload_n 0, 1) := by decide +kernel
theorem kd_Cr_beginFunction_80 : decode kc_Cr_beginFunction 80 = .ok (.getfield 19, 3) := by decide +kernel
theorem kd_Cr_beginFunction_83 : decode kc_Cr_beginFunction 83 = .ok (.iconst 2, 1) := by decide +kernel
theorem kd_Cr_beginFunction_84 : decode kc_Cr_beginFunction 84 = .ok (.aload_n 0, 1) := by decide +kernel
theorem kd_Cr_beginFunction_85 : decode kc_Cr_beginFunction 85 = .ok (.getfield 15, 3) := by decide +kernel
theorem kd_Cr_beginFunction_88 : decode kc_Cr_beginFunction 88 = .ok (.getfield 117, 3) := by decide +kernel
theorem kd_Cr_beginFunction_91 : decode kc_Cr_beginFunction 91 = .ok (.iload_n 1, 1) := by decide +kernel
theorem kd_Cr_beginFunction_92 : decode kc_Cr_beginFunction 92 = .ok (.iaload, 1) := by decide +kernel
theorem kd_Cr_beginFunction_93 : decode kc_Cr_beginFunction 93 = .ok (.invokevirtual 101, 3) := by decide +kernel
theorem kd_Cr_beginFunction_96 : decode kc_Cr_beginFunction 96 = .ok (.pop, 1) := by decide +kernel
theorem kd_Cr_beginFunction_97 : decode kc_Cr_beginFunction 97 = .ok (.iinc 1 1, 3) := by decide +kernel
theorem kd_Cr_beginFunction_100 : decode kc_Cr_beginFunction 100 = .ok (.goto (-67), 3) := by decide +kernel
theorem kd_Cr_beginFunction_103 : decode kc_Cr_beginFunction 103 = .ok (.return_, 1) := by decide +kernel
theorem kd_Cr_cellOf_0 : decode kc_Cr_cellOf 0 = .ok (.aload_n 0, 1) := by decide +kernel
theorem kd_Cr_cellOf_1 : decode kc_Cr_cellOf 1 = .ok (.getfield 15, 3) := by decide +kernel
theorem kd_Cr_cellOf_4 : decode kc_Cr_cellOf 4 = .ok (.getfield 117, 3) := by decide +kernel
theorem kd_Cr_cellOf_7 : decode kc_Cr_cellOf 7 = .ok (.aload_n 0, 1) := by decide +kernel
theorem kd_Cr_cellOf_8 : decode kc_Cr_cellOf 8 = .ok (.getfield 9, 3) := by decide +kernel
theorem kd_Cr_cellOf_11 : decode kc_Cr_cellOf 11 = .ok (.getfield 135, 3) := by decide +kernel
theorem kd_Cr_cellOf_14 : decode kc_Cr_cellOf 14 = .ok (.iload_n 1, 1) := by decide +kernel
theorem kd_Cr_cellOf_15 : decode kc_Cr_cellOf 15 = .ok (.iaload, 1) := by decide +kernel
theorem kd_Cr_cellOf_16 : decode kc_Cr_cellOf 16 = .ok (.iaload, 1) := by decide +kernel
theorem kd_Cr_cellOf_17 : decode kc_Cr_cellOf 17 = .ok (.istore_n 2, 1) := by decide +kernel
theorem kd_Cr_cellOf_18 : decode kc_Cr_cellOf 18 = .ok (.aload_n 0, 1) := by decide +kernel
theorem kd_Cr_cellOf_19 : decode kc_Cr_cellOf 19 = .ok (.getfield 9, 3) := by decide +kernel
theorem kd_Cr_cellOf_22 : decode kc_Cr_cellOf 22 = .ok (.getfield 90, 3) := by decide +kernel
theorem kd_Cr_cellOf_25 : decode kc_Cr_cellOf 25 = .ok (.iload_n 1, 1) := by decide +kernel
theorem kd_Cr_cellOf_26 : decode kc_Cr_cellOf 26 = .ok (.baload, 1) := by decide +kernel
theorem kd_Cr_cellOf_27 : decode kc_Cr_cellOf 27 = .ok (.bipush 33, 2) := by decide +kernel
theorem kd_Cr_cellOf_29 : decode kc_Cr_cellOf 29 = .ok (.if_icmp .ne 25, 3) := by decide +kernel
theorem kd_Cr_cellOf_32 : decode kc_Cr_cellOf 32 = .ok (.iload_n 2, 1) := by decide +kernel
theorem kd_Cr_cellOf_33 : decode kc_Cr_cellOf 33 = .ok (.aload_n 0, 1) := by decide +kernel
theorem kd_Cr_cellOf_34 : decode kc_Cr_cellOf 34 = .ok (.getfield 9, 3) := by decide +kernel
theorem kd_Cr_cellOf_37 : decode kc_Cr_cellOf 37 = .ok (.getfield 135, 3) := by decide +kernel
theorem kd_Cr_cellOf_40 : decode kc_Cr_cellOf 40 = .ok (.aload_n 0, 1) := by decide +kernel
theorem kd_Cr_cellOf_41 : decode kc_Cr_cellOf 41 = .ok (.getfield 9, 3) := by decide +kernel
theorem kd_Cr_cellOf_44 : decode kc_Cr_cellOf 44 = .ok (.getfield 80, 3) := by decide +kernel
theorem kd_Cr_cellOf_47 : decode kc_Cr_cellOf 47 = .ok (.iload_n 1, 1) := by decide +kernel
theorem kd_Cr_cellOf_48 : decode kc_Cr_cellOf 48 = .ok (.iaload, 1) := by decide +kernel
theorem kd_Cr_cellOf_49 : decode kc_Cr_cellOf 49 = .ok (.iaload, 1) := by decide +kernel
theorem kd_Cr_cellOf_50 : decode kc_Cr_cellOf 50 = .ok (.iadd, 1) := by decide +kernel
theorem kd_Cr_cellOf_51 : decode kc_Cr_cellOf 51 = .ok (.goto 4, 3) := by decide +kernel
theorem kd_Cr_cellOf_54 : decode kc_Cr_cellOf 54 = .ok (.iload_n 2, 1) := by decide +kernel
theorem kd_Cr_cellOf_55 : decode kc_Cr_cellOf 55 = .ok (.ireturn, 1) := by decide +kernel
theorem kd_Jd_judge_0 : decode kc_Jd_judge 0 = .ok (.aload_n 0, 1) := by decide +kernel
theorem kd_Jd_judge_1 : decode kc_Jd_judge 1 = .ok (.iconst 0, 1) := by decide +kernel
theorem kd_Jd_judge_2 : decode kc_Jd_judge 2 = .ok (.putfield 29, 3) := by decide +kernel
theorem kd_Jd_judge_5 : decode kc_Jd_judge 5 = .ok (.aload_n 0, 1) := by decide +kernel
theorem kd_Jd_judge_6 : decode kc_Jd_judge 6 = .ok (.iconst 0, 1) := by decide +kernel
theorem kd_Jd_judge_7 : decode kc_Jd_judge 7 = .ok (.putfield 33, 3) := by decide +kernel
theorem kd_Jd_judge_10 : decode kc_Jd_judge 10 = .ok (.aload_n 0, 1) := by decide +kernel
theorem kd_Jd_judge_11 : decode kc_Jd_judge 11 = .ok (.getfield 15, 3) := by decide +kernel
theorem kd_Jd_judge_14 : decode kc_Jd_judge 14 = .ok (.invokevirtual 36, 3) := by decide +kernel
theorem kd_Jd_judge_17 : decode kc_Jd_judge 17 = .ok (.iconst 0, 1) := by decide +kernel
theorem kd_Jd_judge_18 : decode kc_Jd_judge 18 = .ok (.istore_n 1, 1) := by decide +kernel
theorem kd_Jd_judge_19 : decode kc_Jd_judge 19 = .ok (.iload_n 1, 1) := by decide +kernel
theorem kd_Jd_judge_20 : decode kc_Jd_judge 20 = .ok (.aload_n 0, 1) := by decide +kernel
theorem kd_Jd_judge_21 : decode kc_Jd_judge 21 = .ok (.getfield 25, 3) := by decide +kernel
theorem kd_Jd_judge_24 : decode kc_Jd_judge 24 = .ok (.arraylength, 1) := by decide +kernel
theorem kd_Jd_judge_25 : decode kc_Jd_judge 25 = .ok (.if_icmp .ge 16, 3) := by decide +kernel
theorem kd_Jd_judge_28 : decode kc_Jd_judge 28 = .ok (.aload_n 0, 1) := by decide +kernel
theorem kd_Jd_judge_29 : decode kc_Jd_judge 29 = .ok (.getfield 25, 3) := by decide +kernel
theorem kd_Jd_judge_32 : decode kc_Jd_judge 32 = .ok (.iload_n 1, 1) := by decide +kernel
theorem kd_Jd_judge_33 : decode kc_Jd_judge 33 = .ok (.iconst 0, 1) := by decide +kernel
theorem kd_Jd_judge_34 : decode kc_Jd_judge 34 = .ok (.bastore, 1) := by decide +kernel
theorem kd_Jd_judge_35 : decode kc_Jd_judge 35 = .ok (.iinc 1 1, 3) := by decide +kernel
theorem kd_Jd_judge_38 : decode kc_Jd_judge 38 = .ok (.goto (-19), 3) := by decide +kernel
theorem kd_Jd_judge_41 : decode kc_Jd_judge 41 = .ok (.aload_n 0, 1) := by decide +kernel
theorem kd_Jd_judge_42 : decode kc_Jd_judge 42 = .ok (.iconst 0, 1) := by decide +kernel
theorem kd_Jd_judge_43 : decode kc_Jd_judge 43 = .ok (.iconst 0, 1) := by decide +kernel
theorem kd_Jd_judge_44 : decode kc_Jd_judge 44 = .ok (.invokevirtual 41, 3) := by decide +kernel
theorem kd_Jd_judge_47 : decode kc_Jd_judge 47 = .ok (.aload_n 0, 1) := by decide +kernel
theorem kd_Jd_judge_48 : decode kc_Jd_judge 48 = .ok (.getfield 29, 3) := by decide +kernel
theorem kd_Jd_judge_51 : decode kc_Jd_judge 51 = .ok (.ireturn, 1) := by decide +kernel
theorem kd_Jd_leave_0 : decode kc_Jd_leave 0 = .ok (.aload_n 0, 1) := by decide +kernel
theorem kd_Jd_leave_1 : decode kc_Jd_leave 1 = .ok (.getfield 9, 3) := by decide +kernel
theorem kd_Jd_leave_4 : decode kc_Jd_leave 4 = .ok (.getfield 49, 3) := by decide +kernel
theorem kd_Jd_leave_7 : decode kc_Jd_leave 7 = .ok (.iload_n 1, 1) := by decide +kernel
theorem kd_Jd_leave_8 : decode kc_Jd_leave 8 = .ok (.iaload, 1) := by decide +kernel
theorem kd_Jd_leave_9 : decode kc_Jd_leave 9 = .ok (.istore_n 2, 1) := by decide +kernel
theorem kd_Jd_leave_10 : decode kc_Jd_leave 10 = .ok (.aload_n 0, 1) := by decide +kernel
theorem kd_Jd_leave_11 : decode kc_Jd_leave 11 = .ok (.getfield 9, 3) := by decide +kernel
theorem kd_Jd_leave_14 : decode kc_Jd_leave 14 = .ok (.getfield 71, 3) := by decide +kernel
theorem kd_Jd_leave_17 : decode kc_Jd_leave 17 = .ok (.iload_n 1, 1) := by decide +kernel
theorem kd_Jd_leave_18 : decode kc_Jd_leave 18 = .ok (.baload, 1) := by decide +kernel
theorem kd_Jd_leave_19 : decode kc_Jd_leave 19 = .ok (.tableswitch 456 0 37 #[165, 173, 173, 173, 181, 189, 424, 205, 456, 213, 221, 456, 229, 245, 237, 263, 271, 456, 298, 306, 314, 456, 456, 336, 456, 344, 456, 456, 352, 360, 391, 456, 424, 424, 432, 440, 448, 197], 165) := by decide +kernel
theorem kd_Jd_leave_184 : decode kc_Jd_leave 184 = .ok (.aload_n 0, 1) := by decide +kernel
theorem kd_Jd_leave_185 : decode kc_Jd_leave 185 = .ok (.iload_n 1, 1) := by decide +kernel
theorem kd_Jd_leave_186 : decode kc_Jd_leave 186 = .ok (.invokevirtual 142, 3) := by decide +kernel
theorem kd_Jd_leave_189 : decode kc_Jd_leave 189 = .ok (.goto 286, 3) := by decide +kernel
theorem kd_Jd_leave_192 : decode kc_Jd_leave 192 = .ok (.aload_n 0, 1) := by decide +kernel
theorem kd_Jd_leave_193 : decode kc_Jd_leave 193 = .ok (.iload_n 1, 1) := by decide +kernel
theorem kd_Jd_leave_194 : decode kc_Jd_leave 194 = .ok (.invokevirtual 145, 3) := by decide +kernel
theorem kd_Jd_leave_197 : decode kc_Jd_leave 197 = .ok (.goto 278, 3) := by decide +kernel
theorem kd_Jd_leave_200 : decode kc_Jd_leave 200 = .ok (.aload_n 0, 1) := by decide +kernel
theorem kd_Jd_leave_201 : decode kc_Jd_leave 201 = .ok (.iload_n 1, 1) := by decide +kernel
theorem kd_Jd_leave_202 : decode kc_Jd_leave 202 = .ok (.invokevirtual 148, 3) := by decide +kernel
theorem kd_Jd_leave_205 : decode kc_Jd_leave 205 = .ok (.goto 270, 3) := by decide +kernel
theorem kd_Jd_leave_208 : decode kc_Jd_leave 208 = .ok (.aload_n 0, 1) := by decide +kernel
theorem kd_Jd_leave_209 : decode kc_Jd_leave 209 = .ok (.iload_n 1, 1) := by decide +kernel
theorem kd_Jd_leave_210 : decode kc_Jd_leave 210 = .ok (.invokevirtual 151, 3) := by decide +kernel
theorem kd_Jd_leave_213 : decode kc_Jd_leave 213 = .ok (.goto 262, 3) := by decide +kernel
theorem kd_Jd_leave_216 : decode kc_Jd_leave 216 = .ok (.aload_n 0, 1) := by decide +kernel
theorem kd_Jd_leave_217 : decode kc_Jd_leave 217 = .ok (.iload_n 1, 1) := by decide +kernel
theorem kd_Jd_leave_218 : decode kc_Jd_leave 218 = .ok (.invokevirtual 154, 3) := by decide +kernel
theorem kd_Jd_leave_221 : decode kc_Jd_leave 221 = .ok (.goto 254, 3) := by decide +kernel
theorem kd_Jd_leave_224 : decode kc_Jd_leave 224 = .ok (.aload_n 0, 1) := by decide +kernel
theorem kd_Jd_leave_225 : decode kc_Jd_leave 225 = .ok (.iload_n 1, 1) := by decide +kernel
theorem kd_Jd_leave_226 : decode kc_Jd_leave 226 = .ok (.invokevirtual 157, 3) := by decide +kernel
theorem kd_Jd_leave_229 : decode kc_Jd_leave 229 = .ok (.goto 246, 3) := by decide +kernel
theorem kd_Jd_leave_232 : decode kc_Jd_leave 232 = .ok (.aload_n 0, 1) := by decide +kernel
theorem kd_Jd_leave_233 : decode kc_Jd_leave 233 = .ok (.iload_n 1, 1) := by decide +kernel
theorem kd_Jd_leave_234 : decode kc_Jd_leave 234 = .ok (.invokevirtual 160, 3) := by decide +kernel
theorem kd_Jd_leave_237 : decode kc_Jd_leave 237 = .ok (.goto 238, 3) := by decide +kernel
theorem kd_Jd_leave_240 : decode kc_Jd_leave 240 = .ok (.aload_n 0, 1) := by decide +kernel
theorem kd_Jd_leave_241 : decode kc_Jd_leave 241 = .ok (.iload_n 1, 1) := by decide +kernel
theorem kd_Jd_leave_242 : decode kc_Jd_leave 242 = .ok (.invokevirtual 163, 3) := by decide +kernel
theorem kd_Jd_leave_245 : decode kc_Jd_leave 245 = .ok (.goto 230, 3) := by decide +kernel
theorem kd_Jd_leave_248 : decode kc_Jd_leave 248 = .ok (.aload_n 0, 1) := by decide +kernel
theorem kd_Jd_leave_249 : decode kc_Jd_leave 249 = .ok (.iload_n 1, 1) := by decide +kernel
theorem kd_Jd_leave_250 : decode kc_Jd_leave 250 = .ok (.invokevirtual 166, 3) := by decide +kernel
theorem kd_Jd_leave_253 : decode kc_Jd_leave 253 = .ok (.goto 222, 3) := by decide +kernel
theorem kd_Jd_leave_256 : decode kc_Jd_leave 256 = .ok (.aload_n 0, 1) := by decide +kernel
theorem kd_Jd_leave_257 : decode kc_Jd_leave 257 = .ok (.iload_n 1, 1) := by decide +kernel
theorem kd_Jd_leave_258 : decode kc_Jd_leave 258 = .ok (.invokevirtual 169, 3) := by decide +kernel
theorem kd_Jd_leave_261 : decode kc_Jd_leave 261 = .ok (.goto 214, 3) := by decide +kernel
theorem kd_Jd_leave_264 : decode kc_Jd_leave 264 = .ok (.aload_n 0, 1) := by decide +kernel
theorem kd_Jd_leave_265 : decode kc_Jd_leave 265 = .ok (.getfield 9, 3) := by decide +kernel
theorem kd_Jd_leave_268 : decode kc_Jd_leave 268 = .ok (.getfield 78, 3) := by decide +kernel
theorem kd_Jd_leave_271 : decode kc_Jd_leave 271 = .ok (.iload_n 1, 1) := by decide +kernel
theorem kd_Jd_leave_272 : decode kc_Jd_leave 272 = .ok (.aload_n 0, 1) := by decide +kernel
theorem kd_Jd_leave_273 : decode kc_Jd_leave 273 = .ok (.iload_n 1, 1) := by decide +kernel
theorem kd_Jd_leave_274 : decode kc_Jd_leave 274 = .ok (.iconst 0, 1) := by decide +kernel
theorem kd_Jd_leave_275 : decode kc_Jd_leave 275 = .ok (.invokevirtual 172, 3) := by decide +kernel
theorem kd_Jd_leave_278 : decode kc_Jd_leave 278 = .ok (.iastore, 1) := by decide +kernel
theorem kd_Jd_leave_279 : decode kc_Jd_leave 279 = .ok (.goto 196, 3) := by decide +kernel
theorem kd_Jd_leave_282 : decode kc_Jd_leave 282 = .ok (.aload_n 0, 1) := by decide +kernel
theorem kd_Jd_leave_283 : decode kc_Jd_leave 283 = .ok (.iload_n 1, 1) := by decide +kernel
theorem kd_Jd_leave_284 : decode kc_Jd_leave 284 = .ok (.invokevirtual 175, 3) := by decide +kernel
theorem kd_Jd_leave_287 : decode kc_Jd_leave 287 = .ok (.goto 188, 3) := by decide +kernel
theorem kd_Jd_leave_290 : decode kc_Jd_leave 290 = .ok (.aload_n 0, 1) := by decide +kernel
theorem kd_Jd_leave_291 : decode kc_Jd_leave 291 = .ok (.aload_n 0, 1) := by decide +kernel
theorem kd_Jd_leave_292 : decode kc_Jd_leave 292 = .ok (.getfield 9, 3) := by decide +kernel
theorem kd_Jd_leave_295 : decode kc_Jd_leave 295 = .ok (.getfield 178, 3) := by decide +kernel
theorem kd_Jd_leave_298 : decode kc_Jd_leave 298 = .ok (.iload_n 2, 1) := by decide +kernel
theorem kd_Jd_leave_299 : decode kc_Jd_leave 299 = .ok (.baload, 1) := by decide +kernel
theorem kd_Jd_leave_300 : decode kc_Jd_leave 300 = .ok (.ifCond .ne 7, 3) := by decide +kernel
theorem kd_Jd_leave_303 : decode kc_Jd_leave 303 = .ok (.iconst 1, 1) := by decide +kernel
theorem kd_Jd_leave_304 : decode kc_Jd_leave 304 = .ok (.goto 4, 3) := by decide +kernel
theorem kd_Jd_leave_307 : decode kc_Jd_leave 307 = .ok (.iconst 0, 1) := by decide +kernel
theorem kd_Jd_leave_308 : decode kc_Jd_leave 308 = .ok (.bipush 34, 2) := by decide +kernel
theorem kd_Jd_leave_310 : decode kc_Jd_leave 310 = .ok (.iload_n 1, 1) := by decide +kernel
theorem kd_Jd_leave_311 : decode kc_Jd_leave 311 = .ok (.invokevirtual 112, 3) := by decide +kernel
theorem kd_Jd_leave_314 : decode kc_Jd_leave 314 = .ok (.goto 161, 3) := by decide +kernel
theorem kd_Jd_leave_317 : decode kc_Jd_leave 317 = .ok (.aload_n 0, 1) := by decide +kernel
theorem kd_Jd_leave_318 : decode kc_Jd_leave 318 = .ok (.iload_n 1, 1) := by decide +kernel
theorem kd_Jd_leave_319 : decode kc_Jd_leave 319 = .ok (.invokevirtual 180, 3) := by decide +kernel
theorem kd_Jd_leave_322 : decode kc_Jd_leave 322 = .ok (.goto 153, 3) := by decide +kernel
theorem kd_Jd_leave_325 : decode kc_Jd_leave 325 = .ok (.aload_n 0, 1) := by decide +kernel
theorem kd_Jd_leave_326 : decode kc_Jd_leave 326 = .ok (.iload_n 1, 1) := by decide +kernel
theorem kd_Jd_leave_327 : decode kc_Jd_leave 327 = .ok (.invokevirtual 183, 3) := by decide +kernel
theorem kd_Jd_leave_330 : decode kc_Jd_leave 330 = .ok (.goto 145, 3) := by decide +kernel
theorem kd_Jd_leave_333 : decode kc_Jd_leave 333 = .ok (.aload_n 0, 1) := by decide +kernel
theorem kd_Jd_leave_334 : decode kc_Jd_leave 334 = .ok (.aload_n 0, 1) := by decide +kernel
theorem kd_Jd_leave_335 : decode kc_Jd_leave 335 = .ok (.getfield 33, 3) := by decide +kernel
theorem kd_Jd_leave_338 : decode kc_Jd_leave 338 = .ok (.ifCond .ne 7, 3) := by decide +kernel
theorem kd_Jd_leave_341 : decode kc_Jd_leave 341 = .ok (.iconst 1, 1) := by decide +kernel
theorem kd_Jd_leave_342 : decode kc_Jd_leave 342 = .ok (.goto 4, 3) := by decide +kernel
theorem kd_Jd_leave_345 : decode kc_Jd_leave 345 = .ok (.iconst 0, 1) := by decide +kernel
theorem kd_Jd_leave_346 : decode kc_Jd_leave 346 = .ok (.bipush 37, 2) := by decide +kernel
theorem kd_Jd_leave_348 : decode kc_Jd_leave 348 = .ok (.iload_n 1, 1) := by decide +kernel
theorem kd_Jd_leave_349 : decode kc_Jd_leave 349 = .ok (.invokevirtual 112, 3) := by decide +kernel
theorem kd_Jd_leave_352 : decode kc_Jd_leave 352 = .ok (.goto 123, 3) := by decide +kernel
theorem kd_Jd_leave_355 : decode kc_Jd_leave 355 = .ok (.aload_n 0, 1) := by decide +kernel
theorem kd_Jd_leave_356 : decode kc_Jd_leave 356 = .ok (.iload_n 1, 1) := by decide +kernel
theorem kd_Jd_leave_357 : decode kc_Jd_leave 357 = .ok (.invokevirtual 186, 3) := by decide +kernel
theorem kd_Jd_leave_360 : decode kc_Jd_leave 360 = .ok (.goto 115, 3) := by decide +kernel
theorem kd_Jd_leave_363 : decode kc_Jd_leave 363 = .ok (.aload_n 0, 1) := by decide +kernel
theorem kd_Jd_leave_364 : decode kc_Jd_leave 364 = .ok (.iload_n 1, 1) := by decide +kernel
theorem kd_Jd_leave_365 : decode kc_Jd_leave 365 = .ok (.invokevirtual 189, 3) := by decide +kernel
theorem kd_Jd_leave_368 : decode kc_Jd_leave 368 = .ok (.goto 107, 3) := by decide +kernel
theorem kd_Jd_leave_371 : decode kc_Jd_leave 371 = .ok (.aload_n 0, 1) := by decide +kernel
theorem kd_Jd_leave_372 : decode kc_Jd_leave 372 = .ok (.iload_n 1, 1) := by decide +kernel
theorem kd_Jd_leave_373 : decode kc_Jd_leave 373 = .ok (.invokevirtual 192, 3) := by decide +kernel
theorem kd_Jd_leave_376 : decode kc_Jd_leave 376 = .ok (.goto 99, 3) := by decide +kernel
theorem kd_Jd_leave_379 : decode kc_Jd_leave 379 = .ok (.aload_n 0, 1) := by decide +kernel
theorem kd_Jd_leave_380 : decode kc_Jd_leave 380 = .ok (.aload_n 0, 1) := by decide +kernel
theorem kd_Jd_leave_381 : decode kc_Jd_leave 381 = .ok (.getfield 9, 3) := by decide +kernel
theorem kd_Jd_leave_384 : decode kc_Jd_leave 384 = .ok (.getfield 55, 3) := by decide +kernel
theorem kd_Jd_leave_387 : decode kc_Jd_leave 387 = .ok (.aload_n 0, 1) := by decide +kernel
theorem kd_Jd_leave_388 : decode kc_Jd_leave 388 = .ok (.getfield 106, 3) := by decide +kernel
theorem kd_Jd_leave_391 : decode kc_Jd_leave 391 = .ok (.iaload, 1) := by decide +kernel
theorem kd_Jd_leave_392 : decode kc_Jd_leave 392 = .ok (.iconst (-1), 1) := by decide +kernel
theorem kd_Jd_leave_393 : decode kc_Jd_leave 393 = .ok (.if_icmp .ne 7, 3) := by decide +kernel
theorem kd_Jd_leave_396 : decode kc_Jd_leave 396 = .ok (.iconst 1, 1) := by decide +kernel
theorem kd_Jd_leave_397 : decode kc_Jd_leave 397 = .ok (.goto 4, 3) := by decide +kernel
theorem kd_Jd_leave_400 : decode kc_Jd_leave 400 = .ok (.iconst 0, 1) := by decide +kernel
theorem kd_Jd_leave_401 : decode kc_Jd_leave 401 = .ok (.bipush 40, 2) := by decide +kernel
theorem kd_Jd_leave_403 : decode kc_Jd_leave 403 = .ok (.iload_n 1, 1) := by decide +kernel
theorem kd_Jd_leave_404 : decode kc_Jd_leave 404 = .ok (.invokevirtual 112, 3) := by decide +kernel
theorem kd_Jd_leave_407 : decode kc_Jd_leave 407 = .ok (.goto 68, 3) := by decide +kernel
theorem kd_Jd_leave_410 : decode kc_Jd_leave 410 = .ok (.aload_n 0, 1) := by decide +kernel
theorem kd_Jd_leave_411 : decode kc_Jd_leave 411 = .ok (.getfield 9, 3) := by decide +kernel
theorem kd_Jd_leave_414 : decode kc_Jd_leave 414 = .ok (.getfield 178, 3) := by decide +kernel
theorem kd_Jd_leave_417 : decode kc_Jd_leave 417 = .ok (.iload_n 1, 1) := by decide +kernel
theorem kd_Jd_leave_418 : decode kc_Jd_leave 418 = .ok (.aload_n 0, 1) := by decide +kernel
theorem kd_Jd_leave_419 : decode kc_Jd_leave 419 = .ok (.getfield 9, 3) := by decide +kernel
theorem kd_Jd_leave_422 : decode kc_Jd_leave 422 = .ok (.getfield 78, 3) := by decide +kernel
theorem kd_Jd_leave_425 : decode kc_Jd_leave 425 = .ok (.iload_n 1, 1) := by decide +kernel
theorem kd_Jd_leave_426 : decode kc_Jd_leave 426 = .ok (.iaload, 1) := by decide +kernel
theorem kd_Jd_leave_427 : decode kc_Jd_leave 427 = .ok (.sipush 32767, 3) := by decide +kernel
theorem kd_Jd_leave_430 : decode kc_Jd_leave 430 = .ok (.if_icmp .le 7, 3) := by decide +kernel
theorem kd_Jd_leave_433 : decode kc_Jd_leave 433 = .ok (.iconst 2, 1) := by decide +kernel
theorem kd_Jd_leave_434 : decode kc_Jd_leave 434 = .ok (.goto 4, 3) := by decide +kernel
theorem kd_Jd_leave_437 : decode kc_Jd_leave 437 = .ok (.iconst 1, 1) := by decide +kernel
theorem kd_Jd_leave_438 : decode kc_Jd_leave 438 = .ok (.i2b, 1) := by decide +kernel
theorem kd_Jd_leave_439 : decode kc_Jd_leave 439 = .ok (.bastore, 1) := by decide +kernel
theorem kd_Jd_leave_440 : decode kc_Jd_leave 440 = .ok (.goto 35, 3) := by decide +kernel
theorem kd_Jd_leave_443 : decode kc_Jd_leave 443 = .ok (.aload_n 0, 1) := by decide +kernel
theorem kd_Jd_leave_444 : decode kc_Jd_leave 444 = .ok (.iload_n 1, 1) := by decide +kernel
theorem kd_Jd_leave_445 : decode kc_Jd_leave 445 = .ok (.invokevirtual 195, 3) := by decide +kernel
theorem kd_Jd_leave_448 : decode kc_Jd_leave 448 = .ok (.goto 27, 3) := by decide +kernel
theorem kd_Jd_leave_451 : decode kc_Jd_leave 451 = .ok (.aload_n 0, 1) := by decide +kernel
theorem kd_Jd_leave_452 : decode kc_Jd_leave 452 = .ok (.iload_n 1, 1) := by decide +kernel
theorem kd_Jd_leave_453 : decode kc_Jd_leave 453 = .ok (.invokevirtual 198, 3) := by decide +kernel
theorem kd_Jd_leave_456 : decode kc_Jd_leave 456 = .ok (.goto 19, 3) := by decide +kernel
theorem kd_Jd_leave_459 : decode kc_Jd_leave 459 = .ok (.aload_n 0, 1) := by decide +kernel
theorem kd_Jd_leave_460 : decode kc_Jd_leave 460 = .ok (.iload_n 1, 1) := by decide +kernel
theorem kd_Jd_leave_461 : decode kc_Jd_leave 461 = .ok (.invokevirtual 201, 3) := by decide +kernel
theorem kd_Jd_leave_464 : decode kc_Jd_leave 464 = .ok (.goto 11, 3) := by decide +kernel
theorem kd_Jd_leave_467 : decode kc_Jd_leave 467 = .ok (.aload_n 0, 1) := by decide +kernel
theorem kd_Jd_leave_468 : decode kc_Jd_leave 468 = .ok (.iload_n 1, 1) := by decide +kernel
theorem kd_Jd_leave_469 : decode kc_Jd_leave 469 = .ok (.invokevirtual 204, 3) := by decide +kernel
theorem kd_Jd_leave_472 : decode kc_Jd_leave 472 = .ok (.goto 3, 3) := by decide +kernel
theorem kd_Jd_leave_475 : decode kc_Jd_leave 475 = .ok (.return_, 1) := by decide +kernel
theorem kd_Jd_visit_0 : decode kc_Jd_visit 0 = .ok (.iload_n 2, 1) := by decide +kernel
theorem kd_Jd_visit_1 : decode kc_Jd_visit 1 = .ok (.sipush 240, 3) := by decide +kernel
theorem kd_Jd_visit_4 : decode kc_Jd_visit 4 = .ok (.if_icmp .le 4, 3) := by decide +kernel
theorem kd_Jd_visit_7 : decode kc_Jd_visit 7 = .ok (.return_, 1) := by decide +kernel
theorem kd_Jd_visit_8 : decode kc_Jd_visit 8 = .ok (.aload_n 0, 1) := by decide +kernel
theorem kd_Jd_visit_9 : decode kc_Jd_visit 9 = .ok (.iload_n 1, 1) := by decide +kernel
theorem kd_Jd_visit_10 : decode kc_Jd_visit 10 = .ok (.invokevirtual 45, 3) := by decide +kernel
theorem kd_Jd_visit_13 : decode kc_Jd_visit 13 = .ok (.aload_n 0, 1) := by decide +kernel
theorem kd_Jd_visit_14 : decode kc_Jd_visit 14 = .ok (.getfield 9, 3) := by decide +kernel
theorem kd_Jd_visit_17 : decode kc_Jd_visit 17 = .ok (.getfield 49, 3) := by decide +kernel
theorem kd_Jd_visit_20 : decode kc_Jd_visit 20 = .ok (.iload_n 1, 1) := by decide +kernel
theorem kd_Jd_visit_21 : decode kc_Jd_visit 21 = .ok (.iaload, 1) := by decide +kernel
theorem kd_Jd_visit_22 : decode kc_Jd_visit 22 = .ok (.istore_n 3, 1) := by decide +kernel
theorem kd_Jd_visit_23 : decode kc_Jd_visit 23 = .ok (.iconst 0, 1) := by decide +kernel
theorem kd_Jd_visit_24 : decode kc_Jd_visit 24 = .ok (.istore 4, 2) := by decide +kernel
theorem kd_Jd_visit_26 : decode kc_Jd_visit 26 = .ok (.iload 4, 2) := by decide +kernel
theorem kd_Jd_visit_28 : decode kc_Jd_visit 28 = .ok (.aload_n 0, 1) := by decide +kernel
theorem kd_Jd_visit_29 : decode kc_Jd_visit 29 = .ok (.getfield 9, 3) := by decide +kernel
theorem kd_Jd_visit_32 : decode kc_Jd_visit 32 = .ok (.getfield 52, 3) := by decide +kernel
theorem kd_Jd_visit_35 : decode kc_Jd_visit 35 = .ok (.if_icmp .ge 39, 3) := by decide +kernel
theorem kd_Jd_visit_38 : decode kc_Jd_visit 38 = .ok (.iload_n 3, 1) := by decide +kernel
theorem kd_Jd_visit_39 : decode kc_Jd_visit 39 = .ok (.iconst (-1), 1) := by decide +kernel
theorem kd_Jd_visit_40 : decode kc_Jd_visit 40 = .ok (.if_icmp .eq 34, 3) := by decide +kernel
theorem kd_Jd_visit_43 : decode kc_Jd_visit 43 = .ok (.aload_n 0, 1) := by decide +kernel
theorem kd_Jd_visit_44 : decode kc_Jd_visit 44 = .ok (.getfield 29, 3) := by decide +kernel
theorem kd_Jd_visit_47 : decode kc_Jd_visit 47 = .ok (.ifCond .ne 27, 3) := by decide +kernel
theorem kd_Jd_visit_50 : decode kc_Jd_visit 50 = .ok (.aload_n 0, 1) := by decide +kernel
theorem kd_Jd_visit_51 : decode kc_Jd_visit 51 = .ok (.iload_n 3, 1) := by decide +kernel
theorem kd_Jd_visit_52 : decode kc_Jd_visit 52 = .ok (.iload_n 2, 1) := by decide +kernel
theorem kd_Jd_visit_53 : decode kc_Jd_visit 53 = .ok (.iconst 1, 1) := by decide +kernel
theorem kd_Jd_visit_54 : decode kc_Jd_visit 54 = .ok (.iadd, 1) := by decide +kernel
theorem kd_Jd_visit_55 : decode kc_Jd_visit 55 = .ok (.invokevirtual 41, 3) := by decide +kernel
theorem kd_Jd_visit_58 : decode kc_Jd_visit 58 = .ok (.aload_n 0, 1) := by decide +kernel
theorem kd_Jd_visit_59 : decode kc_Jd_visit 59 = .ok (.getfield 9, 3) := by decide +kernel
theorem kd_Jd_visit_62 : decode kc_Jd_visit 62 = .ok (.getfield 55, 3) := by decide +kernel
theorem kd_Jd_visit_65 : decode kc_Jd_visit 65 = .ok (.iload_n 3, 1) := by decide +kernel
theorem kd_Jd_visit_66 : decode kc_Jd_visit 66 = .ok (.iaload, 1) := by decide +kernel
theorem kd_Jd_visit_67 : decode kc_Jd_visit 67 = .ok (.istore_n 3, 1) := by decide +kernel
theorem kd_Jd_visit_68 : decode kc_Jd_visit 68 = .ok (.iinc 4 1, 3) := by decide +kernel
theorem kd_Jd_visit_71 : decode kc_Jd_visit 71 = .ok (.goto (-45), 3) := by decide +kernel
theorem kd_Jd_visit_74 : decode kc_Jd_visit 74 = .ok (.aload_n 0, 1) := by decide +kernel
theorem kd_Jd_visit_75 : decode kc_Jd_visit 75 = .ok (.getfield 29, 3) := by decide +kernel
theorem kd_Jd_visit_78 : decode kc_Jd_visit 78 = .ok (.ifCond .ne 8, 3) := by decide +kernel
theorem kd_Jd_visit_81 : decode kc_Jd_visit 81 = .ok (.aload_n 0, 1) := by decide +kernel
theorem kd_Jd_visit_82 : decode kc_Jd_visit 82 = .ok (.iload_n 1, 1) := by decide +kernel
theorem kd_Jd_visit_83 : decode kc_Jd_visit 83 = .ok (.invokevirtual 58, 3) := by decide +kernel
theorem kd_Jd_visit_86 : decode kc_Jd_visit 86 = .ok (.return_, 1) := by decide +kernel
set_option maxHeartbeats 4000000 in
set_option maxRecDepth 100000 in
theorem zb_Jd_leave_438 {X : zkj_T} {S : zs_T} {P : ze_T} {l : Launch} {D : va_G} {sz0 : Nat} {rh : zs_H} (C : zk_C X km_Jd_leave (zs_G S l D sz0) { frames := 5, cells := 0, slots := 0, locals := 129 } (ze_E P)) (hR : zkj_R X (zd_PV S rh) (none)) (h : zs_H) (y0 : Int32) (y1 : Int32) (e : f_Jd_leave_438 h y0 y1 = some rh) : zk_Ab X (zs_W S h) 0 0 438 [] [.int y0, .int y1, .ref (S.1 14)] := by
  unfold f_Jd_leave_438 at e
  refine zk_i2b C kd_Jd_leave_438 rfl ?_
  obtain ⟨q1, e⟩ := zd_g e
  refine zs_bast C 14 rfl (zd_vp q1) kd_Jd_leave_439 rfl ?_
  refine zk_goto (tgt := 475) C kd_Jd_leave_440 (by decide) ?_
  exact zk_vret C hR kd_Jd_leave_475 rfl rfl (zd_rV e)
set_option maxHeartbeats 4000000 in
set_option maxRecDepth 100000 in
theorem zb_Jd_leave_401 {X : zkj_T} {S : zs_T} {P : ze_T} {l : Launch} {D : va_G} {sz0 : Nat} {rh : zs_H} (C : zk_C X km_Jd_leave (zs_G S l D sz0) { frames := 5, cells := 0, slots := 0, locals := 129 } (ze_E P)) (hR : zkj_R X (zd_PV S rh) (none)) (h : zs_H) (x1 : Int32) (y0 : Int32) (e : f_Jd_leave_401 h x1 y0 = some rh) : zk_Ab X (zs_W S h) 0 0 401 [(1, .int x1)] [.int y0, .ref (S.1 38)] := by
  unfold f_Jd_leave_401 at e
  refine zk_bipush (v := 40) C kd_Jd_leave_401 (by decide) rfl ?_
  refine zk_iload_n C kd_Jd_leave_403 rfl 0 rfl rfl ?_
  obtain ⟨h2, c1, e⟩ := zd_b e
  refine zs_callV (k := 38) (rn := { frames := 1, cells := 0, slots := 0, locals := 22 }) (As := [.int y0, .int 40, .int x1]) (rest := []) C (zc_Jd_refuseIf h y0 40 x1 c1) ku_Jd_refuseIf kw1036 kv_Jd_refuseIf rfl ⟨by decide, by decide⟩ ⟨by decide, by decide⟩ rfl rfl rfl (Nat.le_of_ble_eq_true rfl) kd_Jd_leave_404 rfl (c1 := 0) (s1 := 0) rfl rfl (fun v w hp => ?_)
  obtain ⟨rfl, rfl⟩ := hp
  refine zk_stk (r' := []) rfl ?_
  refine zk_goto (tgt := 475) C kd_Jd_leave_407 (by decide) ?_
  exact zk_vret C hR kd_Jd_leave_475 rfl rfl (zd_rV e)
set_option maxHeartbeats 4000000 in
set_option maxRecDepth 100000 in
theorem zb_Jd_leave_346 {X : zkj_T} {S : zs_T} {P : ze_T} {l : Launch} {D : va_G} {sz0 : Nat} {rh : zs_H} (C : zk_C X km_Jd_leave (zs_G S l D sz0) { frames := 5, cells := 0, slots := 0, locals := 129 } (ze_E P)) (hR : zkj_R X (zd_PV S rh) (none)) (h : zs_H) (x1 : Int32) (y0 : Int32) (e : f_Jd_leave_346 h x1 y0 = some rh) : zk_Ab X (zs_W S h) 0 0 346 [(1, .int x1)] [.int y0, .ref (S.1 38)] := by
  unfold f_Jd_leave_346 at e
  refine zk_bipush (v := 37) C kd_Jd_leave_346 (by decide) rfl ?_
  refine zk_iload_n C kd_Jd_leave_348 rfl 0 rfl rfl ?_
  obtain ⟨h2, c1, e⟩ := zd_b e
  refine zs_callV (k := 38) (rn := { frames := 1, cells := 0, slots := 0, locals := 22 }) (As := [.int y0, .int 37, .int x1]) (rest := []) C (zc_Jd_refuseIf h y0 37 x1 c1) ku_Jd_refuseIf kw1036 kv_Jd_refuseIf rfl ⟨by decide, by decide⟩ ⟨by decide, by decide⟩ rfl rfl rfl (Nat.le_of_ble_eq_true rfl) kd_Jd_leave_349 rfl (c1 := 0) (s1 := 0) rfl rfl (fun v w hp => ?_)
  obtain ⟨rfl, rfl⟩ := hp
  refine zk_stk (r' := []) rfl ?_
  refine zk_goto (tgt := 475) C kd_Jd_leave_352 (by decide) ?_
  exact zk_vret C hR kd_Jd_leave_475 rfl rfl (zd_rV e)
set_option maxHeartbeats 4000000 in
set_option maxRecDepth 100000 in
theorem zb_Jd_leave_308 {X : zkj_T} {S : zs_T} {P : ze_T} {l : Launch} {D : va_G} {sz0 : Nat} {rh : zs_H} (C : zk_C X km_Jd_leave (zs_G S l D sz0) { frames := 5, cells := 0, slots := 0, locals := 129 } (ze_E P)) (hR : zkj_R X (zd_PV S rh) (none)) (h : zs_H) (x1 : Int32) (y0 : Int32) (e : f_Jd_leave_308 h x1 y0 = some rh) : zk_Ab X (zs_W S h) 0 0 308 [(1, .int x1)] [.int y0, .ref (S.1 38)] := by
  unfold f_Jd_leave_308 at e
  refine zk_bipush (v := 34) C kd_Jd_leave_308 (by decide) rfl ?_
  refine zk_iload_n C kd_Jd_leave_310 rfl 0 rfl rfl ?_
  obtain ⟨h2, c1, e⟩ := zd_b e
  refine zs_callV (k := 38) (rn := { frames := 1, cells := 0, slots := 0, locals := 22 }) (As := [.int y0, .int 34, .int x1]) (rest := []) C (zc_Jd_refuseIf h y0 34 x1 c1) ku_Jd_refuseIf kw1036 kv_Jd_refuseIf rfl ⟨by decide, by decide⟩ ⟨by decide, by decide⟩ rfl rfl rfl (Nat.le_of_ble_eq_true rfl) kd_Jd_leave_311 rfl (c1 := 0) (s1 := 0) rfl rfl (fun v w hp => ?_)
  obtain ⟨rfl, rfl⟩ := hp
  refine zk_stk (r' := []) rfl ?_
  refine zk_goto (tgt := 475) C kd_Jd_leave_314 (by decide) ?_
  exact zk_vret C hR kd_Jd_leave_475 rfl rfl (zd_rV e)
set_option maxHeartbeats 4000000 in
set_option maxRecDepth 100000 in
theorem zc_Jd_leave {l : Launch} {D : va_G} {sz0 : Nat} {S : zs_T} {P : ze_T} (h : zs_H) (x1 : Int32) {rh : zs_H} (e : f_Jd_leave h x1 = some rh) : zk_Sp (zs_G S l D sz0) (ze_E P) km_Jd_leave { frames := 5, cells := 0, slots := 0, locals := 129 } [.ref (S.1 38), .int x1] (zs_W S h) (zd_PV S rh) := by
  refine zk_met ku_Jd_leave (Nat.le_of_ble_eq_true rfl) (ze_Em P) ?_
  intro X C hR
  refine zk_lvs (lv' := [(0, .ref (S.1 38)), (1, .int x1)]) [0, 1] rfl ?_
  unfold f_Jd_leave at e
  refine zk_aload_n C kd_Jd_leave_0 rfl 0 rfl rfl ?_
  refine zs_get (v := .ref (S.1 12)) C 38 1 rfl rfl rfl rfl ki_Jd (by decide) kw352 kd_Jd_leave_1 rfl ?_
  refine zs_get (v := .ref (S.1 17)) C 12 4 rfl rfl rfl rfl ki_Tr (by decide) kw170 kd_Jd_leave_4 rfl ?_
  refine zk_iload_n C kd_Jd_leave_7 rfl 1 rfl rfl ?_
  obtain ⟨q1, e⟩ := zd_g e
  refine zs_iald C 17 rfl (zd_vp q1) kd_Jd_leave_8 rfl ?_
  refine zk_istore_n (lv' := [(2, _), (0, _), (1, _)]) C kd_Jd_leave_9 rfl (by decide) rfl rfl ?_
  refine zk_aload_n C kd_Jd_leave_10 rfl 1 rfl rfl ?_
  refine zs_get (v := .ref (S.1 12)) C 38 1 rfl rfl rfl rfl ki_Jd (by decide) kw352 kd_Jd_leave_11 rfl ?_
  refine zs_get (v := .ref (S.1 13)) C 12 0 rfl rfl rfl rfl ki_Tr (by decide) kw157 kd_Jd_leave_14 rfl ?_
  refine zk_iload_n C kd_Jd_leave_17 rfl 2 rfl rfl ?_
  refine zs_bald C 13 rfl (zd_vp q1) kd_Jd_leave_18 rfl ?_
  by_cases b2 : (h.2.1 13 x1.toNatClampNeg) = 0
  · replace e := zd_pos b2 e
    refine zk_tableIn (tgt := 184) C kd_Jd_leave_19 (by rw [b2]; decide) (by rw [b2]; decide) (by rw [b2]; rfl) (by decide) ?_
    refine zk_aload_n C kd_Jd_leave_184 rfl 1 rfl rfl ?_
    refine zk_iload_n C kd_Jd_leave_185 rfl 2 rfl rfl ?_
    obtain ⟨h4, c3, e⟩ := zd_b e
    refine zs_callV (k := 38) (rn := { frames := 2, cells := 0, slots := 0, locals := 45 }) (As := [.int x1]) (rest := []) C (zc_Jd_leaveText h x1 c3) ku_Jd_leaveText kw1057 kv_Jd_leaveText rfl ⟨by decide, by decide⟩ ⟨by decide, by decide⟩ rfl rfl rfl (Nat.le_of_ble_eq_true rfl) kd_Jd_leave_186 rfl (c1 := 0) (s1 := 0) rfl rfl (fun v w hp => ?_)
    obtain ⟨rfl, rfl⟩ := hp
    refine zk_stk (r' := []) rfl ?_
    refine zk_goto (tgt := 475) C kd_Jd_leave_189 (by decide) ?_
    exact zk_vret C hR kd_Jd_leave_475 rfl rfl (zd_rV e)
  replace e := zd_neg b2 e
  by_cases b5 : (h.2.1 13 x1.toNatClampNeg) = 1
  · replace e := zd_pos b5 e
    refine zk_tableIn (tgt := 192) C kd_Jd_leave_19 (by rw [b5]; decide) (by rw [b5]; decide) (by rw [b5]; rfl) (by decide) ?_
    refine zk_aload_n C kd_Jd_leave_192 rfl 1 rfl rfl ?_
    refine zk_iload_n C kd_Jd_leave_193 rfl 2 rfl rfl ?_
    obtain ⟨h7, c6, e⟩ := zd_b e
    refine zs_callV (k := 38) (rn := { frames := 2, cells := 0, slots := 0, locals := 45 }) (As := [.int x1]) (rest := []) C (zc_Jd_leaveBlock h x1 c6) ku_Jd_leaveBlock kw1065 kv_Jd_leaveBlock rfl ⟨by decide, by decide⟩ ⟨by decide, by decide⟩ rfl rfl rfl (Nat.le_of_ble_eq_true rfl) kd_Jd_leave_194 rfl (c1 := 0) (s1 := 0) rfl rfl (fun v w hp => ?_)
    obtain ⟨rfl, rfl⟩ := hp
    refine zk_stk (r' := []) rfl ?_
    refine zk_goto (tgt := 475) C kd_Jd_leave_197 (by decide) ?_
    exact zk_vret C hR kd_Jd_leave_475 rfl rfl (zd_rV e)
  replace e := zd_neg b5 e
  by_cases b8 : (h.2.1 13 x1.toNatClampNeg) = 2
  · replace e := zd_pos b8 e
    refine zk_tableIn (tgt := 192) C kd_Jd_leave_19 (by rw [b8]; decide) (by rw [b8]; decide) (by rw [b8]; rfl) (by decide) ?_
    refine zk_aload_n C kd_Jd_leave_192 rfl 1 rfl rfl ?_
    refine zk_iload_n C kd_Jd_leave_193 rfl 2 rfl rfl ?_
    obtain ⟨h10, c9, e⟩ := zd_b e
    refine zs_callV (k := 38) (rn := { frames := 2, cells := 0, slots := 0, locals := 45 }) (As := [.int x1]) (rest := []) C (zc_Jd_leaveBlock h x1 c9) ku_Jd_leaveBlock kw1065 kv_Jd_leaveBlock rfl ⟨by decide, by decide⟩ ⟨by decide, by decide⟩ rfl rfl rfl (Nat.le_of_ble_eq_true rfl) kd_Jd_leave_194 rfl (c1 := 0) (s1 := 0) rfl rfl (fun v w hp => ?_)
    obtain ⟨rfl, rfl⟩ := hp
    refine zk_stk (r' := []) rfl ?_
    refine zk_goto (tgt := 475) C kd_Jd_leave_197 (by decide) ?_
    exact zk_vret C hR kd_Jd_leave_475 rfl rfl (zd_rV e)
  replace e := zd_neg b8 e
  by_cases b11 : (h.2.1 13 x1.toNatClampNeg) = 3
  · replace e := zd_pos b11 e
    refine zk_tableIn (tgt := 192) C kd_Jd_leave_19 (by rw [b11]; decide) (by rw [b11]; decide) (by rw [b11]; rfl) (by decide) ?_
    refine zk_aload_n C kd_Jd_leave_192 rfl 1 rfl rfl ?_
    refine zk_iload_n C kd_Jd_leave_193 rfl 2 rfl rfl ?_
    obtain ⟨h13, c12, e⟩ := zd_b e
    refine zs_callV (k := 38) (rn := { frames := 2, cells := 0, slots := 0, locals := 45 }) (As := [.int x1]) (rest := []) C (zc_Jd_leaveBlock h x1 c12) ku_Jd_leaveBlock kw1065 kv_Jd_leaveBlock rfl ⟨by decide, by decide⟩ ⟨by decide, by decide⟩ rfl rfl rfl (Nat.le_of_ble_eq_true rfl) kd_Jd_leave_194 rfl (c1 := 0) (s1 := 0) rfl rfl (fun v w hp => ?_)
    obtain ⟨rfl, rfl⟩ := hp
    refine zk_stk (r' := []) rfl ?_
    refine zk_goto (tgt := 475) C kd_Jd_leave_197 (by decide) ?_
    exact zk_vret C hR kd_Jd_leave_475 rfl rfl (zd_rV e)
  replace e := zd_neg b11 e
  by_cases b14 : (h.2.1 13 x1.toNatClampNeg) = 4
  · replace e := zd_pos b14 e
    refine zk_tableIn (tgt := 200) C kd_Jd_leave_19 (by rw [b14]; decide) (by rw [b14]; decide) (by rw [b14]; rfl) (by decide) ?_
    refine zk_aload_n C kd_Jd_leave_200 rfl 1 rfl rfl ?_
    refine zk_iload_n C kd_Jd_leave_201 rfl 2 rfl rfl ?_
    obtain ⟨h16, c15, e⟩ := zd_b e
    refine zs_callV (k := 38) (rn := { frames := 2, cells := 0, slots := 0, locals := 45 }) (As := [.int x1]) (rest := []) C (zc_Jd_judgeSection h x1 c15) ku_Jd_judgeSection kw1073 kv_Jd_judgeSection rfl ⟨by decide, by decide⟩ ⟨by decide, by decide⟩ rfl rfl rfl (Nat.le_of_ble_eq_true rfl) kd_Jd_leave_202 rfl (c1 := 0) (s1 := 0) rfl rfl (fun v w hp => ?_)
    obtain ⟨rfl, rfl⟩ := hp
    refine zk_stk (r' := []) rfl ?_
    refine zk_goto (tgt := 475) C kd_Jd_leave_205 (by decide) ?_
    exact zk_vret C hR kd_Jd_leave_475 rfl rfl (zd_rV e)
  replace e := zd_neg b14 e
  by_cases b17 : (h.2.1 13 x1.toNatClampNeg) = 5
  · replace e := zd_pos b17 e
    refine zk_tableIn (tgt := 208) C kd_Jd_leave_19 (by rw [b17]; decide) (by rw [b17]; decide) (by rw [b17]; rfl) (by decide) ?_
    refine zk_aload_n C kd_Jd_leave_208 rfl 1 rfl rfl ?_
    refine zk_iload_n C kd_Jd_leave_209 rfl 2 rfl rfl ?_
    obtain ⟨h19, c18, e⟩ := zd_b e
    refine zs_callV (k := 38) (rn := { frames := 2, cells := 0, slots := 0, locals := 51 }) (As := [.int x1]) (rest := []) C (zc_Jd_judgeDeclaration h x1 c18) ku_Jd_judgeDeclaration kw1077 kv_Jd_judgeDeclaration rfl ⟨by decide, by decide⟩ ⟨by decide, by decide⟩ rfl rfl rfl (Nat.le_of_ble_eq_true rfl) kd_Jd_leave_210 rfl (c1 := 0) (s1 := 0) rfl rfl (fun v w hp => ?_)
    obtain ⟨rfl, rfl⟩ := hp
    refine zk_stk (r' := []) rfl ?_
    refine zk_goto (tgt := 475) C kd_Jd_leave_213 (by decide) ?_
    exact zk_vret C hR kd_Jd_leave_475 rfl rfl (zd_rV e)
  replace e := zd_neg b17 e
  by_cases b20 : (h.2.1 13 x1.toNatClampNeg) = 6
  · replace e := zd_pos b20 e
    refine zk_tableIn (tgt := 443) C kd_Jd_leave_19 (by rw [b20]; decide) (by rw [b20]; decide) (by rw [b20]; rfl) (by decide) ?_
    refine zk_aload_n C kd_Jd_leave_443 rfl 1 rfl rfl ?_
    refine zk_iload_n C kd_Jd_leave_444 rfl 2 rfl rfl ?_
    obtain ⟨h22, c21, e⟩ := zd_b e
    refine zs_callV (k := 38) (rn := { frames := 3, cells := 0, slots := 0, locals := 69 }) (As := [.int x1]) (rest := []) C (zc_Jd_judgeVariable h x1 c21) ku_Jd_judgeVariable kw1191 kv_Jd_judgeVariable rfl ⟨by decide, by decide⟩ ⟨by decide, by decide⟩ rfl rfl rfl (Nat.le_of_ble_eq_true rfl) kd_Jd_leave_445 rfl (c1 := 0) (s1 := 0) rfl rfl (fun v w hp => ?_)
    obtain ⟨rfl, rfl⟩ := hp
    refine zk_stk (r' := []) rfl ?_
    refine zk_goto (tgt := 475) C kd_Jd_leave_448 (by decide) ?_
    exact zk_vret C hR kd_Jd_leave_475 rfl rfl (zd_rV e)
  replace e := zd_neg b20 e
  by_cases b23 : (h.2.1 13 x1.toNatClampNeg) = 7
  · replace e := zd_pos b23 e
    refine zk_tableIn (tgt := 224) C kd_Jd_leave_19 (by rw [b23]; decide) (by rw [b23]; decide) (by rw [b23]; rfl) (by decide) ?_
    refine zk_aload_n C kd_Jd_leave_224 rfl 1 rfl rfl ?_
    refine zk_iload_n C kd_Jd_leave_225 rfl 2 rfl rfl ?_
    obtain ⟨h25, c24, e⟩ := zd_b e
    refine zs_callV (k := 38) (rn := { frames := 2, cells := 0, slots := 0, locals := 45 }) (As := [.int x1]) (rest := []) C (zc_Jd_judgePlace h x1 c24) ku_Jd_judgePlace kw1106 kv_Jd_judgePlace rfl ⟨by decide, by decide⟩ ⟨by decide, by decide⟩ rfl rfl rfl (Nat.le_of_ble_eq_true rfl) kd_Jd_leave_226 rfl (c1 := 0) (s1 := 0) rfl rfl (fun v w hp => ?_)
    obtain ⟨rfl, rfl⟩ := hp
    refine zk_stk (r' := []) rfl ?_
    refine zk_goto (tgt := 475) C kd_Jd_leave_229 (by decide) ?_
    exact zk_vret C hR kd_Jd_leave_475 rfl rfl (zd_rV e)
  replace e := zd_neg b23 e
  by_cases b26 : (h.2.1 13 x1.toNatClampNeg) = 9
  · replace e := zd_pos b26 e
    refine zk_tableIn (tgt := 232) C kd_Jd_leave_19 (by rw [b26]; decide) (by rw [b26]; decide) (by rw [b26]; rfl) (by decide) ?_
    refine zk_aload_n C kd_Jd_leave_232 rfl 1 rfl rfl ?_
    refine zk_iload_n C kd_Jd_leave_233 rfl 2 rfl rfl ?_
    obtain ⟨h28, c27, e⟩ := zd_b e
    refine zs_callV (k := 38) (rn := { frames := 2, cells := 0, slots := 0, locals := 45 }) (As := [.int x1]) (rest := []) C (zc_Jd_judgeArray h x1 c27) ku_Jd_judgeArray kw1110 kv_Jd_judgeArray rfl ⟨by decide, by decide⟩ ⟨by decide, by decide⟩ rfl rfl rfl (Nat.le_of_ble_eq_true rfl) kd_Jd_leave_234 rfl (c1 := 0) (s1 := 0) rfl rfl (fun v w hp => ?_)
    obtain ⟨rfl, rfl⟩ := hp
    refine zk_stk (r' := []) rfl ?_
    refine zk_goto (tgt := 475) C kd_Jd_leave_237 (by decide) ?_
    exact zk_vret C hR kd_Jd_leave_475 rfl rfl (zd_rV e)
  replace e := zd_neg b26 e
  by_cases b29 : (h.2.1 13 x1.toNatClampNeg) = 10
  · replace e := zd_pos b29 e
    refine zk_tableIn (tgt := 240) C kd_Jd_leave_19 (by rw [b29]; decide) (by rw [b29]; decide) (by rw [b29]; rfl) (by decide) ?_
    refine zk_aload_n C kd_Jd_leave_240 rfl 1 rfl rfl ?_
    refine zk_iload_n C kd_Jd_leave_241 rfl 2 rfl rfl ?_
    obtain ⟨h31, c30, e⟩ := zd_b e
    refine zs_callV (k := 38) (rn := { frames := 2, cells := 0, slots := 0, locals := 45 }) (As := [.int x1]) (rest := []) C (zc_Jd_judgeBlockType h x1 c30) ku_Jd_judgeBlockType kw1115 kv_Jd_judgeBlockType rfl ⟨by decide, by decide⟩ ⟨by decide, by decide⟩ rfl rfl rfl (Nat.le_of_ble_eq_true rfl) kd_Jd_leave_242 rfl (c1 := 0) (s1 := 0) rfl rfl (fun v w hp => ?_)
    obtain ⟨rfl, rfl⟩ := hp
    refine zk_stk (r' := []) rfl ?_
    refine zk_goto (tgt := 475) C kd_Jd_leave_245 (by decide) ?_
    exact zk_vret C hR kd_Jd_leave_475 rfl rfl (zd_rV e)
  replace e := zd_neg b29 e
  by_cases b32 : (h.2.1 13 x1.toNatClampNeg) = 12
  · replace e := zd_pos b32 e
    refine zk_tableIn (tgt := 248) C kd_Jd_leave_19 (by rw [b32]; decide) (by rw [b32]; decide) (by rw [b32]; rfl) (by decide) ?_
    refine zk_aload_n C kd_Jd_leave_248 rfl 1 rfl rfl ?_
    refine zk_iload_n C kd_Jd_leave_249 rfl 2 rfl rfl ?_
    obtain ⟨h34, c33, e⟩ := zd_b e
    refine zs_callV (k := 38) (rn := { frames := 3, cells := 0, slots := 0, locals := 72 }) (As := [.int x1]) (rest := []) C (zc_Jd_judgeAssignment h x1 c33) ku_Jd_judgeAssignment kw1119 kv_Jd_judgeAssignment rfl ⟨by decide, by decide⟩ ⟨by decide, by decide⟩ rfl rfl rfl (Nat.le_of_ble_eq_true rfl) kd_Jd_leave_250 rfl (c1 := 0) (s1 := 0) rfl rfl (fun v w hp => ?_)
    obtain ⟨rfl, rfl⟩ := hp
    refine zk_stk (r' := []) rfl ?_
    refine zk_goto (tgt := 475) C kd_Jd_leave_253 (by decide) ?_
    exact zk_vret C hR kd_Jd_leave_475 rfl rfl (zd_rV e)
  replace e := zd_neg b32 e
  by_cases b35 : (h.2.1 13 x1.toNatClampNeg) = 13
  · replace e := zd_pos b35 e
    refine zk_tableIn (tgt := 264) C kd_Jd_leave_19 (by rw [b35]; decide) (by rw [b35]; decide) (by rw [b35]; rfl) (by decide) ?_
    refine zk_aload_n C kd_Jd_leave_264 rfl 1 rfl rfl ?_
    refine zs_get (v := .ref (S.1 12)) C 38 1 rfl rfl rfl rfl ki_Jd (by decide) kw352 kd_Jd_leave_265 rfl ?_
    refine zs_get (v := .ref (S.1 16)) C 12 3 rfl rfl rfl rfl ki_Tr (by decide) kw168 kd_Jd_leave_268 rfl ?_
    refine zk_iload_n C kd_Jd_leave_271 rfl 2 rfl rfl ?_
    refine zk_aload_n C kd_Jd_leave_272 rfl 1 rfl rfl ?_
    refine zk_iload_n C kd_Jd_leave_273 rfl 2 rfl rfl ?_
    refine zk_iconst (v := 0) C kd_Jd_leave_274 (by decide) rfl ?_
    obtain ⟨v37, h38, c36, e⟩ := zd_Be e
    refine zs_callV (k := 38) (rn := { frames := 2, cells := 0, slots := 0, locals := 45 }) (As := [.int x1, .int 0]) (rest := [.int x1, .ref (S.1 16)]) C (zc_Jd_variableAt h x1 0 c36) ku_Jd_variableAt kw1142 kv_Jd_variableAt rfl ⟨by decide, by decide⟩ ⟨by decide, by decide⟩ rfl rfl rfl (Nat.le_of_ble_eq_true rfl) kd_Jd_leave_275 rfl (c1 := 0) (s1 := 0) rfl rfl (fun v w hp => ?_)
    obtain ⟨rfl, rfl⟩ := hp
    refine zk_stk (r' := [.int v37, .int x1, .ref (S.1 16)]) rfl ?_
    obtain ⟨q39, e⟩ := zd_g e
    refine zs_iast C 16 rfl (zd_vp q39) kd_Jd_leave_278 rfl ?_
    refine zk_goto (tgt := 475) C kd_Jd_leave_279 (by decide) ?_
    exact zk_vret C hR kd_Jd_leave_475 rfl rfl (zd_rV e)
  replace e := zd_neg b35 e
  by_cases b40 : (h.2.1 13 x1.toNatClampNeg) = 14
  · replace e := zd_pos b40 e
    refine zk_tableIn (tgt := 256) C kd_Jd_leave_19 (by rw [b40]; decide) (by rw [b40]; decide) (by rw [b40]; rfl) (by decide) ?_
    refine zk_aload_n C kd_Jd_leave_256 rfl 1 rfl rfl ?_
    refine zk_iload_n C kd_Jd_leave_257 rfl 2 rfl rfl ?_
    obtain ⟨h42, c41, e⟩ := zd_b e
    refine zs_callV (k := 38) (rn := { frames := 2, cells := 0, slots := 0, locals := 45 }) (As := [.int x1]) (rest := []) C (zc_Jd_judgeParameter h x1 c41) ku_Jd_judgeParameter kw1130 kv_Jd_judgeParameter rfl ⟨by decide, by decide⟩ ⟨by decide, by decide⟩ rfl rfl rfl (Nat.le_of_ble_eq_true rfl) kd_Jd_leave_258 rfl (c1 := 0) (s1 := 0) rfl rfl (fun v w hp => ?_)
    obtain ⟨rfl, rfl⟩ := hp
    refine zk_stk (r' := []) rfl ?_
    refine zk_goto (tgt := 475) C kd_Jd_leave_261 (by decide) ?_
    exact zk_vret C hR kd_Jd_leave_475 rfl rfl (zd_rV e)
  replace e := zd_neg b40 e
  by_cases b43 : (h.2.1 13 x1.toNatClampNeg) = 15
  · replace e := zd_pos b43 e
    refine zk_tableIn (tgt := 282) C kd_Jd_leave_19 (by rw [b43]; decide) (by rw [b43]; decide) (by rw [b43]; rfl) (by decide) ?_
    refine zk_aload_n C kd_Jd_leave_282 rfl 1 rfl rfl ?_
    refine zk_iload_n C kd_Jd_leave_283 rfl 2 rfl rfl ?_
    obtain ⟨h45, c44, e⟩ := zd_b e
    refine zs_callV (k := 38) (rn := { frames := 2, cells := 0, slots := 0, locals := 45 }) (As := [.int x1]) (rest := []) C (zc_Jd_judgeIf h x1 c44) ku_Jd_judgeIf kw1146 kv_Jd_judgeIf rfl ⟨by decide, by decide⟩ ⟨by decide, by decide⟩ rfl rfl rfl (Nat.le_of_ble_eq_true rfl) kd_Jd_leave_284 rfl (c1 := 0) (s1 := 0) rfl rfl (fun v w hp => ?_)
    obtain ⟨rfl, rfl⟩ := hp
    refine zk_stk (r' := []) rfl ?_
    refine zk_goto (tgt := 475) C kd_Jd_leave_287 (by decide) ?_
    exact zk_vret C hR kd_Jd_leave_475 rfl rfl (zd_rV e)
  replace e := zd_neg b43 e
  by_cases b46 : (h.2.1 13 x1.toNatClampNeg) = 16
  · replace e := zd_pos b46 e
    refine zk_tableIn (tgt := 290) C kd_Jd_leave_19 (by rw [b46]; decide) (by rw [b46]; decide) (by rw [b46]; rfl) (by decide) ?_
    refine zk_aload_n C kd_Jd_leave_290 rfl 1 rfl rfl ?_
    refine zk_aload_n C kd_Jd_leave_291 rfl 1 rfl rfl ?_
    refine zs_get (v := .ref (S.1 12)) C 38 1 rfl rfl rfl rfl ki_Jd (by decide) kw352 kd_Jd_leave_292 rfl ?_
    refine zs_get (v := .ref (S.1 14)) C 12 1 rfl rfl rfl rfl ki_Tr (by decide) kw160 kd_Jd_leave_295 rfl ?_
    refine zk_iload_n C kd_Jd_leave_298 rfl 0 rfl rfl ?_
    obtain ⟨q47, e⟩ := zd_g e
    refine zs_bald C 14 rfl (zd_vp q47) kd_Jd_leave_299 rfl ?_
    refine zk_if_ne (tgt := 307) C kd_Jd_leave_300 (by decide) rfl (fun b48 => ?_) (fun b48 => ?_)
    · replace e := zd_neg b48 e
      refine zk_iconst (v := 0) C kd_Jd_leave_307 (by decide) rfl ?_
      refine zk_lvs (lv' := [(1, .int x1)]) [2] rfl ?_
      exact zb_Jd_leave_308 C hR h x1 0 e
    · replace e := zd_pos b48 e
      refine zk_iconst (v := 1) C kd_Jd_leave_303 (by decide) rfl ?_
      refine zk_goto (tgt := 308) C kd_Jd_leave_304 (by decide) ?_
      refine zk_lvs (lv' := [(1, .int x1)]) [2] rfl ?_
      exact zb_Jd_leave_308 C hR h x1 1 e
  replace e := zd_neg b46 e
  by_cases b49 : (h.2.1 13 x1.toNatClampNeg) = 18
  · replace e := zd_pos b49 e
    refine zk_tableIn (tgt := 317) C kd_Jd_leave_19 (by rw [b49]; decide) (by rw [b49]; decide) (by rw [b49]; rfl) (by decide) ?_
    refine zk_aload_n C kd_Jd_leave_317 rfl 1 rfl rfl ?_
    refine zk_iload_n C kd_Jd_leave_318 rfl 2 rfl rfl ?_
    obtain ⟨h51, c50, e⟩ := zd_b e
    refine zs_callV (k := 38) (rn := { frames := 2, cells := 0, slots := 0, locals := 45 }) (As := [.int x1]) (rest := []) C (zc_Jd_judgeRange h x1 c50) ku_Jd_judgeRange kw1150 kv_Jd_judgeRange rfl ⟨by decide, by decide⟩ ⟨by decide, by decide⟩ rfl rfl rfl (Nat.le_of_ble_eq_true rfl) kd_Jd_leave_319 rfl (c1 := 0) (s1 := 0) rfl rfl (fun v w hp => ?_)
    obtain ⟨rfl, rfl⟩ := hp
    refine zk_stk (r' := []) rfl ?_
    refine zk_goto (tgt := 475) C kd_Jd_leave_322 (by decide) ?_
    exact zk_vret C hR kd_Jd_leave_475 rfl rfl (zd_rV e)
  replace e := zd_neg b49 e
  by_cases b52 : (h.2.1 13 x1.toNatClampNeg) = 19
  · replace e := zd_pos b52 e
    refine zk_tableIn (tgt := 325) C kd_Jd_leave_19 (by rw [b52]; decide) (by rw [b52]; decide) (by rw [b52]; rfl) (by decide) ?_
    refine zk_aload_n C kd_Jd_leave_325 rfl 1 rfl rfl ?_
    refine zk_iload_n C kd_Jd_leave_326 rfl 2 rfl rfl ?_
    obtain ⟨h54, c53, e⟩ := zd_b e
    refine zs_callV (k := 38) (rn := { frames := 3, cells := 0, slots := 0, locals := 72 }) (As := [.int x1]) (rest := []) C (zc_Jd_judgeFor h x1 c53) ku_Jd_judgeFor kw1154 kv_Jd_judgeFor rfl ⟨by decide, by decide⟩ ⟨by decide, by decide⟩ rfl rfl rfl (Nat.le_of_ble_eq_true rfl) kd_Jd_leave_327 rfl (c1 := 0) (s1 := 0) rfl rfl (fun v w hp => ?_)
    obtain ⟨rfl, rfl⟩ := hp
    refine zk_stk (r' := []) rfl ?_
    refine zk_goto (tgt := 475) C kd_Jd_leave_330 (by decide) ?_
    exact zk_vret C hR kd_Jd_leave_475 rfl rfl (zd_rV e)
  replace e := zd_neg b52 e
  by_cases b55 : (h.2.1 13 x1.toNatClampNeg) = 20
  · replace e := zd_pos b55 e
    refine zk_tableIn (tgt := 333) C kd_Jd_leave_19 (by rw [b55]; decide) (by rw [b55]; decide) (by rw [b55]; rfl) (by decide) ?_
    refine zk_aload_n C kd_Jd_leave_333 rfl 1 rfl rfl ?_
    refine zk_aload_n C kd_Jd_leave_334 rfl 1 rfl rfl ?_
    refine zs_get (v := .int (h.1 38 12)) C 38 12 rfl rfl rfl rfl ki_Jd (by decide) kw363 kd_Jd_leave_335 rfl ?_
    refine zk_if_ne (tgt := 345) C kd_Jd_leave_338 (by decide) rfl (fun b56 => ?_) (fun b56 => ?_)
    · replace e := zd_neg b56 e
      refine zk_iconst (v := 0) C kd_Jd_leave_345 (by decide) rfl ?_
      refine zk_lvs (lv' := [(1, .int x1)]) [2] rfl ?_
      exact zb_Jd_leave_346 C hR h x1 0 e
    · replace e := zd_pos b56 e
      refine zk_iconst (v := 1) C kd_Jd_leave_341 (by decide) rfl ?_
      refine zk_goto (tgt := 346) C kd_Jd_leave_342 (by decide) ?_
      refine zk_lvs (lv' := [(1, .int x1)]) [2] rfl ?_
      exact zb_Jd_leave_346 C hR h x1 1 e
  replace e := zd_neg b55 e
  by_cases b57 : (h.2.1 13 x1.toNatClampNeg) = 23
  · replace e := zd_pos b57 e
    refine zk_tableIn (tgt := 355) C kd_Jd_leave_19 (by rw [b57]; decide) (by rw [b57]; decide) (by rw [b57]; rfl) (by decide) ?_
    refine zk_aload_n C kd_Jd_leave_355 rfl 1 rfl rfl ?_
    refine zk_iload_n C kd_Jd_leave_356 rfl 2 rfl rfl ?_
    obtain ⟨h59, c58, e⟩ := zd_b e
    refine zs_callV (k := 38) (rn := { frames := 2, cells := 0, slots := 0, locals := 45 }) (As := [.int x1]) (rest := []) C (zc_Jd_judgeRung h x1 c58) ku_Jd_judgeRung kw1175 kv_Jd_judgeRung rfl ⟨by decide, by decide⟩ ⟨by decide, by decide⟩ rfl rfl rfl (Nat.le_of_ble_eq_true rfl) kd_Jd_leave_357 rfl (c1 := 0) (s1 := 0) rfl rfl (fun v w hp => ?_)
    obtain ⟨rfl, rfl⟩ := hp
    refine zk_stk (r' := []) rfl ?_
    refine zk_goto (tgt := 475) C kd_Jd_leave_360 (by decide) ?_
    exact zk_vret C hR kd_Jd_leave_475 rfl rfl (zd_rV e)
  replace e := zd_neg b57 e
  by_cases b60 : (h.2.1 13 x1.toNatClampNeg) = 25
  · replace e := zd_pos b60 e
    refine zk_tableIn (tgt := 363) C kd_Jd_leave_19 (by rw [b60]; decide) (by rw [b60]; decide) (by rw [b60]; rfl) (by decide) ?_
    refine zk_aload_n C kd_Jd_leave_363 rfl 1 rfl rfl ?_
    refine zk_iload_n C kd_Jd_leave_364 rfl 2 rfl rfl ?_
    obtain ⟨h62, c61, e⟩ := zd_b e
    refine zs_callV (k := 38) (rn := { frames := 2, cells := 0, slots := 0, locals := 45 }) (As := [.int x1]) (rest := []) C (zc_Jd_judgeContact h x1 c61) ku_Jd_judgeContact kw1183 kv_Jd_judgeContact rfl ⟨by decide, by decide⟩ ⟨by decide, by decide⟩ rfl rfl rfl (Nat.le_of_ble_eq_true rfl) kd_Jd_leave_365 rfl (c1 := 0) (s1 := 0) rfl rfl (fun v w hp => ?_)
    obtain ⟨rfl, rfl⟩ := hp
    refine zk_stk (r' := []) rfl ?_
    refine zk_goto (tgt := 475) C kd_Jd_leave_368 (by decide) ?_
    exact zk_vret C hR kd_Jd_leave_475 rfl rfl (zd_rV e)
  replace e := zd_neg b60 e
  by_cases b63 : (h.2.1 13 x1.toNatClampNeg) = 28
  · replace e := zd_pos b63 e
    refine zk_tableIn (tgt := 371) C kd_Jd_leave_19 (by rw [b63]; decide) (by rw [b63]; decide) (by rw [b63]; rfl) (by decide) ?_
    refine zk_aload_n C kd_Jd_leave_371 rfl 1 rfl rfl ?_
    refine zk_iload_n C kd_Jd_leave_372 rfl 2 rfl rfl ?_
    obtain ⟨h65, c64, e⟩ := zd_b e
    refine zs_callV (k := 38) (rn := { frames := 3, cells := 0, slots := 0, locals := 72 }) (As := [.int x1]) (rest := []) C (zc_Jd_judgeCoil h x1 c64) ku_Jd_judgeCoil kw1187 kv_Jd_judgeCoil rfl ⟨by decide, by decide⟩ ⟨by decide, by decide⟩ rfl rfl rfl (Nat.le_of_ble_eq_true rfl) kd_Jd_leave_373 rfl (c1 := 0) (s1 := 0) rfl rfl (fun v w hp => ?_)
    obtain ⟨rfl, rfl⟩ := hp
    refine zk_stk (r' := []) rfl ?_
    refine zk_goto (tgt := 475) C kd_Jd_leave_376 (by decide) ?_
    exact zk_vret C hR kd_Jd_leave_475 rfl rfl (zd_rV e)
  replace e := zd_neg b63 e
  by_cases b66 : (h.2.1 13 x1.toNatClampNeg) = 29
  · replace e := zd_pos b66 e
    refine zk_tableIn (tgt := 379) C kd_Jd_leave_19 (by rw [b66]; decide) (by rw [b66]; decide) (by rw [b66]; rfl) (by decide) ?_
    refine zk_aload_n C kd_Jd_leave_379 rfl 1 rfl rfl ?_
    refine zk_aload_n C kd_Jd_leave_380 rfl 1 rfl rfl ?_
    refine zs_get (v := .ref (S.1 12)) C 38 1 rfl rfl rfl rfl ki_Jd (by decide) kw352 kd_Jd_leave_381 rfl ?_
    refine zs_get (v := .ref (S.1 18)) C 12 5 rfl rfl rfl rfl ki_Tr (by decide) kw173 kd_Jd_leave_384 rfl ?_
    refine zk_aload_n C kd_Jd_leave_387 rfl 1 rfl rfl ?_
    refine zs_get (v := .int (h.1 38 9)) C 38 9 rfl rfl rfl rfl ki_Jd (by decide) kw360 kd_Jd_leave_388 rfl ?_
    obtain ⟨q67, e⟩ := zd_g e
    refine zs_iald C 18 rfl (zd_vp q67) kd_Jd_leave_391 rfl ?_
    refine zk_iconst (v := (-1)) C kd_Jd_leave_392 (by decide) rfl ?_
    refine zk_icmp_ne (tgt := 400) C kd_Jd_leave_393 (by decide) rfl (fun b68 => ?_) (fun b68 => ?_)
    · replace e := zd_neg b68 e
      refine zk_iconst (v := 0) C kd_Jd_leave_400 (by decide) rfl ?_
      refine zk_lvs (lv' := [(1, .int x1)]) [2] rfl ?_
      exact zb_Jd_leave_401 C hR h x1 0 e
    · replace e := zd_pos b68 e
      refine zk_iconst (v := 1) C kd_Jd_leave_396 (by decide) rfl ?_
      refine zk_goto (tgt := 401) C kd_Jd_leave_397 (by decide) ?_
      refine zk_lvs (lv' := [(1, .int x1)]) [2] rfl ?_
      exact zb_Jd_leave_401 C hR h x1 1 e
  replace e := zd_neg b66 e
  by_cases b69 : (h.2.1 13 x1.toNatClampNeg) = 30
  · replace e := zd_pos b69 e
    refine zk_tableIn (tgt := 410) C kd_Jd_leave_19 (by rw [b69]; decide) (by rw [b69]; decide) (by rw [b69]; rfl) (by decide) ?_
    refine zk_aload_n C kd_Jd_leave_410 rfl 1 rfl rfl ?_
    refine zs_get (v := .ref (S.1 12)) C 38 1 rfl rfl rfl rfl ki_Jd (by decide) kw352 kd_Jd_leave_411 rfl ?_
    refine zs_get (v := .ref (S.1 14)) C 12 1 rfl rfl rfl rfl ki_Tr (by decide) kw160 kd_Jd_leave_414 rfl ?_
    refine zk_iload_n C kd_Jd_leave_417 rfl 2 rfl rfl ?_
    refine zk_aload_n C kd_Jd_leave_418 rfl 1 rfl rfl ?_
    refine zs_get (v := .ref (S.1 12)) C 38 1 rfl rfl rfl rfl ki_Jd (by decide) kw352 kd_Jd_leave_419 rfl ?_
    refine zs_get (v := .ref (S.1 16)) C 12 3 rfl rfl rfl rfl ki_Tr (by decide) kw168 kd_Jd_leave_422 rfl ?_
    refine zk_iload_n C kd_Jd_leave_425 rfl 2 rfl rfl ?_
    refine zs_iald C 16 rfl (zd_vp q1) kd_Jd_leave_426 rfl ?_
    refine zk_sipush (v := 32767) C kd_Jd_leave_427 (by decide) rfl ?_
    refine zk_icmp_le (tgt := 437) C kd_Jd_leave_430 (by decide) rfl (fun b70 => ?_) (fun b70 => ?_)
    · replace e := zd_pos b70 e
      refine zk_iconst (v := 1) C kd_Jd_leave_437 (by decide) rfl ?_
      refine zk_lvs (lv' := []) [] rfl ?_
      exact zb_Jd_leave_438 C hR h 1 x1 e
    · replace e := zd_neg b70 e
      refine zk_iconst (v := 2) C kd_Jd_leave_433 (by decide) rfl ?_
      refine zk_goto (tgt := 438) C kd_Jd_leave_434 (by decide) ?_
      refine zk_lvs (lv' := []) [] rfl ?_
      exact zb_Jd_leave_438 C hR h 2 x1 e
  replace e := zd_neg b69 e
  by_cases b71 : (h.2.1 13 x1.toNatClampNeg) = 32
  · replace e := zd_pos b71 e
    refine zk_tableIn (tgt := 443) C kd_Jd_leave_19 (by rw [b71]; decide) (by rw [b71]; decide) (by rw [b71]; rfl) (by decide) ?_
    refine zk_aload_n C kd_Jd_leave_443 rfl 1 rfl rfl ?_
    refine zk_iload_n C kd_Jd_leave_444 rfl 2 rfl rfl ?_
    obtain ⟨h73, c72, e⟩ := zd_b e
    refine zs_callV (k := 38) (rn := { frames := 3, cells := 0, slots := 0, locals := 69 }) (As := [.int x1]) (rest := []) C (zc_Jd_judgeVariable h x1 c72) ku_Jd_judgeVariable kw1191 kv_Jd_judgeVariable rfl ⟨by decide, by decide⟩ ⟨by decide, by decide⟩ rfl rfl rfl (Nat.le_of_ble_eq_true rfl) kd_Jd_leave_445 rfl (c1 := 0) (s1 := 0) rfl rfl (fun v w hp => ?_)
    obtain ⟨rfl, rfl⟩ := hp
    refine zk_stk (r' := []) rfl ?_
    refine zk_goto (tgt := 475) C kd_Jd_leave_448 (by decide) ?_
    exact zk_vret C hR kd_Jd_leave_475 rfl rfl (zd_rV e)
  replace e := zd_neg b71 e
  by_cases b74 : (h.2.1 13 x1.toNatClampNeg) = 33
  · replace e := zd_pos b74 e
    refine zk_tableIn (tgt := 443) C kd_Jd_leave_19 (by rw [b74]; decide) (by rw [b74]; decide) (by rw [b74]; rfl) (by decide) ?_
    refine zk_aload_n C kd_Jd_leave_443 rfl 1 rfl rfl ?_
    refine zk_iload_n C kd_Jd_leave_444 rfl 2 rfl rfl ?_
    obtain ⟨h76, c75, e⟩ := zd_b e
    refine zs_callV (k := 38) (rn := { frames := 3, cells := 0, slots := 0, locals := 69 }) (As := [.int x1]) (rest := []) C (zc_Jd_judgeVariable h x1 c75) ku_Jd_judgeVariable kw1191 kv_Jd_judgeVariable rfl ⟨by decide, by decide⟩ ⟨by decide, by decide⟩ rfl rfl rfl (Nat.le_of_ble_eq_true rfl) kd_Jd_leave_445 rfl (c1 := 0) (s1 := 0) rfl rfl (fun v w hp => ?_)
    obtain ⟨rfl, rfl⟩ := hp
    refine zk_stk (r' := []) rfl ?_
    refine zk_goto (tgt := 475) C kd_Jd_leave_448 (by decide) ?_
    exact zk_vret C hR kd_Jd_leave_475 rfl rfl (zd_rV e)
  replace e := zd_neg b74 e
  by_cases b77 : (h.2.1 13 x1.toNatClampNeg) = 34
  · replace e := zd_pos b77 e
    refine zk_tableIn (tgt := 451) C kd_Jd_leave_19 (by rw [b77]; decide) (by rw [b77]; decide) (by rw [b77]; rfl) (by decide) ?_
    refine zk_aload_n C kd_Jd_leave_451 rfl 1 rfl rfl ?_
    refine zk_iload_n C kd_Jd_leave_452 rfl 2 rfl rfl ?_
    obtain ⟨h79, c78, e⟩ := zd_b e
    refine zs_callV (k := 38) (rn := { frames := 4, cells := 0, slots := 0, locals := 102 }) (As := [.int x1]) (rest := []) C (zc_Jd_judgeCall h x1 c78) ku_Jd_judgeCall kw1195 kv_Jd_judgeCall rfl ⟨by decide, by decide⟩ ⟨by decide, by decide⟩ rfl rfl rfl (Nat.le_of_ble_eq_true rfl) kd_Jd_leave_453 rfl (c1 := 0) (s1 := 0) rfl rfl (fun v w hp => ?_)
    obtain ⟨rfl, rfl⟩ := hp
    refine zk_stk (r' := []) rfl ?_
    refine zk_goto (tgt := 475) C kd_Jd_leave_456 (by decide) ?_
    exact zk_vret C hR kd_Jd_leave_475 rfl rfl (zd_rV e)
  replace e := zd_neg b77 e
  by_cases b80 : (h.2.1 13 x1.toNatClampNeg) = 35
  · replace e := zd_pos b80 e
    refine zk_tableIn (tgt := 459) C kd_Jd_leave_19 (by rw [b80]; decide) (by rw [b80]; decide) (by rw [b80]; rfl) (by decide) ?_
    refine zk_aload_n C kd_Jd_leave_459 rfl 1 rfl rfl ?_
    refine zk_iload_n C kd_Jd_leave_460 rfl 2 rfl rfl ?_
    obtain ⟨h82, c81, e⟩ := zd_b e
    refine zs_callV (k := 38) (rn := { frames := 2, cells := 0, slots := 0, locals := 45 }) (As := [.int x1]) (rest := []) C (zc_Jd_judgeTwo h x1 c81) ku_Jd_judgeTwo kw1243 kv_Jd_judgeTwo rfl ⟨by decide, by decide⟩ ⟨by decide, by decide⟩ rfl rfl rfl (Nat.le_of_ble_eq_true rfl) kd_Jd_leave_461 rfl (c1 := 0) (s1 := 0) rfl rfl (fun v w hp => ?_)
    obtain ⟨rfl, rfl⟩ := hp
    refine zk_stk (r' := []) rfl ?_
    refine zk_goto (tgt := 475) C kd_Jd_leave_464 (by decide) ?_
    exact zk_vret C hR kd_Jd_leave_475 rfl rfl (zd_rV e)
  replace e := zd_neg b80 e
  by_cases b83 : (h.2.1 13 x1.toNatClampNeg) = 36
  · replace e := zd_pos b83 e
    refine zk_tableIn (tgt := 467) C kd_Jd_leave_19 (by rw [b83]; decide) (by rw [b83]; decide) (by rw [b83]; rfl) (by decide) ?_
    refine zk_aload_n C kd_Jd_leave_467 rfl 1 rfl rfl ?_
    refine zk_iload_n C kd_Jd_leave_468 rfl 2 rfl rfl ?_
    obtain ⟨h85, c84, e⟩ := zd_b e
    refine zs_callV (k := 38) (rn := { frames := 2, cells := 0, slots := 0, locals := 45 }) (As := [.int x1]) (rest := []) C (zc_Jd_judgeOne h x1 c84) ku_Jd_judgeOne kw1254 kv_Jd_judgeOne rfl ⟨by decide, by decide⟩ ⟨by decide, by decide⟩ rfl rfl rfl (Nat.le_of_ble_eq_true rfl) kd_Jd_leave_469 rfl (c1 := 0) (s1 := 0) rfl rfl (fun v w hp => ?_)
    obtain ⟨rfl, rfl⟩ := hp
    refine zk_stk (r' := []) rfl ?_
    refine zk_goto (tgt := 475) C kd_Jd_leave_472 (by decide) ?_
    exact zk_vret C hR kd_Jd_leave_475 rfl rfl (zd_rV e)
  replace e := zd_neg b83 e
  by_cases b86 : (h.2.1 13 x1.toNatClampNeg) = 37
  · replace e := zd_pos b86 e
    refine zk_tableIn (tgt := 216) C kd_Jd_leave_19 (by rw [b86]; decide) (by rw [b86]; decide) (by rw [b86]; rfl) (by decide) ?_
    refine zk_aload_n C kd_Jd_leave_216 rfl 1 rfl rfl ?_
    refine zk_iload_n C kd_Jd_leave_217 rfl 2 rfl rfl ?_
    obtain ⟨h88, c87, e⟩ := zd_b e
    refine zs_callV (k := 38) (rn := { frames := 2, cells := 0, slots := 0, locals := 46 }) (As := [.int x1]) (rest := []) C (zc_Jd_declareName h x1 c87) ku_Jd_declareName kw1102 kv_Jd_declareName rfl ⟨by decide, by decide⟩ ⟨by decide, by decide⟩ rfl rfl rfl (Nat.le_of_ble_eq_true rfl) kd_Jd_leave_218 rfl (c1 := 0) (s1 := 0) rfl rfl (fun v w hp => ?_)
    obtain ⟨rfl, rfl⟩ := hp
    refine zk_stk (r' := []) rfl ?_
    refine zk_goto (tgt := 475) C kd_Jd_leave_221 (by decide) ?_
    exact zk_vret C hR kd_Jd_leave_475 rfl rfl (zd_rV e)
  replace e := zd_neg b86 e
  refine zd_tableD (tgt := 475) C kd_Jd_leave_19 (by decide) [0, 1, 2, 3, 4, 5, 6, 7, 9, 10, 12, 13, 14, 15, 16, 18, 19, 20, 23, 25, 28, 29, 30, 32, 33, 34, 35, 36, 37] (by decide +kernel) (by have n0 := lv_neT b2 (a := 0) (by decide); have n1 := lv_neT b5 (a := 1) (by decide); have n2 := lv_neT b8 (a := 2) (by decide); have n3 := lv_neT b11 (a := 3) (by decide); have n4 := lv_neT b14 (a := 4) (by decide); have n5 := lv_neT b17 (a := 5) (by decide); have n6 := lv_neT b20 (a := 6) (by decide); have n7 := lv_neT b23 (a := 7) (by decide); have n8 := lv_neT b26 (a := 9) (by decide); have n9 := lv_neT b29 (a := 10) (by decide); have n10 := lv_neT b32 (a := 12) (by decide); have n11 := lv_neT b35 (a := 13) (by decide); have n12 := lv_neT b40 (a := 14) (by decide); have n13 := lv_neT b43 (a := 15) (by decide); have n14 := lv_neT b46 (a := 16) (by decide); have n15 := lv_neT b49 (a := 18) (by decide); have n16 := lv_neT b52 (a := 19) (by decide); have n17 := lv_neT b55 (a := 20) (by decide); have n18 := lv_neT b57 (a := 23) (by decide); have n19 := lv_neT b60 (a := 25) (by decide); have n20 := lv_neT b63 (a := 28) (by decide); have n21 := lv_neT b66 (a := 29) (by decide); have n22 := lv_neT b69 (a := 30) (by decide); have n23 := lv_neT b71 (a := 32) (by decide); have n24 := lv_neT b74 (a := 33) (by decide); have n25 := lv_neT b77 (a := 34) (by decide); have n26 := lv_neT b80 (a := 35) (by decide); have n27 := lv_neT b83 (a := 36) (by decide); have n28 := lv_neT b86 (a := 37) (by decide); simp only [List.mem_cons, List.not_mem_nil, or_false, not_or]; exact ⟨n0, n1, n2, n3, n4, n5, n6, n7, n8, n9, n10, n11, n12, n13, n14, n15, n16, n17, n18, n19, n20, n21, n22, n23, n24, n25, n26, n27, n28⟩) ?_
  exact zk_vret C hR kd_Jd_leave_475 rfl rfl (zd_rV e)
set_option maxHeartbeats 4000000 in
set_option maxRecDepth 100000 in
theorem zb_Jd_visit_74 {X : zkj_T} {S : zs_T} {P : ze_T} {l : Launch} {D : va_G} {sz0 : Nat} {d : Nat} {rh : zs_H} (C : zk_C X km_Jd_visit (zs_G S l D sz0) { frames := 6 + (d + 1), cells := 0, slots := 0, locals := 151 + 24 * (d + 1) } (ze_E P)) (hR : zkj_R X (zd_PV S rh) (none)) (h : zs_H) (x1 : Int32) (e : f_Jd_visit_74 h x1 = some rh) : zk_Ab X (zs_W S h) 0 0 74 [(0, .ref (S.1 38)), (1, .int x1)] [] := by
  unfold f_Jd_visit_74 at e
  refine zk_aload_n C kd_Jd_visit_74 rfl 0 rfl rfl ?_
  refine zs_get (v := .int (h.1 38 3)) C 38 3 rfl rfl rfl rfl ki_Jd (by decide) kw354 kd_Jd_visit_75 rfl ?_
  refine zk_if_ne (tgt := 86) C kd_Jd_visit_78 (by decide) rfl (fun b1 => ?_) (fun b1 => ?_)
  · replace e := zd_neg b1 e
    exact zk_vret C hR kd_Jd_visit_86 rfl rfl (zd_rV e)
  · replace e := zd_pos b1 e
    refine zk_aload_n C kd_Jd_visit_81 rfl 0 rfl rfl ?_
    refine zk_iload_n C kd_Jd_visit_82 rfl 1 rfl rfl ?_
    obtain ⟨h3, c2, e⟩ := zd_b e
    refine zs_callV (k := 38) (rn := { frames := 5, cells := 0, slots := 0, locals := 129 }) (As := [.int x1]) (rest := []) C (zc_Jd_leave h x1 c2) ku_Jd_leave kw1053 kv_Jd_leave rfl (zd_rmO (by decide) (by decide)) ⟨Nat.le_refl _, Nat.le_refl _⟩ rfl rfl rfl (Nat.le_of_ble_eq_true rfl) kd_Jd_visit_83 rfl (c1 := 0) (s1 := 0) rfl rfl (fun v w hp => ?_)
    obtain ⟨rfl, rfl⟩ := hp
    refine zk_stk (r' := []) rfl ?_
    exact zk_vret C hR kd_Jd_visit_86 rfl rfl (zd_rV e)
set_option maxHeartbeats 4000000 in
set_option maxRecDepth 100000 in
theorem zb_Jd_visit_26 {X : zkj_T} {S : zs_T} {P : ze_T} {l : Launch} {D : va_G} {sz0 : Nat} {d : Nat} {rh : zs_H} (C : zk_C X km_Jd_visit (zs_G S l D sz0) { frames := 6 + (d + 1), cells := 0, slots := 0, locals := 151 + 24 * (d + 1) } (ze_E P)) (hR : zkj_R X (zd_PV S rh) (none)) {r_Jd_visit : zs_H → Int32 → Int32 → (Option zs_H)} (hr_Jd_visit : ∀ (h : zs_H) (x0 : Int32) (x1 : Int32) {rh : zs_H}, r_Jd_visit h x0 x1 = some rh → zk_Sp (zs_G S l D sz0) (ze_E P) km_Jd_visit { frames := 6 + d, cells := 0, slots := 0, locals := 151 + 24 * d } [.ref (S.1 38), .int x0, .int x1] (zs_W S h) (zd_PV S rh)) {k26 : zs_H → Int32 → Int32 → Int32 → Int32 → (Option zs_H)} (hk26 : ∀ (h : zs_H) (x1 : Int32) (x2 : Int32) (x3 : Int32) (x4 : Int32), k26 h x1 x2 x3 x4 = some rh → zk_Ab X (zs_W S h) 0 0 26 [(0, .ref (S.1 38)), (1, .int x1), (2, .int x2), (3, .int x3), (4, .int x4)] []) (h : zs_H) (x1 : Int32) (x2 : Int32) (x3 : Int32) (x4 : Int32) (e : f_Jd_visit_26 r_Jd_visit k26 h x1 x2 x3 x4 = some rh) : zk_Ab X (zs_W S h) 0 0 26 [(0, .ref (S.1 38)), (1, .int x1), (2, .int x2), (3, .int x3), (4, .int x4)] [] := by
  unfold f_Jd_visit_26 at e
  refine zk_iload C kd_Jd_visit_26 4 rfl rfl ?_
  refine zk_aload_n C kd_Jd_visit_28 rfl 0 rfl rfl ?_
  refine zs_get (v := .ref (S.1 12)) C 38 1 rfl rfl rfl rfl ki_Jd (by decide) kw352 kd_Jd_visit_29 rfl ?_
  refine zs_get (v := .int (h.1 12 6)) C 12 6 rfl rfl rfl rfl ki_Tr (by decide) kw177 kd_Jd_visit_32 rfl ?_
  refine zk_icmp_ge (tgt := 74) C kd_Jd_visit_35 (by decide) rfl (fun b1 => ?_) (fun b1 => ?_)
  · replace e := zd_pos b1 e
    refine zk_lvs (lv' := [(0, .ref (S.1 38)), (1, .int x1)]) [0, 1] rfl ?_
    exact zb_Jd_visit_74 C hR h x1 e
  · replace e := zd_neg b1 e
    refine zk_iload_n C kd_Jd_visit_38 rfl 3 rfl rfl ?_
    refine zk_iconst (v := (-1)) C kd_Jd_visit_39 (by decide) rfl ?_
    refine zk_icmp_eq (tgt := 74) C kd_Jd_visit_40 (by decide) rfl (fun b2 => ?_) (fun b2 => ?_)
    · replace e := zd_pos b2 e
      refine zk_lvs (lv' := [(0, .ref (S.1 38)), (1, .int x1)]) [0, 1] rfl ?_
      exact zb_Jd_visit_74 C hR h x1 e
    · replace e := zd_neg b2 e
      refine zk_aload_n C kd_Jd_visit_43 rfl 0 rfl rfl ?_
      refine zs_get (v := .int (h.1 38 3)) C 38 3 rfl rfl rfl rfl ki_Jd (by decide) kw354 kd_Jd_visit_44 rfl ?_
      refine zk_if_ne (tgt := 74) C kd_Jd_visit_47 (by decide) rfl (fun b3 => ?_) (fun b3 => ?_)
      · replace e := zd_neg b3 e
        refine zk_lvs (lv' := [(0, .ref (S.1 38)), (1, .int x1)]) [0, 1] rfl ?_
        exact zb_Jd_visit_74 C hR h x1 e
      · replace e := zd_pos b3 e
        refine zk_aload_n C kd_Jd_visit_50 rfl 0 rfl rfl ?_
        refine zk_iload_n C kd_Jd_visit_51 rfl 3 rfl rfl ?_
        refine zk_iload_n C kd_Jd_visit_52 rfl 2 rfl rfl ?_
        refine zk_iconst (v := 1) C kd_Jd_visit_53 (by decide) rfl ?_
        refine zk_iadd C kd_Jd_visit_54 rfl ?_
        obtain ⟨h5, c4, e⟩ := zd_b e
        refine zs_callV (k := 38) (rn := { frames := 6 + d, cells := 0, slots := 0, locals := 151 + 24 * d }) (As := [.int x3, .int (x2 + 1)]) (rest := []) C (hr_Jd_visit h x3 (x2 + 1) c4) ku_Jd_visit kw1024 kv_Jd_visit rfl (zd_rmI (by decide)) ⟨Nat.le_refl _, Nat.le_refl _⟩ rfl rfl rfl (Nat.le_of_ble_eq_true rfl) kd_Jd_visit_55 rfl (c1 := 0) (s1 := 0) rfl rfl (fun v w hp => ?_)
        obtain ⟨rfl, rfl⟩ := hp
        refine zk_stk (r' := []) rfl ?_
        refine zk_aload_n C kd_Jd_visit_58 rfl 0 rfl rfl ?_
        refine zs_get (v := .ref (S.1 12)) C 38 1 rfl rfl rfl rfl ki_Jd (by decide) kw352 kd_Jd_visit_59 rfl ?_
        refine zs_get (v := .ref (S.1 18)) C 12 5 rfl rfl rfl rfl ki_Tr (by decide) kw173 kd_Jd_visit_62 rfl ?_
        refine zk_iload_n C kd_Jd_visit_65 rfl 3 rfl rfl ?_
        obtain ⟨q6, e⟩ := zd_g e
        refine zs_iald C 18 rfl (zd_vp q6) kd_Jd_visit_66 rfl ?_
        refine zk_istore_n (lv' := [(3, _), (0, _), (1, _), (2, _), (4, _)]) C kd_Jd_visit_67 rfl (by decide) rfl rfl ?_
        refine zk_iinc (v := (x4 + 1)) (lv' := [(4, _), (3, _), (0, _), (1, _), (2, _)]) C kd_Jd_visit_68 4 rfl rfl (by decide) rfl rfl ?_
        refine zk_goto (tgt := 26) C kd_Jd_visit_71 (by decide) ?_
        refine zk_lvs (lv' := [(0, .ref (S.1 38)), (1, .int x1), (2, .int x2), (3, .int (h5.2.1 18 x3.toNatClampNeg)), (4, .int (x4 + 1))]) [2, 3, 4, 1, 0] rfl ?_
        exact hk26 h5 x1 x2 (h5.2.1 18 x3.toNatClampNeg) (x4 + 1) e
theorem zl_Jd_visit_26 {X : zkj_T} {S : zs_T} {P : ze_T} {l : Launch} {D : va_G} {sz0 : Nat} {d : Nat} {rh : zs_H} (C : zk_C X km_Jd_visit (zs_G S l D sz0) { frames := 6 + (d + 1), cells := 0, slots := 0, locals := 151 + 24 * (d + 1) } (ze_E P)) (hR : zkj_R X (zd_PV S rh) (none)) {r_Jd_visit : zs_H → Int32 → Int32 → (Option zs_H)} (hr_Jd_visit : ∀ (h : zs_H) (x0 : Int32) (x1 : Int32) {rh : zs_H}, r_Jd_visit h x0 x1 = some rh → zk_Sp (zs_G S l D sz0) (ze_E P) km_Jd_visit { frames := 6 + d, cells := 0, slots := 0, locals := 151 + 24 * d } [.ref (S.1 38), .int x0, .int x1] (zs_W S h) (zd_PV S rh)) (n : Nat) : ∀ (h : zs_H) (x1 : Int32) (x2 : Int32) (x3 : Int32) (x4 : Int32), f_Jd_visit_L26 r_Jd_visit n h x1 x2 x3 x4 = some rh → zk_Ab X (zs_W S h) 0 0 26 [(0, .ref (S.1 38)), (1, .int x1), (2, .int x2), (3, .int x3), (4, .int x4)] [] := by
  induction n with
  | zero => intro h x1 x2 x3 x4 e; exact zd_no e
  | succ n ih => intro h x1 x2 x3 x4 e; exact zb_Jd_visit_26 (k26 := f_Jd_visit_L26 r_Jd_visit n) C hR hr_Jd_visit ih h x1 x2 x3 x4 e
set_option maxHeartbeats 4000000 in
set_option maxRecDepth 100000 in
theorem zg_Jd_visit {l : Launch} {D : va_G} {sz0 : Nat} {S : zs_T} {P : ze_T} {d : Nat} {r_Jd_visit : zs_H → Int32 → Int32 → (Option zs_H)} (hr_Jd_visit : ∀ (h : zs_H) (x0 : Int32) (x1 : Int32) {rh : zs_H}, r_Jd_visit h x0 x1 = some rh → zk_Sp (zs_G S l D sz0) (ze_E P) km_Jd_visit { frames := 6 + d, cells := 0, slots := 0, locals := 151 + 24 * d } [.ref (S.1 38), .int x0, .int x1] (zs_W S h) (zd_PV S rh)) (h : zs_H) (x1 : Int32) (x2 : Int32) {rh : zs_H} (e : g_Jd_visit r_Jd_visit h x1 x2 = some rh) : zk_Sp (zs_G S l D sz0) (ze_E P) km_Jd_visit { frames := 6 + (d + 1), cells := 0, slots := 0, locals := 151 + 24 * (d + 1) } [.ref (S.1 38), .int x1, .int x2] (zs_W S h) (zd_PV S rh) := by
  refine zk_met ku_Jd_visit (Nat.le_of_ble_eq_true rfl) (ze_Em P) ?_
  intro X C hR
  refine zk_lvs (lv' := [(0, .ref (S.1 38)), (1, .int x1), (2, .int x2)]) [0, 1, 2] rfl ?_
  unfold g_Jd_visit at e
  refine zk_iload_n C kd_Jd_visit_0 rfl 2 rfl rfl ?_
  refine zk_sipush (v := 240) C kd_Jd_visit_1 (by decide) rfl ?_
  refine zk_icmp_le (tgt := 8) C kd_Jd_visit_4 (by decide) rfl (fun b1 => ?_) (fun b1 => ?_)
  · replace e := zd_pos b1 e
    refine zk_aload_n C kd_Jd_visit_8 rfl 0 rfl rfl ?_
    refine zk_iload_n C kd_Jd_visit_9 rfl 1 rfl rfl ?_
    obtain ⟨h3, c2, e⟩ := zd_b e
    refine zs_callV (k := 38) (rn := { frames := 3, cells := 0, slots := 0, locals := 69 }) (As := [.int x1]) (rest := []) C (zc_Jd_enter h x1 c2) ku_Jd_enter kw1028 kv_Jd_enter rfl (zd_rmO (by decide) (by decide)) ⟨Nat.le_refl _, Nat.le_refl _⟩ rfl rfl rfl (Nat.le_of_ble_eq_true rfl) kd_Jd_visit_10 rfl (c1 := 0) (s1 := 0) rfl rfl (fun v w hp => ?_)
    obtain ⟨rfl, rfl⟩ := hp
    refine zk_stk (r' := []) rfl ?_
    refine zk_aload_n C kd_Jd_visit_13 rfl 0 rfl rfl ?_
    refine zs_get (v := .ref (S.1 12)) C 38 1 rfl rfl rfl rfl ki_Jd (by decide) kw352 kd_Jd_visit_14 rfl ?_
    refine zs_get (v := .ref (S.1 17)) C 12 4 rfl rfl rfl rfl ki_Tr (by decide) kw170 kd_Jd_visit_17 rfl ?_
    refine zk_iload_n C kd_Jd_visit_20 rfl 1 rfl rfl ?_
    obtain ⟨q4, e⟩ := zd_g e
    refine zs_iald C 17 rfl (zd_vp q4) kd_Jd_visit_21 rfl ?_
    refine zk_istore_n (lv' := [(3, _), (0, _), (1, _), (2, _)]) C kd_Jd_visit_22 rfl (by decide) rfl rfl ?_
    refine zk_iconst (v := 0) C kd_Jd_visit_23 (by decide) rfl ?_
    refine zk_istore (lv' := [(4, _), (3, _), (0, _), (1, _), (2, _)]) C kd_Jd_visit_24 (by decide) rfl rfl ?_
    refine zk_lvs (lv' := [(0, .ref (S.1 38)), (1, .int x1), (2, .int x2), (3, .int (h3.2.1 17 x1.toNatClampNeg)), (4, .int 0)]) [2, 3, 4, 1, 0] rfl ?_
    exact zl_Jd_visit_26 C hR hr_Jd_visit zF h3 x1 x2 (h3.2.1 17 x1.toNatClampNeg) 0 e
  · replace e := zd_neg b1 e
    exact zk_vret C hR kd_Jd_visit_7 rfl rfl (zd_rV e)
theorem zs_Jd_visit {l : Launch} {D : va_G} {sz0 : Nat} {S : zs_T} {P : ze_T} (d : Nat) : (∀ (h : zs_H) (x0 : Int32) (x1 : Int32) {rh : zs_H}, f_Jd_visit d h x0 x1 = some rh → zk_Sp (zs_G S l D sz0) (ze_E P) km_Jd_visit { frames := 6 + d, cells := 0, slots := 0, locals := 151 + 24 * d } [.ref (S.1 38), .int x0, .int x1] (zs_W S h) (zd_PV S rh)) := by
  induction d with
  | zero => exact ((fun h x0 x1 _ e => zd_no e))
  | succ d ih =>
    have q0 := @ih
    have hh : f_Jd_visit (d + 1) = g_Jd_visit (f_Jd_visit d) := zd_its _ _ d
    exact ((fun h x0 x1 _ e => zg_Jd_visit (r_Jd_visit := f_Jd_visit d) q0 h x0 x1 ((congrFun (congrFun (congrFun hh h) x0) x1).symm.trans e)))
theorem zc_Jd_visit {l : Launch} {D : va_G} {sz0 : Nat} {S : zs_T} {P : ze_T} (h : zs_H) (x0 : Int32) (x1 : Int32) {rh : zs_H} (e : f_Jd_visit 400 h x0 x1 = some rh) : zk_Sp (zs_G S l D sz0) (ze_E P) km_Jd_visit { frames := 6 + 400, cells := 0, slots := 0, locals := 151 + 24 * 400 } [.ref (S.1 38), .int x0, .int x1] (zs_W S h) (zd_PV S rh) := (zs_Jd_visit 400) h x0 x1 e
set_option maxHeartbeats 4000000 in
set_option maxRecDepth 100000 in
theorem zb_Jd_judge_19 {X : zkj_T} {S : zs_T} {P : ze_T} {l : Launch} {D : va_G} {sz0 : Nat} {rv : Int32} {rh : zs_H} (C : zk_C X km_Jd_judge (zs_G S l D sz0) { frames := 407, cells := 0, slots := 0, locals := 9775 } (ze_E P)) (hR : zkj_R X (zd_PI S rv rh) (some .int)) {k19 : zs_H → Int32 → (Option (Int32 × zs_H))} (hk19 : ∀ (h : zs_H) (x1 : Int32), k19 h x1 = some (rv, rh) → zk_Ab X (zs_W S h) 0 0 19 [(0, .ref (S.1 38)), (1, .int x1)] []) (h : zs_H) (x1 : Int32) (e : f_Jd_judge_19 k19 h x1 = some (rv, rh)) : zk_Ab X (zs_W S h) 0 0 19 [(0, .ref (S.1 38)), (1, .int x1)] [] := by
  unfold f_Jd_judge_19 at e
  refine zk_iload_n C kd_Jd_judge_19 rfl 1 rfl rfl ?_
  refine zk_aload_n C kd_Jd_judge_20 rfl 0 rfl rfl ?_
  refine zs_get (v := .ref (S.1 40)) C 38 13 rfl rfl rfl rfl ki_Jd (by decide) kw364 kd_Jd_judge_21 rfl ?_
  refine zs_alen (v := 960) C 40 rfl (by decide) rfl kd_Jd_judge_24 rfl ?_
  refine zk_icmp_ge (tgt := 41) C kd_Jd_judge_25 (by decide) rfl (fun b1 => ?_) (fun b1 => ?_)
  · replace e := zd_pos b1 e
    refine zk_aload_n C kd_Jd_judge_41 rfl 0 rfl rfl ?_
    refine zk_iconst (v := 0) C kd_Jd_judge_42 (by decide) rfl ?_
    refine zk_iconst (v := 0) C kd_Jd_judge_43 (by decide) rfl ?_
    obtain ⟨h3, c2, e⟩ := zd_b e
    refine zs_callV (k := 38) (rn := { frames := 6 + 400, cells := 0, slots := 0, locals := 151 + 24 * 400 }) (As := [.int 0, .int 0]) (rest := []) C (zc_Jd_visit h 0 0 c2) ku_Jd_visit kw1024 kv_Jd_visit rfl ⟨by decide, by decide⟩ ⟨by decide, by decide⟩ rfl rfl rfl (Nat.le_of_ble_eq_true rfl) kd_Jd_judge_44 rfl (c1 := 0) (s1 := 0) rfl rfl (fun v w hp => ?_)
    obtain ⟨rfl, rfl⟩ := hp
    refine zk_stk (r' := []) rfl ?_
    refine zk_aload_n C kd_Jd_judge_47 rfl 0 rfl rfl ?_
    refine zs_get (v := .int (h3.1 38 3)) C 38 3 rfl rfl rfl rfl ki_Jd (by decide) kw354 kd_Jd_judge_48 rfl ?_
    exact zk_iret C hR kd_Jd_judge_51 rfl rfl (zd_rIS e)
  · replace e := zd_neg b1 e
    refine zk_aload_n C kd_Jd_judge_28 rfl 0 rfl rfl ?_
    refine zs_get (v := .ref (S.1 40)) C 38 13 rfl rfl rfl rfl ki_Jd (by decide) kw364 kd_Jd_judge_29 rfl ?_
    refine zk_iload_n C kd_Jd_judge_32 rfl 1 rfl rfl ?_
    refine zk_iconst (v := 0) C kd_Jd_judge_33 (by decide) rfl ?_
    obtain ⟨q4, e⟩ := zd_g e
    refine zs_zast C 40 rfl (zd_vp q4) kd_Jd_judge_34 rfl ?_
    refine zk_iinc (v := (x1 + 1)) (lv' := [(1, _), (0, _)]) C kd_Jd_judge_35 1 rfl rfl (by decide) rfl rfl ?_
    refine zk_goto (tgt := 19) C kd_Jd_judge_38 (by decide) ?_
    refine zk_lvs (lv' := [(0, .ref (S.1 38)), (1, .int (x1 + 1))]) [1, 0] rfl ?_
    exact hk19 (zs_uM h 40 x1.toNatClampNeg (vp_nar .boolean 0)) (x1 + 1) e
theorem zl_Jd_judge_19 {X : zkj_T} {S : zs_T} {P : ze_T} {l : Launch} {D : va_G} {sz0 : Nat} {rv : Int32} {rh : zs_H} (C : zk_C X km_Jd_judge (zs_G S l D sz0) { frames := 407, cells := 0, slots := 0, locals := 9775 } (ze_E P)) (hR : zkj_R X (zd_PI S rv rh) (some .int)) (n : Nat) : ∀ (h : zs_H) (x1 : Int32), f_Jd_judge_L19 n h x1 = some (rv, rh) → zk_Ab X (zs_W S h) 0 0 19 [(0, .ref (S.1 38)), (1, .int x1)] [] := by
  induction n with
  | zero => intro h x1 e; exact zd_no e
  | succ n ih => intro h x1 e; exact zb_Jd_judge_19 (k19 := f_Jd_judge_L19  n) C hR ih h x1 e
set_option maxHeartbeats 4000000 in
set_option maxRecDepth 100000 in
theorem zc_Jd_judge {l : Launch} {D : va_G} {sz0 : Nat} {S : zs_T} {P : ze_T} (h : zs_H) {rv : Int32} {rh : zs_H} (e : f_Jd_judge h = some (rv, rh)) : zk_Sp (zs_G S l D sz0) (ze_E P) km_Jd_judge { frames := 407, cells := 0, slots := 0, locals := 9775 } [.ref (S.1 38)] (zs_W S h) (zd_PI S rv rh) := by
  refine zk_met ku_Jd_judge (Nat.le_of_ble_eq_true rfl) (ze_Em P) ?_
  intro X C hR
  refine zk_lvs (lv' := [(0, .ref (S.1 38))]) [0] rfl ?_
  unfold f_Jd_judge at e
  refine zk_aload_n C kd_Jd_judge_0 rfl 0 rfl rfl ?_
  refine zk_iconst (v := 0) C kd_Jd_judge_1 (by decide) rfl ?_
  refine zs_put (ty := .int) C 38 3 0 rfl rfl rfl rfl ki_Jd ky_Jd ko_Jd kn_Jd (by decide) kw354 rfl rfl rfl rfl (by decide) kd_Jd_judge_2 rfl ?_
  refine zk_aload_n C kd_Jd_judge_5 rfl 0 rfl rfl ?_
  refine zk_iconst (v := 0) C kd_Jd_judge_6 (by decide) rfl ?_
  refine zs_put (ty := .int) C 38 12 0 rfl rfl rfl rfl ki_Jd ky_Jd ko_Jd kn_Jd (by decide) kw363 rfl rfl rfl rfl (by decide) kd_Jd_judge_7 rfl ?_
  refine zk_aload_n C kd_Jd_judge_10 rfl 0 rfl rfl ?_
  refine zs_get (v := .ref (S.1 20)) C 38 2 rfl rfl rfl rfl ki_Jd (by decide) kw353 kd_Jd_judge_11 rfl ?_
  obtain ⟨h2, c1, e⟩ := zd_b e
  refine zs_callV (k := 20) (rn := { frames := 3, cells := 0, slots := 0, locals := 68 }) (As := []) (rest := []) C (zc_Pl_forget (zs_uF (zs_uF h 38 3 0) 38 12 0) c1) ku_Pl_forget kw1002 kv_Pl_forget rfl ⟨by decide, by decide⟩ ⟨by decide, by decide⟩ rfl rfl rfl (Nat.le_of_ble_eq_true rfl) kd_Jd_judge_14 rfl (c1 := 0) (s1 := 0) rfl rfl (fun v w hp => ?_)
  obtain ⟨rfl, rfl⟩ := hp
  refine zk_stk (r' := []) rfl ?_
  refine zk_iconst (v := 0) C kd_Jd_judge_17 (by decide) rfl ?_
  refine zk_istore_n (lv' := [(1, _), (0, _)]) C kd_Jd_judge_18 rfl (by decide) rfl rfl ?_
  refine zk_lvs (lv' := [(0, .ref (S.1 38)), (1, .int 0)]) [1, 0] rfl ?_
  exact zl_Jd_judge_19 C hR zF h2 0 e
set_option maxHeartbeats 4000000 in
set_option maxRecDepth 100000 in
theorem zc_Cd_forget {l : Launch} {D : va_G} {sz0 : Nat} {S : zs_T} {P : ze_T} (h : zs_H) {rh : zs_H} (e : f_Cd_forget h = some rh) : zk_Sp (zs_G S l D sz0) (ze_E P) km_Cd_forget { frames := 0, cells := 0, slots := 0, locals := 0 } [.ref (S.1 41)] (zs_W S h) (zd_PV S rh) := by
  refine zk_met ku_Cd_forget (Nat.le_of_ble_eq_true rfl) (ze_Em P) ?_
  intro X C hR
  refine zk_lvs (lv' := [(0, .ref (S.1 41))]) [0] rfl ?_
  unfold f_Cd_forget at e
  refine zk_aload_n C kd_Cd_forget_0 rfl 0 rfl rfl ?_
  refine zk_iconst (v := 0) C kd_Cd_forget_1 (by decide) rfl ?_
  refine zs_put (ty := .int) C 41 5 0 rfl rfl rfl rfl ki_Cd ky_Cd ko_Cd kn_Cd (by decide) kw415 rfl rfl rfl rfl (by decide) kd_Cd_forget_2 rfl ?_
  refine zk_aload_n C kd_Cd_forget_5 rfl 0 rfl rfl ?_
  refine zk_iconst (v := 0) C kd_Cd_forget_6 (by decide) rfl ?_
  refine zs_put (ty := .int) C 41 6 0 rfl rfl rfl rfl ki_Cd ky_Cd ko_Cd kn_Cd (by decide) kw418 rfl rfl rfl rfl (by decide) kd_Cd_forget_7 rfl ?_
  exact zk_vret C hR kd_Cd_forget_10 rfl rfl (zd_rV e)
set_option maxHeartbeats 4000000 in
set_option maxRecDepth 100000 in
theorem zb_Cd_emit_41 {X : zkj_T} {S : zs_T} {P : ze_T} {l : Launch} {D : va_G} {sz0 : Nat} {rv : Int32} {rh : zs_H} (C : zk_C X km_Cd_emit (zs_G S l D sz0) { frames := 0, cells := 0, slots := 0, locals := 0 } (ze_E P)) (hR : zkj_R X (zd_PI S rv rh) (some .int)) (h : zs_H) (x3 : Int32) (e : f_Cd_emit_41 h x3 = some (rv, rh)) : zk_Ab X (zs_W S h) 0 0 41 [(0, .ref (S.1 41)), (3, .int x3)] [] := by
  unfold f_Cd_emit_41 at e
  refine zk_aload_n C kd_Cd_emit_41 rfl 0 rfl rfl ?_
  refine zk_dup C kd_Cd_emit_42 rfl rfl ?_
  refine zs_get (v := .int (h.1 41 5)) C 41 5 rfl rfl rfl rfl ki_Cd (by decide) kw415 kd_Cd_emit_43 rfl ?_
  refine zk_iconst (v := 1) C kd_Cd_emit_46 (by decide) rfl ?_
  refine zk_iadd C kd_Cd_emit_47 rfl ?_
  refine zs_put (ty := .int) C 41 5 ((h.1 41 5) + 1) rfl rfl rfl rfl ki_Cd ky_Cd ko_Cd kn_Cd (by decide) kw415 rfl rfl rfl rfl (by decide) kd_Cd_emit_48 rfl ?_
  refine zk_iload_n C kd_Cd_emit_51 rfl 1 rfl rfl ?_
  exact zk_iret C hR kd_Cd_emit_52 rfl rfl (zd_rIS e)
set_option maxHeartbeats 4000000 in
set_option maxRecDepth 100000 in
theorem zc_Cd_emit {l : Launch} {D : va_G} {sz0 : Nat} {S : zs_T} {P : ze_T} (h : zs_H) (x1 : Int32) (x2 : Int32) {rv : Int32} {rh : zs_H} (e : f_Cd_emit h x1 x2 = some (rv, rh)) : zk_Sp (zs_G S l D sz0) (ze_E P) km_Cd_emit { frames := 0, cells := 0, slots := 0, locals := 0 } [.ref (S.1 41), .int x1, .int x2] (zs_W S h) (zd_PI S rv rh) := by
  refine zk_met ku_Cd_emit (Nat.le_of_ble_eq_true rfl) (ze_Em P) ?_
  intro X C hR
  refine zk_lvs (lv' := [(0, .ref (S.1 41)), (1, .int x1), (2, .int x2)]) [0, 1, 2] rfl ?_
  unfold f_Cd_emit at e
  refine zk_aload_n C kd_Cd_emit_0 rfl 0 rfl rfl ?_
  refine zs_get (v := .int (h.1 41 5)) C 41 5 rfl rfl rfl rfl ki_Cd (by decide) kw415 kd_Cd_emit_1 rfl ?_
  refine zk_istore_n (lv' := [(3, _), (0, _), (1, _), (2, _)]) C kd_Cd_emit_4 rfl (by decide) rfl rfl ?_
  refine zk_iload_n C kd_Cd_emit_5 rfl 0 rfl rfl ?_
  refine zk_sipush (v := 4000) C kd_Cd_emit_6 (by decide) rfl ?_
  refine zk_icmp_ge (tgt := 41) C kd_Cd_emit_9 (by decide) rfl (fun b1 => ?_) (fun b1 => ?_)
  · replace e := zd_pos b1 e
    refine zk_lvs (lv' := [(0, .ref (S.1 41)), (3, .int (h.1 41 5))]) [1, 0] rfl ?_
    exact zb_Cd_emit_41 C hR h (h.1 41 5) e
  · replace e := zd_neg b1 e
    refine zk_aload_n C kd_Cd_emit_12 rfl 1 rfl rfl ?_
    refine zs_get (v := .ref (S.1 42)) C 41 0 rfl rfl rfl rfl ki_Cd (by decide) kw401 kd_Cd_emit_13 rfl ?_
    refine zk_iload_n C kd_Cd_emit_16 rfl 0 rfl rfl ?_
    refine zk_iload_n C kd_Cd_emit_17 rfl 2 rfl rfl ?_
    refine zk_i2b C kd_Cd_emit_18 rfl ?_
    obtain ⟨q2, e⟩ := zd_g e
    refine zs_bast C 42 rfl (zd_vp q2) kd_Cd_emit_19 rfl ?_
    refine zk_aload_n C kd_Cd_emit_20 rfl 1 rfl rfl ?_
    refine zs_get (v := .ref (S.1 43)) C 41 1 rfl rfl rfl rfl ki_Cd (by decide) kw404 kd_Cd_emit_21 rfl ?_
    refine zk_iload_n C kd_Cd_emit_24 rfl 0 rfl rfl ?_
    refine zk_iload_n C kd_Cd_emit_25 rfl 3 rfl rfl ?_
    refine zs_iast C 43 rfl (zd_vp q2) kd_Cd_emit_26 rfl ?_
    refine zk_aload_n C kd_Cd_emit_27 rfl 1 rfl rfl ?_
    refine zs_get (v := .ref (S.1 44)) C 41 2 rfl rfl rfl rfl ki_Cd (by decide) kw407 kd_Cd_emit_28 rfl ?_
    refine zk_iload_n C kd_Cd_emit_31 rfl 0 rfl rfl ?_
    refine zk_iconst (v := 0) C kd_Cd_emit_32 (by decide) rfl ?_
    refine zs_iast C 44 rfl (zd_vp q2) kd_Cd_emit_33 rfl ?_
    refine zk_aload_n C kd_Cd_emit_34 rfl 1 rfl rfl ?_
    refine zs_get (v := .ref (S.1 45)) C 41 3 rfl rfl rfl rfl ki_Cd (by decide) kw410 kd_Cd_emit_35 rfl ?_
    refine zk_iload_n C kd_Cd_emit_38 rfl 0 rfl rfl ?_
    refine zk_iconst (v := 0) C kd_Cd_emit_39 (by decide) rfl ?_
    refine zs_iast C 45 rfl (zd_vp q2) kd_Cd_emit_40 rfl ?_
    refine zk_lvs (lv' := [(0, .ref (S.1 41)), (3, .int (h.1 41 5))]) [1, 0] rfl ?_
    exact zb_Cd_emit_41 C hR (zs_uM (zs_uM (zs_uM (zs_uM h 42 (h.1 41 5).toNatClampNeg (vp_nar .byte (x1.toInt8.toInt32))) 43 (h.1 41 5).toNatClampNeg x2) 44 (h.1 41 5).toNatClampNeg 0) 45 (h.1 41 5).toNatClampNeg 0) (h.1 41 5) e
set_option maxHeartbeats 4000000 in
set_option maxRecDepth 100000 in
theorem zb_Cr_beginFunction_97 {X : zkj_T} {S : zs_T} {P : ze_T} {l : Launch} {D : va_G} {sz0 : Nat} {rh : zs_H} (C : zk_C X km_Cr_beginFunction (zs_G S l D sz0) { frames := 1, cells := 0, slots := 0, locals := 23 } (ze_E P)) (hR : zkj_R X (zd_PV S rh) (none)) {k33 : zs_H → Int32 → (Option zs_H)} (hk33 : ∀ (h : zs_H) (x1 : Int32), k33 h x1 = some rh → zk_Ab X (zs_W S h) 0 0 33 [(0, .ref (S.1 47)), (1, .int x1)] []) (h : zs_H) (x1 : Int32) (e : f_Cr_beginFunction_97 k33 h x1 = some rh) : zk_Ab X (zs_W S h) 0 0 97 [(0, .ref (S.1 47)), (1, .int x1)] [] := by
  unfold f_Cr_beginFunction_97 at e
  refine zk_iinc (v := (x1 + 1)) (lv' := [(1, _), (0, _)]) C kd_Cr_beginFunction_97 1 rfl rfl (by decide) rfl rfl ?_
  refine zk_goto (tgt := 33) C kd_Cr_beginFunction_100 (by decide) ?_
  refine zk_lvs (lv' := [(0, .ref (S.1 47)), (1, .int (x1 + 1))]) [1, 0] rfl ?_
  exact hk33 h (x1 + 1) e
set_option maxHeartbeats 4000000 in
set_option maxRecDepth 100000 in
theorem zb_Cr_beginFunction_33 {X : zkj_T} {S : zs_T} {P : ze_T} {l : Launch} {D : va_G} {sz0 : Nat} {rh : zs_H} (C : zk_C X km_Cr_beginFunction (zs_G S l D sz0) { frames := 1, cells := 0, slots := 0, locals := 23 } (ze_E P)) (hR : zkj_R X (zd_PV S rh) (none)) {k33 : zs_H → Int32 → (Option zs_H)} (hk33 : ∀ (h : zs_H) (x1 : Int32), k33 h x1 = some rh → zk_Ab X (zs_W S h) 0 0 33 [(0, .ref (S.1 47)), (1, .int x1)] []) (h : zs_H) (x1 : Int32) (e : f_Cr_beginFunction_33 k33 h x1 = some rh) : zk_Ab X (zs_W S h) 0 0 33 [(0, .ref (S.1 47)), (1, .int x1)] [] := by
  unfold f_Cr_beginFunction_33 at e
  refine zk_iload_n C kd_Cr_beginFunction_33 rfl 1 rfl rfl ?_
  refine zk_aload_n C kd_Cr_beginFunction_34 rfl 0 rfl rfl ?_
  refine zs_get (v := .ref (S.1 20)) C 47 1 rfl rfl rfl rfl ki_Cr (by decide) kw443 kd_Cr_beginFunction_35 rfl ?_
  refine zs_get (v := .ref (S.1 24)) C 20 3 rfl rfl rfl rfl ki_Pl (by decide) kw244 kd_Cr_beginFunction_38 rfl ?_
  refine zk_aload_n C kd_Cr_beginFunction_41 rfl 0 rfl rfl ?_
  refine zs_get (v := .int (h.1 47 3)) C 47 3 rfl rfl rfl rfl ki_Cr (by decide) kw445 kd_Cr_beginFunction_42 rfl ?_
  obtain ⟨q1, e⟩ := zd_g e
  refine zs_iald C 24 rfl (zd_vp q1) kd_Cr_beginFunction_45 rfl ?_
  refine zk_icmp_ge (tgt := 103) C kd_Cr_beginFunction_46 (by decide) rfl (fun b2 => ?_) (fun b2 => ?_)
  · replace e := zd_pos b2 e
    exact zk_vret C hR kd_Cr_beginFunction_103 rfl rfl (zd_rV e)
  · replace e := zd_neg b2 e
    refine zk_aload_n C kd_Cr_beginFunction_49 rfl 0 rfl rfl ?_
    refine zs_get (v := .ref (S.1 20)) C 47 1 rfl rfl rfl rfl ki_Cr (by decide) kw443 kd_Cr_beginFunction_50 rfl ?_
    refine zs_get (v := .ref (S.1 29)) C 20 8 rfl rfl rfl rfl ki_Pl (by decide) kw258 kd_Cr_beginFunction_53 rfl ?_
    refine zk_iload_n C kd_Cr_beginFunction_56 rfl 1 rfl rfl ?_
    obtain ⟨q3, e⟩ := zd_g e
    refine zs_iald C 29 rfl (zd_vp q3) kd_Cr_beginFunction_57 rfl ?_
    refine zk_if_ne (tgt := 97) C kd_Cr_beginFunction_58 (by decide) rfl (fun b4 => ?_) (fun b4 => ?_)
    · replace e := zd_neg b4 e
      refine zk_lvs (lv' := [(0, .ref (S.1 47)), (1, .int x1)]) [0, 1] rfl ?_
      exact zb_Cr_beginFunction_97 C hR hk33 h x1 e
    · replace e := zd_pos b4 e
      refine zk_aload_n C kd_Cr_beginFunction_61 rfl 0 rfl rfl ?_
      refine zs_get (v := .ref (S.1 41)) C 47 2 rfl rfl rfl rfl ki_Cr (by decide) kw444 kd_Cr_beginFunction_62 rfl ?_
      refine zk_iconst (v := 0) C kd_Cr_beginFunction_65 (by decide) rfl ?_
      refine zk_aload_n C kd_Cr_beginFunction_66 rfl 0 rfl rfl ?_
      refine zs_get (v := .ref (S.1 20)) C 47 1 rfl rfl rfl rfl ki_Cr (by decide) kw443 kd_Cr_beginFunction_67 rfl ?_
      refine zs_get (v := .ref (S.1 35)) C 20 14 rfl rfl rfl rfl ki_Pl (by decide) kw283 kd_Cr_beginFunction_70 rfl ?_
      refine zk_iload_n C kd_Cr_beginFunction_73 rfl 1 rfl rfl ?_
      refine zs_iald C 35 rfl (zd_vp q3) kd_Cr_beginFunction_74 rfl ?_
      obtain ⟨v6, h7, c5, e⟩ := zd_Be e
      refine zs_callV (k := 41) (rn := { frames := 0, cells := 0, slots := 0, locals := 0 }) (As := [.int 0, .int (h.2.1 35 x1.toNatClampNeg)]) (rest := []) C (zc_Cd_emit h 0 (h.2.1 35 x1.toNatClampNeg) c5) ku_Cd_emit kw1278 kv_Cd_emit rfl ⟨by decide, by decide⟩ ⟨by decide, by decide⟩ rfl rfl rfl (Nat.le_of_ble_eq_true rfl) kd_Cr_beginFunction_75 rfl (c1 := 0) (s1 := 0) rfl rfl (fun v w hp => ?_)
      obtain ⟨rfl, rfl⟩ := hp
      refine zk_stk (r' := [.int v6]) rfl ?_
      refine zk_pop C kd_Cr_beginFunction_78 rfl rfl ?_
      refine zk_aload_n C kd_Cr_beginFunction_79 rfl 0 rfl rfl ?_
      refine zs_get (v := .ref (S.1 41)) C 47 2 rfl rfl rfl rfl ki_Cr (by decide) kw444 kd_Cr_beginFunction_80 rfl ?_
      refine zk_iconst (v := 2) C kd_Cr_beginFunction_83 (by decide) rfl ?_
      refine zk_aload_n C kd_Cr_beginFunction_84 rfl 0 rfl rfl ?_
      refine zs_get (v := .ref (S.1 20)) C 47 1 rfl rfl rfl rfl ki_Cr (by decide) kw443 kd_Cr_beginFunction_85 rfl ?_
      refine zs_get (v := .ref (S.1 32)) C 20 11 rfl rfl rfl rfl ki_Pl (by decide) kw269 kd_Cr_beginFunction_88 rfl ?_
      refine zk_iload_n C kd_Cr_beginFunction_91 rfl 1 rfl rfl ?_
      obtain ⟨q8, e⟩ := zd_g e
      refine zs_iald C 32 rfl (zd_vp q8) kd_Cr_beginFunction_92 rfl ?_
      obtain ⟨v10, h11, c9, e⟩ := zd_Be e
      refine zs_callV (k := 41) (rn := { frames := 0, cells := 0, slots := 0, locals := 0 }) (As := [.int 2, .int (h7.2.1 32 x1.toNatClampNeg)]) (rest := []) C (zc_Cd_emit h7 2 (h7.2.1 32 x1.toNatClampNeg) c9) ku_Cd_emit kw1278 kv_Cd_emit rfl ⟨by decide, by decide⟩ ⟨by decide, by decide⟩ rfl rfl rfl (Nat.le_of_ble_eq_true rfl) kd_Cr_beginFunction_93 rfl (c1 := 0) (s1 := 0) rfl rfl (fun v w hp => ?_)
      obtain ⟨rfl, rfl⟩ := hp
      refine zk_stk (r' := [.int v10]) rfl ?_
      refine zk_pop C kd_Cr_beginFunction_96 rfl rfl ?_
      refine zk_lvs (lv' := [(0, .ref (S.1 47)), (1, .int x1)]) [0, 1] rfl ?_
      exact zb_Cr_beginFunction_97 C hR hk33 h11 x1 e
theorem zl_Cr_beginFunction_33 {X : zkj_T} {S : zs_T} {P : ze_T} {l : Launch} {D : va_G} {sz0 : Nat} {rh : zs_H} (C : zk_C X km_Cr_beginFunction (zs_G S l D sz0) { frames := 1, cells := 0, slots := 0, locals := 23 } (ze_E P)) (hR : zkj_R X (zd_PV S rh) (none)) (n : Nat) : ∀ (h : zs_H) (x1 : Int32), f_Cr_beginFunction_L33 n h x1 = some rh → zk_Ab X (zs_W S h) 0 0 33 [(0, .ref (S.1 47)), (1, .int x1)] [] := by
  induction n with
  | zero => intro h x1 e; exact zd_no e
  | succ n ih => intro h x1 e; exact zb_Cr_beginFunction_33 (k33 := f_Cr_beginFunction_L33  n) C hR ih h x1 e
set_option maxHeartbeats 4000000 in
set_option maxRecDepth 100000 in
theorem zc_Cr_beginFunction {l : Launch} {D : va_G} {sz0 : Nat} {S : zs_T} {P : ze_T} (h : zs_H) {rh : zs_H} (e : f_Cr_beginFunction h = some rh) : zk_Sp (zs_G S l D sz0) (ze_E P) km_Cr_beginFunction { frames := 1, cells := 0, slots := 0, locals := 23 } [.ref (S.1 47)] (zs_W S h) (zd_PV S rh) := by
  refine zk_met ku_Cr_beginFunction (Nat.le_of_ble_eq_true rfl) (ze_Em P) ?_
  intro X C hR
  refine zk_lvs (lv' := [(0, .ref (S.1 47))]) [0] rfl ?_
  unfold f_Cr_beginFunction at e
  refine zk_aload_n C kd_Cr_beginFunction_0 rfl 0 rfl rfl ?_
  refine zs_get (v := .ref (S.1 41)) C 47 2 rfl rfl rfl rfl ki_Cr (by decide) kw444 kd_Cr_beginFunction_1 rfl ?_
  refine zk_iconst (v := 0) C kd_Cr_beginFunction_4 (by decide) rfl ?_
  refine zk_iconst (v := 0) C kd_Cr_beginFunction_5 (by decide) rfl ?_
  obtain ⟨v2, h3, c1, e⟩ := zd_Be e
  refine zs_callV (k := 41) (rn := { frames := 0, cells := 0, slots := 0, locals := 0 }) (As := [.int 0, .int 0]) (rest := []) C (zc_Cd_emit h 0 0 c1) ku_Cd_emit kw1278 kv_Cd_emit rfl ⟨by decide, by decide⟩ ⟨by decide, by decide⟩ rfl rfl rfl (Nat.le_of_ble_eq_true rfl) kd_Cr_beginFunction_6 rfl (c1 := 0) (s1 := 0) rfl rfl (fun v w hp => ?_)
  obtain ⟨rfl, rfl⟩ := hp
  refine zk_stk (r' := [.int v2]) rfl ?_
  refine zk_pop C kd_Cr_beginFunction_9 rfl rfl ?_
  refine zk_aload_n C kd_Cr_beginFunction_10 rfl 0 rfl rfl ?_
  refine zs_get (v := .ref (S.1 41)) C 47 2 rfl rfl rfl rfl ki_Cr (by decide) kw444 kd_Cr_beginFunction_11 rfl ?_
  refine zk_iconst (v := 2) C kd_Cr_beginFunction_14 (by decide) rfl ?_
  refine zk_iconst (v := 0) C kd_Cr_beginFunction_15 (by decide) rfl ?_
  obtain ⟨v5, h6, c4, e⟩ := zd_Be e
  refine zs_callV (k := 41) (rn := { frames := 0, cells := 0, slots := 0, locals := 0 }) (As := [.int 2, .int 0]) (rest := []) C (zc_Cd_emit h3 2 0 c4) ku_Cd_emit kw1278 kv_Cd_emit rfl ⟨by decide, by decide⟩ ⟨by decide, by decide⟩ rfl rfl rfl (Nat.le_of_ble_eq_true rfl) kd_Cr_beginFunction_16 rfl (c1 := 0) (s1 := 0) rfl rfl (fun v w hp => ?_)
  obtain ⟨rfl, rfl⟩ := hp
  refine zk_stk (r' := [.int v5]) rfl ?_
  refine zk_pop C kd_Cr_beginFunction_19 rfl rfl ?_
  refine zk_aload_n C kd_Cr_beginFunction_20 rfl 0 rfl rfl ?_
  refine zs_get (v := .ref (S.1 20)) C 47 1 rfl rfl rfl rfl ki_Cr (by decide) kw443 kd_Cr_beginFunction_21 rfl ?_
  refine zs_get (v := .ref (S.1 23)) C 20 2 rfl rfl rfl rfl ki_Pl (by decide) kw240 kd_Cr_beginFunction_24 rfl ?_
  refine zk_aload_n C kd_Cr_beginFunction_27 rfl 0 rfl rfl ?_
  refine zs_get (v := .int (h6.1 47 3)) C 47 3 rfl rfl rfl rfl ki_Cr (by decide) kw445 kd_Cr_beginFunction_28 rfl ?_
  obtain ⟨q7, e⟩ := zd_g e
  refine zs_iald C 23 rfl (zd_vp q7) kd_Cr_beginFunction_31 rfl ?_
  refine zk_istore_n (lv' := [(1, _), (0, _)]) C kd_Cr_beginFunction_32 rfl (by decide) rfl rfl ?_
  refine zk_lvs (lv' := [(0, .ref (S.1 47)), (1, .int (h6.2.1 23 (h6.1 47 3).toNatClampNeg))]) [1, 0] rfl ?_
  exact zl_Cr_beginFunction_33 C hR zF h6 (h6.2.1 23 (h6.1 47 3).toNatClampNeg) e
set_option maxHeartbeats 4000000 in
set_option maxRecDepth 100000 in
theorem zc_Cd_with {l : Launch} {D : va_G} {sz0 : Nat} {S : zs_T} {P : ze_T} (h : zs_H) (x1 : Int32) (x2 : Int32) {rh : zs_H} (e : f_Cd_with h x1 x2 = some rh) : zk_Sp (zs_G S l D sz0) (ze_E P) km_Cd_with { frames := 0, cells := 0, slots := 0, locals := 0 } [.ref (S.1 41), .int x1, .int x2] (zs_W S h) (zd_PV S rh) := by
  refine zk_met ku_Cd_with (Nat.le_of_ble_eq_true rfl) (ze_Em P) ?_
  intro X C hR
  refine zk_lvs (lv' := [(0, .ref (S.1 41)), (1, .int x1), (2, .int x2)]) [0, 1, 2] rfl ?_
  unfold f_Cd_with at e
  refine zk_aload_n C kd_Cd_with_0 rfl 0 rfl rfl ?_
  refine zs_get (v := .int (h.1 41 5)) C 41 5 rfl rfl rfl rfl ki_Cd (by decide) kw415 kd_Cd_with_1 rfl ?_
  refine zk_if_le (tgt := 41) C kd_Cd_with_4 (by decide) rfl (fun b1 => ?_) (fun b1 => ?_)
  · replace e := zd_pos b1 e
    exact zk_vret C hR kd_Cd_with_41 rfl rfl (zd_rV e)
  · replace e := zd_neg b1 e
    refine zk_aload_n C kd_Cd_with_7 rfl 0 rfl rfl ?_
    refine zs_get (v := .int (h.1 41 5)) C 41 5 rfl rfl rfl rfl ki_Cd (by decide) kw415 kd_Cd_with_8 rfl ?_
    refine zk_sipush (v := 4000) C kd_Cd_with_11 (by decide) rfl ?_
    refine zk_icmp_gt (tgt := 41) C kd_Cd_with_14 (by decide) rfl (fun b2 => ?_) (fun b2 => ?_)
    · replace e := zd_pos b2 e
      exact zk_vret C hR kd_Cd_with_41 rfl rfl (zd_rV e)
    · replace e := zd_neg b2 e
      refine zk_aload_n C kd_Cd_with_17 rfl 0 rfl rfl ?_
      refine zs_get (v := .ref (S.1 44)) C 41 2 rfl rfl rfl rfl ki_Cd (by decide) kw407 kd_Cd_with_18 rfl ?_
      refine zk_aload_n C kd_Cd_with_21 rfl 0 rfl rfl ?_
      refine zs_get (v := .int (h.1 41 5)) C 41 5 rfl rfl rfl rfl ki_Cd (by decide) kw415 kd_Cd_with_22 rfl ?_
      refine zk_iconst (v := 1) C kd_Cd_with_25 (by decide) rfl ?_
      refine zk_isub C kd_Cd_with_26 rfl ?_
      refine zk_iload_n C kd_Cd_with_27 rfl 1 rfl rfl ?_
      obtain ⟨q3, e⟩ := zd_g e
      refine zs_iast C 44 rfl (zd_vp q3) kd_Cd_with_28 rfl ?_
      refine zk_aload_n C kd_Cd_with_29 rfl 0 rfl rfl ?_
      refine zs_get (v := .ref (S.1 45)) C 41 3 rfl rfl rfl rfl ki_Cd (by decide) kw410 kd_Cd_with_30 rfl ?_
      refine zk_aload_n C kd_Cd_with_33 rfl 0 rfl rfl ?_
      refine zs_get (v := .int (h.1 41 5)) C 41 5 rfl rfl rfl rfl ki_Cd (by decide) kw415 kd_Cd_with_34 rfl ?_
      refine zk_iconst (v := 1) C kd_Cd_with_37 (by decide) rfl ?_
      refine zk_isub C kd_Cd_with_38 rfl ?_
      refine zk_iload_n C kd_Cd_with_39 rfl 2 rfl rfl ?_
      refine zs_iast C 45 rfl (zd_vp q3) kd_Cd_with_40 rfl ?_
      exact zk_vret C hR kd_Cd_with_41 rfl rfl (zd_rV e)
set_option maxHeartbeats 4000000 in
set_option maxRecDepth 100000 in
theorem zb_Cd_joinHere_4 {X : zkj_T} {S : zs_T} {P : ze_T} {l : Launch} {D : va_G} {sz0 : Nat} {rh : zs_H} (C : zk_C X km_Cd_joinHere (zs_G S l D sz0) { frames := 0, cells := 0, slots := 0, locals := 0 } (ze_E P)) (hR : zkj_R X (zd_PV S rh) (none)) {k4 : zs_H → Int32 → Int32 → (Option zs_H)} (hk4 : ∀ (h : zs_H) (x2 : Int32) (x3 : Int32), k4 h x2 x3 = some rh → zk_Ab X (zs_W S h) 0 0 4 [(0, .ref (S.1 41)), (2, .int x2), (3, .int x3)] []) (h : zs_H) (x2 : Int32) (x3 : Int32) (e : f_Cd_joinHere_4 k4 h x2 x3 = some rh) : zk_Ab X (zs_W S h) 0 0 4 [(0, .ref (S.1 41)), (2, .int x2), (3, .int x3)] [] := by
  unfold f_Cd_joinHere_4 at e
  refine zk_iload_n C kd_Cd_joinHere_4 rfl 2 rfl rfl ?_
  refine zk_sipush (v := 4000) C kd_Cd_joinHere_5 (by decide) rfl ?_
  refine zk_icmp_ge (tgt := 49) C kd_Cd_joinHere_8 (by decide) rfl (fun b1 => ?_) (fun b1 => ?_)
  · replace e := zd_pos b1 e
    exact zk_vret C hR kd_Cd_joinHere_49 rfl rfl (zd_rV e)
  · replace e := zd_neg b1 e
    refine zk_iload_n C kd_Cd_joinHere_11 rfl 1 rfl rfl ?_
    refine zk_if_lt (tgt := 49) C kd_Cd_joinHere_12 (by decide) rfl (fun b2 => ?_) (fun b2 => ?_)
    · replace e := zd_pos b2 e
      exact zk_vret C hR kd_Cd_joinHere_49 rfl rfl (zd_rV e)
    · replace e := zd_neg b2 e
      refine zk_iload_n C kd_Cd_joinHere_15 rfl 1 rfl rfl ?_
      refine zk_sipush (v := 4000) C kd_Cd_joinHere_16 (by decide) rfl ?_
      refine zk_icmp_ge (tgt := 49) C kd_Cd_joinHere_19 (by decide) rfl (fun b3 => ?_) (fun b3 => ?_)
      · replace e := zd_pos b3 e
        exact zk_vret C hR kd_Cd_joinHere_49 rfl rfl (zd_rV e)
      · replace e := zd_neg b3 e
        refine zk_aload_n C kd_Cd_joinHere_22 rfl 0 rfl rfl ?_
        refine zs_get (v := .ref (S.1 43)) C 41 1 rfl rfl rfl rfl ki_Cd (by decide) kw404 kd_Cd_joinHere_23 rfl ?_
        refine zk_iload_n C kd_Cd_joinHere_26 rfl 1 rfl rfl ?_
        obtain ⟨q4, e⟩ := zd_g e
        refine zs_iald C 43 rfl (zd_vp q4) kd_Cd_joinHere_27 rfl ?_
        refine zk_istore (lv' := [(4, _), (0, _), (2, _), (3, _)]) C kd_Cd_joinHere_28 (by decide) rfl rfl ?_
        refine zk_aload_n C kd_Cd_joinHere_30 rfl 1 rfl rfl ?_
        refine zs_get (v := .ref (S.1 43)) C 41 1 rfl rfl rfl rfl ki_Cd (by decide) kw404 kd_Cd_joinHere_31 rfl ?_
        refine zk_iload_n C kd_Cd_joinHere_34 rfl 2 rfl rfl ?_
        refine zk_aload_n C kd_Cd_joinHere_35 rfl 1 rfl rfl ?_
        refine zs_get (v := .int (h.1 41 5)) C 41 5 rfl rfl rfl rfl ki_Cd (by decide) kw415 kd_Cd_joinHere_36 rfl ?_
        refine zs_iast C 43 rfl (zd_vp q4) kd_Cd_joinHere_39 rfl ?_
        refine zk_iload C kd_Cd_joinHere_40 0 rfl rfl ?_
        refine zk_istore_n (lv' := [(2, _), (4, _), (0, _), (3, _)]) C kd_Cd_joinHere_42 rfl (by decide) rfl rfl ?_
        refine zk_iinc (v := (x3 + 1)) (lv' := [(3, _), (2, _), (4, _), (0, _)]) C kd_Cd_joinHere_43 3 rfl rfl (by decide) rfl rfl ?_
        refine zk_goto (tgt := 4) C kd_Cd_joinHere_46 (by decide) ?_
        refine zk_lvs (lv' := [(0, .ref (S.1 41)), (2, .int (h.2.1 43 x2.toNatClampNeg)), (3, .int (x3 + 1))]) [3, 1, 0] rfl ?_
        exact hk4 (zs_uM h 43 x2.toNatClampNeg (h.1 41 5)) (h.2.1 43 x2.toNatClampNeg) (x3 + 1) e
theorem zl_Cd_joinHere_4 {X : zkj_T} {S : zs_T} {P : ze_T} {l : Launch} {D : va_G} {sz0 : Nat} {rh : zs_H} (C : zk_C X km_Cd_joinHere (zs_G S l D sz0) { frames := 0, cells := 0, slots := 0, locals := 0 } (ze_E P)) (hR : zkj_R X (zd_PV S rh) (none)) (n : Nat) : ∀ (h : zs_H) (x2 : Int32) (x3 : Int32), f_Cd_joinHere_L4 n h x2 x3 = some rh → zk_Ab X (zs_W S h) 0 0 4 [(0, .ref (S.1 41)), (2, .int x2), (3, .int x3)] [] := by
  induction n with
  | zero => intro h x2 x3 e; exact zd_no e
  | succ n ih => intro h x2 x3 e; exact zb_Cd_joinHere_4 (k4 := f_Cd_joinHere_L4  n) C hR ih h x2 x3 e
set_option maxHeartbeats 4000000 in
set_option maxRecDepth 100000 in
theorem zc_Cd_joinHere {l : Launch} {D : va_G} {sz0 : Nat} {S : zs_T} {P : ze_T} (h : zs_H) (x1 : Int32) {rh : zs_H} (e : f_Cd_joinHere h x1 = some rh) : zk_Sp (zs_G S l D sz0) (ze_E P) km_Cd_joinHere { frames := 0, cells := 0, slots := 0, locals := 0 } [.ref (S.1 41), .int x1] (zs_W S h) (zd_PV S rh) := by
  refine zk_met ku_Cd_joinHere (Nat.le_of_ble_eq_true rfl) (ze_Em P) ?_
  intro X C hR
  refine zk_lvs (lv' := [(0, .ref (S.1 41)), (1, .int x1)]) [0, 1] rfl ?_
  unfold f_Cd_joinHere at e
  refine zk_iload_n C kd_Cd_joinHere_0 rfl 1 rfl rfl ?_
  refine zk_istore_n (lv' := [(2, _), (0, _), (1, _)]) C kd_Cd_joinHere_1 rfl (by decide) rfl rfl ?_
  refine zk_iconst (v := 0) C kd_Cd_joinHere_2 (by decide) rfl ?_
  refine zk_istore_n (lv' := [(3, _), (2, _), (0, _), (1, _)]) C kd_Cd_joinHere_3 rfl (by decide) rfl rfl ?_
  refine zk_lvs (lv' := [(0, .ref (S.1 41)), (2, .int x1), (3, .int 0)]) [2, 1, 0] rfl ?_
  exact zl_Cd_joinHere_4 C hR zF h x1 0 e
set_option maxHeartbeats 4000000 in
set_option maxRecDepth 100000 in
theorem zc_Cr_cellOf {l : Launch} {D : va_G} {sz0 : Nat} {S : zs_T} {P : ze_T} (h : zs_H) (x1 : Int32) {rv : Int32} (e : f_Cr_cellOf h x1 = some rv) : zk_Sp (zs_G S l D sz0) (ze_E P) km_Cr_cellOf { frames := 0, cells := 0, slots := 0, locals := 0 } [.ref (S.1 47), .int x1] (zs_W S h) (zd_PI S rv h) := by
  refine zk_met ku_Cr_cellOf (Nat.le_of_ble_eq_true rfl) (ze_Em P) ?_
  intro X C hR
  refine zk_lvs (lv' := [(0, .ref (S.1 47)), (1, .int x1)]) [0, 1] rfl ?_
  unfold f_Cr_cellOf at e
  refine zk_aload_n C kd_Cr_cellOf_0 rfl 0 rfl rfl ?_
  refine zs_get (v := .ref (S.1 20)) C 47 1 rfl rfl rfl rfl ki_Cr (by decide) kw443 kd_Cr_cellOf_1 rfl ?_
  refine zs_get (v := .ref (S.1 32)) C 20 11 rfl rfl rfl rfl ki_Pl (by decide) kw269 kd_Cr_cellOf_4 rfl ?_
  refine zk_aload_n C kd_Cr_cellOf_7 rfl 0 rfl rfl ?_
  refine zs_get (v := .ref (S.1 12)) C 47 0 rfl rfl rfl rfl ki_Cr (by decide) kw442 kd_Cr_cellOf_8 rfl ?_
  refine zs_get (v := .ref (S.1 16)) C 12 3 rfl rfl rfl rfl ki_Tr (by decide) kw167 kd_Cr_cellOf_11 rfl ?_
  refine zk_iload_n C kd_Cr_cellOf_14 rfl 1 rfl rfl ?_
  obtain ⟨q1, e⟩ := zd_g e
  refine zs_iald C 16 rfl (zd_vp q1) kd_Cr_cellOf_15 rfl ?_
  obtain ⟨q2, e⟩ := zd_g e
  refine zs_iald C 32 rfl (zd_vp q2) kd_Cr_cellOf_16 rfl ?_
  refine zk_istore_n (lv' := [(2, _), (0, _), (1, _)]) C kd_Cr_cellOf_17 rfl (by decide) rfl rfl ?_
  refine zk_aload_n C kd_Cr_cellOf_18 rfl 1 rfl rfl ?_
  refine zs_get (v := .ref (S.1 12)) C 47 0 rfl rfl rfl rfl ki_Cr (by decide) kw442 kd_Cr_cellOf_19 rfl ?_
  refine zs_get (v := .ref (S.1 13)) C 12 0 rfl rfl rfl rfl ki_Tr (by decide) kw156 kd_Cr_cellOf_22 rfl ?_
  refine zk_iload_n C kd_Cr_cellOf_25 rfl 2 rfl rfl ?_
  refine zs_bald C 13 rfl (zd_vp q1) kd_Cr_cellOf_26 rfl ?_
  refine zk_bipush (v := 33) C kd_Cr_cellOf_27 (by decide) rfl ?_
  refine zk_icmp_ne (tgt := 54) C kd_Cr_cellOf_29 (by decide) rfl (fun b3 => ?_) (fun b3 => ?_)
  · replace e := zd_neg b3 e
    refine zk_iload_n C kd_Cr_cellOf_54 rfl 0 rfl rfl ?_
    exact zk_iret C hR kd_Cr_cellOf_55 rfl rfl (zd_rIO e)
  · replace e := zd_pos b3 e
    refine zk_iload_n C kd_Cr_cellOf_32 rfl 0 rfl rfl ?_
    refine zk_aload_n C kd_Cr_cellOf_33 rfl 1 rfl rfl ?_
    refine zs_get (v := .ref (S.1 12)) C 47 0 rfl rfl rfl rfl ki_Cr (by decide) kw442 kd_Cr_cellOf_34 rfl ?_
    refine zs_get (v := .ref (S.1 16)) C 12 3 rfl rfl rfl rfl ki_Tr (by decide) kw167 kd_Cr_cellOf_37 rfl ?_
    refine zk_aload_n C kd_Cr_cellOf_40 rfl 1 rfl rfl ?_
    refine zs_get (v := .ref (S.1 12)) C 47 0 rfl rfl rfl rfl ki_Cr (by decide) kw442 kd_Cr_cellOf_41 rfl ?_
    refine zs_get (v := .ref (S.1 17)) C 12 4 rfl rfl rfl rfl ki_Tr (by decide) kw171 kd_Cr_cellOf_44 rfl ?_
    refine zk_iload_n C kd_Cr_cellOf_47 rfl 2 rfl rfl ?_
    refine zs_iald C 17 rfl (zd_vp q1) kd_Cr_cellOf_48 rfl ?_
    obtain ⟨q4, e⟩ := zd_g e
    refine zs_iald C 16 rfl (zd_vp q4) kd_Cr_cellOf_49 rfl ?_
    refine zk_iadd C kd_Cr_cellOf_50 rfl ?_
    refine zk_goto (tgt := 55) C kd_Cr_cellOf_51 (by decide) ?_
    exact zk_iret C hR kd_Cr_cellOf_55 rfl rfl (zd_rIO e)
