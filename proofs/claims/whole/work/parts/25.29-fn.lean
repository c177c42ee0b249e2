theorem kw177 : Jvm.Cond.fieldLink "PlantKeeper$Judge" (52 : Nat) "PlantKeeper$Tree" "size" "I" ∈ zk_BW := zk_inT 177 (by decide +kernel) rfl
theorem kw235 : Jvm.Cond.fieldLink "PlantKeeper$Judge" (219 : Nat) "PlantKeeper$Plan" "kind" "[I" ∈ zk_BW := zk_inT 235 (by decide +kernel) rfl
theorem kw242 : Jvm.Cond.fieldLink "PlantKeeper$Judge" (270 : Nat) "PlantKeeper$Plan" "first" "[I" ∈ zk_BW := zk_inT 242 (by decide +kernel) rfl
theorem kw256 : Jvm.Cond.fieldLink "PlantKeeper$Judge" (322 : Nat) "PlantKeeper$Plan" "name" "[I" ∈ zk_BW := zk_inT 256 (by decide +kernel) rfl
theorem kw259 : Jvm.Cond.fieldLink "PlantKeeper$Judge" (258 : Nat) "PlantKeeper$Plan" "section" "[I" ∈ zk_BW := zk_inT 259 (by decide +kernel) rfl
theorem kw272 : Jvm.Cond.fieldLink "PlantKeeper$Judge" (252 : Nat) "PlantKeeper$Plan" "cell" "[I" ∈ zk_BW := zk_inT 272 (by decide +kernel) rfl
theorem kw1069 : Jvm.Cond.methodLink "PlantKeeper$Judge" (216 : Nat) ({ cls := "PlantKeeper$Plan", name := "inputs", desc := "(I)I" } : Jvm.MethodName) ∈ zk_BW := zk_inT 1069 (by decide +kernel) rfl
theorem kw1070 : Jvm.Cond.instanceMethod ({ cls := "PlantKeeper$Plan", name := "inputs", desc := "(I)I" } : Jvm.MethodName) ∈ zk_BW := zk_inT 1070 (by decide +kernel) rfl
theorem kw1071 : Jvm.Cond.selects "PlantKeeper$Plan" ({ cls := "PlantKeeper$Plan", name := "inputs", desc := "(I)I" } : Jvm.MethodName) ({ cls := "PlantKeeper$Plan", name := "inputs", desc := "(I)I" } : Jvm.MethodName) ∈ zk_BW := zk_inT 1071 (by decide +kernel) rfl
theorem kw1072 : Jvm.Cond.code ({ cls := "PlantKeeper$Plan", name := "inputs", desc := "(I)I" } : Jvm.MethodName) prog_9_method_9_code (4 : Nat) (Option.some FieldType.int) ∈ zk_BW := zk_inT 1072 (by decide +kernel) rfl
theorem kw1123 : Jvm.Cond.methodLink "PlantKeeper$Judge" (319 : Nat) ({ cls := "PlantKeeper$Judge", name := "judgeAssigned", desc := "(II)V" } : Jvm.MethodName) ∈ zk_BW := zk_inT 1123 (by decide +kernel) rfl
theorem kw1125 : Jvm.Cond.instanceMethod ({ cls := "PlantKeeper$Judge", name := "judgeAssigned", desc := "(II)V" } : Jvm.MethodName) ∈ zk_BW := zk_inT 1125 (by decide +kernel) rfl
theorem kw1126 : Jvm.Cond.code ({ cls := "PlantKeeper$Judge", name := "judgeAssigned", desc := "(II)V" } : Jvm.MethodName) prog_4_method_33_code (8 : Nat) (Option.none : Option FieldType) ∈ zk_BW := zk_inT 1126 (by decide +kernel) rfl
theorem kw1127 : Jvm.Cond.methodLink "PlantKeeper$Judge" (267 : Nat) ({ cls := "PlantKeeper$Judge", name := "fits", desc := "(II)Z" } : Jvm.MethodName) ∈ zk_BW := zk_inT 1127 (by decide +kernel) rfl
theorem kw1128 : Jvm.Cond.static ({ cls := "PlantKeeper$Judge", name := "fits", desc := "(II)Z" } : Jvm.MethodName) ∈ zk_BW := zk_inT 1128 (by decide +kernel) rfl
theorem kw1129 : Jvm.Cond.code ({ cls := "PlantKeeper$Judge", name := "fits", desc := "(II)Z" } : Jvm.MethodName) prog_4_method_28_code (2 : Nat) (Option.some FieldType.boolean) ∈ zk_BW := zk_inT 1129 (by decide +kernel) rfl
theorem kw1177 : Jvm.Cond.instanceMethod ({ cls := "PlantKeeper$Judge", name := "judgeRung", desc := "(I)V" } : Jvm.MethodName) ∈ zk_BW := zk_inT 1177 (by decide +kernel) rfl
theorem kw1178 : Jvm.Cond.code ({ cls := "PlantKeeper$Judge", name := "judgeRung", desc := "(I)V" } : Jvm.MethodName) prog_4_method_41_code (7 : Nat) (Option.none : Option FieldType) ∈ zk_BW := zk_inT 1178 (by decide +kernel) rfl
theorem kw1179 : Jvm.Cond.methodLink "PlantKeeper$Judge" (337 : Nat) ({ cls := "PlantKeeper$Judge", name := "cellsIn", desc := "(I)I" } : Jvm.MethodName) ∈ zk_BW := zk_inT 1179 (by decide +kernel) rfl
theorem kw1181 : Jvm.Cond.instanceMethod ({ cls := "PlantKeeper$Judge", name := "cellsIn", desc := "(I)I" } : Jvm.MethodName) ∈ zk_BW := zk_inT 1181 (by decide +kernel) rfl
theorem kw1182 : Jvm.Cond.code ({ cls := "PlantKeeper$Judge", name := "cellsIn", desc := "(I)I" } : Jvm.MethodName) prog_4_method_42_code (5 : Nat) (Option.some FieldType.int) ∈ zk_BW := zk_inT 1182 (by decide +kernel) rfl
theorem kw1185 : Jvm.Cond.instanceMethod ({ cls := "PlantKeeper$Judge", name := "judgeContact", desc := "(I)V" } : Jvm.MethodName) ∈ zk_BW := zk_inT 1185 (by decide +kernel) rfl
theorem kw1186 : Jvm.Cond.code ({ cls := "PlantKeeper$Judge", name := "judgeContact", desc := "(I)V" } : Jvm.MethodName) prog_4_method_39_code (2 : Nat) (Option.none : Option FieldType) ∈ zk_BW := zk_inT 1186 (by decide +kernel) rfl
theorem kw1189 : Jvm.Cond.instanceMethod ({ cls := "PlantKeeper$Judge", name := "judgeCoil", desc := "(I)V" } : Jvm.MethodName) ∈ zk_BW := zk_inT 1189 (by decide +kernel) rfl
theorem kw1190 : Jvm.Cond.code ({ cls := "PlantKeeper$Judge", name := "judgeCoil", desc := "(I)V" } : Jvm.MethodName) prog_4_method_40_code (3 : Nat) (Option.none : Option FieldType) ∈ zk_BW := zk_inT 1190 (by decide +kernel) rfl
theorem kw1197 : Jvm.Cond.instanceMethod ({ cls := "PlantKeeper$Judge", name := "judgeCall", desc := "(I)V" } : Jvm.MethodName) ∈ zk_BW := zk_inT 1197 (by decide +kernel) rfl
theorem kw1198 : Jvm.Cond.code ({ cls := "PlantKeeper$Judge", name := "judgeCall", desc := "(I)V" } : Jvm.MethodName) prog_4_method_23_code (8 : Nat) (Option.none : Option FieldType) ∈ zk_BW := zk_inT 1198 (by decide +kernel) rfl
theorem kw1199 : Jvm.Cond.methodLink "PlantKeeper$Judge" (260 : Nat) ({ cls := "PlantKeeper$Judge", name := "judgeStandardCall", desc := "(III)V" } : Jvm.MethodName) ∈ zk_BW := zk_inT 1199 (by decide +kernel) rfl
theorem kw1201 : Jvm.Cond.instanceMethod ({ cls := "PlantKeeper$Judge", name := "judgeStandardCall", desc := "(III)V" } : Jvm.MethodName) ∈ zk_BW := zk_inT 1201 (by decide +kernel) rfl
theorem kw1202 : Jvm.Cond.code ({ cls := "PlantKeeper$Judge", name := "judgeStandardCall", desc := "(III)V" } : Jvm.MethodName) prog_4_method_24_code (13 : Nat) (Option.none : Option FieldType) ∈ zk_BW := zk_inT 1202 (by decide +kernel) rfl
theorem kw1203 : Jvm.Cond.fieldLink "PlantKeeper$Judge" (273 : Nat) "PlantKeeper$Code" "ARGUMENTS" "[I" ∈ zk_BW := zk_inT 1203 (by decide +kernel) rfl
theorem kw1205 : Jvm.Cond.methodLink "PlantKeeper$Judge" (278 : Nat) ({ cls := "PlantKeeper$Judge", name := "standardType", desc := "(IIII)I" } : Jvm.MethodName) ∈ zk_BW := zk_inT 1205 (by decide +kernel) rfl
theorem kw1215 : Jvm.Cond.methodLink "PlantKeeper$Judge" (285 : Nat) ({ cls := "PlantKeeper$Code", name := "standard", desc := "(IIIII)I" } : Jvm.MethodName) ∈ zk_BW := zk_inT 1215 (by decide +kernel) rfl
theorem kw1238 : Jvm.Cond.methodLink "PlantKeeper$Judge" (264 : Nat) ({ cls := "PlantKeeper$Plan", name := "inputFrom", desc := "(II)I" } : Jvm.MethodName) ∈ zk_BW := zk_inT 1238 (by decide +kernel) rfl
theorem kw1239 : Jvm.Cond.instanceMethod ({ cls := "PlantKeeper$Plan", name := "inputFrom", desc := "(II)I" } : Jvm.MethodName) ∈ zk_BW := zk_inT 1239 (by decide +kernel) rfl
theorem kw1240 : Jvm.Cond.selects "PlantKeeper$Plan" ({ cls := "PlantKeeper$Plan", name := "inputFrom", desc := "(II)I" } : Jvm.MethodName) ({ cls := "PlantKeeper$Plan", name := "inputFrom", desc := "(II)I" } : Jvm.MethodName) ∈ zk_BW := zk_inT 1240 (by decide +kernel) rfl
theorem kw1241 : Jvm.Cond.code ({ cls := "PlantKeeper$Plan", name := "inputFrom", desc := "(II)I" } : Jvm.MethodName) prog_9_method_8_code (4 : Nat) (Option.some FieldType.int) ∈ zk_BW := zk_inT 1241 (by decide +kernel) rfl
theorem kw1242 : Jvm.Cond.methodLink "PlantKeeper$Plan" (109 : Nat) ({ cls := "java/lang/Math", name := "max", desc := "(II)I" } : Jvm.MethodName) ∈ zk_BW := zk_inT 1242 (by decide +kernel) rfl
abbrev kc_Jd_cellsIn : ByteArray := prog_4_method_42_code
def km_Jd_cellsIn : zk_MT := (⟨"PlantKeeper$Judge", "cellsIn", "(I)I"⟩, kc_Jd_cellsIn, 5, some .int, 1)
theorem ku_Jd_cellsIn : zk_My km_Jd_cellsIn := ⟨kw1182, kw11, by decide, by decide, by decide, by decide +kernel⟩
theorem kv_Jd_cellsIn : zk_Mv km_Jd_cellsIn := ⟨kw1181, zk_inS 74 (q := (⟨"PlantKeeper$Judge", "cellsIn", "(I)I"⟩, 14)) (by decide +kernel)⟩
abbrev kc_Jd_fits : ByteArray := prog_4_method_28_code
def km_Jd_fits : zk_MT := (⟨"PlantKeeper$Judge", "fits", "(II)Z"⟩, kc_Jd_fits, 2, some .boolean, 2)
theorem ku_Jd_fits : zk_My km_Jd_fits := ⟨kw1129, kw11, by decide, by decide, by decide, by decide +kernel⟩
theorem ks_Jd_fits : Cond.static km_Jd_fits.1 ∈ zk_BW := kw1128
abbrev kc_Jd_judgeAssigned : ByteArray := prog_4_method_33_code
def km_Jd_judgeAssigned : zk_MT := (⟨"PlantKeeper$Judge", "judgeAssigned", "(II)V"⟩, kc_Jd_judgeAssigned, 8, none, 2)
theorem ku_Jd_judgeAssigned : zk_My km_Jd_judgeAssigned := ⟨kw1126, kw11, by decide, by decide, by decide, by decide +kernel⟩
theorem kv_Jd_judgeAssigned : zk_Mv km_Jd_judgeAssigned := ⟨kw1125, zk_inS 66 (q := (⟨"PlantKeeper$Judge", "judgeAssigned", "(II)V"⟩, 14)) (by decide +kernel)⟩
abbrev kc_Jd_judgeCall : ByteArray := prog_4_method_23_code
def km_Jd_judgeCall : zk_MT := (⟨"PlantKeeper$Judge", "judgeCall", "(I)V"⟩, kc_Jd_judgeCall, 8, none, 1)
theorem ku_Jd_judgeCall : zk_My km_Jd_judgeCall := ⟨kw1198, kw11, by decide, by decide, by decide, by decide +kernel⟩
theorem kv_Jd_judgeCall : zk_Mv km_Jd_judgeCall := ⟨kw1197, zk_inS 78 (q := (⟨"PlantKeeper$Judge", "judgeCall", "(I)V"⟩, 14)) (by decide +kernel)⟩
abbrev kc_Jd_judgeCoil : ByteArray := prog_4_method_40_code
def km_Jd_judgeCoil : zk_MT := (⟨"PlantKeeper$Judge", "judgeCoil", "(I)V"⟩, kc_Jd_judgeCoil, 3, none, 1)
theorem ku_Jd_judgeCoil : zk_My km_Jd_judgeCoil := ⟨kw1190, kw11, by decide, by decide, by decide, by decide +kernel⟩
theorem kv_Jd_judgeCoil : zk_Mv km_Jd_judgeCoil := ⟨kw1189, zk_inS 76 (q := (⟨"PlantKeeper$Judge", "judgeCoil", "(I)V"⟩, 14)) (by decide +kernel)⟩
abbrev kc_Jd_judgeContact : ByteArray := prog_4_method_39_code
def km_Jd_judgeContact : zk_MT := (⟨"PlantKeeper$Judge", "judgeContact", "(I)V"⟩, kc_Jd_judgeContact, 2, none, 1)
theorem ku_Jd_judgeContact : zk_My km_Jd_judgeContact := ⟨kw1186, kw11, by decide, by decide, by decide, by decide +kernel⟩
theorem kv_Jd_judgeContact : zk_Mv km_Jd_judgeContact := ⟨kw1185, zk_inS 75 (q := (⟨"PlantKeeper$Judge", "judgeContact", "(I)V"⟩, 14)) (by decide +kernel)⟩
abbrev kc_Jd_judgeRung : ByteArray := prog_4_method_41_code
def km_Jd_judgeRung : zk_MT := (⟨"PlantKeeper$Judge", "judgeRung", "(I)V"⟩, kc_Jd_judgeRung, 7, none, 1)
theorem ku_Jd_judgeRung : zk_My km_Jd_judgeRung := ⟨kw1178, kw11, by decide, by decide, by decide, by decide +kernel⟩
theorem kv_Jd_judgeRung : zk_Mv km_Jd_judgeRung := ⟨kw1177, zk_inS 73 (q := (⟨"PlantKeeper$Judge", "judgeRung", "(I)V"⟩, 14)) (by decide +kernel)⟩
abbrev kc_Jd_judgeStandardCall : ByteArray := prog_4_method_24_code
def km_Jd_judgeStandardCall : zk_MT := (⟨"PlantKeeper$Judge", "judgeStandardCall", "(III)V"⟩, kc_Jd_judgeStandardCall, 13, none, 3)
theorem ku_Jd_judgeStandardCall : zk_My km_Jd_judgeStandardCall := ⟨kw1202, kw11, by decide, by decide, by decide, by decide +kernel⟩
theorem kv_Jd_judgeStandardCall : zk_Mv km_Jd_judgeStandardCall := ⟨kw1201, zk_inS 79 (q := (⟨"PlantKeeper$Judge", "judgeStandardCall", "(III)V"⟩, 14)) (by decide +kernel)⟩
abbrev kc_Pl_inputFrom : ByteArray := prog_9_method_8_code
def km_Pl_inputFrom : zk_MT := (⟨"PlantKeeper$Plan", "inputFrom", "(II)I"⟩, kc_Pl_inputFrom, 4, some .int, 2)
theorem ku_Pl_inputFrom : zk_My km_Pl_inputFrom := ⟨kw1241, kw10, by decide, by decide, by decide, by decide +kernel⟩
theorem kv_Pl_inputFrom : zk_Mv km_Pl_inputFrom := ⟨kw1239, kw1240⟩
abbrev kc_Pl_inputs : ByteArray := prog_9_method_9_code
def km_Pl_inputs : zk_MT := (⟨"PlantKeeper$Plan", "inputs", "(I)I"⟩, kc_Pl_inputs, 4, some .int, 1)
theorem ku_Pl_inputs : zk_My km_Pl_inputs := ⟨kw1072, kw10, by decide, by decide, by decide, by decide +kernel⟩
theorem kv_Pl_inputs : zk_Mv km_Pl_inputs := ⟨kw1070, kw1071⟩
theorem kd_Jd_cellsIn_0 : decode kc_Jd_cellsIn 0 = .ok (.iconst 0, 1) := by decide +kernel
theorem kd_Jd_cellsIn_1 : decode kc_Jd_cellsIn 1 = .ok (.istore_n 2, 1) := by decide +kernel
theorem kd_Jd_cellsIn_2 : decode kc_Jd_cellsIn 2 = .ok (.aload_n 0, 1) := by decide +kernel
theorem kd_Jd_cellsIn_3 : decode kc_Jd_cellsIn 3 = .ok (.getfield 9, 3) := by decide +kernel
theorem kd_Jd_cellsIn_6 : decode kc_Jd_cellsIn 6 = .ok (.getfield 49, 3) := by decide +kernel
theorem kd_Jd_cellsIn_9 : decode kc_Jd_cellsIn 9 = .ok (.iload_n 1, 1) := by decide +kernel
theorem kd_Jd_cellsIn_10 : decode kc_Jd_cellsIn 10 = .ok (.iaload, 1) := by decide +kernel
theorem kd_Jd_cellsIn_11 : decode kc_Jd_cellsIn 11 = .ok (.istore_n 3, 1) := by decide +kernel
theorem kd_Jd_cellsIn_12 : decode kc_Jd_cellsIn 12 = .ok (.iconst 0, 1) := by decide +kernel
theorem kd_Jd_cellsIn_13 : decode kc_Jd_cellsIn 13 = .ok (.istore 4, 2) := by decide +kernel
theorem kd_Jd_cellsIn_15 : decode kc_Jd_cellsIn 15 = .ok (.iload 4, 2) := by decide +kernel
theorem kd_Jd_cellsIn_17 : decode kc_Jd_cellsIn 17 = .ok (.aload_n 0, 1) := by decide +kernel
theorem kd_Jd_cellsIn_18 : decode kc_Jd_cellsIn 18 = .ok (.getfield 9, 3) := by decide +kernel
theorem kd_Jd_cellsIn_21 : decode kc_Jd_cellsIn 21 = .ok (.getfield 52, 3) := by decide +kernel
theorem kd_Jd_cellsIn_24 : decode kc_Jd_cellsIn 24 = .ok (.if_icmp .ge 46, 3) := by decide +kernel
theorem kd_Jd_cellsIn_27 : decode kc_Jd_cellsIn 27 = .ok (.iload_n 3, 1) := by decide +kernel
theorem kd_Jd_cellsIn_28 : decode kc_Jd_cellsIn 28 = .ok (.iconst (-1), 1) := by decide +kernel
theorem kd_Jd_cellsIn_29 : decode kc_Jd_cellsIn 29 = .ok (.if_icmp .eq 41, 3) := by decide +kernel
theorem kd_Jd_cellsIn_32 : decode kc_Jd_cellsIn 32 = .ok (.iload_n 2, 1) := by decide +kernel
theorem kd_Jd_cellsIn_33 : decode kc_Jd_cellsIn 33 = .ok (.aload_n 0, 1) := by decide +kernel
theorem kd_Jd_cellsIn_34 : decode kc_Jd_cellsIn 34 = .ok (.getfield 9, 3) := by decide +kernel
theorem kd_Jd_cellsIn_37 : decode kc_Jd_cellsIn 37 = .ok (.getfield 71, 3) := by decide +kernel
theorem kd_Jd_cellsIn_40 : decode kc_Jd_cellsIn 40 = .ok (.iload_n 3, 1) := by decide +kernel
theorem kd_Jd_cellsIn_41 : decode kc_Jd_cellsIn 41 = .ok (.baload, 1) := by decide +kernel
theorem kd_Jd_cellsIn_42 : decode kc_Jd_cellsIn 42 = .ok (.bipush 29, 2) := by decide +kernel
theorem kd_Jd_cellsIn_44 : decode kc_Jd_cellsIn 44 = .ok (.if_icmp .ne 7, 3) := by decide +kernel
theorem kd_Jd_cellsIn_47 : decode kc_Jd_cellsIn 47 = .ok (.iconst 0, 1) := by decide +kernel
theorem kd_Jd_cellsIn_48 : decode kc_Jd_cellsIn 48 = .ok (.goto 4, 3) := by decide +kernel
theorem kd_Jd_cellsIn_51 : decode kc_Jd_cellsIn 51 = .ok (.iconst 1, 1) := by decide +kernel
theorem kd_Jd_cellsIn_52 : decode kc_Jd_cellsIn 52 = .ok (.iadd, 1) := by decide +kernel
theorem kd_Jd_cellsIn_53 : decode kc_Jd_cellsIn 53 = .ok (.istore_n 2, 1) := by decide +kernel
theorem kd_Jd_cellsIn_54 : decode kc_Jd_cellsIn 54 = .ok (.aload_n 0, 1) := by decide +kernel
theorem kd_Jd_cellsIn_55 : decode kc_Jd_cellsIn 55 = .ok (.getfield 9, 3) := by decide +kernel
theorem kd_Jd_cellsIn_58 : decode kc_Jd_cellsIn 58 = .ok (.getfield 55, 3) := by decide +kernel
theorem kd_Jd_cellsIn_61 : decode kc_Jd_cellsIn 61 = .ok (.iload_n 3, 1) := by decide +kernel
theorem kd_Jd_cellsIn_62 : decode kc_Jd_cellsIn 62 = .ok (.iaload, 1) := by decide +kernel
theorem kd_Jd_cellsIn_63 : decode kc_Jd_cellsIn 63 = .ok (.istore_n 3, 1) := by decide +kernel
theorem kd_Jd_cellsIn_64 : decode kc_Jd_cellsIn 64 = .ok (.iinc 4 1, 3) := by decide +kernel
theorem kd_Jd_cellsIn_67 : decode kc_Jd_cellsIn 67 = .ok (.goto (-52), 3) := by decide +kernel
theorem kd_Jd_cellsIn_70 : decode kc_Jd_cellsIn 70 = .ok (.iload_n 2, 1) := by decide +kernel
theorem kd_Jd_cellsIn_71 : decode kc_Jd_cellsIn 71 = .ok (.ireturn, 1) := by decide +kernel
theorem kd_Jd_fits_0 : decode kc_Jd_fits 0 = .ok (.iload_n 0, 1) := by decide +kernel
theorem kd_Jd_fits_1 : decode kc_Jd_fits 1 = .ok (.iload_n 1, 1) := by decide +kernel
theorem kd_Jd_fits_2 : decode kc_Jd_fits 2 = .ok (.if_icmp .eq 13, 3) := by decide +kernel
theorem kd_Jd_fits_5 : decode kc_Jd_fits 5 = .ok (.iload_n 0, 1) := by decide +kernel
theorem kd_Jd_fits_6 : decode kc_Jd_fits 6 = .ok (.iconst 1, 1) := by decide +kernel
theorem kd_Jd_fits_7 : decode kc_Jd_fits 7 = .ok (.if_icmp .ne 12, 3) := by decide +kernel
theorem kd_Jd_fits_10 : decode kc_Jd_fits 10 = .ok (.iload_n 1, 1) := by decide +kernel
theorem kd_Jd_fits_11 : decode kc_Jd_fits 11 = .ok (.iconst 2, 1) := by decide +kernel
theorem kd_Jd_fits_12 : decode kc_Jd_fits 12 = .ok (.if_icmp .ne 7, 3) := by decide +kernel
theorem kd_Jd_fits_15 : decode kc_Jd_fits 15 = .ok (.iconst 1, 1) := by decide +kernel
theorem kd_Jd_fits_16 : decode kc_Jd_fits 16 = .ok (.goto 4, 3) := by decide +kernel
theorem kd_Jd_fits_19 : decode kc_Jd_fits 19 = .ok (.iconst 0, 1) := by decide +kernel
theorem kd_Jd_fits_20 : decode kc_Jd_fits 20 = .ok (.ireturn, 1) := by decide +kernel
theorem kd_Jd_judgeAssigned_0 : decode kc_Jd_judgeAssigned 0 = .ok (.aload_n 0, 1) := by decide +kernel
theorem kd_Jd_judgeAssigned_1 : decode kc_Jd_judgeAssigned 1 = .ok (.getfield 15, 3) := by decide +kernel
theorem kd_Jd_judgeAssigned_4 : decode kc_Jd_judgeAssigned 4 = .ok (.getfield 252, 3) := by decide +kernel
theorem kd_Jd_judgeAssigned_7 : decode kc_Jd_judgeAssigned 7 = .ok (.iload_n 1, 1) := by decide +kernel
theorem kd_Jd_judgeAssigned_8 : decode kc_Jd_judgeAssigned 8 = .ok (.iaload, 1) := by decide +kernel
theorem kd_Jd_judgeAssigned_9 : decode kc_Jd_judgeAssigned 9 = .ok (.istore_n 3, 1) := by decide +kernel
theorem kd_Jd_judgeAssigned_10 : decode kc_Jd_judgeAssigned 10 = .ok (.iload_n 3, 1) := by decide +kernel
theorem kd_Jd_judgeAssigned_11 : decode kc_Jd_judgeAssigned 11 = .ok (.getstatic 221, 3) := by decide +kernel
theorem kd_Jd_judgeAssigned_14 : decode kc_Jd_judgeAssigned 14 = .ok (.iconst 1, 1) := by decide +kernel
theorem kd_Jd_judgeAssigned_15 : decode kc_Jd_judgeAssigned 15 = .ok (.iaload, 1) := by decide +kernel
theorem kd_Jd_judgeAssigned_16 : decode kc_Jd_judgeAssigned 16 = .ok (.if_icmp .ge 7, 3) := by decide +kernel
theorem kd_Jd_judgeAssigned_19 : decode kc_Jd_judgeAssigned 19 = .ok (.iconst 1, 1) := by decide +kernel
theorem kd_Jd_judgeAssigned_20 : decode kc_Jd_judgeAssigned 20 = .ok (.goto 4, 3) := by decide +kernel
theorem kd_Jd_judgeAssigned_23 : decode kc_Jd_judgeAssigned 23 = .ok (.iconst 0, 1) := by decide +kernel
theorem kd_Jd_judgeAssigned_24 : decode kc_Jd_judgeAssigned 24 = .ok (.istore 4, 2) := by decide +kernel
theorem kd_Jd_judgeAssigned_26 : decode kc_Jd_judgeAssigned 26 = .ok (.iload_n 3, 1) := by decide +kernel
theorem kd_Jd_judgeAssigned_27 : decode kc_Jd_judgeAssigned 27 = .ok (.getstatic 221, 3) := by decide +kernel
theorem kd_Jd_judgeAssigned_30 : decode kc_Jd_judgeAssigned 30 = .ok (.iconst 3, 1) := by decide +kernel
theorem kd_Jd_judgeAssigned_31 : decode kc_Jd_judgeAssigned 31 = .ok (.iaload, 1) := by decide +kernel
theorem kd_Jd_judgeAssigned_32 : decode kc_Jd_judgeAssigned 32 = .ok (.if_icmp .lt 16, 3) := by decide +kernel
theorem kd_Jd_judgeAssigned_35 : decode kc_Jd_judgeAssigned 35 = .ok (.iload_n 3, 1) := by decide +kernel
theorem kd_Jd_judgeAssigned_36 : decode kc_Jd_judgeAssigned 36 = .ok (.getstatic 221, 3) := by decide +kernel
theorem kd_Jd_judgeAssigned_39 : decode kc_Jd_judgeAssigned 39 = .ok (.iconst 4, 1) := by decide +kernel
theorem kd_Jd_judgeAssigned_40 : decode kc_Jd_judgeAssigned 40 = .ok (.iaload, 1) := by decide +kernel
theorem kd_Jd_judgeAssigned_41 : decode kc_Jd_judgeAssigned 41 = .ok (.if_icmp .ge 7, 3) := by decide +kernel
theorem kd_Jd_judgeAssigned_44 : decode kc_Jd_judgeAssigned 44 = .ok (.iconst 1, 1) := by decide +kernel
theorem kd_Jd_judgeAssigned_45 : decode kc_Jd_judgeAssigned 45 = .ok (.goto 4, 3) := by decide +kernel
theorem kd_Jd_judgeAssigned_48 : decode kc_Jd_judgeAssigned 48 = .ok (.iconst 0, 1) := by decide +kernel
theorem kd_Jd_judgeAssigned_49 : decode kc_Jd_judgeAssigned 49 = .ok (.istore 5, 2) := by decide +kernel
theorem kd_Jd_judgeAssigned_51 : decode kc_Jd_judgeAssigned 51 = .ok (.aload_n 0, 1) := by decide +kernel
theorem kd_Jd_judgeAssigned_52 : decode kc_Jd_judgeAssigned 52 = .ok (.getfield 15, 3) := by decide +kernel
theorem kd_Jd_judgeAssigned_55 : decode kc_Jd_judgeAssigned 55 = .ok (.getfield 219, 3) := by decide +kernel
theorem kd_Jd_judgeAssigned_58 : decode kc_Jd_judgeAssigned 58 = .ok (.aload_n 0, 1) := by decide +kernel
theorem kd_Jd_judgeAssigned_59 : decode kc_Jd_judgeAssigned 59 = .ok (.getfield 129, 3) := by decide +kernel
theorem kd_Jd_judgeAssigned_62 : decode kc_Jd_judgeAssigned 62 = .ok (.iaload, 1) := by decide +kernel
theorem kd_Jd_judgeAssigned_63 : decode kc_Jd_judgeAssigned 63 = .ok (.iconst 3, 1) := by decide +kernel
theorem kd_Jd_judgeAssigned_64 : decode kc_Jd_judgeAssigned 64 = .ok (.if_icmp .ne 17, 3) := by decide +kernel
theorem kd_Jd_judgeAssigned_67 : decode kc_Jd_judgeAssigned 67 = .ok (.iload 4, 2) := by decide +kernel
theorem kd_Jd_judgeAssigned_69 : decode kc_Jd_judgeAssigned 69 = .ok (.ifCond .ne 8, 3) := by decide +kernel
theorem kd_Jd_judgeAssigned_72 : decode kc_Jd_judgeAssigned 72 = .ok (.iload 5, 2) := by decide +kernel
theorem kd_Jd_judgeAssigned_74 : decode kc_Jd_judgeAssigned 74 = .ok (.ifCond .eq 7, 3) := by decide +kernel
theorem kd_Jd_judgeAssigned_77 : decode kc_Jd_judgeAssigned 77 = .ok (.iconst 1, 1) := by decide +kernel
theorem kd_Jd_judgeAssigned_78 : decode kc_Jd_judgeAssigned 78 = .ok (.goto 4, 3) := by decide +kernel
theorem kd_Jd_judgeAssigned_81 : decode kc_Jd_judgeAssigned 81 = .ok (.iconst 0, 1) := by decide +kernel
theorem kd_Jd_judgeAssigned_82 : decode kc_Jd_judgeAssigned 82 = .ok (.istore 6, 2) := by decide +kernel
theorem kd_Jd_judgeAssigned_84 : decode kc_Jd_judgeAssigned 84 = .ok (.aload_n 0, 1) := by decide +kernel
theorem kd_Jd_judgeAssigned_85 : decode kc_Jd_judgeAssigned 85 = .ok (.aload_n 0, 1) := by decide +kernel
theorem kd_Jd_judgeAssigned_86 : decode kc_Jd_judgeAssigned 86 = .ok (.getfield 15, 3) := by decide +kernel
theorem kd_Jd_judgeAssigned_89 : decode kc_Jd_judgeAssigned 89 = .ok (.getfield 258, 3) := by decide +kernel
theorem kd_Jd_judgeAssigned_92 : decode kc_Jd_judgeAssigned 92 = .ok (.iload_n 1, 1) := by decide +kernel
theorem kd_Jd_judgeAssigned_93 : decode kc_Jd_judgeAssigned 93 = .ok (.iaload, 1) := by decide +kernel
theorem kd_Jd_judgeAssigned_94 : decode kc_Jd_judgeAssigned 94 = .ok (.iconst 1, 1) := by decide +kernel
theorem kd_Jd_judgeAssigned_95 : decode kc_Jd_judgeAssigned 95 = .ok (.if_icmp .eq 8, 3) := by decide +kernel
theorem kd_Jd_judgeAssigned_98 : decode kc_Jd_judgeAssigned 98 = .ok (.iload 6, 2) := by decide +kernel
theorem kd_Jd_judgeAssigned_100 : decode kc_Jd_judgeAssigned 100 = .ok (.ifCond .eq 7, 3) := by decide +kernel
theorem kd_Jd_judgeAssigned_103 : decode kc_Jd_judgeAssigned 103 = .ok (.iconst 1, 1) := by decide +kernel
theorem kd_Jd_judgeAssigned_104 : decode kc_Jd_judgeAssigned 104 = .ok (.goto 4, 3) := by decide +kernel
theorem kd_Jd_judgeAssigned_107 : decode kc_Jd_judgeAssigned 107 = .ok (.iconst 0, 1) := by decide +kernel
theorem kd_Jd_judgeAssigned_108 : decode kc_Jd_judgeAssigned 108 = .ok (.bipush 29, 2) := by decide +kernel
theorem kd_Jd_judgeAssigned_110 : decode kc_Jd_judgeAssigned 110 = .ok (.iload_n 2, 1) := by decide +kernel
theorem kd_Jd_judgeAssigned_111 : decode kc_Jd_judgeAssigned 111 = .ok (.invokevirtual 112, 3) := by decide +kernel
theorem kd_Jd_judgeAssigned_114 : decode kc_Jd_judgeAssigned 114 = .ok (.iconst 0, 1) := by decide +kernel
theorem kd_Jd_judgeAssigned_115 : decode kc_Jd_judgeAssigned 115 = .ok (.istore 7, 2) := by decide +kernel
theorem kd_Jd_judgeAssigned_117 : decode kc_Jd_judgeAssigned 117 = .ok (.iload 7, 2) := by decide +kernel
theorem kd_Jd_judgeAssigned_119 : decode kc_Jd_judgeAssigned 119 = .ok (.aload_n 0, 1) := by decide +kernel
theorem kd_Jd_judgeAssigned_120 : decode kc_Jd_judgeAssigned 120 = .ok (.getfield 33, 3) := by decide +kernel
theorem kd_Jd_judgeAssigned_123 : decode kc_Jd_judgeAssigned 123 = .ok (.if_icmp .ge 40, 3) := by decide +kernel
theorem kd_Jd_judgeAssigned_126 : decode kc_Jd_judgeAssigned 126 = .ok (.aload_n 0, 1) := by decide +kernel
theorem kd_Jd_judgeAssigned_127 : decode kc_Jd_judgeAssigned 127 = .ok (.aload_n 0, 1) := by decide +kernel
theorem kd_Jd_judgeAssigned_128 : decode kc_Jd_judgeAssigned 128 = .ok (.getfield 21, 3) := by decide +kernel
theorem kd_Jd_judgeAssigned_131 : decode kc_Jd_judgeAssigned 131 = .ok (.iload 7, 2) := by decide +kernel
theorem kd_Jd_judgeAssigned_133 : decode kc_Jd_judgeAssigned 133 = .ok (.iaload, 1) := by decide +kernel
theorem kd_Jd_judgeAssigned_134 : decode kc_Jd_judgeAssigned 134 = .ok (.aload_n 0, 1) := by decide +kernel
theorem kd_Jd_judgeAssigned_135 : decode kc_Jd_judgeAssigned 135 = .ok (.getfield 15, 3) := by decide +kernel
theorem kd_Jd_judgeAssigned_138 : decode kc_Jd_judgeAssigned 138 = .ok (.getfield 322, 3) := by decide +kernel
theorem kd_Jd_judgeAssigned_141 : decode kc_Jd_judgeAssigned 141 = .ok (.iload_n 1, 1) := by decide +kernel
theorem kd_Jd_judgeAssigned_142 : decode kc_Jd_judgeAssigned 142 = .ok (.iaload, 1) := by decide +kernel
theorem kd_Jd_judgeAssigned_143 : decode kc_Jd_judgeAssigned 143 = .ok (.if_icmp .ne 7, 3) := by decide +kernel
theorem kd_Jd_judgeAssigned_146 : decode kc_Jd_judgeAssigned 146 = .ok (.iconst 1, 1) := by decide +kernel
theorem kd_Jd_judgeAssigned_147 : decode kc_Jd_judgeAssigned 147 = .ok (.goto 4, 3) := by decide +kernel
theorem kd_Jd_judgeAssigned_150 : decode kc_Jd_judgeAssigned 150 = .ok (.iconst 0, 1) := by decide +kernel
theorem kd_Jd_judgeAssigned_151 : decode kc_Jd_judgeAssigned 151 = .ok (.bipush 30, 2) := by decide +kernel
theorem kd_Jd_judgeAssigned_153 : decode kc_Jd_judgeAssigned 153 = .ok (.iload_n 2, 1) := by decide +kernel
theorem kd_Jd_judgeAssigned_154 : decode kc_Jd_judgeAssigned 154 = .ok (.invokevirtual 112, 3) := by decide +kernel
theorem kd_Jd_judgeAssigned_157 : decode kc_Jd_judgeAssigned 157 = .ok (.iinc 7 1, 3) := by decide +kernel
theorem kd_Jd_judgeAssigned_160 : decode kc_Jd_judgeAssigned 160 = .ok (.goto (-43), 3) := by decide +kernel
theorem kd_Jd_judgeAssigned_163 : decode kc_Jd_judgeAssigned 163 = .ok (.return_, 1) := by decide +kernel
theorem kd_Jd_judgeCall_0 : decode kc_Jd_judgeCall 0 = .ok (.aload_n 0, 1) := by decide +kernel
theorem kd_Jd_judgeCall_1 : decode kc_Jd_judgeCall 1 = .ok (.getfield 9, 3) := by decide +kernel
theorem kd_Jd_judgeCall_4 : decode kc_Jd_judgeCall 4 = .ok (.getfield 78, 3) := by decide +kernel
theorem kd_Jd_judgeCall_7 : decode kc_Jd_judgeCall 7 = .ok (.iload_n 1, 1) := by decide +kernel
theorem kd_Jd_judgeCall_8 : decode kc_Jd_judgeCall 8 = .ok (.iaload, 1) := by decide +kernel
theorem kd_Jd_judgeCall_9 : decode kc_Jd_judgeCall 9 = .ok (.istore_n 2, 1) := by decide +kernel
theorem kd_Jd_judgeCall_10 : decode kc_Jd_judgeCall 10 = .ok (.iconst 0, 1) := by decide +kernel
theorem kd_Jd_judgeCall_11 : decode kc_Jd_judgeCall 11 = .ok (.istore_n 3, 1) := by decide +kernel
theorem kd_Jd_judgeCall_12 : decode kc_Jd_judgeCall 12 = .ok (.aload_n 0, 1) := by decide +kernel
theorem kd_Jd_judgeCall_13 : decode kc_Jd_judgeCall 13 = .ok (.getfield 9, 3) := by decide +kernel
theorem kd_Jd_judgeCall_16 : decode kc_Jd_judgeCall 16 = .ok (.getfield 49, 3) := by decide +kernel
theorem kd_Jd_judgeCall_19 : decode kc_Jd_judgeCall 19 = .ok (.iload_n 1, 1) := by decide +kernel
theorem kd_Jd_judgeCall_20 : decode kc_Jd_judgeCall 20 = .ok (.iaload, 1) := by decide +kernel
theorem kd_Jd_judgeCall_21 : decode kc_Jd_judgeCall 21 = .ok (.istore 4, 2) := by decide +kernel
theorem kd_Jd_judgeCall_23 : decode kc_Jd_judgeCall 23 = .ok (.iconst 0, 1) := by decide +kernel
theorem kd_Jd_judgeCall_24 : decode kc_Jd_judgeCall 24 = .ok (.istore 5, 2) := by decide +kernel
theorem kd_Jd_judgeCall_26 : decode kc_Jd_judgeCall 26 = .ok (.iload 5, 2) := by decide +kernel
theorem kd_Jd_judgeCall_28 : decode kc_Jd_judgeCall 28 = .ok (.aload_n 0, 1) := by decide +kernel
theorem kd_Jd_judgeCall_29 : decode kc_Jd_judgeCall 29 = .ok (.getfield 9, 3) := by decide +kernel
theorem kd_Jd_judgeCall_32 : decode kc_Jd_judgeCall 32 = .ok (.getfield 52, 3) := by decide +kernel
theorem kd_Jd_judgeCall_35 : decode kc_Jd_judgeCall 35 = .ok (.if_icmp .ge 30, 3) := by decide +kernel
theorem kd_Jd_judgeCall_38 : decode kc_Jd_judgeCall 38 = .ok (.iload 4, 2) := by decide +kernel
theorem kd_Jd_judgeCall_40 : decode kc_Jd_judgeCall 40 = .ok (.iconst (-1), 1) := by decide +kernel
theorem kd_Jd_judgeCall_41 : decode kc_Jd_judgeCall 41 = .ok (.if_icmp .eq 24, 3) := by decide +kernel
theorem kd_Jd_judgeCall_44 : decode kc_Jd_judgeCall 44 = .ok (.iinc 3 1, 3) := by decide +kernel
theorem kd_Jd_judgeCall_47 : decode kc_Jd_judgeCall 47 = .ok (.aload_n 0, 1) := by decide +kernel
theorem kd_Jd_judgeCall_48 : decode kc_Jd_judgeCall 48 = .ok (.getfield 9, 3) := by decide +kernel
theorem kd_Jd_judgeCall_51 : decode kc_Jd_judgeCall 51 = .ok (.getfield 55, 3) := by decide +kernel
theorem kd_Jd_judgeCall_54 : decode kc_Jd_judgeCall 54 = .ok (.iload 4, 2) := by decide +kernel
theorem kd_Jd_judgeCall_56 : decode kc_Jd_judgeCall 56 = .ok (.iaload, 1) := by decide +kernel
theorem kd_Jd_judgeCall_57 : decode kc_Jd_judgeCall 57 = .ok (.istore 4, 2) := by decide +kernel
theorem kd_Jd_judgeCall_59 : decode kc_Jd_judgeCall 59 = .ok (.iinc 5 1, 3) := by decide +kernel
theorem kd_Jd_judgeCall_62 : decode kc_Jd_judgeCall 62 = .ok (.goto (-36), 3) := by decide +kernel
theorem kd_Jd_judgeCall_65 : decode kc_Jd_judgeCall 65 = .ok (.iload_n 2, 1) := by decide +kernel
theorem kd_Jd_judgeCall_66 : decode kc_Jd_judgeCall 66 = .ok (.invokestatic 119, 3) := by decide +kernel
theorem kd_Jd_judgeCall_69 : decode kc_Jd_judgeCall 69 = .ok (.ifCond .eq 14, 3) := by decide +kernel
theorem kd_Jd_judgeCall_72 : decode kc_Jd_judgeCall 72 = .ok (.aload_n 0, 1) := by decide +kernel
theorem kd_Jd_judgeCall_73 : decode kc_Jd_judgeCall 73 = .ok (.iload_n 1, 1) := by decide +kernel
theorem kd_Jd_judgeCall_74 : decode kc_Jd_judgeCall 74 = .ok (.iload_n 2, 1) := by decide +kernel
theorem kd_Jd_judgeCall_75 : decode kc_Jd_judgeCall 75 = .ok (.bipush 50, 2) := by decide +kernel
theorem kd_Jd_judgeCall_77 : decode kc_Jd_judgeCall 77 = .ok (.isub, 1) := by decide +kernel
theorem kd_Jd_judgeCall_78 : decode kc_Jd_judgeCall 78 = .ok (.iload_n 3, 1) := by decide +kernel
theorem kd_Jd_judgeCall_79 : decode kc_Jd_judgeCall 79 = .ok (.invokevirtual 260, 3) := by decide +kernel
theorem kd_Jd_judgeCall_82 : decode kc_Jd_judgeCall 82 = .ok (.return_, 1) := by decide +kernel
theorem kd_Jd_judgeCall_83 : decode kc_Jd_judgeCall 83 = .ok (.aload_n 0, 1) := by decide +kernel
theorem kd_Jd_judgeCall_84 : decode kc_Jd_judgeCall 84 = .ok (.getfield 15, 3) := by decide +kernel
theorem kd_Jd_judgeCall_87 : decode kc_Jd_judgeCall 87 = .ok (.getfield 116, 3) := by decide +kernel
theorem kd_Jd_judgeCall_90 : decode kc_Jd_judgeCall 90 = .ok (.iload_n 2, 1) := by decide +kernel
theorem kd_Jd_judgeCall_91 : decode kc_Jd_judgeCall 91 = .ok (.iaload, 1) := by decide +kernel
theorem kd_Jd_judgeCall_92 : decode kc_Jd_judgeCall 92 = .ok (.istore 5, 2) := by decide +kernel
theorem kd_Jd_judgeCall_94 : decode kc_Jd_judgeCall 94 = .ok (.iload 5, 2) := by decide +kernel
theorem kd_Jd_judgeCall_96 : decode kc_Jd_judgeCall 96 = .ok (.iconst (-1), 1) := by decide +kernel
theorem kd_Jd_judgeCall_97 : decode kc_Jd_judgeCall 97 = .ok (.if_icmp .eq 26, 3) := by decide +kernel
theorem kd_Jd_judgeCall_100 : decode kc_Jd_judgeCall 100 = .ok (.iload 5, 2) := by decide +kernel
theorem kd_Jd_judgeCall_102 : decode kc_Jd_judgeCall 102 = .ok (.aload_n 0, 1) := by decide +kernel
theorem kd_Jd_judgeCall_103 : decode kc_Jd_judgeCall 103 = .ok (.getfield 129, 3) := by decide +kernel
theorem kd_Jd_judgeCall_106 : decode kc_Jd_judgeCall 106 = .ok (.if_icmp .eq 17, 3) := by decide +kernel
theorem kd_Jd_judgeCall_109 : decode kc_Jd_judgeCall 109 = .ok (.aload_n 0, 1) := by decide +kernel
theorem kd_Jd_judgeCall_110 : decode kc_Jd_judgeCall 110 = .ok (.getfield 15, 3) := by decide +kernel
theorem kd_Jd_judgeCall_113 : decode kc_Jd_judgeCall 113 = .ok (.getfield 219, 3) := by decide +kernel
theorem kd_Jd_judgeCall_116 : decode kc_Jd_judgeCall 116 = .ok (.iload 5, 2) := by decide +kernel
theorem kd_Jd_judgeCall_118 : decode kc_Jd_judgeCall 118 = .ok (.iaload, 1) := by decide +kernel
theorem kd_Jd_judgeCall_119 : decode kc_Jd_judgeCall 119 = .ok (.iconst 1, 1) := by decide +kernel
theorem kd_Jd_judgeCall_120 : decode kc_Jd_judgeCall 120 = .ok (.if_icmp .eq 11, 3) := by decide +kernel
theorem kd_Jd_judgeCall_123 : decode kc_Jd_judgeCall 123 = .ok (.aload_n 0, 1) := by decide +kernel
theorem kd_Jd_judgeCall_124 : decode kc_Jd_judgeCall 124 = .ok (.bipush 24, 2) := by decide +kernel
theorem kd_Jd_judgeCall_126 : decode kc_Jd_judgeCall 126 = .ok (.iload_n 1, 1) := by decide +kernel
theorem kd_Jd_judgeCall_127 : decode kc_Jd_judgeCall 127 = .ok (.invokevirtual 68, 3) := by decide +kernel
theorem kd_Jd_judgeCall_130 : decode kc_Jd_judgeCall 130 = .ok (.return_, 1) := by decide +kernel
theorem kd_Jd_judgeCall_131 : decode kc_Jd_judgeCall 131 = .ok (.aload_n 0, 1) := by decide +kernel
theorem kd_Jd_judgeCall_132 : decode kc_Jd_judgeCall 132 = .ok (.iload_n 3, 1) := by decide +kernel
theorem kd_Jd_judgeCall_133 : decode kc_Jd_judgeCall 133 = .ok (.aload_n 0, 1) := by decide +kernel
theorem kd_Jd_judgeCall_134 : decode kc_Jd_judgeCall 134 = .ok (.getfield 15, 3) := by decide +kernel
theorem kd_Jd_judgeCall_137 : decode kc_Jd_judgeCall 137 = .ok (.iload 5, 2) := by decide +kernel
theorem kd_Jd_judgeCall_139 : decode kc_Jd_judgeCall 139 = .ok (.invokevirtual 216, 3) := by decide +kernel
theorem kd_Jd_judgeCall_142 : decode kc_Jd_judgeCall 142 = .ok (.if_icmp .eq 7, 3) := by decide +kernel
theorem kd_Jd_judgeCall_145 : decode kc_Jd_judgeCall 145 = .ok (.iconst 1, 1) := by decide +kernel
theorem kd_Jd_judgeCall_146 : decode kc_Jd_judgeCall 146 = .ok (.goto 4, 3) := by decide +kernel
theorem kd_Jd_judgeCall_149 : decode kc_Jd_judgeCall 149 = .ok (.iconst 0, 1) := by decide +kernel
theorem kd_Jd_judgeCall_150 : decode kc_Jd_judgeCall 150 = .ok (.bipush 25, 2) := by decide +kernel
theorem kd_Jd_judgeCall_152 : decode kc_Jd_judgeCall 152 = .ok (.iload_n 1, 1) := by decide +kernel
theorem kd_Jd_judgeCall_153 : decode kc_Jd_judgeCall 153 = .ok (.invokevirtual 112, 3) := by decide +kernel
theorem kd_Jd_judgeCall_156 : decode kc_Jd_judgeCall 156 = .ok (.iconst (-1), 1) := by decide +kernel
theorem kd_Jd_judgeCall_157 : decode kc_Jd_judgeCall 157 = .ok (.istore 6, 2) := by decide +kernel
theorem kd_Jd_judgeCall_159 : decode kc_Jd_judgeCall 159 = .ok (.aload_n 0, 1) := by decide +kernel
theorem kd_Jd_judgeCall_160 : decode kc_Jd_judgeCall 160 = .ok (.getfield 9, 3) := by decide +kernel
theorem kd_Jd_judgeCall_163 : decode kc_Jd_judgeCall 163 = .ok (.getfield 49, 3) := by decide +kernel
theorem kd_Jd_judgeCall_166 : decode kc_Jd_judgeCall 166 = .ok (.iload_n 1, 1) := by decide +kernel
theorem kd_Jd_judgeCall_167 : decode kc_Jd_judgeCall 167 = .ok (.iaload, 1) := by decide +kernel
theorem kd_Jd_judgeCall_168 : decode kc_Jd_judgeCall 168 = .ok (.istore 4, 2) := by decide +kernel
theorem kd_Jd_judgeCall_170 : decode kc_Jd_judgeCall 170 = .ok (.iconst 0, 1) := by decide +kernel
theorem kd_Jd_judgeCall_171 : decode kc_Jd_judgeCall 171 = .ok (.istore 7, 2) := by decide +kernel
theorem kd_Jd_judgeCall_173 : decode kc_Jd_judgeCall 173 = .ok (.iload 7, 2) := by decide +kernel
theorem kd_Jd_judgeCall_175 : decode kc_Jd_judgeCall 175 = .ok (.iload_n 3, 1) := by decide +kernel
theorem kd_Jd_judgeCall_176 : decode kc_Jd_judgeCall 176 = .ok (.if_icmp .ge 93, 3) := by decide +kernel
theorem kd_Jd_judgeCall_179 : decode kc_Jd_judgeCall 179 = .ok (.aload_n 0, 1) := by decide +kernel
theorem kd_Jd_judgeCall_180 : decode kc_Jd_judgeCall 180 = .ok (.getfield 29, 3) := by decide +kernel
theorem kd_Jd_judgeCall_183 : decode kc_Jd_judgeCall 183 = .ok (.ifCond .ne 86, 3) := by decide +kernel
theorem kd_Jd_judgeCall_186 : decode kc_Jd_judgeCall 186 = .ok (.iload 4, 2) := by decide +kernel
theorem kd_Jd_judgeCall_188 : decode kc_Jd_judgeCall 188 = .ok (.iconst (-1), 1) := by decide +kernel
theorem kd_Jd_judgeCall_189 : decode kc_Jd_judgeCall 189 = .ok (.if_icmp .eq 80, 3) := by decide +kernel
theorem kd_Jd_judgeCall_192 : decode kc_Jd_judgeCall 192 = .ok (.aload_n 0, 1) := by decide +kernel
theorem kd_Jd_judgeCall_193 : decode kc_Jd_judgeCall 193 = .ok (.getfield 15, 3) := by decide +kernel
theorem kd_Jd_judgeCall_196 : decode kc_Jd_judgeCall 196 = .ok (.iload 5, 2) := by decide +kernel
theorem kd_Jd_judgeCall_198 : decode kc_Jd_judgeCall 198 = .ok (.iload 6, 2) := by decide +kernel
theorem kd_Jd_judgeCall_200 : decode kc_Jd_judgeCall 200 = .ok (.iconst 1, 1) := by decide +kernel
theorem kd_Jd_judgeCall_201 : decode kc_Jd_judgeCall 201 = .ok (.iadd, 1) := by decide +kernel
theorem kd_Jd_judgeCall_202 : decode kc_Jd_judgeCall 202 = .ok (.invokevirtual 264, 3) := by decide +kernel
theorem kd_Jd_judgeCall_205 : decode kc_Jd_judgeCall 205 = .ok (.istore 6, 2) := by decide +kernel
theorem kd_Jd_judgeCall_207 : decode kc_Jd_judgeCall 207 = .ok (.aload_n 0, 1) := by decide +kernel
theorem kd_Jd_judgeCall_208 : decode kc_Jd_judgeCall 208 = .ok (.iload 6, 2) := by decide +kernel
theorem kd_Jd_judgeCall_210 : decode kc_Jd_judgeCall 210 = .ok (.iconst (-1), 1) := by decide +kernel
theorem kd_Jd_judgeCall_211 : decode kc_Jd_judgeCall 211 = .ok (.if_icmp .eq 29, 3) := by decide +kernel
theorem kd_Jd_judgeCall_214 : decode kc_Jd_judgeCall 214 = .ok (.aload_n 0, 1) := by decide +kernel
theorem kd_Jd_judgeCall_215 : decode kc_Jd_judgeCall 215 = .ok (.getfield 9, 3) := by decide +kernel
theorem kd_Jd_judgeCall_218 : decode kc_Jd_judgeCall 218 = .ok (.getfield 178, 3) := by decide +kernel
theorem kd_Jd_judgeCall_221 : decode kc_Jd_judgeCall 221 = .ok (.iload 4, 2) := by decide +kernel
theorem kd_Jd_judgeCall_223 : decode kc_Jd_judgeCall 223 = .ok (.baload, 1) := by decide +kernel
theorem kd_Jd_judgeCall_224 : decode kc_Jd_judgeCall 224 = .ok (.aload_n 0, 1) := by decide +kernel
theorem kd_Jd_judgeCall_225 : decode kc_Jd_judgeCall 225 = .ok (.getfield 15, 3) := by decide +kernel
theorem kd_Jd_judgeCall_228 : decode kc_Jd_judgeCall 228 = .ok (.getfield 132, 3) := by decide +kernel
theorem kd_Jd_judgeCall_231 : decode kc_Jd_judgeCall 231 = .ok (.iload 6, 2) := by decide +kernel
theorem kd_Jd_judgeCall_233 : decode kc_Jd_judgeCall 233 = .ok (.iaload, 1) := by decide +kernel
theorem kd_Jd_judgeCall_234 : decode kc_Jd_judgeCall 234 = .ok (.invokestatic 267, 3) := by decide +kernel
theorem kd_Jd_judgeCall_237 : decode kc_Jd_judgeCall 237 = .ok (.ifCond .ne 7, 3) := by decide +kernel
theorem kd_Jd_judgeCall_240 : decode kc_Jd_judgeCall 240 = .ok (.iconst 1, 1) := by decide +kernel
theorem kd_Jd_judgeCall_241 : decode kc_Jd_judgeCall 241 = .ok (.goto 4, 3) := by decide +kernel
theorem kd_Jd_judgeCall_244 : decode kc_Jd_judgeCall 244 = .ok (.iconst 0, 1) := by decide +kernel
theorem kd_Jd_judgeCall_245 : decode kc_Jd_judgeCall 245 = .ok (.bipush 26, 2) := by decide +kernel
theorem kd_Jd_judgeCall_247 : decode kc_Jd_judgeCall 247 = .ok (.iload_n 1, 1) := by decide +kernel
theorem kd_Jd_judgeCall_248 : decode kc_Jd_judgeCall 248 = .ok (.invokevirtual 112, 3) := by decide +kernel
theorem kd_Jd_judgeCall_251 : decode kc_Jd_judgeCall 251 = .ok (.aload_n 0, 1) := by decide +kernel
theorem kd_Jd_judgeCall_252 : decode kc_Jd_judgeCall 252 = .ok (.getfield 9, 3) := by decide +kernel
theorem kd_Jd_judgeCall_255 : decode kc_Jd_judgeCall 255 = .ok (.getfield 55, 3) := by decide +kernel
theorem kd_Jd_judgeCall_258 : decode kc_Jd_judgeCall 258 = .ok (.iload 4, 2) := by decide +kernel
theorem kd_Jd_judgeCall_260 : decode kc_Jd_judgeCall 260 = .ok (.iaload, 1) := by decide +kernel
theorem kd_Jd_judgeCall_261 : decode kc_Jd_judgeCall 261 = .ok (.istore 4, 2) := by decide +kernel
theorem kd_Jd_judgeCall_263 : decode kc_Jd_judgeCall 263 = .ok (.iinc 7 1, 3) := by decide +kernel
theorem kd_Jd_judgeCall_266 : decode kc_Jd_judgeCall 266 = .ok (.goto (-93), 3) := by decide +kernel
theorem kd_Jd_judgeCall_269 : decode kc_Jd_judgeCall 269 = .ok (.aload_n 0, 1) := by decide +kernel
theorem kd_Jd_judgeCall_270 : decode kc_Jd_judgeCall 270 = .ok (.getfield 9, 3) := by decide +kernel
theorem kd_Jd_judgeCall_273 : decode kc_Jd_judgeCall 273 = .ok (.getfield 78, 3) := by decide +kernel
theorem kd_Jd_judgeCall_276 : decode kc_Jd_judgeCall 276 = .ok (.iload_n 1, 1) := by decide +kernel
theorem kd_Jd_judgeCall_277 : decode kc_Jd_judgeCall 277 = .ok (.iload 5, 2) := by decide +kernel
theorem kd_Jd_judgeCall_279 : decode kc_Jd_judgeCall 279 = .ok (.iastore, 1) := by decide +kernel
theorem kd_Jd_judgeCall_280 : decode kc_Jd_judgeCall 280 = .ok (.aload_n 0, 1) := by decide +kernel
theorem kd_Jd_judgeCall_281 : decode kc_Jd_judgeCall 281 = .ok (.getfield 9, 3) := by decide +kernel
theorem kd_Jd_judgeCall_284 : decode kc_Jd_judgeCall 284 = .ok (.getfield 178, 3) := by decide +kernel
theorem kd_Jd_judgeCall_287 : decode kc_Jd_judgeCall 287 = .ok (.iload_n 1, 1) := by decide +kernel
theorem kd_Jd_judgeCall_288 : decode kc_Jd_judgeCall 288 = .ok (.aload_n 0, 1) := by decide +kernel
theorem kd_Jd_judgeCall_289 : decode kc_Jd_judgeCall 289 = .ok (.getfield 15, 3) := by decide +kernel
theorem kd_Jd_judgeCall_292 : decode kc_Jd_judgeCall 292 = .ok (.getfield 132, 3) := by decide +kernel
theorem kd_Jd_judgeCall_295 : decode kc_Jd_judgeCall 295 = .ok (.aload_n 0, 1) := by decide +kernel
theorem kd_Jd_judgeCall_296 : decode kc_Jd_judgeCall 296 = .ok (.getfield 15, 3) := by decide +kernel
theorem kd_Jd_judgeCall_299 : decode kc_Jd_judgeCall 299 = .ok (.getfield 270, 3) := by decide +kernel
theorem kd_Jd_judgeCall_302 : decode kc_Jd_judgeCall 302 = .ok (.iload 5, 2) := by decide +kernel
theorem kd_Jd_judgeCall_304 : decode kc_Jd_judgeCall 304 = .ok (.iaload, 1) := by decide +kernel
theorem kd_Jd_judgeCall_305 : decode kc_Jd_judgeCall 305 = .ok (.iaload, 1) := by decide +kernel
theorem kd_Jd_judgeCall_306 : decode kc_Jd_judgeCall 306 = .ok (.i2b, 1) := by decide +kernel
theorem kd_Jd_judgeCall_307 : decode kc_Jd_judgeCall 307 = .ok (.bastore, 1) := by decide +kernel
theorem kd_Jd_judgeCall_308 : decode kc_Jd_judgeCall 308 = .ok (.return_, 1) := by decide +kernel
theorem kd_Jd_judgeCoil_0 : decode kc_Jd_judgeCoil 0 = .ok (.aload_n 0, 1) := by decide +kernel
theorem kd_Jd_judgeCoil_1 : decode kc_Jd_judgeCoil 1 = .ok (.getfield 9, 3) := by decide +kernel
theorem kd_Jd_judgeCoil_4 : decode kc_Jd_judgeCoil 4 = .ok (.getfield 49, 3) := by decide +kernel
theorem kd_Jd_judgeCoil_7 : decode kc_Jd_judgeCoil 7 = .ok (.iload_n 1, 1) := by decide +kernel
theorem kd_Jd_judgeCoil_8 : decode kc_Jd_judgeCoil 8 = .ok (.iaload, 1) := by decide +kernel
theorem kd_Jd_judgeCoil_9 : decode kc_Jd_judgeCoil 9 = .ok (.istore_n 2, 1) := by decide +kernel
theorem kd_Jd_judgeCoil_10 : decode kc_Jd_judgeCoil 10 = .ok (.aload_n 0, 1) := by decide +kernel
theorem kd_Jd_judgeCoil_11 : decode kc_Jd_judgeCoil 11 = .ok (.aload_n 0, 1) := by decide +kernel
theorem kd_Jd_judgeCoil_12 : decode kc_Jd_judgeCoil 12 = .ok (.getfield 9, 3) := by decide +kernel
theorem kd_Jd_judgeCoil_15 : decode kc_Jd_judgeCoil 15 = .ok (.getfield 55, 3) := by decide +kernel
theorem kd_Jd_judgeCoil_18 : decode kc_Jd_judgeCoil 18 = .ok (.iload_n 1, 1) := by decide +kernel
theorem kd_Jd_judgeCoil_19 : decode kc_Jd_judgeCoil 19 = .ok (.iaload, 1) := by decide +kernel
theorem kd_Jd_judgeCoil_20 : decode kc_Jd_judgeCoil 20 = .ok (.iconst (-1), 1) := by decide +kernel
theorem kd_Jd_judgeCoil_21 : decode kc_Jd_judgeCoil 21 = .ok (.if_icmp .eq 7, 3) := by decide +kernel
theorem kd_Jd_judgeCoil_24 : decode kc_Jd_judgeCoil 24 = .ok (.iconst 1, 1) := by decide +kernel
theorem kd_Jd_judgeCoil_25 : decode kc_Jd_judgeCoil 25 = .ok (.goto 4, 3) := by decide +kernel
theorem kd_Jd_judgeCoil_28 : decode kc_Jd_judgeCoil 28 = .ok (.iconst 0, 1) := by decide +kernel
theorem kd_Jd_judgeCoil_29 : decode kc_Jd_judgeCoil 29 = .ok (.bipush 39, 2) := by decide +kernel
theorem kd_Jd_judgeCoil_31 : decode kc_Jd_judgeCoil 31 = .ok (.iload_n 1, 1) := by decide +kernel
theorem kd_Jd_judgeCoil_32 : decode kc_Jd_judgeCoil 32 = .ok (.invokevirtual 112, 3) := by decide +kernel
theorem kd_Jd_judgeCoil_35 : decode kc_Jd_judgeCoil 35 = .ok (.aload_n 0, 1) := by decide +kernel
theorem kd_Jd_judgeCoil_36 : decode kc_Jd_judgeCoil 36 = .ok (.aload_n 0, 1) := by decide +kernel
theorem kd_Jd_judgeCoil_37 : decode kc_Jd_judgeCoil 37 = .ok (.getfield 9, 3) := by decide +kernel
theorem kd_Jd_judgeCoil_40 : decode kc_Jd_judgeCoil 40 = .ok (.getfield 178, 3) := by decide +kernel
theorem kd_Jd_judgeCoil_43 : decode kc_Jd_judgeCoil 43 = .ok (.iload_n 2, 1) := by decide +kernel
theorem kd_Jd_judgeCoil_44 : decode kc_Jd_judgeCoil 44 = .ok (.baload, 1) := by decide +kernel
theorem kd_Jd_judgeCoil_45 : decode kc_Jd_judgeCoil 45 = .ok (.ifCond .eq 7, 3) := by decide +kernel
theorem kd_Jd_judgeCoil_48 : decode kc_Jd_judgeCoil 48 = .ok (.iconst 1, 1) := by decide +kernel
theorem kd_Jd_judgeCoil_49 : decode kc_Jd_judgeCoil 49 = .ok (.goto 4, 3) := by decide +kernel
theorem kd_Jd_judgeCoil_52 : decode kc_Jd_judgeCoil 52 = .ok (.iconst 0, 1) := by decide +kernel
theorem kd_Jd_judgeCoil_53 : decode kc_Jd_judgeCoil 53 = .ok (.bipush 41, 2) := by decide +kernel
theorem kd_Jd_judgeCoil_55 : decode kc_Jd_judgeCoil 55 = .ok (.iload_n 1, 1) := by decide +kernel
theorem kd_Jd_judgeCoil_56 : decode kc_Jd_judgeCoil 56 = .ok (.invokevirtual 112, 3) := by decide +kernel
theorem kd_Jd_judgeCoil_59 : decode kc_Jd_judgeCoil 59 = .ok (.aload_n 0, 1) := by decide +kernel
theorem kd_Jd_judgeCoil_60 : decode kc_Jd_judgeCoil 60 = .ok (.aload_n 0, 1) := by decide +kernel
theorem kd_Jd_judgeCoil_61 : decode kc_Jd_judgeCoil 61 = .ok (.getfield 9, 3) := by decide +kernel
theorem kd_Jd_judgeCoil_64 : decode kc_Jd_judgeCoil 64 = .ok (.getfield 78, 3) := by decide +kernel
theorem kd_Jd_judgeCoil_67 : decode kc_Jd_judgeCoil 67 = .ok (.iload_n 2, 1) := by decide +kernel
theorem kd_Jd_judgeCoil_68 : decode kc_Jd_judgeCoil 68 = .ok (.iaload, 1) := by decide +kernel
theorem kd_Jd_judgeCoil_69 : decode kc_Jd_judgeCoil 69 = .ok (.iload_n 1, 1) := by decide +kernel
theorem kd_Jd_judgeCoil_70 : decode kc_Jd_judgeCoil 70 = .ok (.invokevirtual 319, 3) := by decide +kernel
theorem kd_Jd_judgeCoil_73 : decode kc_Jd_judgeCoil 73 = .ok (.return_, 1) := by decide +kernel
theorem kd_Jd_judgeContact_0 : decode kc_Jd_judgeContact 0 = .ok (.aload_n 0, 1) := by decide +kernel
theorem kd_Jd_judgeContact_1 : decode kc_Jd_judgeContact 1 = .ok (.aload_n 0, 1) := by decide +kernel
theorem kd_Jd_judgeContact_2 : decode kc_Jd_judgeContact 2 = .ok (.getfield 9, 3) := by decide +kernel
theorem kd_Jd_judgeContact_5 : decode kc_Jd_judgeContact 5 = .ok (.getfield 178, 3) := by decide +kernel
theorem kd_Jd_judgeContact_8 : decode kc_Jd_judgeContact 8 = .ok (.aload_n 0, 1) := by decide +kernel
theorem kd_Jd_judgeContact_9 : decode kc_Jd_judgeContact 9 = .ok (.getfield 9, 3) := by decide +kernel
theorem kd_Jd_judgeContact_12 : decode kc_Jd_judgeContact 12 = .ok (.getfield 49, 3) := by decide +kernel
theorem kd_Jd_judgeContact_15 : decode kc_Jd_judgeContact 15 = .ok (.iload_n 1, 1) := by decide +kernel
theorem kd_Jd_judgeContact_16 : decode kc_Jd_judgeContact 16 = .ok (.iaload, 1) := by decide +kernel
theorem kd_Jd_judgeContact_17 : decode kc_Jd_judgeContact 17 = .ok (.baload, 1) := by decide +kernel
theorem kd_Jd_judgeContact_18 : decode kc_Jd_judgeContact 18 = .ok (.ifCond .eq 7, 3) := by decide +kernel
theorem kd_Jd_judgeContact_21 : decode kc_Jd_judgeContact 21 = .ok (.iconst 1, 1) := by decide +kernel
theorem kd_Jd_judgeContact_22 : decode kc_Jd_judgeContact 22 = .ok (.goto 4, 3) := by decide +kernel
theorem kd_Jd_judgeContact_25 : decode kc_Jd_judgeContact 25 = .ok (.iconst 0, 1) := by decide +kernel
theorem kd_Jd_judgeContact_26 : decode kc_Jd_judgeContact 26 = .ok (.bipush 41, 2) := by decide +kernel
theorem kd_Jd_judgeContact_28 : decode kc_Jd_judgeContact 28 = .ok (.iload_n 1, 1) := by decide +kernel
theorem kd_Jd_judgeContact_29 : decode kc_Jd_judgeContact 29 = .ok (.invokevirtual 112, 3) := by decide +kernel
theorem kd_Jd_judgeContact_32 : decode kc_Jd_judgeContact 32 = .ok (.aload_n 0, 1) := by decide +kernel
theorem kd_Jd_judgeContact_33 : decode kc_Jd_judgeContact 33 = .ok (.dup, 1) := by decide +kernel
theorem kd_Jd_judgeContact_34 : decode kc_Jd_judgeContact 34 = .ok (.getfield 103, 3) := by decide +kernel
theorem kd_Jd_judgeContact_37 : decode kc_Jd_judgeContact 37 = .ok (.aload_n 0, 1) := by decide +kernel
theorem kd_Jd_judgeContact_38 : decode kc_Jd_judgeContact 38 = .ok (.getfield 9, 3) := by decide +kernel
theorem kd_Jd_judgeContact_41 : decode kc_Jd_judgeContact 41 = .ok (.getfield 78, 3) := by decide +kernel
theorem kd_Jd_judgeContact_44 : decode kc_Jd_judgeContact 44 = .ok (.iload_n 1, 1) := by decide +kernel
theorem kd_Jd_judgeContact_45 : decode kc_Jd_judgeContact 45 = .ok (.iaload, 1) := by decide +kernel
theorem kd_Jd_judgeContact_46 : decode kc_Jd_judgeContact 46 = .ok (.iconst 2, 1) := by decide +kernel
theorem kd_Jd_judgeContact_47 : decode kc_Jd_judgeContact 47 = .ok (.if_icmp .lt 7, 3) := by decide +kernel
theorem kd_Jd_judgeContact_50 : decode kc_Jd_judgeContact 50 = .ok (.iconst 1, 1) := by decide +kernel
theorem kd_Jd_judgeContact_51 : decode kc_Jd_judgeContact 51 = .ok (.goto 4, 3) := by decide +kernel
theorem kd_Jd_judgeContact_54 : decode kc_Jd_judgeContact 54 = .ok (.iconst 0, 1) := by decide +kernel
theorem kd_Jd_judgeContact_55 : decode kc_Jd_judgeContact 55 = .ok (.iadd, 1) := by decide +kernel
theorem kd_Jd_judgeContact_56 : decode kc_Jd_judgeContact 56 = .ok (.putfield 103, 3) := by decide +kernel
theorem kd_Jd_judgeContact_59 : decode kc_Jd_judgeContact 59 = .ok (.return_, 1) := by decide +kernel
theorem kd_Jd_judgeRung_0 : decode kc_Jd_judgeRung 0 = .ok (.iconst 0, 1) := by decide +kernel
theorem kd_Jd_judgeRung_1 : decode kc_Jd_judgeRung 1 = .ok (.istore_n 2, 1) := by decide +kernel
theorem kd_Jd_judgeRung_2 : decode kc_Jd_judgeRung 2 = .ok (.iconst (-1), 1) := by decide +kernel
theorem kd_Jd_judgeRung_3 : decode kc_Jd_judgeRung 3 = .ok (.istore_n 3, 1) := by decide +kernel
theorem kd_Jd_judgeRung_4 : decode kc_Jd_judgeRung 4 = .ok (.aload_n 0, 1) := by decide +kernel
theorem kd_Jd_judgeRung_5 : decode kc_Jd_judgeRung 5 = .ok (.getfield 9, 3) := by decide +kernel
theorem kd_Jd_judgeRung_8 : decode kc_Jd_judgeRung 8 = .ok (.getfield 49, 3) := by decide +kernel
theorem kd_Jd_judgeRung_11 : decode kc_Jd_judgeRung 11 = .ok (.iload_n 1, 1) := by decide +kernel
theorem kd_Jd_judgeRung_12 : decode kc_Jd_judgeRung 12 = .ok (.iaload, 1) := by decide +kernel
theorem kd_Jd_judgeRung_13 : decode kc_Jd_judgeRung 13 = .ok (.istore 4, 2) := by decide +kernel
theorem kd_Jd_judgeRung_15 : decode kc_Jd_judgeRung 15 = .ok (.iconst 0, 1) := by decide +kernel
theorem kd_Jd_judgeRung_16 : decode kc_Jd_judgeRung 16 = .ok (.istore 5, 2) := by decide +kernel
theorem kd_Jd_judgeRung_18 : decode kc_Jd_judgeRung 18 = .ok (.iload 5, 2) := by decide +kernel
theorem kd_Jd_judgeRung_20 : decode kc_Jd_judgeRung 20 = .ok (.aload_n 0, 1) := by decide +kernel
theorem kd_Jd_judgeRung_21 : decode kc_Jd_judgeRung 21 = .ok (.getfield 9, 3) := by decide +kernel
theorem kd_Jd_judgeRung_24 : decode kc_Jd_judgeRung 24 = .ok (.getfield 52, 3) := by decide +kernel
theorem kd_Jd_judgeRung_27 : decode kc_Jd_judgeRung 27 = .ok (.if_icmp .ge 81, 3) := by decide +kernel
theorem kd_Jd_judgeRung_30 : decode kc_Jd_judgeRung 30 = .ok (.iload 4, 2) := by decide +kernel
theorem kd_Jd_judgeRung_32 : decode kc_Jd_judgeRung 32 = .ok (.iconst (-1), 1) := by decide +kernel
theorem kd_Jd_judgeRung_33 : decode kc_Jd_judgeRung 33 = .ok (.if_icmp .eq 75, 3) := by decide +kernel
theorem kd_Jd_judgeRung_36 : decode kc_Jd_judgeRung 36 = .ok (.aload_n 0, 1) := by decide +kernel
theorem kd_Jd_judgeRung_37 : decode kc_Jd_judgeRung 37 = .ok (.iload 4, 2) := by decide +kernel
theorem kd_Jd_judgeRung_39 : decode kc_Jd_judgeRung 39 = .ok (.invokevirtual 337, 3) := by decide +kernel
theorem kd_Jd_judgeRung_42 : decode kc_Jd_judgeRung 42 = .ok (.istore 6, 2) := by decide +kernel
theorem kd_Jd_judgeRung_44 : decode kc_Jd_judgeRung 44 = .ok (.iload_n 3, 1) := by decide +kernel
theorem kd_Jd_judgeRung_45 : decode kc_Jd_judgeRung 45 = .ok (.iconst (-1), 1) := by decide +kernel
theorem kd_Jd_judgeRung_46 : decode kc_Jd_judgeRung 46 = .ok (.if_icmp .ne 8, 3) := by decide +kernel
theorem kd_Jd_judgeRung_49 : decode kc_Jd_judgeRung 49 = .ok (.iload 6, 2) := by decide +kernel
theorem kd_Jd_judgeRung_51 : decode kc_Jd_judgeRung 51 = .ok (.goto 4, 3) := by decide +kernel
theorem kd_Jd_judgeRung_54 : decode kc_Jd_judgeRung 54 = .ok (.iload_n 3, 1) := by decide +kernel
theorem kd_Jd_judgeRung_55 : decode kc_Jd_judgeRung 55 = .ok (.istore_n 3, 1) := by decide +kernel
theorem kd_Jd_judgeRung_56 : decode kc_Jd_judgeRung 56 = .ok (.iinc 2 1, 3) := by decide +kernel
theorem kd_Jd_judgeRung_59 : decode kc_Jd_judgeRung 59 = .ok (.aload_n 0, 1) := by decide +kernel
theorem kd_Jd_judgeRung_60 : decode kc_Jd_judgeRung 60 = .ok (.iload_n 2, 1) := by decide +kernel
theorem kd_Jd_judgeRung_61 : decode kc_Jd_judgeRung 61 = .ok (.bipush 12, 2) := by decide +kernel
theorem kd_Jd_judgeRung_63 : decode kc_Jd_judgeRung 63 = .ok (.if_icmp .gt 16, 3) := by decide +kernel
theorem kd_Jd_judgeRung_66 : decode kc_Jd_judgeRung 66 = .ok (.iload 6, 2) := by decide +kernel
theorem kd_Jd_judgeRung_68 : decode kc_Jd_judgeRung 68 = .ok (.bipush 12, 2) := by decide +kernel
theorem kd_Jd_judgeRung_70 : decode kc_Jd_judgeRung 70 = .ok (.if_icmp .gt 9, 3) := by decide +kernel
theorem kd_Jd_judgeRung_73 : decode kc_Jd_judgeRung 73 = .ok (.iload 6, 2) := by decide +kernel
theorem kd_Jd_judgeRung_75 : decode kc_Jd_judgeRung 75 = .ok (.iload_n 3, 1) := by decide +kernel
theorem kd_Jd_judgeRung_76 : decode kc_Jd_judgeRung 76 = .ok (.if_icmp .eq 7, 3) := by decide +kernel
theorem kd_Jd_judgeRung_79 : decode kc_Jd_judgeRung 79 = .ok (.iconst 1, 1) := by decide +kernel
theorem kd_Jd_judgeRung_80 : decode kc_Jd_judgeRung 80 = .ok (.goto 4, 3) := by decide +kernel
theorem kd_Jd_judgeRung_83 : decode kc_Jd_judgeRung 83 = .ok (.iconst 0, 1) := by decide +kernel
theorem kd_Jd_judgeRung_84 : decode kc_Jd_judgeRung 84 = .ok (.bipush 38, 2) := by decide +kernel
theorem kd_Jd_judgeRung_86 : decode kc_Jd_judgeRung 86 = .ok (.iload_n 1, 1) := by decide +kernel
theorem kd_Jd_judgeRung_87 : decode kc_Jd_judgeRung 87 = .ok (.invokevirtual 112, 3) := by decide +kernel
theorem kd_Jd_judgeRung_90 : decode kc_Jd_judgeRung 90 = .ok (.aload_n 0, 1) := by decide +kernel
theorem kd_Jd_judgeRung_91 : decode kc_Jd_judgeRung 91 = .ok (.getfield 9, 3) := by decide +kernel
theorem kd_Jd_judgeRung_94 : decode kc_Jd_judgeRung 94 = .ok (.getfield 55, 3) := by decide +kernel
theorem kd_Jd_judgeRung_97 : decode kc_Jd_judgeRung 97 = .ok (.iload 4, 2) := by decide +kernel
theorem kd_Jd_judgeRung_99 : decode kc_Jd_judgeRung 99 = .ok (.iaload, 1) := by decide +kernel
theorem kd_Jd_judgeRung_100 : decode kc_Jd_judgeRung 100 = .ok (.istore 4, 2) := by decide +kernel
theorem kd_Jd_judgeRung_102 : decode kc_Jd_judgeRung 102 = .ok (.iinc 5 1, 3) := by decide +kernel
theorem kd_Jd_judgeRung_105 : decode kc_Jd_judgeRung 105 = .ok (.goto (-87), 3) := by decide +kernel
theorem kd_Jd_judgeRung_108 : decode kc_Jd_judgeRung 108 = .ok (.return_, 1) := by decide +kernel
theorem kd_Jd_judgeStandardCall_0 : decode kc_Jd_judgeStandardCall 0 = .ok (.iload_n 3, 1) := by decide +kernel
theorem kd_Jd_judgeStandardCall_1 : decode kc_Jd_judgeStandardCall 1 = .ok (.getstatic 273, 3) := by decide +kernel
theorem kd_Jd_judgeStandardCall_4 : decode kc_Jd_judgeStandardCall 4 = .ok (.iload_n 2, 1) := by decide +kernel
theorem kd_Jd_judgeStandardCall_5 : decode kc_Jd_judgeStandardCall 5 = .ok (.iaload, 1) := by decide +kernel
theorem kd_Jd_judgeStandardCall_6 : decode kc_Jd_judgeStandardCall 6 = .ok (.if_icmp .eq 11, 3) := by decide +kernel
theorem kd_Jd_judgeStandardCall_9 : decode kc_Jd_judgeStandardCall 9 = .ok (.aload_n 0, 1) := by decide +kernel
theorem kd_Jd_judgeStandardCall_10 : decode kc_Jd_judgeStandardCall 10 = .ok (.bipush 25, 2) := by decide +kernel
theorem kd_Jd_judgeStandardCall_12 : decode kc_Jd_judgeStandardCall 12 = .ok (.iload_n 1, 1) := by decide +kernel
theorem kd_Jd_judgeStandardCall_13 : decode kc_Jd_judgeStandardCall 13 = .ok (.invokevirtual 68, 3) := by decide +kernel
theorem kd_Jd_judgeStandardCall_16 : decode kc_Jd_judgeStandardCall 16 = .ok (.return_, 1) := by decide +kernel
theorem kd_Jd_judgeStandardCall_17 : decode kc_Jd_judgeStandardCall 17 = .ok (.aload_n 0, 1) := by decide +kernel
theorem kd_Jd_judgeStandardCall_18 : decode kc_Jd_judgeStandardCall 18 = .ok (.getfield 9, 3) := by decide +kernel
theorem kd_Jd_judgeStandardCall_21 : decode kc_Jd_judgeStandardCall 21 = .ok (.getfield 49, 3) := by decide +kernel
theorem kd_Jd_judgeStandardCall_24 : decode kc_Jd_judgeStandardCall 24 = .ok (.iload_n 1, 1) := by decide +kernel
theorem kd_Jd_judgeStandardCall_25 : decode kc_Jd_judgeStandardCall 25 = .ok (.iaload, 1) := by decide +kernel
theorem kd_Jd_judgeStandardCall_26 : decode kc_Jd_judgeStandardCall 26 = .ok (.istore 4, 2) := by decide +kernel
theorem kd_Jd_judgeStandardCall_28 : decode kc_Jd_judgeStandardCall 28 = .ok (.aload_n 0, 1) := by decide +kernel
theorem kd_Jd_judgeStandardCall_29 : decode kc_Jd_judgeStandardCall 29 = .ok (.getfield 9, 3) := by decide +kernel
theorem kd_Jd_judgeStandardCall_32 : decode kc_Jd_judgeStandardCall 32 = .ok (.getfield 55, 3) := by decide +kernel
theorem kd_Jd_judgeStandardCall_35 : decode kc_Jd_judgeStandardCall 35 = .ok (.iload 4, 2) := by decide +kernel
theorem kd_Jd_judgeStandardCall_37 : decode kc_Jd_judgeStandardCall 37 = .ok (.iaload, 1) := by decide +kernel
theorem kd_Jd_judgeStandardCall_38 : decode kc_Jd_judgeStandardCall 38 = .ok (.istore 5, 2) := by decide +kernel
theorem kd_Jd_judgeStandardCall_40 : decode kc_Jd_judgeStandardCall 40 = .ok (.iload_n 3, 1) := by decide +kernel
theorem kd_Jd_judgeStandardCall_41 : decode kc_Jd_judgeStandardCall 41 = .ok (.iconst 3, 1) := by decide +kernel
theorem kd_Jd_judgeStandardCall_42 : decode kc_Jd_judgeStandardCall 42 = .ok (.if_icmp .ge 7, 3) := by decide +kernel
theorem kd_Jd_judgeStandardCall_45 : decode kc_Jd_judgeStandardCall 45 = .ok (.iconst (-1), 1) := by decide +kernel
theorem kd_Jd_judgeStandardCall_46 : decode kc_Jd_judgeStandardCall 46 = .ok (.goto 13, 3) := by decide +kernel
theorem kd_Jd_judgeStandardCall_49 : decode kc_Jd_judgeStandardCall 49 = .ok (.aload_n 0, 1) := by decide +kernel
theorem kd_Jd_judgeStandardCall_50 : decode kc_Jd_judgeStandardCall 50 = .ok (.getfield 9, 3) := by decide +kernel
theorem kd_Jd_judgeStandardCall_53 : decode kc_Jd_judgeStandardCall 53 = .ok (.getfield 55, 3) := by decide +kernel
theorem kd_Jd_judgeStandardCall_56 : decode kc_Jd_judgeStandardCall 56 = .ok (.iload 5, 2) := by decide +kernel
theorem kd_Jd_judgeStandardCall_58 : decode kc_Jd_judgeStandardCall 58 = .ok (.iaload, 1) := by decide +kernel
theorem kd_Jd_judgeStandardCall_59 : decode kc_Jd_judgeStandardCall 59 = .ok (.istore 6, 2) := by decide +kernel
theorem kd_Jd_judgeStandardCall_61 : decode kc_Jd_judgeStandardCall 61 = .ok (.iload 5, 2) := by decide +kernel
theorem kd_Jd_judgeStandardCall_63 : decode kc_Jd_judgeStandardCall 63 = .ok (.iconst (-1), 1) := by decide +kernel
theorem kd_Jd_judgeStandardCall_64 : decode kc_Jd_judgeStandardCall 64 = .ok (.if_icmp .ne 7, 3) := by decide +kernel
theorem kd_Jd_judgeStandardCall_67 : decode kc_Jd_judgeStandardCall 67 = .ok (.iconst 1, 1) := by decide +kernel
theorem kd_Jd_judgeStandardCall_68 : decode kc_Jd_judgeStandardCall 68 = .ok (.goto 13, 3) := by decide +kernel
theorem kd_Jd_judgeStandardCall_71 : decode kc_Jd_judgeStandardCall 71 = .ok (.aload_n 0, 1) := by decide +kernel
theorem kd_Jd_judgeStandardCall_72 : decode kc_Jd_judgeStandardCall 72 = .ok (.getfield 9, 3) := by decide +kernel
theorem kd_Jd_judgeStandardCall_75 : decode kc_Jd_judgeStandardCall 75 = .ok (.getfield 178, 3) := by decide +kernel
theorem kd_Jd_judgeStandardCall_78 : decode kc_Jd_judgeStandardCall 78 = .ok (.iload 5, 2) := by decide +kernel
theorem kd_Jd_judgeStandardCall_80 : decode kc_Jd_judgeStandardCall 80 = .ok (.baload, 1) := by decide +kernel
theorem kd_Jd_judgeStandardCall_81 : decode kc_Jd_judgeStandardCall 81 = .ok (.istore 7, 2) := by decide +kernel
theorem kd_Jd_judgeStandardCall_83 : decode kc_Jd_judgeStandardCall 83 = .ok (.iload 6, 2) := by decide +kernel
theorem kd_Jd_judgeStandardCall_85 : decode kc_Jd_judgeStandardCall 85 = .ok (.iconst (-1), 1) := by decide +kernel
theorem kd_Jd_judgeStandardCall_86 : decode kc_Jd_judgeStandardCall 86 = .ok (.if_icmp .ne 7, 3) := by decide +kernel
theorem kd_Jd_judgeStandardCall_89 : decode kc_Jd_judgeStandardCall 89 = .ok (.iconst 1, 1) := by decide +kernel
theorem kd_Jd_judgeStandardCall_90 : decode kc_Jd_judgeStandardCall 90 = .ok (.goto 13, 3) := by decide +kernel
theorem kd_Jd_judgeStandardCall_93 : decode kc_Jd_judgeStandardCall 93 = .ok (.aload_n 0, 1) := by decide +kernel
theorem kd_Jd_judgeStandardCall_94 : decode kc_Jd_judgeStandardCall 94 = .ok (.getfield 9, 3) := by decide +kernel
theorem kd_Jd_judgeStandardCall_97 : decode kc_Jd_judgeStandardCall 97 = .ok (.getfield 178, 3) := by decide +kernel
theorem kd_Jd_judgeStandardCall_100 : decode kc_Jd_judgeStandardCall 100 = .ok (.iload 6, 2) := by decide +kernel
theorem kd_Jd_judgeStandardCall_102 : decode kc_Jd_judgeStandardCall 102 = .ok (.baload, 1) := by decide +kernel
theorem kd_Jd_judgeStandardCall_103 : decode kc_Jd_judgeStandardCall 103 = .ok (.istore 8, 2) := by decide +kernel
theorem kd_Jd_judgeStandardCall_105 : decode kc_Jd_judgeStandardCall 105 = .ok (.iload_n 2, 1) := by decide +kernel
theorem kd_Jd_judgeStandardCall_106 : decode kc_Jd_judgeStandardCall 106 = .ok (.aload_n 0, 1) := by decide +kernel
theorem kd_Jd_judgeStandardCall_107 : decode kc_Jd_judgeStandardCall 107 = .ok (.getfield 9, 3) := by decide +kernel
theorem kd_Jd_judgeStandardCall_110 : decode kc_Jd_judgeStandardCall 110 = .ok (.getfield 178, 3) := by decide +kernel
theorem kd_Jd_judgeStandardCall_113 : decode kc_Jd_judgeStandardCall 113 = .ok (.iload 4, 2) := by decide +kernel
theorem kd_Jd_judgeStandardCall_115 : decode kc_Jd_judgeStandardCall 115 = .ok (.baload, 1) := by decide +kernel
theorem kd_Jd_judgeStandardCall_116 : decode kc_Jd_judgeStandardCall 116 = .ok (.iload 7, 2) := by decide +kernel
theorem kd_Jd_judgeStandardCall_118 : decode kc_Jd_judgeStandardCall 118 = .ok (.iload 8, 2) := by decide +kernel
theorem kd_Jd_judgeStandardCall_120 : decode kc_Jd_judgeStandardCall 120 = .ok (.invokestatic 278, 3) := by decide +kernel
theorem kd_Jd_judgeStandardCall_123 : decode kc_Jd_judgeStandardCall 123 = .ok (.istore 9, 2) := by decide +kernel
theorem kd_Jd_judgeStandardCall_125 : decode kc_Jd_judgeStandardCall 125 = .ok (.iload 9, 2) := by decide +kernel
theorem kd_Jd_judgeStandardCall_127 : decode kc_Jd_judgeStandardCall 127 = .ok (.iconst (-1), 1) := by decide +kernel
theorem kd_Jd_judgeStandardCall_128 : decode kc_Jd_judgeStandardCall 128 = .ok (.if_icmp .ne 11, 3) := by decide +kernel
theorem kd_Jd_judgeStandardCall_131 : decode kc_Jd_judgeStandardCall 131 = .ok (.aload_n 0, 1) := by decide +kernel
theorem kd_Jd_judgeStandardCall_132 : decode kc_Jd_judgeStandardCall 132 = .ok (.bipush 26, 2) := by decide +kernel
theorem kd_Jd_judgeStandardCall_134 : decode kc_Jd_judgeStandardCall 134 = .ok (.iload_n 1, 1) := by decide +kernel
theorem kd_Jd_judgeStandardCall_135 : decode kc_Jd_judgeStandardCall 135 = .ok (.invokevirtual 68, 3) := by decide +kernel
theorem kd_Jd_judgeStandardCall_138 : decode kc_Jd_judgeStandardCall 138 = .ok (.return_, 1) := by decide +kernel
theorem kd_Jd_judgeStandardCall_139 : decode kc_Jd_judgeStandardCall 139 = .ok (.aload_n 0, 1) := by decide +kernel
theorem kd_Jd_judgeStandardCall_140 : decode kc_Jd_judgeStandardCall 140 = .ok (.getfield 9, 3) := by decide +kernel
theorem kd_Jd_judgeStandardCall_143 : decode kc_Jd_judgeStandardCall 143 = .ok (.getfield 71, 3) := by decide +kernel
theorem kd_Jd_judgeStandardCall_146 : decode kc_Jd_judgeStandardCall 146 = .ok (.iload_n 1, 1) := by decide +kernel
theorem kd_Jd_judgeStandardCall_147 : decode kc_Jd_judgeStandardCall 147 = .ok (.bipush 39, 2) := by decide +kernel
theorem kd_Jd_judgeStandardCall_149 : decode kc_Jd_judgeStandardCall 149 = .ok (.bastore, 1) := by decide +kernel
theorem kd_Jd_judgeStandardCall_150 : decode kc_Jd_judgeStandardCall 150 = .ok (.aload_n 0, 1) := by decide +kernel
theorem kd_Jd_judgeStandardCall_151 : decode kc_Jd_judgeStandardCall 151 = .ok (.getfield 9, 3) := by decide +kernel
theorem kd_Jd_judgeStandardCall_154 : decode kc_Jd_judgeStandardCall 154 = .ok (.getfield 78, 3) := by decide +kernel
theorem kd_Jd_judgeStandardCall_157 : decode kc_Jd_judgeStandardCall 157 = .ok (.iload_n 1, 1) := by decide +kernel
theorem kd_Jd_judgeStandardCall_158 : decode kc_Jd_judgeStandardCall 158 = .ok (.iload_n 2, 1) := by decide +kernel
theorem kd_Jd_judgeStandardCall_159 : decode kc_Jd_judgeStandardCall 159 = .ok (.iastore, 1) := by decide +kernel
theorem kd_Jd_judgeStandardCall_160 : decode kc_Jd_judgeStandardCall 160 = .ok (.aload_n 0, 1) := by decide +kernel
theorem kd_Jd_judgeStandardCall_161 : decode kc_Jd_judgeStandardCall 161 = .ok (.getfield 9, 3) := by decide +kernel
theorem kd_Jd_judgeStandardCall_164 : decode kc_Jd_judgeStandardCall 164 = .ok (.getfield 178, 3) := by decide +kernel
theorem kd_Jd_judgeStandardCall_167 : decode kc_Jd_judgeStandardCall 167 = .ok (.iload_n 1, 1) := by decide +kernel
theorem kd_Jd_judgeStandardCall_168 : decode kc_Jd_judgeStandardCall 168 = .ok (.iload 9, 2) := by decide +kernel
theorem kd_Jd_judgeStandardCall_170 : decode kc_Jd_judgeStandardCall 170 = .ok (.i2b, 1) := by decide +kernel
theorem kd_Jd_judgeStandardCall_171 : decode kc_Jd_judgeStandardCall 171 = .ok (.bastore, 1) := by decide +kernel
theorem kd_Jd_judgeStandardCall_172 : decode kc_Jd_judgeStandardCall 172 = .ok (.aload_n 0, 1) := by decide +kernel
theorem kd_Jd_judgeStandardCall_173 : decode kc_Jd_judgeStandardCall 173 = .ok (.getfield 9, 3) := by decide +kernel
theorem kd_Jd_judgeStandardCall_176 : decode kc_Jd_judgeStandardCall 176 = .ok (.iload 4, 2) := by decide +kernel
theorem kd_Jd_judgeStandardCall_178 : decode kc_Jd_judgeStandardCall 178 = .ok (.invokevirtual 282, 3) := by decide +kernel
theorem kd_Jd_judgeStandardCall_181 : decode kc_Jd_judgeStandardCall 181 = .ok (.ifCond .eq 43, 3) := by decide +kernel
theorem kd_Jd_judgeStandardCall_184 : decode kc_Jd_judgeStandardCall 184 = .ok (.iload 5, 2) := by decide +kernel
theorem kd_Jd_judgeStandardCall_186 : decode kc_Jd_judgeStandardCall 186 = .ok (.iconst (-1), 1) := by decide +kernel
theorem kd_Jd_judgeStandardCall_187 : decode kc_Jd_judgeStandardCall 187 = .ok (.if_icmp .eq 15, 3) := by decide +kernel
theorem kd_Jd_judgeStandardCall_190 : decode kc_Jd_judgeStandardCall 190 = .ok (.aload_n 0, 1) := by decide +kernel
theorem kd_Jd_judgeStandardCall_191 : decode kc_Jd_judgeStandardCall 191 = .ok (.getfield 9, 3) := by decide +kernel
theorem kd_Jd_judgeStandardCall_194 : decode kc_Jd_judgeStandardCall 194 = .ok (.iload 5, 2) := by decide +kernel
theorem kd_Jd_judgeStandardCall_196 : decode kc_Jd_judgeStandardCall 196 = .ok (.invokevirtual 282, 3) := by decide +kernel
theorem kd_Jd_judgeStandardCall_199 : decode kc_Jd_judgeStandardCall 199 = .ok (.ifCond .eq 25, 3) := by decide +kernel
theorem kd_Jd_judgeStandardCall_202 : decode kc_Jd_judgeStandardCall 202 = .ok (.iload 6, 2) := by decide +kernel
theorem kd_Jd_judgeStandardCall_204 : decode kc_Jd_judgeStandardCall 204 = .ok (.iconst (-1), 1) := by decide +kernel
theorem kd_Jd_judgeStandardCall_205 : decode kc_Jd_judgeStandardCall 205 = .ok (.if_icmp .eq 15, 3) := by decide +kernel
theorem kd_Jd_judgeStandardCall_208 : decode kc_Jd_judgeStandardCall 208 = .ok (.aload_n 0, 1) := by decide +kernel
theorem kd_Jd_judgeStandardCall_209 : decode kc_Jd_judgeStandardCall 209 = .ok (.getfield 9, 3) := by decide +kernel
theorem kd_Jd_judgeStandardCall_212 : decode kc_Jd_judgeStandardCall 212 = .ok (.iload 6, 2) := by decide +kernel
theorem kd_Jd_judgeStandardCall_214 : decode kc_Jd_judgeStandardCall 214 = .ok (.invokevirtual 282, 3) := by decide +kernel
theorem kd_Jd_judgeStandardCall_217 : decode kc_Jd_judgeStandardCall 217 = .ok (.ifCond .eq 7, 3) := by decide +kernel
theorem kd_Jd_judgeStandardCall_220 : decode kc_Jd_judgeStandardCall 220 = .ok (.iconst 1, 1) := by decide +kernel
theorem kd_Jd_judgeStandardCall_221 : decode kc_Jd_judgeStandardCall 221 = .ok (.goto 4, 3) := by decide +kernel
theorem kd_Jd_judgeStandardCall_224 : decode kc_Jd_judgeStandardCall 224 = .ok (.iconst 0, 1) := by decide +kernel
theorem kd_Jd_judgeStandardCall_225 : decode kc_Jd_judgeStandardCall 225 = .ok (.istore 10, 2) := by decide +kernel
theorem kd_Jd_judgeStandardCall_227 : decode kc_Jd_judgeStandardCall 227 = .ok (.iload 10, 2) := by decide +kernel
theorem kd_Jd_judgeStandardCall_229 : decode kc_Jd_judgeStandardCall 229 = .ok (.ifCond .eq 72, 3) := by decide +kernel
theorem kd_Jd_judgeStandardCall_232 : decode kc_Jd_judgeStandardCall 232 = .ok (.iload 5, 2) := by decide +kernel
theorem kd_Jd_judgeStandardCall_234 : decode kc_Jd_judgeStandardCall 234 = .ok (.iconst (-1), 1) := by decide +kernel
theorem kd_Jd_judgeStandardCall_235 : decode kc_Jd_judgeStandardCall 235 = .ok (.if_icmp .ne 7, 3) := by decide +kernel
theorem kd_Jd_judgeStandardCall_238 : decode kc_Jd_judgeStandardCall 238 = .ok (.iconst 0, 1) := by decide +kernel
theorem kd_Jd_judgeStandardCall_239 : decode kc_Jd_judgeStandardCall 239 = .ok (.goto 13, 3) := by decide +kernel
theorem kd_Jd_judgeStandardCall_242 : decode kc_Jd_judgeStandardCall 242 = .ok (.aload_n 0, 1) := by decide +kernel
theorem kd_Jd_judgeStandardCall_243 : decode kc_Jd_judgeStandardCall 243 = .ok (.getfield 9, 3) := by decide +kernel
theorem kd_Jd_judgeStandardCall_246 : decode kc_Jd_judgeStandardCall 246 = .ok (.getfield 78, 3) := by decide +kernel
theorem kd_Jd_judgeStandardCall_249 : decode kc_Jd_judgeStandardCall 249 = .ok (.iload 5, 2) := by decide +kernel
theorem kd_Jd_judgeStandardCall_251 : decode kc_Jd_judgeStandardCall 251 = .ok (.iaload, 1) := by decide +kernel
theorem kd_Jd_judgeStandardCall_252 : decode kc_Jd_judgeStandardCall 252 = .ok (.istore 11, 2) := by decide +kernel
theorem kd_Jd_judgeStandardCall_254 : decode kc_Jd_judgeStandardCall 254 = .ok (.iload 6, 2) := by decide +kernel
theorem kd_Jd_judgeStandardCall_256 : decode kc_Jd_judgeStandardCall 256 = .ok (.iconst (-1), 1) := by decide +kernel
theorem kd_Jd_judgeStandardCall_257 : decode kc_Jd_judgeStandardCall 257 = .ok (.if_icmp .ne 7, 3) := by decide +kernel
theorem kd_Jd_judgeStandardCall_260 : decode kc_Jd_judgeStandardCall 260 = .ok (.iconst 0, 1) := by decide +kernel
theorem kd_Jd_judgeStandardCall_261 : decode kc_Jd_judgeStandardCall 261 = .ok (.goto 13, 3) := by decide +kernel
theorem kd_Jd_judgeStandardCall_264 : decode kc_Jd_judgeStandardCall 264 = .ok (.aload_n 0, 1) := by decide +kernel
theorem kd_Jd_judgeStandardCall_265 : decode kc_Jd_judgeStandardCall 265 = .ok (.getfield 9, 3) := by decide +kernel
theorem kd_Jd_judgeStandardCall_268 : decode kc_Jd_judgeStandardCall 268 = .ok (.getfield 78, 3) := by decide +kernel
theorem kd_Jd_judgeStandardCall_271 : decode kc_Jd_judgeStandardCall 271 = .ok (.iload 6, 2) := by decide +kernel
theorem kd_Jd_judgeStandardCall_273 : decode kc_Jd_judgeStandardCall 273 = .ok (.iaload, 1) := by decide +kernel
theorem kd_Jd_judgeStandardCall_274 : decode kc_Jd_judgeStandardCall 274 = .ok (.istore 12, 2) := by decide +kernel
theorem kd_Jd_judgeStandardCall_276 : decode kc_Jd_judgeStandardCall 276 = .ok (.aload_n 0, 1) := by decide +kernel
theorem kd_Jd_judgeStandardCall_277 : decode kc_Jd_judgeStandardCall 277 = .ok (.iload_n 1, 1) := by decide +kernel
theorem kd_Jd_judgeStandardCall_278 : decode kc_Jd_judgeStandardCall 278 = .ok (.iload_n 2, 1) := by decide +kernel
theorem kd_Jd_judgeStandardCall_279 : decode kc_Jd_judgeStandardCall 279 = .ok (.iload 9, 2) := by decide +kernel
theorem kd_Jd_judgeStandardCall_281 : decode kc_Jd_judgeStandardCall 281 = .ok (.aload_n 0, 1) := by decide +kernel
theorem kd_Jd_judgeStandardCall_282 : decode kc_Jd_judgeStandardCall 282 = .ok (.getfield 9, 3) := by decide +kernel
theorem kd_Jd_judgeStandardCall_285 : decode kc_Jd_judgeStandardCall 285 = .ok (.getfield 78, 3) := by decide +kernel
theorem kd_Jd_judgeStandardCall_288 : decode kc_Jd_judgeStandardCall 288 = .ok (.iload 4, 2) := by decide +kernel
theorem kd_Jd_judgeStandardCall_290 : decode kc_Jd_judgeStandardCall 290 = .ok (.iaload, 1) := by decide +kernel
theorem kd_Jd_judgeStandardCall_291 : decode kc_Jd_judgeStandardCall 291 = .ok (.iload 11, 2) := by decide +kernel
theorem kd_Jd_judgeStandardCall_293 : decode kc_Jd_judgeStandardCall 293 = .ok (.iload 12, 2) := by decide +kernel
theorem kd_Jd_judgeStandardCall_295 : decode kc_Jd_judgeStandardCall 295 = .ok (.invokestatic 285, 3) := by decide +kernel
theorem kd_Jd_judgeStandardCall_298 : decode kc_Jd_judgeStandardCall 298 = .ok (.invokevirtual 289, 3) := by decide +kernel
theorem kd_Jd_judgeStandardCall_301 : decode kc_Jd_judgeStandardCall 301 = .ok (.return_, 1) := by decide +kernel
theorem kd_Pl_inputFrom_0 : decode kc_Pl_inputFrom 0 = .ok (.iload_n 2, 1) := by decide +kernel
theorem kd_Pl_inputFrom_1 : decode kc_Pl_inputFrom 1 = .ok (.aload_n 0, 1) := by decide +kernel
theorem kd_Pl_inputFrom_2 : decode kc_Pl_inputFrom 2 = .ok (.getfield 18, 3) := by decide +kernel
theorem kd_Pl_inputFrom_5 : decode kc_Pl_inputFrom 5 = .ok (.iload_n 1, 1) := by decide +kernel
theorem kd_Pl_inputFrom_6 : decode kc_Pl_inputFrom 6 = .ok (.iaload, 1) := by decide +kernel
theorem kd_Pl_inputFrom_7 : decode kc_Pl_inputFrom 7 = .ok (.invokestatic 109, 3) := by decide +kernel
theorem kd_Pl_inputFrom_10 : decode kc_Pl_inputFrom 10 = .ok (.istore_n 3, 1) := by decide +kernel
theorem kd_Pl_inputFrom_11 : decode kc_Pl_inputFrom 11 = .ok (.iload_n 3, 1) := by decide +kernel
theorem kd_Pl_inputFrom_12 : decode kc_Pl_inputFrom 12 = .ok (.aload_n 0, 1) := by decide +kernel
theorem kd_Pl_inputFrom_13 : decode kc_Pl_inputFrom 13 = .ok (.getfield 21, 3) := by decide +kernel
theorem kd_Pl_inputFrom_16 : decode kc_Pl_inputFrom 16 = .ok (.iload_n 1, 1) := by decide +kernel
theorem kd_Pl_inputFrom_17 : decode kc_Pl_inputFrom 17 = .ok (.iaload, 1) := by decide +kernel
theorem kd_Pl_inputFrom_18 : decode kc_Pl_inputFrom 18 = .ok (.if_icmp .ge 21, 3) := by decide +kernel
theorem kd_Pl_inputFrom_21 : decode kc_Pl_inputFrom 21 = .ok (.aload_n 0, 1) := by decide +kernel
theorem kd_Pl_inputFrom_22 : decode kc_Pl_inputFrom 22 = .ok (.getfield 36, 3) := by decide +kernel
theorem kd_Pl_inputFrom_25 : decode kc_Pl_inputFrom 25 = .ok (.iload_n 3, 1) := by decide +kernel
theorem kd_Pl_inputFrom_26 : decode kc_Pl_inputFrom 26 = .ok (.iaload, 1) := by decide +kernel
theorem kd_Pl_inputFrom_27 : decode kc_Pl_inputFrom 27 = .ok (.iconst 1, 1) := by decide +kernel
theorem kd_Pl_inputFrom_28 : decode kc_Pl_inputFrom 28 = .ok (.if_icmp .ne 5, 3) := by decide +kernel
theorem kd_Pl_inputFrom_31 : decode kc_Pl_inputFrom 31 = .ok (.iload_n 3, 1) := by decide +kernel
theorem kd_Pl_inputFrom_32 : decode kc_Pl_inputFrom 32 = .ok (.ireturn, 1) := by decide +kernel
theorem kd_Pl_inputFrom_33 : decode kc_Pl_inputFrom 33 = .ok (.iinc 3 1, 3) := by decide +kernel
theorem kd_Pl_inputFrom_36 : decode kc_Pl_inputFrom 36 = .ok (.goto (-25), 3) := by decide +kernel
theorem kd_Pl_inputFrom_39 : decode kc_Pl_inputFrom 39 = .ok (.iconst (-1), 1) := by decide +kernel
theorem kd_Pl_inputFrom_40 : decode kc_Pl_inputFrom 40 = .ok (.ireturn, 1) := by decide +kernel
theorem kd_Pl_inputs_0 : decode kc_Pl_inputs 0 = .ok (.iconst 0, 1) := by decide +kernel
theorem kd_Pl_inputs_1 : decode kc_Pl_inputs 1 = .ok (.istore_n 2, 1) := by decide +kernel
theorem kd_Pl_inputs_2 : decode kc_Pl_inputs 2 = .ok (.aload_n 0, 1) := by decide +kernel
theorem kd_Pl_inputs_3 : decode kc_Pl_inputs 3 = .ok (.getfield 18, 3) := by decide +kernel
theorem kd_Pl_inputs_6 : decode kc_Pl_inputs 6 = .ok (.iload_n 1, 1) := by decide +kernel
theorem kd_Pl_inputs_7 : decode kc_Pl_inputs 7 = .ok (.iaload, 1) := by decide +kernel
theorem kd_Pl_inputs_8 : decode kc_Pl_inputs 8 = .ok (.istore_n 3, 1) := by decide +kernel
theorem kd_Pl_inputs_9 : decode kc_Pl_inputs 9 = .ok (.iload_n 3, 1) := by decide +kernel
theorem kd_Pl_inputs_10 : decode kc_Pl_inputs 10 = .ok (.aload_n 0, 1) := by decide +kernel
theorem kd_Pl_inputs_11 : decode kc_Pl_inputs 11 = .ok (.getfield 21, 3) := by decide +kernel
theorem kd_Pl_inputs_14 : decode kc_Pl_inputs 14 = .ok (.iload_n 1, 1) := by decide +kernel
theorem kd_Pl_inputs_15 : decode kc_Pl_inputs 15 = .ok (.iaload, 1) := by decide +kernel
theorem kd_Pl_inputs_16 : decode kc_Pl_inputs 16 = .ok (.if_icmp .ge 27, 3) := by decide +kernel
theorem kd_Pl_inputs_19 : decode kc_Pl_inputs 19 = .ok (.iload_n 2, 1) := by decide +kernel
theorem kd_Pl_inputs_20 : decode kc_Pl_inputs 20 = .ok (.aload_n 0, 1) := by decide +kernel
theorem kd_Pl_inputs_21 : decode kc_Pl_inputs 21 = .ok (.getfield 36, 3) := by decide +kernel
theorem kd_Pl_inputs_24 : decode kc_Pl_inputs 24 = .ok (.iload_n 3, 1) := by decide +kernel
theorem kd_Pl_inputs_25 : decode kc_Pl_inputs 25 = .ok (.iaload, 1) := by decide +kernel
theorem kd_Pl_inputs_26 : decode kc_Pl_inputs 26 = .ok (.iconst 1, 1) := by decide +kernel
theorem kd_Pl_inputs_27 : decode kc_Pl_inputs 27 = .ok (.if_icmp .ne 7, 3) := by decide +kernel
theorem kd_Pl_inputs_30 : decode kc_Pl_inputs 30 = .ok (.iconst 1, 1) := by decide +kernel
theorem kd_Pl_inputs_31 : decode kc_Pl_inputs 31 = .ok (.goto 4, 3) := by decide +kernel
theorem kd_Pl_inputs_34 : decode kc_Pl_inputs 34 = .ok (.iconst 0, 1) := by decide +kernel
theorem kd_Pl_inputs_35 : decode kc_Pl_inputs 35 = .ok (.iadd, 1) := by decide +kernel
theorem kd_Pl_inputs_36 : decode kc_Pl_inputs 36 = .ok (.istore_n 2, 1) := by decide +kernel
theorem kd_Pl_inputs_37 : decode kc_Pl_inputs 37 = .ok (.iinc 3 1, 3) := by decide +kernel
theorem kd_Pl_inputs_40 : decode kc_Pl_inputs 40 = .ok (.goto (-31), 3) := by decide +kernel
theorem kd_Pl_inputs_43 : decode kc_Pl_inputs 43 = .ok (.iload_n 2, 1) := by decide +kernel
theorem kd_Pl_inputs_44 : decode kc_Pl_inputs 44 = .ok (.ireturn, 1) := by decide +kernel
set_option maxHeartbeats 4000000 in
set_option maxRecDepth 100000 in
theorem zb_Jd_judgeStandardCall_274 {X : zkj_T} {S : zs_T} {P : ze_T} {l : Launch} {D : va_G} {sz0 : Nat} {rh : zs_H} (C : zk_C X km_Jd_judgeStandardCall (zs_G S l D sz0) { frames := 3, cells := 0, slots := 0, locals := 70 } (ze_E P)) (hR : zkj_R X (zd_PV S rh) (none)) (h : zs_H) (x1 : Int32) (x2 : Int32) (x4 : Int32) (x9 : Int32) (x11 : Int32) (y0 : Int32) (e : f_Jd_judgeStandardCall_274 h x1 x2 x4 x9 x11 y0 = some rh) : zk_Ab X (zs_W S h) 0 0 274 [(0, .ref (S.1 38)), (1, .int x1), (2, .int x2), (4, .int x4), (9, .int x9), (11, .int x11)] [.int y0] := by
  unfold f_Jd_judgeStandardCall_274 at e
  refine zk_istore (lv' := [(12, _), (0, _), (1, _), (2, _), (4, _), (9, _), (11, _)]) C kd_Jd_judgeStandardCall_274 (by decide) rfl rfl ?_
  refine zk_aload_n C kd_Jd_judgeStandardCall_276 rfl 1 rfl rfl ?_
  refine zk_iload_n C kd_Jd_judgeStandardCall_277 rfl 2 rfl rfl ?_
  refine zk_iload_n C kd_Jd_judgeStandardCall_278 rfl 3 rfl rfl ?_
  refine zk_iload C kd_Jd_judgeStandardCall_279 5 rfl rfl ?_
  refine zk_aload_n C kd_Jd_judgeStandardCall_281 rfl 1 rfl rfl ?_
  refine zs_get (v := .ref (S.1 12)) C 38 1 rfl rfl rfl rfl ki_Jd (by decide) kw352 kd_Jd_judgeStandardCall_282 rfl ?_
  refine zs_get (v := .ref (S.1 16)) C 12 3 rfl rfl rfl rfl ki_Tr (by decide) kw168 kd_Jd_judgeStandardCall_285 rfl ?_
  refine zk_iload C kd_Jd_judgeStandardCall_288 4 rfl rfl ?_
  obtain ⟨q1, e⟩ := zd_g e
  refine zs_iald C 16 rfl (zd_vp q1) kd_Jd_judgeStandardCall_290 rfl ?_
  refine zk_iload C kd_Jd_judgeStandardCall_291 6 rfl rfl ?_
  refine zk_iload C kd_Jd_judgeStandardCall_293 0 rfl rfl ?_
  obtain ⟨v3, c2, e⟩ := zd_b e
  refine zk_callS (rn := { frames := 2, cells := 0, slots := 0, locals := 45 }) (As := [.int x2, .int x9, .int (h.2.1 16 x4.toNatClampNeg), .int x11, .int y0]) (rest := [.int x1, .ref (S.1 38)]) C (zc_Cd_standard h x2 x9 (h.2.1 16 x4.toNatClampNeg) x11 y0 c2) ku_Cd_standard kw1215 ks_Cd_standard rfl ⟨by decide, by decide⟩ ⟨by decide, by decide⟩ rfl (Nat.le_of_ble_eq_true rfl) kd_Jd_judgeStandardCall_295 rfl (c1 := 0) (s1 := 0) rfl rfl (fun v w hp => ?_)
  obtain ⟨rfl, rfl⟩ := hp
  refine zk_stk (r' := [.int v3, .int x1, .ref (S.1 38)]) rfl ?_
  obtain ⟨h5, c4, e⟩ := zd_b e
  refine zs_callV (k := 38) (rn := { frames := 0, cells := 0, slots := 0, locals := 0 }) (As := [.int x1, .int v3]) (rest := []) C (zc_Jd_fold h x1 v3 c4) ku_Jd_fold kw1234 kv_Jd_fold rfl ⟨by decide, by decide⟩ ⟨by decide, by decide⟩ rfl rfl rfl (Nat.le_of_ble_eq_true rfl) kd_Jd_judgeStandardCall_298 rfl (c1 := 0) (s1 := 0) rfl rfl (fun v w hp => ?_)
  obtain ⟨rfl, rfl⟩ := hp
  refine zk_stk (r' := []) rfl ?_
  exact zk_vret C hR kd_Jd_judgeStandardCall_301 rfl rfl (zd_rV e)
set_option maxHeartbeats 4000000 in
set_option maxRecDepth 100000 in
theorem zb_Jd_judgeStandardCall_252 {X : zkj_T} {S : zs_T} {P : ze_T} {l : Launch} {D : va_G} {sz0 : Nat} {rh : zs_H} (C : zk_C X km_Jd_judgeStandardCall (zs_G S l D sz0) { frames := 3, cells := 0, slots := 0, locals := 70 } (ze_E P)) (hR : zkj_R X (zd_PV S rh) (none)) (h : zs_H) (x1 : Int32) (x2 : Int32) (x4 : Int32) (x6 : Int32) (x9 : Int32) (y0 : Int32) (e : f_Jd_judgeStandardCall_252 h x1 x2 x4 x6 x9 y0 = some rh) : zk_Ab X (zs_W S h) 0 0 252 [(0, .ref (S.1 38)), (1, .int x1), (2, .int x2), (4, .int x4), (6, .int x6), (9, .int x9)] [.int y0] := by
  unfold f_Jd_judgeStandardCall_252 at e
  refine zk_istore (lv' := [(11, _), (0, _), (1, _), (2, _), (4, _), (6, _), (9, _)]) C kd_Jd_judgeStandardCall_252 (by decide) rfl rfl ?_
  refine zk_iload C kd_Jd_judgeStandardCall_254 5 rfl rfl ?_
  refine zk_iconst (v := (-1)) C kd_Jd_judgeStandardCall_256 (by decide) rfl ?_
  refine zk_icmp_ne (tgt := 264) C kd_Jd_judgeStandardCall_257 (by decide) rfl (fun b1 => ?_) (fun b1 => ?_)
  · replace e := zd_neg b1 e
    refine zk_aload_n C kd_Jd_judgeStandardCall_264 rfl 1 rfl rfl ?_
    refine zs_get (v := .ref (S.1 12)) C 38 1 rfl rfl rfl rfl ki_Jd (by decide) kw352 kd_Jd_judgeStandardCall_265 rfl ?_
    refine zs_get (v := .ref (S.1 16)) C 12 3 rfl rfl rfl rfl ki_Tr (by decide) kw168 kd_Jd_judgeStandardCall_268 rfl ?_
    refine zk_iload C kd_Jd_judgeStandardCall_271 5 rfl rfl ?_
    obtain ⟨q2, e⟩ := zd_g e
    refine zs_iald C 16 rfl (zd_vp q2) kd_Jd_judgeStandardCall_273 rfl ?_
    refine zk_lvs (lv' := [(0, .ref (S.1 38)), (1, .int x1), (2, .int x2), (4, .int x4), (9, .int x9), (11, .int y0)]) [1, 2, 3, 4, 6, 0] rfl ?_
    exact zb_Jd_judgeStandardCall_274 C hR h x1 x2 x4 x9 y0 (h.2.1 16 x6.toNatClampNeg) e
  · replace e := zd_pos b1 e
    refine zk_iconst (v := 0) C kd_Jd_judgeStandardCall_260 (by decide) rfl ?_
    refine zk_goto (tgt := 274) C kd_Jd_judgeStandardCall_261 (by decide) ?_
    refine zk_lvs (lv' := [(0, .ref (S.1 38)), (1, .int x1), (2, .int x2), (4, .int x4), (9, .int x9), (11, .int y0)]) [1, 2, 3, 4, 6, 0] rfl ?_
    exact zb_Jd_judgeStandardCall_274 C hR h x1 x2 x4 x9 y0 0 e
set_option maxHeartbeats 4000000 in
set_option maxRecDepth 100000 in
theorem zb_Jd_judgeStandardCall_225 {X : zkj_T} {S : zs_T} {P : ze_T} {l : Launch} {D : va_G} {sz0 : Nat} {rh : zs_H} (C : zk_C X km_Jd_judgeStandardCall (zs_G S l D sz0) { frames := 3, cells := 0, slots := 0, locals := 70 } (ze_E P)) (hR : zkj_R X (zd_PV S rh) (none)) (h : zs_H) (x1 : Int32) (x2 : Int32) (x4 : Int32) (x5 : Int32) (x6 : Int32) (x9 : Int32) (y0 : Int32) (e : f_Jd_judgeStandardCall_225 h x1 x2 x4 x5 x6 x9 y0 = some rh) : zk_Ab X (zs_W S h) 0 0 225 [(0, .ref (S.1 38)), (1, .int x1), (2, .int x2), (4, .int x4), (5, .int x5), (6, .int x6), (9, .int x9)] [.int y0] := by
  unfold f_Jd_judgeStandardCall_225 at e
  refine zk_istore (lv' := [(10, _), (0, _), (1, _), (2, _), (4, _), (5, _), (6, _), (9, _)]) C kd_Jd_judgeStandardCall_225 (by decide) rfl rfl ?_
  refine zk_iload C kd_Jd_judgeStandardCall_227 0 rfl rfl ?_
  refine zk_if_eq (tgt := 301) C kd_Jd_judgeStandardCall_229 (by decide) rfl (fun b1 => ?_) (fun b1 => ?_)
  · replace e := zd_pos b1 e
    exact zk_vret C hR kd_Jd_judgeStandardCall_301 rfl rfl (zd_rV e)
  · replace e := zd_neg b1 e
    refine zk_iload C kd_Jd_judgeStandardCall_232 5 rfl rfl ?_
    refine zk_iconst (v := (-1)) C kd_Jd_judgeStandardCall_234 (by decide) rfl ?_
    refine zk_icmp_ne (tgt := 242) C kd_Jd_judgeStandardCall_235 (by decide) rfl (fun b2 => ?_) (fun b2 => ?_)
    · replace e := zd_neg b2 e
      refine zk_aload_n C kd_Jd_judgeStandardCall_242 rfl 1 rfl rfl ?_
      refine zs_get (v := .ref (S.1 12)) C 38 1 rfl rfl rfl rfl ki_Jd (by decide) kw352 kd_Jd_judgeStandardCall_243 rfl ?_
      refine zs_get (v := .ref (S.1 16)) C 12 3 rfl rfl rfl rfl ki_Tr (by decide) kw168 kd_Jd_judgeStandardCall_246 rfl ?_
      refine zk_iload C kd_Jd_judgeStandardCall_249 5 rfl rfl ?_
      obtain ⟨q3, e⟩ := zd_g e
      refine zs_iald C 16 rfl (zd_vp q3) kd_Jd_judgeStandardCall_251 rfl ?_
      refine zk_lvs (lv' := [(0, .ref (S.1 38)), (1, .int x1), (2, .int x2), (4, .int x4), (6, .int x6), (9, .int x9)]) [1, 2, 3, 4, 6, 7] rfl ?_
      exact zb_Jd_judgeStandardCall_252 C hR h x1 x2 x4 x6 x9 (h.2.1 16 x5.toNatClampNeg) e
    · replace e := zd_pos b2 e
      refine zk_iconst (v := 0) C kd_Jd_judgeStandardCall_238 (by decide) rfl ?_
      refine zk_goto (tgt := 252) C kd_Jd_judgeStandardCall_239 (by decide) ?_
      refine zk_lvs (lv' := [(0, .ref (S.1 38)), (1, .int x1), (2, .int x2), (4, .int x4), (6, .int x6), (9, .int x9)]) [1, 2, 3, 4, 6, 7] rfl ?_
      exact zb_Jd_judgeStandardCall_252 C hR h x1 x2 x4 x6 x9 0 e
set_option maxHeartbeats 4000000 in
set_option maxRecDepth 100000 in
theorem zb_Jd_judgeStandardCall_220 {X : zkj_T} {S : zs_T} {P : ze_T} {l : Launch} {D : va_G} {sz0 : Nat} {rh : zs_H} (C : zk_C X km_Jd_judgeStandardCall (zs_G S l D sz0) { frames := 3, cells := 0, slots := 0, locals := 70 } (ze_E P)) (hR : zkj_R X (zd_PV S rh) (none)) (h : zs_H) (x1 : Int32) (x2 : Int32) (x4 : Int32) (x5 : Int32) (x6 : Int32) (x9 : Int32) (e : f_Jd_judgeStandardCall_220 h x1 x2 x4 x5 x6 x9 = some rh) : zk_Ab X (zs_W S h) 0 0 220 [(0, .ref (S.1 38)), (1, .int x1), (2, .int x2), (4, .int x4), (5, .int x5), (6, .int x6), (9, .int x9)] [] := by
  unfold f_Jd_judgeStandardCall_220 at e
  refine zk_iconst (v := 1) C kd_Jd_judgeStandardCall_220 (by decide) rfl ?_
  refine zk_goto (tgt := 225) C kd_Jd_judgeStandardCall_221 (by decide) ?_
  refine zk_lvs (lv' := [(0, .ref (S.1 38)), (1, .int x1), (2, .int x2), (4, .int x4), (5, .int x5), (6, .int x6), (9, .int x9)]) [0, 1, 2, 3, 4, 5, 6] rfl ?_
  exact zb_Jd_judgeStandardCall_225 C hR h x1 x2 x4 x5 x6 x9 1 e
set_option maxHeartbeats 4000000 in
set_option maxRecDepth 100000 in
theorem zb_Jd_judgeStandardCall_224 {X : zkj_T} {S : zs_T} {P : ze_T} {l : Launch} {D : va_G} {sz0 : Nat} {rh : zs_H} (C : zk_C X km_Jd_judgeStandardCall (zs_G S l D sz0) { frames := 3, cells := 0, slots := 0, locals := 70 } (ze_E P)) (hR : zkj_R X (zd_PV S rh) (none)) (h : zs_H) (x1 : Int32) (x2 : Int32) (x4 : Int32) (x5 : Int32) (x6 : Int32) (x9 : Int32) (e : f_Jd_judgeStandardCall_224 h x1 x2 x4 x5 x6 x9 = some rh) : zk_Ab X (zs_W S h) 0 0 224 [(0, .ref (S.1 38)), (1, .int x1), (2, .int x2), (4, .int x4), (5, .int x5), (6, .int x6), (9, .int x9)] [] := by
  unfold f_Jd_judgeStandardCall_224 at e
  refine zk_iconst (v := 0) C kd_Jd_judgeStandardCall_224 (by decide) rfl ?_
  refine zk_lvs (lv' := [(0, .ref (S.1 38)), (1, .int x1), (2, .int x2), (4, .int x4), (5, .int x5), (6, .int x6), (9, .int x9)]) [0, 1, 2, 3, 4, 5, 6] rfl ?_
  exact zb_Jd_judgeStandardCall_225 C hR h x1 x2 x4 x5 x6 x9 0 e
set_option maxHeartbeats 4000000 in
set_option maxRecDepth 100000 in
theorem zb_Jd_judgeStandardCall_202 {X : zkj_T} {S : zs_T} {P : ze_T} {l : Launch} {D : va_G} {sz0 : Nat} {rh : zs_H} (C : zk_C X km_Jd_judgeStandardCall (zs_G S l D sz0) { frames := 3, cells := 0, slots := 0, locals := 70 } (ze_E P)) (hR : zkj_R X (zd_PV S rh) (none)) (h : zs_H) (x1 : Int32) (x2 : Int32) (x4 : Int32) (x5 : Int32) (x6 : Int32) (x9 : Int32) (e : f_Jd_judgeStandardCall_202 h x1 x2 x4 x5 x6 x9 = some rh) : zk_Ab X (zs_W S h) 0 0 202 [(0, .ref (S.1 38)), (1, .int x1), (2, .int x2), (4, .int x4), (5, .int x5), (6, .int x6), (9, .int x9)] [] := by
  unfold f_Jd_judgeStandardCall_202 at e
  refine zk_iload C kd_Jd_judgeStandardCall_202 5 rfl rfl ?_
  refine zk_iconst (v := (-1)) C kd_Jd_judgeStandardCall_204 (by decide) rfl ?_
  refine zk_icmp_eq (tgt := 220) C kd_Jd_judgeStandardCall_205 (by decide) rfl (fun b1 => ?_) (fun b1 => ?_)
  · replace e := zd_pos b1 e
    refine zk_lvs (lv' := [(0, .ref (S.1 38)), (1, .int x1), (2, .int x2), (4, .int x4), (5, .int x5), (6, .int x6), (9, .int x9)]) [0, 1, 2, 3, 4, 5, 6] rfl ?_
    exact zb_Jd_judgeStandardCall_220 C hR h x1 x2 x4 x5 x6 x9 e
  · replace e := zd_neg b1 e
    refine zk_aload_n C kd_Jd_judgeStandardCall_208 rfl 0 rfl rfl ?_
    refine zs_get (v := .ref (S.1 12)) C 38 1 rfl rfl rfl rfl ki_Jd (by decide) kw352 kd_Jd_judgeStandardCall_209 rfl ?_
    refine zk_iload C kd_Jd_judgeStandardCall_212 5 rfl rfl ?_
    obtain ⟨v3, c2, e⟩ := zd_b e
    refine zs_callV (k := 12) (rn := { frames := 0, cells := 0, slots := 0, locals := 0 }) (As := [.int x6]) (rest := []) C (zc_Tr_isConstant h x6 c2) ku_Tr_isConstant kw1158 kv_Tr_isConstant rfl ⟨by decide, by decide⟩ ⟨by decide, by decide⟩ rfl rfl rfl (Nat.le_of_ble_eq_true rfl) kd_Jd_judgeStandardCall_214 rfl (c1 := 0) (s1 := 0) rfl rfl (fun v w hp => ?_)
    obtain ⟨rfl, rfl, z4⟩ := hp
    refine zk_stk (r' := [.int v3]) rfl ?_
    refine zk_if_eq (tgt := 224) C kd_Jd_judgeStandardCall_217 (by decide) rfl (fun b5 => ?_) (fun b5 => ?_)
    · replace e := zd_pos b5 e
      refine zk_lvs (lv' := [(0, .ref (S.1 38)), (1, .int x1), (2, .int x2), (4, .int x4), (5, .int x5), (6, .int x6), (9, .int x9)]) [0, 1, 2, 3, 4, 5, 6] rfl ?_
      exact zb_Jd_judgeStandardCall_224 C hR h x1 x2 x4 x5 x6 x9 e
    · replace e := zd_neg b5 e
      refine zk_lvs (lv' := [(0, .ref (S.1 38)), (1, .int x1), (2, .int x2), (4, .int x4), (5, .int x5), (6, .int x6), (9, .int x9)]) [0, 1, 2, 3, 4, 5, 6] rfl ?_
      exact zb_Jd_judgeStandardCall_220 C hR h x1 x2 x4 x5 x6 x9 e
set_option maxHeartbeats 4000000 in
set_option maxRecDepth 100000 in
theorem zb_Jd_judgeStandardCall_103 {X : zkj_T} {S : zs_T} {P : ze_T} {l : Launch} {D : va_G} {sz0 : Nat} {rh : zs_H} (C : zk_C X km_Jd_judgeStandardCall (zs_G S l D sz0) { frames := 3, cells := 0, slots := 0, locals := 70 } (ze_E P)) (hR : zkj_R X (zd_PV S rh) (none)) (h : zs_H) (x1 : Int32) (x2 : Int32) (x4 : Int32) (x5 : Int32) (x6 : Int32) (x7 : Int32) (y0 : Int32) (e : f_Jd_judgeStandardCall_103 h x1 x2 x4 x5 x6 x7 y0 = some rh) : zk_Ab X (zs_W S h) 0 0 103 [(0, .ref (S.1 38)), (1, .int x1), (2, .int x2), (4, .int x4), (5, .int x5), (6, .int x6), (7, .int x7)] [.int y0] := by
  unfold f_Jd_judgeStandardCall_103 at e
  refine zk_istore (lv' := [(8, _), (0, _), (1, _), (2, _), (4, _), (5, _), (6, _), (7, _)]) C kd_Jd_judgeStandardCall_103 (by decide) rfl rfl ?_
  refine zk_iload_n C kd_Jd_judgeStandardCall_105 rfl 3 rfl rfl ?_
  refine zk_aload_n C kd_Jd_judgeStandardCall_106 rfl 1 rfl rfl ?_
  refine zs_get (v := .ref (S.1 12)) C 38 1 rfl rfl rfl rfl ki_Jd (by decide) kw352 kd_Jd_judgeStandardCall_107 rfl ?_
  refine zs_get (v := .ref (S.1 14)) C 12 1 rfl rfl rfl rfl ki_Tr (by decide) kw160 kd_Jd_judgeStandardCall_110 rfl ?_
  refine zk_iload C kd_Jd_judgeStandardCall_113 4 rfl rfl ?_
  obtain ⟨q1, e⟩ := zd_g e
  refine zs_bald C 14 rfl (zd_vp q1) kd_Jd_judgeStandardCall_115 rfl ?_
  refine zk_iload C kd_Jd_judgeStandardCall_116 7 rfl rfl ?_
  refine zk_iload C kd_Jd_judgeStandardCall_118 0 rfl rfl ?_
  refine zk_callS (rn := { frames := 2, cells := 0, slots := 0, locals := 44 }) (As := [.int x2, .int (h.2.1 14 x4.toNatClampNeg), .int x7, .int y0]) (rest := []) C (zc_Jd_standardType h x2 (h.2.1 14 x4.toNatClampNeg) x7 y0) ku_Jd_standardType kw1205 ks_Jd_standardType rfl ⟨by decide, by decide⟩ ⟨by decide, by decide⟩ rfl (Nat.le_of_ble_eq_true rfl) kd_Jd_judgeStandardCall_120 rfl (c1 := 0) (s1 := 0) rfl rfl (fun v w hp => ?_)
  obtain ⟨rfl, rfl⟩ := hp
  refine zk_stk (r' := [.int (f_Jd_standardType x2 (h.2.1 14 x4.toNatClampNeg) x7 y0)]) rfl ?_
  refine zk_istore (lv' := [(9, _), (8, _), (0, _), (1, _), (2, _), (4, _), (5, _), (6, _), (7, _)]) C kd_Jd_judgeStandardCall_123 (by decide) rfl rfl ?_
  refine zk_iload C kd_Jd_judgeStandardCall_125 0 rfl rfl ?_
  refine zk_iconst (v := (-1)) C kd_Jd_judgeStandardCall_127 (by decide) rfl ?_
  refine zk_icmp_ne (tgt := 139) C kd_Jd_judgeStandardCall_128 (by decide) rfl (fun b2 => ?_) (fun b2 => ?_)
  · replace e := zd_neg b2 e
    refine zk_aload_n C kd_Jd_judgeStandardCall_139 rfl 2 rfl rfl ?_
    refine zs_get (v := .ref (S.1 12)) C 38 1 rfl rfl rfl rfl ki_Jd (by decide) kw352 kd_Jd_judgeStandardCall_140 rfl ?_
    refine zs_get (v := .ref (S.1 13)) C 12 0 rfl rfl rfl rfl ki_Tr (by decide) kw157 kd_Jd_judgeStandardCall_143 rfl ?_
    refine zk_iload_n C kd_Jd_judgeStandardCall_146 rfl 3 rfl rfl ?_
    refine zk_bipush (v := 39) C kd_Jd_judgeStandardCall_147 (by decide) rfl ?_
    obtain ⟨q3, e⟩ := zd_g e
    refine zs_bast C 13 rfl (zd_vp q3) kd_Jd_judgeStandardCall_149 rfl ?_
    refine zk_aload_n C kd_Jd_judgeStandardCall_150 rfl 2 rfl rfl ?_
    refine zs_get (v := .ref (S.1 12)) C 38 1 rfl rfl rfl rfl ki_Jd (by decide) kw352 kd_Jd_judgeStandardCall_151 rfl ?_
    refine zs_get (v := .ref (S.1 16)) C 12 3 rfl rfl rfl rfl ki_Tr (by decide) kw168 kd_Jd_judgeStandardCall_154 rfl ?_
    refine zk_iload_n C kd_Jd_judgeStandardCall_157 rfl 3 rfl rfl ?_
    refine zk_iload_n C kd_Jd_judgeStandardCall_158 rfl 4 rfl rfl ?_
    refine zs_iast C 16 rfl (zd_vp q3) kd_Jd_judgeStandardCall_159 rfl ?_
    refine zk_aload_n C kd_Jd_judgeStandardCall_160 rfl 2 rfl rfl ?_
    refine zs_get (v := .ref (S.1 12)) C 38 1 rfl rfl rfl rfl ki_Jd (by decide) kw352 kd_Jd_judgeStandardCall_161 rfl ?_
    refine zs_get (v := .ref (S.1 14)) C 12 1 rfl rfl rfl rfl ki_Tr (by decide) kw160 kd_Jd_judgeStandardCall_164 rfl ?_
    refine zk_iload_n C kd_Jd_judgeStandardCall_167 rfl 3 rfl rfl ?_
    refine zk_iload C kd_Jd_judgeStandardCall_168 0 rfl rfl ?_
    refine zk_i2b C kd_Jd_judgeStandardCall_170 rfl ?_
    refine zs_bast C 14 rfl (zd_vp q3) kd_Jd_judgeStandardCall_171 rfl ?_
    refine zk_aload_n C kd_Jd_judgeStandardCall_172 rfl 2 rfl rfl ?_
    refine zs_get (v := .ref (S.1 12)) C 38 1 rfl rfl rfl rfl ki_Jd (by decide) kw352 kd_Jd_judgeStandardCall_173 rfl ?_
    refine zk_iload C kd_Jd_judgeStandardCall_176 5 rfl rfl ?_
    obtain ⟨v5, c4, e⟩ := zd_b e
    refine zs_callV (k := 12) (rn := { frames := 0, cells := 0, slots := 0, locals := 0 }) (As := [.int x4]) (rest := []) C (zc_Tr_isConstant (zs_uM (zs_uM (zs_uM h 13 x1.toNatClampNeg (vp_nar .byte 39)) 16 x1.toNatClampNeg x2) 14 x1.toNatClampNeg (vp_nar .byte ((f_Jd_standardType x2 (h.2.1 14 x4.toNatClampNeg) x7 y0).toInt8.toInt32))) x4 c4) ku_Tr_isConstant kw1158 kv_Tr_isConstant rfl ⟨by decide, by decide⟩ ⟨by decide, by decide⟩ rfl rfl rfl (Nat.le_of_ble_eq_true rfl) kd_Jd_judgeStandardCall_178 rfl (c1 := 0) (s1 := 0) rfl rfl (fun v w hp => ?_)
    obtain ⟨rfl, rfl, z6⟩ := hp
    refine zk_stk (r' := [.int v5]) rfl ?_
    refine zk_if_eq (tgt := 224) C kd_Jd_judgeStandardCall_181 (by decide) rfl (fun b7 => ?_) (fun b7 => ?_)
    · replace e := zd_pos b7 e
      refine zk_lvs (lv' := [(0, .ref (S.1 38)), (1, .int x1), (2, .int x2), (4, .int x4), (5, .int x5), (6, .int x6), (9, .int (f_Jd_standardType x2 (h.2.1 14 x4.toNatClampNeg) x7 y0))]) [2, 3, 4, 5, 6, 7, 0] rfl ?_
      exact zb_Jd_judgeStandardCall_224 C hR (zs_uM (zs_uM (zs_uM h 13 x1.toNatClampNeg (vp_nar .byte 39)) 16 x1.toNatClampNeg x2) 14 x1.toNatClampNeg (vp_nar .byte ((f_Jd_standardType x2 (h.2.1 14 x4.toNatClampNeg) x7 y0).toInt8.toInt32))) x1 x2 x4 x5 x6 (f_Jd_standardType x2 (h.2.1 14 x4.toNatClampNeg) x7 y0) e
    · replace e := zd_neg b7 e
      refine zk_iload C kd_Jd_judgeStandardCall_184 6 rfl rfl ?_
      refine zk_iconst (v := (-1)) C kd_Jd_judgeStandardCall_186 (by decide) rfl ?_
      refine zk_icmp_eq (tgt := 202) C kd_Jd_judgeStandardCall_187 (by decide) rfl (fun b8 => ?_) (fun b8 => ?_)
      · replace e := zd_pos b8 e
        refine zk_lvs (lv' := [(0, .ref (S.1 38)), (1, .int x1), (2, .int x2), (4, .int x4), (5, .int x5), (6, .int x6), (9, .int (f_Jd_standardType x2 (h.2.1 14 x4.toNatClampNeg) x7 y0))]) [2, 3, 4, 5, 6, 7, 0] rfl ?_
        exact zb_Jd_judgeStandardCall_202 C hR (zs_uM (zs_uM (zs_uM h 13 x1.toNatClampNeg (vp_nar .byte 39)) 16 x1.toNatClampNeg x2) 14 x1.toNatClampNeg (vp_nar .byte ((f_Jd_standardType x2 (h.2.1 14 x4.toNatClampNeg) x7 y0).toInt8.toInt32))) x1 x2 x4 x5 x6 (f_Jd_standardType x2 (h.2.1 14 x4.toNatClampNeg) x7 y0) e
      · replace e := zd_neg b8 e
        refine zk_aload_n C kd_Jd_judgeStandardCall_190 rfl 2 rfl rfl ?_
        refine zs_get (v := .ref (S.1 12)) C 38 1 rfl rfl rfl rfl ki_Jd (by decide) kw352 kd_Jd_judgeStandardCall_191 rfl ?_
        refine zk_iload C kd_Jd_judgeStandardCall_194 6 rfl rfl ?_
        obtain ⟨v10, c9, e⟩ := zd_b e
        refine zs_callV (k := 12) (rn := { frames := 0, cells := 0, slots := 0, locals := 0 }) (As := [.int x5]) (rest := []) C (zc_Tr_isConstant (zs_uM (zs_uM (zs_uM h 13 x1.toNatClampNeg (vp_nar .byte 39)) 16 x1.toNatClampNeg x2) 14 x1.toNatClampNeg (vp_nar .byte ((f_Jd_standardType x2 (h.2.1 14 x4.toNatClampNeg) x7 y0).toInt8.toInt32))) x5 c9) ku_Tr_isConstant kw1158 kv_Tr_isConstant rfl ⟨by decide, by decide⟩ ⟨by decide, by decide⟩ rfl rfl rfl (Nat.le_of_ble_eq_true rfl) kd_Jd_judgeStandardCall_196 rfl (c1 := 0) (s1 := 0) rfl rfl (fun v w hp => ?_)
        obtain ⟨rfl, rfl, z11⟩ := hp
        refine zk_stk (r' := [.int v10]) rfl ?_
        refine zk_if_eq (tgt := 224) C kd_Jd_judgeStandardCall_199 (by decide) rfl (fun b12 => ?_) (fun b12 => ?_)
        · replace e := zd_pos b12 e
          refine zk_lvs (lv' := [(0, .ref (S.1 38)), (1, .int x1), (2, .int x2), (4, .int x4), (5, .int x5), (6, .int x6), (9, .int (f_Jd_standardType x2 (h.2.1 14 x4.toNatClampNeg) x7 y0))]) [2, 3, 4, 5, 6, 7, 0] rfl ?_
          exact zb_Jd_judgeStandardCall_224 C hR (zs_uM (zs_uM (zs_uM h 13 x1.toNatClampNeg (vp_nar .byte 39)) 16 x1.toNatClampNeg x2) 14 x1.toNatClampNeg (vp_nar .byte ((f_Jd_standardType x2 (h.2.1 14 x4.toNatClampNeg) x7 y0).toInt8.toInt32))) x1 x2 x4 x5 x6 (f_Jd_standardType x2 (h.2.1 14 x4.toNatClampNeg) x7 y0) e
        · replace e := zd_neg b12 e
          refine zk_lvs (lv' := [(0, .ref (S.1 38)), (1, .int x1), (2, .int x2), (4, .int x4), (5, .int x5), (6, .int x6), (9, .int (f_Jd_standardType x2 (h.2.1 14 x4.toNatClampNeg) x7 y0))]) [2, 3, 4, 5, 6, 7, 0] rfl ?_
          exact zb_Jd_judgeStandardCall_202 C hR (zs_uM (zs_uM (zs_uM h 13 x1.toNatClampNeg (vp_nar .byte 39)) 16 x1.toNatClampNeg x2) 14 x1.toNatClampNeg (vp_nar .byte ((f_Jd_standardType x2 (h.2.1 14 x4.toNatClampNeg) x7 y0).toInt8.toInt32))) x1 x2 x4 x5 x6 (f_Jd_standardType x2 (h.2.1 14 x4.toNatClampNeg) x7 y0) e
  · replace e := zd_pos b2 e
    refine zk_aload_n C kd_Jd_judgeStandardCall_131 rfl 2 rfl rfl ?_
    refine zk_bipush (v := 26) C kd_Jd_judgeStandardCall_132 (by decide) rfl ?_
    refine zk_iload_n C kd_Jd_judgeStandardCall_134 rfl 3 rfl rfl ?_
    obtain ⟨h14, c13, e⟩ := zd_b e
    refine zs_callV (k := 38) (rn := { frames := 0, cells := 0, slots := 0, locals := 0 }) (As := [.int 26, .int x1]) (rest := []) C (zc_Jd_refuse h 26 x1 c13) ku_Jd_refuse kw1040 kv_Jd_refuse rfl ⟨by decide, by decide⟩ ⟨by decide, by decide⟩ rfl rfl rfl (Nat.le_of_ble_eq_true rfl) kd_Jd_judgeStandardCall_135 rfl (c1 := 0) (s1 := 0) rfl rfl (fun v w hp => ?_)
    obtain ⟨rfl, rfl⟩ := hp
    refine zk_stk (r' := []) rfl ?_
    exact zk_vret C hR kd_Jd_judgeStandardCall_138 rfl rfl (zd_rV e)
set_option maxHeartbeats 4000000 in
set_option maxRecDepth 100000 in
theorem zb_Jd_judgeStandardCall_81 {X : zkj_T} {S : zs_T} {P : ze_T} {l : Launch} {D : va_G} {sz0 : Nat} {rh : zs_H} (C : zk_C X km_Jd_judgeStandardCall (zs_G S l D sz0) { frames := 3, cells := 0, slots := 0, locals := 70 } (ze_E P)) (hR : zkj_R X (zd_PV S rh) (none)) (h : zs_H) (x1 : Int32) (x2 : Int32) (x4 : Int32) (x5 : Int32) (x6 : Int32) (y0 : Int32) (e : f_Jd_judgeStandardCall_81 h x1 x2 x4 x5 x6 y0 = some rh) : zk_Ab X (zs_W S h) 0 0 81 [(0, .ref (S.1 38)), (1, .int x1), (2, .int x2), (4, .int x4), (5, .int x5), (6, .int x6)] [.int y0] := by
  unfold f_Jd_judgeStandardCall_81 at e
  refine zk_istore (lv' := [(7, _), (0, _), (1, _), (2, _), (4, _), (5, _), (6, _)]) C kd_Jd_judgeStandardCall_81 (by decide) rfl rfl ?_
  refine zk_iload C kd_Jd_judgeStandardCall_83 6 rfl rfl ?_
  refine zk_iconst (v := (-1)) C kd_Jd_judgeStandardCall_85 (by decide) rfl ?_
  refine zk_icmp_ne (tgt := 93) C kd_Jd_judgeStandardCall_86 (by decide) rfl (fun b1 => ?_) (fun b1 => ?_)
  · replace e := zd_neg b1 e
    refine zk_aload_n C kd_Jd_judgeStandardCall_93 rfl 1 rfl rfl ?_
    refine zs_get (v := .ref (S.1 12)) C 38 1 rfl rfl rfl rfl ki_Jd (by decide) kw352 kd_Jd_judgeStandardCall_94 rfl ?_
    refine zs_get (v := .ref (S.1 14)) C 12 1 rfl rfl rfl rfl ki_Tr (by decide) kw160 kd_Jd_judgeStandardCall_97 rfl ?_
    refine zk_iload C kd_Jd_judgeStandardCall_100 6 rfl rfl ?_
    obtain ⟨q2, e⟩ := zd_g e
    refine zs_bald C 14 rfl (zd_vp q2) kd_Jd_judgeStandardCall_102 rfl ?_
    refine zk_lvs (lv' := [(0, .ref (S.1 38)), (1, .int x1), (2, .int x2), (4, .int x4), (5, .int x5), (6, .int x6), (7, .int y0)]) [1, 2, 3, 4, 5, 6, 0] rfl ?_
    exact zb_Jd_judgeStandardCall_103 C hR h x1 x2 x4 x5 x6 y0 (h.2.1 14 x6.toNatClampNeg) e
  · replace e := zd_pos b1 e
    refine zk_iconst (v := 1) C kd_Jd_judgeStandardCall_89 (by decide) rfl ?_
    refine zk_goto (tgt := 103) C kd_Jd_judgeStandardCall_90 (by decide) ?_
    refine zk_lvs (lv' := [(0, .ref (S.1 38)), (1, .int x1), (2, .int x2), (4, .int x4), (5, .int x5), (6, .int x6), (7, .int y0)]) [1, 2, 3, 4, 5, 6, 0] rfl ?_
    exact zb_Jd_judgeStandardCall_103 C hR h x1 x2 x4 x5 x6 y0 1 e
set_option maxHeartbeats 4000000 in
set_option maxRecDepth 100000 in
theorem zb_Jd_judgeStandardCall_59 {X : zkj_T} {S : zs_T} {P : ze_T} {l : Launch} {D : va_G} {sz0 : Nat} {rh : zs_H} (C : zk_C X km_Jd_judgeStandardCall (zs_G S l D sz0) { frames := 3, cells := 0, slots := 0, locals := 70 } (ze_E P)) (hR : zkj_R X (zd_PV S rh) (none)) (h : zs_H) (x1 : Int32) (x2 : Int32) (x4 : Int32) (x5 : Int32) (y0 : Int32) (e : f_Jd_judgeStandardCall_59 h x1 x2 x4 x5 y0 = some rh) : zk_Ab X (zs_W S h) 0 0 59 [(0, .ref (S.1 38)), (1, .int x1), (2, .int x2), (4, .int x4), (5, .int x5)] [.int y0] := by
  unfold f_Jd_judgeStandardCall_59 at e
  refine zk_istore (lv' := [(6, _), (0, _), (1, _), (2, _), (4, _), (5, _)]) C kd_Jd_judgeStandardCall_59 (by decide) rfl rfl ?_
  refine zk_iload C kd_Jd_judgeStandardCall_61 5 rfl rfl ?_
  refine zk_iconst (v := (-1)) C kd_Jd_judgeStandardCall_63 (by decide) rfl ?_
  refine zk_icmp_ne (tgt := 71) C kd_Jd_judgeStandardCall_64 (by decide) rfl (fun b1 => ?_) (fun b1 => ?_)
  · replace e := zd_neg b1 e
    refine zk_aload_n C kd_Jd_judgeStandardCall_71 rfl 1 rfl rfl ?_
    refine zs_get (v := .ref (S.1 12)) C 38 1 rfl rfl rfl rfl ki_Jd (by decide) kw352 kd_Jd_judgeStandardCall_72 rfl ?_
    refine zs_get (v := .ref (S.1 14)) C 12 1 rfl rfl rfl rfl ki_Tr (by decide) kw160 kd_Jd_judgeStandardCall_75 rfl ?_
    refine zk_iload C kd_Jd_judgeStandardCall_78 5 rfl rfl ?_
    obtain ⟨q2, e⟩ := zd_g e
    refine zs_bald C 14 rfl (zd_vp q2) kd_Jd_judgeStandardCall_80 rfl ?_
    refine zk_lvs (lv' := [(0, .ref (S.1 38)), (1, .int x1), (2, .int x2), (4, .int x4), (5, .int x5), (6, .int y0)]) [1, 2, 3, 4, 5, 0] rfl ?_
    exact zb_Jd_judgeStandardCall_81 C hR h x1 x2 x4 x5 y0 (h.2.1 14 x5.toNatClampNeg) e
  · replace e := zd_pos b1 e
    refine zk_iconst (v := 1) C kd_Jd_judgeStandardCall_67 (by decide) rfl ?_
    refine zk_goto (tgt := 81) C kd_Jd_judgeStandardCall_68 (by decide) ?_
    refine zk_lvs (lv' := [(0, .ref (S.1 38)), (1, .int x1), (2, .int x2), (4, .int x4), (5, .int x5), (6, .int y0)]) [1, 2, 3, 4, 5, 0] rfl ?_
    exact zb_Jd_judgeStandardCall_81 C hR h x1 x2 x4 x5 y0 1 e
set_option maxHeartbeats 4000000 in
set_option maxRecDepth 100000 in
theorem zc_Jd_judgeStandardCall {l : Launch} {D : va_G} {sz0 : Nat} {S : zs_T} {P : ze_T} (h : zs_H) (x1 : Int32) (x2 : Int32) (x3 : Int32) {rh : zs_H} (e : f_Jd_judgeStandardCall h x1 x2 x3 = some rh) : zk_Sp (zs_G S l D sz0) (ze_E P) km_Jd_judgeStandardCall { frames := 3, cells := 0, slots := 0, locals := 70 } [.ref (S.1 38), .int x1, .int x2, .int x3] (zs_W S h) (zd_PV S rh) := by
  refine zk_met ku_Jd_judgeStandardCall (Nat.le_of_ble_eq_true rfl) (ze_Em P) ?_
  intro X C hR
  refine zk_lvs (lv' := [(0, .ref (S.1 38)), (1, .int x1), (2, .int x2), (3, .int x3)]) [0, 1, 2, 3] rfl ?_
  unfold f_Jd_judgeStandardCall at e
  refine zk_iload_n C kd_Jd_judgeStandardCall_0 rfl 3 rfl rfl ?_
  refine ze_gets (j := 4) C rfl kw1203 kd_Jd_judgeStandardCall_1 rfl ?_
  refine zk_iload_n C kd_Jd_judgeStandardCall_4 rfl 2 rfl rfl ?_
  obtain ⟨q1, e⟩ := zd_g e
  refine ze_ti C rfl (zd_vp q1) kd_Jd_judgeStandardCall_5 rfl ?_
  refine zk_stk (r' := [.int (zt_4.getD x2.toNatClampNeg 0), .int x3]) rfl ?_
  refine zk_icmp_eq (tgt := 17) C kd_Jd_judgeStandardCall_6 (by decide) rfl (fun b2 => ?_) (fun b2 => ?_)
  · replace e := zd_pos b2 e
    refine zk_aload_n C kd_Jd_judgeStandardCall_17 rfl 0 rfl rfl ?_
    refine zs_get (v := .ref (S.1 12)) C 38 1 rfl rfl rfl rfl ki_Jd (by decide) kw352 kd_Jd_judgeStandardCall_18 rfl ?_
    refine zs_get (v := .ref (S.1 17)) C 12 4 rfl rfl rfl rfl ki_Tr (by decide) kw170 kd_Jd_judgeStandardCall_21 rfl ?_
    refine zk_iload_n C kd_Jd_judgeStandardCall_24 rfl 1 rfl rfl ?_
    obtain ⟨q3, e⟩ := zd_g e
    refine zs_iald C 17 rfl (zd_vp q3) kd_Jd_judgeStandardCall_25 rfl ?_
    refine zk_istore (lv' := [(4, _), (0, _), (1, _), (2, _), (3, _)]) C kd_Jd_judgeStandardCall_26 (by decide) rfl rfl ?_
    refine zk_aload_n C kd_Jd_judgeStandardCall_28 rfl 1 rfl rfl ?_
    refine zs_get (v := .ref (S.1 12)) C 38 1 rfl rfl rfl rfl ki_Jd (by decide) kw352 kd_Jd_judgeStandardCall_29 rfl ?_
    refine zs_get (v := .ref (S.1 18)) C 12 5 rfl rfl rfl rfl ki_Tr (by decide) kw173 kd_Jd_judgeStandardCall_32 rfl ?_
    refine zk_iload C kd_Jd_judgeStandardCall_35 0 rfl rfl ?_
    obtain ⟨q4, e⟩ := zd_g e
    refine zs_iald C 18 rfl (zd_vp q4) kd_Jd_judgeStandardCall_37 rfl ?_
    refine zk_istore (lv' := [(5, _), (4, _), (0, _), (1, _), (2, _), (3, _)]) C kd_Jd_judgeStandardCall_38 (by decide) rfl rfl ?_
    refine zk_iload_n C kd_Jd_judgeStandardCall_40 rfl 5 rfl rfl ?_
    refine zk_iconst (v := 3) C kd_Jd_judgeStandardCall_41 (by decide) rfl ?_
    refine zk_icmp_ge (tgt := 49) C kd_Jd_judgeStandardCall_42 (by decide) rfl (fun b5 => ?_) (fun b5 => ?_)
    · replace e := zd_pos b5 e
      refine zk_aload_n C kd_Jd_judgeStandardCall_49 rfl 2 rfl rfl ?_
      refine zs_get (v := .ref (S.1 12)) C 38 1 rfl rfl rfl rfl ki_Jd (by decide) kw352 kd_Jd_judgeStandardCall_50 rfl ?_
      refine zs_get (v := .ref (S.1 18)) C 12 5 rfl rfl rfl rfl ki_Tr (by decide) kw173 kd_Jd_judgeStandardCall_53 rfl ?_
      refine zk_iload C kd_Jd_judgeStandardCall_56 0 rfl rfl ?_
      obtain ⟨q6, e⟩ := zd_g e
      refine zs_iald C 18 rfl (zd_vp q6) kd_Jd_judgeStandardCall_58 rfl ?_
      refine zk_lvs (lv' := [(0, .ref (S.1 38)), (1, .int x1), (2, .int x2), (4, .int (h.2.1 17 x1.toNatClampNeg)), (5, .int (h.2.1 18 (h.2.1 17 x1.toNatClampNeg).toNatClampNeg))]) [2, 3, 4, 1, 0] rfl ?_
      exact zb_Jd_judgeStandardCall_59 C hR h x1 x2 (h.2.1 17 x1.toNatClampNeg) (h.2.1 18 (h.2.1 17 x1.toNatClampNeg).toNatClampNeg) (h.2.1 18 (h.2.1 18 (h.2.1 17 x1.toNatClampNeg).toNatClampNeg).toNatClampNeg) e
    · replace e := zd_neg b5 e
      refine zk_iconst (v := (-1)) C kd_Jd_judgeStandardCall_45 (by decide) rfl ?_
      refine zk_goto (tgt := 59) C kd_Jd_judgeStandardCall_46 (by decide) ?_
      refine zk_lvs (lv' := [(0, .ref (S.1 38)), (1, .int x1), (2, .int x2), (4, .int (h.2.1 17 x1.toNatClampNeg)), (5, .int (h.2.1 18 (h.2.1 17 x1.toNatClampNeg).toNatClampNeg))]) [2, 3, 4, 1, 0] rfl ?_
      exact zb_Jd_judgeStandardCall_59 C hR h x1 x2 (h.2.1 17 x1.toNatClampNeg) (h.2.1 18 (h.2.1 17 x1.toNatClampNeg).toNatClampNeg) (-1) e
  · replace e := zd_neg b2 e
    refine zk_aload_n C kd_Jd_judgeStandardCall_9 rfl 0 rfl rfl ?_
    refine zk_bipush (v := 25) C kd_Jd_judgeStandardCall_10 (by decide) rfl ?_
    refine zk_iload_n C kd_Jd_judgeStandardCall_12 rfl 1 rfl rfl ?_
    obtain ⟨h8, c7, e⟩ := zd_b e
    refine zs_callV (k := 38) (rn := { frames := 0, cells := 0, slots := 0, locals := 0 }) (As := [.int 25, .int x1]) (rest := []) C (zc_Jd_refuse h 25 x1 c7) ku_Jd_refuse kw1040 kv_Jd_refuse rfl ⟨by decide, by decide⟩ ⟨by decide, by decide⟩ rfl rfl rfl (Nat.le_of_ble_eq_true rfl) kd_Jd_judgeStandardCall_13 rfl (c1 := 0) (s1 := 0) rfl rfl (fun v w hp => ?_)
    obtain ⟨rfl, rfl⟩ := hp
    refine zk_stk (r' := []) rfl ?_
    exact zk_vret C hR kd_Jd_judgeStandardCall_16 rfl rfl (zd_rV e)
set_option maxHeartbeats 4000000 in
set_option maxRecDepth 100000 in
theorem zb_Pl_inputs_35 {X : zkj_T} {S : zs_T} {P : ze_T} {l : Launch} {D : va_G} {sz0 : Nat} {rv : Int32} {h : zs_H} (C : zk_C X km_Pl_inputs (zs_G S l D sz0) { frames := 0, cells := 0, slots := 0, locals := 0 } (ze_E P)) (hR : zkj_R X (zd_PI S rv h) (some .int)) {k9 : Int32 → Int32 → Int32 → (Option Int32)} (hk9 : ∀ (x1 : Int32) (x2 : Int32) (x3 : Int32), k9 x1 x2 x3 = some rv → zk_Ab X (zs_W S h) 0 0 9 [(0, .ref (S.1 20)), (1, .int x1), (2, .int x2), (3, .int x3)] []) (x1 : Int32) (x3 : Int32) (y0 : Int32) (y1 : Int32) (e : f_Pl_inputs_35 h k9 x1 x3 y0 y1 = some rv) : zk_Ab X (zs_W S h) 0 0 35 [(0, .ref (S.1 20)), (1, .int x1), (3, .int x3)] [.int y0, .int y1] := by
  unfold f_Pl_inputs_35 at e
  refine zk_iadd C kd_Pl_inputs_35 rfl ?_
  refine zk_istore_n (lv' := [(2, _), (0, _), (1, _), (3, _)]) C kd_Pl_inputs_36 rfl (by decide) rfl rfl ?_
  refine zk_iinc (v := (x3 + 1)) (lv' := [(3, _), (2, _), (0, _), (1, _)]) C kd_Pl_inputs_37 3 rfl rfl (by decide) rfl rfl ?_
  refine zk_goto (tgt := 9) C kd_Pl_inputs_40 (by decide) ?_
  refine zk_lvs (lv' := [(0, .ref (S.1 20)), (1, .int x1), (2, .int (y1 + y0)), (3, .int (x3 + 1))]) [2, 3, 1, 0] rfl ?_
  exact hk9 x1 (y1 + y0) (x3 + 1) e
set_option maxHeartbeats 4000000 in
set_option maxRecDepth 100000 in
theorem zb_Pl_inputs_9 {X : zkj_T} {S : zs_T} {P : ze_T} {l : Launch} {D : va_G} {sz0 : Nat} {rv : Int32} {h : zs_H} (C : zk_C X km_Pl_inputs (zs_G S l D sz0) { frames := 0, cells := 0, slots := 0, locals := 0 } (ze_E P)) (hR : zkj_R X (zd_PI S rv h) (some .int)) {k9 : Int32 → Int32 → Int32 → (Option Int32)} (hk9 : ∀ (x1 : Int32) (x2 : Int32) (x3 : Int32), k9 x1 x2 x3 = some rv → zk_Ab X (zs_W S h) 0 0 9 [(0, .ref (S.1 20)), (1, .int x1), (2, .int x2), (3, .int x3)] []) (x1 : Int32) (x2 : Int32) (x3 : Int32) (e : f_Pl_inputs_9 h k9 x1 x2 x3 = some rv) : zk_Ab X (zs_W S h) 0 0 9 [(0, .ref (S.1 20)), (1, .int x1), (2, .int x2), (3, .int x3)] [] := by
  unfold f_Pl_inputs_9 at e
  refine zk_iload_n C kd_Pl_inputs_9 rfl 3 rfl rfl ?_
  refine zk_aload_n C kd_Pl_inputs_10 rfl 0 rfl rfl ?_
  refine zs_get (v := .ref (S.1 24)) C 20 3 rfl rfl rfl rfl ki_Pl (by decide) kw243 kd_Pl_inputs_11 rfl ?_
  refine zk_iload_n C kd_Pl_inputs_14 rfl 1 rfl rfl ?_
  obtain ⟨q1, e⟩ := zd_g e
  refine zs_iald C 24 rfl (zd_vp q1) kd_Pl_inputs_15 rfl ?_
  refine zk_icmp_ge (tgt := 43) C kd_Pl_inputs_16 (by decide) rfl (fun b2 => ?_) (fun b2 => ?_)
  · replace e := zd_pos b2 e
    refine zk_iload_n C kd_Pl_inputs_43 rfl 2 rfl rfl ?_
    exact zk_iret C hR kd_Pl_inputs_44 rfl rfl (zd_rIO e)
  · replace e := zd_neg b2 e
    refine zk_iload_n C kd_Pl_inputs_19 rfl 2 rfl rfl ?_
    refine zk_aload_n C kd_Pl_inputs_20 rfl 0 rfl rfl ?_
    refine zs_get (v := .ref (S.1 29)) C 20 8 rfl rfl rfl rfl ki_Pl (by decide) kw257 kd_Pl_inputs_21 rfl ?_
    refine zk_iload_n C kd_Pl_inputs_24 rfl 3 rfl rfl ?_
    obtain ⟨q3, e⟩ := zd_g e
    refine zs_iald C 29 rfl (zd_vp q3) kd_Pl_inputs_25 rfl ?_
    refine zk_iconst (v := 1) C kd_Pl_inputs_26 (by decide) rfl ?_
    refine zk_icmp_ne (tgt := 34) C kd_Pl_inputs_27 (by decide) rfl (fun b4 => ?_) (fun b4 => ?_)
    · replace e := zd_neg b4 e
      refine zk_iconst (v := 0) C kd_Pl_inputs_34 (by decide) rfl ?_
      refine zk_lvs (lv' := [(0, .ref (S.1 20)), (1, .int x1), (3, .int x3)]) [0, 1, 3] rfl ?_
      exact zb_Pl_inputs_35 C hR hk9 x1 x3 0 x2 e
    · replace e := zd_pos b4 e
      refine zk_iconst (v := 1) C kd_Pl_inputs_30 (by decide) rfl ?_
      refine zk_goto (tgt := 35) C kd_Pl_inputs_31 (by decide) ?_
      refine zk_lvs (lv' := [(0, .ref (S.1 20)), (1, .int x1), (3, .int x3)]) [0, 1, 3] rfl ?_
      exact zb_Pl_inputs_35 C hR hk9 x1 x3 1 x2 e
theorem zl_Pl_inputs_9 {X : zkj_T} {S : zs_T} {P : ze_T} {l : Launch} {D : va_G} {sz0 : Nat} {rv : Int32} {h : zs_H} (C : zk_C X km_Pl_inputs (zs_G S l D sz0) { frames := 0, cells := 0, slots := 0, locals := 0 } (ze_E P)) (hR : zkj_R X (zd_PI S rv h) (some .int)) (n : Nat) : ∀ (x1 : Int32) (x2 : Int32) (x3 : Int32), f_Pl_inputs_L9 h n x1 x2 x3 = some rv → zk_Ab X (zs_W S h) 0 0 9 [(0, .ref (S.1 20)), (1, .int x1), (2, .int x2), (3, .int x3)] [] := by
  induction n with
  | zero => intro x1 x2 x3 e; exact zd_no e
  | succ n ih => intro x1 x2 x3 e; exact zb_Pl_inputs_9 (k9 := f_Pl_inputs_L9 h n) C hR ih x1 x2 x3 e
set_option maxHeartbeats 4000000 in
set_option maxRecDepth 100000 in
theorem zc_Pl_inputs {l : Launch} {D : va_G} {sz0 : Nat} {S : zs_T} {P : ze_T} (h : zs_H) (x1 : Int32) {rv : Int32} (e : f_Pl_inputs h x1 = some rv) : zk_Sp (zs_G S l D sz0) (ze_E P) km_Pl_inputs { frames := 0, cells := 0, slots := 0, locals := 0 } [.ref (S.1 20), .int x1] (zs_W S h) (zd_PI S rv h) := by
  refine zk_met ku_Pl_inputs (Nat.le_of_ble_eq_true rfl) (ze_Em P) ?_
  intro X C hR
  refine zk_lvs (lv' := [(0, .ref (S.1 20)), (1, .int x1)]) [0, 1] rfl ?_
  unfold f_Pl_inputs at e
  refine zk_iconst (v := 0) C kd_Pl_inputs_0 (by decide) rfl ?_
  refine zk_istore_n (lv' := [(2, _), (0, _), (1, _)]) C kd_Pl_inputs_1 rfl (by decide) rfl rfl ?_
  refine zk_aload_n C kd_Pl_inputs_2 rfl 1 rfl rfl ?_
  refine zs_get (v := .ref (S.1 23)) C 20 2 rfl rfl rfl rfl ki_Pl (by decide) kw239 kd_Pl_inputs_3 rfl ?_
  refine zk_iload_n C kd_Pl_inputs_6 rfl 2 rfl rfl ?_
  obtain ⟨q1, e⟩ := zd_g e
  refine zs_iald C 23 rfl (zd_vp q1) kd_Pl_inputs_7 rfl ?_
  refine zk_istore_n (lv' := [(3, _), (2, _), (0, _), (1, _)]) C kd_Pl_inputs_8 rfl (by decide) rfl rfl ?_
  refine zk_lvs (lv' := [(0, .ref (S.1 20)), (1, .int x1), (2, .int 0), (3, .int (h.2.1 23 x1.toNatClampNeg))]) [2, 3, 1, 0] rfl ?_
  exact zl_Pl_inputs_9 C hR zF x1 0 (h.2.1 23 x1.toNatClampNeg) e
set_option maxHeartbeats 4000000 in
set_option maxRecDepth 100000 in
theorem zb_Pl_inputFrom_11 {X : zkj_T} {S : zs_T} {P : ze_T} {l : Launch} {D : va_G} {sz0 : Nat} {rv : Int32} {h : zs_H} (C : zk_C X km_Pl_inputFrom (zs_G S l D sz0) { frames := 1, cells := 0, slots := 0, locals := 23 } (ze_E P)) (hR : zkj_R X (zd_PI S rv h) (some .int)) {k11 : Int32 → Int32 → (Option Int32)} (hk11 : ∀ (x1 : Int32) (x3 : Int32), k11 x1 x3 = some rv → zk_Ab X (zs_W S h) 0 0 11 [(0, .ref (S.1 20)), (1, .int x1), (3, .int x3)] []) (x1 : Int32) (x3 : Int32) (e : f_Pl_inputFrom_11 h k11 x1 x3 = some rv) : zk_Ab X (zs_W S h) 0 0 11 [(0, .ref (S.1 20)), (1, .int x1), (3, .int x3)] [] := by
  unfold f_Pl_inputFrom_11 at e
  refine zk_iload_n C kd_Pl_inputFrom_11 rfl 2 rfl rfl ?_
  refine zk_aload_n C kd_Pl_inputFrom_12 rfl 0 rfl rfl ?_
  refine zs_get (v := .ref (S.1 24)) C 20 3 rfl rfl rfl rfl ki_Pl (by decide) kw243 kd_Pl_inputFrom_13 rfl ?_
  refine zk_iload_n C kd_Pl_inputFrom_16 rfl 1 rfl rfl ?_
  obtain ⟨q1, e⟩ := zd_g e
  refine zs_iald C 24 rfl (zd_vp q1) kd_Pl_inputFrom_17 rfl ?_
  refine zk_icmp_ge (tgt := 39) C kd_Pl_inputFrom_18 (by decide) rfl (fun b2 => ?_) (fun b2 => ?_)
  · replace e := zd_pos b2 e
    refine zk_iconst (v := (-1)) C kd_Pl_inputFrom_39 (by decide) rfl ?_
    exact zk_iret C hR kd_Pl_inputFrom_40 rfl rfl (zd_rIO e)
  · replace e := zd_neg b2 e
    refine zk_aload_n C kd_Pl_inputFrom_21 rfl 0 rfl rfl ?_
    refine zs_get (v := .ref (S.1 29)) C 20 8 rfl rfl rfl rfl ki_Pl (by decide) kw257 kd_Pl_inputFrom_22 rfl ?_
    refine zk_iload_n C kd_Pl_inputFrom_25 rfl 2 rfl rfl ?_
    obtain ⟨q3, e⟩ := zd_g e
    refine zs_iald C 29 rfl (zd_vp q3) kd_Pl_inputFrom_26 rfl ?_
    refine zk_iconst (v := 1) C kd_Pl_inputFrom_27 (by decide) rfl ?_
    refine zk_icmp_ne (tgt := 33) C kd_Pl_inputFrom_28 (by decide) rfl (fun b4 => ?_) (fun b4 => ?_)
    · replace e := zd_neg b4 e
      refine zk_iinc (v := (x3 + 1)) (lv' := [(3, _), (0, _), (1, _)]) C kd_Pl_inputFrom_33 2 rfl rfl (by decide) rfl rfl ?_
      refine zk_goto (tgt := 11) C kd_Pl_inputFrom_36 (by decide) ?_
      refine zk_lvs (lv' := [(0, .ref (S.1 20)), (1, .int x1), (3, .int (x3 + 1))]) [1, 2, 0] rfl ?_
      exact hk11 x1 (x3 + 1) e
    · replace e := zd_pos b4 e
      refine zk_iload_n C kd_Pl_inputFrom_31 rfl 2 rfl rfl ?_
      exact zk_iret C hR kd_Pl_inputFrom_32 rfl rfl (zd_rIO e)
theorem zl_Pl_inputFrom_11 {X : zkj_T} {S : zs_T} {P : ze_T} {l : Launch} {D : va_G} {sz0 : Nat} {rv : Int32} {h : zs_H} (C : zk_C X km_Pl_inputFrom (zs_G S l D sz0) { frames := 1, cells := 0, slots := 0, locals := 23 } (ze_E P)) (hR : zkj_R X (zd_PI S rv h) (some .int)) (n : Nat) : ∀ (x1 : Int32) (x3 : Int32), f_Pl_inputFrom_L11 h n x1 x3 = some rv → zk_Ab X (zs_W S h) 0 0 11 [(0, .ref (S.1 20)), (1, .int x1), (3, .int x3)] [] := by
  induction n with
  | zero => intro x1 x3 e; exact zd_no e
  | succ n ih => intro x1 x3 e; exact zb_Pl_inputFrom_11 (k11 := f_Pl_inputFrom_L11 h n) C hR ih x1 x3 e
set_option maxHeartbeats 4000000 in
set_option maxRecDepth 100000 in
theorem zc_Pl_inputFrom {l : Launch} {D : va_G} {sz0 : Nat} {S : zs_T} {P : ze_T} (h : zs_H) (x1 : Int32) (x2 : Int32) {rv : Int32} (e : f_Pl_inputFrom h x1 x2 = some rv) : zk_Sp (zs_G S l D sz0) (ze_E P) km_Pl_inputFrom { frames := 1, cells := 0, slots := 0, locals := 23 } [.ref (S.1 20), .int x1, .int x2] (zs_W S h) (zd_PI S rv h) := by
  refine zk_met ku_Pl_inputFrom (Nat.le_of_ble_eq_true rfl) (ze_Em P) ?_
  intro X C hR
  refine zk_lvs (lv' := [(0, .ref (S.1 20)), (1, .int x1), (2, .int x2)]) [0, 1, 2] rfl ?_
  unfold f_Pl_inputFrom at e
  refine zk_iload_n C kd_Pl_inputFrom_0 rfl 2 rfl rfl ?_
  refine zk_aload_n C kd_Pl_inputFrom_1 rfl 0 rfl rfl ?_
  refine zs_get (v := .ref (S.1 23)) C 20 2 rfl rfl rfl rfl ki_Pl (by decide) kw239 kd_Pl_inputFrom_2 rfl ?_
  refine zk_iload_n C kd_Pl_inputFrom_5 rfl 1 rfl rfl ?_
  obtain ⟨q1, e⟩ := zd_g e
  refine zs_iald C 23 rfl (zd_vp q1) kd_Pl_inputFrom_6 rfl ?_
  refine zk_mmax C kw1242 kw797 kw19 (by decide) (Nat.le_of_ble_eq_true rfl) (Nat.le_refl _) (Nat.le_refl _) kd_Pl_inputFrom_7 rfl ?_
  refine zk_istore_n (lv' := [(3, _), (0, _), (1, _), (2, _)]) C kd_Pl_inputFrom_10 rfl (by decide) rfl rfl ?_
  refine zk_lvs (lv' := [(0, .ref (S.1 20)), (1, .int x1), (3, .int (zd_max x2 (h.2.1 23 x1.toNatClampNeg)))]) [1, 2, 0] rfl ?_
  exact zl_Pl_inputFrom_11 C hR zF x1 (zd_max x2 (h.2.1 23 x1.toNatClampNeg)) e
set_option maxHeartbeats 4000000 in
set_option maxRecDepth 100000 in
theorem zc_Jd_fits {l : Launch} {D : va_G} {sz0 : Nat} {S : zs_T} {P : ze_T} (h : zs_H) (x0 : Int32) (x1 : Int32) : zk_Sp (zs_G S l D sz0) (ze_E P) km_Jd_fits { frames := 0, cells := 0, slots := 0, locals := 0 } [.int x0, .int x1] (zs_W S h) (zd_PZ S (f_Jd_fits x0 x1) h) := by
  obtain ⟨rv, e⟩ : ∃ rv, f_Jd_fits x0 x1 = rv := ⟨_, rfl⟩
  rw [e]
  refine zk_met ku_Jd_fits (Nat.le_of_ble_eq_true rfl) (ze_Em P) ?_
  intro X C hR
  refine zk_lvs (lv' := [(0, .int x0), (1, .int x1)]) [0, 1] rfl ?_
  unfold f_Jd_fits at e
  refine zk_iload_n C kd_Jd_fits_0 rfl 0 rfl rfl ?_
  refine zk_iload_n C kd_Jd_fits_1 rfl 1 rfl rfl ?_
  refine zk_icmp_eq (tgt := 15) C kd_Jd_fits_2 (by decide) rfl (fun b1 => ?_) (fun b1 => ?_)
  · replace e := zd_pos b1 e
    refine zk_iconst (v := 1) C kd_Jd_fits_15 (by decide) rfl ?_
    refine zk_goto (tgt := 20) C kd_Jd_fits_16 (by decide) ?_
    exact zk_zret C hR (zd_nb (Or.inr rfl)) kd_Jd_fits_20 rfl rfl (zd_rZT (Or.inr rfl) e)
  · replace e := zd_neg b1 e
    refine zk_iload_n C kd_Jd_fits_5 rfl 0 rfl rfl ?_
    refine zk_iconst (v := 1) C kd_Jd_fits_6 (by decide) rfl ?_
    refine zk_icmp_ne (tgt := 19) C kd_Jd_fits_7 (by decide) rfl (fun b2 => ?_) (fun b2 => ?_)
    · replace e := zd_neg b2 e
      refine zk_iconst (v := 0) C kd_Jd_fits_19 (by decide) rfl ?_
      exact zk_zret C hR (zd_nb (Or.inl rfl)) kd_Jd_fits_20 rfl rfl (zd_rZT (Or.inl rfl) e)
    · replace e := zd_pos b2 e
      refine zk_iload_n C kd_Jd_fits_10 rfl 1 rfl rfl ?_
      refine zk_iconst (v := 2) C kd_Jd_fits_11 (by decide) rfl ?_
      refine zk_icmp_ne (tgt := 19) C kd_Jd_fits_12 (by decide) rfl (fun b3 => ?_) (fun b3 => ?_)
      · replace e := zd_neg b3 e
        refine zk_iconst (v := 0) C kd_Jd_fits_19 (by decide) rfl ?_
        exact zk_zret C hR (zd_nb (Or.inl rfl)) kd_Jd_fits_20 rfl rfl (zd_rZT (Or.inl rfl) e)
      · replace e := zd_pos b3 e
        refine zk_iconst (v := 1) C kd_Jd_fits_15 (by decide) rfl ?_
        refine zk_goto (tgt := 20) C kd_Jd_fits_16 (by decide) ?_
        exact zk_zret C hR (zd_nb (Or.inr rfl)) kd_Jd_fits_20 rfl rfl (zd_rZT (Or.inr rfl) e)
set_option maxHeartbeats 4000000 in
set_option maxRecDepth 100000 in
theorem zb_Jd_judgeCall_123 {X : zkj_T} {S : zs_T} {P : ze_T} {l : Launch} {D : va_G} {sz0 : Nat} {rh : zs_H} (C : zk_C X km_Jd_judgeCall (zs_G S l D sz0) { frames := 4, cells := 0, slots := 0, locals := 102 } (ze_E P)) (hR : zkj_R X (zd_PV S rh) (none)) (h : zs_H) (x1 : Int32) (e : f_Jd_judgeCall_123 h x1 = some rh) : zk_Ab X (zs_W S h) 0 0 123 [(0, .ref (S.1 38)), (1, .int x1)] [] := by
  unfold f_Jd_judgeCall_123 at e
  refine zk_aload_n C kd_Jd_judgeCall_123 rfl 0 rfl rfl ?_
  refine zk_bipush (v := 24) C kd_Jd_judgeCall_124 (by decide) rfl ?_
  refine zk_iload_n C kd_Jd_judgeCall_126 rfl 1 rfl rfl ?_
  obtain ⟨h2, c1, e⟩ := zd_b e
  refine zs_callV (k := 38) (rn := { frames := 0, cells := 0, slots := 0, locals := 0 }) (As := [.int 24, .int x1]) (rest := []) C (zc_Jd_refuse h 24 x1 c1) ku_Jd_refuse kw1040 kv_Jd_refuse rfl ⟨by decide, by decide⟩ ⟨by decide, by decide⟩ rfl rfl rfl (Nat.le_of_ble_eq_true rfl) kd_Jd_judgeCall_127 rfl (c1 := 0) (s1 := 0) rfl rfl (fun v w hp => ?_)
  obtain ⟨rfl, rfl⟩ := hp
  refine zk_stk (r' := []) rfl ?_
  exact zk_vret C hR kd_Jd_judgeCall_130 rfl rfl (zd_rV e)
set_option maxHeartbeats 4000000 in
set_option maxRecDepth 100000 in
theorem zb_Jd_judgeCall_245 {X : zkj_T} {S : zs_T} {P : ze_T} {l : Launch} {D : va_G} {sz0 : Nat} {rh : zs_H} (C : zk_C X km_Jd_judgeCall (zs_G S l D sz0) { frames := 4, cells := 0, slots := 0, locals := 102 } (ze_E P)) (hR : zkj_R X (zd_PV S rh) (none)) {k173 : zs_H → Int32 → Int32 → Int32 → Int32 → Int32 → Int32 → (Option zs_H)} (hk173 : ∀ (h : zs_H) (x1 : Int32) (x3 : Int32) (x4 : Int32) (x5 : Int32) (x6 : Int32) (x7 : Int32), k173 h x1 x3 x4 x5 x6 x7 = some rh → zk_Ab X (zs_W S h) 0 0 173 [(0, .ref (S.1 38)), (1, .int x1), (3, .int x3), (4, .int x4), (5, .int x5), (6, .int x6), (7, .int x7)] []) (h : zs_H) (x1 : Int32) (x3 : Int32) (x4 : Int32) (x5 : Int32) (x6 : Int32) (x7 : Int32) (y0 : Int32) (e : f_Jd_judgeCall_245 k173 h x1 x3 x4 x5 x6 x7 y0 = some rh) : zk_Ab X (zs_W S h) 0 0 245 [(0, .ref (S.1 38)), (1, .int x1), (3, .int x3), (4, .int x4), (5, .int x5), (6, .int x6), (7, .int x7)] [.int y0, .ref (S.1 38)] := by
  unfold f_Jd_judgeCall_245 at e
  refine zk_bipush (v := 26) C kd_Jd_judgeCall_245 (by decide) rfl ?_
  refine zk_iload_n C kd_Jd_judgeCall_247 rfl 1 rfl rfl ?_
  obtain ⟨h2, c1, e⟩ := zd_b e
  refine zs_callV (k := 38) (rn := { frames := 1, cells := 0, slots := 0, locals := 22 }) (As := [.int y0, .int 26, .int x1]) (rest := []) C (zc_Jd_refuseIf h y0 26 x1 c1) ku_Jd_refuseIf kw1036 kv_Jd_refuseIf rfl ⟨by decide, by decide⟩ ⟨by decide, by decide⟩ rfl rfl rfl (Nat.le_of_ble_eq_true rfl) kd_Jd_judgeCall_248 rfl (c1 := 0) (s1 := 0) rfl rfl (fun v w hp => ?_)
  obtain ⟨rfl, rfl⟩ := hp
  refine zk_stk (r' := []) rfl ?_
  refine zk_aload_n C kd_Jd_judgeCall_251 rfl 0 rfl rfl ?_
  refine zs_get (v := .ref (S.1 12)) C 38 1 rfl rfl rfl rfl ki_Jd (by decide) kw352 kd_Jd_judgeCall_252 rfl ?_
  refine zs_get (v := .ref (S.1 18)) C 12 5 rfl rfl rfl rfl ki_Tr (by decide) kw173 kd_Jd_judgeCall_255 rfl ?_
  refine zk_iload C kd_Jd_judgeCall_258 3 rfl rfl ?_
  obtain ⟨q3, e⟩ := zd_g e
  refine zs_iald C 18 rfl (zd_vp q3) kd_Jd_judgeCall_260 rfl ?_
  refine zk_istore (lv' := [(4, _), (0, _), (1, _), (3, _), (5, _), (6, _), (7, _)]) C kd_Jd_judgeCall_261 (by decide) rfl rfl ?_
  refine zk_iinc (v := (x7 + 1)) (lv' := [(7, _), (4, _), (0, _), (1, _), (3, _), (5, _), (6, _)]) C kd_Jd_judgeCall_263 6 rfl rfl (by decide) rfl rfl ?_
  refine zk_goto (tgt := 173) C kd_Jd_judgeCall_266 (by decide) ?_
  refine zk_lvs (lv' := [(0, .ref (S.1 38)), (1, .int x1), (3, .int x3), (4, .int (h2.2.1 18 x4.toNatClampNeg)), (5, .int x5), (6, .int x6), (7, .int (x7 + 1))]) [2, 3, 4, 1, 5, 6, 0] rfl ?_
  exact hk173 h2 x1 x3 (h2.2.1 18 x4.toNatClampNeg) x5 x6 (x7 + 1) e
set_option maxHeartbeats 4000000 in
set_option maxRecDepth 100000 in
theorem zb_Jd_judgeCall_240 {X : zkj_T} {S : zs_T} {P : ze_T} {l : Launch} {D : va_G} {sz0 : Nat} {rh : zs_H} (C : zk_C X km_Jd_judgeCall (zs_G S l D sz0) { frames := 4, cells := 0, slots := 0, locals := 102 } (ze_E P)) (hR : zkj_R X (zd_PV S rh) (none)) {k173 : zs_H → Int32 → Int32 → Int32 → Int32 → Int32 → Int32 → (Option zs_H)} (hk173 : ∀ (h : zs_H) (x1 : Int32) (x3 : Int32) (x4 : Int32) (x5 : Int32) (x6 : Int32) (x7 : Int32), k173 h x1 x3 x4 x5 x6 x7 = some rh → zk_Ab X (zs_W S h) 0 0 173 [(0, .ref (S.1 38)), (1, .int x1), (3, .int x3), (4, .int x4), (5, .int x5), (6, .int x6), (7, .int x7)] []) (h : zs_H) (x1 : Int32) (x3 : Int32) (x4 : Int32) (x5 : Int32) (x6 : Int32) (x7 : Int32) (e : f_Jd_judgeCall_240 k173 h x1 x3 x4 x5 x6 x7 = some rh) : zk_Ab X (zs_W S h) 0 0 240 [(0, .ref (S.1 38)), (1, .int x1), (3, .int x3), (4, .int x4), (5, .int x5), (6, .int x6), (7, .int x7)] [.ref (S.1 38)] := by
  unfold f_Jd_judgeCall_240 at e
  refine zk_iconst (v := 1) C kd_Jd_judgeCall_240 (by decide) rfl ?_
  refine zk_goto (tgt := 245) C kd_Jd_judgeCall_241 (by decide) ?_
  refine zk_lvs (lv' := [(0, .ref (S.1 38)), (1, .int x1), (3, .int x3), (4, .int x4), (5, .int x5), (6, .int x6), (7, .int x7)]) [0, 1, 2, 3, 4, 5, 6] rfl ?_
  exact zb_Jd_judgeCall_245 C hR hk173 h x1 x3 x4 x5 x6 x7 1 e
set_option maxHeartbeats 4000000 in
set_option maxRecDepth 100000 in
theorem zb_Jd_judgeCall_269 {X : zkj_T} {S : zs_T} {P : ze_T} {l : Launch} {D : va_G} {sz0 : Nat} {rh : zs_H} (C : zk_C X km_Jd_judgeCall (zs_G S l D sz0) { frames := 4, cells := 0, slots := 0, locals := 102 } (ze_E P)) (hR : zkj_R X (zd_PV S rh) (none)) (h : zs_H) (x1 : Int32) (x5 : Int32) (e : f_Jd_judgeCall_269 h x1 x5 = some rh) : zk_Ab X (zs_W S h) 0 0 269 [(0, .ref (S.1 38)), (1, .int x1), (5, .int x5)] [] := by
  unfold f_Jd_judgeCall_269 at e
  refine zk_aload_n C kd_Jd_judgeCall_269 rfl 0 rfl rfl ?_
  refine zs_get (v := .ref (S.1 12)) C 38 1 rfl rfl rfl rfl ki_Jd (by decide) kw352 kd_Jd_judgeCall_270 rfl ?_
  refine zs_get (v := .ref (S.1 16)) C 12 3 rfl rfl rfl rfl ki_Tr (by decide) kw168 kd_Jd_judgeCall_273 rfl ?_
  refine zk_iload_n C kd_Jd_judgeCall_276 rfl 1 rfl rfl ?_
  refine zk_iload C kd_Jd_judgeCall_277 2 rfl rfl ?_
  obtain ⟨q1, e⟩ := zd_g e
  refine zs_iast C 16 rfl (zd_vp q1) kd_Jd_judgeCall_279 rfl ?_
  refine zk_aload_n C kd_Jd_judgeCall_280 rfl 0 rfl rfl ?_
  refine zs_get (v := .ref (S.1 12)) C 38 1 rfl rfl rfl rfl ki_Jd (by decide) kw352 kd_Jd_judgeCall_281 rfl ?_
  refine zs_get (v := .ref (S.1 14)) C 12 1 rfl rfl rfl rfl ki_Tr (by decide) kw160 kd_Jd_judgeCall_284 rfl ?_
  refine zk_iload_n C kd_Jd_judgeCall_287 rfl 1 rfl rfl ?_
  refine zk_aload_n C kd_Jd_judgeCall_288 rfl 0 rfl rfl ?_
  refine zs_get (v := .ref (S.1 20)) C 38 2 rfl rfl rfl rfl ki_Jd (by decide) kw353 kd_Jd_judgeCall_289 rfl ?_
  refine zs_get (v := .ref (S.1 31)) C 20 10 rfl rfl rfl rfl ki_Pl (by decide) kw266 kd_Jd_judgeCall_292 rfl ?_
  refine zk_aload_n C kd_Jd_judgeCall_295 rfl 0 rfl rfl ?_
  refine zs_get (v := .ref (S.1 20)) C 38 2 rfl rfl rfl rfl ki_Jd (by decide) kw353 kd_Jd_judgeCall_296 rfl ?_
  refine zs_get (v := .ref (S.1 23)) C 20 2 rfl rfl rfl rfl ki_Pl (by decide) kw242 kd_Jd_judgeCall_299 rfl ?_
  refine zk_iload C kd_Jd_judgeCall_302 2 rfl rfl ?_
  obtain ⟨q2, e⟩ := zd_g e
  refine zs_iald C 23 rfl (zd_vp q2) kd_Jd_judgeCall_304 rfl ?_
  refine zk_stk (r' := [.int (h.2.1 23 x5.toNatClampNeg), .ref (S.1 31), .int x1, .ref (S.1 14)]) rfl ?_
  obtain ⟨q3, e⟩ := zd_g e
  refine zs_iald C 31 rfl (zd_vp q3) kd_Jd_judgeCall_305 rfl ?_
  refine zk_stk (r' := [.int (h.2.1 31 (h.2.1 23 x5.toNatClampNeg).toNatClampNeg), .int x1, .ref (S.1 14)]) rfl ?_
  refine zk_i2b C kd_Jd_judgeCall_306 rfl ?_
  refine zs_bast C 14 rfl (zd_vp q1) kd_Jd_judgeCall_307 rfl ?_
  exact zk_vret C hR kd_Jd_judgeCall_308 rfl rfl (zd_rV e)
set_option maxHeartbeats 4000000 in
set_option maxRecDepth 100000 in
theorem zb_Jd_judgeCall_173 {X : zkj_T} {S : zs_T} {P : ze_T} {l : Launch} {D : va_G} {sz0 : Nat} {rh : zs_H} (C : zk_C X km_Jd_judgeCall (zs_G S l D sz0) { frames := 4, cells := 0, slots := 0, locals := 102 } (ze_E P)) (hR : zkj_R X (zd_PV S rh) (none)) {k173 : zs_H → Int32 → Int32 → Int32 → Int32 → Int32 → Int32 → (Option zs_H)} (hk173 : ∀ (h : zs_H) (x1 : Int32) (x3 : Int32) (x4 : Int32) (x5 : Int32) (x6 : Int32) (x7 : Int32), k173 h x1 x3 x4 x5 x6 x7 = some rh → zk_Ab X (zs_W S h) 0 0 173 [(0, .ref (S.1 38)), (1, .int x1), (3, .int x3), (4, .int x4), (5, .int x5), (6, .int x6), (7, .int x7)] []) (h : zs_H) (x1 : Int32) (x3 : Int32) (x4 : Int32) (x5 : Int32) (x6 : Int32) (x7 : Int32) (e : f_Jd_judgeCall_173 k173 h x1 x3 x4 x5 x6 x7 = some rh) : zk_Ab X (zs_W S h) 0 0 173 [(0, .ref (S.1 38)), (1, .int x1), (3, .int x3), (4, .int x4), (5, .int x5), (6, .int x6), (7, .int x7)] [] := by
  unfold f_Jd_judgeCall_173 at e
  refine zk_iload C kd_Jd_judgeCall_173 6 rfl rfl ?_
  refine zk_iload_n C kd_Jd_judgeCall_175 rfl 2 rfl rfl ?_
  refine zk_icmp_ge (tgt := 269) C kd_Jd_judgeCall_176 (by decide) rfl (fun b1 => ?_) (fun b1 => ?_)
  · replace e := zd_pos b1 e
    refine zk_lvs (lv' := [(0, .ref (S.1 38)), (1, .int x1), (5, .int x5)]) [0, 1, 4] rfl ?_
    exact zb_Jd_judgeCall_269 C hR h x1 x5 e
  · replace e := zd_neg b1 e
    refine zk_aload_n C kd_Jd_judgeCall_179 rfl 0 rfl rfl ?_
    refine zs_get (v := .int (h.1 38 3)) C 38 3 rfl rfl rfl rfl ki_Jd (by decide) kw354 kd_Jd_judgeCall_180 rfl ?_
    refine zk_if_ne (tgt := 269) C kd_Jd_judgeCall_183 (by decide) rfl (fun b2 => ?_) (fun b2 => ?_)
    · replace e := zd_neg b2 e
      refine zk_lvs (lv' := [(0, .ref (S.1 38)), (1, .int x1), (5, .int x5)]) [0, 1, 4] rfl ?_
      exact zb_Jd_judgeCall_269 C hR h x1 x5 e
    · replace e := zd_pos b2 e
      refine zk_iload C kd_Jd_judgeCall_186 3 rfl rfl ?_
      refine zk_iconst (v := (-1)) C kd_Jd_judgeCall_188 (by decide) rfl ?_
      refine zk_icmp_eq (tgt := 269) C kd_Jd_judgeCall_189 (by decide) rfl (fun b3 => ?_) (fun b3 => ?_)
      · replace e := zd_pos b3 e
        refine zk_lvs (lv' := [(0, .ref (S.1 38)), (1, .int x1), (5, .int x5)]) [0, 1, 4] rfl ?_
        exact zb_Jd_judgeCall_269 C hR h x1 x5 e
      · replace e := zd_neg b3 e
        refine zk_aload_n C kd_Jd_judgeCall_192 rfl 0 rfl rfl ?_
        refine zs_get (v := .ref (S.1 20)) C 38 2 rfl rfl rfl rfl ki_Jd (by decide) kw353 kd_Jd_judgeCall_193 rfl ?_
        refine zk_iload C kd_Jd_judgeCall_196 4 rfl rfl ?_
        refine zk_iload C kd_Jd_judgeCall_198 5 rfl rfl ?_
        refine zk_iconst (v := 1) C kd_Jd_judgeCall_200 (by decide) rfl ?_
        refine zk_iadd C kd_Jd_judgeCall_201 rfl ?_
        obtain ⟨v5, c4, e⟩ := zd_b e
        refine zs_callV (k := 20) (rn := { frames := 1, cells := 0, slots := 0, locals := 23 }) (As := [.int x5, .int (x6 + 1)]) (rest := []) C (zc_Pl_inputFrom h x5 (x6 + 1) c4) ku_Pl_inputFrom kw1238 kv_Pl_inputFrom rfl ⟨by decide, by decide⟩ ⟨by decide, by decide⟩ rfl rfl rfl (Nat.le_of_ble_eq_true rfl) kd_Jd_judgeCall_202 rfl (c1 := 0) (s1 := 0) rfl rfl (fun v w hp => ?_)
        obtain ⟨rfl, rfl⟩ := hp
        refine zk_stk (r' := [.int v5]) rfl ?_
        refine zk_istore (lv' := [(6, _), (0, _), (1, _), (3, _), (4, _), (5, _), (7, _)]) C kd_Jd_judgeCall_205 (by decide) rfl rfl ?_
        refine zk_aload_n C kd_Jd_judgeCall_207 rfl 1 rfl rfl ?_
        refine zk_iload C kd_Jd_judgeCall_208 0 rfl rfl ?_
        refine zk_iconst (v := (-1)) C kd_Jd_judgeCall_210 (by decide) rfl ?_
        refine zk_icmp_eq (tgt := 240) C kd_Jd_judgeCall_211 (by decide) rfl (fun b6 => ?_) (fun b6 => ?_)
        · replace e := zd_pos b6 e
          refine zk_lvs (lv' := [(0, .ref (S.1 38)), (1, .int x1), (3, .int x3), (4, .int x4), (5, .int x5), (6, .int v5), (7, .int x7)]) [1, 2, 3, 4, 5, 0, 6] rfl ?_
          exact zb_Jd_judgeCall_240 C hR hk173 h x1 x3 x4 x5 v5 x7 e
        · replace e := zd_neg b6 e
          refine zk_aload_n C kd_Jd_judgeCall_214 rfl 1 rfl rfl ?_
          refine zs_get (v := .ref (S.1 12)) C 38 1 rfl rfl rfl rfl ki_Jd (by decide) kw352 kd_Jd_judgeCall_215 rfl ?_
          refine zs_get (v := .ref (S.1 14)) C 12 1 rfl rfl rfl rfl ki_Tr (by decide) kw160 kd_Jd_judgeCall_218 rfl ?_
          refine zk_iload C kd_Jd_judgeCall_221 4 rfl rfl ?_
          obtain ⟨q7, e⟩ := zd_g e
          refine zs_bald C 14 rfl (zd_vp q7) kd_Jd_judgeCall_223 rfl ?_
          refine zk_aload_n C kd_Jd_judgeCall_224 rfl 1 rfl rfl ?_
          refine zs_get (v := .ref (S.1 20)) C 38 2 rfl rfl rfl rfl ki_Jd (by decide) kw353 kd_Jd_judgeCall_225 rfl ?_
          refine zs_get (v := .ref (S.1 31)) C 20 10 rfl rfl rfl rfl ki_Pl (by decide) kw266 kd_Jd_judgeCall_228 rfl ?_
          refine zk_iload C kd_Jd_judgeCall_231 0 rfl rfl ?_
          obtain ⟨q8, e⟩ := zd_g e
          refine zs_iald C 31 rfl (zd_vp q8) kd_Jd_judgeCall_233 rfl ?_
          refine zk_callS (rn := { frames := 0, cells := 0, slots := 0, locals := 0 }) (As := [.int (h.2.1 14 x4.toNatClampNeg), .int (h.2.1 31 v5.toNatClampNeg)]) (rest := [.ref (S.1 38)]) C (zc_Jd_fits h (h.2.1 14 x4.toNatClampNeg) (h.2.1 31 v5.toNatClampNeg)) ku_Jd_fits kw1127 ks_Jd_fits rfl ⟨by decide, by decide⟩ ⟨by decide, by decide⟩ rfl (Nat.le_of_ble_eq_true rfl) kd_Jd_judgeCall_234 rfl (c1 := 0) (s1 := 0) rfl rfl (fun v w hp => ?_)
          obtain ⟨rfl, rfl, z9⟩ := hp
          refine zk_stk (r' := [.int (f_Jd_fits (h.2.1 14 x4.toNatClampNeg) (h.2.1 31 v5.toNatClampNeg)), .ref (S.1 38)]) rfl ?_
          refine zk_if_ne (tgt := 244) C kd_Jd_judgeCall_237 (by decide) rfl (fun b10 => ?_) (fun b10 => ?_)
          · replace e := zd_neg b10 e
            refine zk_iconst (v := 0) C kd_Jd_judgeCall_244 (by decide) rfl ?_
            refine zk_lvs (lv' := [(0, .ref (S.1 38)), (1, .int x1), (3, .int x3), (4, .int x4), (5, .int x5), (6, .int v5), (7, .int x7)]) [1, 2, 3, 4, 5, 0, 6] rfl ?_
            exact zb_Jd_judgeCall_245 C hR hk173 h x1 x3 x4 x5 v5 x7 0 e
          · replace e := zd_pos b10 e
            refine zk_lvs (lv' := [(0, .ref (S.1 38)), (1, .int x1), (3, .int x3), (4, .int x4), (5, .int x5), (6, .int v5), (7, .int x7)]) [1, 2, 3, 4, 5, 0, 6] rfl ?_
            exact zb_Jd_judgeCall_240 C hR hk173 h x1 x3 x4 x5 v5 x7 e
theorem zl_Jd_judgeCall_173 {X : zkj_T} {S : zs_T} {P : ze_T} {l : Launch} {D : va_G} {sz0 : Nat} {rh : zs_H} (C : zk_C X km_Jd_judgeCall (zs_G S l D sz0) { frames := 4, cells := 0, slots := 0, locals := 102 } (ze_E P)) (hR : zkj_R X (zd_PV S rh) (none)) (n : Nat) : ∀ (h : zs_H) (x1 : Int32) (x3 : Int32) (x4 : Int32) (x5 : Int32) (x6 : Int32) (x7 : Int32), f_Jd_judgeCall_L173 n h x1 x3 x4 x5 x6 x7 = some rh → zk_Ab X (zs_W S h) 0 0 173 [(0, .ref (S.1 38)), (1, .int x1), (3, .int x3), (4, .int x4), (5, .int x5), (6, .int x6), (7, .int x7)] [] := by
  induction n with
  | zero => intro h x1 x3 x4 x5 x6 x7 e; exact zd_no e
  | succ n ih => intro h x1 x3 x4 x5 x6 x7 e; exact zb_Jd_judgeCall_173 (k173 := f_Jd_judgeCall_L173  n) C hR ih h x1 x3 x4 x5 x6 x7 e
set_option maxHeartbeats 4000000 in
set_option maxRecDepth 100000 in
theorem zb_Jd_judgeCall_150 {X : zkj_T} {S : zs_T} {P : ze_T} {l : Launch} {D : va_G} {sz0 : Nat} {rh : zs_H} (C : zk_C X km_Jd_judgeCall (zs_G S l D sz0) { frames := 4, cells := 0, slots := 0, locals := 102 } (ze_E P)) (hR : zkj_R X (zd_PV S rh) (none)) (h : zs_H) (x1 : Int32) (x3 : Int32) (x5 : Int32) (y0 : Int32) (e : f_Jd_judgeCall_150 h x1 x3 x5 y0 = some rh) : zk_Ab X (zs_W S h) 0 0 150 [(0, .ref (S.1 38)), (1, .int x1), (3, .int x3), (5, .int x5)] [.int y0, .ref (S.1 38)] := by
  unfold f_Jd_judgeCall_150 at e
  refine zk_bipush (v := 25) C kd_Jd_judgeCall_150 (by decide) rfl ?_
  refine zk_iload_n C kd_Jd_judgeCall_152 rfl 1 rfl rfl ?_
  obtain ⟨h2, c1, e⟩ := zd_b e
  refine zs_callV (k := 38) (rn := { frames := 1, cells := 0, slots := 0, locals := 22 }) (As := [.int y0, .int 25, .int x1]) (rest := []) C (zc_Jd_refuseIf h y0 25 x1 c1) ku_Jd_refuseIf kw1036 kv_Jd_refuseIf rfl ⟨by decide, by decide⟩ ⟨by decide, by decide⟩ rfl rfl rfl (Nat.le_of_ble_eq_true rfl) kd_Jd_judgeCall_153 rfl (c1 := 0) (s1 := 0) rfl rfl (fun v w hp => ?_)
  obtain ⟨rfl, rfl⟩ := hp
  refine zk_stk (r' := []) rfl ?_
  refine zk_iconst (v := (-1)) C kd_Jd_judgeCall_156 (by decide) rfl ?_
  refine zk_istore (lv' := [(6, _), (0, _), (1, _), (3, _), (5, _)]) C kd_Jd_judgeCall_157 (by decide) rfl rfl ?_
  refine zk_aload_n C kd_Jd_judgeCall_159 rfl 1 rfl rfl ?_
  refine zs_get (v := .ref (S.1 12)) C 38 1 rfl rfl rfl rfl ki_Jd (by decide) kw352 kd_Jd_judgeCall_160 rfl ?_
  refine zs_get (v := .ref (S.1 17)) C 12 4 rfl rfl rfl rfl ki_Tr (by decide) kw170 kd_Jd_judgeCall_163 rfl ?_
  refine zk_iload_n C kd_Jd_judgeCall_166 rfl 2 rfl rfl ?_
  obtain ⟨q3, e⟩ := zd_g e
  refine zs_iald C 17 rfl (zd_vp q3) kd_Jd_judgeCall_167 rfl ?_
  refine zk_istore (lv' := [(4, _), (6, _), (0, _), (1, _), (3, _), (5, _)]) C kd_Jd_judgeCall_168 (by decide) rfl rfl ?_
  refine zk_iconst (v := 0) C kd_Jd_judgeCall_170 (by decide) rfl ?_
  refine zk_istore (lv' := [(7, _), (4, _), (6, _), (0, _), (1, _), (3, _), (5, _)]) C kd_Jd_judgeCall_171 (by decide) rfl rfl ?_
  refine zk_lvs (lv' := [(0, .ref (S.1 38)), (1, .int x1), (3, .int x3), (4, .int (h2.2.1 17 x1.toNatClampNeg)), (5, .int x5), (6, .int (-1)), (7, .int 0)]) [3, 4, 5, 1, 6, 2, 0] rfl ?_
  exact zl_Jd_judgeCall_173 C hR zF h2 x1 x3 (h2.2.1 17 x1.toNatClampNeg) x5 (-1) 0 e
set_option maxHeartbeats 4000000 in
set_option maxRecDepth 100000 in
theorem zb_Jd_judgeCall_65 {X : zkj_T} {S : zs_T} {P : ze_T} {l : Launch} {D : va_G} {sz0 : Nat} {rh : zs_H} (C : zk_C X km_Jd_judgeCall (zs_G S l D sz0) { frames := 4, cells := 0, slots := 0, locals := 102 } (ze_E P)) (hR : zkj_R X (zd_PV S rh) (none)) (h : zs_H) (x1 : Int32) (x2 : Int32) (x3 : Int32) (e : f_Jd_judgeCall_65 h x1 x2 x3 = some rh) : zk_Ab X (zs_W S h) 0 0 65 [(0, .ref (S.1 38)), (1, .int x1), (2, .int x2), (3, .int x3)] [] := by
  unfold f_Jd_judgeCall_65 at e
  refine zk_iload_n C kd_Jd_judgeCall_65 rfl 2 rfl rfl ?_
  refine zk_callS (rn := { frames := 0, cells := 0, slots := 0, locals := 0 }) (As := [.int x2]) (rest := []) C (zc_Nm_isStandardFunction h x2) ku_Nm_isStandardFunction kw1044 ks_Nm_isStandardFunction rfl ⟨by decide, by decide⟩ ⟨by decide, by decide⟩ rfl (Nat.le_of_ble_eq_true rfl) kd_Jd_judgeCall_66 rfl (c1 := 0) (s1 := 0) rfl rfl (fun v w hp => ?_)
  obtain ⟨rfl, rfl, z1⟩ := hp
  refine zk_stk (r' := [.int (f_Nm_isStandardFunction x2)]) rfl ?_
  refine zk_if_eq (tgt := 83) C kd_Jd_judgeCall_69 (by decide) rfl (fun b2 => ?_) (fun b2 => ?_)
  · replace e := zd_pos b2 e
    refine zk_aload_n C kd_Jd_judgeCall_83 rfl 0 rfl rfl ?_
    refine zs_get (v := .ref (S.1 20)) C 38 2 rfl rfl rfl rfl ki_Jd (by decide) kw353 kd_Jd_judgeCall_84 rfl ?_
    refine zs_get (v := .ref (S.1 36)) C 20 15 rfl rfl rfl rfl ki_Pl (by decide) kw287 kd_Jd_judgeCall_87 rfl ?_
    refine zk_iload_n C kd_Jd_judgeCall_90 rfl 2 rfl rfl ?_
    obtain ⟨q3, e⟩ := zd_g e
    refine zs_iald C 36 rfl (zd_vp q3) kd_Jd_judgeCall_91 rfl ?_
    refine zk_istore (lv' := [(5, _), (0, _), (1, _), (2, _), (3, _)]) C kd_Jd_judgeCall_92 (by decide) rfl rfl ?_
    refine zk_iload C kd_Jd_judgeCall_94 0 rfl rfl ?_
    refine zk_iconst (v := (-1)) C kd_Jd_judgeCall_96 (by decide) rfl ?_
    refine zk_icmp_eq (tgt := 123) C kd_Jd_judgeCall_97 (by decide) rfl (fun b4 => ?_) (fun b4 => ?_)
    · replace e := zd_pos b4 e
      refine zk_lvs (lv' := [(0, .ref (S.1 38)), (1, .int x1)]) [1, 2] rfl ?_
      exact zb_Jd_judgeCall_123 C hR h x1 e
    · replace e := zd_neg b4 e
      refine zk_iload C kd_Jd_judgeCall_100 0 rfl rfl ?_
      refine zk_aload_n C kd_Jd_judgeCall_102 rfl 1 rfl rfl ?_
      refine zs_get (v := .int (h.1 38 4)) C 38 4 rfl rfl rfl rfl ki_Jd (by decide) kw355 kd_Jd_judgeCall_103 rfl ?_
      refine zk_icmp_eq (tgt := 123) C kd_Jd_judgeCall_106 (by decide) rfl (fun b5 => ?_) (fun b5 => ?_)
      · replace e := zd_pos b5 e
        refine zk_lvs (lv' := [(0, .ref (S.1 38)), (1, .int x1)]) [1, 2] rfl ?_
        exact zb_Jd_judgeCall_123 C hR h x1 e
      · replace e := zd_neg b5 e
        refine zk_aload_n C kd_Jd_judgeCall_109 rfl 1 rfl rfl ?_
        refine zs_get (v := .ref (S.1 20)) C 38 2 rfl rfl rfl rfl ki_Jd (by decide) kw353 kd_Jd_judgeCall_110 rfl ?_
        refine zs_get (v := .ref (S.1 21)) C 20 0 rfl rfl rfl rfl ki_Pl (by decide) kw235 kd_Jd_judgeCall_113 rfl ?_
        refine zk_iload C kd_Jd_judgeCall_116 0 rfl rfl ?_
        obtain ⟨q6, e⟩ := zd_g e
        refine zs_iald C 21 rfl (zd_vp q6) kd_Jd_judgeCall_118 rfl ?_
        refine zk_iconst (v := 1) C kd_Jd_judgeCall_119 (by decide) rfl ?_
        refine zk_icmp_eq (tgt := 131) C kd_Jd_judgeCall_120 (by decide) rfl (fun b7 => ?_) (fun b7 => ?_)
        · replace e := zd_pos b7 e
          refine zk_aload_n C kd_Jd_judgeCall_131 rfl 1 rfl rfl ?_
          refine zk_iload_n C kd_Jd_judgeCall_132 rfl 4 rfl rfl ?_
          refine zk_aload_n C kd_Jd_judgeCall_133 rfl 1 rfl rfl ?_
          refine zs_get (v := .ref (S.1 20)) C 38 2 rfl rfl rfl rfl ki_Jd (by decide) kw353 kd_Jd_judgeCall_134 rfl ?_
          refine zk_iload C kd_Jd_judgeCall_137 0 rfl rfl ?_
          obtain ⟨v9, c8, e⟩ := zd_b e
          refine zs_callV (k := 20) (rn := { frames := 0, cells := 0, slots := 0, locals := 0 }) (As := [.int (h.2.1 36 x2.toNatClampNeg)]) (rest := [.int x3, .ref (S.1 38)]) C (zc_Pl_inputs h (h.2.1 36 x2.toNatClampNeg) c8) ku_Pl_inputs kw1069 kv_Pl_inputs rfl ⟨by decide, by decide⟩ ⟨by decide, by decide⟩ rfl rfl rfl (Nat.le_of_ble_eq_true rfl) kd_Jd_judgeCall_139 rfl (c1 := 0) (s1 := 0) rfl rfl (fun v w hp => ?_)
          obtain ⟨rfl, rfl⟩ := hp
          refine zk_stk (r' := [.int v9, .int x3, .ref (S.1 38)]) rfl ?_
          refine zk_icmp_eq (tgt := 149) C kd_Jd_judgeCall_142 (by decide) rfl (fun b10 => ?_) (fun b10 => ?_)
          · replace e := zd_pos b10 e
            refine zk_iconst (v := 0) C kd_Jd_judgeCall_149 (by decide) rfl ?_
            refine zk_lvs (lv' := [(0, .ref (S.1 38)), (1, .int x1), (3, .int x3), (5, .int (h.2.1 36 x2.toNatClampNeg))]) [1, 2, 4, 0] rfl ?_
            exact zb_Jd_judgeCall_150 C hR h x1 x3 (h.2.1 36 x2.toNatClampNeg) 0 e
          · replace e := zd_neg b10 e
            refine zk_iconst (v := 1) C kd_Jd_judgeCall_145 (by decide) rfl ?_
            refine zk_goto (tgt := 150) C kd_Jd_judgeCall_146 (by decide) ?_
            refine zk_lvs (lv' := [(0, .ref (S.1 38)), (1, .int x1), (3, .int x3), (5, .int (h.2.1 36 x2.toNatClampNeg))]) [1, 2, 4, 0] rfl ?_
            exact zb_Jd_judgeCall_150 C hR h x1 x3 (h.2.1 36 x2.toNatClampNeg) 1 e
        · replace e := zd_neg b7 e
          refine zk_lvs (lv' := [(0, .ref (S.1 38)), (1, .int x1)]) [1, 2] rfl ?_
          exact zb_Jd_judgeCall_123 C hR h x1 e
  · replace e := zd_neg b2 e
    refine zk_aload_n C kd_Jd_judgeCall_72 rfl 0 rfl rfl ?_
    refine zk_iload_n C kd_Jd_judgeCall_73 rfl 1 rfl rfl ?_
    refine zk_iload_n C kd_Jd_judgeCall_74 rfl 2 rfl rfl ?_
    refine zk_bipush (v := 50) C kd_Jd_judgeCall_75 (by decide) rfl ?_
    refine zk_isub C kd_Jd_judgeCall_77 rfl ?_
    refine zk_iload_n C kd_Jd_judgeCall_78 rfl 3 rfl rfl ?_
    obtain ⟨h12, c11, e⟩ := zd_b e
    refine zs_callV (k := 38) (rn := { frames := 3, cells := 0, slots := 0, locals := 70 }) (As := [.int x1, .int (x2 - 50), .int x3]) (rest := []) C (zc_Jd_judgeStandardCall h x1 (x2 - 50) x3 c11) ku_Jd_judgeStandardCall kw1199 kv_Jd_judgeStandardCall rfl ⟨by decide, by decide⟩ ⟨by decide, by decide⟩ rfl rfl rfl (Nat.le_of_ble_eq_true rfl) kd_Jd_judgeCall_79 rfl (c1 := 0) (s1 := 0) rfl rfl (fun v w hp => ?_)
    obtain ⟨rfl, rfl⟩ := hp
    refine zk_stk (r' := []) rfl ?_
    exact zk_vret C hR kd_Jd_judgeCall_82 rfl rfl (zd_rV e)
set_option maxHeartbeats 4000000 in
set_option maxRecDepth 100000 in
theorem zb_Jd_judgeCall_26 {X : zkj_T} {S : zs_T} {P : ze_T} {l : Launch} {D : va_G} {sz0 : Nat} {rh : zs_H} (C : zk_C X km_Jd_judgeCall (zs_G S l D sz0) { frames := 4, cells := 0, slots := 0, locals := 102 } (ze_E P)) (hR : zkj_R X (zd_PV S rh) (none)) {k26 : zs_H → Int32 → Int32 → Int32 → Int32 → Int32 → (Option zs_H)} (hk26 : ∀ (h : zs_H) (x1 : Int32) (x2 : Int32) (x3 : Int32) (x4 : Int32) (x5 : Int32), k26 h x1 x2 x3 x4 x5 = some rh → zk_Ab X (zs_W S h) 0 0 26 [(0, .ref (S.1 38)), (1, .int x1), (2, .int x2), (3, .int x3), (4, .int x4), (5, .int x5)] []) (h : zs_H) (x1 : Int32) (x2 : Int32) (x3 : Int32) (x4 : Int32) (x5 : Int32) (e : f_Jd_judgeCall_26 k26 h x1 x2 x3 x4 x5 = some rh) : zk_Ab X (zs_W S h) 0 0 26 [(0, .ref (S.1 38)), (1, .int x1), (2, .int x2), (3, .int x3), (4, .int x4), (5, .int x5)] [] := by
  unfold f_Jd_judgeCall_26 at e
  refine zk_iload C kd_Jd_judgeCall_26 5 rfl rfl ?_
  refine zk_aload_n C kd_Jd_judgeCall_28 rfl 0 rfl rfl ?_
  refine zs_get (v := .ref (S.1 12)) C 38 1 rfl rfl rfl rfl ki_Jd (by decide) kw352 kd_Jd_judgeCall_29 rfl ?_
  refine zs_get (v := .int (h.1 12 6)) C 12 6 rfl rfl rfl rfl ki_Tr (by decide) kw177 kd_Jd_judgeCall_32 rfl ?_
  refine zk_icmp_ge (tgt := 65) C kd_Jd_judgeCall_35 (by decide) rfl (fun b1 => ?_) (fun b1 => ?_)
  · replace e := zd_pos b1 e
    refine zk_lvs (lv' := [(0, .ref (S.1 38)), (1, .int x1), (2, .int x2), (3, .int x3)]) [0, 1, 2, 3] rfl ?_
    exact zb_Jd_judgeCall_65 C hR h x1 x2 x3 e
  · replace e := zd_neg b1 e
    refine zk_iload C kd_Jd_judgeCall_38 4 rfl rfl ?_
    refine zk_iconst (v := (-1)) C kd_Jd_judgeCall_40 (by decide) rfl ?_
    refine zk_icmp_eq (tgt := 65) C kd_Jd_judgeCall_41 (by decide) rfl (fun b2 => ?_) (fun b2 => ?_)
    · replace e := zd_pos b2 e
      refine zk_lvs (lv' := [(0, .ref (S.1 38)), (1, .int x1), (2, .int x2), (3, .int x3)]) [0, 1, 2, 3] rfl ?_
      exact zb_Jd_judgeCall_65 C hR h x1 x2 x3 e
    · replace e := zd_neg b2 e
      refine zk_iinc (v := (x3 + 1)) (lv' := [(3, _), (0, _), (1, _), (2, _), (4, _), (5, _)]) C kd_Jd_judgeCall_44 3 rfl rfl (by decide) rfl rfl ?_
      refine zk_aload_n C kd_Jd_judgeCall_47 rfl 1 rfl rfl ?_
      refine zs_get (v := .ref (S.1 12)) C 38 1 rfl rfl rfl rfl ki_Jd (by decide) kw352 kd_Jd_judgeCall_48 rfl ?_
      refine zs_get (v := .ref (S.1 18)) C 12 5 rfl rfl rfl rfl ki_Tr (by decide) kw173 kd_Jd_judgeCall_51 rfl ?_
      refine zk_iload C kd_Jd_judgeCall_54 4 rfl rfl ?_
      obtain ⟨q3, e⟩ := zd_g e
      refine zs_iald C 18 rfl (zd_vp q3) kd_Jd_judgeCall_56 rfl ?_
      refine zk_istore (lv' := [(4, _), (3, _), (0, _), (1, _), (2, _), (5, _)]) C kd_Jd_judgeCall_57 (by decide) rfl rfl ?_
      refine zk_iinc (v := (x5 + 1)) (lv' := [(5, _), (4, _), (3, _), (0, _), (1, _), (2, _)]) C kd_Jd_judgeCall_59 5 rfl rfl (by decide) rfl rfl ?_
      refine zk_goto (tgt := 26) C kd_Jd_judgeCall_62 (by decide) ?_
      refine zk_lvs (lv' := [(0, .ref (S.1 38)), (1, .int x1), (2, .int x2), (3, .int (x3 + 1)), (4, .int (h.2.1 18 x4.toNatClampNeg)), (5, .int (x5 + 1))]) [3, 4, 5, 2, 1, 0] rfl ?_
      exact hk26 h x1 x2 (x3 + 1) (h.2.1 18 x4.toNatClampNeg) (x5 + 1) e
theorem zl_Jd_judgeCall_26 {X : zkj_T} {S : zs_T} {P : ze_T} {l : Launch} {D : va_G} {sz0 : Nat} {rh : zs_H} (C : zk_C X km_Jd_judgeCall (zs_G S l D sz0) { frames := 4, cells := 0, slots := 0, locals := 102 } (ze_E P)) (hR : zkj_R X (zd_PV S rh) (none)) (n : Nat) : ∀ (h : zs_H) (x1 : Int32) (x2 : Int32) (x3 : Int32) (x4 : Int32) (x5 : Int32), f_Jd_judgeCall_L26 n h x1 x2 x3 x4 x5 = some rh → zk_Ab X (zs_W S h) 0 0 26 [(0, .ref (S.1 38)), (1, .int x1), (2, .int x2), (3, .int x3), (4, .int x4), (5, .int x5)] [] := by
  induction n with
  | zero => intro h x1 x2 x3 x4 x5 e; exact zd_no e
  | succ n ih => intro h x1 x2 x3 x4 x5 e; exact zb_Jd_judgeCall_26 (k26 := f_Jd_judgeCall_L26  n) C hR ih h x1 x2 x3 x4 x5 e
set_option maxHeartbeats 4000000 in
set_option maxRecDepth 100000 in
theorem zc_Jd_judgeCall {l : Launch} {D : va_G} {sz0 : Nat} {S : zs_T} {P : ze_T} (h : zs_H) (x1 : Int32) {rh : zs_H} (e : f_Jd_judgeCall h x1 = some rh) : zk_Sp (zs_G S l D sz0) (ze_E P) km_Jd_judgeCall { frames := 4, cells := 0, slots := 0, locals := 102 } [.ref (S.1 38), .int x1] (zs_W S h) (zd_PV S rh) := by
  refine zk_met ku_Jd_judgeCall (Nat.le_of_ble_eq_true rfl) (ze_Em P) ?_
  intro X C hR
  refine zk_lvs (lv' := [(0, .ref (S.1 38)), (1, .int x1)]) [0, 1] rfl ?_
  unfold f_Jd_judgeCall at e
  refine zk_aload_n C kd_Jd_judgeCall_0 rfl 0 rfl rfl ?_
  refine zs_get (v := .ref (S.1 12)) C 38 1 rfl rfl rfl rfl ki_Jd (by decide) kw352 kd_Jd_judgeCall_1 rfl ?_
  refine zs_get (v := .ref (S.1 16)) C 12 3 rfl rfl rfl rfl ki_Tr (by decide) kw168 kd_Jd_judgeCall_4 rfl ?_
  refine zk_iload_n C kd_Jd_judgeCall_7 rfl 1 rfl rfl ?_
  obtain ⟨q1, e⟩ := zd_g e
  refine zs_iald C 16 rfl (zd_vp q1) kd_Jd_judgeCall_8 rfl ?_
  refine zk_istore_n (lv' := [(2, _), (0, _), (1, _)]) C kd_Jd_judgeCall_9 rfl (by decide) rfl rfl ?_
  refine zk_iconst (v := 0) C kd_Jd_judgeCall_10 (by decide) rfl ?_
  refine zk_istore_n (lv' := [(3, _), (2, _), (0, _), (1, _)]) C kd_Jd_judgeCall_11 rfl (by decide) rfl rfl ?_
  refine zk_aload_n C kd_Jd_judgeCall_12 rfl 2 rfl rfl ?_
  refine zs_get (v := .ref (S.1 12)) C 38 1 rfl rfl rfl rfl ki_Jd (by decide) kw352 kd_Jd_judgeCall_13 rfl ?_
  refine zs_get (v := .ref (S.1 17)) C 12 4 rfl rfl rfl rfl ki_Tr (by decide) kw170 kd_Jd_judgeCall_16 rfl ?_
  refine zk_iload_n C kd_Jd_judgeCall_19 rfl 3 rfl rfl ?_
  refine zs_iald C 17 rfl (zd_vp q1) kd_Jd_judgeCall_20 rfl ?_
  refine zk_istore (lv' := [(4, _), (3, _), (2, _), (0, _), (1, _)]) C kd_Jd_judgeCall_21 (by decide) rfl rfl ?_
  refine zk_iconst (v := 0) C kd_Jd_judgeCall_23 (by decide) rfl ?_
  refine zk_istore (lv' := [(5, _), (4, _), (3, _), (2, _), (0, _), (1, _)]) C kd_Jd_judgeCall_24 (by decide) rfl rfl ?_
  refine zk_lvs (lv' := [(0, .ref (S.1 38)), (1, .int x1), (2, .int (h.2.1 16 x1.toNatClampNeg)), (3, .int 0), (4, .int (h.2.1 17 x1.toNatClampNeg)), (5, .int 0)]) [4, 5, 3, 2, 1, 0] rfl ?_
  exact zl_Jd_judgeCall_26 C hR zF h x1 (h.2.1 16 x1.toNatClampNeg) 0 (h.2.1 17 x1.toNatClampNeg) 0 e
set_option maxHeartbeats 4000000 in
set_option maxRecDepth 100000 in
theorem zb_Jd_judgeAssigned_151 {X : zkj_T} {S : zs_T} {P : ze_T} {l : Launch} {D : va_G} {sz0 : Nat} {rh : zs_H} (C : zk_C X km_Jd_judgeAssigned (zs_G S l D sz0) { frames := 2, cells := 0, slots := 0, locals := 45 } (ze_E P)) (hR : zkj_R X (zd_PV S rh) (none)) {k117 : zs_H → Int32 → Int32 → Int32 → (Option zs_H)} (hk117 : ∀ (h : zs_H) (x1 : Int32) (x2 : Int32) (x7 : Int32), k117 h x1 x2 x7 = some rh → zk_Ab X (zs_W S h) 0 0 117 [(0, .ref (S.1 38)), (1, .int x1), (2, .int x2), (7, .int x7)] []) (h : zs_H) (x1 : Int32) (x2 : Int32) (x7 : Int32) (y0 : Int32) (e : f_Jd_judgeAssigned_151 k117 h x1 x2 x7 y0 = some rh) : zk_Ab X (zs_W S h) 0 0 151 [(0, .ref (S.1 38)), (1, .int x1), (2, .int x2), (7, .int x7)] [.int y0, .ref (S.1 38)] := by
  unfold f_Jd_judgeAssigned_151 at e
  refine zk_bipush (v := 30) C kd_Jd_judgeAssigned_151 (by decide) rfl ?_
  refine zk_iload_n C kd_Jd_judgeAssigned_153 rfl 2 rfl rfl ?_
  obtain ⟨h2, c1, e⟩ := zd_b e
  refine zs_callV (k := 38) (rn := { frames := 1, cells := 0, slots := 0, locals := 22 }) (As := [.int y0, .int 30, .int x2]) (rest := []) C (zc_Jd_refuseIf h y0 30 x2 c1) ku_Jd_refuseIf kw1036 kv_Jd_refuseIf rfl ⟨by decide, by decide⟩ ⟨by decide, by decide⟩ rfl rfl rfl (Nat.le_of_ble_eq_true rfl) kd_Jd_judgeAssigned_154 rfl (c1 := 0) (s1 := 0) rfl rfl (fun v w hp => ?_)
  obtain ⟨rfl, rfl⟩ := hp
  refine zk_stk (r' := []) rfl ?_
  refine zk_iinc (v := (x7 + 1)) (lv' := [(7, _), (0, _), (1, _), (2, _)]) C kd_Jd_judgeAssigned_157 3 rfl rfl (by decide) rfl rfl ?_
  refine zk_goto (tgt := 117) C kd_Jd_judgeAssigned_160 (by decide) ?_
  refine zk_lvs (lv' := [(0, .ref (S.1 38)), (1, .int x1), (2, .int x2), (7, .int (x7 + 1))]) [1, 2, 3, 0] rfl ?_
  exact hk117 h2 x1 x2 (x7 + 1) e
set_option maxHeartbeats 4000000 in
set_option maxRecDepth 100000 in
theorem zb_Jd_judgeAssigned_117 {X : zkj_T} {S : zs_T} {P : ze_T} {l : Launch} {D : va_G} {sz0 : Nat} {rh : zs_H} (C : zk_C X km_Jd_judgeAssigned (zs_G S l D sz0) { frames := 2, cells := 0, slots := 0, locals := 45 } (ze_E P)) (hR : zkj_R X (zd_PV S rh) (none)) {k117 : zs_H → Int32 → Int32 → Int32 → (Option zs_H)} (hk117 : ∀ (h : zs_H) (x1 : Int32) (x2 : Int32) (x7 : Int32), k117 h x1 x2 x7 = some rh → zk_Ab X (zs_W S h) 0 0 117 [(0, .ref (S.1 38)), (1, .int x1), (2, .int x2), (7, .int x7)] []) (h : zs_H) (x1 : Int32) (x2 : Int32) (x7 : Int32) (e : f_Jd_judgeAssigned_117 k117 h x1 x2 x7 = some rh) : zk_Ab X (zs_W S h) 0 0 117 [(0, .ref (S.1 38)), (1, .int x1), (2, .int x2), (7, .int x7)] [] := by
  unfold f_Jd_judgeAssigned_117 at e
  refine zk_iload C kd_Jd_judgeAssigned_117 3 rfl rfl ?_
  refine zk_aload_n C kd_Jd_judgeAssigned_119 rfl 0 rfl rfl ?_
  refine zs_get (v := .int (h.1 38 12)) C 38 12 rfl rfl rfl rfl ki_Jd (by decide) kw363 kd_Jd_judgeAssigned_120 rfl ?_
  refine zk_icmp_ge (tgt := 163) C kd_Jd_judgeAssigned_123 (by decide) rfl (fun b1 => ?_) (fun b1 => ?_)
  · replace e := zd_pos b1 e
    exact zk_vret C hR kd_Jd_judgeAssigned_163 rfl rfl (zd_rV e)
  · replace e := zd_neg b1 e
    refine zk_aload_n C kd_Jd_judgeAssigned_126 rfl 0 rfl rfl ?_
    refine zk_aload_n C kd_Jd_judgeAssigned_127 rfl 0 rfl rfl ?_
    refine zs_get (v := .ref (S.1 39)) C 38 11 rfl rfl rfl rfl ki_Jd (by decide) kw362 kd_Jd_judgeAssigned_128 rfl ?_
    refine zk_iload C kd_Jd_judgeAssigned_131 3 rfl rfl ?_
    obtain ⟨q2, e⟩ := zd_g e
    refine zs_iald C 39 rfl (zd_vp q2) kd_Jd_judgeAssigned_133 rfl ?_
    refine zk_aload_n C kd_Jd_judgeAssigned_134 rfl 0 rfl rfl ?_
    refine zs_get (v := .ref (S.1 20)) C 38 2 rfl rfl rfl rfl ki_Jd (by decide) kw353 kd_Jd_judgeAssigned_135 rfl ?_
    refine zs_get (v := .ref (S.1 28)) C 20 7 rfl rfl rfl rfl ki_Pl (by decide) kw256 kd_Jd_judgeAssigned_138 rfl ?_
    refine zk_iload_n C kd_Jd_judgeAssigned_141 rfl 1 rfl rfl ?_
    obtain ⟨q3, e⟩ := zd_g e
    refine zs_iald C 28 rfl (zd_vp q3) kd_Jd_judgeAssigned_142 rfl ?_
    refine zk_icmp_ne (tgt := 150) C kd_Jd_judgeAssigned_143 (by decide) rfl (fun b4 => ?_) (fun b4 => ?_)
    · replace e := zd_neg b4 e
      refine zk_iconst (v := 0) C kd_Jd_judgeAssigned_150 (by decide) rfl ?_
      refine zk_lvs (lv' := [(0, .ref (S.1 38)), (1, .int x1), (2, .int x2), (7, .int x7)]) [0, 1, 2, 3] rfl ?_
      exact zb_Jd_judgeAssigned_151 C hR hk117 h x1 x2 x7 0 e
    · replace e := zd_pos b4 e
      refine zk_iconst (v := 1) C kd_Jd_judgeAssigned_146 (by decide) rfl ?_
      refine zk_goto (tgt := 151) C kd_Jd_judgeAssigned_147 (by decide) ?_
      refine zk_lvs (lv' := [(0, .ref (S.1 38)), (1, .int x1), (2, .int x2), (7, .int x7)]) [0, 1, 2, 3] rfl ?_
      exact zb_Jd_judgeAssigned_151 C hR hk117 h x1 x2 x7 1 e
theorem zl_Jd_judgeAssigned_117 {X : zkj_T} {S : zs_T} {P : ze_T} {l : Launch} {D : va_G} {sz0 : Nat} {rh : zs_H} (C : zk_C X km_Jd_judgeAssigned (zs_G S l D sz0) { frames := 2, cells := 0, slots := 0, locals := 45 } (ze_E P)) (hR : zkj_R X (zd_PV S rh) (none)) (n : Nat) : ∀ (h : zs_H) (x1 : Int32) (x2 : Int32) (x7 : Int32), f_Jd_judgeAssigned_L117 n h x1 x2 x7 = some rh → zk_Ab X (zs_W S h) 0 0 117 [(0, .ref (S.1 38)), (1, .int x1), (2, .int x2), (7, .int x7)] [] := by
  induction n with
  | zero => intro h x1 x2 x7 e; exact zd_no e
  | succ n ih => intro h x1 x2 x7 e; exact zb_Jd_judgeAssigned_117 (k117 := f_Jd_judgeAssigned_L117  n) C hR ih h x1 x2 x7 e
set_option maxHeartbeats 4000000 in
set_option maxRecDepth 100000 in
theorem zb_Jd_judgeAssigned_108 {X : zkj_T} {S : zs_T} {P : ze_T} {l : Launch} {D : va_G} {sz0 : Nat} {rh : zs_H} (C : zk_C X km_Jd_judgeAssigned (zs_G S l D sz0) { frames := 2, cells := 0, slots := 0, locals := 45 } (ze_E P)) (hR : zkj_R X (zd_PV S rh) (none)) (h : zs_H) (x1 : Int32) (x2 : Int32) (y0 : Int32) (e : f_Jd_judgeAssigned_108 h x1 x2 y0 = some rh) : zk_Ab X (zs_W S h) 0 0 108 [(0, .ref (S.1 38)), (1, .int x1), (2, .int x2)] [.int y0, .ref (S.1 38)] := by
  unfold f_Jd_judgeAssigned_108 at e
  refine zk_bipush (v := 29) C kd_Jd_judgeAssigned_108 (by decide) rfl ?_
  refine zk_iload_n C kd_Jd_judgeAssigned_110 rfl 2 rfl rfl ?_
  obtain ⟨h2, c1, e⟩ := zd_b e
  refine zs_callV (k := 38) (rn := { frames := 1, cells := 0, slots := 0, locals := 22 }) (As := [.int y0, .int 29, .int x2]) (rest := []) C (zc_Jd_refuseIf h y0 29 x2 c1) ku_Jd_refuseIf kw1036 kv_Jd_refuseIf rfl ⟨by decide, by decide⟩ ⟨by decide, by decide⟩ rfl rfl rfl (Nat.le_of_ble_eq_true rfl) kd_Jd_judgeAssigned_111 rfl (c1 := 0) (s1 := 0) rfl rfl (fun v w hp => ?_)
  obtain ⟨rfl, rfl⟩ := hp
  refine zk_stk (r' := []) rfl ?_
  refine zk_iconst (v := 0) C kd_Jd_judgeAssigned_114 (by decide) rfl ?_
  refine zk_istore (lv' := [(7, _), (0, _), (1, _), (2, _)]) C kd_Jd_judgeAssigned_115 (by decide) rfl rfl ?_
  refine zk_lvs (lv' := [(0, .ref (S.1 38)), (1, .int x1), (2, .int x2), (7, .int 0)]) [1, 2, 3, 0] rfl ?_
  exact zl_Jd_judgeAssigned_117 C hR zF h2 x1 x2 0 e
set_option maxHeartbeats 4000000 in
set_option maxRecDepth 100000 in
theorem zb_Jd_judgeAssigned_103 {X : zkj_T} {S : zs_T} {P : ze_T} {l : Launch} {D : va_G} {sz0 : Nat} {rh : zs_H} (C : zk_C X km_Jd_judgeAssigned (zs_G S l D sz0) { frames := 2, cells := 0, slots := 0, locals := 45 } (ze_E P)) (hR : zkj_R X (zd_PV S rh) (none)) (h : zs_H) (x1 : Int32) (x2 : Int32) (e : f_Jd_judgeAssigned_103 h x1 x2 = some rh) : zk_Ab X (zs_W S h) 0 0 103 [(0, .ref (S.1 38)), (1, .int x1), (2, .int x2)] [.ref (S.1 38)] := by
  unfold f_Jd_judgeAssigned_103 at e
  refine zk_iconst (v := 1) C kd_Jd_judgeAssigned_103 (by decide) rfl ?_
  refine zk_goto (tgt := 108) C kd_Jd_judgeAssigned_104 (by decide) ?_
  refine zk_lvs (lv' := [(0, .ref (S.1 38)), (1, .int x1), (2, .int x2)]) [0, 1, 2] rfl ?_
  exact zb_Jd_judgeAssigned_108 C hR h x1 x2 1 e
set_option maxHeartbeats 4000000 in
set_option maxRecDepth 100000 in
theorem zb_Jd_judgeAssigned_82 {X : zkj_T} {S : zs_T} {P : ze_T} {l : Launch} {D : va_G} {sz0 : Nat} {rh : zs_H} (C : zk_C X km_Jd_judgeAssigned (zs_G S l D sz0) { frames := 2, cells := 0, slots := 0, locals := 45 } (ze_E P)) (hR : zkj_R X (zd_PV S rh) (none)) (h : zs_H) (x1 : Int32) (x2 : Int32) (y0 : Int32) (e : f_Jd_judgeAssigned_82 h x1 x2 y0 = some rh) : zk_Ab X (zs_W S h) 0 0 82 [(0, .ref (S.1 38)), (1, .int x1), (2, .int x2)] [.int y0] := by
  unfold f_Jd_judgeAssigned_82 at e
  refine zk_istore (lv' := [(6, _), (0, _), (1, _), (2, _)]) C kd_Jd_judgeAssigned_82 (by decide) rfl rfl ?_
  refine zk_aload_n C kd_Jd_judgeAssigned_84 rfl 1 rfl rfl ?_
  refine zk_aload_n C kd_Jd_judgeAssigned_85 rfl 1 rfl rfl ?_
  refine zs_get (v := .ref (S.1 20)) C 38 2 rfl rfl rfl rfl ki_Jd (by decide) kw353 kd_Jd_judgeAssigned_86 rfl ?_
  refine zs_get (v := .ref (S.1 29)) C 20 8 rfl rfl rfl rfl ki_Pl (by decide) kw259 kd_Jd_judgeAssigned_89 rfl ?_
  refine zk_iload_n C kd_Jd_judgeAssigned_92 rfl 2 rfl rfl ?_
  obtain ⟨q1, e⟩ := zd_g e
  refine zs_iald C 29 rfl (zd_vp q1) kd_Jd_judgeAssigned_93 rfl ?_
  refine zk_iconst (v := 1) C kd_Jd_judgeAssigned_94 (by decide) rfl ?_
  refine zk_icmp_eq (tgt := 103) C kd_Jd_judgeAssigned_95 (by decide) rfl (fun b2 => ?_) (fun b2 => ?_)
  · replace e := zd_pos b2 e
    refine zk_lvs (lv' := [(0, .ref (S.1 38)), (1, .int x1), (2, .int x2)]) [1, 2, 3] rfl ?_
    exact zb_Jd_judgeAssigned_103 C hR h x1 x2 e
  · replace e := zd_neg b2 e
    refine zk_iload C kd_Jd_judgeAssigned_98 0 rfl rfl ?_
    refine zk_if_eq (tgt := 107) C kd_Jd_judgeAssigned_100 (by decide) rfl (fun b3 => ?_) (fun b3 => ?_)
    · replace e := zd_pos b3 e
      refine zk_iconst (v := 0) C kd_Jd_judgeAssigned_107 (by decide) rfl ?_
      refine zk_lvs (lv' := [(0, .ref (S.1 38)), (1, .int x1), (2, .int x2)]) [1, 2, 3] rfl ?_
      exact zb_Jd_judgeAssigned_108 C hR h x1 x2 0 e
    · replace e := zd_neg b3 e
      refine zk_lvs (lv' := [(0, .ref (S.1 38)), (1, .int x1), (2, .int x2)]) [1, 2, 3] rfl ?_
      exact zb_Jd_judgeAssigned_103 C hR h x1 x2 e
set_option maxHeartbeats 4000000 in
set_option maxRecDepth 100000 in
theorem zb_Jd_judgeAssigned_77 {X : zkj_T} {S : zs_T} {P : ze_T} {l : Launch} {D : va_G} {sz0 : Nat} {rh : zs_H} (C : zk_C X km_Jd_judgeAssigned (zs_G S l D sz0) { frames := 2, cells := 0, slots := 0, locals := 45 } (ze_E P)) (hR : zkj_R X (zd_PV S rh) (none)) (h : zs_H) (x1 : Int32) (x2 : Int32) (e : f_Jd_judgeAssigned_77 h x1 x2 = some rh) : zk_Ab X (zs_W S h) 0 0 77 [(0, .ref (S.1 38)), (1, .int x1), (2, .int x2)] [] := by
  unfold f_Jd_judgeAssigned_77 at e
  refine zk_iconst (v := 1) C kd_Jd_judgeAssigned_77 (by decide) rfl ?_
  refine zk_goto (tgt := 82) C kd_Jd_judgeAssigned_78 (by decide) ?_
  refine zk_lvs (lv' := [(0, .ref (S.1 38)), (1, .int x1), (2, .int x2)]) [0, 1, 2] rfl ?_
  exact zb_Jd_judgeAssigned_82 C hR h x1 x2 1 e
set_option maxHeartbeats 4000000 in
set_option maxRecDepth 100000 in
theorem zb_Jd_judgeAssigned_81 {X : zkj_T} {S : zs_T} {P : ze_T} {l : Launch} {D : va_G} {sz0 : Nat} {rh : zs_H} (C : zk_C X km_Jd_judgeAssigned (zs_G S l D sz0) { frames := 2, cells := 0, slots := 0, locals := 45 } (ze_E P)) (hR : zkj_R X (zd_PV S rh) (none)) (h : zs_H) (x1 : Int32) (x2 : Int32) (e : f_Jd_judgeAssigned_81 h x1 x2 = some rh) : zk_Ab X (zs_W S h) 0 0 81 [(0, .ref (S.1 38)), (1, .int x1), (2, .int x2)] [] := by
  unfold f_Jd_judgeAssigned_81 at e
  refine zk_iconst (v := 0) C kd_Jd_judgeAssigned_81 (by decide) rfl ?_
  refine zk_lvs (lv' := [(0, .ref (S.1 38)), (1, .int x1), (2, .int x2)]) [0, 1, 2] rfl ?_
  exact zb_Jd_judgeAssigned_82 C hR h x1 x2 0 e
set_option maxHeartbeats 4000000 in
set_option maxRecDepth 100000 in
theorem zb_Jd_judgeAssigned_49 {X : zkj_T} {S : zs_T} {P : ze_T} {l : Launch} {D : va_G} {sz0 : Nat} {rh : zs_H} (C : zk_C X km_Jd_judgeAssigned (zs_G S l D sz0) { frames := 2, cells := 0, slots := 0, locals := 45 } (ze_E P)) (hR : zkj_R X (zd_PV S rh) (none)) (h : zs_H) (x1 : Int32) (x2 : Int32) (x4 : Int32) (y0 : Int32) (e : f_Jd_judgeAssigned_49 h x1 x2 x4 y0 = some rh) : zk_Ab X (zs_W S h) 0 0 49 [(0, .ref (S.1 38)), (1, .int x1), (2, .int x2), (4, .int x4)] [.int y0] := by
  unfold f_Jd_judgeAssigned_49 at e
  refine zk_istore (lv' := [(5, _), (0, _), (1, _), (2, _), (4, _)]) C kd_Jd_judgeAssigned_49 (by decide) rfl rfl ?_
  refine zk_aload_n C kd_Jd_judgeAssigned_51 rfl 1 rfl rfl ?_
  refine zs_get (v := .ref (S.1 20)) C 38 2 rfl rfl rfl rfl ki_Jd (by decide) kw353 kd_Jd_judgeAssigned_52 rfl ?_
  refine zs_get (v := .ref (S.1 21)) C 20 0 rfl rfl rfl rfl ki_Pl (by decide) kw235 kd_Jd_judgeAssigned_55 rfl ?_
  refine zk_aload_n C kd_Jd_judgeAssigned_58 rfl 1 rfl rfl ?_
  refine zs_get (v := .int (h.1 38 4)) C 38 4 rfl rfl rfl rfl ki_Jd (by decide) kw355 kd_Jd_judgeAssigned_59 rfl ?_
  obtain ⟨q1, e⟩ := zd_g e
  refine zs_iald C 21 rfl (zd_vp q1) kd_Jd_judgeAssigned_62 rfl ?_
  refine zk_iconst (v := 3) C kd_Jd_judgeAssigned_63 (by decide) rfl ?_
  refine zk_icmp_ne (tgt := 81) C kd_Jd_judgeAssigned_64 (by decide) rfl (fun b2 => ?_) (fun b2 => ?_)
  · replace e := zd_neg b2 e
    refine zk_lvs (lv' := [(0, .ref (S.1 38)), (1, .int x1), (2, .int x2)]) [1, 2, 3] rfl ?_
    exact zb_Jd_judgeAssigned_81 C hR h x1 x2 e
  · replace e := zd_pos b2 e
    refine zk_iload C kd_Jd_judgeAssigned_67 4 rfl rfl ?_
    refine zk_if_ne (tgt := 77) C kd_Jd_judgeAssigned_69 (by decide) rfl (fun b3 => ?_) (fun b3 => ?_)
    · replace e := zd_neg b3 e
      refine zk_lvs (lv' := [(0, .ref (S.1 38)), (1, .int x1), (2, .int x2)]) [1, 2, 3] rfl ?_
      exact zb_Jd_judgeAssigned_77 C hR h x1 x2 e
    · replace e := zd_pos b3 e
      refine zk_iload C kd_Jd_judgeAssigned_72 0 rfl rfl ?_
      refine zk_if_eq (tgt := 81) C kd_Jd_judgeAssigned_74 (by decide) rfl (fun b4 => ?_) (fun b4 => ?_)
      · replace e := zd_pos b4 e
        refine zk_lvs (lv' := [(0, .ref (S.1 38)), (1, .int x1), (2, .int x2)]) [1, 2, 3] rfl ?_
        exact zb_Jd_judgeAssigned_81 C hR h x1 x2 e
      · replace e := zd_neg b4 e
        refine zk_lvs (lv' := [(0, .ref (S.1 38)), (1, .int x1), (2, .int x2)]) [1, 2, 3] rfl ?_
        exact zb_Jd_judgeAssigned_77 C hR h x1 x2 e
set_option maxHeartbeats 4000000 in
set_option maxRecDepth 100000 in
theorem zb_Jd_judgeAssigned_48 {X : zkj_T} {S : zs_T} {P : ze_T} {l : Launch} {D : va_G} {sz0 : Nat} {rh : zs_H} (C : zk_C X km_Jd_judgeAssigned (zs_G S l D sz0) { frames := 2, cells := 0, slots := 0, locals := 45 } (ze_E P)) (hR : zkj_R X (zd_PV S rh) (none)) (h : zs_H) (x1 : Int32) (x2 : Int32) (x4 : Int32) (e : f_Jd_judgeAssigned_48 h x1 x2 x4 = some rh) : zk_Ab X (zs_W S h) 0 0 48 [(0, .ref (S.1 38)), (1, .int x1), (2, .int x2), (4, .int x4)] [] := by
  unfold f_Jd_judgeAssigned_48 at e
  refine zk_iconst (v := 0) C kd_Jd_judgeAssigned_48 (by decide) rfl ?_
  refine zk_lvs (lv' := [(0, .ref (S.1 38)), (1, .int x1), (2, .int x2), (4, .int x4)]) [0, 1, 2, 3] rfl ?_
  exact zb_Jd_judgeAssigned_49 C hR h x1 x2 x4 0 e
set_option maxHeartbeats 4000000 in
set_option maxRecDepth 100000 in
theorem zb_Jd_judgeAssigned_24 {X : zkj_T} {S : zs_T} {P : ze_T} {l : Launch} {D : va_G} {sz0 : Nat} {rh : zs_H} (C : zk_C X km_Jd_judgeAssigned (zs_G S l D sz0) { frames := 2, cells := 0, slots := 0, locals := 45 } (ze_E P)) (hR : zkj_R X (zd_PV S rh) (none)) (h : zs_H) (x1 : Int32) (x2 : Int32) (x3 : Int32) (y0 : Int32) (e : f_Jd_judgeAssigned_24 h x1 x2 x3 y0 = some rh) : zk_Ab X (zs_W S h) 0 0 24 [(0, .ref (S.1 38)), (1, .int x1), (2, .int x2), (3, .int x3)] [.int y0] := by
  unfold f_Jd_judgeAssigned_24 at e
  refine zk_istore (lv' := [(4, _), (0, _), (1, _), (2, _), (3, _)]) C kd_Jd_judgeAssigned_24 (by decide) rfl rfl ?_
  refine zk_iload_n C kd_Jd_judgeAssigned_26 rfl 4 rfl rfl ?_
  refine ze_getsN (j := 3) (host := "PlantKeeper") C rfl (by decide +kernel) kd_Jd_judgeAssigned_27 rfl ?_
  refine zk_iconst (v := 3) C kd_Jd_judgeAssigned_30 (by decide) rfl ?_
  refine ze_ti C rfl (zp_dec rfl) kd_Jd_judgeAssigned_31 rfl ?_
  refine zk_stk (r' := [.int 768, .int x3]) rfl ?_
  refine zk_icmp_lt (tgt := 48) C kd_Jd_judgeAssigned_32 (by decide) rfl (fun b1 => ?_) (fun b1 => ?_)
  · replace e := zd_pos b1 e
    refine zk_lvs (lv' := [(0, .ref (S.1 38)), (1, .int x1), (2, .int x2), (4, .int y0)]) [1, 2, 3, 0] rfl ?_
    exact zb_Jd_judgeAssigned_48 C hR h x1 x2 y0 e
  · replace e := zd_neg b1 e
    refine zk_iload_n C kd_Jd_judgeAssigned_35 rfl 4 rfl rfl ?_
    refine ze_getsN (j := 3) (host := "PlantKeeper") C rfl (by decide +kernel) kd_Jd_judgeAssigned_36 rfl ?_
    refine zk_iconst (v := 4) C kd_Jd_judgeAssigned_39 (by decide) rfl ?_
    refine ze_ti C rfl (zp_dec rfl) kd_Jd_judgeAssigned_40 rfl ?_
    refine zk_stk (r' := [.int 832, .int x3]) rfl ?_
    refine zk_icmp_ge (tgt := 48) C kd_Jd_judgeAssigned_41 (by decide) rfl (fun b2 => ?_) (fun b2 => ?_)
    · replace e := zd_pos b2 e
      refine zk_lvs (lv' := [(0, .ref (S.1 38)), (1, .int x1), (2, .int x2), (4, .int y0)]) [1, 2, 3, 0] rfl ?_
      exact zb_Jd_judgeAssigned_48 C hR h x1 x2 y0 e
    · replace e := zd_neg b2 e
      refine zk_iconst (v := 1) C kd_Jd_judgeAssigned_44 (by decide) rfl ?_
      refine zk_goto (tgt := 49) C kd_Jd_judgeAssigned_45 (by decide) ?_
      refine zk_lvs (lv' := [(0, .ref (S.1 38)), (1, .int x1), (2, .int x2), (4, .int y0)]) [1, 2, 3, 0] rfl ?_
      exact zb_Jd_judgeAssigned_49 C hR h x1 x2 y0 1 e
set_option maxHeartbeats 4000000 in
set_option maxRecDepth 100000 in
theorem zc_Jd_judgeAssigned {l : Launch} {D : va_G} {sz0 : Nat} {S : zs_T} {P : ze_T} (h : zs_H) (x1 : Int32) (x2 : Int32) {rh : zs_H} (e : f_Jd_judgeAssigned h x1 x2 = some rh) : zk_Sp (zs_G S l D sz0) (ze_E P) km_Jd_judgeAssigned { frames := 2, cells := 0, slots := 0, locals := 45 } [.ref (S.1 38), .int x1, .int x2] (zs_W S h) (zd_PV S rh) := by
  refine zk_met ku_Jd_judgeAssigned (Nat.le_of_ble_eq_true rfl) (ze_Em P) ?_
  intro X C hR
  refine zk_lvs (lv' := [(0, .ref (S.1 38)), (1, .int x1), (2, .int x2)]) [0, 1, 2] rfl ?_
  unfold f_Jd_judgeAssigned at e
  refine zk_aload_n C kd_Jd_judgeAssigned_0 rfl 0 rfl rfl ?_
  refine zs_get (v := .ref (S.1 20)) C 38 2 rfl rfl rfl rfl ki_Jd (by decide) kw353 kd_Jd_judgeAssigned_1 rfl ?_
  refine zs_get (v := .ref (S.1 32)) C 20 11 rfl rfl rfl rfl ki_Pl (by decide) kw272 kd_Jd_judgeAssigned_4 rfl ?_
  refine zk_iload_n C kd_Jd_judgeAssigned_7 rfl 1 rfl rfl ?_
  obtain ⟨q1, e⟩ := zd_g e
  refine zs_iald C 32 rfl (zd_vp q1) kd_Jd_judgeAssigned_8 rfl ?_
  refine zk_istore_n (lv' := [(3, _), (0, _), (1, _), (2, _)]) C kd_Jd_judgeAssigned_9 rfl (by decide) rfl rfl ?_
  refine zk_iload_n C kd_Jd_judgeAssigned_10 rfl 0 rfl rfl ?_
  refine ze_getsN (j := 3) (host := "PlantKeeper") C rfl (by decide +kernel) kd_Jd_judgeAssigned_11 rfl ?_
  refine zk_iconst (v := 1) C kd_Jd_judgeAssigned_14 (by decide) rfl ?_
  refine ze_ti C rfl (zp_dec rfl) kd_Jd_judgeAssigned_15 rfl ?_
  refine zk_stk (r' := [.int 256, .int (h.2.1 32 x1.toNatClampNeg)]) rfl ?_
  refine zk_icmp_ge (tgt := 23) C kd_Jd_judgeAssigned_16 (by decide) rfl (fun b2 => ?_) (fun b2 => ?_)
  · replace e := zd_pos b2 e
    refine zk_iconst (v := 0) C kd_Jd_judgeAssigned_23 (by decide) rfl ?_
    refine zk_lvs (lv' := [(0, .ref (S.1 38)), (1, .int x1), (2, .int x2), (3, .int (h.2.1 32 x1.toNatClampNeg))]) [1, 2, 3, 0] rfl ?_
    exact zb_Jd_judgeAssigned_24 C hR h x1 x2 (h.2.1 32 x1.toNatClampNeg) 0 e
  · replace e := zd_neg b2 e
    refine zk_iconst (v := 1) C kd_Jd_judgeAssigned_19 (by decide) rfl ?_
    refine zk_goto (tgt := 24) C kd_Jd_judgeAssigned_20 (by decide) ?_
    refine zk_lvs (lv' := [(0, .ref (S.1 38)), (1, .int x1), (2, .int x2), (3, .int (h.2.1 32 x1.toNatClampNeg))]) [1, 2, 3, 0] rfl ?_
    exact zb_Jd_judgeAssigned_24 C hR h x1 x2 (h.2.1 32 x1.toNatClampNeg) 1 e
set_option maxHeartbeats 4000000 in
set_option maxRecDepth 100000 in
theorem zb_Jd_judgeCoil_53 {X : zkj_T} {S : zs_T} {P : ze_T} {l : Launch} {D : va_G} {sz0 : Nat} {rh : zs_H} (C : zk_C X km_Jd_judgeCoil (zs_G S l D sz0) { frames := 3, cells := 0, slots := 0, locals := 72 } (ze_E P)) (hR : zkj_R X (zd_PV S rh) (none)) (h : zs_H) (x1 : Int32) (x2 : Int32) (y0 : Int32) (e : f_Jd_judgeCoil_53 h x1 x2 y0 = some rh) : zk_Ab X (zs_W S h) 0 0 53 [(0, .ref (S.1 38)), (1, .int x1), (2, .int x2)] [.int y0, .ref (S.1 38)] := by
  unfold f_Jd_judgeCoil_53 at e
  refine zk_bipush (v := 41) C kd_Jd_judgeCoil_53 (by decide) rfl ?_
  refine zk_iload_n C kd_Jd_judgeCoil_55 rfl 1 rfl rfl ?_
  obtain ⟨h2, c1, e⟩ := zd_b e
  refine zs_callV (k := 38) (rn := { frames := 1, cells := 0, slots := 0, locals := 22 }) (As := [.int y0, .int 41, .int x1]) (rest := []) C (zc_Jd_refuseIf h y0 41 x1 c1) ku_Jd_refuseIf kw1036 kv_Jd_refuseIf rfl ⟨by decide, by decide⟩ ⟨by decide, by decide⟩ rfl rfl rfl (Nat.le_of_ble_eq_true rfl) kd_Jd_judgeCoil_56 rfl (c1 := 0) (s1 := 0) rfl rfl (fun v w hp => ?_)
  obtain ⟨rfl, rfl⟩ := hp
  refine zk_stk (r' := []) rfl ?_
  refine zk_aload_n C kd_Jd_judgeCoil_59 rfl 0 rfl rfl ?_
  refine zk_aload_n C kd_Jd_judgeCoil_60 rfl 0 rfl rfl ?_
  refine zs_get (v := .ref (S.1 12)) C 38 1 rfl rfl rfl rfl ki_Jd (by decide) kw352 kd_Jd_judgeCoil_61 rfl ?_
  refine zs_get (v := .ref (S.1 16)) C 12 3 rfl rfl rfl rfl ki_Tr (by decide) kw168 kd_Jd_judgeCoil_64 rfl ?_
  refine zk_iload_n C kd_Jd_judgeCoil_67 rfl 2 rfl rfl ?_
  obtain ⟨q3, e⟩ := zd_g e
  refine zs_iald C 16 rfl (zd_vp q3) kd_Jd_judgeCoil_68 rfl ?_
  refine zk_iload_n C kd_Jd_judgeCoil_69 rfl 1 rfl rfl ?_
  obtain ⟨h5, c4, e⟩ := zd_b e
  refine zs_callV (k := 38) (rn := { frames := 2, cells := 0, slots := 0, locals := 45 }) (As := [.int (h2.2.1 16 x2.toNatClampNeg), .int x1]) (rest := []) C (zc_Jd_judgeAssigned h2 (h2.2.1 16 x2.toNatClampNeg) x1 c4) ku_Jd_judgeAssigned kw1123 kv_Jd_judgeAssigned rfl ⟨by decide, by decide⟩ ⟨by decide, by decide⟩ rfl rfl rfl (Nat.le_of_ble_eq_true rfl) kd_Jd_judgeCoil_70 rfl (c1 := 0) (s1 := 0) rfl rfl (fun v w hp => ?_)
  obtain ⟨rfl, rfl⟩ := hp
  refine zk_stk (r' := []) rfl ?_
  exact zk_vret C hR kd_Jd_judgeCoil_73 rfl rfl (zd_rV e)
set_option maxHeartbeats 4000000 in
set_option maxRecDepth 100000 in
theorem zb_Jd_judgeCoil_29 {X : zkj_T} {S : zs_T} {P : ze_T} {l : Launch} {D : va_G} {sz0 : Nat} {rh : zs_H} (C : zk_C X km_Jd_judgeCoil (zs_G S l D sz0) { frames := 3, cells := 0, slots := 0, locals := 72 } (ze_E P)) (hR : zkj_R X (zd_PV S rh) (none)) (h : zs_H) (x1 : Int32) (x2 : Int32) (y0 : Int32) (e : f_Jd_judgeCoil_29 h x1 x2 y0 = some rh) : zk_Ab X (zs_W S h) 0 0 29 [(0, .ref (S.1 38)), (1, .int x1), (2, .int x2)] [.int y0, .ref (S.1 38)] := by
  unfold f_Jd_judgeCoil_29 at e
  refine zk_bipush (v := 39) C kd_Jd_judgeCoil_29 (by decide) rfl ?_
  refine zk_iload_n C kd_Jd_judgeCoil_31 rfl 1 rfl rfl ?_
  obtain ⟨h2, c1, e⟩ := zd_b e
  refine zs_callV (k := 38) (rn := { frames := 1, cells := 0, slots := 0, locals := 22 }) (As := [.int y0, .int 39, .int x1]) (rest := []) C (zc_Jd_refuseIf h y0 39 x1 c1) ku_Jd_refuseIf kw1036 kv_Jd_refuseIf rfl ⟨by decide, by decide⟩ ⟨by decide, by decide⟩ rfl rfl rfl (Nat.le_of_ble_eq_true rfl) kd_Jd_judgeCoil_32 rfl (c1 := 0) (s1 := 0) rfl rfl (fun v w hp => ?_)
  obtain ⟨rfl, rfl⟩ := hp
  refine zk_stk (r' := []) rfl ?_
  refine zk_aload_n C kd_Jd_judgeCoil_35 rfl 0 rfl rfl ?_
  refine zk_aload_n C kd_Jd_judgeCoil_36 rfl 0 rfl rfl ?_
  refine zs_get (v := .ref (S.1 12)) C 38 1 rfl rfl rfl rfl ki_Jd (by decide) kw352 kd_Jd_judgeCoil_37 rfl ?_
  refine zs_get (v := .ref (S.1 14)) C 12 1 rfl rfl rfl rfl ki_Tr (by decide) kw160 kd_Jd_judgeCoil_40 rfl ?_
  refine zk_iload_n C kd_Jd_judgeCoil_43 rfl 2 rfl rfl ?_
  obtain ⟨q3, e⟩ := zd_g e
  refine zs_bald C 14 rfl (zd_vp q3) kd_Jd_judgeCoil_44 rfl ?_
  refine zk_if_eq (tgt := 52) C kd_Jd_judgeCoil_45 (by decide) rfl (fun b4 => ?_) (fun b4 => ?_)
  · replace e := zd_pos b4 e
    refine zk_iconst (v := 0) C kd_Jd_judgeCoil_52 (by decide) rfl ?_
    refine zk_lvs (lv' := [(0, .ref (S.1 38)), (1, .int x1), (2, .int x2)]) [0, 1, 2] rfl ?_
    exact zb_Jd_judgeCoil_53 C hR h2 x1 x2 0 e
  · replace e := zd_neg b4 e
    refine zk_iconst (v := 1) C kd_Jd_judgeCoil_48 (by decide) rfl ?_
    refine zk_goto (tgt := 53) C kd_Jd_judgeCoil_49 (by decide) ?_
    refine zk_lvs (lv' := [(0, .ref (S.1 38)), (1, .int x1), (2, .int x2)]) [0, 1, 2] rfl ?_
    exact zb_Jd_judgeCoil_53 C hR h2 x1 x2 1 e
set_option maxHeartbeats 4000000 in
set_option maxRecDepth 100000 in
theorem zc_Jd_judgeCoil {l : Launch} {D : va_G} {sz0 : Nat} {S : zs_T} {P : ze_T} (h : zs_H) (x1 : Int32) {rh : zs_H} (e : f_Jd_judgeCoil h x1 = some rh) : zk_Sp (zs_G S l D sz0) (ze_E P) km_Jd_judgeCoil { frames := 3, cells := 0, slots := 0, locals := 72 } [.ref (S.1 38), .int x1] (zs_W S h) (zd_PV S rh) := by
  refine zk_met ku_Jd_judgeCoil (Nat.le_of_ble_eq_true rfl) (ze_Em P) ?_
  intro X C hR
  refine zk_lvs (lv' := [(0, .ref (S.1 38)), (1, .int x1)]) [0, 1] rfl ?_
  unfold f_Jd_judgeCoil at e
  refine zk_aload_n C kd_Jd_judgeCoil_0 rfl 0 rfl rfl ?_
  refine zs_get (v := .ref (S.1 12)) C 38 1 rfl rfl rfl rfl ki_Jd (by decide) kw352 kd_Jd_judgeCoil_1 rfl ?_
  refine zs_get (v := .ref (S.1 17)) C 12 4 rfl rfl rfl rfl ki_Tr (by decide) kw170 kd_Jd_judgeCoil_4 rfl ?_
  refine zk_iload_n C kd_Jd_judgeCoil_7 rfl 1 rfl rfl ?_
  obtain ⟨q1, e⟩ := zd_g e
  refine zs_iald C 17 rfl (zd_vp q1) kd_Jd_judgeCoil_8 rfl ?_
  refine zk_istore_n (lv' := [(2, _), (0, _), (1, _)]) C kd_Jd_judgeCoil_9 rfl (by decide) rfl rfl ?_
  refine zk_aload_n C kd_Jd_judgeCoil_10 rfl 1 rfl rfl ?_
  refine zk_aload_n C kd_Jd_judgeCoil_11 rfl 1 rfl rfl ?_
  refine zs_get (v := .ref (S.1 12)) C 38 1 rfl rfl rfl rfl ki_Jd (by decide) kw352 kd_Jd_judgeCoil_12 rfl ?_
  refine zs_get (v := .ref (S.1 18)) C 12 5 rfl rfl rfl rfl ki_Tr (by decide) kw173 kd_Jd_judgeCoil_15 rfl ?_
  refine zk_iload_n C kd_Jd_judgeCoil_18 rfl 2 rfl rfl ?_
  refine zs_iald C 18 rfl (zd_vp q1) kd_Jd_judgeCoil_19 rfl ?_
  refine zk_iconst (v := (-1)) C kd_Jd_judgeCoil_20 (by decide) rfl ?_
  refine zk_icmp_eq (tgt := 28) C kd_Jd_judgeCoil_21 (by decide) rfl (fun b2 => ?_) (fun b2 => ?_)
  · replace e := zd_pos b2 e
    refine zk_iconst (v := 0) C kd_Jd_judgeCoil_28 (by decide) rfl ?_
    refine zk_lvs (lv' := [(0, .ref (S.1 38)), (1, .int x1), (2, .int (h.2.1 17 x1.toNatClampNeg))]) [1, 2, 0] rfl ?_
    exact zb_Jd_judgeCoil_29 C hR h x1 (h.2.1 17 x1.toNatClampNeg) 0 e
  · replace e := zd_neg b2 e
    refine zk_iconst (v := 1) C kd_Jd_judgeCoil_24 (by decide) rfl ?_
    refine zk_goto (tgt := 29) C kd_Jd_judgeCoil_25 (by decide) ?_
    refine zk_lvs (lv' := [(0, .ref (S.1 38)), (1, .int x1), (2, .int (h.2.1 17 x1.toNatClampNeg))]) [1, 2, 0] rfl ?_
    exact zb_Jd_judgeCoil_29 C hR h x1 (h.2.1 17 x1.toNatClampNeg) 1 e
set_option maxHeartbeats 4000000 in
set_option maxRecDepth 100000 in
theorem zb_Jd_judgeContact_55 {X : zkj_T} {S : zs_T} {P : ze_T} {l : Launch} {D : va_G} {sz0 : Nat} {rh : zs_H} (C : zk_C X km_Jd_judgeContact (zs_G S l D sz0) { frames := 2, cells := 0, slots := 0, locals := 45 } (ze_E P)) (hR : zkj_R X (zd_PV S rh) (none)) (h : zs_H) (y0 : Int32) (y1 : Int32) (e : f_Jd_judgeContact_55 h y0 y1 = some rh) : zk_Ab X (zs_W S h) 0 0 55 [] [.int y0, .int y1, .ref (S.1 38)] := by
  unfold f_Jd_judgeContact_55 at e
  refine zk_iadd C kd_Jd_judgeContact_55 rfl ?_
  refine zs_put (ty := .int) C 38 10 (y1 + y0) rfl rfl rfl rfl ki_Jd ky_Jd ko_Jd kn_Jd (by decide) kw361 rfl rfl rfl rfl (by decide) kd_Jd_judgeContact_56 rfl ?_
  exact zk_vret C hR kd_Jd_judgeContact_59 rfl rfl (zd_rV e)
set_option maxHeartbeats 4000000 in
set_option maxRecDepth 100000 in
theorem zb_Jd_judgeContact_26 {X : zkj_T} {S : zs_T} {P : ze_T} {l : Launch} {D : va_G} {sz0 : Nat} {rh : zs_H} (C : zk_C X km_Jd_judgeContact (zs_G S l D sz0) { frames := 2, cells := 0, slots := 0, locals := 45 } (ze_E P)) (hR : zkj_R X (zd_PV S rh) (none)) (h : zs_H) (x1 : Int32) (y0 : Int32) (e : f_Jd_judgeContact_26 h x1 y0 = some rh) : zk_Ab X (zs_W S h) 0 0 26 [(0, .ref (S.1 38)), (1, .int x1)] [.int y0, .ref (S.1 38)] := by
  unfold f_Jd_judgeContact_26 at e
  refine zk_bipush (v := 41) C kd_Jd_judgeContact_26 (by decide) rfl ?_
  refine zk_iload_n C kd_Jd_judgeContact_28 rfl 1 rfl rfl ?_
  obtain ⟨h2, c1, e⟩ := zd_b e
  refine zs_callV (k := 38) (rn := { frames := 1, cells := 0, slots := 0, locals := 22 }) (As := [.int y0, .int 41, .int x1]) (rest := []) C (zc_Jd_refuseIf h y0 41 x1 c1) ku_Jd_refuseIf kw1036 kv_Jd_refuseIf rfl ⟨by decide, by decide⟩ ⟨by decide, by decide⟩ rfl rfl rfl (Nat.le_of_ble_eq_true rfl) kd_Jd_judgeContact_29 rfl (c1 := 0) (s1 := 0) rfl rfl (fun v w hp => ?_)
  obtain ⟨rfl, rfl⟩ := hp
  refine zk_stk (r' := []) rfl ?_
  refine zk_aload_n C kd_Jd_judgeContact_32 rfl 0 rfl rfl ?_
  refine zk_dup C kd_Jd_judgeContact_33 rfl rfl ?_
  refine zs_get (v := .int (h2.1 38 10)) C 38 10 rfl rfl rfl rfl ki_Jd (by decide) kw361 kd_Jd_judgeContact_34 rfl ?_
  refine zk_aload_n C kd_Jd_judgeContact_37 rfl 0 rfl rfl ?_
  refine zs_get (v := .ref (S.1 12)) C 38 1 rfl rfl rfl rfl ki_Jd (by decide) kw352 kd_Jd_judgeContact_38 rfl ?_
  refine zs_get (v := .ref (S.1 16)) C 12 3 rfl rfl rfl rfl ki_Tr (by decide) kw168 kd_Jd_judgeContact_41 rfl ?_
  refine zk_iload_n C kd_Jd_judgeContact_44 rfl 1 rfl rfl ?_
  obtain ⟨q3, e⟩ := zd_g e
  refine zs_iald C 16 rfl (zd_vp q3) kd_Jd_judgeContact_45 rfl ?_
  refine zk_iconst (v := 2) C kd_Jd_judgeContact_46 (by decide) rfl ?_
  refine zk_icmp_lt (tgt := 54) C kd_Jd_judgeContact_47 (by decide) rfl (fun b4 => ?_) (fun b4 => ?_)
  · replace e := zd_pos b4 e
    refine zk_iconst (v := 0) C kd_Jd_judgeContact_54 (by decide) rfl ?_
    refine zk_lvs (lv' := []) [] rfl ?_
    exact zb_Jd_judgeContact_55 C hR h2 0 (h2.1 38 10) e
  · replace e := zd_neg b4 e
    refine zk_iconst (v := 1) C kd_Jd_judgeContact_50 (by decide) rfl ?_
    refine zk_goto (tgt := 55) C kd_Jd_judgeContact_51 (by decide) ?_
    refine zk_lvs (lv' := []) [] rfl ?_
    exact zb_Jd_judgeContact_55 C hR h2 1 (h2.1 38 10) e
set_option maxHeartbeats 4000000 in
set_option maxRecDepth 100000 in
theorem zc_Jd_judgeContact {l : Launch} {D : va_G} {sz0 : Nat} {S : zs_T} {P : ze_T} (h : zs_H) (x1 : Int32) {rh : zs_H} (e : f_Jd_judgeContact h x1 = some rh) : zk_Sp (zs_G S l D sz0) (ze_E P) km_Jd_judgeContact { frames := 2, cells := 0, slots := 0, locals := 45 } [.ref (S.1 38), .int x1] (zs_W S h) (zd_PV S rh) := by
  refine zk_met ku_Jd_judgeContact (Nat.le_of_ble_eq_true rfl) (ze_Em P) ?_
  intro X C hR
  refine zk_lvs (lv' := [(0, .ref (S.1 38)), (1, .int x1)]) [0, 1] rfl ?_
  unfold f_Jd_judgeContact at e
  refine zk_aload_n C kd_Jd_judgeContact_0 rfl 0 rfl rfl ?_
  refine zk_aload_n C kd_Jd_judgeContact_1 rfl 0 rfl rfl ?_
  refine zs_get (v := .ref (S.1 12)) C 38 1 rfl rfl rfl rfl ki_Jd (by decide) kw352 kd_Jd_judgeContact_2 rfl ?_
  refine zs_get (v := .ref (S.1 14)) C 12 1 rfl rfl rfl rfl ki_Tr (by decide) kw160 kd_Jd_judgeContact_5 rfl ?_
  refine zk_aload_n C kd_Jd_judgeContact_8 rfl 0 rfl rfl ?_
  refine zs_get (v := .ref (S.1 12)) C 38 1 rfl rfl rfl rfl ki_Jd (by decide) kw352 kd_Jd_judgeContact_9 rfl ?_
  refine zs_get (v := .ref (S.1 17)) C 12 4 rfl rfl rfl rfl ki_Tr (by decide) kw170 kd_Jd_judgeContact_12 rfl ?_
  refine zk_iload_n C kd_Jd_judgeContact_15 rfl 1 rfl rfl ?_
  obtain ⟨q1, e⟩ := zd_g e
  refine zs_iald C 17 rfl (zd_vp q1) kd_Jd_judgeContact_16 rfl ?_
  obtain ⟨q2, e⟩ := zd_g e
  refine zs_bald C 14 rfl (zd_vp q2) kd_Jd_judgeContact_17 rfl ?_
  refine zk_if_eq (tgt := 25) C kd_Jd_judgeContact_18 (by decide) rfl (fun b3 => ?_) (fun b3 => ?_)
  · replace e := zd_pos b3 e
    refine zk_iconst (v := 0) C kd_Jd_judgeContact_25 (by decide) rfl ?_
    refine zk_lvs (lv' := [(0, .ref (S.1 38)), (1, .int x1)]) [0, 1] rfl ?_
    exact zb_Jd_judgeContact_26 C hR h x1 0 e
  · replace e := zd_neg b3 e
    refine zk_iconst (v := 1) C kd_Jd_judgeContact_21 (by decide) rfl ?_
    refine zk_goto (tgt := 26) C kd_Jd_judgeContact_22 (by decide) ?_
    refine zk_lvs (lv' := [(0, .ref (S.1 38)), (1, .int x1)]) [0, 1] rfl ?_
    exact zb_Jd_judgeContact_26 C hR h x1 1 e
set_option maxHeartbeats 4000000 in
set_option maxRecDepth 100000 in
theorem zb_Jd_cellsIn_52 {X : zkj_T} {S : zs_T} {P : ze_T} {l : Launch} {D : va_G} {sz0 : Nat} {rv : Int32} {h : zs_H} (C : zk_C X km_Jd_cellsIn (zs_G S l D sz0) { frames := 0, cells := 0, slots := 0, locals := 0 } (ze_E P)) (hR : zkj_R X (zd_PI S rv h) (some .int)) {k15 : Int32 → Int32 → Int32 → (Option Int32)} (hk15 : ∀ (x2 : Int32) (x3 : Int32) (x4 : Int32), k15 x2 x3 x4 = some rv → zk_Ab X (zs_W S h) 0 0 15 [(0, .ref (S.1 38)), (2, .int x2), (3, .int x3), (4, .int x4)] []) (x3 : Int32) (x4 : Int32) (y0 : Int32) (y1 : Int32) (e : f_Jd_cellsIn_52 h k15 x3 x4 y0 y1 = some rv) : zk_Ab X (zs_W S h) 0 0 52 [(0, .ref (S.1 38)), (3, .int x3), (4, .int x4)] [.int y0, .int y1] := by
  unfold f_Jd_cellsIn_52 at e
  refine zk_iadd C kd_Jd_cellsIn_52 rfl ?_
  refine zk_istore_n (lv' := [(2, _), (0, _), (3, _), (4, _)]) C kd_Jd_cellsIn_53 rfl (by decide) rfl rfl ?_
  refine zk_aload_n C kd_Jd_cellsIn_54 rfl 1 rfl rfl ?_
  refine zs_get (v := .ref (S.1 12)) C 38 1 rfl rfl rfl rfl ki_Jd (by decide) kw352 kd_Jd_cellsIn_55 rfl ?_
  refine zs_get (v := .ref (S.1 18)) C 12 5 rfl rfl rfl rfl ki_Tr (by decide) kw173 kd_Jd_cellsIn_58 rfl ?_
  refine zk_iload_n C kd_Jd_cellsIn_61 rfl 2 rfl rfl ?_
  obtain ⟨q1, e⟩ := zd_g e
  refine zs_iald C 18 rfl (zd_vp q1) kd_Jd_cellsIn_62 rfl ?_
  refine zk_istore_n (lv' := [(3, _), (2, _), (0, _), (4, _)]) C kd_Jd_cellsIn_63 rfl (by decide) rfl rfl ?_
  refine zk_iinc (v := (x4 + 1)) (lv' := [(4, _), (3, _), (2, _), (0, _)]) C kd_Jd_cellsIn_64 3 rfl rfl (by decide) rfl rfl ?_
  refine zk_goto (tgt := 15) C kd_Jd_cellsIn_67 (by decide) ?_
  refine zk_lvs (lv' := [(0, .ref (S.1 38)), (2, .int (y1 + y0)), (3, .int (h.2.1 18 x3.toNatClampNeg)), (4, .int (x4 + 1))]) [3, 2, 1, 0] rfl ?_
  exact hk15 (y1 + y0) (h.2.1 18 x3.toNatClampNeg) (x4 + 1) e
set_option maxHeartbeats 4000000 in
set_option maxRecDepth 100000 in
theorem zb_Jd_cellsIn_15 {X : zkj_T} {S : zs_T} {P : ze_T} {l : Launch} {D : va_G} {sz0 : Nat} {rv : Int32} {h : zs_H} (C : zk_C X km_Jd_cellsIn (zs_G S l D sz0) { frames := 0, cells := 0, slots := 0, locals := 0 } (ze_E P)) (hR : zkj_R X (zd_PI S rv h) (some .int)) {k15 : Int32 → Int32 → Int32 → (Option Int32)} (hk15 : ∀ (x2 : Int32) (x3 : Int32) (x4 : Int32), k15 x2 x3 x4 = some rv → zk_Ab X (zs_W S h) 0 0 15 [(0, .ref (S.1 38)), (2, .int x2), (3, .int x3), (4, .int x4)] []) (x2 : Int32) (x3 : Int32) (x4 : Int32) (e : f_Jd_cellsIn_15 h k15 x2 x3 x4 = some rv) : zk_Ab X (zs_W S h) 0 0 15 [(0, .ref (S.1 38)), (2, .int x2), (3, .int x3), (4, .int x4)] [] := by
  unfold f_Jd_cellsIn_15 at e
  refine zk_iload C kd_Jd_cellsIn_15 3 rfl rfl ?_
  refine zk_aload_n C kd_Jd_cellsIn_17 rfl 0 rfl rfl ?_
  refine zs_get (v := .ref (S.1 12)) C 38 1 rfl rfl rfl rfl ki_Jd (by decide) kw352 kd_Jd_cellsIn_18 rfl ?_
  refine zs_get (v := .int (h.1 12 6)) C 12 6 rfl rfl rfl rfl ki_Tr (by decide) kw177 kd_Jd_cellsIn_21 rfl ?_
  refine zk_icmp_ge (tgt := 70) C kd_Jd_cellsIn_24 (by decide) rfl (fun b1 => ?_) (fun b1 => ?_)
  · replace e := zd_pos b1 e
    refine zk_iload_n C kd_Jd_cellsIn_70 rfl 1 rfl rfl ?_
    exact zk_iret C hR kd_Jd_cellsIn_71 rfl rfl (zd_rIO e)
  · replace e := zd_neg b1 e
    refine zk_iload_n C kd_Jd_cellsIn_27 rfl 2 rfl rfl ?_
    refine zk_iconst (v := (-1)) C kd_Jd_cellsIn_28 (by decide) rfl ?_
    refine zk_icmp_eq (tgt := 70) C kd_Jd_cellsIn_29 (by decide) rfl (fun b2 => ?_) (fun b2 => ?_)
    · replace e := zd_pos b2 e
      refine zk_iload_n C kd_Jd_cellsIn_70 rfl 1 rfl rfl ?_
      exact zk_iret C hR kd_Jd_cellsIn_71 rfl rfl (zd_rIO e)
    · replace e := zd_neg b2 e
      refine zk_iload_n C kd_Jd_cellsIn_32 rfl 1 rfl rfl ?_
      refine zk_aload_n C kd_Jd_cellsIn_33 rfl 0 rfl rfl ?_
      refine zs_get (v := .ref (S.1 12)) C 38 1 rfl rfl rfl rfl ki_Jd (by decide) kw352 kd_Jd_cellsIn_34 rfl ?_
      refine zs_get (v := .ref (S.1 13)) C 12 0 rfl rfl rfl rfl ki_Tr (by decide) kw157 kd_Jd_cellsIn_37 rfl ?_
      refine zk_iload_n C kd_Jd_cellsIn_40 rfl 2 rfl rfl ?_
      obtain ⟨q3, e⟩ := zd_g e
      refine zs_bald C 13 rfl (zd_vp q3) kd_Jd_cellsIn_41 rfl ?_
      refine zk_bipush (v := 29) C kd_Jd_cellsIn_42 (by decide) rfl ?_
      refine zk_icmp_ne (tgt := 51) C kd_Jd_cellsIn_44 (by decide) rfl (fun b4 => ?_) (fun b4 => ?_)
      · replace e := zd_neg b4 e
        refine zk_iconst (v := 1) C kd_Jd_cellsIn_51 (by decide) rfl ?_
        refine zk_lvs (lv' := [(0, .ref (S.1 38)), (3, .int x3), (4, .int x4)]) [0, 2, 3] rfl ?_
        exact zb_Jd_cellsIn_52 C hR hk15 x3 x4 1 x2 e
      · replace e := zd_pos b4 e
        refine zk_iconst (v := 0) C kd_Jd_cellsIn_47 (by decide) rfl ?_
        refine zk_goto (tgt := 52) C kd_Jd_cellsIn_48 (by decide) ?_
        refine zk_lvs (lv' := [(0, .ref (S.1 38)), (3, .int x3), (4, .int x4)]) [0, 2, 3] rfl ?_
        exact zb_Jd_cellsIn_52 C hR hk15 x3 x4 0 x2 e
theorem zl_Jd_cellsIn_15 {X : zkj_T} {S : zs_T} {P : ze_T} {l : Launch} {D : va_G} {sz0 : Nat} {rv : Int32} {h : zs_H} (C : zk_C X km_Jd_cellsIn (zs_G S l D sz0) { frames := 0, cells := 0, slots := 0, locals := 0 } (ze_E P)) (hR : zkj_R X (zd_PI S rv h) (some .int)) (n : Nat) : ∀ (x2 : Int32) (x3 : Int32) (x4 : Int32), f_Jd_cellsIn_L15 h n x2 x3 x4 = some rv → zk_Ab X (zs_W S h) 0 0 15 [(0, .ref (S.1 38)), (2, .int x2), (3, .int x3), (4, .int x4)] [] := by
  induction n with
  | zero => intro x2 x3 x4 e; exact zd_no e
  | succ n ih => intro x2 x3 x4 e; exact zb_Jd_cellsIn_15 (k15 := f_Jd_cellsIn_L15 h n) C hR ih x2 x3 x4 e
set_option maxHeartbeats 4000000 in
set_option maxRecDepth 100000 in
theorem zc_Jd_cellsIn {l : Launch} {D : va_G} {sz0 : Nat} {S : zs_T} {P : ze_T} (h : zs_H) (x1 : Int32) {rv : Int32} (e : f_Jd_cellsIn h x1 = some rv) : zk_Sp (zs_G S l D sz0) (ze_E P) km_Jd_cellsIn { frames := 0, cells := 0, slots := 0, locals := 0 } [.ref (S.1 38), .int x1] (zs_W S h) (zd_PI S rv h) := by
  refine zk_met ku_Jd_cellsIn (Nat.le_of_ble_eq_true rfl) (ze_Em P) ?_
  intro X C hR
  refine zk_lvs (lv' := [(0, .ref (S.1 38)), (1, .int x1)]) [0, 1] rfl ?_
  unfold f_Jd_cellsIn at e
  refine zk_iconst (v := 0) C kd_Jd_cellsIn_0 (by decide) rfl ?_
  refine zk_istore_n (lv' := [(2, _), (0, _), (1, _)]) C kd_Jd_cellsIn_1 rfl (by decide) rfl rfl ?_
  refine zk_aload_n C kd_Jd_cellsIn_2 rfl 1 rfl rfl ?_
  refine zs_get (v := .ref (S.1 12)) C 38 1 rfl rfl rfl rfl ki_Jd (by decide) kw352 kd_Jd_cellsIn_3 rfl ?_
  refine zs_get (v := .ref (S.1 17)) C 12 4 rfl rfl rfl rfl ki_Tr (by decide) kw170 kd_Jd_cellsIn_6 rfl ?_
  refine zk_iload_n C kd_Jd_cellsIn_9 rfl 2 rfl rfl ?_
  obtain ⟨q1, e⟩ := zd_g e
  refine zs_iald C 17 rfl (zd_vp q1) kd_Jd_cellsIn_10 rfl ?_
  refine zk_istore_n (lv' := [(3, _), (2, _), (0, _), (1, _)]) C kd_Jd_cellsIn_11 rfl (by decide) rfl rfl ?_
  refine zk_iconst (v := 0) C kd_Jd_cellsIn_12 (by decide) rfl ?_
  refine zk_istore (lv' := [(4, _), (3, _), (2, _), (0, _), (1, _)]) C kd_Jd_cellsIn_13 (by decide) rfl rfl ?_
  refine zk_lvs (lv' := [(0, .ref (S.1 38)), (2, .int 0), (3, .int (h.2.1 17 x1.toNatClampNeg)), (4, .int 0)]) [3, 2, 1, 0] rfl ?_
  exact zl_Jd_cellsIn_15 C hR zF 0 (h.2.1 17 x1.toNatClampNeg) 0 e
set_option maxHeartbeats 4000000 in
set_option maxRecDepth 100000 in
theorem zb_Jd_judgeRung_84 {X : zkj_T} {S : zs_T} {P : ze_T} {l : Launch} {D : va_G} {sz0 : Nat} {rh : zs_H} (C : zk_C X km_Jd_judgeRung (zs_G S l D sz0) { frames := 2, cells := 0, slots := 0, locals := 45 } (ze_E P)) (hR : zkj_R X (zd_PV S rh) (none)) {k18 : zs_H → Int32 → Int32 → Int32 → Int32 → Int32 → (Option zs_H)} (hk18 : ∀ (h : zs_H) (x1 : Int32) (x2 : Int32) (x3 : Int32) (x4 : Int32) (x5 : Int32), k18 h x1 x2 x3 x4 x5 = some rh → zk_Ab X (zs_W S h) 0 0 18 [(0, .ref (S.1 38)), (1, .int x1), (2, .int x2), (3, .int x3), (4, .int x4), (5, .int x5)] []) (h : zs_H) (x1 : Int32) (x2 : Int32) (x3 : Int32) (x4 : Int32) (x5 : Int32) (y0 : Int32) (e : f_Jd_judgeRung_84 k18 h x1 x2 x3 x4 x5 y0 = some rh) : zk_Ab X (zs_W S h) 0 0 84 [(0, .ref (S.1 38)), (1, .int x1), (2, .int x2), (3, .int x3), (4, .int x4), (5, .int x5)] [.int y0, .ref (S.1 38)] := by
  unfold f_Jd_judgeRung_84 at e
  refine zk_bipush (v := 38) C kd_Jd_judgeRung_84 (by decide) rfl ?_
  refine zk_iload_n C kd_Jd_judgeRung_86 rfl 1 rfl rfl ?_
  obtain ⟨h2, c1, e⟩ := zd_b e
  refine zs_callV (k := 38) (rn := { frames := 1, cells := 0, slots := 0, locals := 22 }) (As := [.int y0, .int 38, .int x1]) (rest := []) C (zc_Jd_refuseIf h y0 38 x1 c1) ku_Jd_refuseIf kw1036 kv_Jd_refuseIf rfl ⟨by decide, by decide⟩ ⟨by decide, by decide⟩ rfl rfl rfl (Nat.le_of_ble_eq_true rfl) kd_Jd_judgeRung_87 rfl (c1 := 0) (s1 := 0) rfl rfl (fun v w hp => ?_)
  obtain ⟨rfl, rfl⟩ := hp
  refine zk_stk (r' := []) rfl ?_
  refine zk_aload_n C kd_Jd_judgeRung_90 rfl 0 rfl rfl ?_
  refine zs_get (v := .ref (S.1 12)) C 38 1 rfl rfl rfl rfl ki_Jd (by decide) kw352 kd_Jd_judgeRung_91 rfl ?_
  refine zs_get (v := .ref (S.1 18)) C 12 5 rfl rfl rfl rfl ki_Tr (by decide) kw173 kd_Jd_judgeRung_94 rfl ?_
  refine zk_iload C kd_Jd_judgeRung_97 4 rfl rfl ?_
  obtain ⟨q3, e⟩ := zd_g e
  refine zs_iald C 18 rfl (zd_vp q3) kd_Jd_judgeRung_99 rfl ?_
  refine zk_istore (lv' := [(4, _), (0, _), (1, _), (2, _), (3, _), (5, _)]) C kd_Jd_judgeRung_100 (by decide) rfl rfl ?_
  refine zk_iinc (v := (x5 + 1)) (lv' := [(5, _), (4, _), (0, _), (1, _), (2, _), (3, _)]) C kd_Jd_judgeRung_102 5 rfl rfl (by decide) rfl rfl ?_
  refine zk_goto (tgt := 18) C kd_Jd_judgeRung_105 (by decide) ?_
  refine zk_lvs (lv' := [(0, .ref (S.1 38)), (1, .int x1), (2, .int x2), (3, .int x3), (4, .int (h2.2.1 18 x4.toNatClampNeg)), (5, .int (x5 + 1))]) [2, 3, 4, 5, 1, 0] rfl ?_
  exact hk18 h2 x1 x2 x3 (h2.2.1 18 x4.toNatClampNeg) (x5 + 1) e
set_option maxHeartbeats 4000000 in
set_option maxRecDepth 100000 in
theorem zb_Jd_judgeRung_79 {X : zkj_T} {S : zs_T} {P : ze_T} {l : Launch} {D : va_G} {sz0 : Nat} {rh : zs_H} (C : zk_C X km_Jd_judgeRung (zs_G S l D sz0) { frames := 2, cells := 0, slots := 0, locals := 45 } (ze_E P)) (hR : zkj_R X (zd_PV S rh) (none)) {k18 : zs_H → Int32 → Int32 → Int32 → Int32 → Int32 → (Option zs_H)} (hk18 : ∀ (h : zs_H) (x1 : Int32) (x2 : Int32) (x3 : Int32) (x4 : Int32) (x5 : Int32), k18 h x1 x2 x3 x4 x5 = some rh → zk_Ab X (zs_W S h) 0 0 18 [(0, .ref (S.1 38)), (1, .int x1), (2, .int x2), (3, .int x3), (4, .int x4), (5, .int x5)] []) (h : zs_H) (x1 : Int32) (x2 : Int32) (x3 : Int32) (x4 : Int32) (x5 : Int32) (e : f_Jd_judgeRung_79 k18 h x1 x2 x3 x4 x5 = some rh) : zk_Ab X (zs_W S h) 0 0 79 [(0, .ref (S.1 38)), (1, .int x1), (2, .int x2), (3, .int x3), (4, .int x4), (5, .int x5)] [.ref (S.1 38)] := by
  unfold f_Jd_judgeRung_79 at e
  refine zk_iconst (v := 1) C kd_Jd_judgeRung_79 (by decide) rfl ?_
  refine zk_goto (tgt := 84) C kd_Jd_judgeRung_80 (by decide) ?_
  refine zk_lvs (lv' := [(0, .ref (S.1 38)), (1, .int x1), (2, .int x2), (3, .int x3), (4, .int x4), (5, .int x5)]) [0, 1, 2, 3, 4, 5] rfl ?_
  exact zb_Jd_judgeRung_84 C hR hk18 h x1 x2 x3 x4 x5 1 e
set_option maxHeartbeats 4000000 in
set_option maxRecDepth 100000 in
theorem zb_Jd_judgeRung_55 {X : zkj_T} {S : zs_T} {P : ze_T} {l : Launch} {D : va_G} {sz0 : Nat} {rh : zs_H} (C : zk_C X km_Jd_judgeRung (zs_G S l D sz0) { frames := 2, cells := 0, slots := 0, locals := 45 } (ze_E P)) (hR : zkj_R X (zd_PV S rh) (none)) {k18 : zs_H → Int32 → Int32 → Int32 → Int32 → Int32 → (Option zs_H)} (hk18 : ∀ (h : zs_H) (x1 : Int32) (x2 : Int32) (x3 : Int32) (x4 : Int32) (x5 : Int32), k18 h x1 x2 x3 x4 x5 = some rh → zk_Ab X (zs_W S h) 0 0 18 [(0, .ref (S.1 38)), (1, .int x1), (2, .int x2), (3, .int x3), (4, .int x4), (5, .int x5)] []) (h : zs_H) (x1 : Int32) (x2 : Int32) (x4 : Int32) (x5 : Int32) (x6 : Int32) (y0 : Int32) (e : f_Jd_judgeRung_55 k18 h x1 x2 x4 x5 x6 y0 = some rh) : zk_Ab X (zs_W S h) 0 0 55 [(0, .ref (S.1 38)), (1, .int x1), (2, .int x2), (4, .int x4), (5, .int x5), (6, .int x6)] [.int y0] := by
  unfold f_Jd_judgeRung_55 at e
  refine zk_istore_n (lv' := [(3, _), (0, _), (1, _), (2, _), (4, _), (5, _), (6, _)]) C kd_Jd_judgeRung_55 rfl (by decide) rfl rfl ?_
  refine zk_iinc (v := (x2 + 1)) (lv' := [(2, _), (3, _), (0, _), (1, _), (4, _), (5, _), (6, _)]) C kd_Jd_judgeRung_56 3 rfl rfl (by decide) rfl rfl ?_
  refine zk_aload_n C kd_Jd_judgeRung_59 rfl 2 rfl rfl ?_
  refine zk_iload_n C kd_Jd_judgeRung_60 rfl 0 rfl rfl ?_
  refine zk_bipush (v := 12) C kd_Jd_judgeRung_61 (by decide) rfl ?_
  refine zk_icmp_gt (tgt := 79) C kd_Jd_judgeRung_63 (by decide) rfl (fun b1 => ?_) (fun b1 => ?_)
  · replace e := zd_pos b1 e
    refine zk_lvs (lv' := [(0, .ref (S.1 38)), (1, .int x1), (2, .int (x2 + 1)), (3, .int y0), (4, .int x4), (5, .int x5)]) [2, 3, 0, 1, 4, 5] rfl ?_
    exact zb_Jd_judgeRung_79 C hR hk18 h x1 (x2 + 1) y0 x4 x5 e
  · replace e := zd_neg b1 e
    refine zk_iload C kd_Jd_judgeRung_66 6 rfl rfl ?_
    refine zk_bipush (v := 12) C kd_Jd_judgeRung_68 (by decide) rfl ?_
    refine zk_icmp_gt (tgt := 79) C kd_Jd_judgeRung_70 (by decide) rfl (fun b2 => ?_) (fun b2 => ?_)
    · replace e := zd_pos b2 e
      refine zk_lvs (lv' := [(0, .ref (S.1 38)), (1, .int x1), (2, .int (x2 + 1)), (3, .int y0), (4, .int x4), (5, .int x5)]) [2, 3, 0, 1, 4, 5] rfl ?_
      exact zb_Jd_judgeRung_79 C hR hk18 h x1 (x2 + 1) y0 x4 x5 e
    · replace e := zd_neg b2 e
      refine zk_iload C kd_Jd_judgeRung_73 6 rfl rfl ?_
      refine zk_iload_n C kd_Jd_judgeRung_75 rfl 1 rfl rfl ?_
      refine zk_icmp_eq (tgt := 83) C kd_Jd_judgeRung_76 (by decide) rfl (fun b3 => ?_) (fun b3 => ?_)
      · replace e := zd_pos b3 e
        refine zk_iconst (v := 0) C kd_Jd_judgeRung_83 (by decide) rfl ?_
        refine zk_lvs (lv' := [(0, .ref (S.1 38)), (1, .int x1), (2, .int (x2 + 1)), (3, .int y0), (4, .int x4), (5, .int x5)]) [2, 3, 0, 1, 4, 5] rfl ?_
        exact zb_Jd_judgeRung_84 C hR hk18 h x1 (x2 + 1) y0 x4 x5 0 e
      · replace e := zd_neg b3 e
        refine zk_lvs (lv' := [(0, .ref (S.1 38)), (1, .int x1), (2, .int (x2 + 1)), (3, .int y0), (4, .int x4), (5, .int x5)]) [2, 3, 0, 1, 4, 5] rfl ?_
        exact zb_Jd_judgeRung_79 C hR hk18 h x1 (x2 + 1) y0 x4 x5 e
set_option maxHeartbeats 4000000 in
set_option maxRecDepth 100000 in
theorem zb_Jd_judgeRung_18 {X : zkj_T} {S : zs_T} {P : ze_T} {l : Launch} {D : va_G} {sz0 : Nat} {rh : zs_H} (C : zk_C X km_Jd_judgeRung (zs_G S l D sz0) { frames := 2, cells := 0, slots := 0, locals := 45 } (ze_E P)) (hR : zkj_R X (zd_PV S rh) (none)) {k18 : zs_H → Int32 → Int32 → Int32 → Int32 → Int32 → (Option zs_H)} (hk18 : ∀ (h : zs_H) (x1 : Int32) (x2 : Int32) (x3 : Int32) (x4 : Int32) (x5 : Int32), k18 h x1 x2 x3 x4 x5 = some rh → zk_Ab X (zs_W S h) 0 0 18 [(0, .ref (S.1 38)), (1, .int x1), (2, .int x2), (3, .int x3), (4, .int x4), (5, .int x5)] []) (h : zs_H) (x1 : Int32) (x2 : Int32) (x3 : Int32) (x4 : Int32) (x5 : Int32) (e : f_Jd_judgeRung_18 k18 h x1 x2 x3 x4 x5 = some rh) : zk_Ab X (zs_W S h) 0 0 18 [(0, .ref (S.1 38)), (1, .int x1), (2, .int x2), (3, .int x3), (4, .int x4), (5, .int x5)] [] := by
  unfold f_Jd_judgeRung_18 at e
  refine zk_iload C kd_Jd_judgeRung_18 5 rfl rfl ?_
  refine zk_aload_n C kd_Jd_judgeRung_20 rfl 0 rfl rfl ?_
  refine zs_get (v := .ref (S.1 12)) C 38 1 rfl rfl rfl rfl ki_Jd (by decide) kw352 kd_Jd_judgeRung_21 rfl ?_
  refine zs_get (v := .int (h.1 12 6)) C 12 6 rfl rfl rfl rfl ki_Tr (by decide) kw177 kd_Jd_judgeRung_24 rfl ?_
  refine zk_icmp_ge (tgt := 108) C kd_Jd_judgeRung_27 (by decide) rfl (fun b1 => ?_) (fun b1 => ?_)
  · replace e := zd_pos b1 e
    exact zk_vret C hR kd_Jd_judgeRung_108 rfl rfl (zd_rV e)
  · replace e := zd_neg b1 e
    refine zk_iload C kd_Jd_judgeRung_30 4 rfl rfl ?_
    refine zk_iconst (v := (-1)) C kd_Jd_judgeRung_32 (by decide) rfl ?_
    refine zk_icmp_eq (tgt := 108) C kd_Jd_judgeRung_33 (by decide) rfl (fun b2 => ?_) (fun b2 => ?_)
    · replace e := zd_pos b2 e
      exact zk_vret C hR kd_Jd_judgeRung_108 rfl rfl (zd_rV e)
    · replace e := zd_neg b2 e
      refine zk_aload_n C kd_Jd_judgeRung_36 rfl 0 rfl rfl ?_
      refine zk_iload C kd_Jd_judgeRung_37 4 rfl rfl ?_
      obtain ⟨v4, c3, e⟩ := zd_b e
      refine zs_callV (k := 38) (rn := { frames := 0, cells := 0, slots := 0, locals := 0 }) (As := [.int x4]) (rest := []) C (zc_Jd_cellsIn h x4 c3) ku_Jd_cellsIn kw1179 kv_Jd_cellsIn rfl ⟨by decide, by decide⟩ ⟨by decide, by decide⟩ rfl rfl rfl (Nat.le_of_ble_eq_true rfl) kd_Jd_judgeRung_39 rfl (c1 := 0) (s1 := 0) rfl rfl (fun v w hp => ?_)
      obtain ⟨rfl, rfl⟩ := hp
      refine zk_stk (r' := [.int v4]) rfl ?_
      refine zk_istore (lv' := [(6, _), (0, _), (1, _), (2, _), (3, _), (4, _), (5, _)]) C kd_Jd_judgeRung_42 (by decide) rfl rfl ?_
      refine zk_iload_n C kd_Jd_judgeRung_44 rfl 4 rfl rfl ?_
      refine zk_iconst (v := (-1)) C kd_Jd_judgeRung_45 (by decide) rfl ?_
      refine zk_icmp_ne (tgt := 54) C kd_Jd_judgeRung_46 (by decide) rfl (fun b5 => ?_) (fun b5 => ?_)
      · replace e := zd_neg b5 e
        refine zk_iload_n C kd_Jd_judgeRung_54 rfl 4 rfl rfl ?_
        refine zk_lvs (lv' := [(0, .ref (S.1 38)), (1, .int x1), (2, .int x2), (4, .int x4), (5, .int x5), (6, .int v4)]) [1, 2, 3, 5, 6, 0] rfl ?_
        exact zb_Jd_judgeRung_55 C hR hk18 h x1 x2 x4 x5 v4 x3 e
      · replace e := zd_pos b5 e
        refine zk_iload C kd_Jd_judgeRung_49 0 rfl rfl ?_
        refine zk_goto (tgt := 55) C kd_Jd_judgeRung_51 (by decide) ?_
        refine zk_lvs (lv' := [(0, .ref (S.1 38)), (1, .int x1), (2, .int x2), (4, .int x4), (5, .int x5), (6, .int v4)]) [1, 2, 3, 5, 6, 0] rfl ?_
        exact zb_Jd_judgeRung_55 C hR hk18 h x1 x2 x4 x5 v4 v4 e
theorem zl_Jd_judgeRung_18 {X : zkj_T} {S : zs_T} {P : ze_T} {l : Launch} {D : va_G} {sz0 : Nat} {rh : zs_H} (C : zk_C X km_Jd_judgeRung (zs_G S l D sz0) { frames := 2, cells := 0, slots := 0, locals := 45 } (ze_E P)) (hR : zkj_R X (zd_PV S rh) (none)) (n : Nat) : ∀ (h : zs_H) (x1 : Int32) (x2 : Int32) (x3 : Int32) (x4 : Int32) (x5 : Int32), f_Jd_judgeRung_L18 n h x1 x2 x3 x4 x5 = some rh → zk_Ab X (zs_W S h) 0 0 18 [(0, .ref (S.1 38)), (1, .int x1), (2, .int x2), (3, .int x3), (4, .int x4), (5, .int x5)] [] := by
  induction n with
  | zero => intro h x1 x2 x3 x4 x5 e; exact zd_no e
  | succ n ih => intro h x1 x2 x3 x4 x5 e; exact zb_Jd_judgeRung_18 (k18 := f_Jd_judgeRung_L18  n) C hR ih h x1 x2 x3 x4 x5 e
set_option maxHeartbeats 4000000 in
set_option maxRecDepth 100000 in
theorem zc_Jd_judgeRung {l : Launch} {D : va_G} {sz0 : Nat} {S : zs_T} {P : ze_T} (h : zs_H) (x1 : Int32) {rh : zs_H} (e : f_Jd_judgeRung h x1 = some rh) : zk_Sp (zs_G S l D sz0) (ze_E P) km_Jd_judgeRung { frames := 2, cells := 0, slots := 0, locals := 45 } [.ref (S.1 38), .int x1] (zs_W S h) (zd_PV S rh) := by
  refine zk_met ku_Jd_judgeRung (Nat.le_of_ble_eq_true rfl) (ze_Em P) ?_
  intro X C hR
  refine zk_lvs (lv' := [(0, .ref (S.1 38)), (1, .int x1)]) [0, 1] rfl ?_
  unfold f_Jd_judgeRung at e
  refine zk_iconst (v := 0) C kd_Jd_judgeRung_0 (by decide) rfl ?_
  refine zk_istore_n (lv' := [(2, _), (0, _), (1, _)]) C kd_Jd_judgeRung_1 rfl (by decide) rfl rfl ?_
  refine zk_iconst (v := (-1)) C kd_Jd_judgeRung_2 (by decide) rfl ?_
  refine zk_istore_n (lv' := [(3, _), (2, _), (0, _), (1, _)]) C kd_Jd_judgeRung_3 rfl (by decide) rfl rfl ?_
  refine zk_aload_n C kd_Jd_judgeRung_4 rfl 2 rfl rfl ?_
  refine zs_get (v := .ref (S.1 12)) C 38 1 rfl rfl rfl rfl ki_Jd (by decide) kw352 kd_Jd_judgeRung_5 rfl ?_
  refine zs_get (v := .ref (S.1 17)) C 12 4 rfl rfl rfl rfl ki_Tr (by decide) kw170 kd_Jd_judgeRung_8 rfl ?_
  refine zk_iload_n C kd_Jd_judgeRung_11 rfl 3 rfl rfl ?_
  obtain ⟨q1, e⟩ := zd_g e
  refine zs_iald C 17 rfl (zd_vp q1) kd_Jd_judgeRung_12 rfl ?_
  refine zk_istore (lv' := [(4, _), (3, _), (2, _), (0, _), (1, _)]) C kd_Jd_judgeRung_13 (by decide) rfl rfl ?_
  refine zk_iconst (v := 0) C kd_Jd_judgeRung_15 (by decide) rfl ?_
  refine zk_istore (lv' := [(5, _), (4, _), (3, _), (2, _), (0, _), (1, _)]) C kd_Jd_judgeRung_16 (by decide) rfl rfl ?_
  refine zk_lvs (lv' := [(0, .ref (S.1 38)), (1, .int x1), (2, .int 0), (3, .int (-1)), (4, .int (h.2.1 17 x1.toNatClampNeg)), (5, .int 0)]) [4, 5, 3, 2, 1, 0] rfl ?_
  exact zl_Jd_judgeRung_18 C hR zF h x1 0 (-1) (h.2.1 17 x1.toNatClampNeg) 0 e
