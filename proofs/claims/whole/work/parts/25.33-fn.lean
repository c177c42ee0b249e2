theorem kw161 : Jvm.Cond.fieldLink "PlantKeeper$Coder" (178 : Nat) "PlantKeeper$Tree" "type" "[B" ∈ zk_BW := zk_inT 161 (by decide +kernel) rfl
theorem kw174 : Jvm.Cond.fieldLink "PlantKeeper$Coder" (87 : Nat) "PlantKeeper$Tree" "next" "[I" ∈ zk_BW := zk_inT 174 (by decide +kernel) rfl
theorem kw178 : Jvm.Cond.fieldLink "PlantKeeper$Coder" (86 : Nat) "PlantKeeper$Tree" "size" "I" ∈ zk_BW := zk_inT 178 (by decide +kernel) rfl
theorem kw263 : Jvm.Cond.fieldLink "PlantKeeper$Coder" (150 : Nat) "PlantKeeper$Plan" "instanceOf" "[I" ∈ zk_BW := zk_inT 263 (by decide +kernel) rfl
theorem kw274 : Jvm.Cond.fieldLink "PlantKeeper$Coder" (141 : Nat) "PlantKeeper$Plan" "low" "[I" ∈ zk_BW := zk_inT 274 (by decide +kernel) rfl
theorem kw279 : Jvm.Cond.fieldLink "PlantKeeper$Coder" (144 : Nat) "PlantKeeper$Plan" "length" "[I" ∈ zk_BW := zk_inT 279 (by decide +kernel) rfl
theorem kw1288 : Jvm.Cond.instanceMethod ({ cls := "PlantKeeper$Coder", name := "codeAssignment", desc := "(I)V" } : Jvm.MethodName) ∈ zk_BW := zk_inT 1288 (by decide +kernel) rfl
theorem kw1289 : Jvm.Cond.code ({ cls := "PlantKeeper$Coder", name := "codeAssignment", desc := "(I)V" } : Jvm.MethodName) prog_3_method_6_code (4 : Nat) (Option.none : Option FieldType) ∈ zk_BW := zk_inT 1289 (by decide +kernel) rfl
theorem kw1290 : Jvm.Cond.methodLink "PlantKeeper$Coder" (138 : Nat) ({ cls := "PlantKeeper$Coder", name := "codeExpression", desc := "(II)V" } : Jvm.MethodName) ∈ zk_BW := zk_inT 1290 (by decide +kernel) rfl
theorem kw1292 : Jvm.Cond.instanceMethod ({ cls := "PlantKeeper$Coder", name := "codeExpression", desc := "(II)V" } : Jvm.MethodName) ∈ zk_BW := zk_inT 1292 (by decide +kernel) rfl
theorem kw1293 : Jvm.Cond.code ({ cls := "PlantKeeper$Coder", name := "codeExpression", desc := "(II)V" } : Jvm.MethodName) prog_3_method_13_code (5 : Nat) (Option.none : Option FieldType) ∈ zk_BW := zk_inT 1293 (by decide +kernel) rfl
theorem kw1294 : Jvm.Cond.methodLink "PlantKeeper$Coder" (181 : Nat) ({ cls := "PlantKeeper$Coder", name := "cellOf", desc := "(I)I" } : Jvm.MethodName) ∈ zk_BW := zk_inT 1294 (by decide +kernel) rfl
theorem kw1298 : Jvm.Cond.methodLink "PlantKeeper$Coder" (147 : Nat) ({ cls := "PlantKeeper$Code", name := "with", desc := "(II)V" } : Jvm.MethodName) ∈ zk_BW := zk_inT 1298 (by decide +kernel) rfl
theorem kw1302 : Jvm.Cond.methodLink "PlantKeeper$Coder" (184 : Nat) ({ cls := "PlantKeeper$Code", name := "operation", desc := "(II)I" } : Jvm.MethodName) ∈ zk_BW := zk_inT 1302 (by decide +kernel) rfl
theorem kw1303 : Jvm.Cond.methodLink "PlantKeeper$Coder" (187 : Nat) ({ cls := "PlantKeeper$Code", name := "turning", desc := "(ZI)I" } : Jvm.MethodName) ∈ zk_BW := zk_inT 1303 (by decide +kernel) rfl
theorem kw1304 : Jvm.Cond.methodLink "PlantKeeper$Coder" (191 : Nat) ({ cls := "PlantKeeper$Coder", name := "codeStandardCall", desc := "(II)V" } : Jvm.MethodName) ∈ zk_BW := zk_inT 1304 (by decide +kernel) rfl
theorem kw1306 : Jvm.Cond.instanceMethod ({ cls := "PlantKeeper$Coder", name := "codeStandardCall", desc := "(II)V" } : Jvm.MethodName) ∈ zk_BW := zk_inT 1306 (by decide +kernel) rfl
theorem kw1307 : Jvm.Cond.code ({ cls := "PlantKeeper$Coder", name := "codeStandardCall", desc := "(II)V" } : Jvm.MethodName) prog_3_method_14_code (6 : Nat) (Option.none : Option FieldType) ∈ zk_BW := zk_inT 1307 (by decide +kernel) rfl
theorem kw1308 : Jvm.Cond.fieldLink "PlantKeeper$Coder" (197 : Nat) "PlantKeeper$Code" "ARGUMENTS" "[I" ∈ zk_BW := zk_inT 1308 (by decide +kernel) rfl
theorem kw1309 : Jvm.Cond.methodLink "PlantKeeper$Coder" (200 : Nat) ({ cls := "PlantKeeper$Code", name := "standardKind", desc := "(II)I" } : Jvm.MethodName) ∈ zk_BW := zk_inT 1309 (by decide +kernel) rfl
theorem kw1310 : Jvm.Cond.methodLink "PlantKeeper$Coder" (194 : Nat) ({ cls := "PlantKeeper$Coder", name := "codeCall", desc := "(II)V" } : Jvm.MethodName) ∈ zk_BW := zk_inT 1310 (by decide +kernel) rfl
theorem kw1312 : Jvm.Cond.instanceMethod ({ cls := "PlantKeeper$Coder", name := "codeCall", desc := "(II)V" } : Jvm.MethodName) ∈ zk_BW := zk_inT 1312 (by decide +kernel) rfl
theorem kw1313 : Jvm.Cond.code ({ cls := "PlantKeeper$Coder", name := "codeCall", desc := "(II)V" } : Jvm.MethodName) prog_3_method_15_code (7 : Nat) (Option.none : Option FieldType) ∈ zk_BW := zk_inT 1313 (by decide +kernel) rfl
theorem kw1316 : Jvm.Cond.instanceMethod ({ cls := "PlantKeeper$Coder", name := "codeInvocation", desc := "(I)V" } : Jvm.MethodName) ∈ zk_BW := zk_inT 1316 (by decide +kernel) rfl
theorem kw1317 : Jvm.Cond.code ({ cls := "PlantKeeper$Coder", name := "codeInvocation", desc := "(I)V" } : Jvm.MethodName) prog_3_method_7_code (6 : Nat) (Option.none : Option FieldType) ∈ zk_BW := zk_inT 1317 (by decide +kernel) rfl
theorem kw1336 : Jvm.Cond.instanceMethod ({ cls := "PlantKeeper$Coder", name := "codeRanges", desc := "(II)I" } : Jvm.MethodName) ∈ zk_BW := zk_inT 1336 (by decide +kernel) rfl
theorem kw1337 : Jvm.Cond.code ({ cls := "PlantKeeper$Coder", name := "codeRanges", desc := "(II)I" } : Jvm.MethodName) prog_3_method_11_code (7 : Nat) (Option.some FieldType.int) ∈ zk_BW := zk_inT 1337 (by decide +kernel) rfl
abbrev kc_Cr_codeAssignment : ByteArray := prog_3_method_6_code
def km_Cr_codeAssignment : zk_MT := (⟨"PlantKeeper$Coder", "codeAssignment", "(I)V"⟩, kc_Cr_codeAssignment, 4, none, 1)
theorem ku_Cr_codeAssignment : zk_My km_Cr_codeAssignment := ⟨kw1289, kw13, by decide, by decide, by decide, by decide +kernel⟩
theorem kv_Cr_codeAssignment : zk_Mv km_Cr_codeAssignment := ⟨kw1288, zk_inS 86 (q := (⟨"PlantKeeper$Coder", "codeAssignment", "(I)V"⟩, 12)) (by decide +kernel)⟩
abbrev kc_Cr_codeCall : ByteArray := prog_3_method_15_code
def km_Cr_codeCall : zk_MT := (⟨"PlantKeeper$Coder", "codeCall", "(II)V"⟩, kc_Cr_codeCall, 7, none, 2)
theorem ku_Cr_codeCall : zk_My km_Cr_codeCall := ⟨kw1313, kw13, by decide, by decide, by decide, by decide +kernel⟩
theorem kv_Cr_codeCall : zk_Mv km_Cr_codeCall := ⟨kw1312, zk_inS 90 (q := (⟨"PlantKeeper$Coder", "codeCall", "(II)V"⟩, 12)) (by decide +kernel)⟩
abbrev kc_Cr_codeExpression : ByteArray := prog_3_method_13_code
def km_Cr_codeExpression : zk_MT := (⟨"PlantKeeper$Coder", "codeExpression", "(II)V"⟩, kc_Cr_codeExpression, 5, none, 2)
theorem ku_Cr_codeExpression : zk_My km_Cr_codeExpression := ⟨kw1293, kw13, by decide, by decide, by decide, by decide +kernel⟩
theorem kv_Cr_codeExpression : zk_Mv km_Cr_codeExpression := ⟨kw1292, zk_inS 87 (q := (⟨"PlantKeeper$Coder", "codeExpression", "(II)V"⟩, 12)) (by decide +kernel)⟩
abbrev kc_Cr_codeInvocation : ByteArray := prog_3_method_7_code
def km_Cr_codeInvocation : zk_MT := (⟨"PlantKeeper$Coder", "codeInvocation", "(I)V"⟩, kc_Cr_codeInvocation, 6, none, 1)
theorem ku_Cr_codeInvocation : zk_My km_Cr_codeInvocation := ⟨kw1317, kw13, by decide, by decide, by decide, by decide +kernel⟩
theorem kv_Cr_codeInvocation : zk_Mv km_Cr_codeInvocation := ⟨kw1316, zk_inS 91 (q := (⟨"PlantKeeper$Coder", "codeInvocation", "(I)V"⟩, 12)) (by decide +kernel)⟩
abbrev kc_Cr_codeRanges : ByteArray := prog_3_method_11_code
def km_Cr_codeRanges : zk_MT := (⟨"PlantKeeper$Coder", "codeRanges", "(II)I"⟩, kc_Cr_codeRanges, 7, some .int, 2)
theorem ku_Cr_codeRanges : zk_My km_Cr_codeRanges := ⟨kw1337, kw13, by decide, by decide, by decide, by decide +kernel⟩
theorem kv_Cr_codeRanges : zk_Mv km_Cr_codeRanges := ⟨kw1336, zk_inS 95 (q := (⟨"PlantKeeper$Coder", "codeRanges", "(II)I"⟩, 12)) (by decide +kernel)⟩
abbrev kc_Cr_codeStandardCall : ByteArray := prog_3_method_14_code
def km_Cr_codeStandardCall : zk_MT := (⟨"PlantKeeper$Coder", "codeStandardCall", "(II)V"⟩, kc_Cr_codeStandardCall, 6, none, 2)
theorem ku_Cr_codeStandardCall : zk_My km_Cr_codeStandardCall := ⟨kw1307, kw13, by decide, by decide, by decide, by decide +kernel⟩
theorem kv_Cr_codeStandardCall : zk_Mv km_Cr_codeStandardCall := ⟨kw1306, zk_inS 89 (q := (⟨"PlantKeeper$Coder", "codeStandardCall", "(II)V"⟩, 12)) (by decide +kernel)⟩
theorem kd_Cr_codeAssignment_0 : decode kc_Cr_codeAssignment 0 = .ok (.aload_n 0, 1) := by decide +kernel
theorem kd_Cr_codeAssignment_1 : decode kc_Cr_codeAssignment 1 = .ok (.getfield 9, 3) := by decide +kernel
theorem kd_Cr_codeAssignment_4 : decode kc_Cr_codeAssignment 4 = .ok (.getfield 80, 3) := by decide +kernel
theorem kd_Cr_codeAssignment_7 : decode kc_Cr_codeAssignment 7 = .ok (.iload_n 1, 1) := by decide +kernel
theorem kd_Cr_codeAssignment_8 : decode kc_Cr_codeAssignment 8 = .ok (.iaload, 1) := by decide +kernel
theorem kd_Cr_codeAssignment_9 : decode kc_Cr_codeAssignment 9 = .ok (.istore_n 2, 1) := by decide +kernel
theorem kd_Cr_codeAssignment_10 : decode kc_Cr_codeAssignment 10 = .ok (.aload_n 0, 1) := by decide +kernel
theorem kd_Cr_codeAssignment_11 : decode kc_Cr_codeAssignment 11 = .ok (.getfield 9, 3) := by decide +kernel
theorem kd_Cr_codeAssignment_14 : decode kc_Cr_codeAssignment 14 = .ok (.getfield 135, 3) := by decide +kernel
theorem kd_Cr_codeAssignment_17 : decode kc_Cr_codeAssignment 17 = .ok (.iload_n 2, 1) := by decide +kernel
theorem kd_Cr_codeAssignment_18 : decode kc_Cr_codeAssignment 18 = .ok (.iaload, 1) := by decide +kernel
theorem kd_Cr_codeAssignment_19 : decode kc_Cr_codeAssignment 19 = .ok (.istore_n 3, 1) := by decide +kernel
theorem kd_Cr_codeAssignment_20 : decode kc_Cr_codeAssignment 20 = .ok (.aload_n 0, 1) := by decide +kernel
theorem kd_Cr_codeAssignment_21 : decode kc_Cr_codeAssignment 21 = .ok (.getfield 9, 3) := by decide +kernel
theorem kd_Cr_codeAssignment_24 : decode kc_Cr_codeAssignment 24 = .ok (.getfield 90, 3) := by decide +kernel
theorem kd_Cr_codeAssignment_27 : decode kc_Cr_codeAssignment 27 = .ok (.iload_n 2, 1) := by decide +kernel
theorem kd_Cr_codeAssignment_28 : decode kc_Cr_codeAssignment 28 = .ok (.baload, 1) := by decide +kernel
theorem kd_Cr_codeAssignment_29 : decode kc_Cr_codeAssignment 29 = .ok (.bipush 6, 2) := by decide +kernel
theorem kd_Cr_codeAssignment_31 : decode kc_Cr_codeAssignment 31 = .ok (.if_icmp .ne 38, 3) := by decide +kernel
theorem kd_Cr_codeAssignment_34 : decode kc_Cr_codeAssignment 34 = .ok (.aload_n 0, 1) := by decide +kernel
theorem kd_Cr_codeAssignment_35 : decode kc_Cr_codeAssignment 35 = .ok (.aload_n 0, 1) := by decide +kernel
theorem kd_Cr_codeAssignment_36 : decode kc_Cr_codeAssignment 36 = .ok (.getfield 9, 3) := by decide +kernel
theorem kd_Cr_codeAssignment_39 : decode kc_Cr_codeAssignment 39 = .ok (.getfield 87, 3) := by decide +kernel
theorem kd_Cr_codeAssignment_42 : decode kc_Cr_codeAssignment 42 = .ok (.iload_n 2, 1) := by decide +kernel
theorem kd_Cr_codeAssignment_43 : decode kc_Cr_codeAssignment 43 = .ok (.iaload, 1) := by decide +kernel
theorem kd_Cr_codeAssignment_44 : decode kc_Cr_codeAssignment 44 = .ok (.iconst 0, 1) := by decide +kernel
theorem kd_Cr_codeAssignment_45 : decode kc_Cr_codeAssignment 45 = .ok (.invokevirtual 138, 3) := by decide +kernel
theorem kd_Cr_codeAssignment_48 : decode kc_Cr_codeAssignment 48 = .ok (.aload_n 0, 1) := by decide +kernel
theorem kd_Cr_codeAssignment_49 : decode kc_Cr_codeAssignment 49 = .ok (.getfield 19, 3) := by decide +kernel
theorem kd_Cr_codeAssignment_52 : decode kc_Cr_codeAssignment 52 = .ok (.iconst 2, 1) := by decide +kernel
theorem kd_Cr_codeAssignment_53 : decode kc_Cr_codeAssignment 53 = .ok (.aload_n 0, 1) := by decide +kernel
theorem kd_Cr_codeAssignment_54 : decode kc_Cr_codeAssignment 54 = .ok (.getfield 15, 3) := by decide +kernel
theorem kd_Cr_codeAssignment_57 : decode kc_Cr_codeAssignment 57 = .ok (.getfield 117, 3) := by decide +kernel
theorem kd_Cr_codeAssignment_60 : decode kc_Cr_codeAssignment 60 = .ok (.iload_n 3, 1) := by decide +kernel
theorem kd_Cr_codeAssignment_61 : decode kc_Cr_codeAssignment 61 = .ok (.iaload, 1) := by decide +kernel
theorem kd_Cr_codeAssignment_62 : decode kc_Cr_codeAssignment 62 = .ok (.invokevirtual 101, 3) := by decide +kernel
theorem kd_Cr_codeAssignment_65 : decode kc_Cr_codeAssignment 65 = .ok (.pop, 1) := by decide +kernel
theorem kd_Cr_codeAssignment_66 : decode kc_Cr_codeAssignment 66 = .ok (.goto 74, 3) := by decide +kernel
theorem kd_Cr_codeAssignment_69 : decode kc_Cr_codeAssignment 69 = .ok (.aload_n 0, 1) := by decide +kernel
theorem kd_Cr_codeAssignment_70 : decode kc_Cr_codeAssignment 70 = .ok (.aload_n 0, 1) := by decide +kernel
theorem kd_Cr_codeAssignment_71 : decode kc_Cr_codeAssignment 71 = .ok (.getfield 9, 3) := by decide +kernel
theorem kd_Cr_codeAssignment_74 : decode kc_Cr_codeAssignment 74 = .ok (.getfield 80, 3) := by decide +kernel
theorem kd_Cr_codeAssignment_77 : decode kc_Cr_codeAssignment 77 = .ok (.iload_n 2, 1) := by decide +kernel
theorem kd_Cr_codeAssignment_78 : decode kc_Cr_codeAssignment 78 = .ok (.iaload, 1) := by decide +kernel
theorem kd_Cr_codeAssignment_79 : decode kc_Cr_codeAssignment 79 = .ok (.iconst 0, 1) := by decide +kernel
theorem kd_Cr_codeAssignment_80 : decode kc_Cr_codeAssignment 80 = .ok (.invokevirtual 138, 3) := by decide +kernel
theorem kd_Cr_codeAssignment_83 : decode kc_Cr_codeAssignment 83 = .ok (.aload_n 0, 1) := by decide +kernel
theorem kd_Cr_codeAssignment_84 : decode kc_Cr_codeAssignment 84 = .ok (.aload_n 0, 1) := by decide +kernel
theorem kd_Cr_codeAssignment_85 : decode kc_Cr_codeAssignment 85 = .ok (.getfield 9, 3) := by decide +kernel
theorem kd_Cr_codeAssignment_88 : decode kc_Cr_codeAssignment 88 = .ok (.getfield 87, 3) := by decide +kernel
theorem kd_Cr_codeAssignment_91 : decode kc_Cr_codeAssignment 91 = .ok (.iload_n 2, 1) := by decide +kernel
theorem kd_Cr_codeAssignment_92 : decode kc_Cr_codeAssignment 92 = .ok (.iaload, 1) := by decide +kernel
theorem kd_Cr_codeAssignment_93 : decode kc_Cr_codeAssignment 93 = .ok (.iconst 0, 1) := by decide +kernel
theorem kd_Cr_codeAssignment_94 : decode kc_Cr_codeAssignment 94 = .ok (.invokevirtual 138, 3) := by decide +kernel
theorem kd_Cr_codeAssignment_97 : decode kc_Cr_codeAssignment 97 = .ok (.aload_n 0, 1) := by decide +kernel
theorem kd_Cr_codeAssignment_98 : decode kc_Cr_codeAssignment 98 = .ok (.getfield 19, 3) := by decide +kernel
theorem kd_Cr_codeAssignment_101 : decode kc_Cr_codeAssignment 101 = .ok (.iconst 4, 1) := by decide +kernel
theorem kd_Cr_codeAssignment_102 : decode kc_Cr_codeAssignment 102 = .ok (.aload_n 0, 1) := by decide +kernel
theorem kd_Cr_codeAssignment_103 : decode kc_Cr_codeAssignment 103 = .ok (.getfield 15, 3) := by decide +kernel
theorem kd_Cr_codeAssignment_106 : decode kc_Cr_codeAssignment 106 = .ok (.getfield 117, 3) := by decide +kernel
theorem kd_Cr_codeAssignment_109 : decode kc_Cr_codeAssignment 109 = .ok (.iload_n 3, 1) := by decide +kernel
theorem kd_Cr_codeAssignment_110 : decode kc_Cr_codeAssignment 110 = .ok (.iaload, 1) := by decide +kernel
theorem kd_Cr_codeAssignment_111 : decode kc_Cr_codeAssignment 111 = .ok (.invokevirtual 101, 3) := by decide +kernel
theorem kd_Cr_codeAssignment_114 : decode kc_Cr_codeAssignment 114 = .ok (.pop, 1) := by decide +kernel
theorem kd_Cr_codeAssignment_115 : decode kc_Cr_codeAssignment 115 = .ok (.aload_n 0, 1) := by decide +kernel
theorem kd_Cr_codeAssignment_116 : decode kc_Cr_codeAssignment 116 = .ok (.getfield 19, 3) := by decide +kernel
theorem kd_Cr_codeAssignment_119 : decode kc_Cr_codeAssignment 119 = .ok (.aload_n 0, 1) := by decide +kernel
theorem kd_Cr_codeAssignment_120 : decode kc_Cr_codeAssignment 120 = .ok (.getfield 15, 3) := by decide +kernel
theorem kd_Cr_codeAssignment_123 : decode kc_Cr_codeAssignment 123 = .ok (.getfield 141, 3) := by decide +kernel
theorem kd_Cr_codeAssignment_126 : decode kc_Cr_codeAssignment 126 = .ok (.iload_n 3, 1) := by decide +kernel
theorem kd_Cr_codeAssignment_127 : decode kc_Cr_codeAssignment 127 = .ok (.iaload, 1) := by decide +kernel
theorem kd_Cr_codeAssignment_128 : decode kc_Cr_codeAssignment 128 = .ok (.aload_n 0, 1) := by decide +kernel
theorem kd_Cr_codeAssignment_129 : decode kc_Cr_codeAssignment 129 = .ok (.getfield 15, 3) := by decide +kernel
theorem kd_Cr_codeAssignment_132 : decode kc_Cr_codeAssignment 132 = .ok (.getfield 144, 3) := by decide +kernel
theorem kd_Cr_codeAssignment_135 : decode kc_Cr_codeAssignment 135 = .ok (.iload_n 3, 1) := by decide +kernel
theorem kd_Cr_codeAssignment_136 : decode kc_Cr_codeAssignment 136 = .ok (.iaload, 1) := by decide +kernel
theorem kd_Cr_codeAssignment_137 : decode kc_Cr_codeAssignment 137 = .ok (.invokevirtual 147, 3) := by decide +kernel
theorem kd_Cr_codeAssignment_140 : decode kc_Cr_codeAssignment 140 = .ok (.return_, 1) := by decide +kernel
theorem kd_Cr_codeCall_0 : decode kc_Cr_codeCall 0 = .ok (.aload_n 0, 1) := by decide +kernel
theorem kd_Cr_codeCall_1 : decode kc_Cr_codeCall 1 = .ok (.getfield 9, 3) := by decide +kernel
theorem kd_Cr_codeCall_4 : decode kc_Cr_codeCall 4 = .ok (.getfield 135, 3) := by decide +kernel
theorem kd_Cr_codeCall_7 : decode kc_Cr_codeCall 7 = .ok (.iload_n 1, 1) := by decide +kernel
theorem kd_Cr_codeCall_8 : decode kc_Cr_codeCall 8 = .ok (.iaload, 1) := by decide +kernel
theorem kd_Cr_codeCall_9 : decode kc_Cr_codeCall 9 = .ok (.istore_n 3, 1) := by decide +kernel
theorem kd_Cr_codeCall_10 : decode kc_Cr_codeCall 10 = .ok (.iload_n 3, 1) := by decide +kernel
theorem kd_Cr_codeCall_11 : decode kc_Cr_codeCall 11 = .ok (.bipush 9, 2) := by decide +kernel
theorem kd_Cr_codeCall_13 : decode kc_Cr_codeCall 13 = .ok (.isub, 1) := by decide +kernel
theorem kd_Cr_codeCall_14 : decode kc_Cr_codeCall 14 = .ok (.istore 4, 2) := by decide +kernel
theorem kd_Cr_codeCall_16 : decode kc_Cr_codeCall 16 = .ok (.aload_n 0, 1) := by decide +kernel
theorem kd_Cr_codeCall_17 : decode kc_Cr_codeCall 17 = .ok (.getfield 9, 3) := by decide +kernel
theorem kd_Cr_codeCall_20 : decode kc_Cr_codeCall 20 = .ok (.getfield 80, 3) := by decide +kernel
theorem kd_Cr_codeCall_23 : decode kc_Cr_codeCall 23 = .ok (.iload_n 1, 1) := by decide +kernel
theorem kd_Cr_codeCall_24 : decode kc_Cr_codeCall 24 = .ok (.iaload, 1) := by decide +kernel
theorem kd_Cr_codeCall_25 : decode kc_Cr_codeCall 25 = .ok (.istore 5, 2) := by decide +kernel
theorem kd_Cr_codeCall_27 : decode kc_Cr_codeCall 27 = .ok (.iconst 0, 1) := by decide +kernel
theorem kd_Cr_codeCall_28 : decode kc_Cr_codeCall 28 = .ok (.istore 6, 2) := by decide +kernel
theorem kd_Cr_codeCall_30 : decode kc_Cr_codeCall 30 = .ok (.iload 6, 2) := by decide +kernel
theorem kd_Cr_codeCall_32 : decode kc_Cr_codeCall 32 = .ok (.aload_n 0, 1) := by decide +kernel
theorem kd_Cr_codeCall_33 : decode kc_Cr_codeCall 33 = .ok (.getfield 9, 3) := by decide +kernel
theorem kd_Cr_codeCall_36 : decode kc_Cr_codeCall 36 = .ok (.getfield 86, 3) := by decide +kernel
theorem kd_Cr_codeCall_39 : decode kc_Cr_codeCall 39 = .ok (.if_icmp .ge 36, 3) := by decide +kernel
theorem kd_Cr_codeCall_42 : decode kc_Cr_codeCall 42 = .ok (.iload 5, 2) := by decide +kernel
theorem kd_Cr_codeCall_44 : decode kc_Cr_codeCall 44 = .ok (.iconst (-1), 1) := by decide +kernel
theorem kd_Cr_codeCall_45 : decode kc_Cr_codeCall 45 = .ok (.if_icmp .eq 30, 3) := by decide +kernel
theorem kd_Cr_codeCall_48 : decode kc_Cr_codeCall 48 = .ok (.aload_n 0, 1) := by decide +kernel
theorem kd_Cr_codeCall_49 : decode kc_Cr_codeCall 49 = .ok (.iload 5, 2) := by decide +kernel
theorem kd_Cr_codeCall_51 : decode kc_Cr_codeCall 51 = .ok (.iload_n 2, 1) := by decide +kernel
theorem kd_Cr_codeCall_52 : decode kc_Cr_codeCall 52 = .ok (.iconst 1, 1) := by decide +kernel
theorem kd_Cr_codeCall_53 : decode kc_Cr_codeCall 53 = .ok (.iadd, 1) := by decide +kernel
theorem kd_Cr_codeCall_54 : decode kc_Cr_codeCall 54 = .ok (.invokevirtual 138, 3) := by decide +kernel
theorem kd_Cr_codeCall_57 : decode kc_Cr_codeCall 57 = .ok (.aload_n 0, 1) := by decide +kernel
theorem kd_Cr_codeCall_58 : decode kc_Cr_codeCall 58 = .ok (.getfield 9, 3) := by decide +kernel
theorem kd_Cr_codeCall_61 : decode kc_Cr_codeCall 61 = .ok (.getfield 87, 3) := by decide +kernel
theorem kd_Cr_codeCall_64 : decode kc_Cr_codeCall 64 = .ok (.iload 5, 2) := by decide +kernel
theorem kd_Cr_codeCall_66 : decode kc_Cr_codeCall 66 = .ok (.iaload, 1) := by decide +kernel
theorem kd_Cr_codeCall_67 : decode kc_Cr_codeCall 67 = .ok (.istore 5, 2) := by decide +kernel
theorem kd_Cr_codeCall_69 : decode kc_Cr_codeCall 69 = .ok (.iinc 6 1, 3) := by decide +kernel
theorem kd_Cr_codeCall_72 : decode kc_Cr_codeCall 72 = .ok (.goto (-42), 3) := by decide +kernel
theorem kd_Cr_codeCall_75 : decode kc_Cr_codeCall 75 = .ok (.aload_n 0, 1) := by decide +kernel
theorem kd_Cr_codeCall_76 : decode kc_Cr_codeCall 76 = .ok (.getfield 15, 3) := by decide +kernel
theorem kd_Cr_codeCall_79 : decode kc_Cr_codeCall 79 = .ok (.getfield 108, 3) := by decide +kernel
theorem kd_Cr_codeCall_82 : decode kc_Cr_codeCall 82 = .ok (.iload_n 3, 1) := by decide +kernel
theorem kd_Cr_codeCall_83 : decode kc_Cr_codeCall 83 = .ok (.iaload, 1) := by decide +kernel
theorem kd_Cr_codeCall_84 : decode kc_Cr_codeCall 84 = .ok (.iconst 1, 1) := by decide +kernel
theorem kd_Cr_codeCall_85 : decode kc_Cr_codeCall 85 = .ok (.isub, 1) := by decide +kernel
theorem kd_Cr_codeCall_86 : decode kc_Cr_codeCall 86 = .ok (.istore 6, 2) := by decide +kernel
theorem kd_Cr_codeCall_88 : decode kc_Cr_codeCall 88 = .ok (.iload 6, 2) := by decide +kernel
theorem kd_Cr_codeCall_90 : decode kc_Cr_codeCall 90 = .ok (.aload_n 0, 1) := by decide +kernel
theorem kd_Cr_codeCall_91 : decode kc_Cr_codeCall 91 = .ok (.getfield 15, 3) := by decide +kernel
theorem kd_Cr_codeCall_94 : decode kc_Cr_codeCall 94 = .ok (.getfield 105, 3) := by decide +kernel
theorem kd_Cr_codeCall_97 : decode kc_Cr_codeCall 97 = .ok (.iload_n 3, 1) := by decide +kernel
theorem kd_Cr_codeCall_98 : decode kc_Cr_codeCall 98 = .ok (.iaload, 1) := by decide +kernel
theorem kd_Cr_codeCall_99 : decode kc_Cr_codeCall 99 = .ok (.if_icmp .lt 53, 3) := by decide +kernel
theorem kd_Cr_codeCall_102 : decode kc_Cr_codeCall 102 = .ok (.aload_n 0, 1) := by decide +kernel
theorem kd_Cr_codeCall_103 : decode kc_Cr_codeCall 103 = .ok (.getfield 15, 3) := by decide +kernel
theorem kd_Cr_codeCall_106 : decode kc_Cr_codeCall 106 = .ok (.getfield 111, 3) := by decide +kernel
theorem kd_Cr_codeCall_109 : decode kc_Cr_codeCall 109 = .ok (.iload 6, 2) := by decide +kernel
theorem kd_Cr_codeCall_111 : decode kc_Cr_codeCall 111 = .ok (.iaload, 1) := by decide +kernel
theorem kd_Cr_codeCall_112 : decode kc_Cr_codeCall 112 = .ok (.iconst 1, 1) := by decide +kernel
theorem kd_Cr_codeCall_113 : decode kc_Cr_codeCall 113 = .ok (.if_icmp .ne 33, 3) := by decide +kernel
theorem kd_Cr_codeCall_116 : decode kc_Cr_codeCall 116 = .ok (.aload_n 0, 1) := by decide +kernel
theorem kd_Cr_codeCall_117 : decode kc_Cr_codeCall 117 = .ok (.getfield 19, 3) := by decide +kernel
theorem kd_Cr_codeCall_120 : decode kc_Cr_codeCall 120 = .ok (.bipush 6, 2) := by decide +kernel
theorem kd_Cr_codeCall_122 : decode kc_Cr_codeCall 122 = .ok (.iload 4, 2) := by decide +kernel
theorem kd_Cr_codeCall_124 : decode kc_Cr_codeCall 124 = .ok (.invokevirtual 101, 3) := by decide +kernel
theorem kd_Cr_codeCall_127 : decode kc_Cr_codeCall 127 = .ok (.pop, 1) := by decide +kernel
theorem kd_Cr_codeCall_128 : decode kc_Cr_codeCall 128 = .ok (.aload_n 0, 1) := by decide +kernel
theorem kd_Cr_codeCall_129 : decode kc_Cr_codeCall 129 = .ok (.getfield 19, 3) := by decide +kernel
theorem kd_Cr_codeCall_132 : decode kc_Cr_codeCall 132 = .ok (.aload_n 0, 1) := by decide +kernel
theorem kd_Cr_codeCall_133 : decode kc_Cr_codeCall 133 = .ok (.getfield 15, 3) := by decide +kernel
theorem kd_Cr_codeCall_136 : decode kc_Cr_codeCall 136 = .ok (.getfield 117, 3) := by decide +kernel
theorem kd_Cr_codeCall_139 : decode kc_Cr_codeCall 139 = .ok (.iload 6, 2) := by decide +kernel
theorem kd_Cr_codeCall_141 : decode kc_Cr_codeCall 141 = .ok (.iaload, 1) := by decide +kernel
theorem kd_Cr_codeCall_142 : decode kc_Cr_codeCall 142 = .ok (.iconst 0, 1) := by decide +kernel
theorem kd_Cr_codeCall_143 : decode kc_Cr_codeCall 143 = .ok (.invokevirtual 147, 3) := by decide +kernel
theorem kd_Cr_codeCall_146 : decode kc_Cr_codeCall 146 = .ok (.iinc 6 (-1), 3) := by decide +kernel
theorem kd_Cr_codeCall_149 : decode kc_Cr_codeCall 149 = .ok (.goto (-61), 3) := by decide +kernel
theorem kd_Cr_codeCall_152 : decode kc_Cr_codeCall 152 = .ok (.aload_n 0, 1) := by decide +kernel
theorem kd_Cr_codeCall_153 : decode kc_Cr_codeCall 153 = .ok (.getfield 19, 3) := by decide +kernel
theorem kd_Cr_codeCall_156 : decode kc_Cr_codeCall 156 = .ok (.bipush 16, 2) := by decide +kernel
theorem kd_Cr_codeCall_158 : decode kc_Cr_codeCall 158 = .ok (.iload 4, 2) := by decide +kernel
theorem kd_Cr_codeCall_160 : decode kc_Cr_codeCall 160 = .ok (.invokevirtual 101, 3) := by decide +kernel
theorem kd_Cr_codeCall_163 : decode kc_Cr_codeCall 163 = .ok (.pop, 1) := by decide +kernel
theorem kd_Cr_codeCall_164 : decode kc_Cr_codeCall 164 = .ok (.aload_n 0, 1) := by decide +kernel
theorem kd_Cr_codeCall_165 : decode kc_Cr_codeCall 165 = .ok (.getfield 19, 3) := by decide +kernel
theorem kd_Cr_codeCall_168 : decode kc_Cr_codeCall 168 = .ok (.iconst 5, 1) := by decide +kernel
theorem kd_Cr_codeCall_169 : decode kc_Cr_codeCall 169 = .ok (.iload 4, 2) := by decide +kernel
theorem kd_Cr_codeCall_171 : decode kc_Cr_codeCall 171 = .ok (.invokevirtual 101, 3) := by decide +kernel
theorem kd_Cr_codeCall_174 : decode kc_Cr_codeCall 174 = .ok (.pop, 1) := by decide +kernel
theorem kd_Cr_codeCall_175 : decode kc_Cr_codeCall 175 = .ok (.return_, 1) := by decide +kernel
theorem kd_Cr_codeExpression_0 : decode kc_Cr_codeExpression 0 = .ok (.iload_n 2, 1) := by decide +kernel
theorem kd_Cr_codeExpression_1 : decode kc_Cr_codeExpression 1 = .ok (.sipush 240, 3) := by decide +kernel
theorem kd_Cr_codeExpression_4 : decode kc_Cr_codeExpression 4 = .ok (.if_icmp .le 4, 3) := by decide +kernel
theorem kd_Cr_codeExpression_7 : decode kc_Cr_codeExpression 7 = .ok (.return_, 1) := by decide +kernel
theorem kd_Cr_codeExpression_8 : decode kc_Cr_codeExpression 8 = .ok (.aload_n 0, 1) := by decide +kernel
theorem kd_Cr_codeExpression_9 : decode kc_Cr_codeExpression 9 = .ok (.getfield 9, 3) := by decide +kernel
theorem kd_Cr_codeExpression_12 : decode kc_Cr_codeExpression 12 = .ok (.getfield 135, 3) := by decide +kernel
theorem kd_Cr_codeExpression_15 : decode kc_Cr_codeExpression 15 = .ok (.iload_n 1, 1) := by decide +kernel
theorem kd_Cr_codeExpression_16 : decode kc_Cr_codeExpression 16 = .ok (.iaload, 1) := by decide +kernel
theorem kd_Cr_codeExpression_17 : decode kc_Cr_codeExpression 17 = .ok (.istore_n 3, 1) := by decide +kernel
theorem kd_Cr_codeExpression_18 : decode kc_Cr_codeExpression 18 = .ok (.aload_n 0, 1) := by decide +kernel
theorem kd_Cr_codeExpression_19 : decode kc_Cr_codeExpression 19 = .ok (.getfield 9, 3) := by decide +kernel
theorem kd_Cr_codeExpression_22 : decode kc_Cr_codeExpression 22 = .ok (.getfield 80, 3) := by decide +kernel
theorem kd_Cr_codeExpression_25 : decode kc_Cr_codeExpression 25 = .ok (.iload_n 1, 1) := by decide +kernel
theorem kd_Cr_codeExpression_26 : decode kc_Cr_codeExpression 26 = .ok (.iaload, 1) := by decide +kernel
theorem kd_Cr_codeExpression_27 : decode kc_Cr_codeExpression 27 = .ok (.istore 4, 2) := by decide +kernel
theorem kd_Cr_codeExpression_29 : decode kc_Cr_codeExpression 29 = .ok (.aload_n 0, 1) := by decide +kernel
theorem kd_Cr_codeExpression_30 : decode kc_Cr_codeExpression 30 = .ok (.getfield 9, 3) := by decide +kernel
theorem kd_Cr_codeExpression_33 : decode kc_Cr_codeExpression 33 = .ok (.getfield 90, 3) := by decide +kernel
theorem kd_Cr_codeExpression_36 : decode kc_Cr_codeExpression 36 = .ok (.iload_n 1, 1) := by decide +kernel
theorem kd_Cr_codeExpression_37 : decode kc_Cr_codeExpression 37 = .ok (.baload, 1) := by decide +kernel
theorem kd_Cr_codeExpression_38 : decode kc_Cr_codeExpression 38 = .ok (.lookupswitch 251 #[(6, 66), (32, 83), (33, 66), (34, 242), (35, 138), (36, 190), (39, 233)], 66) := by decide +kernel
theorem kd_Cr_codeExpression_104 : decode kc_Cr_codeExpression 104 = .ok (.aload_n 0, 1) := by decide +kernel
theorem kd_Cr_codeExpression_105 : decode kc_Cr_codeExpression 105 = .ok (.getfield 19, 3) := by decide +kernel
theorem kd_Cr_codeExpression_108 : decode kc_Cr_codeExpression 108 = .ok (.iconst 1, 1) := by decide +kernel
theorem kd_Cr_codeExpression_109 : decode kc_Cr_codeExpression 109 = .ok (.aload_n 0, 1) := by decide +kernel
theorem kd_Cr_codeExpression_110 : decode kc_Cr_codeExpression 110 = .ok (.iload_n 1, 1) := by decide +kernel
theorem kd_Cr_codeExpression_111 : decode kc_Cr_codeExpression 111 = .ok (.invokevirtual 181, 3) := by decide +kernel
theorem kd_Cr_codeExpression_114 : decode kc_Cr_codeExpression 114 = .ok (.invokevirtual 101, 3) := by decide +kernel
theorem kd_Cr_codeExpression_117 : decode kc_Cr_codeExpression 117 = .ok (.pop, 1) := by decide +kernel
theorem kd_Cr_codeExpression_118 : decode kc_Cr_codeExpression 118 = .ok (.goto 181, 3) := by decide +kernel
theorem kd_Cr_codeExpression_121 : decode kc_Cr_codeExpression 121 = .ok (.aload_n 0, 1) := by decide +kernel
theorem kd_Cr_codeExpression_122 : decode kc_Cr_codeExpression 122 = .ok (.iload 4, 2) := by decide +kernel
theorem kd_Cr_codeExpression_124 : decode kc_Cr_codeExpression 124 = .ok (.iload_n 2, 1) := by decide +kernel
theorem kd_Cr_codeExpression_125 : decode kc_Cr_codeExpression 125 = .ok (.iconst 1, 1) := by decide +kernel
theorem kd_Cr_codeExpression_126 : decode kc_Cr_codeExpression 126 = .ok (.iadd, 1) := by decide +kernel
theorem kd_Cr_codeExpression_127 : decode kc_Cr_codeExpression 127 = .ok (.invokevirtual 138, 3) := by decide +kernel
theorem kd_Cr_codeExpression_130 : decode kc_Cr_codeExpression 130 = .ok (.aload_n 0, 1) := by decide +kernel
theorem kd_Cr_codeExpression_131 : decode kc_Cr_codeExpression 131 = .ok (.getfield 19, 3) := by decide +kernel
theorem kd_Cr_codeExpression_134 : decode kc_Cr_codeExpression 134 = .ok (.iconst 3, 1) := by decide +kernel
theorem kd_Cr_codeExpression_135 : decode kc_Cr_codeExpression 135 = .ok (.aload_n 0, 1) := by decide +kernel
theorem kd_Cr_codeExpression_136 : decode kc_Cr_codeExpression 136 = .ok (.getfield 15, 3) := by decide +kernel
theorem kd_Cr_codeExpression_139 : decode kc_Cr_codeExpression 139 = .ok (.getfield 117, 3) := by decide +kernel
theorem kd_Cr_codeExpression_142 : decode kc_Cr_codeExpression 142 = .ok (.iload_n 3, 1) := by decide +kernel
theorem kd_Cr_codeExpression_143 : decode kc_Cr_codeExpression 143 = .ok (.iaload, 1) := by decide +kernel
theorem kd_Cr_codeExpression_144 : decode kc_Cr_codeExpression 144 = .ok (.invokevirtual 101, 3) := by decide +kernel
theorem kd_Cr_codeExpression_147 : decode kc_Cr_codeExpression 147 = .ok (.pop, 1) := by decide +kernel
theorem kd_Cr_codeExpression_148 : decode kc_Cr_codeExpression 148 = .ok (.aload_n 0, 1) := by decide +kernel
theorem kd_Cr_codeExpression_149 : decode kc_Cr_codeExpression 149 = .ok (.getfield 19, 3) := by decide +kernel
theorem kd_Cr_codeExpression_152 : decode kc_Cr_codeExpression 152 = .ok (.aload_n 0, 1) := by decide +kernel
theorem kd_Cr_codeExpression_153 : decode kc_Cr_codeExpression 153 = .ok (.getfield 15, 3) := by decide +kernel
theorem kd_Cr_codeExpression_156 : decode kc_Cr_codeExpression 156 = .ok (.getfield 141, 3) := by decide +kernel
theorem kd_Cr_codeExpression_159 : decode kc_Cr_codeExpression 159 = .ok (.iload_n 3, 1) := by decide +kernel
theorem kd_Cr_codeExpression_160 : decode kc_Cr_codeExpression 160 = .ok (.iaload, 1) := by decide +kernel
theorem kd_Cr_codeExpression_161 : decode kc_Cr_codeExpression 161 = .ok (.aload_n 0, 1) := by decide +kernel
theorem kd_Cr_codeExpression_162 : decode kc_Cr_codeExpression 162 = .ok (.getfield 15, 3) := by decide +kernel
theorem kd_Cr_codeExpression_165 : decode kc_Cr_codeExpression 165 = .ok (.getfield 144, 3) := by decide +kernel
theorem kd_Cr_codeExpression_168 : decode kc_Cr_codeExpression 168 = .ok (.iload_n 3, 1) := by decide +kernel
theorem kd_Cr_codeExpression_169 : decode kc_Cr_codeExpression 169 = .ok (.iaload, 1) := by decide +kernel
theorem kd_Cr_codeExpression_170 : decode kc_Cr_codeExpression 170 = .ok (.invokevirtual 147, 3) := by decide +kernel
theorem kd_Cr_codeExpression_173 : decode kc_Cr_codeExpression 173 = .ok (.goto 126, 3) := by decide +kernel
theorem kd_Cr_codeExpression_176 : decode kc_Cr_codeExpression 176 = .ok (.aload_n 0, 1) := by decide +kernel
theorem kd_Cr_codeExpression_177 : decode kc_Cr_codeExpression 177 = .ok (.iload 4, 2) := by decide +kernel
theorem kd_Cr_codeExpression_179 : decode kc_Cr_codeExpression 179 = .ok (.iload_n 2, 1) := by decide +kernel
theorem kd_Cr_codeExpression_180 : decode kc_Cr_codeExpression 180 = .ok (.iconst 1, 1) := by decide +kernel
theorem kd_Cr_codeExpression_181 : decode kc_Cr_codeExpression 181 = .ok (.iadd, 1) := by decide +kernel
theorem kd_Cr_codeExpression_182 : decode kc_Cr_codeExpression 182 = .ok (.invokevirtual 138, 3) := by decide +kernel
theorem kd_Cr_codeExpression_185 : decode kc_Cr_codeExpression 185 = .ok (.aload_n 0, 1) := by decide +kernel
theorem kd_Cr_codeExpression_186 : decode kc_Cr_codeExpression 186 = .ok (.aload_n 0, 1) := by decide +kernel
theorem kd_Cr_codeExpression_187 : decode kc_Cr_codeExpression 187 = .ok (.getfield 9, 3) := by decide +kernel
theorem kd_Cr_codeExpression_190 : decode kc_Cr_codeExpression 190 = .ok (.getfield 87, 3) := by decide +kernel
theorem kd_Cr_codeExpression_193 : decode kc_Cr_codeExpression 193 = .ok (.iload 4, 2) := by decide +kernel
theorem kd_Cr_codeExpression_195 : decode kc_Cr_codeExpression 195 = .ok (.iaload, 1) := by decide +kernel
theorem kd_Cr_codeExpression_196 : decode kc_Cr_codeExpression 196 = .ok (.iload_n 2, 1) := by decide +kernel
theorem kd_Cr_codeExpression_197 : decode kc_Cr_codeExpression 197 = .ok (.iconst 1, 1) := by decide +kernel
theorem kd_Cr_codeExpression_198 : decode kc_Cr_codeExpression 198 = .ok (.iadd, 1) := by decide +kernel
theorem kd_Cr_codeExpression_199 : decode kc_Cr_codeExpression 199 = .ok (.invokevirtual 138, 3) := by decide +kernel
theorem kd_Cr_codeExpression_202 : decode kc_Cr_codeExpression 202 = .ok (.aload_n 0, 1) := by decide +kernel
theorem kd_Cr_codeExpression_203 : decode kc_Cr_codeExpression 203 = .ok (.getfield 19, 3) := by decide +kernel
theorem kd_Cr_codeExpression_206 : decode kc_Cr_codeExpression 206 = .ok (.bipush 7, 2) := by decide +kernel
theorem kd_Cr_codeExpression_208 : decode kc_Cr_codeExpression 208 = .ok (.iload_n 3, 1) := by decide +kernel
theorem kd_Cr_codeExpression_209 : decode kc_Cr_codeExpression 209 = .ok (.aload_n 0, 1) := by decide +kernel
theorem kd_Cr_codeExpression_210 : decode kc_Cr_codeExpression 210 = .ok (.getfield 9, 3) := by decide +kernel
theorem kd_Cr_codeExpression_213 : decode kc_Cr_codeExpression 213 = .ok (.getfield 178, 3) := by decide +kernel
theorem kd_Cr_codeExpression_216 : decode kc_Cr_codeExpression 216 = .ok (.iload_n 1, 1) := by decide +kernel
theorem kd_Cr_codeExpression_217 : decode kc_Cr_codeExpression 217 = .ok (.baload, 1) := by decide +kernel
theorem kd_Cr_codeExpression_218 : decode kc_Cr_codeExpression 218 = .ok (.invokestatic 184, 3) := by decide +kernel
theorem kd_Cr_codeExpression_221 : decode kc_Cr_codeExpression 221 = .ok (.invokevirtual 101, 3) := by decide +kernel
theorem kd_Cr_codeExpression_224 : decode kc_Cr_codeExpression 224 = .ok (.pop, 1) := by decide +kernel
theorem kd_Cr_codeExpression_225 : decode kc_Cr_codeExpression 225 = .ok (.goto 74, 3) := by decide +kernel
theorem kd_Cr_codeExpression_228 : decode kc_Cr_codeExpression 228 = .ok (.aload_n 0, 1) := by decide +kernel
theorem kd_Cr_codeExpression_229 : decode kc_Cr_codeExpression 229 = .ok (.iload 4, 2) := by decide +kernel
theorem kd_Cr_codeExpression_231 : decode kc_Cr_codeExpression 231 = .ok (.iload_n 2, 1) := by decide +kernel
theorem kd_Cr_codeExpression_232 : decode kc_Cr_codeExpression 232 = .ok (.iconst 1, 1) := by decide +kernel
theorem kd_Cr_codeExpression_233 : decode kc_Cr_codeExpression 233 = .ok (.iadd, 1) := by decide +kernel
theorem kd_Cr_codeExpression_234 : decode kc_Cr_codeExpression 234 = .ok (.invokevirtual 138, 3) := by decide +kernel
theorem kd_Cr_codeExpression_237 : decode kc_Cr_codeExpression 237 = .ok (.aload_n 0, 1) := by decide +kernel
theorem kd_Cr_codeExpression_238 : decode kc_Cr_codeExpression 238 = .ok (.getfield 19, 3) := by decide +kernel
theorem kd_Cr_codeExpression_241 : decode kc_Cr_codeExpression 241 = .ok (.bipush 8, 2) := by decide +kernel
theorem kd_Cr_codeExpression_243 : decode kc_Cr_codeExpression 243 = .ok (.iload_n 3, 1) := by decide +kernel
theorem kd_Cr_codeExpression_244 : decode kc_Cr_codeExpression 244 = .ok (.ifCond .ne 7, 3) := by decide +kernel
theorem kd_Cr_codeExpression_247 : decode kc_Cr_codeExpression 247 = .ok (.iconst 1, 1) := by decide +kernel
theorem kd_Cr_codeExpression_248 : decode kc_Cr_codeExpression 248 = .ok (.goto 4, 3) := by decide +kernel
theorem kd_Cr_codeExpression_251 : decode kc_Cr_codeExpression 251 = .ok (.iconst 0, 1) := by decide +kernel
theorem kd_Cr_codeExpression_252 : decode kc_Cr_codeExpression 252 = .ok (.aload_n 0, 1) := by decide +kernel
theorem kd_Cr_codeExpression_253 : decode kc_Cr_codeExpression 253 = .ok (.getfield 9, 3) := by decide +kernel
theorem kd_Cr_codeExpression_256 : decode kc_Cr_codeExpression 256 = .ok (.getfield 178, 3) := by decide +kernel
theorem kd_Cr_codeExpression_259 : decode kc_Cr_codeExpression 259 = .ok (.iload_n 1, 1) := by decide +kernel
theorem kd_Cr_codeExpression_260 : decode kc_Cr_codeExpression 260 = .ok (.baload, 1) := by decide +kernel
theorem kd_Cr_codeExpression_261 : decode kc_Cr_codeExpression 261 = .ok (.invokestatic 187, 3) := by decide +kernel
theorem kd_Cr_codeExpression_264 : decode kc_Cr_codeExpression 264 = .ok (.invokevirtual 101, 3) := by decide +kernel
theorem kd_Cr_codeExpression_267 : decode kc_Cr_codeExpression 267 = .ok (.pop, 1) := by decide +kernel
theorem kd_Cr_codeExpression_268 : decode kc_Cr_codeExpression 268 = .ok (.goto 31, 3) := by decide +kernel
theorem kd_Cr_codeExpression_271 : decode kc_Cr_codeExpression 271 = .ok (.aload_n 0, 1) := by decide +kernel
theorem kd_Cr_codeExpression_272 : decode kc_Cr_codeExpression 272 = .ok (.iload_n 1, 1) := by decide +kernel
theorem kd_Cr_codeExpression_273 : decode kc_Cr_codeExpression 273 = .ok (.iload_n 2, 1) := by decide +kernel
theorem kd_Cr_codeExpression_274 : decode kc_Cr_codeExpression 274 = .ok (.invokevirtual 191, 3) := by decide +kernel
theorem kd_Cr_codeExpression_277 : decode kc_Cr_codeExpression 277 = .ok (.goto 22, 3) := by decide +kernel
theorem kd_Cr_codeExpression_280 : decode kc_Cr_codeExpression 280 = .ok (.aload_n 0, 1) := by decide +kernel
theorem kd_Cr_codeExpression_281 : decode kc_Cr_codeExpression 281 = .ok (.iload_n 1, 1) := by decide +kernel
theorem kd_Cr_codeExpression_282 : decode kc_Cr_codeExpression 282 = .ok (.iload_n 2, 1) := by decide +kernel
theorem kd_Cr_codeExpression_283 : decode kc_Cr_codeExpression 283 = .ok (.invokevirtual 194, 3) := by decide +kernel
theorem kd_Cr_codeExpression_286 : decode kc_Cr_codeExpression 286 = .ok (.goto 13, 3) := by decide +kernel
theorem kd_Cr_codeExpression_289 : decode kc_Cr_codeExpression 289 = .ok (.aload_n 0, 1) := by decide +kernel
theorem kd_Cr_codeExpression_290 : decode kc_Cr_codeExpression 290 = .ok (.getfield 19, 3) := by decide +kernel
theorem kd_Cr_codeExpression_293 : decode kc_Cr_codeExpression 293 = .ok (.iconst 0, 1) := by decide +kernel
theorem kd_Cr_codeExpression_294 : decode kc_Cr_codeExpression 294 = .ok (.iload_n 3, 1) := by decide +kernel
theorem kd_Cr_codeExpression_295 : decode kc_Cr_codeExpression 295 = .ok (.invokevirtual 101, 3) := by decide +kernel
theorem kd_Cr_codeExpression_298 : decode kc_Cr_codeExpression 298 = .ok (.pop, 1) := by decide +kernel
theorem kd_Cr_codeExpression_299 : decode kc_Cr_codeExpression 299 = .ok (.return_, 1) := by decide +kernel
theorem kd_Cr_codeInvocation_0 : decode kc_Cr_codeInvocation 0 = .ok (.aload_n 0, 1) := by decide +kernel
theorem kd_Cr_codeInvocation_1 : decode kc_Cr_codeInvocation 1 = .ok (.getfield 9, 3) := by decide +kernel
theorem kd_Cr_codeInvocation_4 : decode kc_Cr_codeInvocation 4 = .ok (.getfield 135, 3) := by decide +kernel
theorem kd_Cr_codeInvocation_7 : decode kc_Cr_codeInvocation 7 = .ok (.iload_n 1, 1) := by decide +kernel
theorem kd_Cr_codeInvocation_8 : decode kc_Cr_codeInvocation 8 = .ok (.iaload, 1) := by decide +kernel
theorem kd_Cr_codeInvocation_9 : decode kc_Cr_codeInvocation 9 = .ok (.istore_n 2, 1) := by decide +kernel
theorem kd_Cr_codeInvocation_10 : decode kc_Cr_codeInvocation 10 = .ok (.aload_n 0, 1) := by decide +kernel
theorem kd_Cr_codeInvocation_11 : decode kc_Cr_codeInvocation 11 = .ok (.getfield 15, 3) := by decide +kernel
theorem kd_Cr_codeInvocation_14 : decode kc_Cr_codeInvocation 14 = .ok (.getfield 117, 3) := by decide +kernel
theorem kd_Cr_codeInvocation_17 : decode kc_Cr_codeInvocation 17 = .ok (.iload_n 2, 1) := by decide +kernel
theorem kd_Cr_codeInvocation_18 : decode kc_Cr_codeInvocation 18 = .ok (.iaload, 1) := by decide +kernel
theorem kd_Cr_codeInvocation_19 : decode kc_Cr_codeInvocation 19 = .ok (.istore_n 3, 1) := by decide +kernel
theorem kd_Cr_codeInvocation_20 : decode kc_Cr_codeInvocation 20 = .ok (.aload_n 0, 1) := by decide +kernel
theorem kd_Cr_codeInvocation_21 : decode kc_Cr_codeInvocation 21 = .ok (.getfield 9, 3) := by decide +kernel
theorem kd_Cr_codeInvocation_24 : decode kc_Cr_codeInvocation 24 = .ok (.getfield 80, 3) := by decide +kernel
theorem kd_Cr_codeInvocation_27 : decode kc_Cr_codeInvocation 27 = .ok (.iload_n 1, 1) := by decide +kernel
theorem kd_Cr_codeInvocation_28 : decode kc_Cr_codeInvocation 28 = .ok (.iaload, 1) := by decide +kernel
theorem kd_Cr_codeInvocation_29 : decode kc_Cr_codeInvocation 29 = .ok (.istore 4, 2) := by decide +kernel
theorem kd_Cr_codeInvocation_31 : decode kc_Cr_codeInvocation 31 = .ok (.iconst 0, 1) := by decide +kernel
theorem kd_Cr_codeInvocation_32 : decode kc_Cr_codeInvocation 32 = .ok (.istore 5, 2) := by decide +kernel
theorem kd_Cr_codeInvocation_34 : decode kc_Cr_codeInvocation 34 = .ok (.iload 5, 2) := by decide +kernel
theorem kd_Cr_codeInvocation_36 : decode kc_Cr_codeInvocation 36 = .ok (.aload_n 0, 1) := by decide +kernel
theorem kd_Cr_codeInvocation_37 : decode kc_Cr_codeInvocation 37 = .ok (.getfield 9, 3) := by decide +kernel
theorem kd_Cr_codeInvocation_40 : decode kc_Cr_codeInvocation 40 = .ok (.getfield 86, 3) := by decide +kernel
theorem kd_Cr_codeInvocation_43 : decode kc_Cr_codeInvocation 43 = .ok (.if_icmp .ge 71, 3) := by decide +kernel
theorem kd_Cr_codeInvocation_46 : decode kc_Cr_codeInvocation 46 = .ok (.iload 4, 2) := by decide +kernel
theorem kd_Cr_codeInvocation_48 : decode kc_Cr_codeInvocation 48 = .ok (.iconst (-1), 1) := by decide +kernel
theorem kd_Cr_codeInvocation_49 : decode kc_Cr_codeInvocation 49 = .ok (.if_icmp .eq 65, 3) := by decide +kernel
theorem kd_Cr_codeInvocation_52 : decode kc_Cr_codeInvocation 52 = .ok (.aload_n 0, 1) := by decide +kernel
theorem kd_Cr_codeInvocation_53 : decode kc_Cr_codeInvocation 53 = .ok (.aload_n 0, 1) := by decide +kernel
theorem kd_Cr_codeInvocation_54 : decode kc_Cr_codeInvocation 54 = .ok (.getfield 9, 3) := by decide +kernel
theorem kd_Cr_codeInvocation_57 : decode kc_Cr_codeInvocation 57 = .ok (.getfield 80, 3) := by decide +kernel
theorem kd_Cr_codeInvocation_60 : decode kc_Cr_codeInvocation 60 = .ok (.iload 4, 2) := by decide +kernel
theorem kd_Cr_codeInvocation_62 : decode kc_Cr_codeInvocation 62 = .ok (.iaload, 1) := by decide +kernel
theorem kd_Cr_codeInvocation_63 : decode kc_Cr_codeInvocation 63 = .ok (.iconst 0, 1) := by decide +kernel
theorem kd_Cr_codeInvocation_64 : decode kc_Cr_codeInvocation 64 = .ok (.invokevirtual 138, 3) := by decide +kernel
theorem kd_Cr_codeInvocation_67 : decode kc_Cr_codeInvocation 67 = .ok (.aload_n 0, 1) := by decide +kernel
theorem kd_Cr_codeInvocation_68 : decode kc_Cr_codeInvocation 68 = .ok (.getfield 19, 3) := by decide +kernel
theorem kd_Cr_codeInvocation_71 : decode kc_Cr_codeInvocation 71 = .ok (.iconst 2, 1) := by decide +kernel
theorem kd_Cr_codeInvocation_72 : decode kc_Cr_codeInvocation 72 = .ok (.iload_n 3, 1) := by decide +kernel
theorem kd_Cr_codeInvocation_73 : decode kc_Cr_codeInvocation 73 = .ok (.aload_n 0, 1) := by decide +kernel
theorem kd_Cr_codeInvocation_74 : decode kc_Cr_codeInvocation 74 = .ok (.getfield 15, 3) := by decide +kernel
theorem kd_Cr_codeInvocation_77 : decode kc_Cr_codeInvocation 77 = .ok (.getfield 117, 3) := by decide +kernel
theorem kd_Cr_codeInvocation_80 : decode kc_Cr_codeInvocation 80 = .ok (.aload_n 0, 1) := by decide +kernel
theorem kd_Cr_codeInvocation_81 : decode kc_Cr_codeInvocation 81 = .ok (.getfield 9, 3) := by decide +kernel
theorem kd_Cr_codeInvocation_84 : decode kc_Cr_codeInvocation 84 = .ok (.getfield 135, 3) := by decide +kernel
theorem kd_Cr_codeInvocation_87 : decode kc_Cr_codeInvocation 87 = .ok (.iload 4, 2) := by decide +kernel
theorem kd_Cr_codeInvocation_89 : decode kc_Cr_codeInvocation 89 = .ok (.iaload, 1) := by decide +kernel
theorem kd_Cr_codeInvocation_90 : decode kc_Cr_codeInvocation 90 = .ok (.iaload, 1) := by decide +kernel
theorem kd_Cr_codeInvocation_91 : decode kc_Cr_codeInvocation 91 = .ok (.iadd, 1) := by decide +kernel
theorem kd_Cr_codeInvocation_92 : decode kc_Cr_codeInvocation 92 = .ok (.invokevirtual 101, 3) := by decide +kernel
theorem kd_Cr_codeInvocation_95 : decode kc_Cr_codeInvocation 95 = .ok (.pop, 1) := by decide +kernel
theorem kd_Cr_codeInvocation_96 : decode kc_Cr_codeInvocation 96 = .ok (.aload_n 0, 1) := by decide +kernel
theorem kd_Cr_codeInvocation_97 : decode kc_Cr_codeInvocation 97 = .ok (.getfield 9, 3) := by decide +kernel
theorem kd_Cr_codeInvocation_100 : decode kc_Cr_codeInvocation 100 = .ok (.getfield 87, 3) := by decide +kernel
theorem kd_Cr_codeInvocation_103 : decode kc_Cr_codeInvocation 103 = .ok (.iload 4, 2) := by decide +kernel
theorem kd_Cr_codeInvocation_105 : decode kc_Cr_codeInvocation 105 = .ok (.iaload, 1) := by decide +kernel
theorem kd_Cr_codeInvocation_106 : decode kc_Cr_codeInvocation 106 = .ok (.istore 4, 2) := by decide +kernel
theorem kd_Cr_codeInvocation_108 : decode kc_Cr_codeInvocation 108 = .ok (.iinc 5 1, 3) := by decide +kernel
theorem kd_Cr_codeInvocation_111 : decode kc_Cr_codeInvocation 111 = .ok (.goto (-77), 3) := by decide +kernel
theorem kd_Cr_codeInvocation_114 : decode kc_Cr_codeInvocation 114 = .ok (.aload_n 0, 1) := by decide +kernel
theorem kd_Cr_codeInvocation_115 : decode kc_Cr_codeInvocation 115 = .ok (.getfield 15, 3) := by decide +kernel
theorem kd_Cr_codeInvocation_118 : decode kc_Cr_codeInvocation 118 = .ok (.getfield 150, 3) := by decide +kernel
theorem kd_Cr_codeInvocation_121 : decode kc_Cr_codeInvocation 121 = .ok (.iload_n 2, 1) := by decide +kernel
theorem kd_Cr_codeInvocation_122 : decode kc_Cr_codeInvocation 122 = .ok (.iaload, 1) := by decide +kernel
theorem kd_Cr_codeInvocation_123 : decode kc_Cr_codeInvocation 123 = .ok (.istore 5, 2) := by decide +kernel
theorem kd_Cr_codeInvocation_125 : decode kc_Cr_codeInvocation 125 = .ok (.iload 5, 2) := by decide +kernel
theorem kd_Cr_codeInvocation_127 : decode kc_Cr_codeInvocation 127 = .ok (.bipush 9, 2) := by decide +kernel
theorem kd_Cr_codeInvocation_129 : decode kc_Cr_codeInvocation 129 = .ok (.if_icmp .ge 18, 3) := by decide +kernel
theorem kd_Cr_codeInvocation_132 : decode kc_Cr_codeInvocation 132 = .ok (.aload_n 0, 1) := by decide +kernel
theorem kd_Cr_codeInvocation_133 : decode kc_Cr_codeInvocation 133 = .ok (.getfield 19, 3) := by decide +kernel
theorem kd_Cr_codeInvocation_136 : decode kc_Cr_codeInvocation 136 = .ok (.bipush 17, 2) := by decide +kernel
theorem kd_Cr_codeInvocation_138 : decode kc_Cr_codeInvocation 138 = .ok (.iload 5, 2) := by decide +kernel
theorem kd_Cr_codeInvocation_140 : decode kc_Cr_codeInvocation 140 = .ok (.invokevirtual 101, 3) := by decide +kernel
theorem kd_Cr_codeInvocation_143 : decode kc_Cr_codeInvocation 143 = .ok (.pop, 1) := by decide +kernel
theorem kd_Cr_codeInvocation_144 : decode kc_Cr_codeInvocation 144 = .ok (.goto 18, 3) := by decide +kernel
theorem kd_Cr_codeInvocation_147 : decode kc_Cr_codeInvocation 147 = .ok (.aload_n 0, 1) := by decide +kernel
theorem kd_Cr_codeInvocation_148 : decode kc_Cr_codeInvocation 148 = .ok (.getfield 19, 3) := by decide +kernel
theorem kd_Cr_codeInvocation_151 : decode kc_Cr_codeInvocation 151 = .ok (.bipush 15, 2) := by decide +kernel
theorem kd_Cr_codeInvocation_153 : decode kc_Cr_codeInvocation 153 = .ok (.iload 5, 2) := by decide +kernel
theorem kd_Cr_codeInvocation_155 : decode kc_Cr_codeInvocation 155 = .ok (.bipush 9, 2) := by decide +kernel
theorem kd_Cr_codeInvocation_157 : decode kc_Cr_codeInvocation 157 = .ok (.isub, 1) := by decide +kernel
theorem kd_Cr_codeInvocation_158 : decode kc_Cr_codeInvocation 158 = .ok (.invokevirtual 101, 3) := by decide +kernel
theorem kd_Cr_codeInvocation_161 : decode kc_Cr_codeInvocation 161 = .ok (.pop, 1) := by decide +kernel
theorem kd_Cr_codeInvocation_162 : decode kc_Cr_codeInvocation 162 = .ok (.aload_n 0, 1) := by decide +kernel
theorem kd_Cr_codeInvocation_163 : decode kc_Cr_codeInvocation 163 = .ok (.getfield 19, 3) := by decide +kernel
theorem kd_Cr_codeInvocation_166 : decode kc_Cr_codeInvocation 166 = .ok (.iload_n 3, 1) := by decide +kernel
theorem kd_Cr_codeInvocation_167 : decode kc_Cr_codeInvocation 167 = .ok (.iconst 0, 1) := by decide +kernel
theorem kd_Cr_codeInvocation_168 : decode kc_Cr_codeInvocation 168 = .ok (.invokevirtual 147, 3) := by decide +kernel
theorem kd_Cr_codeInvocation_171 : decode kc_Cr_codeInvocation 171 = .ok (.return_, 1) := by decide +kernel
theorem kd_Cr_codeRanges_0 : decode kc_Cr_codeRanges 0 = .ok (.aload_n 0, 1) := by decide +kernel
theorem kd_Cr_codeRanges_1 : decode kc_Cr_codeRanges 1 = .ok (.getfield 9, 3) := by decide +kernel
theorem kd_Cr_codeRanges_4 : decode kc_Cr_codeRanges 4 = .ok (.getfield 80, 3) := by decide +kernel
theorem kd_Cr_codeRanges_7 : decode kc_Cr_codeRanges 7 = .ok (.iload_n 1, 1) := by decide +kernel
theorem kd_Cr_codeRanges_8 : decode kc_Cr_codeRanges 8 = .ok (.iaload, 1) := by decide +kernel
theorem kd_Cr_codeRanges_9 : decode kc_Cr_codeRanges 9 = .ok (.istore_n 3, 1) := by decide +kernel
theorem kd_Cr_codeRanges_10 : decode kc_Cr_codeRanges 10 = .ok (.iconst 0, 1) := by decide +kernel
theorem kd_Cr_codeRanges_11 : decode kc_Cr_codeRanges 11 = .ok (.istore 4, 2) := by decide +kernel
theorem kd_Cr_codeRanges_13 : decode kc_Cr_codeRanges 13 = .ok (.iload 4, 2) := by decide +kernel
theorem kd_Cr_codeRanges_15 : decode kc_Cr_codeRanges 15 = .ok (.aload_n 0, 1) := by decide +kernel
theorem kd_Cr_codeRanges_16 : decode kc_Cr_codeRanges 16 = .ok (.getfield 9, 3) := by decide +kernel
theorem kd_Cr_codeRanges_19 : decode kc_Cr_codeRanges 19 = .ok (.getfield 86, 3) := by decide +kernel
theorem kd_Cr_codeRanges_22 : decode kc_Cr_codeRanges 22 = .ok (.if_icmp .ge 188, 3) := by decide +kernel
theorem kd_Cr_codeRanges_25 : decode kc_Cr_codeRanges 25 = .ok (.aload_n 0, 1) := by decide +kernel
theorem kd_Cr_codeRanges_26 : decode kc_Cr_codeRanges 26 = .ok (.getfield 9, 3) := by decide +kernel
theorem kd_Cr_codeRanges_29 : decode kc_Cr_codeRanges 29 = .ok (.getfield 90, 3) := by decide +kernel
theorem kd_Cr_codeRanges_32 : decode kc_Cr_codeRanges 32 = .ok (.iload_n 3, 1) := by decide +kernel
theorem kd_Cr_codeRanges_33 : decode kc_Cr_codeRanges 33 = .ok (.baload, 1) := by decide +kernel
theorem kd_Cr_codeRanges_34 : decode kc_Cr_codeRanges 34 = .ok (.bipush 18, 2) := by decide +kernel
theorem kd_Cr_codeRanges_36 : decode kc_Cr_codeRanges 36 = .ok (.if_icmp .ne 174, 3) := by decide +kernel
theorem kd_Cr_codeRanges_39 : decode kc_Cr_codeRanges 39 = .ok (.aload_n 0, 1) := by decide +kernel
theorem kd_Cr_codeRanges_40 : decode kc_Cr_codeRanges 40 = .ok (.getfield 9, 3) := by decide +kernel
theorem kd_Cr_codeRanges_43 : decode kc_Cr_codeRanges 43 = .ok (.getfield 80, 3) := by decide +kernel
theorem kd_Cr_codeRanges_46 : decode kc_Cr_codeRanges 46 = .ok (.iload_n 3, 1) := by decide +kernel
theorem kd_Cr_codeRanges_47 : decode kc_Cr_codeRanges 47 = .ok (.iaload, 1) := by decide +kernel
theorem kd_Cr_codeRanges_48 : decode kc_Cr_codeRanges 48 = .ok (.istore 5, 2) := by decide +kernel
theorem kd_Cr_codeRanges_50 : decode kc_Cr_codeRanges 50 = .ok (.aload_n 0, 1) := by decide +kernel
theorem kd_Cr_codeRanges_51 : decode kc_Cr_codeRanges 51 = .ok (.getfield 9, 3) := by decide +kernel
theorem kd_Cr_codeRanges_54 : decode kc_Cr_codeRanges 54 = .ok (.getfield 87, 3) := by decide +kernel
theorem kd_Cr_codeRanges_57 : decode kc_Cr_codeRanges 57 = .ok (.iload 5, 2) := by decide +kernel
theorem kd_Cr_codeRanges_59 : decode kc_Cr_codeRanges 59 = .ok (.iaload, 1) := by decide +kernel
theorem kd_Cr_codeRanges_60 : decode kc_Cr_codeRanges 60 = .ok (.istore 6, 2) := by decide +kernel
theorem kd_Cr_codeRanges_62 : decode kc_Cr_codeRanges 62 = .ok (.aload_n 0, 1) := by decide +kernel
theorem kd_Cr_codeRanges_63 : decode kc_Cr_codeRanges 63 = .ok (.getfield 19, 3) := by decide +kernel
theorem kd_Cr_codeRanges_66 : decode kc_Cr_codeRanges 66 = .ok (.iconst 1, 1) := by decide +kernel
theorem kd_Cr_codeRanges_67 : decode kc_Cr_codeRanges 67 = .ok (.iload_n 2, 1) := by decide +kernel
theorem kd_Cr_codeRanges_68 : decode kc_Cr_codeRanges 68 = .ok (.invokevirtual 101, 3) := by decide +kernel
theorem kd_Cr_codeRanges_71 : decode kc_Cr_codeRanges 71 = .ok (.pop, 1) := by decide +kernel
theorem kd_Cr_codeRanges_72 : decode kc_Cr_codeRanges 72 = .ok (.aload_n 0, 1) := by decide +kernel
theorem kd_Cr_codeRanges_73 : decode kc_Cr_codeRanges 73 = .ok (.getfield 19, 3) := by decide +kernel
theorem kd_Cr_codeRanges_76 : decode kc_Cr_codeRanges 76 = .ok (.iconst 0, 1) := by decide +kernel
theorem kd_Cr_codeRanges_77 : decode kc_Cr_codeRanges 77 = .ok (.aload_n 0, 1) := by decide +kernel
theorem kd_Cr_codeRanges_78 : decode kc_Cr_codeRanges 78 = .ok (.getfield 9, 3) := by decide +kernel
theorem kd_Cr_codeRanges_81 : decode kc_Cr_codeRanges 81 = .ok (.getfield 135, 3) := by decide +kernel
theorem kd_Cr_codeRanges_84 : decode kc_Cr_codeRanges 84 = .ok (.iload 5, 2) := by decide +kernel
theorem kd_Cr_codeRanges_86 : decode kc_Cr_codeRanges 86 = .ok (.iaload, 1) := by decide +kernel
theorem kd_Cr_codeRanges_87 : decode kc_Cr_codeRanges 87 = .ok (.invokevirtual 101, 3) := by decide +kernel
theorem kd_Cr_codeRanges_90 : decode kc_Cr_codeRanges 90 = .ok (.pop, 1) := by decide +kernel
theorem kd_Cr_codeRanges_91 : decode kc_Cr_codeRanges 91 = .ok (.iload 6, 2) := by decide +kernel
theorem kd_Cr_codeRanges_93 : decode kc_Cr_codeRanges 93 = .ok (.iconst (-1), 1) := by decide +kernel
theorem kd_Cr_codeRanges_94 : decode kc_Cr_codeRanges 94 = .ok (.if_icmp .ne 18, 3) := by decide +kernel
theorem kd_Cr_codeRanges_97 : decode kc_Cr_codeRanges 97 = .ok (.aload_n 0, 1) := by decide +kernel
theorem kd_Cr_codeRanges_98 : decode kc_Cr_codeRanges 98 = .ok (.getfield 19, 3) := by decide +kernel
theorem kd_Cr_codeRanges_101 : decode kc_Cr_codeRanges 101 = .ok (.bipush 7, 2) := by decide +kernel
theorem kd_Cr_codeRanges_103 : decode kc_Cr_codeRanges 103 = .ok (.bipush 13, 2) := by decide +kernel
theorem kd_Cr_codeRanges_105 : decode kc_Cr_codeRanges 105 = .ok (.invokevirtual 101, 3) := by decide +kernel
theorem kd_Cr_codeRanges_108 : decode kc_Cr_codeRanges 108 = .ok (.pop, 1) := by decide +kernel
theorem kd_Cr_codeRanges_109 : decode kc_Cr_codeRanges 109 = .ok (.goto 68, 3) := by decide +kernel
theorem kd_Cr_codeRanges_112 : decode kc_Cr_codeRanges 112 = .ok (.aload_n 0, 1) := by decide +kernel
theorem kd_Cr_codeRanges_113 : decode kc_Cr_codeRanges 113 = .ok (.getfield 19, 3) := by decide +kernel
theorem kd_Cr_codeRanges_116 : decode kc_Cr_codeRanges 116 = .ok (.bipush 7, 2) := by decide +kernel
theorem kd_Cr_codeRanges_118 : decode kc_Cr_codeRanges 118 = .ok (.bipush 18, 2) := by decide +kernel
theorem kd_Cr_codeRanges_120 : decode kc_Cr_codeRanges 120 = .ok (.invokevirtual 101, 3) := by decide +kernel
theorem kd_Cr_codeRanges_123 : decode kc_Cr_codeRanges 123 = .ok (.pop, 1) := by decide +kernel
theorem kd_Cr_codeRanges_124 : decode kc_Cr_codeRanges 124 = .ok (.aload_n 0, 1) := by decide +kernel
theorem kd_Cr_codeRanges_125 : decode kc_Cr_codeRanges 125 = .ok (.getfield 19, 3) := by decide +kernel
theorem kd_Cr_codeRanges_128 : decode kc_Cr_codeRanges 128 = .ok (.iconst 1, 1) := by decide +kernel
theorem kd_Cr_codeRanges_129 : decode kc_Cr_codeRanges 129 = .ok (.iload_n 2, 1) := by decide +kernel
theorem kd_Cr_codeRanges_130 : decode kc_Cr_codeRanges 130 = .ok (.invokevirtual 101, 3) := by decide +kernel
theorem kd_Cr_codeRanges_133 : decode kc_Cr_codeRanges 133 = .ok (.pop, 1) := by decide +kernel
theorem kd_Cr_codeRanges_134 : decode kc_Cr_codeRanges 134 = .ok (.aload_n 0, 1) := by decide +kernel
theorem kd_Cr_codeRanges_135 : decode kc_Cr_codeRanges 135 = .ok (.getfield 19, 3) := by decide +kernel
theorem kd_Cr_codeRanges_138 : decode kc_Cr_codeRanges 138 = .ok (.iconst 0, 1) := by decide +kernel
theorem kd_Cr_codeRanges_139 : decode kc_Cr_codeRanges 139 = .ok (.aload_n 0, 1) := by decide +kernel
theorem kd_Cr_codeRanges_140 : decode kc_Cr_codeRanges 140 = .ok (.getfield 9, 3) := by decide +kernel
theorem kd_Cr_codeRanges_143 : decode kc_Cr_codeRanges 143 = .ok (.getfield 135, 3) := by decide +kernel
theorem kd_Cr_codeRanges_146 : decode kc_Cr_codeRanges 146 = .ok (.iload 6, 2) := by decide +kernel
theorem kd_Cr_codeRanges_148 : decode kc_Cr_codeRanges 148 = .ok (.iaload, 1) := by decide +kernel
theorem kd_Cr_codeRanges_149 : decode kc_Cr_codeRanges 149 = .ok (.invokevirtual 101, 3) := by decide +kernel
theorem kd_Cr_codeRanges_152 : decode kc_Cr_codeRanges 152 = .ok (.pop, 1) := by decide +kernel
theorem kd_Cr_codeRanges_153 : decode kc_Cr_codeRanges 153 = .ok (.aload_n 0, 1) := by decide +kernel
theorem kd_Cr_codeRanges_154 : decode kc_Cr_codeRanges 154 = .ok (.getfield 19, 3) := by decide +kernel
theorem kd_Cr_codeRanges_157 : decode kc_Cr_codeRanges 157 = .ok (.bipush 7, 2) := by decide +kernel
theorem kd_Cr_codeRanges_159 : decode kc_Cr_codeRanges 159 = .ok (.bipush 17, 2) := by decide +kernel
theorem kd_Cr_codeRanges_161 : decode kc_Cr_codeRanges 161 = .ok (.invokevirtual 101, 3) := by decide +kernel
theorem kd_Cr_codeRanges_164 : decode kc_Cr_codeRanges 164 = .ok (.pop, 1) := by decide +kernel
theorem kd_Cr_codeRanges_165 : decode kc_Cr_codeRanges 165 = .ok (.aload_n 0, 1) := by decide +kernel
theorem kd_Cr_codeRanges_166 : decode kc_Cr_codeRanges 166 = .ok (.getfield 19, 3) := by decide +kernel
theorem kd_Cr_codeRanges_169 : decode kc_Cr_codeRanges 169 = .ok (.bipush 7, 2) := by decide +kernel
theorem kd_Cr_codeRanges_171 : decode kc_Cr_codeRanges 171 = .ok (.bipush 10, 2) := by decide +kernel
theorem kd_Cr_codeRanges_173 : decode kc_Cr_codeRanges 173 = .ok (.invokevirtual 101, 3) := by decide +kernel
theorem kd_Cr_codeRanges_176 : decode kc_Cr_codeRanges 176 = .ok (.pop, 1) := by decide +kernel
theorem kd_Cr_codeRanges_177 : decode kc_Cr_codeRanges 177 = .ok (.iload 4, 2) := by decide +kernel
theorem kd_Cr_codeRanges_179 : decode kc_Cr_codeRanges 179 = .ok (.ifCond .le 15, 3) := by decide +kernel
theorem kd_Cr_codeRanges_182 : decode kc_Cr_codeRanges 182 = .ok (.aload_n 0, 1) := by decide +kernel
theorem kd_Cr_codeRanges_183 : decode kc_Cr_codeRanges 183 = .ok (.getfield 19, 3) := by decide +kernel
theorem kd_Cr_codeRanges_186 : decode kc_Cr_codeRanges 186 = .ok (.bipush 7, 2) := by decide +kernel
theorem kd_Cr_codeRanges_188 : decode kc_Cr_codeRanges 188 = .ok (.bipush 11, 2) := by decide +kernel
theorem kd_Cr_codeRanges_190 : decode kc_Cr_codeRanges 190 = .ok (.invokevirtual 101, 3) := by decide +kernel
theorem kd_Cr_codeRanges_193 : decode kc_Cr_codeRanges 193 = .ok (.pop, 1) := by decide +kernel
theorem kd_Cr_codeRanges_194 : decode kc_Cr_codeRanges 194 = .ok (.aload_n 0, 1) := by decide +kernel
theorem kd_Cr_codeRanges_195 : decode kc_Cr_codeRanges 195 = .ok (.getfield 9, 3) := by decide +kernel
theorem kd_Cr_codeRanges_198 : decode kc_Cr_codeRanges 198 = .ok (.getfield 87, 3) := by decide +kernel
theorem kd_Cr_codeRanges_201 : decode kc_Cr_codeRanges 201 = .ok (.iload_n 3, 1) := by decide +kernel
theorem kd_Cr_codeRanges_202 : decode kc_Cr_codeRanges 202 = .ok (.iaload, 1) := by decide +kernel
theorem kd_Cr_codeRanges_203 : decode kc_Cr_codeRanges 203 = .ok (.istore_n 3, 1) := by decide +kernel
theorem kd_Cr_codeRanges_204 : decode kc_Cr_codeRanges 204 = .ok (.iinc 4 1, 3) := by decide +kernel
theorem kd_Cr_codeRanges_207 : decode kc_Cr_codeRanges 207 = .ok (.goto (-194), 3) := by decide +kernel
theorem kd_Cr_codeRanges_210 : decode kc_Cr_codeRanges 210 = .ok (.iload_n 3, 1) := by decide +kernel
theorem kd_Cr_codeRanges_211 : decode kc_Cr_codeRanges 211 = .ok (.ireturn, 1) := by decide +kernel
theorem kd_Cr_codeStandardCall_0 : decode kc_Cr_codeStandardCall 0 = .ok (.aload_n 0, 1) := by decide +kernel
theorem kd_Cr_codeStandardCall_1 : decode kc_Cr_codeStandardCall 1 = .ok (.getfield 9, 3) := by decide +kernel
theorem kd_Cr_codeStandardCall_4 : decode kc_Cr_codeStandardCall 4 = .ok (.getfield 135, 3) := by decide +kernel
theorem kd_Cr_codeStandardCall_7 : decode kc_Cr_codeStandardCall 7 = .ok (.iload_n 1, 1) := by decide +kernel
theorem kd_Cr_codeStandardCall_8 : decode kc_Cr_codeStandardCall 8 = .ok (.iaload, 1) := by decide +kernel
theorem kd_Cr_codeStandardCall_9 : decode kc_Cr_codeStandardCall 9 = .ok (.istore_n 3, 1) := by decide +kernel
theorem kd_Cr_codeStandardCall_10 : decode kc_Cr_codeStandardCall 10 = .ok (.aload_n 0, 1) := by decide +kernel
theorem kd_Cr_codeStandardCall_11 : decode kc_Cr_codeStandardCall 11 = .ok (.getfield 9, 3) := by decide +kernel
theorem kd_Cr_codeStandardCall_14 : decode kc_Cr_codeStandardCall 14 = .ok (.getfield 80, 3) := by decide +kernel
theorem kd_Cr_codeStandardCall_17 : decode kc_Cr_codeStandardCall 17 = .ok (.iload_n 1, 1) := by decide +kernel
theorem kd_Cr_codeStandardCall_18 : decode kc_Cr_codeStandardCall 18 = .ok (.iaload, 1) := by decide +kernel
theorem kd_Cr_codeStandardCall_19 : decode kc_Cr_codeStandardCall 19 = .ok (.istore 4, 2) := by decide +kernel
theorem kd_Cr_codeStandardCall_21 : decode kc_Cr_codeStandardCall 21 = .ok (.iconst 0, 1) := by decide +kernel
theorem kd_Cr_codeStandardCall_22 : decode kc_Cr_codeStandardCall 22 = .ok (.istore 5, 2) := by decide +kernel
theorem kd_Cr_codeStandardCall_24 : decode kc_Cr_codeStandardCall 24 = .ok (.iload 5, 2) := by decide +kernel
theorem kd_Cr_codeStandardCall_26 : decode kc_Cr_codeStandardCall 26 = .ok (.iconst 3, 1) := by decide +kernel
theorem kd_Cr_codeStandardCall_27 : decode kc_Cr_codeStandardCall 27 = .ok (.if_icmp .ge 69, 3) := by decide +kernel
theorem kd_Cr_codeStandardCall_30 : decode kc_Cr_codeStandardCall 30 = .ok (.iload 4, 2) := by decide +kernel
theorem kd_Cr_codeStandardCall_32 : decode kc_Cr_codeStandardCall 32 = .ok (.iconst (-1), 1) := by decide +kernel
theorem kd_Cr_codeStandardCall_33 : decode kc_Cr_codeStandardCall 33 = .ok (.if_icmp .eq 63, 3) := by decide +kernel
theorem kd_Cr_codeStandardCall_36 : decode kc_Cr_codeStandardCall 36 = .ok (.aload_n 0, 1) := by decide +kernel
theorem kd_Cr_codeStandardCall_37 : decode kc_Cr_codeStandardCall 37 = .ok (.iload 4, 2) := by decide +kernel
theorem kd_Cr_codeStandardCall_39 : decode kc_Cr_codeStandardCall 39 = .ok (.iload_n 2, 1) := by decide +kernel
theorem kd_Cr_codeStandardCall_40 : decode kc_Cr_codeStandardCall 40 = .ok (.iconst 1, 1) := by decide +kernel
theorem kd_Cr_codeStandardCall_41 : decode kc_Cr_codeStandardCall 41 = .ok (.iadd, 1) := by decide +kernel
theorem kd_Cr_codeStandardCall_42 : decode kc_Cr_codeStandardCall 42 = .ok (.invokevirtual 138, 3) := by decide +kernel
theorem kd_Cr_codeStandardCall_45 : decode kc_Cr_codeStandardCall 45 = .ok (.iload_n 3, 1) := by decide +kernel
theorem kd_Cr_codeStandardCall_46 : decode kc_Cr_codeStandardCall 46 = .ok (.iconst 3, 1) := by decide +kernel
theorem kd_Cr_codeStandardCall_47 : decode kc_Cr_codeStandardCall 47 = .ok (.if_icmp .ne 31, 3) := by decide +kernel
theorem kd_Cr_codeStandardCall_50 : decode kc_Cr_codeStandardCall 50 = .ok (.iload 5, 2) := by decide +kernel
theorem kd_Cr_codeStandardCall_52 : decode kc_Cr_codeStandardCall 52 = .ok (.ifCond .le 26, 3) := by decide +kernel
theorem kd_Cr_codeStandardCall_55 : decode kc_Cr_codeStandardCall 55 = .ok (.aload_n 0, 1) := by decide +kernel
theorem kd_Cr_codeStandardCall_56 : decode kc_Cr_codeStandardCall 56 = .ok (.getfield 19, 3) := by decide +kernel
theorem kd_Cr_codeStandardCall_59 : decode kc_Cr_codeStandardCall 59 = .ok (.bipush 7, 2) := by decide +kernel
theorem kd_Cr_codeStandardCall_61 : decode kc_Cr_codeStandardCall 61 = .ok (.iload 5, 2) := by decide +kernel
theorem kd_Cr_codeStandardCall_63 : decode kc_Cr_codeStandardCall 63 = .ok (.iconst 1, 1) := by decide +kernel
theorem kd_Cr_codeStandardCall_64 : decode kc_Cr_codeStandardCall 64 = .ok (.if_icmp .ne 8, 3) := by decide +kernel
theorem kd_Cr_codeStandardCall_67 : decode kc_Cr_codeStandardCall 67 = .ok (.bipush 24, 2) := by decide +kernel
theorem kd_Cr_codeStandardCall_69 : decode kc_Cr_codeStandardCall 69 = .ok (.goto 5, 3) := by decide +kernel
theorem kd_Cr_codeStandardCall_72 : decode kc_Cr_codeStandardCall 72 = .ok (.bipush 23, 2) := by decide +kernel
theorem kd_Cr_codeStandardCall_74 : decode kc_Cr_codeStandardCall 74 = .ok (.invokevirtual 101, 3) := by decide +kernel
theorem kd_Cr_codeStandardCall_77 : decode kc_Cr_codeStandardCall 77 = .ok (.pop, 1) := by decide +kernel
theorem kd_Cr_codeStandardCall_78 : decode kc_Cr_codeStandardCall 78 = .ok (.aload_n 0, 1) := by decide +kernel
theorem kd_Cr_codeStandardCall_79 : decode kc_Cr_codeStandardCall 79 = .ok (.getfield 9, 3) := by decide +kernel
theorem kd_Cr_codeStandardCall_82 : decode kc_Cr_codeStandardCall 82 = .ok (.getfield 87, 3) := by decide +kernel
theorem kd_Cr_codeStandardCall_85 : decode kc_Cr_codeStandardCall 85 = .ok (.iload 4, 2) := by decide +kernel
theorem kd_Cr_codeStandardCall_87 : decode kc_Cr_codeStandardCall 87 = .ok (.iaload, 1) := by decide +kernel
theorem kd_Cr_codeStandardCall_88 : decode kc_Cr_codeStandardCall 88 = .ok (.istore 4, 2) := by decide +kernel
theorem kd_Cr_codeStandardCall_90 : decode kc_Cr_codeStandardCall 90 = .ok (.iinc 5 1, 3) := by decide +kernel
theorem kd_Cr_codeStandardCall_93 : decode kc_Cr_codeStandardCall 93 = .ok (.goto (-69), 3) := by decide +kernel
theorem kd_Cr_codeStandardCall_96 : decode kc_Cr_codeStandardCall 96 = .ok (.iload_n 3, 1) := by decide +kernel
theorem kd_Cr_codeStandardCall_97 : decode kc_Cr_codeStandardCall 97 = .ok (.iconst 4, 1) := by decide +kernel
theorem kd_Cr_codeStandardCall_98 : decode kc_Cr_codeStandardCall 98 = .ok (.if_icmp .ne 17, 3) := by decide +kernel
theorem kd_Cr_codeStandardCall_101 : decode kc_Cr_codeStandardCall 101 = .ok (.aload_n 0, 1) := by decide +kernel
theorem kd_Cr_codeStandardCall_102 : decode kc_Cr_codeStandardCall 102 = .ok (.getfield 19, 3) := by decide +kernel
theorem kd_Cr_codeStandardCall_105 : decode kc_Cr_codeStandardCall 105 = .ok (.bipush 9, 2) := by decide +kernel
theorem kd_Cr_codeStandardCall_107 : decode kc_Cr_codeStandardCall 107 = .ok (.iconst 0, 1) := by decide +kernel
theorem kd_Cr_codeStandardCall_108 : decode kc_Cr_codeStandardCall 108 = .ok (.invokevirtual 101, 3) := by decide +kernel
theorem kd_Cr_codeStandardCall_111 : decode kc_Cr_codeStandardCall 111 = .ok (.pop, 1) := by decide +kernel
theorem kd_Cr_codeStandardCall_112 : decode kc_Cr_codeStandardCall 112 = .ok (.goto 55, 3) := by decide +kernel
theorem kd_Cr_codeStandardCall_115 : decode kc_Cr_codeStandardCall 115 = .ok (.iload_n 3, 1) := by decide +kernel
theorem kd_Cr_codeStandardCall_116 : decode kc_Cr_codeStandardCall 116 = .ok (.iconst 3, 1) := by decide +kernel
theorem kd_Cr_codeStandardCall_117 : decode kc_Cr_codeStandardCall 117 = .ok (.if_icmp .eq 50, 3) := by decide +kernel
theorem kd_Cr_codeStandardCall_120 : decode kc_Cr_codeStandardCall 120 = .ok (.iload_n 3, 1) := by decide +kernel
theorem kd_Cr_codeStandardCall_121 : decode kc_Cr_codeStandardCall 121 = .ok (.bipush 8, 2) := by decide +kernel
theorem kd_Cr_codeStandardCall_123 : decode kc_Cr_codeStandardCall 123 = .ok (.if_icmp .eq 44, 3) := by decide +kernel
theorem kd_Cr_codeStandardCall_126 : decode kc_Cr_codeStandardCall 126 = .ok (.getstatic 197, 3) := by decide +kernel
theorem kd_Cr_codeStandardCall_129 : decode kc_Cr_codeStandardCall 129 = .ok (.iload_n 3, 1) := by decide +kernel
theorem kd_Cr_codeStandardCall_130 : decode kc_Cr_codeStandardCall 130 = .ok (.iaload, 1) := by decide +kernel
theorem kd_Cr_codeStandardCall_131 : decode kc_Cr_codeStandardCall 131 = .ok (.iconst 1, 1) := by decide +kernel
theorem kd_Cr_codeStandardCall_132 : decode kc_Cr_codeStandardCall 132 = .ok (.if_icmp .ne 8, 3) := by decide +kernel
theorem kd_Cr_codeStandardCall_135 : decode kc_Cr_codeStandardCall 135 = .ok (.bipush 8, 2) := by decide +kernel
theorem kd_Cr_codeStandardCall_137 : decode kc_Cr_codeStandardCall 137 = .ok (.goto 5, 3) := by decide +kernel
theorem kd_Cr_codeStandardCall_140 : decode kc_Cr_codeStandardCall 140 = .ok (.bipush 7, 2) := by decide +kernel
theorem kd_Cr_codeStandardCall_142 : decode kc_Cr_codeStandardCall 142 = .ok (.istore 5, 2) := by decide +kernel
theorem kd_Cr_codeStandardCall_144 : decode kc_Cr_codeStandardCall 144 = .ok (.aload_n 0, 1) := by decide +kernel
theorem kd_Cr_codeStandardCall_145 : decode kc_Cr_codeStandardCall 145 = .ok (.getfield 19, 3) := by decide +kernel
theorem kd_Cr_codeStandardCall_148 : decode kc_Cr_codeStandardCall 148 = .ok (.iload 5, 2) := by decide +kernel
theorem kd_Cr_codeStandardCall_150 : decode kc_Cr_codeStandardCall 150 = .ok (.iload_n 3, 1) := by decide +kernel
theorem kd_Cr_codeStandardCall_151 : decode kc_Cr_codeStandardCall 151 = .ok (.aload_n 0, 1) := by decide +kernel
theorem kd_Cr_codeStandardCall_152 : decode kc_Cr_codeStandardCall 152 = .ok (.getfield 9, 3) := by decide +kernel
theorem kd_Cr_codeStandardCall_155 : decode kc_Cr_codeStandardCall 155 = .ok (.getfield 178, 3) := by decide +kernel
theorem kd_Cr_codeStandardCall_158 : decode kc_Cr_codeStandardCall 158 = .ok (.iload_n 1, 1) := by decide +kernel
theorem kd_Cr_codeStandardCall_159 : decode kc_Cr_codeStandardCall 159 = .ok (.baload, 1) := by decide +kernel
theorem kd_Cr_codeStandardCall_160 : decode kc_Cr_codeStandardCall 160 = .ok (.invokestatic 200, 3) := by decide +kernel
theorem kd_Cr_codeStandardCall_163 : decode kc_Cr_codeStandardCall 163 = .ok (.invokevirtual 101, 3) := by decide +kernel
theorem kd_Cr_codeStandardCall_166 : decode kc_Cr_codeStandardCall 166 = .ok (.pop, 1) := by decide +kernel
theorem kd_Cr_codeStandardCall_167 : decode kc_Cr_codeStandardCall 167 = .ok (.return_, 1) := by decide +kernel
set_option maxHeartbeats 4000000 in
set_option maxRecDepth 100000 in
theorem zb_Cr_codeCall_146 {X : zkj_T} {S : zs_T} {P : ze_T} {l : Launch} {D : va_G} {sz0 : Nat} {d : Nat} {rh : zs_H} (C : zk_C X km_Cr_codeCall (zs_G S l D sz0) { frames := 1 + (d + 1), cells := 0, slots := 0, locals := 24 + 26 * (d + 1) } (ze_E P)) (hR : zkj_R X (zd_PV S rh) (none)) {k88 : zs_H → Int32 → Int32 → Int32 → (Option zs_H)} (hk88 : ∀ (h : zs_H) (x3 : Int32) (x4 : Int32) (x6 : Int32), k88 h x3 x4 x6 = some rh → zk_Ab X (zs_W S h) 0 0 88 [(0, .ref (S.1 47)), (3, .int x3), (4, .int x4), (6, .int x6)] []) (h : zs_H) (x3 : Int32) (x4 : Int32) (x6 : Int32) (e : f_Cr_codeCall_146 k88 h x3 x4 x6 = some rh) : zk_Ab X (zs_W S h) 0 0 146 [(0, .ref (S.1 47)), (3, .int x3), (4, .int x4), (6, .int x6)] [] := by
  unfold f_Cr_codeCall_146 at e
  refine zk_iinc (v := (x6 + (-1))) (lv' := [(6, _), (0, _), (3, _), (4, _)]) C kd_Cr_codeCall_146 3 rfl rfl (by decide) rfl rfl ?_
  refine zk_goto (tgt := 88) C kd_Cr_codeCall_149 (by decide) ?_
  refine zk_lvs (lv' := [(0, .ref (S.1 47)), (3, .int x3), (4, .int x4), (6, .int (x6 + (-1)))]) [1, 2, 3, 0] rfl ?_
  exact hk88 h x3 x4 (x6 + (-1)) e
set_option maxHeartbeats 4000000 in
set_option maxRecDepth 100000 in
theorem zb_Cr_codeCall_88 {X : zkj_T} {S : zs_T} {P : ze_T} {l : Launch} {D : va_G} {sz0 : Nat} {d : Nat} {rh : zs_H} (C : zk_C X km_Cr_codeCall (zs_G S l D sz0) { frames := 1 + (d + 1), cells := 0, slots := 0, locals := 24 + 26 * (d + 1) } (ze_E P)) (hR : zkj_R X (zd_PV S rh) (none)) {k88 : zs_H → Int32 → Int32 → Int32 → (Option zs_H)} (hk88 : ∀ (h : zs_H) (x3 : Int32) (x4 : Int32) (x6 : Int32), k88 h x3 x4 x6 = some rh → zk_Ab X (zs_W S h) 0 0 88 [(0, .ref (S.1 47)), (3, .int x3), (4, .int x4), (6, .int x6)] []) (h : zs_H) (x3 : Int32) (x4 : Int32) (x6 : Int32) (e : f_Cr_codeCall_88 k88 h x3 x4 x6 = some rh) : zk_Ab X (zs_W S h) 0 0 88 [(0, .ref (S.1 47)), (3, .int x3), (4, .int x4), (6, .int x6)] [] := by
  unfold f_Cr_codeCall_88 at e
  refine zk_iload C kd_Cr_codeCall_88 3 rfl rfl ?_
  refine zk_aload_n C kd_Cr_codeCall_90 rfl 0 rfl rfl ?_
  refine zs_get (v := .ref (S.1 20)) C 47 1 rfl rfl rfl rfl ki_Cr (by decide) kw443 kd_Cr_codeCall_91 rfl ?_
  refine zs_get (v := .ref (S.1 23)) C 20 2 rfl rfl rfl rfl ki_Pl (by decide) kw240 kd_Cr_codeCall_94 rfl ?_
  refine zk_iload_n C kd_Cr_codeCall_97 rfl 1 rfl rfl ?_
  obtain ⟨q1, e⟩ := zd_g e
  refine zs_iald C 23 rfl (zd_vp q1) kd_Cr_codeCall_98 rfl ?_
  refine zk_icmp_lt (tgt := 152) C kd_Cr_codeCall_99 (by decide) rfl (fun b2 => ?_) (fun b2 => ?_)
  · replace e := zd_pos b2 e
    refine zk_aload_n C kd_Cr_codeCall_152 rfl 0 rfl rfl ?_
    refine zs_get (v := .ref (S.1 41)) C 47 2 rfl rfl rfl rfl ki_Cr (by decide) kw444 kd_Cr_codeCall_153 rfl ?_
    refine zk_bipush (v := 16) C kd_Cr_codeCall_156 (by decide) rfl ?_
    refine zk_iload C kd_Cr_codeCall_158 2 rfl rfl ?_
    obtain ⟨v4, h5, c3, e⟩ := zd_Be e
    refine zs_callV (k := 41) (rn := { frames := 0, cells := 0, slots := 0, locals := 0 }) (As := [.int 16, .int x4]) (rest := []) C (zc_Cd_emit h 16 x4 c3) ku_Cd_emit kw1278 kv_Cd_emit rfl (zd_rmO (by decide) (by decide)) ⟨Nat.le_refl _, Nat.le_refl _⟩ rfl rfl rfl (Nat.le_of_ble_eq_true rfl) kd_Cr_codeCall_160 rfl (c1 := 0) (s1 := 0) rfl rfl (fun v w hp => ?_)
    obtain ⟨rfl, rfl⟩ := hp
    refine zk_stk (r' := [.int v4]) rfl ?_
    refine zk_pop C kd_Cr_codeCall_163 rfl rfl ?_
    refine zk_aload_n C kd_Cr_codeCall_164 rfl 0 rfl rfl ?_
    refine zs_get (v := .ref (S.1 41)) C 47 2 rfl rfl rfl rfl ki_Cr (by decide) kw444 kd_Cr_codeCall_165 rfl ?_
    refine zk_iconst (v := 5) C kd_Cr_codeCall_168 (by decide) rfl ?_
    refine zk_iload C kd_Cr_codeCall_169 2 rfl rfl ?_
    obtain ⟨v7, h8, c6, e⟩ := zd_Be e
    refine zs_callV (k := 41) (rn := { frames := 0, cells := 0, slots := 0, locals := 0 }) (As := [.int 5, .int x4]) (rest := []) C (zc_Cd_emit h5 5 x4 c6) ku_Cd_emit kw1278 kv_Cd_emit rfl (zd_rmO (by decide) (by decide)) ⟨Nat.le_refl _, Nat.le_refl _⟩ rfl rfl rfl (Nat.le_of_ble_eq_true rfl) kd_Cr_codeCall_171 rfl (c1 := 0) (s1 := 0) rfl rfl (fun v w hp => ?_)
    obtain ⟨rfl, rfl⟩ := hp
    refine zk_stk (r' := [.int v7]) rfl ?_
    refine zk_pop C kd_Cr_codeCall_174 rfl rfl ?_
    exact zk_vret C hR kd_Cr_codeCall_175 rfl rfl (zd_rV e)
  · replace e := zd_neg b2 e
    refine zk_aload_n C kd_Cr_codeCall_102 rfl 0 rfl rfl ?_
    refine zs_get (v := .ref (S.1 20)) C 47 1 rfl rfl rfl rfl ki_Cr (by decide) kw443 kd_Cr_codeCall_103 rfl ?_
    refine zs_get (v := .ref (S.1 29)) C 20 8 rfl rfl rfl rfl ki_Pl (by decide) kw258 kd_Cr_codeCall_106 rfl ?_
    refine zk_iload C kd_Cr_codeCall_109 3 rfl rfl ?_
    obtain ⟨q9, e⟩ := zd_g e
    refine zs_iald C 29 rfl (zd_vp q9) kd_Cr_codeCall_111 rfl ?_
    refine zk_iconst (v := 1) C kd_Cr_codeCall_112 (by decide) rfl ?_
    refine zk_icmp_ne (tgt := 146) C kd_Cr_codeCall_113 (by decide) rfl (fun b10 => ?_) (fun b10 => ?_)
    · replace e := zd_neg b10 e
      refine zk_lvs (lv' := [(0, .ref (S.1 47)), (3, .int x3), (4, .int x4), (6, .int x6)]) [0, 1, 2, 3] rfl ?_
      exact zb_Cr_codeCall_146 C hR hk88 h x3 x4 x6 e
    · replace e := zd_pos b10 e
      refine zk_aload_n C kd_Cr_codeCall_116 rfl 0 rfl rfl ?_
      refine zs_get (v := .ref (S.1 41)) C 47 2 rfl rfl rfl rfl ki_Cr (by decide) kw444 kd_Cr_codeCall_117 rfl ?_
      refine zk_bipush (v := 6) C kd_Cr_codeCall_120 (by decide) rfl ?_
      refine zk_iload C kd_Cr_codeCall_122 2 rfl rfl ?_
      obtain ⟨v12, h13, c11, e⟩ := zd_Be e
      refine zs_callV (k := 41) (rn := { frames := 0, cells := 0, slots := 0, locals := 0 }) (As := [.int 6, .int x4]) (rest := []) C (zc_Cd_emit h 6 x4 c11) ku_Cd_emit kw1278 kv_Cd_emit rfl (zd_rmO (by decide) (by decide)) ⟨Nat.le_refl _, Nat.le_refl _⟩ rfl rfl rfl (Nat.le_of_ble_eq_true rfl) kd_Cr_codeCall_124 rfl (c1 := 0) (s1 := 0) rfl rfl (fun v w hp => ?_)
      obtain ⟨rfl, rfl⟩ := hp
      refine zk_stk (r' := [.int v12]) rfl ?_
      refine zk_pop C kd_Cr_codeCall_127 rfl rfl ?_
      refine zk_aload_n C kd_Cr_codeCall_128 rfl 0 rfl rfl ?_
      refine zs_get (v := .ref (S.1 41)) C 47 2 rfl rfl rfl rfl ki_Cr (by decide) kw444 kd_Cr_codeCall_129 rfl ?_
      refine zk_aload_n C kd_Cr_codeCall_132 rfl 0 rfl rfl ?_
      refine zs_get (v := .ref (S.1 20)) C 47 1 rfl rfl rfl rfl ki_Cr (by decide) kw443 kd_Cr_codeCall_133 rfl ?_
      refine zs_get (v := .ref (S.1 32)) C 20 11 rfl rfl rfl rfl ki_Pl (by decide) kw269 kd_Cr_codeCall_136 rfl ?_
      refine zk_iload C kd_Cr_codeCall_139 3 rfl rfl ?_
      obtain ⟨q14, e⟩ := zd_g e
      refine zs_iald C 32 rfl (zd_vp q14) kd_Cr_codeCall_141 rfl ?_
      refine zk_iconst (v := 0) C kd_Cr_codeCall_142 (by decide) rfl ?_
      obtain ⟨h16, c15, e⟩ := zd_b e
      refine zs_callV (k := 41) (rn := { frames := 0, cells := 0, slots := 0, locals := 0 }) (As := [.int (h13.2.1 32 x6.toNatClampNeg), .int 0]) (rest := []) C (zc_Cd_with h13 (h13.2.1 32 x6.toNatClampNeg) 0 c15) ku_Cd_with kw1298 kv_Cd_with rfl (zd_rmO (by decide) (by decide)) ⟨Nat.le_refl _, Nat.le_refl _⟩ rfl rfl rfl (Nat.le_of_ble_eq_true rfl) kd_Cr_codeCall_143 rfl (c1 := 0) (s1 := 0) rfl rfl (fun v w hp => ?_)
      obtain ⟨rfl, rfl⟩ := hp
      refine zk_stk (r' := []) rfl ?_
      refine zk_lvs (lv' := [(0, .ref (S.1 47)), (3, .int x3), (4, .int x4), (6, .int x6)]) [0, 1, 2, 3] rfl ?_
      exact zb_Cr_codeCall_146 C hR hk88 h16 x3 x4 x6 e
theorem zl_Cr_codeCall_88 {X : zkj_T} {S : zs_T} {P : ze_T} {l : Launch} {D : va_G} {sz0 : Nat} {d : Nat} {rh : zs_H} (C : zk_C X km_Cr_codeCall (zs_G S l D sz0) { frames := 1 + (d + 1), cells := 0, slots := 0, locals := 24 + 26 * (d + 1) } (ze_E P)) (hR : zkj_R X (zd_PV S rh) (none)) (n : Nat) : ∀ (h : zs_H) (x3 : Int32) (x4 : Int32) (x6 : Int32), f_Cr_codeCall_L88 n h x3 x4 x6 = some rh → zk_Ab X (zs_W S h) 0 0 88 [(0, .ref (S.1 47)), (3, .int x3), (4, .int x4), (6, .int x6)] [] := by
  induction n with
  | zero => intro h x3 x4 x6 e; exact zd_no e
  | succ n ih => intro h x3 x4 x6 e; exact zb_Cr_codeCall_88 (k88 := f_Cr_codeCall_L88  n) C hR ih h x3 x4 x6 e
set_option maxHeartbeats 4000000 in
set_option maxRecDepth 100000 in
theorem zb_Cr_codeCall_75 {X : zkj_T} {S : zs_T} {P : ze_T} {l : Launch} {D : va_G} {sz0 : Nat} {d : Nat} {rh : zs_H} (C : zk_C X km_Cr_codeCall (zs_G S l D sz0) { frames := 1 + (d + 1), cells := 0, slots := 0, locals := 24 + 26 * (d + 1) } (ze_E P)) (hR : zkj_R X (zd_PV S rh) (none)) (h : zs_H) (x3 : Int32) (x4 : Int32) (e : f_Cr_codeCall_75 h x3 x4 = some rh) : zk_Ab X (zs_W S h) 0 0 75 [(0, .ref (S.1 47)), (3, .int x3), (4, .int x4)] [] := by
  unfold f_Cr_codeCall_75 at e
  refine zk_aload_n C kd_Cr_codeCall_75 rfl 0 rfl rfl ?_
  refine zs_get (v := .ref (S.1 20)) C 47 1 rfl rfl rfl rfl ki_Cr (by decide) kw443 kd_Cr_codeCall_76 rfl ?_
  refine zs_get (v := .ref (S.1 24)) C 20 3 rfl rfl rfl rfl ki_Pl (by decide) kw244 kd_Cr_codeCall_79 rfl ?_
  refine zk_iload_n C kd_Cr_codeCall_82 rfl 1 rfl rfl ?_
  obtain ⟨q1, e⟩ := zd_g e
  refine zs_iald C 24 rfl (zd_vp q1) kd_Cr_codeCall_83 rfl ?_
  refine zk_iconst (v := 1) C kd_Cr_codeCall_84 (by decide) rfl ?_
  refine zk_isub C kd_Cr_codeCall_85 rfl ?_
  refine zk_istore (lv' := [(6, _), (0, _), (3, _), (4, _)]) C kd_Cr_codeCall_86 (by decide) rfl rfl ?_
  refine zk_lvs (lv' := [(0, .ref (S.1 47)), (3, .int x3), (4, .int x4), (6, .int ((h.2.1 24 x3.toNatClampNeg) - 1))]) [1, 2, 3, 0] rfl ?_
  exact zl_Cr_codeCall_88 C hR zF h x3 x4 ((h.2.1 24 x3.toNatClampNeg) - 1) e
set_option maxHeartbeats 4000000 in
set_option maxRecDepth 100000 in
theorem zb_Cr_codeCall_30 {X : zkj_T} {S : zs_T} {P : ze_T} {l : Launch} {D : va_G} {sz0 : Nat} {d : Nat} {rh : zs_H} (C : zk_C X km_Cr_codeCall (zs_G S l D sz0) { frames := 1 + (d + 1), cells := 0, slots := 0, locals := 24 + 26 * (d + 1) } (ze_E P)) (hR : zkj_R X (zd_PV S rh) (none)) {r_Cr_codeExpression : zs_H → Int32 → Int32 → (Option zs_H)} (hr_Cr_codeExpression : ∀ (h : zs_H) (x0 : Int32) (x1 : Int32) {rh : zs_H}, r_Cr_codeExpression h x0 x1 = some rh → zk_Sp (zs_G S l D sz0) (ze_E P) km_Cr_codeExpression { frames := 1 + d, cells := 0, slots := 0, locals := 24 + 26 * d } [.ref (S.1 47), .int x0, .int x1] (zs_W S h) (zd_PV S rh)) {k30 : zs_H → Int32 → Int32 → Int32 → Int32 → Int32 → (Option zs_H)} (hk30 : ∀ (h : zs_H) (x2 : Int32) (x3 : Int32) (x4 : Int32) (x5 : Int32) (x6 : Int32), k30 h x2 x3 x4 x5 x6 = some rh → zk_Ab X (zs_W S h) 0 0 30 [(0, .ref (S.1 47)), (2, .int x2), (3, .int x3), (4, .int x4), (5, .int x5), (6, .int x6)] []) (h : zs_H) (x2 : Int32) (x3 : Int32) (x4 : Int32) (x5 : Int32) (x6 : Int32) (e : f_Cr_codeCall_30 r_Cr_codeExpression k30 h x2 x3 x4 x5 x6 = some rh) : zk_Ab X (zs_W S h) 0 0 30 [(0, .ref (S.1 47)), (2, .int x2), (3, .int x3), (4, .int x4), (5, .int x5), (6, .int x6)] [] := by
  unfold f_Cr_codeCall_30 at e
  refine zk_iload C kd_Cr_codeCall_30 5 rfl rfl ?_
  refine zk_aload_n C kd_Cr_codeCall_32 rfl 0 rfl rfl ?_
  refine zs_get (v := .ref (S.1 12)) C 47 0 rfl rfl rfl rfl ki_Cr (by decide) kw442 kd_Cr_codeCall_33 rfl ?_
  refine zs_get (v := .int (h.1 12 6)) C 12 6 rfl rfl rfl rfl ki_Tr (by decide) kw178 kd_Cr_codeCall_36 rfl ?_
  refine zk_icmp_ge (tgt := 75) C kd_Cr_codeCall_39 (by decide) rfl (fun b1 => ?_) (fun b1 => ?_)
  · replace e := zd_pos b1 e
    refine zk_lvs (lv' := [(0, .ref (S.1 47)), (3, .int x3), (4, .int x4)]) [0, 2, 3] rfl ?_
    exact zb_Cr_codeCall_75 C hR h x3 x4 e
  · replace e := zd_neg b1 e
    refine zk_iload C kd_Cr_codeCall_42 4 rfl rfl ?_
    refine zk_iconst (v := (-1)) C kd_Cr_codeCall_44 (by decide) rfl ?_
    refine zk_icmp_eq (tgt := 75) C kd_Cr_codeCall_45 (by decide) rfl (fun b2 => ?_) (fun b2 => ?_)
    · replace e := zd_pos b2 e
      refine zk_lvs (lv' := [(0, .ref (S.1 47)), (3, .int x3), (4, .int x4)]) [0, 2, 3] rfl ?_
      exact zb_Cr_codeCall_75 C hR h x3 x4 e
    · replace e := zd_neg b2 e
      refine zk_aload_n C kd_Cr_codeCall_48 rfl 0 rfl rfl ?_
      refine zk_iload C kd_Cr_codeCall_49 4 rfl rfl ?_
      refine zk_iload_n C kd_Cr_codeCall_51 rfl 1 rfl rfl ?_
      refine zk_iconst (v := 1) C kd_Cr_codeCall_52 (by decide) rfl ?_
      refine zk_iadd C kd_Cr_codeCall_53 rfl ?_
      obtain ⟨h4, c3, e⟩ := zd_b e
      refine zs_callV (k := 47) (rn := { frames := 1 + d, cells := 0, slots := 0, locals := 24 + 26 * d }) (As := [.int x5, .int (x2 + 1)]) (rest := []) C (hr_Cr_codeExpression h x5 (x2 + 1) c3) ku_Cr_codeExpression kw1290 kv_Cr_codeExpression rfl (zd_rmI (by decide)) ⟨Nat.le_refl _, Nat.le_refl _⟩ rfl rfl rfl (Nat.le_of_ble_eq_true rfl) kd_Cr_codeCall_54 rfl (c1 := 0) (s1 := 0) rfl rfl (fun v w hp => ?_)
      obtain ⟨rfl, rfl⟩ := hp
      refine zk_stk (r' := []) rfl ?_
      refine zk_aload_n C kd_Cr_codeCall_57 rfl 0 rfl rfl ?_
      refine zs_get (v := .ref (S.1 12)) C 47 0 rfl rfl rfl rfl ki_Cr (by decide) kw442 kd_Cr_codeCall_58 rfl ?_
      refine zs_get (v := .ref (S.1 18)) C 12 5 rfl rfl rfl rfl ki_Tr (by decide) kw174 kd_Cr_codeCall_61 rfl ?_
      refine zk_iload C kd_Cr_codeCall_64 4 rfl rfl ?_
      obtain ⟨q5, e⟩ := zd_g e
      refine zs_iald C 18 rfl (zd_vp q5) kd_Cr_codeCall_66 rfl ?_
      refine zk_istore (lv' := [(5, _), (0, _), (2, _), (3, _), (4, _), (6, _)]) C kd_Cr_codeCall_67 (by decide) rfl rfl ?_
      refine zk_iinc (v := (x6 + 1)) (lv' := [(6, _), (5, _), (0, _), (2, _), (3, _), (4, _)]) C kd_Cr_codeCall_69 5 rfl rfl (by decide) rfl rfl ?_
      refine zk_goto (tgt := 30) C kd_Cr_codeCall_72 (by decide) ?_
      refine zk_lvs (lv' := [(0, .ref (S.1 47)), (2, .int x2), (3, .int x3), (4, .int x4), (5, .int (h4.2.1 18 x5.toNatClampNeg)), (6, .int (x6 + 1))]) [2, 3, 4, 5, 1, 0] rfl ?_
      exact hk30 h4 x2 x3 x4 (h4.2.1 18 x5.toNatClampNeg) (x6 + 1) e
theorem zl_Cr_codeCall_30 {X : zkj_T} {S : zs_T} {P : ze_T} {l : Launch} {D : va_G} {sz0 : Nat} {d : Nat} {rh : zs_H} (C : zk_C X km_Cr_codeCall (zs_G S l D sz0) { frames := 1 + (d + 1), cells := 0, slots := 0, locals := 24 + 26 * (d + 1) } (ze_E P)) (hR : zkj_R X (zd_PV S rh) (none)) {r_Cr_codeExpression : zs_H → Int32 → Int32 → (Option zs_H)} (hr_Cr_codeExpression : ∀ (h : zs_H) (x0 : Int32) (x1 : Int32) {rh : zs_H}, r_Cr_codeExpression h x0 x1 = some rh → zk_Sp (zs_G S l D sz0) (ze_E P) km_Cr_codeExpression { frames := 1 + d, cells := 0, slots := 0, locals := 24 + 26 * d } [.ref (S.1 47), .int x0, .int x1] (zs_W S h) (zd_PV S rh)) (n : Nat) : ∀ (h : zs_H) (x2 : Int32) (x3 : Int32) (x4 : Int32) (x5 : Int32) (x6 : Int32), f_Cr_codeCall_L30 r_Cr_codeExpression n h x2 x3 x4 x5 x6 = some rh → zk_Ab X (zs_W S h) 0 0 30 [(0, .ref (S.1 47)), (2, .int x2), (3, .int x3), (4, .int x4), (5, .int x5), (6, .int x6)] [] := by
  induction n with
  | zero => intro h x2 x3 x4 x5 x6 e; exact zd_no e
  | succ n ih => intro h x2 x3 x4 x5 x6 e; exact zb_Cr_codeCall_30 (k30 := f_Cr_codeCall_L30 r_Cr_codeExpression n) C hR hr_Cr_codeExpression ih h x2 x3 x4 x5 x6 e
set_option maxHeartbeats 4000000 in
set_option maxRecDepth 100000 in
theorem zg_Cr_codeCall {l : Launch} {D : va_G} {sz0 : Nat} {S : zs_T} {P : ze_T} {d : Nat} {r_Cr_codeExpression : zs_H → Int32 → Int32 → (Option zs_H)} (hr_Cr_codeExpression : ∀ (h : zs_H) (x0 : Int32) (x1 : Int32) {rh : zs_H}, r_Cr_codeExpression h x0 x1 = some rh → zk_Sp (zs_G S l D sz0) (ze_E P) km_Cr_codeExpression { frames := 1 + d, cells := 0, slots := 0, locals := 24 + 26 * d } [.ref (S.1 47), .int x0, .int x1] (zs_W S h) (zd_PV S rh)) (h : zs_H) (x1 : Int32) (x2 : Int32) {rh : zs_H} (e : g_Cr_codeCall r_Cr_codeExpression h x1 x2 = some rh) : zk_Sp (zs_G S l D sz0) (ze_E P) km_Cr_codeCall { frames := 1 + (d + 1), cells := 0, slots := 0, locals := 24 + 26 * (d + 1) } [.ref (S.1 47), .int x1, .int x2] (zs_W S h) (zd_PV S rh) := by
  refine zk_met ku_Cr_codeCall (Nat.le_of_ble_eq_true rfl) (ze_Em P) ?_
  intro X C hR
  refine zk_lvs (lv' := [(0, .ref (S.1 47)), (1, .int x1), (2, .int x2)]) [0, 1, 2] rfl ?_
  unfold g_Cr_codeCall at e
  refine zk_aload_n C kd_Cr_codeCall_0 rfl 0 rfl rfl ?_
  refine zs_get (v := .ref (S.1 12)) C 47 0 rfl rfl rfl rfl ki_Cr (by decide) kw442 kd_Cr_codeCall_1 rfl ?_
  refine zs_get (v := .ref (S.1 16)) C 12 3 rfl rfl rfl rfl ki_Tr (by decide) kw167 kd_Cr_codeCall_4 rfl ?_
  refine zk_iload_n C kd_Cr_codeCall_7 rfl 1 rfl rfl ?_
  obtain ⟨q1, e⟩ := zd_g e
  refine zs_iald C 16 rfl (zd_vp q1) kd_Cr_codeCall_8 rfl ?_
  refine zk_istore_n (lv' := [(3, _), (0, _), (1, _), (2, _)]) C kd_Cr_codeCall_9 rfl (by decide) rfl rfl ?_
  refine zk_iload_n C kd_Cr_codeCall_10 rfl 0 rfl rfl ?_
  refine zk_bipush (v := 9) C kd_Cr_codeCall_11 (by decide) rfl ?_
  refine zk_isub C kd_Cr_codeCall_13 rfl ?_
  refine zk_istore (lv' := [(4, _), (3, _), (0, _), (1, _), (2, _)]) C kd_Cr_codeCall_14 (by decide) rfl rfl ?_
  refine zk_aload_n C kd_Cr_codeCall_16 rfl 2 rfl rfl ?_
  refine zs_get (v := .ref (S.1 12)) C 47 0 rfl rfl rfl rfl ki_Cr (by decide) kw442 kd_Cr_codeCall_17 rfl ?_
  refine zs_get (v := .ref (S.1 17)) C 12 4 rfl rfl rfl rfl ki_Tr (by decide) kw171 kd_Cr_codeCall_20 rfl ?_
  refine zk_iload_n C kd_Cr_codeCall_23 rfl 3 rfl rfl ?_
  refine zs_iald C 17 rfl (zd_vp q1) kd_Cr_codeCall_24 rfl ?_
  refine zk_istore (lv' := [(5, _), (4, _), (3, _), (0, _), (1, _), (2, _)]) C kd_Cr_codeCall_25 (by decide) rfl rfl ?_
  refine zk_iconst (v := 0) C kd_Cr_codeCall_27 (by decide) rfl ?_
  refine zk_istore (lv' := [(6, _), (5, _), (4, _), (3, _), (0, _), (1, _), (2, _)]) C kd_Cr_codeCall_28 (by decide) rfl rfl ?_
  refine zk_lvs (lv' := [(0, .ref (S.1 47)), (2, .int x2), (3, .int (h.2.1 16 x1.toNatClampNeg)), (4, .int ((h.2.1 16 x1.toNatClampNeg) - 9)), (5, .int (h.2.1 17 x1.toNatClampNeg)), (6, .int 0)]) [4, 6, 3, 2, 1, 0] rfl ?_
  exact zl_Cr_codeCall_30 C hR hr_Cr_codeExpression zF h x2 (h.2.1 16 x1.toNatClampNeg) ((h.2.1 16 x1.toNatClampNeg) - 9) (h.2.1 17 x1.toNatClampNeg) 0 e
set_option maxHeartbeats 4000000 in
set_option maxRecDepth 100000 in
theorem zb_Cr_codeExpression_252 {X : zkj_T} {S : zs_T} {P : ze_T} {l : Launch} {D : va_G} {sz0 : Nat} {d : Nat} {rh : zs_H} (C : zk_C X km_Cr_codeExpression (zs_G S l D sz0) { frames := 1 + (d + 1), cells := 0, slots := 0, locals := 24 + 26 * (d + 1) } (ze_E P)) (hR : zkj_R X (zd_PV S rh) (none)) (h : zs_H) (x1 : Int32) (y0 : Int32) (y1 : Int32) (e : f_Cr_codeExpression_252 h x1 y0 y1 = some rh) : zk_Ab X (zs_W S h) 0 0 252 [(0, .ref (S.1 47)), (1, .int x1)] [.int y0, .int y1, .ref (S.1 41)] := by
  unfold f_Cr_codeExpression_252 at e
  refine zk_aload_n C kd_Cr_codeExpression_252 rfl 0 rfl rfl ?_
  refine zs_get (v := .ref (S.1 12)) C 47 0 rfl rfl rfl rfl ki_Cr (by decide) kw442 kd_Cr_codeExpression_253 rfl ?_
  refine zs_get (v := .ref (S.1 14)) C 12 1 rfl rfl rfl rfl ki_Tr (by decide) kw161 kd_Cr_codeExpression_256 rfl ?_
  refine zk_iload_n C kd_Cr_codeExpression_259 rfl 1 rfl rfl ?_
  obtain ⟨q1, e⟩ := zd_g e
  refine zs_bald C 14 rfl (zd_vp q1) kd_Cr_codeExpression_260 rfl ?_
  refine zk_callS (rn := { frames := 0, cells := 0, slots := 0, locals := 0 }) (As := [.int y0, .int (h.2.1 14 x1.toNatClampNeg)]) (rest := [.int y1, .ref (S.1 41)]) C (zc_Cd_turning h y0 (h.2.1 14 x1.toNatClampNeg)) ku_Cd_turning kw1303 ks_Cd_turning rfl (zd_rmO (by decide) (by decide)) ⟨Nat.le_refl _, Nat.le_refl _⟩ rfl (Nat.le_of_ble_eq_true rfl) kd_Cr_codeExpression_261 rfl (c1 := 0) (s1 := 0) rfl rfl (fun v w hp => ?_)
  obtain ⟨rfl, rfl⟩ := hp
  refine zk_stk (r' := [.int (f_Cd_turning y0 (h.2.1 14 x1.toNatClampNeg)), .int y1, .ref (S.1 41)]) rfl ?_
  obtain ⟨v3, h4, c2, e⟩ := zd_Be e
  refine zs_callV (k := 41) (rn := { frames := 0, cells := 0, slots := 0, locals := 0 }) (As := [.int y1, .int (f_Cd_turning y0 (h.2.1 14 x1.toNatClampNeg))]) (rest := []) C (zc_Cd_emit h y1 (f_Cd_turning y0 (h.2.1 14 x1.toNatClampNeg)) c2) ku_Cd_emit kw1278 kv_Cd_emit rfl (zd_rmO (by decide) (by decide)) ⟨Nat.le_refl _, Nat.le_refl _⟩ rfl rfl rfl (Nat.le_of_ble_eq_true rfl) kd_Cr_codeExpression_264 rfl (c1 := 0) (s1 := 0) rfl rfl (fun v w hp => ?_)
  obtain ⟨rfl, rfl⟩ := hp
  refine zk_stk (r' := [.int v3]) rfl ?_
  refine zk_pop C kd_Cr_codeExpression_267 rfl rfl ?_
  refine zk_goto (tgt := 299) C kd_Cr_codeExpression_268 (by decide) ?_
  exact zk_vret C hR kd_Cr_codeExpression_299 rfl rfl (zd_rV e)
set_option maxHeartbeats 4000000 in
set_option maxRecDepth 100000 in
theorem zg_Cr_codeExpression {l : Launch} {D : va_G} {sz0 : Nat} {S : zs_T} {P : ze_T} {d : Nat} {r_Cr_codeCall : zs_H → Int32 → Int32 → (Option zs_H)} (hr_Cr_codeCall : ∀ (h : zs_H) (x0 : Int32) (x1 : Int32) {rh : zs_H}, r_Cr_codeCall h x0 x1 = some rh → zk_Sp (zs_G S l D sz0) (ze_E P) km_Cr_codeCall { frames := 1 + d, cells := 0, slots := 0, locals := 24 + 26 * d } [.ref (S.1 47), .int x0, .int x1] (zs_W S h) (zd_PV S rh)) {r_Cr_codeExpression : zs_H → Int32 → Int32 → (Option zs_H)} (hr_Cr_codeExpression : ∀ (h : zs_H) (x0 : Int32) (x1 : Int32) {rh : zs_H}, r_Cr_codeExpression h x0 x1 = some rh → zk_Sp (zs_G S l D sz0) (ze_E P) km_Cr_codeExpression { frames := 1 + d, cells := 0, slots := 0, locals := 24 + 26 * d } [.ref (S.1 47), .int x0, .int x1] (zs_W S h) (zd_PV S rh)) {r_Cr_codeStandardCall : zs_H → Int32 → Int32 → (Option zs_H)} (hr_Cr_codeStandardCall : ∀ (h : zs_H) (x0 : Int32) (x1 : Int32) {rh : zs_H}, r_Cr_codeStandardCall h x0 x1 = some rh → zk_Sp (zs_G S l D sz0) (ze_E P) km_Cr_codeStandardCall { frames := 1 + d, cells := 0, slots := 0, locals := 24 + 26 * d } [.ref (S.1 47), .int x0, .int x1] (zs_W S h) (zd_PV S rh)) (h : zs_H) (x1 : Int32) (x2 : Int32) {rh : zs_H} (e : g_Cr_codeExpression r_Cr_codeCall r_Cr_codeExpression r_Cr_codeStandardCall h x1 x2 = some rh) : zk_Sp (zs_G S l D sz0) (ze_E P) km_Cr_codeExpression { frames := 1 + (d + 1), cells := 0, slots := 0, locals := 24 + 26 * (d + 1) } [.ref (S.1 47), .int x1, .int x2] (zs_W S h) (zd_PV S rh) := by
  refine zk_met ku_Cr_codeExpression (Nat.le_of_ble_eq_true rfl) (ze_Em P) ?_
  intro X C hR
  refine zk_lvs (lv' := [(0, .ref (S.1 47)), (1, .int x1), (2, .int x2)]) [0, 1, 2] rfl ?_
  unfold g_Cr_codeExpression at e
  refine zk_iload_n C kd_Cr_codeExpression_0 rfl 2 rfl rfl ?_
  refine zk_sipush (v := 240) C kd_Cr_codeExpression_1 (by decide) rfl ?_
  refine zk_icmp_le (tgt := 8) C kd_Cr_codeExpression_4 (by decide) rfl (fun b1 => ?_) (fun b1 => ?_)
  · replace e := zd_pos b1 e
    refine zk_aload_n C kd_Cr_codeExpression_8 rfl 0 rfl rfl ?_
    refine zs_get (v := .ref (S.1 12)) C 47 0 rfl rfl rfl rfl ki_Cr (by decide) kw442 kd_Cr_codeExpression_9 rfl ?_
    refine zs_get (v := .ref (S.1 16)) C 12 3 rfl rfl rfl rfl ki_Tr (by decide) kw167 kd_Cr_codeExpression_12 rfl ?_
    refine zk_iload_n C kd_Cr_codeExpression_15 rfl 1 rfl rfl ?_
    obtain ⟨q2, e⟩ := zd_g e
    refine zs_iald C 16 rfl (zd_vp q2) kd_Cr_codeExpression_16 rfl ?_
    refine zk_istore_n (lv' := [(3, _), (0, _), (1, _), (2, _)]) C kd_Cr_codeExpression_17 rfl (by decide) rfl rfl ?_
    refine zk_aload_n C kd_Cr_codeExpression_18 rfl 1 rfl rfl ?_
    refine zs_get (v := .ref (S.1 12)) C 47 0 rfl rfl rfl rfl ki_Cr (by decide) kw442 kd_Cr_codeExpression_19 rfl ?_
    refine zs_get (v := .ref (S.1 17)) C 12 4 rfl rfl rfl rfl ki_Tr (by decide) kw171 kd_Cr_codeExpression_22 rfl ?_
    refine zk_iload_n C kd_Cr_codeExpression_25 rfl 2 rfl rfl ?_
    refine zs_iald C 17 rfl (zd_vp q2) kd_Cr_codeExpression_26 rfl ?_
    refine zk_istore (lv' := [(4, _), (3, _), (0, _), (1, _), (2, _)]) C kd_Cr_codeExpression_27 (by decide) rfl rfl ?_
    refine zk_aload_n C kd_Cr_codeExpression_29 rfl 2 rfl rfl ?_
    refine zs_get (v := .ref (S.1 12)) C 47 0 rfl rfl rfl rfl ki_Cr (by decide) kw442 kd_Cr_codeExpression_30 rfl ?_
    refine zs_get (v := .ref (S.1 13)) C 12 0 rfl rfl rfl rfl ki_Tr (by decide) kw156 kd_Cr_codeExpression_33 rfl ?_
    refine zk_iload_n C kd_Cr_codeExpression_36 rfl 3 rfl rfl ?_
    refine zs_bald C 13 rfl (zd_vp q2) kd_Cr_codeExpression_37 rfl ?_
    by_cases b3 : (h.2.1 13 x1.toNatClampNeg) = 6
    · replace e := zd_pos b3 e
      refine zk_lookup (tgt := 104) C kd_Cr_codeExpression_38 (by decide) (by rw [b3]) (by decide) ?_
      refine zk_aload_n C kd_Cr_codeExpression_104 rfl 2 rfl rfl ?_
      refine zs_get (v := .ref (S.1 41)) C 47 2 rfl rfl rfl rfl ki_Cr (by decide) kw444 kd_Cr_codeExpression_105 rfl ?_
      refine zk_iconst (v := 1) C kd_Cr_codeExpression_108 (by decide) rfl ?_
      refine zk_aload_n C kd_Cr_codeExpression_109 rfl 2 rfl rfl ?_
      refine zk_iload_n C kd_Cr_codeExpression_110 rfl 3 rfl rfl ?_
      obtain ⟨v5, c4, e⟩ := zd_b e
      refine zs_callV (k := 47) (rn := { frames := 0, cells := 0, slots := 0, locals := 0 }) (As := [.int x1]) (rest := [.int 1, .ref (S.1 41)]) C (zc_Cr_cellOf h x1 c4) ku_Cr_cellOf kw1294 kv_Cr_cellOf rfl (zd_rmO (by decide) (by decide)) ⟨Nat.le_refl _, Nat.le_refl _⟩ rfl rfl rfl (Nat.le_of_ble_eq_true rfl) kd_Cr_codeExpression_111 rfl (c1 := 0) (s1 := 0) rfl rfl (fun v w hp => ?_)
      obtain ⟨rfl, rfl⟩ := hp
      refine zk_stk (r' := [.int v5, .int 1, .ref (S.1 41)]) rfl ?_
      obtain ⟨v7, h8, c6, e⟩ := zd_Be e
      refine zs_callV (k := 41) (rn := { frames := 0, cells := 0, slots := 0, locals := 0 }) (As := [.int 1, .int v5]) (rest := []) C (zc_Cd_emit h 1 v5 c6) ku_Cd_emit kw1278 kv_Cd_emit rfl (zd_rmO (by decide) (by decide)) ⟨Nat.le_refl _, Nat.le_refl _⟩ rfl rfl rfl (Nat.le_of_ble_eq_true rfl) kd_Cr_codeExpression_114 rfl (c1 := 0) (s1 := 0) rfl rfl (fun v w hp => ?_)
      obtain ⟨rfl, rfl⟩ := hp
      refine zk_stk (r' := [.int v7]) rfl ?_
      refine zk_pop C kd_Cr_codeExpression_117 rfl rfl ?_
      refine zk_goto (tgt := 299) C kd_Cr_codeExpression_118 (by decide) ?_
      exact zk_vret C hR kd_Cr_codeExpression_299 rfl rfl (zd_rV e)
    replace e := zd_neg b3 e
    by_cases b9 : (h.2.1 13 x1.toNatClampNeg) = 32
    · replace e := zd_pos b9 e
      refine zk_lookup (tgt := 121) C kd_Cr_codeExpression_38 (by decide) (by rw [b9]) (by decide) ?_
      refine zk_aload_n C kd_Cr_codeExpression_121 rfl 2 rfl rfl ?_
      refine zk_iload C kd_Cr_codeExpression_122 0 rfl rfl ?_
      refine zk_iload_n C kd_Cr_codeExpression_124 rfl 4 rfl rfl ?_
      refine zk_iconst (v := 1) C kd_Cr_codeExpression_125 (by decide) rfl ?_
      refine zk_iadd C kd_Cr_codeExpression_126 rfl ?_
      obtain ⟨h11, c10, e⟩ := zd_b e
      refine zs_callV (k := 47) (rn := { frames := 1 + d, cells := 0, slots := 0, locals := 24 + 26 * d }) (As := [.int (h.2.1 17 x1.toNatClampNeg), .int (x2 + 1)]) (rest := []) C (hr_Cr_codeExpression h (h.2.1 17 x1.toNatClampNeg) (x2 + 1) c10) ku_Cr_codeExpression kw1290 kv_Cr_codeExpression rfl (zd_rmI (by decide)) ⟨Nat.le_refl _, Nat.le_refl _⟩ rfl rfl rfl (Nat.le_of_ble_eq_true rfl) kd_Cr_codeExpression_127 rfl (c1 := 0) (s1 := 0) rfl rfl (fun v w hp => ?_)
      obtain ⟨rfl, rfl⟩ := hp
      refine zk_stk (r' := []) rfl ?_
      refine zk_aload_n C kd_Cr_codeExpression_130 rfl 2 rfl rfl ?_
      refine zs_get (v := .ref (S.1 41)) C 47 2 rfl rfl rfl rfl ki_Cr (by decide) kw444 kd_Cr_codeExpression_131 rfl ?_
      refine zk_iconst (v := 3) C kd_Cr_codeExpression_134 (by decide) rfl ?_
      refine zk_aload_n C kd_Cr_codeExpression_135 rfl 2 rfl rfl ?_
      refine zs_get (v := .ref (S.1 20)) C 47 1 rfl rfl rfl rfl ki_Cr (by decide) kw443 kd_Cr_codeExpression_136 rfl ?_
      refine zs_get (v := .ref (S.1 32)) C 20 11 rfl rfl rfl rfl ki_Pl (by decide) kw269 kd_Cr_codeExpression_139 rfl ?_
      refine zk_iload_n C kd_Cr_codeExpression_142 rfl 1 rfl rfl ?_
      obtain ⟨q12, e⟩ := zd_g e
      refine zs_iald C 32 rfl (zd_vp q12) kd_Cr_codeExpression_143 rfl ?_
      obtain ⟨v14, h15, c13, e⟩ := zd_Be e
      refine zs_callV (k := 41) (rn := { frames := 0, cells := 0, slots := 0, locals := 0 }) (As := [.int 3, .int (h11.2.1 32 (h.2.1 16 x1.toNatClampNeg).toNatClampNeg)]) (rest := []) C (zc_Cd_emit h11 3 (h11.2.1 32 (h.2.1 16 x1.toNatClampNeg).toNatClampNeg) c13) ku_Cd_emit kw1278 kv_Cd_emit rfl (zd_rmO (by decide) (by decide)) ⟨Nat.le_refl _, Nat.le_refl _⟩ rfl rfl rfl (Nat.le_of_ble_eq_true rfl) kd_Cr_codeExpression_144 rfl (c1 := 0) (s1 := 0) rfl rfl (fun v w hp => ?_)
      obtain ⟨rfl, rfl⟩ := hp
      refine zk_stk (r' := [.int v14]) rfl ?_
      refine zk_pop C kd_Cr_codeExpression_147 rfl rfl ?_
      refine zk_aload_n C kd_Cr_codeExpression_148 rfl 2 rfl rfl ?_
      refine zs_get (v := .ref (S.1 41)) C 47 2 rfl rfl rfl rfl ki_Cr (by decide) kw444 kd_Cr_codeExpression_149 rfl ?_
      refine zk_aload_n C kd_Cr_codeExpression_152 rfl 2 rfl rfl ?_
      refine zs_get (v := .ref (S.1 20)) C 47 1 rfl rfl rfl rfl ki_Cr (by decide) kw443 kd_Cr_codeExpression_153 rfl ?_
      refine zs_get (v := .ref (S.1 33)) C 20 12 rfl rfl rfl rfl ki_Pl (by decide) kw274 kd_Cr_codeExpression_156 rfl ?_
      refine zk_iload_n C kd_Cr_codeExpression_159 rfl 1 rfl rfl ?_
      obtain ⟨q16, e⟩ := zd_g e
      refine zs_iald C 33 rfl (zd_vp q16) kd_Cr_codeExpression_160 rfl ?_
      refine zk_aload_n C kd_Cr_codeExpression_161 rfl 2 rfl rfl ?_
      refine zs_get (v := .ref (S.1 20)) C 47 1 rfl rfl rfl rfl ki_Cr (by decide) kw443 kd_Cr_codeExpression_162 rfl ?_
      refine zs_get (v := .ref (S.1 34)) C 20 13 rfl rfl rfl rfl ki_Pl (by decide) kw279 kd_Cr_codeExpression_165 rfl ?_
      refine zk_iload_n C kd_Cr_codeExpression_168 rfl 1 rfl rfl ?_
      refine zs_iald C 34 rfl (zd_vp q16) kd_Cr_codeExpression_169 rfl ?_
      obtain ⟨h18, c17, e⟩ := zd_b e
      refine zs_callV (k := 41) (rn := { frames := 0, cells := 0, slots := 0, locals := 0 }) (As := [.int (h15.2.1 33 (h.2.1 16 x1.toNatClampNeg).toNatClampNeg), .int (h15.2.1 34 (h.2.1 16 x1.toNatClampNeg).toNatClampNeg)]) (rest := []) C (zc_Cd_with h15 (h15.2.1 33 (h.2.1 16 x1.toNatClampNeg).toNatClampNeg) (h15.2.1 34 (h.2.1 16 x1.toNatClampNeg).toNatClampNeg) c17) ku_Cd_with kw1298 kv_Cd_with rfl (zd_rmO (by decide) (by decide)) ⟨Nat.le_refl _, Nat.le_refl _⟩ rfl rfl rfl (Nat.le_of_ble_eq_true rfl) kd_Cr_codeExpression_170 rfl (c1 := 0) (s1 := 0) rfl rfl (fun v w hp => ?_)
      obtain ⟨rfl, rfl⟩ := hp
      refine zk_stk (r' := []) rfl ?_
      refine zk_goto (tgt := 299) C kd_Cr_codeExpression_173 (by decide) ?_
      exact zk_vret C hR kd_Cr_codeExpression_299 rfl rfl (zd_rV e)
    replace e := zd_neg b9 e
    by_cases b19 : (h.2.1 13 x1.toNatClampNeg) = 33
    · replace e := zd_pos b19 e
      refine zk_lookup (tgt := 104) C kd_Cr_codeExpression_38 (by decide) (by rw [b19]) (by decide) ?_
      refine zk_aload_n C kd_Cr_codeExpression_104 rfl 2 rfl rfl ?_
      refine zs_get (v := .ref (S.1 41)) C 47 2 rfl rfl rfl rfl ki_Cr (by decide) kw444 kd_Cr_codeExpression_105 rfl ?_
      refine zk_iconst (v := 1) C kd_Cr_codeExpression_108 (by decide) rfl ?_
      refine zk_aload_n C kd_Cr_codeExpression_109 rfl 2 rfl rfl ?_
      refine zk_iload_n C kd_Cr_codeExpression_110 rfl 3 rfl rfl ?_
      obtain ⟨v21, c20, e⟩ := zd_b e
      refine zs_callV (k := 47) (rn := { frames := 0, cells := 0, slots := 0, locals := 0 }) (As := [.int x1]) (rest := [.int 1, .ref (S.1 41)]) C (zc_Cr_cellOf h x1 c20) ku_Cr_cellOf kw1294 kv_Cr_cellOf rfl (zd_rmO (by decide) (by decide)) ⟨Nat.le_refl _, Nat.le_refl _⟩ rfl rfl rfl (Nat.le_of_ble_eq_true rfl) kd_Cr_codeExpression_111 rfl (c1 := 0) (s1 := 0) rfl rfl (fun v w hp => ?_)
      obtain ⟨rfl, rfl⟩ := hp
      refine zk_stk (r' := [.int v21, .int 1, .ref (S.1 41)]) rfl ?_
      obtain ⟨v23, h24, c22, e⟩ := zd_Be e
      refine zs_callV (k := 41) (rn := { frames := 0, cells := 0, slots := 0, locals := 0 }) (As := [.int 1, .int v21]) (rest := []) C (zc_Cd_emit h 1 v21 c22) ku_Cd_emit kw1278 kv_Cd_emit rfl (zd_rmO (by decide) (by decide)) ⟨Nat.le_refl _, Nat.le_refl _⟩ rfl rfl rfl (Nat.le_of_ble_eq_true rfl) kd_Cr_codeExpression_114 rfl (c1 := 0) (s1 := 0) rfl rfl (fun v w hp => ?_)
      obtain ⟨rfl, rfl⟩ := hp
      refine zk_stk (r' := [.int v23]) rfl ?_
      refine zk_pop C kd_Cr_codeExpression_117 rfl rfl ?_
      refine zk_goto (tgt := 299) C kd_Cr_codeExpression_118 (by decide) ?_
      exact zk_vret C hR kd_Cr_codeExpression_299 rfl rfl (zd_rV e)
    replace e := zd_neg b19 e
    by_cases b25 : (h.2.1 13 x1.toNatClampNeg) = 34
    · replace e := zd_pos b25 e
      refine zk_lookup (tgt := 280) C kd_Cr_codeExpression_38 (by decide) (by rw [b25]) (by decide) ?_
      refine zk_aload_n C kd_Cr_codeExpression_280 rfl 2 rfl rfl ?_
      refine zk_iload_n C kd_Cr_codeExpression_281 rfl 3 rfl rfl ?_
      refine zk_iload_n C kd_Cr_codeExpression_282 rfl 4 rfl rfl ?_
      obtain ⟨h27, c26, e⟩ := zd_b e
      refine zs_callV (k := 47) (rn := { frames := 1 + d, cells := 0, slots := 0, locals := 24 + 26 * d }) (As := [.int x1, .int x2]) (rest := []) C (hr_Cr_codeCall h x1 x2 c26) ku_Cr_codeCall kw1310 kv_Cr_codeCall rfl (zd_rmI (by decide)) ⟨Nat.le_refl _, Nat.le_refl _⟩ rfl rfl rfl (Nat.le_of_ble_eq_true rfl) kd_Cr_codeExpression_283 rfl (c1 := 0) (s1 := 0) rfl rfl (fun v w hp => ?_)
      obtain ⟨rfl, rfl⟩ := hp
      refine zk_stk (r' := []) rfl ?_
      refine zk_goto (tgt := 299) C kd_Cr_codeExpression_286 (by decide) ?_
      exact zk_vret C hR kd_Cr_codeExpression_299 rfl rfl (zd_rV e)
    replace e := zd_neg b25 e
    by_cases b28 : (h.2.1 13 x1.toNatClampNeg) = 35
    · replace e := zd_pos b28 e
      refine zk_lookup (tgt := 176) C kd_Cr_codeExpression_38 (by decide) (by rw [b28]) (by decide) ?_
      refine zk_aload_n C kd_Cr_codeExpression_176 rfl 2 rfl rfl ?_
      refine zk_iload C kd_Cr_codeExpression_177 0 rfl rfl ?_
      refine zk_iload_n C kd_Cr_codeExpression_179 rfl 4 rfl rfl ?_
      refine zk_iconst (v := 1) C kd_Cr_codeExpression_180 (by decide) rfl ?_
      refine zk_iadd C kd_Cr_codeExpression_181 rfl ?_
      obtain ⟨h30, c29, e⟩ := zd_b e
      refine zs_callV (k := 47) (rn := { frames := 1 + d, cells := 0, slots := 0, locals := 24 + 26 * d }) (As := [.int (h.2.1 17 x1.toNatClampNeg), .int (x2 + 1)]) (rest := []) C (hr_Cr_codeExpression h (h.2.1 17 x1.toNatClampNeg) (x2 + 1) c29) ku_Cr_codeExpression kw1290 kv_Cr_codeExpression rfl (zd_rmI (by decide)) ⟨Nat.le_refl _, Nat.le_refl _⟩ rfl rfl rfl (Nat.le_of_ble_eq_true rfl) kd_Cr_codeExpression_182 rfl (c1 := 0) (s1 := 0) rfl rfl (fun v w hp => ?_)
      obtain ⟨rfl, rfl⟩ := hp
      refine zk_stk (r' := []) rfl ?_
      refine zk_aload_n C kd_Cr_codeExpression_185 rfl 2 rfl rfl ?_
      refine zk_aload_n C kd_Cr_codeExpression_186 rfl 2 rfl rfl ?_
      refine zs_get (v := .ref (S.1 12)) C 47 0 rfl rfl rfl rfl ki_Cr (by decide) kw442 kd_Cr_codeExpression_187 rfl ?_
      refine zs_get (v := .ref (S.1 18)) C 12 5 rfl rfl rfl rfl ki_Tr (by decide) kw174 kd_Cr_codeExpression_190 rfl ?_
      refine zk_iload C kd_Cr_codeExpression_193 0 rfl rfl ?_
      obtain ⟨q31, e⟩ := zd_g e
      refine zs_iald C 18 rfl (zd_vp q31) kd_Cr_codeExpression_195 rfl ?_
      refine zk_iload_n C kd_Cr_codeExpression_196 rfl 4 rfl rfl ?_
      refine zk_iconst (v := 1) C kd_Cr_codeExpression_197 (by decide) rfl ?_
      refine zk_iadd C kd_Cr_codeExpression_198 rfl ?_
      obtain ⟨h33, c32, e⟩ := zd_b e
      refine zs_callV (k := 47) (rn := { frames := 1 + d, cells := 0, slots := 0, locals := 24 + 26 * d }) (As := [.int (h30.2.1 18 (h.2.1 17 x1.toNatClampNeg).toNatClampNeg), .int (x2 + 1)]) (rest := []) C (hr_Cr_codeExpression h30 (h30.2.1 18 (h.2.1 17 x1.toNatClampNeg).toNatClampNeg) (x2 + 1) c32) ku_Cr_codeExpression kw1290 kv_Cr_codeExpression rfl (zd_rmI (by decide)) ⟨Nat.le_refl _, Nat.le_refl _⟩ rfl rfl rfl (Nat.le_of_ble_eq_true rfl) kd_Cr_codeExpression_199 rfl (c1 := 0) (s1 := 0) rfl rfl (fun v w hp => ?_)
      obtain ⟨rfl, rfl⟩ := hp
      refine zk_stk (r' := []) rfl ?_
      refine zk_aload_n C kd_Cr_codeExpression_202 rfl 2 rfl rfl ?_
      refine zs_get (v := .ref (S.1 41)) C 47 2 rfl rfl rfl rfl ki_Cr (by decide) kw444 kd_Cr_codeExpression_203 rfl ?_
      refine zk_bipush (v := 7) C kd_Cr_codeExpression_206 (by decide) rfl ?_
      refine zk_iload_n C kd_Cr_codeExpression_208 rfl 1 rfl rfl ?_
      refine zk_aload_n C kd_Cr_codeExpression_209 rfl 2 rfl rfl ?_
      refine zs_get (v := .ref (S.1 12)) C 47 0 rfl rfl rfl rfl ki_Cr (by decide) kw442 kd_Cr_codeExpression_210 rfl ?_
      refine zs_get (v := .ref (S.1 14)) C 12 1 rfl rfl rfl rfl ki_Tr (by decide) kw161 kd_Cr_codeExpression_213 rfl ?_
      refine zk_iload_n C kd_Cr_codeExpression_216 rfl 3 rfl rfl ?_
      obtain ⟨q34, e⟩ := zd_g e
      refine zs_bald C 14 rfl (zd_vp q34) kd_Cr_codeExpression_217 rfl ?_
      refine zk_callS (rn := { frames := 0, cells := 0, slots := 0, locals := 0 }) (As := [.int (h.2.1 16 x1.toNatClampNeg), .int (h33.2.1 14 x1.toNatClampNeg)]) (rest := [.int 7, .ref (S.1 41)]) C (zc_Cd_operation h33 (h.2.1 16 x1.toNatClampNeg) (h33.2.1 14 x1.toNatClampNeg)) ku_Cd_operation kw1302 ks_Cd_operation rfl (zd_rmO (by decide) (by decide)) ⟨Nat.le_refl _, Nat.le_refl _⟩ rfl (Nat.le_of_ble_eq_true rfl) kd_Cr_codeExpression_218 rfl (c1 := 0) (s1 := 0) rfl rfl (fun v w hp => ?_)
      obtain ⟨rfl, rfl⟩ := hp
      refine zk_stk (r' := [.int (f_Cd_operation (h.2.1 16 x1.toNatClampNeg) (h33.2.1 14 x1.toNatClampNeg)), .int 7, .ref (S.1 41)]) rfl ?_
      obtain ⟨v36, h37, c35, e⟩ := zd_Be e
      refine zs_callV (k := 41) (rn := { frames := 0, cells := 0, slots := 0, locals := 0 }) (As := [.int 7, .int (f_Cd_operation (h.2.1 16 x1.toNatClampNeg) (h33.2.1 14 x1.toNatClampNeg))]) (rest := []) C (zc_Cd_emit h33 7 (f_Cd_operation (h.2.1 16 x1.toNatClampNeg) (h33.2.1 14 x1.toNatClampNeg)) c35) ku_Cd_emit kw1278 kv_Cd_emit rfl (zd_rmO (by decide) (by decide)) ⟨Nat.le_refl _, Nat.le_refl _⟩ rfl rfl rfl (Nat.le_of_ble_eq_true rfl) kd_Cr_codeExpression_221 rfl (c1 := 0) (s1 := 0) rfl rfl (fun v w hp => ?_)
      obtain ⟨rfl, rfl⟩ := hp
      refine zk_stk (r' := [.int v36]) rfl ?_
      refine zk_pop C kd_Cr_codeExpression_224 rfl rfl ?_
      refine zk_goto (tgt := 299) C kd_Cr_codeExpression_225 (by decide) ?_
      exact zk_vret C hR kd_Cr_codeExpression_299 rfl rfl (zd_rV e)
    replace e := zd_neg b28 e
    by_cases b38 : (h.2.1 13 x1.toNatClampNeg) = 36
    · replace e := zd_pos b38 e
      refine zk_lookup (tgt := 228) C kd_Cr_codeExpression_38 (by decide) (by rw [b38]) (by decide) ?_
      refine zk_aload_n C kd_Cr_codeExpression_228 rfl 2 rfl rfl ?_
      refine zk_iload C kd_Cr_codeExpression_229 0 rfl rfl ?_
      refine zk_iload_n C kd_Cr_codeExpression_231 rfl 4 rfl rfl ?_
      refine zk_iconst (v := 1) C kd_Cr_codeExpression_232 (by decide) rfl ?_
      refine zk_iadd C kd_Cr_codeExpression_233 rfl ?_
      obtain ⟨h40, c39, e⟩ := zd_b e
      refine zs_callV (k := 47) (rn := { frames := 1 + d, cells := 0, slots := 0, locals := 24 + 26 * d }) (As := [.int (h.2.1 17 x1.toNatClampNeg), .int (x2 + 1)]) (rest := []) C (hr_Cr_codeExpression h (h.2.1 17 x1.toNatClampNeg) (x2 + 1) c39) ku_Cr_codeExpression kw1290 kv_Cr_codeExpression rfl (zd_rmI (by decide)) ⟨Nat.le_refl _, Nat.le_refl _⟩ rfl rfl rfl (Nat.le_of_ble_eq_true rfl) kd_Cr_codeExpression_234 rfl (c1 := 0) (s1 := 0) rfl rfl (fun v w hp => ?_)
      obtain ⟨rfl, rfl⟩ := hp
      refine zk_stk (r' := []) rfl ?_
      refine zk_aload_n C kd_Cr_codeExpression_237 rfl 2 rfl rfl ?_
      refine zs_get (v := .ref (S.1 41)) C 47 2 rfl rfl rfl rfl ki_Cr (by decide) kw444 kd_Cr_codeExpression_238 rfl ?_
      refine zk_bipush (v := 8) C kd_Cr_codeExpression_241 (by decide) rfl ?_
      refine zk_iload_n C kd_Cr_codeExpression_243 rfl 1 rfl rfl ?_
      refine zk_if_ne (tgt := 251) C kd_Cr_codeExpression_244 (by decide) rfl (fun b41 => ?_) (fun b41 => ?_)
      · replace e := zd_neg b41 e
        refine zk_iconst (v := 0) C kd_Cr_codeExpression_251 (by decide) rfl ?_
        refine zk_lvs (lv' := [(0, .ref (S.1 47)), (1, .int x1)]) [2, 3] rfl ?_
        exact zb_Cr_codeExpression_252 C hR h40 x1 0 8 e
      · replace e := zd_pos b41 e
        refine zk_iconst (v := 1) C kd_Cr_codeExpression_247 (by decide) rfl ?_
        refine zk_goto (tgt := 252) C kd_Cr_codeExpression_248 (by decide) ?_
        refine zk_lvs (lv' := [(0, .ref (S.1 47)), (1, .int x1)]) [2, 3] rfl ?_
        exact zb_Cr_codeExpression_252 C hR h40 x1 1 8 e
    replace e := zd_neg b38 e
    by_cases b42 : (h.2.1 13 x1.toNatClampNeg) = 39
    · replace e := zd_pos b42 e
      refine zk_lookup (tgt := 271) C kd_Cr_codeExpression_38 (by decide) (by rw [b42]) (by decide) ?_
      refine zk_aload_n C kd_Cr_codeExpression_271 rfl 2 rfl rfl ?_
      refine zk_iload_n C kd_Cr_codeExpression_272 rfl 3 rfl rfl ?_
      refine zk_iload_n C kd_Cr_codeExpression_273 rfl 4 rfl rfl ?_
      obtain ⟨h44, c43, e⟩ := zd_b e
      refine zs_callV (k := 47) (rn := { frames := 1 + d, cells := 0, slots := 0, locals := 24 + 26 * d }) (As := [.int x1, .int x2]) (rest := []) C (hr_Cr_codeStandardCall h x1 x2 c43) ku_Cr_codeStandardCall kw1304 kv_Cr_codeStandardCall rfl (zd_rmI (by decide)) ⟨Nat.le_refl _, Nat.le_refl _⟩ rfl rfl rfl (Nat.le_of_ble_eq_true rfl) kd_Cr_codeExpression_274 rfl (c1 := 0) (s1 := 0) rfl rfl (fun v w hp => ?_)
      obtain ⟨rfl, rfl⟩ := hp
      refine zk_stk (r' := []) rfl ?_
      refine zk_goto (tgt := 299) C kd_Cr_codeExpression_277 (by decide) ?_
      exact zk_vret C hR kd_Cr_codeExpression_299 rfl rfl (zd_rV e)
    replace e := zd_neg b42 e
    refine zk_lookup (tgt := 289) C kd_Cr_codeExpression_38 (by decide) (zd_lk (by show _ ∉ ([6, 32, 33, 34, 35, 36, 39] : List Int); have n0 := lv_neT b3 (a := 6) (by decide); have n1 := lv_neT b9 (a := 32) (by decide); have n2 := lv_neT b19 (a := 33) (by decide); have n3 := lv_neT b25 (a := 34) (by decide); have n4 := lv_neT b28 (a := 35) (by decide); have n5 := lv_neT b38 (a := 36) (by decide); have n6 := lv_neT b42 (a := 39) (by decide); simp only [List.mem_cons, List.not_mem_nil, or_false, not_or]; exact ⟨n0, n1, n2, n3, n4, n5, n6⟩)) (by decide) ?_
    refine zk_aload_n C kd_Cr_codeExpression_289 rfl 2 rfl rfl ?_
    refine zs_get (v := .ref (S.1 41)) C 47 2 rfl rfl rfl rfl ki_Cr (by decide) kw444 kd_Cr_codeExpression_290 rfl ?_
    refine zk_iconst (v := 0) C kd_Cr_codeExpression_293 (by decide) rfl ?_
    refine zk_iload_n C kd_Cr_codeExpression_294 rfl 1 rfl rfl ?_
    obtain ⟨v46, h47, c45, e⟩ := zd_Be e
    refine zs_callV (k := 41) (rn := { frames := 0, cells := 0, slots := 0, locals := 0 }) (As := [.int 0, .int (h.2.1 16 x1.toNatClampNeg)]) (rest := []) C (zc_Cd_emit h 0 (h.2.1 16 x1.toNatClampNeg) c45) ku_Cd_emit kw1278 kv_Cd_emit rfl (zd_rmO (by decide) (by decide)) ⟨Nat.le_refl _, Nat.le_refl _⟩ rfl rfl rfl (Nat.le_of_ble_eq_true rfl) kd_Cr_codeExpression_295 rfl (c1 := 0) (s1 := 0) rfl rfl (fun v w hp => ?_)
    obtain ⟨rfl, rfl⟩ := hp
    refine zk_stk (r' := [.int v46]) rfl ?_
    refine zk_pop C kd_Cr_codeExpression_298 rfl rfl ?_
    exact zk_vret C hR kd_Cr_codeExpression_299 rfl rfl (zd_rV e)
  · replace e := zd_neg b1 e
    exact zk_vret C hR kd_Cr_codeExpression_7 rfl rfl (zd_rV e)
set_option maxHeartbeats 4000000 in
set_option maxRecDepth 100000 in
theorem zb_Cr_codeStandardCall_78 {X : zkj_T} {S : zs_T} {P : ze_T} {l : Launch} {D : va_G} {sz0 : Nat} {d : Nat} {rh : zs_H} (C : zk_C X km_Cr_codeStandardCall (zs_G S l D sz0) { frames := 1 + (d + 1), cells := 0, slots := 0, locals := 24 + 26 * (d + 1) } (ze_E P)) (hR : zkj_R X (zd_PV S rh) (none)) {r_Cr_codeExpression : zs_H → Int32 → Int32 → (Option zs_H)} (hr_Cr_codeExpression : ∀ (h : zs_H) (x0 : Int32) (x1 : Int32) {rh : zs_H}, r_Cr_codeExpression h x0 x1 = some rh → zk_Sp (zs_G S l D sz0) (ze_E P) km_Cr_codeExpression { frames := 1 + d, cells := 0, slots := 0, locals := 24 + 26 * d } [.ref (S.1 47), .int x0, .int x1] (zs_W S h) (zd_PV S rh)) {k24 : zs_H → Int32 → Int32 → Int32 → Int32 → Int32 → (Option zs_H)} (hk24 : ∀ (h : zs_H) (x1 : Int32) (x2 : Int32) (x3 : Int32) (x4 : Int32) (x5 : Int32), k24 h x1 x2 x3 x4 x5 = some rh → zk_Ab X (zs_W S h) 0 0 24 [(0, .ref (S.1 47)), (1, .int x1), (2, .int x2), (3, .int x3), (4, .int x4), (5, .int x5)] []) (h : zs_H) (x1 : Int32) (x2 : Int32) (x3 : Int32) (x4 : Int32) (x5 : Int32) (e : f_Cr_codeStandardCall_78 r_Cr_codeExpression k24 h x1 x2 x3 x4 x5 = some rh) : zk_Ab X (zs_W S h) 0 0 78 [(0, .ref (S.1 47)), (1, .int x1), (2, .int x2), (3, .int x3), (4, .int x4), (5, .int x5)] [] := by
  unfold f_Cr_codeStandardCall_78 at e
  refine zk_aload_n C kd_Cr_codeStandardCall_78 rfl 0 rfl rfl ?_
  refine zs_get (v := .ref (S.1 12)) C 47 0 rfl rfl rfl rfl ki_Cr (by decide) kw442 kd_Cr_codeStandardCall_79 rfl ?_
  refine zs_get (v := .ref (S.1 18)) C 12 5 rfl rfl rfl rfl ki_Tr (by decide) kw174 kd_Cr_codeStandardCall_82 rfl ?_
  refine zk_iload C kd_Cr_codeStandardCall_85 4 rfl rfl ?_
  obtain ⟨q1, e⟩ := zd_g e
  refine zs_iald C 18 rfl (zd_vp q1) kd_Cr_codeStandardCall_87 rfl ?_
  refine zk_istore (lv' := [(4, _), (0, _), (1, _), (2, _), (3, _), (5, _)]) C kd_Cr_codeStandardCall_88 (by decide) rfl rfl ?_
  refine zk_iinc (v := (x5 + 1)) (lv' := [(5, _), (4, _), (0, _), (1, _), (2, _), (3, _)]) C kd_Cr_codeStandardCall_90 5 rfl rfl (by decide) rfl rfl ?_
  refine zk_goto (tgt := 24) C kd_Cr_codeStandardCall_93 (by decide) ?_
  refine zk_lvs (lv' := [(0, .ref (S.1 47)), (1, .int x1), (2, .int x2), (3, .int x3), (4, .int (h.2.1 18 x4.toNatClampNeg)), (5, .int (x5 + 1))]) [2, 3, 4, 5, 1, 0] rfl ?_
  exact hk24 h x1 x2 x3 (h.2.1 18 x4.toNatClampNeg) (x5 + 1) e
set_option maxHeartbeats 4000000 in
set_option maxRecDepth 100000 in
theorem zb_Cr_codeStandardCall_74 {X : zkj_T} {S : zs_T} {P : ze_T} {l : Launch} {D : va_G} {sz0 : Nat} {d : Nat} {rh : zs_H} (C : zk_C X km_Cr_codeStandardCall (zs_G S l D sz0) { frames := 1 + (d + 1), cells := 0, slots := 0, locals := 24 + 26 * (d + 1) } (ze_E P)) (hR : zkj_R X (zd_PV S rh) (none)) {r_Cr_codeExpression : zs_H → Int32 → Int32 → (Option zs_H)} (hr_Cr_codeExpression : ∀ (h : zs_H) (x0 : Int32) (x1 : Int32) {rh : zs_H}, r_Cr_codeExpression h x0 x1 = some rh → zk_Sp (zs_G S l D sz0) (ze_E P) km_Cr_codeExpression { frames := 1 + d, cells := 0, slots := 0, locals := 24 + 26 * d } [.ref (S.1 47), .int x0, .int x1] (zs_W S h) (zd_PV S rh)) {k24 : zs_H → Int32 → Int32 → Int32 → Int32 → Int32 → (Option zs_H)} (hk24 : ∀ (h : zs_H) (x1 : Int32) (x2 : Int32) (x3 : Int32) (x4 : Int32) (x5 : Int32), k24 h x1 x2 x3 x4 x5 = some rh → zk_Ab X (zs_W S h) 0 0 24 [(0, .ref (S.1 47)), (1, .int x1), (2, .int x2), (3, .int x3), (4, .int x4), (5, .int x5)] []) (h : zs_H) (x1 : Int32) (x2 : Int32) (x3 : Int32) (x4 : Int32) (x5 : Int32) (y0 : Int32) (y1 : Int32) (e : f_Cr_codeStandardCall_74 r_Cr_codeExpression k24 h x1 x2 x3 x4 x5 y0 y1 = some rh) : zk_Ab X (zs_W S h) 0 0 74 [(0, .ref (S.1 47)), (1, .int x1), (2, .int x2), (3, .int x3), (4, .int x4), (5, .int x5)] [.int y0, .int y1, .ref (S.1 41)] := by
  unfold f_Cr_codeStandardCall_74 at e
  obtain ⟨v2, h3, c1, e⟩ := zd_Be e
  refine zs_callV (k := 41) (rn := { frames := 0, cells := 0, slots := 0, locals := 0 }) (As := [.int y1, .int y0]) (rest := []) C (zc_Cd_emit h y1 y0 c1) ku_Cd_emit kw1278 kv_Cd_emit rfl (zd_rmO (by decide) (by decide)) ⟨Nat.le_refl _, Nat.le_refl _⟩ rfl rfl rfl (Nat.le_of_ble_eq_true rfl) kd_Cr_codeStandardCall_74 rfl (c1 := 0) (s1 := 0) rfl rfl (fun v w hp => ?_)
  obtain ⟨rfl, rfl⟩ := hp
  refine zk_stk (r' := [.int v2]) rfl ?_
  refine zk_pop C kd_Cr_codeStandardCall_77 rfl rfl ?_
  refine zk_lvs (lv' := [(0, .ref (S.1 47)), (1, .int x1), (2, .int x2), (3, .int x3), (4, .int x4), (5, .int x5)]) [0, 1, 2, 3, 4, 5] rfl ?_
  exact zb_Cr_codeStandardCall_78 C hR hr_Cr_codeExpression hk24 h3 x1 x2 x3 x4 x5 e
set_option maxHeartbeats 4000000 in
set_option maxRecDepth 100000 in
theorem zb_Cr_codeStandardCall_142 {X : zkj_T} {S : zs_T} {P : ze_T} {l : Launch} {D : va_G} {sz0 : Nat} {d : Nat} {rh : zs_H} (C : zk_C X km_Cr_codeStandardCall (zs_G S l D sz0) { frames := 1 + (d + 1), cells := 0, slots := 0, locals := 24 + 26 * (d + 1) } (ze_E P)) (hR : zkj_R X (zd_PV S rh) (none)) (h : zs_H) (x1 : Int32) (x3 : Int32) (y0 : Int32) (e : f_Cr_codeStandardCall_142 h x1 x3 y0 = some rh) : zk_Ab X (zs_W S h) 0 0 142 [(0, .ref (S.1 47)), (1, .int x1), (3, .int x3)] [.int y0] := by
  unfold f_Cr_codeStandardCall_142 at e
  refine zk_istore (lv' := [(5, _), (0, _), (1, _), (3, _)]) C kd_Cr_codeStandardCall_142 (by decide) rfl rfl ?_
  refine zk_aload_n C kd_Cr_codeStandardCall_144 rfl 1 rfl rfl ?_
  refine zs_get (v := .ref (S.1 41)) C 47 2 rfl rfl rfl rfl ki_Cr (by decide) kw444 kd_Cr_codeStandardCall_145 rfl ?_
  refine zk_iload C kd_Cr_codeStandardCall_148 0 rfl rfl ?_
  refine zk_iload_n C kd_Cr_codeStandardCall_150 rfl 3 rfl rfl ?_
  refine zk_aload_n C kd_Cr_codeStandardCall_151 rfl 1 rfl rfl ?_
  refine zs_get (v := .ref (S.1 12)) C 47 0 rfl rfl rfl rfl ki_Cr (by decide) kw442 kd_Cr_codeStandardCall_152 rfl ?_
  refine zs_get (v := .ref (S.1 14)) C 12 1 rfl rfl rfl rfl ki_Tr (by decide) kw161 kd_Cr_codeStandardCall_155 rfl ?_
  refine zk_iload_n C kd_Cr_codeStandardCall_158 rfl 2 rfl rfl ?_
  obtain ⟨q1, e⟩ := zd_g e
  refine zs_bald C 14 rfl (zd_vp q1) kd_Cr_codeStandardCall_159 rfl ?_
  refine zk_callS (rn := { frames := 0, cells := 0, slots := 0, locals := 0 }) (As := [.int x3, .int (h.2.1 14 x1.toNatClampNeg)]) (rest := [.int y0, .ref (S.1 41)]) C (zc_Cd_standardKind h x3 (h.2.1 14 x1.toNatClampNeg)) ku_Cd_standardKind kw1309 ks_Cd_standardKind rfl (zd_rmO (by decide) (by decide)) ⟨Nat.le_refl _, Nat.le_refl _⟩ rfl (Nat.le_of_ble_eq_true rfl) kd_Cr_codeStandardCall_160 rfl (c1 := 0) (s1 := 0) rfl rfl (fun v w hp => ?_)
  obtain ⟨rfl, rfl⟩ := hp
  refine zk_stk (r' := [.int (f_Cd_standardKind x3 (h.2.1 14 x1.toNatClampNeg)), .int y0, .ref (S.1 41)]) rfl ?_
  obtain ⟨v3, h4, c2, e⟩ := zd_Be e
  refine zs_callV (k := 41) (rn := { frames := 0, cells := 0, slots := 0, locals := 0 }) (As := [.int y0, .int (f_Cd_standardKind x3 (h.2.1 14 x1.toNatClampNeg))]) (rest := []) C (zc_Cd_emit h y0 (f_Cd_standardKind x3 (h.2.1 14 x1.toNatClampNeg)) c2) ku_Cd_emit kw1278 kv_Cd_emit rfl (zd_rmO (by decide) (by decide)) ⟨Nat.le_refl _, Nat.le_refl _⟩ rfl rfl rfl (Nat.le_of_ble_eq_true rfl) kd_Cr_codeStandardCall_163 rfl (c1 := 0) (s1 := 0) rfl rfl (fun v w hp => ?_)
  obtain ⟨rfl, rfl⟩ := hp
  refine zk_stk (r' := [.int v3]) rfl ?_
  refine zk_pop C kd_Cr_codeStandardCall_166 rfl rfl ?_
  exact zk_vret C hR kd_Cr_codeStandardCall_167 rfl rfl (zd_rV e)
set_option maxHeartbeats 4000000 in
set_option maxRecDepth 100000 in
theorem zb_Cr_codeStandardCall_96 {X : zkj_T} {S : zs_T} {P : ze_T} {l : Launch} {D : va_G} {sz0 : Nat} {d : Nat} {rh : zs_H} (C : zk_C X km_Cr_codeStandardCall (zs_G S l D sz0) { frames := 1 + (d + 1), cells := 0, slots := 0, locals := 24 + 26 * (d + 1) } (ze_E P)) (hR : zkj_R X (zd_PV S rh) (none)) (h : zs_H) (x1 : Int32) (x3 : Int32) (e : f_Cr_codeStandardCall_96 h x1 x3 = some rh) : zk_Ab X (zs_W S h) 0 0 96 [(0, .ref (S.1 47)), (1, .int x1), (3, .int x3)] [] := by
  unfold f_Cr_codeStandardCall_96 at e
  refine zk_iload_n C kd_Cr_codeStandardCall_96 rfl 2 rfl rfl ?_
  refine zk_iconst (v := 4) C kd_Cr_codeStandardCall_97 (by decide) rfl ?_
  refine zk_icmp_ne (tgt := 115) C kd_Cr_codeStandardCall_98 (by decide) rfl (fun b1 => ?_) (fun b1 => ?_)
  · replace e := zd_neg b1 e
    refine zk_iload_n C kd_Cr_codeStandardCall_115 rfl 2 rfl rfl ?_
    refine zk_iconst (v := 3) C kd_Cr_codeStandardCall_116 (by decide) rfl ?_
    refine zk_icmp_eq (tgt := 167) C kd_Cr_codeStandardCall_117 (by decide) rfl (fun b2 => ?_) (fun b2 => ?_)
    · replace e := zd_pos b2 e
      exact zk_vret C hR kd_Cr_codeStandardCall_167 rfl rfl (zd_rV e)
    · replace e := zd_neg b2 e
      refine zk_iload_n C kd_Cr_codeStandardCall_120 rfl 2 rfl rfl ?_
      refine zk_bipush (v := 8) C kd_Cr_codeStandardCall_121 (by decide) rfl ?_
      refine zk_icmp_eq (tgt := 167) C kd_Cr_codeStandardCall_123 (by decide) rfl (fun b3 => ?_) (fun b3 => ?_)
      · replace e := zd_pos b3 e
        exact zk_vret C hR kd_Cr_codeStandardCall_167 rfl rfl (zd_rV e)
      · replace e := zd_neg b3 e
        refine ze_gets (j := 4) C rfl kw1308 kd_Cr_codeStandardCall_126 rfl ?_
        refine zk_iload_n C kd_Cr_codeStandardCall_129 rfl 2 rfl rfl ?_
        obtain ⟨q4, e⟩ := zd_g e
        refine ze_ti C rfl (zd_vp q4) kd_Cr_codeStandardCall_130 rfl ?_
        refine zk_stk (r' := [.int (zt_4.getD x3.toNatClampNeg 0)]) rfl ?_
        refine zk_iconst (v := 1) C kd_Cr_codeStandardCall_131 (by decide) rfl ?_
        refine zk_icmp_ne (tgt := 140) C kd_Cr_codeStandardCall_132 (by decide) rfl (fun b5 => ?_) (fun b5 => ?_)
        · replace e := zd_neg b5 e
          refine zk_bipush (v := 7) C kd_Cr_codeStandardCall_140 (by decide) rfl ?_
          refine zk_lvs (lv' := [(0, .ref (S.1 47)), (1, .int x1), (3, .int x3)]) [0, 1, 2] rfl ?_
          exact zb_Cr_codeStandardCall_142 C hR h x1 x3 7 e
        · replace e := zd_pos b5 e
          refine zk_bipush (v := 8) C kd_Cr_codeStandardCall_135 (by decide) rfl ?_
          refine zk_goto (tgt := 142) C kd_Cr_codeStandardCall_137 (by decide) ?_
          refine zk_lvs (lv' := [(0, .ref (S.1 47)), (1, .int x1), (3, .int x3)]) [0, 1, 2] rfl ?_
          exact zb_Cr_codeStandardCall_142 C hR h x1 x3 8 e
  · replace e := zd_pos b1 e
    refine zk_aload_n C kd_Cr_codeStandardCall_101 rfl 0 rfl rfl ?_
    refine zs_get (v := .ref (S.1 41)) C 47 2 rfl rfl rfl rfl ki_Cr (by decide) kw444 kd_Cr_codeStandardCall_102 rfl ?_
    refine zk_bipush (v := 9) C kd_Cr_codeStandardCall_105 (by decide) rfl ?_
    refine zk_iconst (v := 0) C kd_Cr_codeStandardCall_107 (by decide) rfl ?_
    obtain ⟨v7, h8, c6, e⟩ := zd_Be e
    refine zs_callV (k := 41) (rn := { frames := 0, cells := 0, slots := 0, locals := 0 }) (As := [.int 9, .int 0]) (rest := []) C (zc_Cd_emit h 9 0 c6) ku_Cd_emit kw1278 kv_Cd_emit rfl (zd_rmO (by decide) (by decide)) ⟨Nat.le_refl _, Nat.le_refl _⟩ rfl rfl rfl (Nat.le_of_ble_eq_true rfl) kd_Cr_codeStandardCall_108 rfl (c1 := 0) (s1 := 0) rfl rfl (fun v w hp => ?_)
    obtain ⟨rfl, rfl⟩ := hp
    refine zk_stk (r' := [.int v7]) rfl ?_
    refine zk_pop C kd_Cr_codeStandardCall_111 rfl rfl ?_
    refine zk_goto (tgt := 167) C kd_Cr_codeStandardCall_112 (by decide) ?_
    exact zk_vret C hR kd_Cr_codeStandardCall_167 rfl rfl (zd_rV e)
set_option maxHeartbeats 4000000 in
set_option maxRecDepth 100000 in
theorem zb_Cr_codeStandardCall_24 {X : zkj_T} {S : zs_T} {P : ze_T} {l : Launch} {D : va_G} {sz0 : Nat} {d : Nat} {rh : zs_H} (C : zk_C X km_Cr_codeStandardCall (zs_G S l D sz0) { frames := 1 + (d + 1), cells := 0, slots := 0, locals := 24 + 26 * (d + 1) } (ze_E P)) (hR : zkj_R X (zd_PV S rh) (none)) {r_Cr_codeExpression : zs_H → Int32 → Int32 → (Option zs_H)} (hr_Cr_codeExpression : ∀ (h : zs_H) (x0 : Int32) (x1 : Int32) {rh : zs_H}, r_Cr_codeExpression h x0 x1 = some rh → zk_Sp (zs_G S l D sz0) (ze_E P) km_Cr_codeExpression { frames := 1 + d, cells := 0, slots := 0, locals := 24 + 26 * d } [.ref (S.1 47), .int x0, .int x1] (zs_W S h) (zd_PV S rh)) {k24 : zs_H → Int32 → Int32 → Int32 → Int32 → Int32 → (Option zs_H)} (hk24 : ∀ (h : zs_H) (x1 : Int32) (x2 : Int32) (x3 : Int32) (x4 : Int32) (x5 : Int32), k24 h x1 x2 x3 x4 x5 = some rh → zk_Ab X (zs_W S h) 0 0 24 [(0, .ref (S.1 47)), (1, .int x1), (2, .int x2), (3, .int x3), (4, .int x4), (5, .int x5)] []) (h : zs_H) (x1 : Int32) (x2 : Int32) (x3 : Int32) (x4 : Int32) (x5 : Int32) (e : f_Cr_codeStandardCall_24 r_Cr_codeExpression k24 h x1 x2 x3 x4 x5 = some rh) : zk_Ab X (zs_W S h) 0 0 24 [(0, .ref (S.1 47)), (1, .int x1), (2, .int x2), (3, .int x3), (4, .int x4), (5, .int x5)] [] := by
  unfold f_Cr_codeStandardCall_24 at e
  refine zk_iload C kd_Cr_codeStandardCall_24 5 rfl rfl ?_
  refine zk_iconst (v := 3) C kd_Cr_codeStandardCall_26 (by decide) rfl ?_
  refine zk_icmp_ge (tgt := 96) C kd_Cr_codeStandardCall_27 (by decide) rfl (fun b1 => ?_) (fun b1 => ?_)
  · replace e := zd_pos b1 e
    refine zk_lvs (lv' := [(0, .ref (S.1 47)), (1, .int x1), (3, .int x3)]) [0, 1, 3] rfl ?_
    exact zb_Cr_codeStandardCall_96 C hR h x1 x3 e
  · replace e := zd_neg b1 e
    refine zk_iload C kd_Cr_codeStandardCall_30 4 rfl rfl ?_
    refine zk_iconst (v := (-1)) C kd_Cr_codeStandardCall_32 (by decide) rfl ?_
    refine zk_icmp_eq (tgt := 96) C kd_Cr_codeStandardCall_33 (by decide) rfl (fun b2 => ?_) (fun b2 => ?_)
    · replace e := zd_pos b2 e
      refine zk_lvs (lv' := [(0, .ref (S.1 47)), (1, .int x1), (3, .int x3)]) [0, 1, 3] rfl ?_
      exact zb_Cr_codeStandardCall_96 C hR h x1 x3 e
    · replace e := zd_neg b2 e
      refine zk_aload_n C kd_Cr_codeStandardCall_36 rfl 0 rfl rfl ?_
      refine zk_iload C kd_Cr_codeStandardCall_37 4 rfl rfl ?_
      refine zk_iload_n C kd_Cr_codeStandardCall_39 rfl 2 rfl rfl ?_
      refine zk_iconst (v := 1) C kd_Cr_codeStandardCall_40 (by decide) rfl ?_
      refine zk_iadd C kd_Cr_codeStandardCall_41 rfl ?_
      obtain ⟨h4, c3, e⟩ := zd_b e
      refine zs_callV (k := 47) (rn := { frames := 1 + d, cells := 0, slots := 0, locals := 24 + 26 * d }) (As := [.int x4, .int (x2 + 1)]) (rest := []) C (hr_Cr_codeExpression h x4 (x2 + 1) c3) ku_Cr_codeExpression kw1290 kv_Cr_codeExpression rfl (zd_rmI (by decide)) ⟨Nat.le_refl _, Nat.le_refl _⟩ rfl rfl rfl (Nat.le_of_ble_eq_true rfl) kd_Cr_codeStandardCall_42 rfl (c1 := 0) (s1 := 0) rfl rfl (fun v w hp => ?_)
      obtain ⟨rfl, rfl⟩ := hp
      refine zk_stk (r' := []) rfl ?_
      refine zk_iload_n C kd_Cr_codeStandardCall_45 rfl 3 rfl rfl ?_
      refine zk_iconst (v := 3) C kd_Cr_codeStandardCall_46 (by decide) rfl ?_
      refine zk_icmp_ne (tgt := 78) C kd_Cr_codeStandardCall_47 (by decide) rfl (fun b5 => ?_) (fun b5 => ?_)
      · replace e := zd_neg b5 e
        refine zk_lvs (lv' := [(0, .ref (S.1 47)), (1, .int x1), (2, .int x2), (3, .int x3), (4, .int x4), (5, .int x5)]) [0, 1, 2, 3, 4, 5] rfl ?_
        exact zb_Cr_codeStandardCall_78 C hR hr_Cr_codeExpression hk24 h4 x1 x2 x3 x4 x5 e
      · replace e := zd_pos b5 e
        refine zk_iload C kd_Cr_codeStandardCall_50 5 rfl rfl ?_
        refine zk_if_le (tgt := 78) C kd_Cr_codeStandardCall_52 (by decide) rfl (fun b6 => ?_) (fun b6 => ?_)
        · replace e := zd_pos b6 e
          refine zk_lvs (lv' := [(0, .ref (S.1 47)), (1, .int x1), (2, .int x2), (3, .int x3), (4, .int x4), (5, .int x5)]) [0, 1, 2, 3, 4, 5] rfl ?_
          exact zb_Cr_codeStandardCall_78 C hR hr_Cr_codeExpression hk24 h4 x1 x2 x3 x4 x5 e
        · replace e := zd_neg b6 e
          refine zk_aload_n C kd_Cr_codeStandardCall_55 rfl 0 rfl rfl ?_
          refine zs_get (v := .ref (S.1 41)) C 47 2 rfl rfl rfl rfl ki_Cr (by decide) kw444 kd_Cr_codeStandardCall_56 rfl ?_
          refine zk_bipush (v := 7) C kd_Cr_codeStandardCall_59 (by decide) rfl ?_
          refine zk_iload C kd_Cr_codeStandardCall_61 5 rfl rfl ?_
          refine zk_iconst (v := 1) C kd_Cr_codeStandardCall_63 (by decide) rfl ?_
          refine zk_icmp_ne (tgt := 72) C kd_Cr_codeStandardCall_64 (by decide) rfl (fun b7 => ?_) (fun b7 => ?_)
          · replace e := zd_neg b7 e
            refine zk_bipush (v := 23) C kd_Cr_codeStandardCall_72 (by decide) rfl ?_
            refine zk_lvs (lv' := [(0, .ref (S.1 47)), (1, .int x1), (2, .int x2), (3, .int x3), (4, .int x4), (5, .int x5)]) [0, 1, 2, 3, 4, 5] rfl ?_
            exact zb_Cr_codeStandardCall_74 C hR hr_Cr_codeExpression hk24 h4 x1 x2 x3 x4 x5 23 7 e
          · replace e := zd_pos b7 e
            refine zk_bipush (v := 24) C kd_Cr_codeStandardCall_67 (by decide) rfl ?_
            refine zk_goto (tgt := 74) C kd_Cr_codeStandardCall_69 (by decide) ?_
            refine zk_lvs (lv' := [(0, .ref (S.1 47)), (1, .int x1), (2, .int x2), (3, .int x3), (4, .int x4), (5, .int x5)]) [0, 1, 2, 3, 4, 5] rfl ?_
            exact zb_Cr_codeStandardCall_74 C hR hr_Cr_codeExpression hk24 h4 x1 x2 x3 x4 x5 24 7 e
theorem zl_Cr_codeStandardCall_24 {X : zkj_T} {S : zs_T} {P : ze_T} {l : Launch} {D : va_G} {sz0 : Nat} {d : Nat} {rh : zs_H} (C : zk_C X km_Cr_codeStandardCall (zs_G S l D sz0) { frames := 1 + (d + 1), cells := 0, slots := 0, locals := 24 + 26 * (d + 1) } (ze_E P)) (hR : zkj_R X (zd_PV S rh) (none)) {r_Cr_codeExpression : zs_H → Int32 → Int32 → (Option zs_H)} (hr_Cr_codeExpression : ∀ (h : zs_H) (x0 : Int32) (x1 : Int32) {rh : zs_H}, r_Cr_codeExpression h x0 x1 = some rh → zk_Sp (zs_G S l D sz0) (ze_E P) km_Cr_codeExpression { frames := 1 + d, cells := 0, slots := 0, locals := 24 + 26 * d } [.ref (S.1 47), .int x0, .int x1] (zs_W S h) (zd_PV S rh)) (n : Nat) : ∀ (h : zs_H) (x1 : Int32) (x2 : Int32) (x3 : Int32) (x4 : Int32) (x5 : Int32), f_Cr_codeStandardCall_L24 r_Cr_codeExpression n h x1 x2 x3 x4 x5 = some rh → zk_Ab X (zs_W S h) 0 0 24 [(0, .ref (S.1 47)), (1, .int x1), (2, .int x2), (3, .int x3), (4, .int x4), (5, .int x5)] [] := by
  induction n with
  | zero => intro h x1 x2 x3 x4 x5 e; exact zd_no e
  | succ n ih => intro h x1 x2 x3 x4 x5 e; exact zb_Cr_codeStandardCall_24 (k24 := f_Cr_codeStandardCall_L24 r_Cr_codeExpression n) C hR hr_Cr_codeExpression ih h x1 x2 x3 x4 x5 e
set_option maxHeartbeats 4000000 in
set_option maxRecDepth 100000 in
theorem zg_Cr_codeStandardCall {l : Launch} {D : va_G} {sz0 : Nat} {S : zs_T} {P : ze_T} {d : Nat} {r_Cr_codeExpression : zs_H → Int32 → Int32 → (Option zs_H)} (hr_Cr_codeExpression : ∀ (h : zs_H) (x0 : Int32) (x1 : Int32) {rh : zs_H}, r_Cr_codeExpression h x0 x1 = some rh → zk_Sp (zs_G S l D sz0) (ze_E P) km_Cr_codeExpression { frames := 1 + d, cells := 0, slots := 0, locals := 24 + 26 * d } [.ref (S.1 47), .int x0, .int x1] (zs_W S h) (zd_PV S rh)) (h : zs_H) (x1 : Int32) (x2 : Int32) {rh : zs_H} (e : g_Cr_codeStandardCall r_Cr_codeExpression h x1 x2 = some rh) : zk_Sp (zs_G S l D sz0) (ze_E P) km_Cr_codeStandardCall { frames := 1 + (d + 1), cells := 0, slots := 0, locals := 24 + 26 * (d + 1) } [.ref (S.1 47), .int x1, .int x2] (zs_W S h) (zd_PV S rh) := by
  refine zk_met ku_Cr_codeStandardCall (Nat.le_of_ble_eq_true rfl) (ze_Em P) ?_
  intro X C hR
  refine zk_lvs (lv' := [(0, .ref (S.1 47)), (1, .int x1), (2, .int x2)]) [0, 1, 2] rfl ?_
  unfold g_Cr_codeStandardCall at e
  refine zk_aload_n C kd_Cr_codeStandardCall_0 rfl 0 rfl rfl ?_
  refine zs_get (v := .ref (S.1 12)) C 47 0 rfl rfl rfl rfl ki_Cr (by decide) kw442 kd_Cr_codeStandardCall_1 rfl ?_
  refine zs_get (v := .ref (S.1 16)) C 12 3 rfl rfl rfl rfl ki_Tr (by decide) kw167 kd_Cr_codeStandardCall_4 rfl ?_
  refine zk_iload_n C kd_Cr_codeStandardCall_7 rfl 1 rfl rfl ?_
  obtain ⟨q1, e⟩ := zd_g e
  refine zs_iald C 16 rfl (zd_vp q1) kd_Cr_codeStandardCall_8 rfl ?_
  refine zk_istore_n (lv' := [(3, _), (0, _), (1, _), (2, _)]) C kd_Cr_codeStandardCall_9 rfl (by decide) rfl rfl ?_
  refine zk_aload_n C kd_Cr_codeStandardCall_10 rfl 1 rfl rfl ?_
  refine zs_get (v := .ref (S.1 12)) C 47 0 rfl rfl rfl rfl ki_Cr (by decide) kw442 kd_Cr_codeStandardCall_11 rfl ?_
  refine zs_get (v := .ref (S.1 17)) C 12 4 rfl rfl rfl rfl ki_Tr (by decide) kw171 kd_Cr_codeStandardCall_14 rfl ?_
  refine zk_iload_n C kd_Cr_codeStandardCall_17 rfl 2 rfl rfl ?_
  refine zs_iald C 17 rfl (zd_vp q1) kd_Cr_codeStandardCall_18 rfl ?_
  refine zk_istore (lv' := [(4, _), (3, _), (0, _), (1, _), (2, _)]) C kd_Cr_codeStandardCall_19 (by decide) rfl rfl ?_
  refine zk_iconst (v := 0) C kd_Cr_codeStandardCall_21 (by decide) rfl ?_
  refine zk_istore (lv' := [(5, _), (4, _), (3, _), (0, _), (1, _), (2, _)]) C kd_Cr_codeStandardCall_22 (by decide) rfl rfl ?_
  refine zk_lvs (lv' := [(0, .ref (S.1 47)), (1, .int x1), (2, .int x2), (3, .int (h.2.1 16 x1.toNatClampNeg)), (4, .int (h.2.1 17 x1.toNatClampNeg)), (5, .int 0)]) [3, 4, 5, 2, 1, 0] rfl ?_
  exact zl_Cr_codeStandardCall_24 C hR hr_Cr_codeExpression zF h x1 x2 (h.2.1 16 x1.toNatClampNeg) (h.2.1 17 x1.toNatClampNeg) 0 e
theorem zs_Cr_codeCall {l : Launch} {D : va_G} {sz0 : Nat} {S : zs_T} {P : ze_T} (d : Nat) : (∀ (h : zs_H) (x0 : Int32) (x1 : Int32) {rh : zs_H}, f_Cr_codeCall d h x0 x1 = some rh → zk_Sp (zs_G S l D sz0) (ze_E P) km_Cr_codeCall { frames := 1 + d, cells := 0, slots := 0, locals := 24 + 26 * d } [.ref (S.1 47), .int x0, .int x1] (zs_W S h) (zd_PV S rh)) ∧ (∀ (h : zs_H) (x0 : Int32) (x1 : Int32) {rh : zs_H}, f_Cr_codeExpression d h x0 x1 = some rh → zk_Sp (zs_G S l D sz0) (ze_E P) km_Cr_codeExpression { frames := 1 + d, cells := 0, slots := 0, locals := 24 + 26 * d } [.ref (S.1 47), .int x0, .int x1] (zs_W S h) (zd_PV S rh)) ∧ (∀ (h : zs_H) (x0 : Int32) (x1 : Int32) {rh : zs_H}, f_Cr_codeStandardCall d h x0 x1 = some rh → zk_Sp (zs_G S l D sz0) (ze_E P) km_Cr_codeStandardCall { frames := 1 + d, cells := 0, slots := 0, locals := 24 + 26 * d } [.ref (S.1 47), .int x0, .int x1] (zs_W S h) (zd_PV S rh)) := by
  induction d with
  | zero => exact ⟨(fun h x0 x1 _ e => zd_no e), (fun h x0 x1 _ e => zd_no e), (fun h x0 x1 _ e => zd_no e)⟩
  | succ d ih =>
    obtain ⟨q0, q1, q2⟩ := ih
    exact ⟨(fun h x0 x1 _ e => zg_Cr_codeCall (r_Cr_codeExpression := f_Cr_codeExpression d) q1 h x0 x1 e), (fun h x0 x1 _ e => zg_Cr_codeExpression (r_Cr_codeCall := f_Cr_codeCall d) q0 (r_Cr_codeExpression := f_Cr_codeExpression d) q1 (r_Cr_codeStandardCall := f_Cr_codeStandardCall d) q2 h x0 x1 e), (fun h x0 x1 _ e => zg_Cr_codeStandardCall (r_Cr_codeExpression := f_Cr_codeExpression d) q1 h x0 x1 e)⟩
theorem zc_Cr_codeCall {l : Launch} {D : va_G} {sz0 : Nat} {S : zs_T} {P : ze_T} (h : zs_H) (x0 : Int32) (x1 : Int32) {rh : zs_H} (e : f_Cr_codeCall 400 h x0 x1 = some rh) : zk_Sp (zs_G S l D sz0) (ze_E P) km_Cr_codeCall { frames := 1 + 400, cells := 0, slots := 0, locals := 24 + 26 * 400 } [.ref (S.1 47), .int x0, .int x1] (zs_W S h) (zd_PV S rh) := (zs_Cr_codeCall 400).1 h x0 x1 e
theorem zc_Cr_codeExpression {l : Launch} {D : va_G} {sz0 : Nat} {S : zs_T} {P : ze_T} (h : zs_H) (x0 : Int32) (x1 : Int32) {rh : zs_H} (e : f_Cr_codeExpression 400 h x0 x1 = some rh) : zk_Sp (zs_G S l D sz0) (ze_E P) km_Cr_codeExpression { frames := 1 + 400, cells := 0, slots := 0, locals := 24 + 26 * 400 } [.ref (S.1 47), .int x0, .int x1] (zs_W S h) (zd_PV S rh) := (zs_Cr_codeCall 400).2.1 h x0 x1 e
theorem zc_Cr_codeStandardCall {l : Launch} {D : va_G} {sz0 : Nat} {S : zs_T} {P : ze_T} (h : zs_H) (x0 : Int32) (x1 : Int32) {rh : zs_H} (e : f_Cr_codeStandardCall 400 h x0 x1 = some rh) : zk_Sp (zs_G S l D sz0) (ze_E P) km_Cr_codeStandardCall { frames := 1 + 400, cells := 0, slots := 0, locals := 24 + 26 * 400 } [.ref (S.1 47), .int x0, .int x1] (zs_W S h) (zd_PV S rh) := (zs_Cr_codeCall 400).2.2 h x0 x1 e
set_option maxHeartbeats 4000000 in
set_option maxRecDepth 100000 in
theorem zb_Cr_codeRanges_194 {X : zkj_T} {S : zs_T} {P : ze_T} {l : Launch} {D : va_G} {sz0 : Nat} {rv : Int32} {rh : zs_H} (C : zk_C X km_Cr_codeRanges (zs_G S l D sz0) { frames := 1, cells := 0, slots := 0, locals := 23 } (ze_E P)) (hR : zkj_R X (zd_PI S rv rh) (some .int)) {k13 : zs_H → Int32 → Int32 → Int32 → (Option (Int32 × zs_H))} (hk13 : ∀ (h : zs_H) (x2 : Int32) (x3 : Int32) (x4 : Int32), k13 h x2 x3 x4 = some (rv, rh) → zk_Ab X (zs_W S h) 0 0 13 [(0, .ref (S.1 47)), (2, .int x2), (3, .int x3), (4, .int x4)] []) (h : zs_H) (x2 : Int32) (x3 : Int32) (x4 : Int32) (e : f_Cr_codeRanges_194 k13 h x2 x3 x4 = some (rv, rh)) : zk_Ab X (zs_W S h) 0 0 194 [(0, .ref (S.1 47)), (2, .int x2), (3, .int x3), (4, .int x4)] [] := by
  unfold f_Cr_codeRanges_194 at e
  refine zk_aload_n C kd_Cr_codeRanges_194 rfl 0 rfl rfl ?_
  refine zs_get (v := .ref (S.1 12)) C 47 0 rfl rfl rfl rfl ki_Cr (by decide) kw442 kd_Cr_codeRanges_195 rfl ?_
  refine zs_get (v := .ref (S.1 18)) C 12 5 rfl rfl rfl rfl ki_Tr (by decide) kw174 kd_Cr_codeRanges_198 rfl ?_
  refine zk_iload_n C kd_Cr_codeRanges_201 rfl 2 rfl rfl ?_
  obtain ⟨q1, e⟩ := zd_g e
  refine zs_iald C 18 rfl (zd_vp q1) kd_Cr_codeRanges_202 rfl ?_
  refine zk_istore_n (lv' := [(3, _), (0, _), (2, _), (4, _)]) C kd_Cr_codeRanges_203 rfl (by decide) rfl rfl ?_
  refine zk_iinc (v := (x4 + 1)) (lv' := [(4, _), (3, _), (0, _), (2, _)]) C kd_Cr_codeRanges_204 3 rfl rfl (by decide) rfl rfl ?_
  refine zk_goto (tgt := 13) C kd_Cr_codeRanges_207 (by decide) ?_
  refine zk_lvs (lv' := [(0, .ref (S.1 47)), (2, .int x2), (3, .int (h.2.1 18 x3.toNatClampNeg)), (4, .int (x4 + 1))]) [2, 3, 1, 0] rfl ?_
  exact hk13 h x2 (h.2.1 18 x3.toNatClampNeg) (x4 + 1) e
set_option maxHeartbeats 4000000 in
set_option maxRecDepth 100000 in
theorem zb_Cr_codeRanges_177 {X : zkj_T} {S : zs_T} {P : ze_T} {l : Launch} {D : va_G} {sz0 : Nat} {rv : Int32} {rh : zs_H} (C : zk_C X km_Cr_codeRanges (zs_G S l D sz0) { frames := 1, cells := 0, slots := 0, locals := 23 } (ze_E P)) (hR : zkj_R X (zd_PI S rv rh) (some .int)) {k13 : zs_H → Int32 → Int32 → Int32 → (Option (Int32 × zs_H))} (hk13 : ∀ (h : zs_H) (x2 : Int32) (x3 : Int32) (x4 : Int32), k13 h x2 x3 x4 = some (rv, rh) → zk_Ab X (zs_W S h) 0 0 13 [(0, .ref (S.1 47)), (2, .int x2), (3, .int x3), (4, .int x4)] []) (h : zs_H) (x2 : Int32) (x3 : Int32) (x4 : Int32) (e : f_Cr_codeRanges_177 k13 h x2 x3 x4 = some (rv, rh)) : zk_Ab X (zs_W S h) 0 0 177 [(0, .ref (S.1 47)), (2, .int x2), (3, .int x3), (4, .int x4)] [] := by
  unfold f_Cr_codeRanges_177 at e
  refine zk_iload C kd_Cr_codeRanges_177 3 rfl rfl ?_
  refine zk_if_le (tgt := 194) C kd_Cr_codeRanges_179 (by decide) rfl (fun b1 => ?_) (fun b1 => ?_)
  · replace e := zd_pos b1 e
    refine zk_lvs (lv' := [(0, .ref (S.1 47)), (2, .int x2), (3, .int x3), (4, .int x4)]) [0, 1, 2, 3] rfl ?_
    exact zb_Cr_codeRanges_194 C hR hk13 h x2 x3 x4 e
  · replace e := zd_neg b1 e
    refine zk_aload_n C kd_Cr_codeRanges_182 rfl 0 rfl rfl ?_
    refine zs_get (v := .ref (S.1 41)) C 47 2 rfl rfl rfl rfl ki_Cr (by decide) kw444 kd_Cr_codeRanges_183 rfl ?_
    refine zk_bipush (v := 7) C kd_Cr_codeRanges_186 (by decide) rfl ?_
    refine zk_bipush (v := 11) C kd_Cr_codeRanges_188 (by decide) rfl ?_
    obtain ⟨v3, h4, c2, e⟩ := zd_Be e
    refine zs_callV (k := 41) (rn := { frames := 0, cells := 0, slots := 0, locals := 0 }) (As := [.int 7, .int 11]) (rest := []) C (zc_Cd_emit h 7 11 c2) ku_Cd_emit kw1278 kv_Cd_emit rfl ⟨by decide, by decide⟩ ⟨by decide, by decide⟩ rfl rfl rfl (Nat.le_of_ble_eq_true rfl) kd_Cr_codeRanges_190 rfl (c1 := 0) (s1 := 0) rfl rfl (fun v w hp => ?_)
    obtain ⟨rfl, rfl⟩ := hp
    refine zk_stk (r' := [.int v3]) rfl ?_
    refine zk_pop C kd_Cr_codeRanges_193 rfl rfl ?_
    refine zk_lvs (lv' := [(0, .ref (S.1 47)), (2, .int x2), (3, .int x3), (4, .int x4)]) [0, 1, 2, 3] rfl ?_
    exact zb_Cr_codeRanges_194 C hR hk13 h4 x2 x3 x4 e
set_option maxHeartbeats 4000000 in
set_option maxRecDepth 100000 in
theorem zb_Cr_codeRanges_13 {X : zkj_T} {S : zs_T} {P : ze_T} {l : Launch} {D : va_G} {sz0 : Nat} {rv : Int32} {rh : zs_H} (C : zk_C X km_Cr_codeRanges (zs_G S l D sz0) { frames := 1, cells := 0, slots := 0, locals := 23 } (ze_E P)) (hR : zkj_R X (zd_PI S rv rh) (some .int)) {k13 : zs_H → Int32 → Int32 → Int32 → (Option (Int32 × zs_H))} (hk13 : ∀ (h : zs_H) (x2 : Int32) (x3 : Int32) (x4 : Int32), k13 h x2 x3 x4 = some (rv, rh) → zk_Ab X (zs_W S h) 0 0 13 [(0, .ref (S.1 47)), (2, .int x2), (3, .int x3), (4, .int x4)] []) (h : zs_H) (x2 : Int32) (x3 : Int32) (x4 : Int32) (e : f_Cr_codeRanges_13 k13 h x2 x3 x4 = some (rv, rh)) : zk_Ab X (zs_W S h) 0 0 13 [(0, .ref (S.1 47)), (2, .int x2), (3, .int x3), (4, .int x4)] [] := by
  unfold f_Cr_codeRanges_13 at e
  refine zk_iload C kd_Cr_codeRanges_13 3 rfl rfl ?_
  refine zk_aload_n C kd_Cr_codeRanges_15 rfl 0 rfl rfl ?_
  refine zs_get (v := .ref (S.1 12)) C 47 0 rfl rfl rfl rfl ki_Cr (by decide) kw442 kd_Cr_codeRanges_16 rfl ?_
  refine zs_get (v := .int (h.1 12 6)) C 12 6 rfl rfl rfl rfl ki_Tr (by decide) kw178 kd_Cr_codeRanges_19 rfl ?_
  refine zk_icmp_ge (tgt := 210) C kd_Cr_codeRanges_22 (by decide) rfl (fun b1 => ?_) (fun b1 => ?_)
  · replace e := zd_pos b1 e
    refine zk_iload_n C kd_Cr_codeRanges_210 rfl 2 rfl rfl ?_
    exact zk_iret C hR kd_Cr_codeRanges_211 rfl rfl (zd_rIS e)
  · replace e := zd_neg b1 e
    refine zk_aload_n C kd_Cr_codeRanges_25 rfl 0 rfl rfl ?_
    refine zs_get (v := .ref (S.1 12)) C 47 0 rfl rfl rfl rfl ki_Cr (by decide) kw442 kd_Cr_codeRanges_26 rfl ?_
    refine zs_get (v := .ref (S.1 13)) C 12 0 rfl rfl rfl rfl ki_Tr (by decide) kw156 kd_Cr_codeRanges_29 rfl ?_
    refine zk_iload_n C kd_Cr_codeRanges_32 rfl 2 rfl rfl ?_
    obtain ⟨q2, e⟩ := zd_g e
    refine zs_bald C 13 rfl (zd_vp q2) kd_Cr_codeRanges_33 rfl ?_
    refine zk_bipush (v := 18) C kd_Cr_codeRanges_34 (by decide) rfl ?_
    refine zk_icmp_ne (tgt := 210) C kd_Cr_codeRanges_36 (by decide) rfl (fun b3 => ?_) (fun b3 => ?_)
    · replace e := zd_neg b3 e
      refine zk_iload_n C kd_Cr_codeRanges_210 rfl 2 rfl rfl ?_
      exact zk_iret C hR kd_Cr_codeRanges_211 rfl rfl (zd_rIS e)
    · replace e := zd_pos b3 e
      refine zk_aload_n C kd_Cr_codeRanges_39 rfl 0 rfl rfl ?_
      refine zs_get (v := .ref (S.1 12)) C 47 0 rfl rfl rfl rfl ki_Cr (by decide) kw442 kd_Cr_codeRanges_40 rfl ?_
      refine zs_get (v := .ref (S.1 17)) C 12 4 rfl rfl rfl rfl ki_Tr (by decide) kw171 kd_Cr_codeRanges_43 rfl ?_
      refine zk_iload_n C kd_Cr_codeRanges_46 rfl 2 rfl rfl ?_
      refine zs_iald C 17 rfl (zd_vp q2) kd_Cr_codeRanges_47 rfl ?_
      refine zk_istore (lv' := [(5, _), (0, _), (2, _), (3, _), (4, _)]) C kd_Cr_codeRanges_48 (by decide) rfl rfl ?_
      refine zk_aload_n C kd_Cr_codeRanges_50 rfl 1 rfl rfl ?_
      refine zs_get (v := .ref (S.1 12)) C 47 0 rfl rfl rfl rfl ki_Cr (by decide) kw442 kd_Cr_codeRanges_51 rfl ?_
      refine zs_get (v := .ref (S.1 18)) C 12 5 rfl rfl rfl rfl ki_Tr (by decide) kw174 kd_Cr_codeRanges_54 rfl ?_
      refine zk_iload C kd_Cr_codeRanges_57 0 rfl rfl ?_
      obtain ⟨q4, e⟩ := zd_g e
      refine zs_iald C 18 rfl (zd_vp q4) kd_Cr_codeRanges_59 rfl ?_
      refine zk_istore (lv' := [(6, _), (5, _), (0, _), (2, _), (3, _), (4, _)]) C kd_Cr_codeRanges_60 (by decide) rfl rfl ?_
      refine zk_aload_n C kd_Cr_codeRanges_62 rfl 2 rfl rfl ?_
      refine zs_get (v := .ref (S.1 41)) C 47 2 rfl rfl rfl rfl ki_Cr (by decide) kw444 kd_Cr_codeRanges_63 rfl ?_
      refine zk_iconst (v := 1) C kd_Cr_codeRanges_66 (by decide) rfl ?_
      refine zk_iload_n C kd_Cr_codeRanges_67 rfl 3 rfl rfl ?_
      obtain ⟨v6, h7, c5, e⟩ := zd_Be e
      refine zs_callV (k := 41) (rn := { frames := 0, cells := 0, slots := 0, locals := 0 }) (As := [.int 1, .int x2]) (rest := []) C (zc_Cd_emit h 1 x2 c5) ku_Cd_emit kw1278 kv_Cd_emit rfl ⟨by decide, by decide⟩ ⟨by decide, by decide⟩ rfl rfl rfl (Nat.le_of_ble_eq_true rfl) kd_Cr_codeRanges_68 rfl (c1 := 0) (s1 := 0) rfl rfl (fun v w hp => ?_)
      obtain ⟨rfl, rfl⟩ := hp
      refine zk_stk (r' := [.int v6]) rfl ?_
      refine zk_pop C kd_Cr_codeRanges_71 rfl rfl ?_
      refine zk_aload_n C kd_Cr_codeRanges_72 rfl 2 rfl rfl ?_
      refine zs_get (v := .ref (S.1 41)) C 47 2 rfl rfl rfl rfl ki_Cr (by decide) kw444 kd_Cr_codeRanges_73 rfl ?_
      refine zk_iconst (v := 0) C kd_Cr_codeRanges_76 (by decide) rfl ?_
      refine zk_aload_n C kd_Cr_codeRanges_77 rfl 2 rfl rfl ?_
      refine zs_get (v := .ref (S.1 12)) C 47 0 rfl rfl rfl rfl ki_Cr (by decide) kw442 kd_Cr_codeRanges_78 rfl ?_
      refine zs_get (v := .ref (S.1 16)) C 12 3 rfl rfl rfl rfl ki_Tr (by decide) kw167 kd_Cr_codeRanges_81 rfl ?_
      refine zk_iload C kd_Cr_codeRanges_84 1 rfl rfl ?_
      obtain ⟨q8, e⟩ := zd_g e
      refine zs_iald C 16 rfl (zd_vp q8) kd_Cr_codeRanges_86 rfl ?_
      obtain ⟨v10, h11, c9, e⟩ := zd_Be e
      refine zs_callV (k := 41) (rn := { frames := 0, cells := 0, slots := 0, locals := 0 }) (As := [.int 0, .int (h7.2.1 16 (h.2.1 17 x3.toNatClampNeg).toNatClampNeg)]) (rest := []) C (zc_Cd_emit h7 0 (h7.2.1 16 (h.2.1 17 x3.toNatClampNeg).toNatClampNeg) c9) ku_Cd_emit kw1278 kv_Cd_emit rfl ⟨by decide, by decide⟩ ⟨by decide, by decide⟩ rfl rfl rfl (Nat.le_of_ble_eq_true rfl) kd_Cr_codeRanges_87 rfl (c1 := 0) (s1 := 0) rfl rfl (fun v w hp => ?_)
      obtain ⟨rfl, rfl⟩ := hp
      refine zk_stk (r' := [.int v10]) rfl ?_
      refine zk_pop C kd_Cr_codeRanges_90 rfl rfl ?_
      refine zk_iload C kd_Cr_codeRanges_91 0 rfl rfl ?_
      refine zk_iconst (v := (-1)) C kd_Cr_codeRanges_93 (by decide) rfl ?_
      refine zk_icmp_ne (tgt := 112) C kd_Cr_codeRanges_94 (by decide) rfl (fun b12 => ?_) (fun b12 => ?_)
      · replace e := zd_neg b12 e
        refine zk_aload_n C kd_Cr_codeRanges_112 rfl 2 rfl rfl ?_
        refine zs_get (v := .ref (S.1 41)) C 47 2 rfl rfl rfl rfl ki_Cr (by decide) kw444 kd_Cr_codeRanges_113 rfl ?_
        refine zk_bipush (v := 7) C kd_Cr_codeRanges_116 (by decide) rfl ?_
        refine zk_bipush (v := 18) C kd_Cr_codeRanges_118 (by decide) rfl ?_
        obtain ⟨v14, h15, c13, e⟩ := zd_Be e
        refine zs_callV (k := 41) (rn := { frames := 0, cells := 0, slots := 0, locals := 0 }) (As := [.int 7, .int 18]) (rest := []) C (zc_Cd_emit h11 7 18 c13) ku_Cd_emit kw1278 kv_Cd_emit rfl ⟨by decide, by decide⟩ ⟨by decide, by decide⟩ rfl rfl rfl (Nat.le_of_ble_eq_true rfl) kd_Cr_codeRanges_120 rfl (c1 := 0) (s1 := 0) rfl rfl (fun v w hp => ?_)
        obtain ⟨rfl, rfl⟩ := hp
        refine zk_stk (r' := [.int v14]) rfl ?_
        refine zk_pop C kd_Cr_codeRanges_123 rfl rfl ?_
        refine zk_aload_n C kd_Cr_codeRanges_124 rfl 2 rfl rfl ?_
        refine zs_get (v := .ref (S.1 41)) C 47 2 rfl rfl rfl rfl ki_Cr (by decide) kw444 kd_Cr_codeRanges_125 rfl ?_
        refine zk_iconst (v := 1) C kd_Cr_codeRanges_128 (by decide) rfl ?_
        refine zk_iload_n C kd_Cr_codeRanges_129 rfl 3 rfl rfl ?_
        obtain ⟨v17, h18, c16, e⟩ := zd_Be e
        refine zs_callV (k := 41) (rn := { frames := 0, cells := 0, slots := 0, locals := 0 }) (As := [.int 1, .int x2]) (rest := []) C (zc_Cd_emit h15 1 x2 c16) ku_Cd_emit kw1278 kv_Cd_emit rfl ⟨by decide, by decide⟩ ⟨by decide, by decide⟩ rfl rfl rfl (Nat.le_of_ble_eq_true rfl) kd_Cr_codeRanges_130 rfl (c1 := 0) (s1 := 0) rfl rfl (fun v w hp => ?_)
        obtain ⟨rfl, rfl⟩ := hp
        refine zk_stk (r' := [.int v17]) rfl ?_
        refine zk_pop C kd_Cr_codeRanges_133 rfl rfl ?_
        refine zk_aload_n C kd_Cr_codeRanges_134 rfl 2 rfl rfl ?_
        refine zs_get (v := .ref (S.1 41)) C 47 2 rfl rfl rfl rfl ki_Cr (by decide) kw444 kd_Cr_codeRanges_135 rfl ?_
        refine zk_iconst (v := 0) C kd_Cr_codeRanges_138 (by decide) rfl ?_
        refine zk_aload_n C kd_Cr_codeRanges_139 rfl 2 rfl rfl ?_
        refine zs_get (v := .ref (S.1 12)) C 47 0 rfl rfl rfl rfl ki_Cr (by decide) kw442 kd_Cr_codeRanges_140 rfl ?_
        refine zs_get (v := .ref (S.1 16)) C 12 3 rfl rfl rfl rfl ki_Tr (by decide) kw167 kd_Cr_codeRanges_143 rfl ?_
        refine zk_iload C kd_Cr_codeRanges_146 0 rfl rfl ?_
        obtain ⟨q19, e⟩ := zd_g e
        refine zs_iald C 16 rfl (zd_vp q19) kd_Cr_codeRanges_148 rfl ?_
        obtain ⟨v21, h22, c20, e⟩ := zd_Be e
        refine zs_callV (k := 41) (rn := { frames := 0, cells := 0, slots := 0, locals := 0 }) (As := [.int 0, .int (h18.2.1 16 (h.2.1 18 (h.2.1 17 x3.toNatClampNeg).toNatClampNeg).toNatClampNeg)]) (rest := []) C (zc_Cd_emit h18 0 (h18.2.1 16 (h.2.1 18 (h.2.1 17 x3.toNatClampNeg).toNatClampNeg).toNatClampNeg) c20) ku_Cd_emit kw1278 kv_Cd_emit rfl ⟨by decide, by decide⟩ ⟨by decide, by decide⟩ rfl rfl rfl (Nat.le_of_ble_eq_true rfl) kd_Cr_codeRanges_149 rfl (c1 := 0) (s1 := 0) rfl rfl (fun v w hp => ?_)
        obtain ⟨rfl, rfl⟩ := hp
        refine zk_stk (r' := [.int v21]) rfl ?_
        refine zk_pop C kd_Cr_codeRanges_152 rfl rfl ?_
        refine zk_aload_n C kd_Cr_codeRanges_153 rfl 2 rfl rfl ?_
        refine zs_get (v := .ref (S.1 41)) C 47 2 rfl rfl rfl rfl ki_Cr (by decide) kw444 kd_Cr_codeRanges_154 rfl ?_
        refine zk_bipush (v := 7) C kd_Cr_codeRanges_157 (by decide) rfl ?_
        refine zk_bipush (v := 17) C kd_Cr_codeRanges_159 (by decide) rfl ?_
        obtain ⟨v24, h25, c23, e⟩ := zd_Be e
        refine zs_callV (k := 41) (rn := { frames := 0, cells := 0, slots := 0, locals := 0 }) (As := [.int 7, .int 17]) (rest := []) C (zc_Cd_emit h22 7 17 c23) ku_Cd_emit kw1278 kv_Cd_emit rfl ⟨by decide, by decide⟩ ⟨by decide, by decide⟩ rfl rfl rfl (Nat.le_of_ble_eq_true rfl) kd_Cr_codeRanges_161 rfl (c1 := 0) (s1 := 0) rfl rfl (fun v w hp => ?_)
        obtain ⟨rfl, rfl⟩ := hp
        refine zk_stk (r' := [.int v24]) rfl ?_
        refine zk_pop C kd_Cr_codeRanges_164 rfl rfl ?_
        refine zk_aload_n C kd_Cr_codeRanges_165 rfl 2 rfl rfl ?_
        refine zs_get (v := .ref (S.1 41)) C 47 2 rfl rfl rfl rfl ki_Cr (by decide) kw444 kd_Cr_codeRanges_166 rfl ?_
        refine zk_bipush (v := 7) C kd_Cr_codeRanges_169 (by decide) rfl ?_
        refine zk_bipush (v := 10) C kd_Cr_codeRanges_171 (by decide) rfl ?_
        obtain ⟨v27, h28, c26, e⟩ := zd_Be e
        refine zs_callV (k := 41) (rn := { frames := 0, cells := 0, slots := 0, locals := 0 }) (As := [.int 7, .int 10]) (rest := []) C (zc_Cd_emit h25 7 10 c26) ku_Cd_emit kw1278 kv_Cd_emit rfl ⟨by decide, by decide⟩ ⟨by decide, by decide⟩ rfl rfl rfl (Nat.le_of_ble_eq_true rfl) kd_Cr_codeRanges_173 rfl (c1 := 0) (s1 := 0) rfl rfl (fun v w hp => ?_)
        obtain ⟨rfl, rfl⟩ := hp
        refine zk_stk (r' := [.int v27]) rfl ?_
        refine zk_pop C kd_Cr_codeRanges_176 rfl rfl ?_
        refine zk_lvs (lv' := [(0, .ref (S.1 47)), (2, .int x2), (3, .int x3), (4, .int x4)]) [2, 3, 4, 5] rfl ?_
        exact zb_Cr_codeRanges_177 C hR hk13 h28 x2 x3 x4 e
      · replace e := zd_pos b12 e
        refine zk_aload_n C kd_Cr_codeRanges_97 rfl 2 rfl rfl ?_
        refine zs_get (v := .ref (S.1 41)) C 47 2 rfl rfl rfl rfl ki_Cr (by decide) kw444 kd_Cr_codeRanges_98 rfl ?_
        refine zk_bipush (v := 7) C kd_Cr_codeRanges_101 (by decide) rfl ?_
        refine zk_bipush (v := 13) C kd_Cr_codeRanges_103 (by decide) rfl ?_
        obtain ⟨v30, h31, c29, e⟩ := zd_Be e
        refine zs_callV (k := 41) (rn := { frames := 0, cells := 0, slots := 0, locals := 0 }) (As := [.int 7, .int 13]) (rest := []) C (zc_Cd_emit h11 7 13 c29) ku_Cd_emit kw1278 kv_Cd_emit rfl ⟨by decide, by decide⟩ ⟨by decide, by decide⟩ rfl rfl rfl (Nat.le_of_ble_eq_true rfl) kd_Cr_codeRanges_105 rfl (c1 := 0) (s1 := 0) rfl rfl (fun v w hp => ?_)
        obtain ⟨rfl, rfl⟩ := hp
        refine zk_stk (r' := [.int v30]) rfl ?_
        refine zk_pop C kd_Cr_codeRanges_108 rfl rfl ?_
        refine zk_goto (tgt := 177) C kd_Cr_codeRanges_109 (by decide) ?_
        refine zk_lvs (lv' := [(0, .ref (S.1 47)), (2, .int x2), (3, .int x3), (4, .int x4)]) [2, 3, 4, 5] rfl ?_
        exact zb_Cr_codeRanges_177 C hR hk13 h31 x2 x3 x4 e
theorem zl_Cr_codeRanges_13 {X : zkj_T} {S : zs_T} {P : ze_T} {l : Launch} {D : va_G} {sz0 : Nat} {rv : Int32} {rh : zs_H} (C : zk_C X km_Cr_codeRanges (zs_G S l D sz0) { frames := 1, cells := 0, slots := 0, locals := 23 } (ze_E P)) (hR : zkj_R X (zd_PI S rv rh) (some .int)) (n : Nat) : ∀ (h : zs_H) (x2 : Int32) (x3 : Int32) (x4 : Int32), f_Cr_codeRanges_L13 n h x2 x3 x4 = some (rv, rh) → zk_Ab X (zs_W S h) 0 0 13 [(0, .ref (S.1 47)), (2, .int x2), (3, .int x3), (4, .int x4)] [] := by
  induction n with
  | zero => intro h x2 x3 x4 e; exact zd_no e
  | succ n ih => intro h x2 x3 x4 e; exact zb_Cr_codeRanges_13 (k13 := f_Cr_codeRanges_L13  n) C hR ih h x2 x3 x4 e
set_option maxHeartbeats 4000000 in
set_option maxRecDepth 100000 in
theorem zc_Cr_codeRanges {l : Launch} {D : va_G} {sz0 : Nat} {S : zs_T} {P : ze_T} (h : zs_H) (x1 : Int32) (x2 : Int32) {rv : Int32} {rh : zs_H} (e : f_Cr_codeRanges h x1 x2 = some (rv, rh)) : zk_Sp (zs_G S l D sz0) (ze_E P) km_Cr_codeRanges { frames := 1, cells := 0, slots := 0, locals := 23 } [.ref (S.1 47), .int x1, .int x2] (zs_W S h) (zd_PI S rv rh) := by
  refine zk_met ku_Cr_codeRanges (Nat.le_of_ble_eq_true rfl) (ze_Em P) ?_
  intro X C hR
  refine zk_lvs (lv' := [(0, .ref (S.1 47)), (1, .int x1), (2, .int x2)]) [0, 1, 2] rfl ?_
  unfold f_Cr_codeRanges at e
  refine zk_aload_n C kd_Cr_codeRanges_0 rfl 0 rfl rfl ?_
  refine zs_get (v := .ref (S.1 12)) C 47 0 rfl rfl rfl rfl ki_Cr (by decide) kw442 kd_Cr_codeRanges_1 rfl ?_
  refine zs_get (v := .ref (S.1 17)) C 12 4 rfl rfl rfl rfl ki_Tr (by decide) kw171 kd_Cr_codeRanges_4 rfl ?_
  refine zk_iload_n C kd_Cr_codeRanges_7 rfl 1 rfl rfl ?_
  obtain ⟨q1, e⟩ := zd_g e
  refine zs_iald C 17 rfl (zd_vp q1) kd_Cr_codeRanges_8 rfl ?_
  refine zk_istore_n (lv' := [(3, _), (0, _), (1, _), (2, _)]) C kd_Cr_codeRanges_9 rfl (by decide) rfl rfl ?_
  refine zk_iconst (v := 0) C kd_Cr_codeRanges_10 (by decide) rfl ?_
  refine zk_istore (lv' := [(4, _), (3, _), (0, _), (1, _), (2, _)]) C kd_Cr_codeRanges_11 (by decide) rfl rfl ?_
  refine zk_lvs (lv' := [(0, .ref (S.1 47)), (2, .int x2), (3, .int (h.2.1 17 x1.toNatClampNeg)), (4, .int 0)]) [2, 4, 1, 0] rfl ?_
  exact zl_Cr_codeRanges_13 C hR zF h x2 (h.2.1 17 x1.toNatClampNeg) 0 e
set_option maxHeartbeats 4000000 in
set_option maxRecDepth 100000 in
theorem zb_Cr_codeInvocation_162 {X : zkj_T} {S : zs_T} {P : ze_T} {l : Launch} {D : va_G} {sz0 : Nat} {rh : zs_H} (C : zk_C X km_Cr_codeInvocation (zs_G S l D sz0) { frames := 402, cells := 0, slots := 0, locals := 10448 } (ze_E P)) (hR : zkj_R X (zd_PV S rh) (none)) (h : zs_H) (x3 : Int32) (e : f_Cr_codeInvocation_162 h x3 = some rh) : zk_Ab X (zs_W S h) 0 0 162 [(0, .ref (S.1 47)), (3, .int x3)] [] := by
  unfold f_Cr_codeInvocation_162 at e
  refine zk_aload_n C kd_Cr_codeInvocation_162 rfl 0 rfl rfl ?_
  refine zs_get (v := .ref (S.1 41)) C 47 2 rfl rfl rfl rfl ki_Cr (by decide) kw444 kd_Cr_codeInvocation_163 rfl ?_
  refine zk_iload_n C kd_Cr_codeInvocation_166 rfl 1 rfl rfl ?_
  refine zk_iconst (v := 0) C kd_Cr_codeInvocation_167 (by decide) rfl ?_
  obtain ⟨h2, c1, e⟩ := zd_b e
  refine zs_callV (k := 41) (rn := { frames := 0, cells := 0, slots := 0, locals := 0 }) (As := [.int x3, .int 0]) (rest := []) C (zc_Cd_with h x3 0 c1) ku_Cd_with kw1298 kv_Cd_with rfl ⟨by decide, by decide⟩ ⟨by decide, by decide⟩ rfl rfl rfl (Nat.le_of_ble_eq_true rfl) kd_Cr_codeInvocation_168 rfl (c1 := 0) (s1 := 0) rfl rfl (fun v w hp => ?_)
  obtain ⟨rfl, rfl⟩ := hp
  refine zk_stk (r' := []) rfl ?_
  exact zk_vret C hR kd_Cr_codeInvocation_171 rfl rfl (zd_rV e)
set_option maxHeartbeats 4000000 in
set_option maxRecDepth 100000 in
theorem zb_Cr_codeInvocation_114 {X : zkj_T} {S : zs_T} {P : ze_T} {l : Launch} {D : va_G} {sz0 : Nat} {rh : zs_H} (C : zk_C X km_Cr_codeInvocation (zs_G S l D sz0) { frames := 402, cells := 0, slots := 0, locals := 10448 } (ze_E P)) (hR : zkj_R X (zd_PV S rh) (none)) (h : zs_H) (x2 : Int32) (x3 : Int32) (e : f_Cr_codeInvocation_114 h x2 x3 = some rh) : zk_Ab X (zs_W S h) 0 0 114 [(0, .ref (S.1 47)), (2, .int x2), (3, .int x3)] [] := by
  unfold f_Cr_codeInvocation_114 at e
  refine zk_aload_n C kd_Cr_codeInvocation_114 rfl 0 rfl rfl ?_
  refine zs_get (v := .ref (S.1 20)) C 47 1 rfl rfl rfl rfl ki_Cr (by decide) kw443 kd_Cr_codeInvocation_115 rfl ?_
  refine zs_get (v := .ref (S.1 30)) C 20 9 rfl rfl rfl rfl ki_Pl (by decide) kw263 kd_Cr_codeInvocation_118 rfl ?_
  refine zk_iload_n C kd_Cr_codeInvocation_121 rfl 1 rfl rfl ?_
  obtain ⟨q1, e⟩ := zd_g e
  refine zs_iald C 30 rfl (zd_vp q1) kd_Cr_codeInvocation_122 rfl ?_
  refine zk_istore (lv' := [(5, _), (0, _), (2, _), (3, _)]) C kd_Cr_codeInvocation_123 (by decide) rfl rfl ?_
  refine zk_iload C kd_Cr_codeInvocation_125 0 rfl rfl ?_
  refine zk_bipush (v := 9) C kd_Cr_codeInvocation_127 (by decide) rfl ?_
  refine zk_icmp_ge (tgt := 147) C kd_Cr_codeInvocation_129 (by decide) rfl (fun b2 => ?_) (fun b2 => ?_)
  · replace e := zd_pos b2 e
    refine zk_aload_n C kd_Cr_codeInvocation_147 rfl 1 rfl rfl ?_
    refine zs_get (v := .ref (S.1 41)) C 47 2 rfl rfl rfl rfl ki_Cr (by decide) kw444 kd_Cr_codeInvocation_148 rfl ?_
    refine zk_bipush (v := 15) C kd_Cr_codeInvocation_151 (by decide) rfl ?_
    refine zk_iload C kd_Cr_codeInvocation_153 0 rfl rfl ?_
    refine zk_bipush (v := 9) C kd_Cr_codeInvocation_155 (by decide) rfl ?_
    refine zk_isub C kd_Cr_codeInvocation_157 rfl ?_
    obtain ⟨v4, h5, c3, e⟩ := zd_Be e
    refine zs_callV (k := 41) (rn := { frames := 0, cells := 0, slots := 0, locals := 0 }) (As := [.int 15, .int ((h.2.1 30 x2.toNatClampNeg) - 9)]) (rest := []) C (zc_Cd_emit h 15 ((h.2.1 30 x2.toNatClampNeg) - 9) c3) ku_Cd_emit kw1278 kv_Cd_emit rfl ⟨by decide, by decide⟩ ⟨by decide, by decide⟩ rfl rfl rfl (Nat.le_of_ble_eq_true rfl) kd_Cr_codeInvocation_158 rfl (c1 := 0) (s1 := 0) rfl rfl (fun v w hp => ?_)
    obtain ⟨rfl, rfl⟩ := hp
    refine zk_stk (r' := [.int v4]) rfl ?_
    refine zk_pop C kd_Cr_codeInvocation_161 rfl rfl ?_
    refine zk_lvs (lv' := [(0, .ref (S.1 47)), (3, .int x3)]) [1, 3] rfl ?_
    exact zb_Cr_codeInvocation_162 C hR h5 x3 e
  · replace e := zd_neg b2 e
    refine zk_aload_n C kd_Cr_codeInvocation_132 rfl 1 rfl rfl ?_
    refine zs_get (v := .ref (S.1 41)) C 47 2 rfl rfl rfl rfl ki_Cr (by decide) kw444 kd_Cr_codeInvocation_133 rfl ?_
    refine zk_bipush (v := 17) C kd_Cr_codeInvocation_136 (by decide) rfl ?_
    refine zk_iload C kd_Cr_codeInvocation_138 0 rfl rfl ?_
    obtain ⟨v7, h8, c6, e⟩ := zd_Be e
    refine zs_callV (k := 41) (rn := { frames := 0, cells := 0, slots := 0, locals := 0 }) (As := [.int 17, .int (h.2.1 30 x2.toNatClampNeg)]) (rest := []) C (zc_Cd_emit h 17 (h.2.1 30 x2.toNatClampNeg) c6) ku_Cd_emit kw1278 kv_Cd_emit rfl ⟨by decide, by decide⟩ ⟨by decide, by decide⟩ rfl rfl rfl (Nat.le_of_ble_eq_true rfl) kd_Cr_codeInvocation_140 rfl (c1 := 0) (s1 := 0) rfl rfl (fun v w hp => ?_)
    obtain ⟨rfl, rfl⟩ := hp
    refine zk_stk (r' := [.int v7]) rfl ?_
    refine zk_pop C kd_Cr_codeInvocation_143 rfl rfl ?_
    refine zk_goto (tgt := 162) C kd_Cr_codeInvocation_144 (by decide) ?_
    refine zk_lvs (lv' := [(0, .ref (S.1 47)), (3, .int x3)]) [1, 3] rfl ?_
    exact zb_Cr_codeInvocation_162 C hR h8 x3 e
set_option maxHeartbeats 4000000 in
set_option maxRecDepth 100000 in
theorem zb_Cr_codeInvocation_34 {X : zkj_T} {S : zs_T} {P : ze_T} {l : Launch} {D : va_G} {sz0 : Nat} {rh : zs_H} (C : zk_C X km_Cr_codeInvocation (zs_G S l D sz0) { frames := 402, cells := 0, slots := 0, locals := 10448 } (ze_E P)) (hR : zkj_R X (zd_PV S rh) (none)) {k34 : zs_H → Int32 → Int32 → Int32 → Int32 → (Option zs_H)} (hk34 : ∀ (h : zs_H) (x2 : Int32) (x3 : Int32) (x4 : Int32) (x5 : Int32), k34 h x2 x3 x4 x5 = some rh → zk_Ab X (zs_W S h) 0 0 34 [(0, .ref (S.1 47)), (2, .int x2), (3, .int x3), (4, .int x4), (5, .int x5)] []) (h : zs_H) (x2 : Int32) (x3 : Int32) (x4 : Int32) (x5 : Int32) (e : f_Cr_codeInvocation_34 k34 h x2 x3 x4 x5 = some rh) : zk_Ab X (zs_W S h) 0 0 34 [(0, .ref (S.1 47)), (2, .int x2), (3, .int x3), (4, .int x4), (5, .int x5)] [] := by
  unfold f_Cr_codeInvocation_34 at e
  refine zk_iload C kd_Cr_codeInvocation_34 4 rfl rfl ?_
  refine zk_aload_n C kd_Cr_codeInvocation_36 rfl 0 rfl rfl ?_
  refine zs_get (v := .ref (S.1 12)) C 47 0 rfl rfl rfl rfl ki_Cr (by decide) kw442 kd_Cr_codeInvocation_37 rfl ?_
  refine zs_get (v := .int (h.1 12 6)) C 12 6 rfl rfl rfl rfl ki_Tr (by decide) kw178 kd_Cr_codeInvocation_40 rfl ?_
  refine zk_icmp_ge (tgt := 114) C kd_Cr_codeInvocation_43 (by decide) rfl (fun b1 => ?_) (fun b1 => ?_)
  · replace e := zd_pos b1 e
    refine zk_lvs (lv' := [(0, .ref (S.1 47)), (2, .int x2), (3, .int x3)]) [0, 1, 2] rfl ?_
    exact zb_Cr_codeInvocation_114 C hR h x2 x3 e
  · replace e := zd_neg b1 e
    refine zk_iload C kd_Cr_codeInvocation_46 3 rfl rfl ?_
    refine zk_iconst (v := (-1)) C kd_Cr_codeInvocation_48 (by decide) rfl ?_
    refine zk_icmp_eq (tgt := 114) C kd_Cr_codeInvocation_49 (by decide) rfl (fun b2 => ?_) (fun b2 => ?_)
    · replace e := zd_pos b2 e
      refine zk_lvs (lv' := [(0, .ref (S.1 47)), (2, .int x2), (3, .int x3)]) [0, 1, 2] rfl ?_
      exact zb_Cr_codeInvocation_114 C hR h x2 x3 e
    · replace e := zd_neg b2 e
      refine zk_aload_n C kd_Cr_codeInvocation_52 rfl 0 rfl rfl ?_
      refine zk_aload_n C kd_Cr_codeInvocation_53 rfl 0 rfl rfl ?_
      refine zs_get (v := .ref (S.1 12)) C 47 0 rfl rfl rfl rfl ki_Cr (by decide) kw442 kd_Cr_codeInvocation_54 rfl ?_
      refine zs_get (v := .ref (S.1 17)) C 12 4 rfl rfl rfl rfl ki_Tr (by decide) kw171 kd_Cr_codeInvocation_57 rfl ?_
      refine zk_iload C kd_Cr_codeInvocation_60 3 rfl rfl ?_
      obtain ⟨q3, e⟩ := zd_g e
      refine zs_iald C 17 rfl (zd_vp q3) kd_Cr_codeInvocation_62 rfl ?_
      refine zk_iconst (v := 0) C kd_Cr_codeInvocation_63 (by decide) rfl ?_
      obtain ⟨h5, c4, e⟩ := zd_b e
      refine zs_callV (k := 47) (rn := { frames := 1 + 400, cells := 0, slots := 0, locals := 24 + 26 * 400 }) (As := [.int (h.2.1 17 x4.toNatClampNeg), .int 0]) (rest := []) C (zc_Cr_codeExpression h (h.2.1 17 x4.toNatClampNeg) 0 c4) ku_Cr_codeExpression kw1290 kv_Cr_codeExpression rfl ⟨by decide, by decide⟩ ⟨by decide, by decide⟩ rfl rfl rfl (Nat.le_of_ble_eq_true rfl) kd_Cr_codeInvocation_64 rfl (c1 := 0) (s1 := 0) rfl rfl (fun v w hp => ?_)
      obtain ⟨rfl, rfl⟩ := hp
      refine zk_stk (r' := []) rfl ?_
      refine zk_aload_n C kd_Cr_codeInvocation_67 rfl 0 rfl rfl ?_
      refine zs_get (v := .ref (S.1 41)) C 47 2 rfl rfl rfl rfl ki_Cr (by decide) kw444 kd_Cr_codeInvocation_68 rfl ?_
      refine zk_iconst (v := 2) C kd_Cr_codeInvocation_71 (by decide) rfl ?_
      refine zk_iload_n C kd_Cr_codeInvocation_72 rfl 2 rfl rfl ?_
      refine zk_aload_n C kd_Cr_codeInvocation_73 rfl 0 rfl rfl ?_
      refine zs_get (v := .ref (S.1 20)) C 47 1 rfl rfl rfl rfl ki_Cr (by decide) kw443 kd_Cr_codeInvocation_74 rfl ?_
      refine zs_get (v := .ref (S.1 32)) C 20 11 rfl rfl rfl rfl ki_Pl (by decide) kw269 kd_Cr_codeInvocation_77 rfl ?_
      refine zk_aload_n C kd_Cr_codeInvocation_80 rfl 0 rfl rfl ?_
      refine zs_get (v := .ref (S.1 12)) C 47 0 rfl rfl rfl rfl ki_Cr (by decide) kw442 kd_Cr_codeInvocation_81 rfl ?_
      refine zs_get (v := .ref (S.1 16)) C 12 3 rfl rfl rfl rfl ki_Tr (by decide) kw167 kd_Cr_codeInvocation_84 rfl ?_
      refine zk_iload C kd_Cr_codeInvocation_87 3 rfl rfl ?_
      obtain ⟨q6, e⟩ := zd_g e
      refine zs_iald C 16 rfl (zd_vp q6) kd_Cr_codeInvocation_89 rfl ?_
      obtain ⟨q7, e⟩ := zd_g e
      refine zs_iald C 32 rfl (zd_vp q7) kd_Cr_codeInvocation_90 rfl ?_
      refine zk_iadd C kd_Cr_codeInvocation_91 rfl ?_
      obtain ⟨v9, h10, c8, e⟩ := zd_Be e
      refine zs_callV (k := 41) (rn := { frames := 0, cells := 0, slots := 0, locals := 0 }) (As := [.int 2, .int (x3 + (h5.2.1 32 (h5.2.1 16 x4.toNatClampNeg).toNatClampNeg))]) (rest := []) C (zc_Cd_emit h5 2 (x3 + (h5.2.1 32 (h5.2.1 16 x4.toNatClampNeg).toNatClampNeg)) c8) ku_Cd_emit kw1278 kv_Cd_emit rfl ⟨by decide, by decide⟩ ⟨by decide, by decide⟩ rfl rfl rfl (Nat.le_of_ble_eq_true rfl) kd_Cr_codeInvocation_92 rfl (c1 := 0) (s1 := 0) rfl rfl (fun v w hp => ?_)
      obtain ⟨rfl, rfl⟩ := hp
      refine zk_stk (r' := [.int v9]) rfl ?_
      refine zk_pop C kd_Cr_codeInvocation_95 rfl rfl ?_
      refine zk_aload_n C kd_Cr_codeInvocation_96 rfl 0 rfl rfl ?_
      refine zs_get (v := .ref (S.1 12)) C 47 0 rfl rfl rfl rfl ki_Cr (by decide) kw442 kd_Cr_codeInvocation_97 rfl ?_
      refine zs_get (v := .ref (S.1 18)) C 12 5 rfl rfl rfl rfl ki_Tr (by decide) kw174 kd_Cr_codeInvocation_100 rfl ?_
      refine zk_iload C kd_Cr_codeInvocation_103 3 rfl rfl ?_
      obtain ⟨q11, e⟩ := zd_g e
      refine zs_iald C 18 rfl (zd_vp q11) kd_Cr_codeInvocation_105 rfl ?_
      refine zk_istore (lv' := [(4, _), (0, _), (2, _), (3, _), (5, _)]) C kd_Cr_codeInvocation_106 (by decide) rfl rfl ?_
      refine zk_iinc (v := (x5 + 1)) (lv' := [(5, _), (4, _), (0, _), (2, _), (3, _)]) C kd_Cr_codeInvocation_108 4 rfl rfl (by decide) rfl rfl ?_
      refine zk_goto (tgt := 34) C kd_Cr_codeInvocation_111 (by decide) ?_
      refine zk_lvs (lv' := [(0, .ref (S.1 47)), (2, .int x2), (3, .int x3), (4, .int (h10.2.1 18 x4.toNatClampNeg)), (5, .int (x5 + 1))]) [2, 3, 4, 1, 0] rfl ?_
      exact hk34 h10 x2 x3 (h10.2.1 18 x4.toNatClampNeg) (x5 + 1) e
theorem zl_Cr_codeInvocation_34 {X : zkj_T} {S : zs_T} {P : ze_T} {l : Launch} {D : va_G} {sz0 : Nat} {rh : zs_H} (C : zk_C X km_Cr_codeInvocation (zs_G S l D sz0) { frames := 402, cells := 0, slots := 0, locals := 10448 } (ze_E P)) (hR : zkj_R X (zd_PV S rh) (none)) (n : Nat) : ∀ (h : zs_H) (x2 : Int32) (x3 : Int32) (x4 : Int32) (x5 : Int32), f_Cr_codeInvocation_L34 n h x2 x3 x4 x5 = some rh → zk_Ab X (zs_W S h) 0 0 34 [(0, .ref (S.1 47)), (2, .int x2), (3, .int x3), (4, .int x4), (5, .int x5)] [] := by
  induction n with
  | zero => intro h x2 x3 x4 x5 e; exact zd_no e
  | succ n ih => intro h x2 x3 x4 x5 e; exact zb_Cr_codeInvocation_34 (k34 := f_Cr_codeInvocation_L34  n) C hR ih h x2 x3 x4 x5 e
set_option maxHeartbeats 4000000 in
set_option maxRecDepth 100000 in
theorem zc_Cr_codeInvocation {l : Launch} {D : va_G} {sz0 : Nat} {S : zs_T} {P : ze_T} (h : zs_H) (x1 : Int32) {rh : zs_H} (e : f_Cr_codeInvocation h x1 = some rh) : zk_Sp (zs_G S l D sz0) (ze_E P) km_Cr_codeInvocation { frames := 402, cells := 0, slots := 0, locals := 10448 } [.ref (S.1 47), .int x1] (zs_W S h) (zd_PV S rh) := by
  refine zk_met ku_Cr_codeInvocation (Nat.le_of_ble_eq_true rfl) (ze_Em P) ?_
  intro X C hR
  refine zk_lvs (lv' := [(0, .ref (S.1 47)), (1, .int x1)]) [0, 1] rfl ?_
  unfold f_Cr_codeInvocation at e
  refine zk_aload_n C kd_Cr_codeInvocation_0 rfl 0 rfl rfl ?_
  refine zs_get (v := .ref (S.1 12)) C 47 0 rfl rfl rfl rfl ki_Cr (by decide) kw442 kd_Cr_codeInvocation_1 rfl ?_
  refine zs_get (v := .ref (S.1 16)) C 12 3 rfl rfl rfl rfl ki_Tr (by decide) kw167 kd_Cr_codeInvocation_4 rfl ?_
  refine zk_iload_n C kd_Cr_codeInvocation_7 rfl 1 rfl rfl ?_
  obtain ⟨q1, e⟩ := zd_g e
  refine zs_iald C 16 rfl (zd_vp q1) kd_Cr_codeInvocation_8 rfl ?_
  refine zk_istore_n (lv' := [(2, _), (0, _), (1, _)]) C kd_Cr_codeInvocation_9 rfl (by decide) rfl rfl ?_
  refine zk_aload_n C kd_Cr_codeInvocation_10 rfl 1 rfl rfl ?_
  refine zs_get (v := .ref (S.1 20)) C 47 1 rfl rfl rfl rfl ki_Cr (by decide) kw443 kd_Cr_codeInvocation_11 rfl ?_
  refine zs_get (v := .ref (S.1 32)) C 20 11 rfl rfl rfl rfl ki_Pl (by decide) kw269 kd_Cr_codeInvocation_14 rfl ?_
  refine zk_iload_n C kd_Cr_codeInvocation_17 rfl 0 rfl rfl ?_
  obtain ⟨q2, e⟩ := zd_g e
  refine zs_iald C 32 rfl (zd_vp q2) kd_Cr_codeInvocation_18 rfl ?_
  refine zk_istore_n (lv' := [(3, _), (2, _), (0, _), (1, _)]) C kd_Cr_codeInvocation_19 rfl (by decide) rfl rfl ?_
  refine zk_aload_n C kd_Cr_codeInvocation_20 rfl 2 rfl rfl ?_
  refine zs_get (v := .ref (S.1 12)) C 47 0 rfl rfl rfl rfl ki_Cr (by decide) kw442 kd_Cr_codeInvocation_21 rfl ?_
  refine zs_get (v := .ref (S.1 17)) C 12 4 rfl rfl rfl rfl ki_Tr (by decide) kw171 kd_Cr_codeInvocation_24 rfl ?_
  refine zk_iload_n C kd_Cr_codeInvocation_27 rfl 3 rfl rfl ?_
  refine zs_iald C 17 rfl (zd_vp q1) kd_Cr_codeInvocation_28 rfl ?_
  refine zk_istore (lv' := [(4, _), (3, _), (2, _), (0, _), (1, _)]) C kd_Cr_codeInvocation_29 (by decide) rfl rfl ?_
  refine zk_iconst (v := 0) C kd_Cr_codeInvocation_31 (by decide) rfl ?_
  refine zk_istore (lv' := [(5, _), (4, _), (3, _), (2, _), (0, _), (1, _)]) C kd_Cr_codeInvocation_32 (by decide) rfl rfl ?_
  refine zk_lvs (lv' := [(0, .ref (S.1 47)), (2, .int (h.2.1 16 x1.toNatClampNeg)), (3, .int (h.2.1 32 (h.2.1 16 x1.toNatClampNeg).toNatClampNeg)), (4, .int (h.2.1 17 x1.toNatClampNeg)), (5, .int 0)]) [4, 3, 2, 1, 0] rfl ?_
  exact zl_Cr_codeInvocation_34 C hR zF h (h.2.1 16 x1.toNatClampNeg) (h.2.1 32 (h.2.1 16 x1.toNatClampNeg).toNatClampNeg) (h.2.1 17 x1.toNatClampNeg) 0 e
set_option maxHeartbeats 4000000 in
set_option maxRecDepth 100000 in
theorem zc_Cr_codeAssignment {l : Launch} {D : va_G} {sz0 : Nat} {S : zs_T} {P : ze_T} (h : zs_H) (x1 : Int32) {rh : zs_H} (e : f_Cr_codeAssignment h x1 = some rh) : zk_Sp (zs_G S l D sz0) (ze_E P) km_Cr_codeAssignment { frames := 402, cells := 0, slots := 0, locals := 10448 } [.ref (S.1 47), .int x1] (zs_W S h) (zd_PV S rh) := by
  refine zk_met ku_Cr_codeAssignment (Nat.le_of_ble_eq_true rfl) (ze_Em P) ?_
  intro X C hR
  refine zk_lvs (lv' := [(0, .ref (S.1 47)), (1, .int x1)]) [0, 1] rfl ?_
  unfold f_Cr_codeAssignment at e
  refine zk_aload_n C kd_Cr_codeAssignment_0 rfl 0 rfl rfl ?_
  refine zs_get (v := .ref (S.1 12)) C 47 0 rfl rfl rfl rfl ki_Cr (by decide) kw442 kd_Cr_codeAssignment_1 rfl ?_
  refine zs_get (v := .ref (S.1 17)) C 12 4 rfl rfl rfl rfl ki_Tr (by decide) kw171 kd_Cr_codeAssignment_4 rfl ?_
  refine zk_iload_n C kd_Cr_codeAssignment_7 rfl 1 rfl rfl ?_
  obtain ⟨q1, e⟩ := zd_g e
  refine zs_iald C 17 rfl (zd_vp q1) kd_Cr_codeAssignment_8 rfl ?_
  refine zk_istore_n (lv' := [(2, _), (0, _), (1, _)]) C kd_Cr_codeAssignment_9 rfl (by decide) rfl rfl ?_
  refine zk_aload_n C kd_Cr_codeAssignment_10 rfl 1 rfl rfl ?_
  refine zs_get (v := .ref (S.1 12)) C 47 0 rfl rfl rfl rfl ki_Cr (by decide) kw442 kd_Cr_codeAssignment_11 rfl ?_
  refine zs_get (v := .ref (S.1 16)) C 12 3 rfl rfl rfl rfl ki_Tr (by decide) kw167 kd_Cr_codeAssignment_14 rfl ?_
  refine zk_iload_n C kd_Cr_codeAssignment_17 rfl 0 rfl rfl ?_
  obtain ⟨q2, e⟩ := zd_g e
  refine zs_iald C 16 rfl (zd_vp q2) kd_Cr_codeAssignment_18 rfl ?_
  refine zk_istore_n (lv' := [(3, _), (2, _), (0, _), (1, _)]) C kd_Cr_codeAssignment_19 rfl (by decide) rfl rfl ?_
  refine zk_aload_n C kd_Cr_codeAssignment_20 rfl 2 rfl rfl ?_
  refine zs_get (v := .ref (S.1 12)) C 47 0 rfl rfl rfl rfl ki_Cr (by decide) kw442 kd_Cr_codeAssignment_21 rfl ?_
  refine zs_get (v := .ref (S.1 13)) C 12 0 rfl rfl rfl rfl ki_Tr (by decide) kw156 kd_Cr_codeAssignment_24 rfl ?_
  refine zk_iload_n C kd_Cr_codeAssignment_27 rfl 1 rfl rfl ?_
  refine zs_bald C 13 rfl (zd_vp q2) kd_Cr_codeAssignment_28 rfl ?_
  refine zk_bipush (v := 6) C kd_Cr_codeAssignment_29 (by decide) rfl ?_
  refine zk_icmp_ne (tgt := 69) C kd_Cr_codeAssignment_31 (by decide) rfl (fun b3 => ?_) (fun b3 => ?_)
  · replace e := zd_neg b3 e
    refine zk_aload_n C kd_Cr_codeAssignment_69 rfl 2 rfl rfl ?_
    refine zk_aload_n C kd_Cr_codeAssignment_70 rfl 2 rfl rfl ?_
    refine zs_get (v := .ref (S.1 12)) C 47 0 rfl rfl rfl rfl ki_Cr (by decide) kw442 kd_Cr_codeAssignment_71 rfl ?_
    refine zs_get (v := .ref (S.1 17)) C 12 4 rfl rfl rfl rfl ki_Tr (by decide) kw171 kd_Cr_codeAssignment_74 rfl ?_
    refine zk_iload_n C kd_Cr_codeAssignment_77 rfl 1 rfl rfl ?_
    refine zs_iald C 17 rfl (zd_vp q2) kd_Cr_codeAssignment_78 rfl ?_
    refine zk_iconst (v := 0) C kd_Cr_codeAssignment_79 (by decide) rfl ?_
    obtain ⟨h5, c4, e⟩ := zd_b e
    refine zs_callV (k := 47) (rn := { frames := 1 + 400, cells := 0, slots := 0, locals := 24 + 26 * 400 }) (As := [.int (h.2.1 17 (h.2.1 17 x1.toNatClampNeg).toNatClampNeg), .int 0]) (rest := []) C (zc_Cr_codeExpression h (h.2.1 17 (h.2.1 17 x1.toNatClampNeg).toNatClampNeg) 0 c4) ku_Cr_codeExpression kw1290 kv_Cr_codeExpression rfl ⟨by decide, by decide⟩ ⟨by decide, by decide⟩ rfl rfl rfl (Nat.le_of_ble_eq_true rfl) kd_Cr_codeAssignment_80 rfl (c1 := 0) (s1 := 0) rfl rfl (fun v w hp => ?_)
    obtain ⟨rfl, rfl⟩ := hp
    refine zk_stk (r' := []) rfl ?_
    refine zk_aload_n C kd_Cr_codeAssignment_83 rfl 2 rfl rfl ?_
    refine zk_aload_n C kd_Cr_codeAssignment_84 rfl 2 rfl rfl ?_
    refine zs_get (v := .ref (S.1 12)) C 47 0 rfl rfl rfl rfl ki_Cr (by decide) kw442 kd_Cr_codeAssignment_85 rfl ?_
    refine zs_get (v := .ref (S.1 18)) C 12 5 rfl rfl rfl rfl ki_Tr (by decide) kw174 kd_Cr_codeAssignment_88 rfl ?_
    refine zk_iload_n C kd_Cr_codeAssignment_91 rfl 1 rfl rfl ?_
    obtain ⟨q6, e⟩ := zd_g e
    refine zs_iald C 18 rfl (zd_vp q6) kd_Cr_codeAssignment_92 rfl ?_
    refine zk_iconst (v := 0) C kd_Cr_codeAssignment_93 (by decide) rfl ?_
    obtain ⟨h8, c7, e⟩ := zd_b e
    refine zs_callV (k := 47) (rn := { frames := 1 + 400, cells := 0, slots := 0, locals := 24 + 26 * 400 }) (As := [.int (h5.2.1 18 (h.2.1 17 x1.toNatClampNeg).toNatClampNeg), .int 0]) (rest := []) C (zc_Cr_codeExpression h5 (h5.2.1 18 (h.2.1 17 x1.toNatClampNeg).toNatClampNeg) 0 c7) ku_Cr_codeExpression kw1290 kv_Cr_codeExpression rfl ⟨by decide, by decide⟩ ⟨by decide, by decide⟩ rfl rfl rfl (Nat.le_of_ble_eq_true rfl) kd_Cr_codeAssignment_94 rfl (c1 := 0) (s1 := 0) rfl rfl (fun v w hp => ?_)
    obtain ⟨rfl, rfl⟩ := hp
    refine zk_stk (r' := []) rfl ?_
    refine zk_aload_n C kd_Cr_codeAssignment_97 rfl 2 rfl rfl ?_
    refine zs_get (v := .ref (S.1 41)) C 47 2 rfl rfl rfl rfl ki_Cr (by decide) kw444 kd_Cr_codeAssignment_98 rfl ?_
    refine zk_iconst (v := 4) C kd_Cr_codeAssignment_101 (by decide) rfl ?_
    refine zk_aload_n C kd_Cr_codeAssignment_102 rfl 2 rfl rfl ?_
    refine zs_get (v := .ref (S.1 20)) C 47 1 rfl rfl rfl rfl ki_Cr (by decide) kw443 kd_Cr_codeAssignment_103 rfl ?_
    refine zs_get (v := .ref (S.1 32)) C 20 11 rfl rfl rfl rfl ki_Pl (by decide) kw269 kd_Cr_codeAssignment_106 rfl ?_
    refine zk_iload_n C kd_Cr_codeAssignment_109 rfl 0 rfl rfl ?_
    obtain ⟨q9, e⟩ := zd_g e
    refine zs_iald C 32 rfl (zd_vp q9) kd_Cr_codeAssignment_110 rfl ?_
    obtain ⟨v11, h12, c10, e⟩ := zd_Be e
    refine zs_callV (k := 41) (rn := { frames := 0, cells := 0, slots := 0, locals := 0 }) (As := [.int 4, .int (h8.2.1 32 (h.2.1 16 (h.2.1 17 x1.toNatClampNeg).toNatClampNeg).toNatClampNeg)]) (rest := []) C (zc_Cd_emit h8 4 (h8.2.1 32 (h.2.1 16 (h.2.1 17 x1.toNatClampNeg).toNatClampNeg).toNatClampNeg) c10) ku_Cd_emit kw1278 kv_Cd_emit rfl ⟨by decide, by decide⟩ ⟨by decide, by decide⟩ rfl rfl rfl (Nat.le_of_ble_eq_true rfl) kd_Cr_codeAssignment_111 rfl (c1 := 0) (s1 := 0) rfl rfl (fun v w hp => ?_)
    obtain ⟨rfl, rfl⟩ := hp
    refine zk_stk (r' := [.int v11]) rfl ?_
    refine zk_pop C kd_Cr_codeAssignment_114 rfl rfl ?_
    refine zk_aload_n C kd_Cr_codeAssignment_115 rfl 2 rfl rfl ?_
    refine zs_get (v := .ref (S.1 41)) C 47 2 rfl rfl rfl rfl ki_Cr (by decide) kw444 kd_Cr_codeAssignment_116 rfl ?_
    refine zk_aload_n C kd_Cr_codeAssignment_119 rfl 2 rfl rfl ?_
    refine zs_get (v := .ref (S.1 20)) C 47 1 rfl rfl rfl rfl ki_Cr (by decide) kw443 kd_Cr_codeAssignment_120 rfl ?_
    refine zs_get (v := .ref (S.1 33)) C 20 12 rfl rfl rfl rfl ki_Pl (by decide) kw274 kd_Cr_codeAssignment_123 rfl ?_
    refine zk_iload_n C kd_Cr_codeAssignment_126 rfl 0 rfl rfl ?_
    obtain ⟨q13, e⟩ := zd_g e
    refine zs_iald C 33 rfl (zd_vp q13) kd_Cr_codeAssignment_127 rfl ?_
    refine zk_aload_n C kd_Cr_codeAssignment_128 rfl 2 rfl rfl ?_
    refine zs_get (v := .ref (S.1 20)) C 47 1 rfl rfl rfl rfl ki_Cr (by decide) kw443 kd_Cr_codeAssignment_129 rfl ?_
    refine zs_get (v := .ref (S.1 34)) C 20 13 rfl rfl rfl rfl ki_Pl (by decide) kw279 kd_Cr_codeAssignment_132 rfl ?_
    refine zk_iload_n C kd_Cr_codeAssignment_135 rfl 0 rfl rfl ?_
    refine zs_iald C 34 rfl (zd_vp q13) kd_Cr_codeAssignment_136 rfl ?_
    obtain ⟨h15, c14, e⟩ := zd_b e
    refine zs_callV (k := 41) (rn := { frames := 0, cells := 0, slots := 0, locals := 0 }) (As := [.int (h12.2.1 33 (h.2.1 16 (h.2.1 17 x1.toNatClampNeg).toNatClampNeg).toNatClampNeg), .int (h12.2.1 34 (h.2.1 16 (h.2.1 17 x1.toNatClampNeg).toNatClampNeg).toNatClampNeg)]) (rest := []) C (zc_Cd_with h12 (h12.2.1 33 (h.2.1 16 (h.2.1 17 x1.toNatClampNeg).toNatClampNeg).toNatClampNeg) (h12.2.1 34 (h.2.1 16 (h.2.1 17 x1.toNatClampNeg).toNatClampNeg).toNatClampNeg) c14) ku_Cd_with kw1298 kv_Cd_with rfl ⟨by decide, by decide⟩ ⟨by decide, by decide⟩ rfl rfl rfl (Nat.le_of_ble_eq_true rfl) kd_Cr_codeAssignment_137 rfl (c1 := 0) (s1 := 0) rfl rfl (fun v w hp => ?_)
    obtain ⟨rfl, rfl⟩ := hp
    refine zk_stk (r' := []) rfl ?_
    exact zk_vret C hR kd_Cr_codeAssignment_140 rfl rfl (zd_rV e)
  · replace e := zd_pos b3 e
    refine zk_aload_n C kd_Cr_codeAssignment_34 rfl 2 rfl rfl ?_
    refine zk_aload_n C kd_Cr_codeAssignment_35 rfl 2 rfl rfl ?_
    refine zs_get (v := .ref (S.1 12)) C 47 0 rfl rfl rfl rfl ki_Cr (by decide) kw442 kd_Cr_codeAssignment_36 rfl ?_
    refine zs_get (v := .ref (S.1 18)) C 12 5 rfl rfl rfl rfl ki_Tr (by decide) kw174 kd_Cr_codeAssignment_39 rfl ?_
    refine zk_iload_n C kd_Cr_codeAssignment_42 rfl 1 rfl rfl ?_
    refine zs_iald C 18 rfl (zd_vp q2) kd_Cr_codeAssignment_43 rfl ?_
    refine zk_iconst (v := 0) C kd_Cr_codeAssignment_44 (by decide) rfl ?_
    obtain ⟨h17, c16, e⟩ := zd_b e
    refine zs_callV (k := 47) (rn := { frames := 1 + 400, cells := 0, slots := 0, locals := 24 + 26 * 400 }) (As := [.int (h.2.1 18 (h.2.1 17 x1.toNatClampNeg).toNatClampNeg), .int 0]) (rest := []) C (zc_Cr_codeExpression h (h.2.1 18 (h.2.1 17 x1.toNatClampNeg).toNatClampNeg) 0 c16) ku_Cr_codeExpression kw1290 kv_Cr_codeExpression rfl ⟨by decide, by decide⟩ ⟨by decide, by decide⟩ rfl rfl rfl (Nat.le_of_ble_eq_true rfl) kd_Cr_codeAssignment_45 rfl (c1 := 0) (s1 := 0) rfl rfl (fun v w hp => ?_)
    obtain ⟨rfl, rfl⟩ := hp
    refine zk_stk (r' := []) rfl ?_
    refine zk_aload_n C kd_Cr_codeAssignment_48 rfl 2 rfl rfl ?_
    refine zs_get (v := .ref (S.1 41)) C 47 2 rfl rfl rfl rfl ki_Cr (by decide) kw444 kd_Cr_codeAssignment_49 rfl ?_
    refine zk_iconst (v := 2) C kd_Cr_codeAssignment_52 (by decide) rfl ?_
    refine zk_aload_n C kd_Cr_codeAssignment_53 rfl 2 rfl rfl ?_
    refine zs_get (v := .ref (S.1 20)) C 47 1 rfl rfl rfl rfl ki_Cr (by decide) kw443 kd_Cr_codeAssignment_54 rfl ?_
    refine zs_get (v := .ref (S.1 32)) C 20 11 rfl rfl rfl rfl ki_Pl (by decide) kw269 kd_Cr_codeAssignment_57 rfl ?_
    refine zk_iload_n C kd_Cr_codeAssignment_60 rfl 0 rfl rfl ?_
    obtain ⟨q18, e⟩ := zd_g e
    refine zs_iald C 32 rfl (zd_vp q18) kd_Cr_codeAssignment_61 rfl ?_
    obtain ⟨v20, h21, c19, e⟩ := zd_Be e
    refine zs_callV (k := 41) (rn := { frames := 0, cells := 0, slots := 0, locals := 0 }) (As := [.int 2, .int (h17.2.1 32 (h.2.1 16 (h.2.1 17 x1.toNatClampNeg).toNatClampNeg).toNatClampNeg)]) (rest := []) C (zc_Cd_emit h17 2 (h17.2.1 32 (h.2.1 16 (h.2.1 17 x1.toNatClampNeg).toNatClampNeg).toNatClampNeg) c19) ku_Cd_emit kw1278 kv_Cd_emit rfl ⟨by decide, by decide⟩ ⟨by decide, by decide⟩ rfl rfl rfl (Nat.le_of_ble_eq_true rfl) kd_Cr_codeAssignment_62 rfl (c1 := 0) (s1 := 0) rfl rfl (fun v w hp => ?_)
    obtain ⟨rfl, rfl⟩ := hp
    refine zk_stk (r' := [.int v20]) rfl ?_
    refine zk_pop C kd_Cr_codeAssignment_65 rfl rfl ?_
    refine zk_goto (tgt := 140) C kd_Cr_codeAssignment_66 (by decide) ?_
    exact zk_vret C hR kd_Cr_codeAssignment_140 rfl rfl (zd_rV e)
