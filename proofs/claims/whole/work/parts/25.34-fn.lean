theorem kw446 : Jvm.Cond.fieldLink "PlantKeeper$Coder" (60 : Nat) "PlantKeeper$Coder" "ownCell" "I" ∈ zk_BW := zk_inT 446 (by decide +kernel) rfl
theorem kw448 : Jvm.Cond.fieldLink "PlantKeeper$Coder" (69 : Nat) "PlantKeeper$Coder" "exits" "I" ∈ zk_BW := zk_inT 448 (by decide +kernel) rfl
theorem kw452 : Jvm.Cond.fieldLink "PlantKeeper$Coder" (209 : Nat) "PlantKeeper$Coder" "rows" "I" ∈ zk_BW := zk_inT 452 (by decide +kernel) rfl
theorem kw453 : Jvm.Cond.fieldLink "PlantKeeper$Coder" (206 : Nat) "PlantKeeper$Coder" "columns" "I" ∈ zk_BW := zk_inT 453 (by decide +kernel) rfl
theorem kw1282 : Jvm.Cond.methodLink "PlantKeeper$Coder" (93 : Nat) ({ cls := "PlantKeeper$Coder", name := "codeBody", desc := "(II)V" } : Jvm.MethodName) ∈ zk_BW := zk_inT 1282 (by decide +kernel) rfl
theorem kw1284 : Jvm.Cond.instanceMethod ({ cls := "PlantKeeper$Coder", name := "codeBody", desc := "(II)V" } : Jvm.MethodName) ∈ zk_BW := zk_inT 1284 (by decide +kernel) rfl
theorem kw1285 : Jvm.Cond.code ({ cls := "PlantKeeper$Coder", name := "codeBody", desc := "(II)V" } : Jvm.MethodName) prog_3_method_5_code (5 : Nat) (Option.none : Option FieldType) ∈ zk_BW := zk_inT 1285 (by decide +kernel) rfl
theorem kw1286 : Jvm.Cond.methodLink "PlantKeeper$Coder" (120 : Nat) ({ cls := "PlantKeeper$Coder", name := "codeAssignment", desc := "(I)V" } : Jvm.MethodName) ∈ zk_BW := zk_inT 1286 (by decide +kernel) rfl
theorem kw1314 : Jvm.Cond.methodLink "PlantKeeper$Coder" (123 : Nat) ({ cls := "PlantKeeper$Coder", name := "codeInvocation", desc := "(I)V" } : Jvm.MethodName) ∈ zk_BW := zk_inT 1314 (by decide +kernel) rfl
theorem kw1318 : Jvm.Cond.methodLink "PlantKeeper$Coder" (126 : Nat) ({ cls := "PlantKeeper$Coder", name := "codeIf", desc := "(II)V" } : Jvm.MethodName) ∈ zk_BW := zk_inT 1318 (by decide +kernel) rfl
theorem kw1320 : Jvm.Cond.instanceMethod ({ cls := "PlantKeeper$Coder", name := "codeIf", desc := "(II)V" } : Jvm.MethodName) ∈ zk_BW := zk_inT 1320 (by decide +kernel) rfl
theorem kw1321 : Jvm.Cond.code ({ cls := "PlantKeeper$Coder", name := "codeIf", desc := "(II)V" } : Jvm.MethodName) prog_3_method_9_code (6 : Nat) (Option.none : Option FieldType) ∈ zk_BW := zk_inT 1321 (by decide +kernel) rfl
theorem kw1322 : Jvm.Cond.methodLink "PlantKeeper$Coder" (156 : Nat) ({ cls := "PlantKeeper$Coder", name := "codeBranch", desc := "(IZII)I" } : Jvm.MethodName) ∈ zk_BW := zk_inT 1322 (by decide +kernel) rfl
theorem kw1324 : Jvm.Cond.instanceMethod ({ cls := "PlantKeeper$Coder", name := "codeBranch", desc := "(IZII)I" } : Jvm.MethodName) ∈ zk_BW := zk_inT 1324 (by decide +kernel) rfl
theorem kw1325 : Jvm.Cond.code ({ cls := "PlantKeeper$Coder", name := "codeBranch", desc := "(IZII)I" } : Jvm.MethodName) prog_3_method_8_code (7 : Nat) (Option.some FieldType.int) ∈ zk_BW := zk_inT 1325 (by decide +kernel) rfl
theorem kw1326 : Jvm.Cond.methodLink "PlantKeeper$Coder" (153 : Nat) ({ cls := "PlantKeeper$Code", name := "joinHere", desc := "(I)V" } : Jvm.MethodName) ∈ zk_BW := zk_inT 1326 (by decide +kernel) rfl
theorem kw1330 : Jvm.Cond.methodLink "PlantKeeper$Coder" (129 : Nat) ({ cls := "PlantKeeper$Coder", name := "codeCase", desc := "(II)V" } : Jvm.MethodName) ∈ zk_BW := zk_inT 1330 (by decide +kernel) rfl
theorem kw1332 : Jvm.Cond.instanceMethod ({ cls := "PlantKeeper$Coder", name := "codeCase", desc := "(II)V" } : Jvm.MethodName) ∈ zk_BW := zk_inT 1332 (by decide +kernel) rfl
theorem kw1333 : Jvm.Cond.code ({ cls := "PlantKeeper$Coder", name := "codeCase", desc := "(II)V" } : Jvm.MethodName) prog_3_method_10_code (8 : Nat) (Option.none : Option FieldType) ∈ zk_BW := zk_inT 1333 (by decide +kernel) rfl
theorem kw1334 : Jvm.Cond.methodLink "PlantKeeper$Coder" (160 : Nat) ({ cls := "PlantKeeper$Coder", name := "codeRanges", desc := "(II)I" } : Jvm.MethodName) ∈ zk_BW := zk_inT 1334 (by decide +kernel) rfl
theorem kw1338 : Jvm.Cond.methodLink "PlantKeeper$Coder" (132 : Nat) ({ cls := "PlantKeeper$Coder", name := "codeFor", desc := "(II)V" } : Jvm.MethodName) ∈ zk_BW := zk_inT 1338 (by decide +kernel) rfl
theorem kw1340 : Jvm.Cond.instanceMethod ({ cls := "PlantKeeper$Coder", name := "codeFor", desc := "(II)V" } : Jvm.MethodName) ∈ zk_BW := zk_inT 1340 (by decide +kernel) rfl
theorem kw1341 : Jvm.Cond.code ({ cls := "PlantKeeper$Coder", name := "codeFor", desc := "(II)V" } : Jvm.MethodName) prog_3_method_12_code (11 : Nat) (Option.none : Option FieldType) ∈ zk_BW := zk_inT 1341 (by decide +kernel) rfl
theorem kw1342 : Jvm.Cond.methodLink "PlantKeeper$Coder" (163 : Nat) ({ cls := "PlantKeeper$Tree", name := "second", desc := "(I)I" } : Jvm.MethodName) ∈ zk_BW := zk_inT 1342 (by decide +kernel) rfl
theorem kw1343 : Jvm.Cond.methodLink "PlantKeeper$Coder" (167 : Nat) ({ cls := "PlantKeeper$Tree", name := "stepOf", desc := "(I)I" } : Jvm.MethodName) ∈ zk_BW := zk_inT 1343 (by decide +kernel) rfl
theorem kw1344 : Jvm.Cond.methodLink "PlantKeeper$Coder" (170 : Nat) ({ cls := "PlantKeeper$Tree", name := "isConstant", desc := "(I)Z" } : Jvm.MethodName) ∈ zk_BW := zk_inT 1344 (by decide +kernel) rfl
theorem kw1345 : Jvm.Cond.methodLink "PlantKeeper$Coder" (174 : Nat) ({ cls := "PlantKeeper$Code", name := "times", desc := "(III)J" } : Jvm.MethodName) ∈ zk_BW := zk_inT 1345 (by decide +kernel) rfl
theorem kw1352 : Jvm.Cond.instanceMethod ({ cls := "PlantKeeper$Coder", name := "layGrid", desc := "(I)V" } : Jvm.MethodName) ∈ zk_BW := zk_inT 1352 (by decide +kernel) rfl
theorem kw1353 : Jvm.Cond.code ({ cls := "PlantKeeper$Coder", name := "layGrid", desc := "(I)V" } : Jvm.MethodName) prog_3_method_17_code (6 : Nat) (Option.none : Option FieldType) ∈ zk_BW := zk_inT 1353 (by decide +kernel) rfl
theorem kw1354 : Jvm.Cond.methodLink "PlantKeeper$Coder" (222 : Nat) ({ cls := "PlantKeeper$Coder", name := "layCell", desc := "(I)V" } : Jvm.MethodName) ∈ zk_BW := zk_inT 1354 (by decide +kernel) rfl
theorem kw1356 : Jvm.Cond.instanceMethod ({ cls := "PlantKeeper$Coder", name := "layCell", desc := "(I)V" } : Jvm.MethodName) ∈ zk_BW := zk_inT 1356 (by decide +kernel) rfl
theorem kw1357 : Jvm.Cond.code ({ cls := "PlantKeeper$Coder", name := "layCell", desc := "(I)V" } : Jvm.MethodName) prog_3_method_18_code (3 : Nat) (Option.none : Option FieldType) ∈ zk_BW := zk_inT 1357 (by decide +kernel) rfl
theorem kw1360 : Jvm.Cond.instanceMethod ({ cls := "PlantKeeper$Coder", name := "lastOfGroup", desc := "(II)I" } : Jvm.MethodName) ∈ zk_BW := zk_inT 1360 (by decide +kernel) rfl
theorem kw1361 : Jvm.Cond.code ({ cls := "PlantKeeper$Coder", name := "lastOfGroup", desc := "(II)I" } : Jvm.MethodName) prog_3_method_19_code (4 : Nat) (Option.some FieldType.int) ∈ zk_BW := zk_inT 1361 (by decide +kernel) rfl
theorem kw1376 : Jvm.Cond.instanceMethod ({ cls := "PlantKeeper$Coder", name := "codeEdge", desc := "(IZI)V" } : Jvm.MethodName) ∈ zk_BW := zk_inT 1376 (by decide +kernel) rfl
theorem kw1377 : Jvm.Cond.code ({ cls := "PlantKeeper$Coder", name := "codeEdge", desc := "(IZI)V" } : Jvm.MethodName) prog_3_method_24_code (4 : Nat) (Option.none : Option FieldType) ∈ zk_BW := zk_inT 1377 (by decide +kernel) rfl
abbrev kc_Cr_codeBody : ByteArray := prog_3_method_5_code
def km_Cr_codeBody : zk_MT := (⟨"PlantKeeper$Coder", "codeBody", "(II)V"⟩, kc_Cr_codeBody, 5, none, 2)
theorem ku_Cr_codeBody : zk_My km_Cr_codeBody := ⟨kw1285, kw13, by decide, by decide, by decide, by decide +kernel⟩
theorem kv_Cr_codeBody : zk_Mv km_Cr_codeBody := ⟨kw1284, zk_inS 85 (q := (⟨"PlantKeeper$Coder", "codeBody", "(II)V"⟩, 12)) (by decide +kernel)⟩
abbrev kc_Cr_codeBranch : ByteArray := prog_3_method_8_code
def km_Cr_codeBranch : zk_MT := (⟨"PlantKeeper$Coder", "codeBranch", "(IZII)I"⟩, kc_Cr_codeBranch, 7, some .int, 4)
theorem ku_Cr_codeBranch : zk_My km_Cr_codeBranch := ⟨kw1325, kw13, by decide, by decide, by decide, by decide +kernel⟩
theorem kv_Cr_codeBranch : zk_Mv km_Cr_codeBranch := ⟨kw1324, zk_inS 93 (q := (⟨"PlantKeeper$Coder", "codeBranch", "(IZII)I"⟩, 12)) (by decide +kernel)⟩
abbrev kc_Cr_codeCase : ByteArray := prog_3_method_10_code
def km_Cr_codeCase : zk_MT := (⟨"PlantKeeper$Coder", "codeCase", "(II)V"⟩, kc_Cr_codeCase, 8, none, 2)
theorem ku_Cr_codeCase : zk_My km_Cr_codeCase := ⟨kw1333, kw13, by decide, by decide, by decide, by decide +kernel⟩
theorem kv_Cr_codeCase : zk_Mv km_Cr_codeCase := ⟨kw1332, zk_inS 94 (q := (⟨"PlantKeeper$Coder", "codeCase", "(II)V"⟩, 12)) (by decide +kernel)⟩
abbrev kc_Cr_codeEdge : ByteArray := prog_3_method_24_code
def km_Cr_codeEdge : zk_MT := (⟨"PlantKeeper$Coder", "codeEdge", "(IZI)V"⟩, kc_Cr_codeEdge, 4, none, 3)
theorem ku_Cr_codeEdge : zk_My km_Cr_codeEdge := ⟨kw1377, kw13, by decide, by decide, by decide, by decide +kernel⟩
theorem kv_Cr_codeEdge : zk_Mv km_Cr_codeEdge := ⟨kw1376, zk_inS 104 (q := (⟨"PlantKeeper$Coder", "codeEdge", "(IZI)V"⟩, 12)) (by decide +kernel)⟩
abbrev kc_Cr_codeFor : ByteArray := prog_3_method_12_code
def km_Cr_codeFor : zk_MT := (⟨"PlantKeeper$Coder", "codeFor", "(II)V"⟩, kc_Cr_codeFor, 11, none, 2)
theorem ku_Cr_codeFor : zk_My km_Cr_codeFor := ⟨kw1341, kw13, by decide, by decide, by decide, by decide +kernel⟩
theorem kv_Cr_codeFor : zk_Mv km_Cr_codeFor := ⟨kw1340, zk_inS 96 (q := (⟨"PlantKeeper$Coder", "codeFor", "(II)V"⟩, 12)) (by decide +kernel)⟩
abbrev kc_Cr_codeIf : ByteArray := prog_3_method_9_code
def km_Cr_codeIf : zk_MT := (⟨"PlantKeeper$Coder", "codeIf", "(II)V"⟩, kc_Cr_codeIf, 6, none, 2)
theorem ku_Cr_codeIf : zk_My km_Cr_codeIf := ⟨kw1321, kw13, by decide, by decide, by decide, by decide +kernel⟩
theorem kv_Cr_codeIf : zk_Mv km_Cr_codeIf := ⟨kw1320, zk_inS 92 (q := (⟨"PlantKeeper$Coder", "codeIf", "(II)V"⟩, 12)) (by decide +kernel)⟩
abbrev kc_Cr_lastOfGroup : ByteArray := prog_3_method_19_code
def km_Cr_lastOfGroup : zk_MT := (⟨"PlantKeeper$Coder", "lastOfGroup", "(II)I"⟩, kc_Cr_lastOfGroup, 4, some .int, 2)
theorem ku_Cr_lastOfGroup : zk_My km_Cr_lastOfGroup := ⟨kw1361, kw13, by decide, by decide, by decide, by decide +kernel⟩
theorem kv_Cr_lastOfGroup : zk_Mv km_Cr_lastOfGroup := ⟨kw1360, zk_inS 100 (q := (⟨"PlantKeeper$Coder", "lastOfGroup", "(II)I"⟩, 12)) (by decide +kernel)⟩
abbrev kc_Cr_layCell : ByteArray := prog_3_method_18_code
def km_Cr_layCell : zk_MT := (⟨"PlantKeeper$Coder", "layCell", "(I)V"⟩, kc_Cr_layCell, 3, none, 1)
theorem ku_Cr_layCell : zk_My km_Cr_layCell := ⟨kw1357, kw13, by decide, by decide, by decide, by decide +kernel⟩
theorem kv_Cr_layCell : zk_Mv km_Cr_layCell := ⟨kw1356, zk_inS 99 (q := (⟨"PlantKeeper$Coder", "layCell", "(I)V"⟩, 12)) (by decide +kernel)⟩
abbrev kc_Cr_layGrid : ByteArray := prog_3_method_17_code
def km_Cr_layGrid : zk_MT := (⟨"PlantKeeper$Coder", "layGrid", "(I)V"⟩, kc_Cr_layGrid, 6, none, 1)
theorem ku_Cr_layGrid : zk_My km_Cr_layGrid := ⟨kw1353, kw13, by decide, by decide, by decide, by decide +kernel⟩
theorem kv_Cr_layGrid : zk_Mv km_Cr_layGrid := ⟨kw1352, zk_inS 98 (q := (⟨"PlantKeeper$Coder", "layGrid", "(I)V"⟩, 12)) (by decide +kernel)⟩
theorem kd_Cr_codeBody_0 : decode kc_Cr_codeBody 0 = .ok (.iload_n 2, 1) := by decide +kernel
theorem kd_Cr_codeBody_1 : decode kc_Cr_codeBody 1 = .ok (.sipush 240, 3) := by decide +kernel
theorem kd_Cr_codeBody_4 : decode kc_Cr_codeBody 4 = .ok (.if_icmp .le 4, 3) := by decide +kernel
theorem kd_Cr_codeBody_7 : decode kc_Cr_codeBody 7 = .ok (.return_, 1) := by decide +kernel
theorem kd_Cr_codeBody_8 : decode kc_Cr_codeBody 8 = .ok (.aload_n 0, 1) := by decide +kernel
theorem kd_Cr_codeBody_9 : decode kc_Cr_codeBody 9 = .ok (.getfield 9, 3) := by decide +kernel
theorem kd_Cr_codeBody_12 : decode kc_Cr_codeBody 12 = .ok (.getfield 80, 3) := by decide +kernel
theorem kd_Cr_codeBody_15 : decode kc_Cr_codeBody 15 = .ok (.iload_n 1, 1) := by decide +kernel
theorem kd_Cr_codeBody_16 : decode kc_Cr_codeBody 16 = .ok (.iaload, 1) := by decide +kernel
theorem kd_Cr_codeBody_17 : decode kc_Cr_codeBody 17 = .ok (.istore_n 3, 1) := by decide +kernel
theorem kd_Cr_codeBody_18 : decode kc_Cr_codeBody 18 = .ok (.iconst 0, 1) := by decide +kernel
theorem kd_Cr_codeBody_19 : decode kc_Cr_codeBody 19 = .ok (.istore 4, 2) := by decide +kernel
theorem kd_Cr_codeBody_21 : decode kc_Cr_codeBody 21 = .ok (.iload 4, 2) := by decide +kernel
theorem kd_Cr_codeBody_23 : decode kc_Cr_codeBody 23 = .ok (.aload_n 0, 1) := by decide +kernel
theorem kd_Cr_codeBody_24 : decode kc_Cr_codeBody 24 = .ok (.getfield 9, 3) := by decide +kernel
theorem kd_Cr_codeBody_27 : decode kc_Cr_codeBody 27 = .ok (.getfield 86, 3) := by decide +kernel
theorem kd_Cr_codeBody_30 : decode kc_Cr_codeBody 30 = .ok (.if_icmp .ge 162, 3) := by decide +kernel
theorem kd_Cr_codeBody_33 : decode kc_Cr_codeBody 33 = .ok (.iload_n 3, 1) := by decide +kernel
theorem kd_Cr_codeBody_34 : decode kc_Cr_codeBody 34 = .ok (.iconst (-1), 1) := by decide +kernel
theorem kd_Cr_codeBody_35 : decode kc_Cr_codeBody 35 = .ok (.if_icmp .eq 157, 3) := by decide +kernel
theorem kd_Cr_codeBody_38 : decode kc_Cr_codeBody 38 = .ok (.aload_n 0, 1) := by decide +kernel
theorem kd_Cr_codeBody_39 : decode kc_Cr_codeBody 39 = .ok (.getfield 9, 3) := by decide +kernel
theorem kd_Cr_codeBody_42 : decode kc_Cr_codeBody 42 = .ok (.getfield 90, 3) := by decide +kernel
theorem kd_Cr_codeBody_45 : decode kc_Cr_codeBody 45 = .ok (.iload_n 3, 1) := by decide +kernel
theorem kd_Cr_codeBody_46 : decode kc_Cr_codeBody 46 = .ok (.baload, 1) := by decide +kernel
theorem kd_Cr_codeBody_47 : decode kc_Cr_codeBody 47 = .ok (.tableswitch 118 12 20 #[49, 57, 118, 65, 76, 118, 118, 87, 98], 49) := by decide +kernel
theorem kd_Cr_codeBody_96 : decode kc_Cr_codeBody 96 = .ok (.aload_n 0, 1) := by decide +kernel
theorem kd_Cr_codeBody_97 : decode kc_Cr_codeBody 97 = .ok (.iload_n 3, 1) := by decide +kernel
theorem kd_Cr_codeBody_98 : decode kc_Cr_codeBody 98 = .ok (.invokevirtual 120, 3) := by decide +kernel
theorem kd_Cr_codeBody_101 : decode kc_Cr_codeBody 101 = .ok (.goto 75, 3) := by decide +kernel
theorem kd_Cr_codeBody_104 : decode kc_Cr_codeBody 104 = .ok (.aload_n 0, 1) := by decide +kernel
theorem kd_Cr_codeBody_105 : decode kc_Cr_codeBody 105 = .ok (.iload_n 3, 1) := by decide +kernel
theorem kd_Cr_codeBody_106 : decode kc_Cr_codeBody 106 = .ok (.invokevirtual 123, 3) := by decide +kernel
theorem kd_Cr_codeBody_109 : decode kc_Cr_codeBody 109 = .ok (.goto 67, 3) := by decide +kernel
theorem kd_Cr_codeBody_112 : decode kc_Cr_codeBody 112 = .ok (.aload_n 0, 1) := by decide +kernel
theorem kd_Cr_codeBody_113 : decode kc_Cr_codeBody 113 = .ok (.iload_n 3, 1) := by decide +kernel
theorem kd_Cr_codeBody_114 : decode kc_Cr_codeBody 114 = .ok (.iload_n 2, 1) := by decide +kernel
theorem kd_Cr_codeBody_115 : decode kc_Cr_codeBody 115 = .ok (.iconst 1, 1) := by decide +kernel
theorem kd_Cr_codeBody_116 : decode kc_Cr_codeBody 116 = .ok (.iadd, 1) := by decide +kernel
theorem kd_Cr_codeBody_117 : decode kc_Cr_codeBody 117 = .ok (.invokevirtual 126, 3) := by decide +kernel
theorem kd_Cr_codeBody_120 : decode kc_Cr_codeBody 120 = .ok (.goto 56, 3) := by decide +kernel
theorem kd_Cr_codeBody_123 : decode kc_Cr_codeBody 123 = .ok (.aload_n 0, 1) := by decide +kernel
theorem kd_Cr_codeBody_124 : decode kc_Cr_codeBody 124 = .ok (.iload_n 3, 1) := by decide +kernel
theorem kd_Cr_codeBody_125 : decode kc_Cr_codeBody 125 = .ok (.iload_n 2, 1) := by decide +kernel
theorem kd_Cr_codeBody_126 : decode kc_Cr_codeBody 126 = .ok (.iconst 1, 1) := by decide +kernel
theorem kd_Cr_codeBody_127 : decode kc_Cr_codeBody 127 = .ok (.iadd, 1) := by decide +kernel
theorem kd_Cr_codeBody_128 : decode kc_Cr_codeBody 128 = .ok (.invokevirtual 129, 3) := by decide +kernel
theorem kd_Cr_codeBody_131 : decode kc_Cr_codeBody 131 = .ok (.goto 45, 3) := by decide +kernel
theorem kd_Cr_codeBody_134 : decode kc_Cr_codeBody 134 = .ok (.aload_n 0, 1) := by decide +kernel
theorem kd_Cr_codeBody_135 : decode kc_Cr_codeBody 135 = .ok (.iload_n 3, 1) := by decide +kernel
theorem kd_Cr_codeBody_136 : decode kc_Cr_codeBody 136 = .ok (.iload_n 2, 1) := by decide +kernel
theorem kd_Cr_codeBody_137 : decode kc_Cr_codeBody 137 = .ok (.iconst 1, 1) := by decide +kernel
theorem kd_Cr_codeBody_138 : decode kc_Cr_codeBody 138 = .ok (.iadd, 1) := by decide +kernel
theorem kd_Cr_codeBody_139 : decode kc_Cr_codeBody 139 = .ok (.invokevirtual 132, 3) := by decide +kernel
theorem kd_Cr_codeBody_142 : decode kc_Cr_codeBody 142 = .ok (.goto 34, 3) := by decide +kernel
theorem kd_Cr_codeBody_145 : decode kc_Cr_codeBody 145 = .ok (.aload_n 0, 1) := by decide +kernel
theorem kd_Cr_codeBody_146 : decode kc_Cr_codeBody 146 = .ok (.aload_n 0, 1) := by decide +kernel
theorem kd_Cr_codeBody_147 : decode kc_Cr_codeBody 147 = .ok (.getfield 19, 3) := by decide +kernel
theorem kd_Cr_codeBody_150 : decode kc_Cr_codeBody 150 = .ok (.bipush 10, 2) := by decide +kernel
theorem kd_Cr_codeBody_152 : decode kc_Cr_codeBody 152 = .ok (.aload_n 0, 1) := by decide +kernel
theorem kd_Cr_codeBody_153 : decode kc_Cr_codeBody 153 = .ok (.getfield 69, 3) := by decide +kernel
theorem kd_Cr_codeBody_156 : decode kc_Cr_codeBody 156 = .ok (.invokevirtual 101, 3) := by decide +kernel
theorem kd_Cr_codeBody_159 : decode kc_Cr_codeBody 159 = .ok (.putfield 69, 3) := by decide +kernel
theorem kd_Cr_codeBody_162 : decode kc_Cr_codeBody 162 = .ok (.goto 14, 3) := by decide +kernel
theorem kd_Cr_codeBody_165 : decode kc_Cr_codeBody 165 = .ok (.aload_n 0, 1) := by decide +kernel
theorem kd_Cr_codeBody_166 : decode kc_Cr_codeBody 166 = .ok (.getfield 19, 3) := by decide +kernel
theorem kd_Cr_codeBody_169 : decode kc_Cr_codeBody 169 = .ok (.bipush 18, 2) := by decide +kernel
theorem kd_Cr_codeBody_171 : decode kc_Cr_codeBody 171 = .ok (.iconst 0, 1) := by decide +kernel
theorem kd_Cr_codeBody_172 : decode kc_Cr_codeBody 172 = .ok (.invokevirtual 101, 3) := by decide +kernel
theorem kd_Cr_codeBody_175 : decode kc_Cr_codeBody 175 = .ok (.pop, 1) := by decide +kernel
theorem kd_Cr_codeBody_176 : decode kc_Cr_codeBody 176 = .ok (.aload_n 0, 1) := by decide +kernel
theorem kd_Cr_codeBody_177 : decode kc_Cr_codeBody 177 = .ok (.getfield 9, 3) := by decide +kernel
theorem kd_Cr_codeBody_180 : decode kc_Cr_codeBody 180 = .ok (.getfield 87, 3) := by decide +kernel
theorem kd_Cr_codeBody_183 : decode kc_Cr_codeBody 183 = .ok (.iload_n 3, 1) := by decide +kernel
theorem kd_Cr_codeBody_184 : decode kc_Cr_codeBody 184 = .ok (.iaload, 1) := by decide +kernel
theorem kd_Cr_codeBody_185 : decode kc_Cr_codeBody 185 = .ok (.istore_n 3, 1) := by decide +kernel
theorem kd_Cr_codeBody_186 : decode kc_Cr_codeBody 186 = .ok (.iinc 4 1, 3) := by decide +kernel
theorem kd_Cr_codeBody_189 : decode kc_Cr_codeBody 189 = .ok (.goto (-168), 3) := by decide +kernel
theorem kd_Cr_codeBody_192 : decode kc_Cr_codeBody 192 = .ok (.return_, 1) := by decide +kernel
theorem kd_Cr_codeBranch_0 : decode kc_Cr_codeBranch 0 = .ok (.aload_n 0, 1) := by decide +kernel
theorem kd_Cr_codeBranch_1 : decode kc_Cr_codeBranch 1 = .ok (.getfield 19, 3) := by decide +kernel
theorem kd_Cr_codeBranch_4 : decode kc_Cr_codeBranch 4 = .ok (.bipush 11, 2) := by decide +kernel
theorem kd_Cr_codeBranch_6 : decode kc_Cr_codeBranch 6 = .ok (.iconst (-1), 1) := by decide +kernel
theorem kd_Cr_codeBranch_7 : decode kc_Cr_codeBranch 7 = .ok (.invokevirtual 101, 3) := by decide +kernel
theorem kd_Cr_codeBranch_10 : decode kc_Cr_codeBranch 10 = .ok (.istore 5, 2) := by decide +kernel
theorem kd_Cr_codeBranch_12 : decode kc_Cr_codeBranch 12 = .ok (.aload_n 0, 1) := by decide +kernel
theorem kd_Cr_codeBranch_13 : decode kc_Cr_codeBranch 13 = .ok (.iload_n 1, 1) := by decide +kernel
theorem kd_Cr_codeBranch_14 : decode kc_Cr_codeBranch 14 = .ok (.iload 4, 2) := by decide +kernel
theorem kd_Cr_codeBranch_16 : decode kc_Cr_codeBranch 16 = .ok (.iconst 1, 1) := by decide +kernel
theorem kd_Cr_codeBranch_17 : decode kc_Cr_codeBranch 17 = .ok (.iadd, 1) := by decide +kernel
theorem kd_Cr_codeBranch_18 : decode kc_Cr_codeBranch 18 = .ok (.invokevirtual 93, 3) := by decide +kernel
theorem kd_Cr_codeBranch_21 : decode kc_Cr_codeBranch 21 = .ok (.iload_n 2, 1) := by decide +kernel
theorem kd_Cr_codeBranch_22 : decode kc_Cr_codeBranch 22 = .ok (.ifCond .eq 7, 3) := by decide +kernel
theorem kd_Cr_codeBranch_25 : decode kc_Cr_codeBranch 25 = .ok (.iload_n 3, 1) := by decide +kernel
theorem kd_Cr_codeBranch_26 : decode kc_Cr_codeBranch 26 = .ok (.goto 13, 3) := by decide +kernel
theorem kd_Cr_codeBranch_29 : decode kc_Cr_codeBranch 29 = .ok (.aload_n 0, 1) := by decide +kernel
theorem kd_Cr_codeBranch_30 : decode kc_Cr_codeBranch 30 = .ok (.getfield 19, 3) := by decide +kernel
theorem kd_Cr_codeBranch_33 : decode kc_Cr_codeBranch 33 = .ok (.bipush 10, 2) := by decide +kernel
theorem kd_Cr_codeBranch_35 : decode kc_Cr_codeBranch 35 = .ok (.iload_n 3, 1) := by decide +kernel
theorem kd_Cr_codeBranch_36 : decode kc_Cr_codeBranch 36 = .ok (.invokevirtual 101, 3) := by decide +kernel
theorem kd_Cr_codeBranch_39 : decode kc_Cr_codeBranch 39 = .ok (.istore 6, 2) := by decide +kernel
theorem kd_Cr_codeBranch_41 : decode kc_Cr_codeBranch 41 = .ok (.aload_n 0, 1) := by decide +kernel
theorem kd_Cr_codeBranch_42 : decode kc_Cr_codeBranch 42 = .ok (.getfield 19, 3) := by decide +kernel
theorem kd_Cr_codeBranch_45 : decode kc_Cr_codeBranch 45 = .ok (.iload 5, 2) := by decide +kernel
theorem kd_Cr_codeBranch_47 : decode kc_Cr_codeBranch 47 = .ok (.invokevirtual 153, 3) := by decide +kernel
theorem kd_Cr_codeBranch_50 : decode kc_Cr_codeBranch 50 = .ok (.iload 6, 2) := by decide +kernel
theorem kd_Cr_codeBranch_52 : decode kc_Cr_codeBranch 52 = .ok (.ireturn, 1) := by decide +kernel
theorem kd_Cr_codeCase_0 : decode kc_Cr_codeCase 0 = .ok (.aload_n 0, 1) := by decide +kernel
theorem kd_Cr_codeCase_1 : decode kc_Cr_codeCase 1 = .ok (.getfield 60, 3) := by decide +kernel
theorem kd_Cr_codeCase_4 : decode kc_Cr_codeCase 4 = .ok (.istore_n 3, 1) := by decide +kernel
theorem kd_Cr_codeCase_5 : decode kc_Cr_codeCase 5 = .ok (.aload_n 0, 1) := by decide +kernel
theorem kd_Cr_codeCase_6 : decode kc_Cr_codeCase 6 = .ok (.dup, 1) := by decide +kernel
theorem kd_Cr_codeCase_7 : decode kc_Cr_codeCase 7 = .ok (.getfield 60, 3) := by decide +kernel
theorem kd_Cr_codeCase_10 : decode kc_Cr_codeCase 10 = .ok (.iconst 1, 1) := by decide +kernel
theorem kd_Cr_codeCase_11 : decode kc_Cr_codeCase 11 = .ok (.iadd, 1) := by decide +kernel
theorem kd_Cr_codeCase_12 : decode kc_Cr_codeCase 12 = .ok (.putfield 60, 3) := by decide +kernel
theorem kd_Cr_codeCase_15 : decode kc_Cr_codeCase 15 = .ok (.aload_n 0, 1) := by decide +kernel
theorem kd_Cr_codeCase_16 : decode kc_Cr_codeCase 16 = .ok (.getfield 9, 3) := by decide +kernel
theorem kd_Cr_codeCase_19 : decode kc_Cr_codeCase 19 = .ok (.getfield 80, 3) := by decide +kernel
theorem kd_Cr_codeCase_22 : decode kc_Cr_codeCase 22 = .ok (.iload_n 1, 1) := by decide +kernel
theorem kd_Cr_codeCase_23 : decode kc_Cr_codeCase 23 = .ok (.iaload, 1) := by decide +kernel
theorem kd_Cr_codeCase_24 : decode kc_Cr_codeCase 24 = .ok (.istore 4, 2) := by decide +kernel
theorem kd_Cr_codeCase_26 : decode kc_Cr_codeCase 26 = .ok (.aload_n 0, 1) := by decide +kernel
theorem kd_Cr_codeCase_27 : decode kc_Cr_codeCase 27 = .ok (.iload 4, 2) := by decide +kernel
theorem kd_Cr_codeCase_29 : decode kc_Cr_codeCase 29 = .ok (.iconst 0, 1) := by decide +kernel
theorem kd_Cr_codeCase_30 : decode kc_Cr_codeCase 30 = .ok (.invokevirtual 138, 3) := by decide +kernel
theorem kd_Cr_codeCase_33 : decode kc_Cr_codeCase 33 = .ok (.aload_n 0, 1) := by decide +kernel
theorem kd_Cr_codeCase_34 : decode kc_Cr_codeCase 34 = .ok (.getfield 19, 3) := by decide +kernel
theorem kd_Cr_codeCase_37 : decode kc_Cr_codeCase 37 = .ok (.iconst 2, 1) := by decide +kernel
theorem kd_Cr_codeCase_38 : decode kc_Cr_codeCase 38 = .ok (.iload_n 3, 1) := by decide +kernel
theorem kd_Cr_codeCase_39 : decode kc_Cr_codeCase 39 = .ok (.invokevirtual 101, 3) := by decide +kernel
theorem kd_Cr_codeCase_42 : decode kc_Cr_codeCase 42 = .ok (.pop, 1) := by decide +kernel
theorem kd_Cr_codeCase_43 : decode kc_Cr_codeCase 43 = .ok (.iconst (-1), 1) := by decide +kernel
theorem kd_Cr_codeCase_44 : decode kc_Cr_codeCase 44 = .ok (.istore 5, 2) := by decide +kernel
theorem kd_Cr_codeCase_46 : decode kc_Cr_codeCase 46 = .ok (.aload_n 0, 1) := by decide +kernel
theorem kd_Cr_codeCase_47 : decode kc_Cr_codeCase 47 = .ok (.getfield 9, 3) := by decide +kernel
theorem kd_Cr_codeCase_50 : decode kc_Cr_codeCase 50 = .ok (.getfield 87, 3) := by decide +kernel
theorem kd_Cr_codeCase_53 : decode kc_Cr_codeCase 53 = .ok (.iload 4, 2) := by decide +kernel
theorem kd_Cr_codeCase_55 : decode kc_Cr_codeCase 55 = .ok (.iaload, 1) := by decide +kernel
theorem kd_Cr_codeCase_56 : decode kc_Cr_codeCase 56 = .ok (.istore 4, 2) := by decide +kernel
theorem kd_Cr_codeCase_58 : decode kc_Cr_codeCase 58 = .ok (.iconst 0, 1) := by decide +kernel
theorem kd_Cr_codeCase_59 : decode kc_Cr_codeCase 59 = .ok (.istore 6, 2) := by decide +kernel
theorem kd_Cr_codeCase_61 : decode kc_Cr_codeCase 61 = .ok (.iload 6, 2) := by decide +kernel
theorem kd_Cr_codeCase_63 : decode kc_Cr_codeCase 63 = .ok (.aload_n 0, 1) := by decide +kernel
theorem kd_Cr_codeCase_64 : decode kc_Cr_codeCase 64 = .ok (.getfield 9, 3) := by decide +kernel
theorem kd_Cr_codeCase_67 : decode kc_Cr_codeCase 67 = .ok (.getfield 86, 3) := by decide +kernel
theorem kd_Cr_codeCase_70 : decode kc_Cr_codeCase 70 = .ok (.if_icmp .ge 93, 3) := by decide +kernel
theorem kd_Cr_codeCase_73 : decode kc_Cr_codeCase 73 = .ok (.iload 4, 2) := by decide +kernel
theorem kd_Cr_codeCase_75 : decode kc_Cr_codeCase 75 = .ok (.iconst (-1), 1) := by decide +kernel
theorem kd_Cr_codeCase_76 : decode kc_Cr_codeCase 76 = .ok (.if_icmp .eq 87, 3) := by decide +kernel
theorem kd_Cr_codeCase_79 : decode kc_Cr_codeCase 79 = .ok (.aload_n 0, 1) := by decide +kernel
theorem kd_Cr_codeCase_80 : decode kc_Cr_codeCase 80 = .ok (.getfield 9, 3) := by decide +kernel
theorem kd_Cr_codeCase_83 : decode kc_Cr_codeCase 83 = .ok (.getfield 90, 3) := by decide +kernel
theorem kd_Cr_codeCase_86 : decode kc_Cr_codeCase 86 = .ok (.iload 4, 2) := by decide +kernel
theorem kd_Cr_codeCase_88 : decode kc_Cr_codeCase 88 = .ok (.baload, 1) := by decide +kernel
theorem kd_Cr_codeCase_89 : decode kc_Cr_codeCase 89 = .ok (.bipush 11, 2) := by decide +kernel
theorem kd_Cr_codeCase_91 : decode kc_Cr_codeCase 91 = .ok (.if_icmp .ne 15, 3) := by decide +kernel
theorem kd_Cr_codeCase_94 : decode kc_Cr_codeCase 94 = .ok (.aload_n 0, 1) := by decide +kernel
theorem kd_Cr_codeCase_95 : decode kc_Cr_codeCase 95 = .ok (.iload 4, 2) := by decide +kernel
theorem kd_Cr_codeCase_97 : decode kc_Cr_codeCase 97 = .ok (.iload_n 2, 1) := by decide +kernel
theorem kd_Cr_codeCase_98 : decode kc_Cr_codeCase 98 = .ok (.iconst 1, 1) := by decide +kernel
theorem kd_Cr_codeCase_99 : decode kc_Cr_codeCase 99 = .ok (.iadd, 1) := by decide +kernel
theorem kd_Cr_codeCase_100 : decode kc_Cr_codeCase 100 = .ok (.invokevirtual 93, 3) := by decide +kernel
theorem kd_Cr_codeCase_103 : decode kc_Cr_codeCase 103 = .ok (.goto 42, 3) := by decide +kernel
theorem kd_Cr_codeCase_106 : decode kc_Cr_codeCase 106 = .ok (.aload_n 0, 1) := by decide +kernel
theorem kd_Cr_codeCase_107 : decode kc_Cr_codeCase 107 = .ok (.iload 4, 2) := by decide +kernel
theorem kd_Cr_codeCase_109 : decode kc_Cr_codeCase 109 = .ok (.iload_n 3, 1) := by decide +kernel
theorem kd_Cr_codeCase_110 : decode kc_Cr_codeCase 110 = .ok (.invokevirtual 160, 3) := by decide +kernel
theorem kd_Cr_codeCase_113 : decode kc_Cr_codeCase 113 = .ok (.istore 7, 2) := by decide +kernel
theorem kd_Cr_codeCase_115 : decode kc_Cr_codeCase 115 = .ok (.aload_n 0, 1) := by decide +kernel
theorem kd_Cr_codeCase_116 : decode kc_Cr_codeCase 116 = .ok (.iload 7, 2) := by decide +kernel
theorem kd_Cr_codeCase_118 : decode kc_Cr_codeCase 118 = .ok (.aload_n 0, 1) := by decide +kernel
theorem kd_Cr_codeCase_119 : decode kc_Cr_codeCase 119 = .ok (.getfield 9, 3) := by decide +kernel
theorem kd_Cr_codeCase_122 : decode kc_Cr_codeCase 122 = .ok (.getfield 87, 3) := by decide +kernel
theorem kd_Cr_codeCase_125 : decode kc_Cr_codeCase 125 = .ok (.iload 4, 2) := by decide +kernel
theorem kd_Cr_codeCase_127 : decode kc_Cr_codeCase 127 = .ok (.iaload, 1) := by decide +kernel
theorem kd_Cr_codeCase_128 : decode kc_Cr_codeCase 128 = .ok (.iconst (-1), 1) := by decide +kernel
theorem kd_Cr_codeCase_129 : decode kc_Cr_codeCase 129 = .ok (.if_icmp .ne 7, 3) := by decide +kernel
theorem kd_Cr_codeCase_132 : decode kc_Cr_codeCase 132 = .ok (.iconst 1, 1) := by decide +kernel
theorem kd_Cr_codeCase_133 : decode kc_Cr_codeCase 133 = .ok (.goto 4, 3) := by decide +kernel
theorem kd_Cr_codeCase_136 : decode kc_Cr_codeCase 136 = .ok (.iconst 0, 1) := by decide +kernel
theorem kd_Cr_codeCase_137 : decode kc_Cr_codeCase 137 = .ok (.iload 5, 2) := by decide +kernel
theorem kd_Cr_codeCase_139 : decode kc_Cr_codeCase 139 = .ok (.iload_n 2, 1) := by decide +kernel
theorem kd_Cr_codeCase_140 : decode kc_Cr_codeCase 140 = .ok (.invokevirtual 156, 3) := by decide +kernel
theorem kd_Cr_codeCase_143 : decode kc_Cr_codeCase 143 = .ok (.istore 5, 2) := by decide +kernel
theorem kd_Cr_codeCase_145 : decode kc_Cr_codeCase 145 = .ok (.aload_n 0, 1) := by decide +kernel
theorem kd_Cr_codeCase_146 : decode kc_Cr_codeCase 146 = .ok (.getfield 9, 3) := by decide +kernel
theorem kd_Cr_codeCase_149 : decode kc_Cr_codeCase 149 = .ok (.getfield 87, 3) := by decide +kernel
theorem kd_Cr_codeCase_152 : decode kc_Cr_codeCase 152 = .ok (.iload 4, 2) := by decide +kernel
theorem kd_Cr_codeCase_154 : decode kc_Cr_codeCase 154 = .ok (.iaload, 1) := by decide +kernel
theorem kd_Cr_codeCase_155 : decode kc_Cr_codeCase 155 = .ok (.istore 4, 2) := by decide +kernel
theorem kd_Cr_codeCase_157 : decode kc_Cr_codeCase 157 = .ok (.iinc 6 1, 3) := by decide +kernel
theorem kd_Cr_codeCase_160 : decode kc_Cr_codeCase 160 = .ok (.goto (-99), 3) := by decide +kernel
theorem kd_Cr_codeCase_163 : decode kc_Cr_codeCase 163 = .ok (.aload_n 0, 1) := by decide +kernel
theorem kd_Cr_codeCase_164 : decode kc_Cr_codeCase 164 = .ok (.getfield 19, 3) := by decide +kernel
theorem kd_Cr_codeCase_167 : decode kc_Cr_codeCase 167 = .ok (.iload 5, 2) := by decide +kernel
theorem kd_Cr_codeCase_169 : decode kc_Cr_codeCase 169 = .ok (.invokevirtual 153, 3) := by decide +kernel
theorem kd_Cr_codeCase_172 : decode kc_Cr_codeCase 172 = .ok (.return_, 1) := by decide +kernel
theorem kd_Cr_codeEdge_0 : decode kc_Cr_codeEdge 0 = .ok (.aload_n 0, 1) := by decide +kernel
theorem kd_Cr_codeEdge_1 : decode kc_Cr_codeEdge 1 = .ok (.getfield 19, 3) := by decide +kernel
theorem kd_Cr_codeEdge_4 : decode kc_Cr_codeEdge 4 = .ok (.iconst 1, 1) := by decide +kernel
theorem kd_Cr_codeEdge_5 : decode kc_Cr_codeEdge 5 = .ok (.iload_n 2, 1) := by decide +kernel
theorem kd_Cr_codeEdge_6 : decode kc_Cr_codeEdge 6 = .ok (.ifCond .eq 7, 3) := by decide +kernel
theorem kd_Cr_codeEdge_9 : decode kc_Cr_codeEdge 9 = .ok (.iload_n 1, 1) := by decide +kernel
theorem kd_Cr_codeEdge_10 : decode kc_Cr_codeEdge 10 = .ok (.goto 4, 3) := by decide +kernel
theorem kd_Cr_codeEdge_13 : decode kc_Cr_codeEdge 13 = .ok (.iload_n 3, 1) := by decide +kernel
theorem kd_Cr_codeEdge_14 : decode kc_Cr_codeEdge 14 = .ok (.invokevirtual 101, 3) := by decide +kernel
theorem kd_Cr_codeEdge_17 : decode kc_Cr_codeEdge 17 = .ok (.pop, 1) := by decide +kernel
theorem kd_Cr_codeEdge_18 : decode kc_Cr_codeEdge 18 = .ok (.aload_n 0, 1) := by decide +kernel
theorem kd_Cr_codeEdge_19 : decode kc_Cr_codeEdge 19 = .ok (.getfield 19, 3) := by decide +kernel
theorem kd_Cr_codeEdge_22 : decode kc_Cr_codeEdge 22 = .ok (.iconst 1, 1) := by decide +kernel
theorem kd_Cr_codeEdge_23 : decode kc_Cr_codeEdge 23 = .ok (.iload_n 2, 1) := by decide +kernel
theorem kd_Cr_codeEdge_24 : decode kc_Cr_codeEdge 24 = .ok (.ifCond .eq 7, 3) := by decide +kernel
theorem kd_Cr_codeEdge_27 : decode kc_Cr_codeEdge 27 = .ok (.iload_n 3, 1) := by decide +kernel
theorem kd_Cr_codeEdge_28 : decode kc_Cr_codeEdge 28 = .ok (.goto 4, 3) := by decide +kernel
theorem kd_Cr_codeEdge_31 : decode kc_Cr_codeEdge 31 = .ok (.iload_n 1, 1) := by decide +kernel
theorem kd_Cr_codeEdge_32 : decode kc_Cr_codeEdge 32 = .ok (.invokevirtual 101, 3) := by decide +kernel
theorem kd_Cr_codeEdge_35 : decode kc_Cr_codeEdge 35 = .ok (.pop, 1) := by decide +kernel
theorem kd_Cr_codeEdge_36 : decode kc_Cr_codeEdge 36 = .ok (.aload_n 0, 1) := by decide +kernel
theorem kd_Cr_codeEdge_37 : decode kc_Cr_codeEdge 37 = .ok (.getfield 19, 3) := by decide +kernel
theorem kd_Cr_codeEdge_40 : decode kc_Cr_codeEdge 40 = .ok (.bipush 8, 2) := by decide +kernel
theorem kd_Cr_codeEdge_42 : decode kc_Cr_codeEdge 42 = .ok (.iconst 2, 1) := by decide +kernel
theorem kd_Cr_codeEdge_43 : decode kc_Cr_codeEdge 43 = .ok (.invokevirtual 101, 3) := by decide +kernel
theorem kd_Cr_codeEdge_46 : decode kc_Cr_codeEdge 46 = .ok (.pop, 1) := by decide +kernel
theorem kd_Cr_codeEdge_47 : decode kc_Cr_codeEdge 47 = .ok (.aload_n 0, 1) := by decide +kernel
theorem kd_Cr_codeEdge_48 : decode kc_Cr_codeEdge 48 = .ok (.getfield 19, 3) := by decide +kernel
theorem kd_Cr_codeEdge_51 : decode kc_Cr_codeEdge 51 = .ok (.bipush 7, 2) := by decide +kernel
theorem kd_Cr_codeEdge_53 : decode kc_Cr_codeEdge 53 = .ok (.bipush 10, 2) := by decide +kernel
theorem kd_Cr_codeEdge_55 : decode kc_Cr_codeEdge 55 = .ok (.invokevirtual 101, 3) := by decide +kernel
theorem kd_Cr_codeEdge_58 : decode kc_Cr_codeEdge 58 = .ok (.pop, 1) := by decide +kernel
theorem kd_Cr_codeEdge_59 : decode kc_Cr_codeEdge 59 = .ok (.aload_n 0, 1) := by decide +kernel
theorem kd_Cr_codeEdge_60 : decode kc_Cr_codeEdge 60 = .ok (.getfield 19, 3) := by decide +kernel
theorem kd_Cr_codeEdge_63 : decode kc_Cr_codeEdge 63 = .ok (.bipush 7, 2) := by decide +kernel
theorem kd_Cr_codeEdge_65 : decode kc_Cr_codeEdge 65 = .ok (.bipush 10, 2) := by decide +kernel
theorem kd_Cr_codeEdge_67 : decode kc_Cr_codeEdge 67 = .ok (.invokevirtual 101, 3) := by decide +kernel
theorem kd_Cr_codeEdge_70 : decode kc_Cr_codeEdge 70 = .ok (.pop, 1) := by decide +kernel
theorem kd_Cr_codeEdge_71 : decode kc_Cr_codeEdge 71 = .ok (.aload_n 0, 1) := by decide +kernel
theorem kd_Cr_codeEdge_72 : decode kc_Cr_codeEdge 72 = .ok (.getfield 19, 3) := by decide +kernel
theorem kd_Cr_codeEdge_75 : decode kc_Cr_codeEdge 75 = .ok (.iconst 1, 1) := by decide +kernel
theorem kd_Cr_codeEdge_76 : decode kc_Cr_codeEdge 76 = .ok (.iload_n 1, 1) := by decide +kernel
theorem kd_Cr_codeEdge_77 : decode kc_Cr_codeEdge 77 = .ok (.invokevirtual 101, 3) := by decide +kernel
theorem kd_Cr_codeEdge_80 : decode kc_Cr_codeEdge 80 = .ok (.pop, 1) := by decide +kernel
theorem kd_Cr_codeEdge_81 : decode kc_Cr_codeEdge 81 = .ok (.aload_n 0, 1) := by decide +kernel
theorem kd_Cr_codeEdge_82 : decode kc_Cr_codeEdge 82 = .ok (.getfield 19, 3) := by decide +kernel
theorem kd_Cr_codeEdge_85 : decode kc_Cr_codeEdge 85 = .ok (.iconst 2, 1) := by decide +kernel
theorem kd_Cr_codeEdge_86 : decode kc_Cr_codeEdge 86 = .ok (.iload_n 3, 1) := by decide +kernel
theorem kd_Cr_codeEdge_87 : decode kc_Cr_codeEdge 87 = .ok (.invokevirtual 101, 3) := by decide +kernel
theorem kd_Cr_codeEdge_90 : decode kc_Cr_codeEdge 90 = .ok (.pop, 1) := by decide +kernel
theorem kd_Cr_codeEdge_91 : decode kc_Cr_codeEdge 91 = .ok (.return_, 1) := by decide +kernel
theorem kd_Cr_codeFor_0 : decode kc_Cr_codeFor 0 = .ok (.aload_n 0, 1) := by decide +kernel
theorem kd_Cr_codeFor_1 : decode kc_Cr_codeFor 1 = .ok (.getfield 60, 3) := by decide +kernel
theorem kd_Cr_codeFor_4 : decode kc_Cr_codeFor 4 = .ok (.istore_n 3, 1) := by decide +kernel
theorem kd_Cr_codeFor_5 : decode kc_Cr_codeFor 5 = .ok (.aload_n 0, 1) := by decide +kernel
theorem kd_Cr_codeFor_6 : decode kc_Cr_codeFor 6 = .ok (.dup, 1) := by decide +kernel
theorem kd_Cr_codeFor_7 : decode kc_Cr_codeFor 7 = .ok (.getfield 60, 3) := by decide +kernel
theorem kd_Cr_codeFor_10 : decode kc_Cr_codeFor 10 = .ok (.iconst 1, 1) := by decide +kernel
theorem kd_Cr_codeFor_11 : decode kc_Cr_codeFor 11 = .ok (.iadd, 1) := by decide +kernel
theorem kd_Cr_codeFor_12 : decode kc_Cr_codeFor 12 = .ok (.putfield 60, 3) := by decide +kernel
theorem kd_Cr_codeFor_15 : decode kc_Cr_codeFor 15 = .ok (.aload_n 0, 1) := by decide +kernel
theorem kd_Cr_codeFor_16 : decode kc_Cr_codeFor 16 = .ok (.getfield 15, 3) := by decide +kernel
theorem kd_Cr_codeFor_19 : decode kc_Cr_codeFor 19 = .ok (.getfield 117, 3) := by decide +kernel
theorem kd_Cr_codeFor_22 : decode kc_Cr_codeFor 22 = .ok (.aload_n 0, 1) := by decide +kernel
theorem kd_Cr_codeFor_23 : decode kc_Cr_codeFor 23 = .ok (.getfield 9, 3) := by decide +kernel
theorem kd_Cr_codeFor_26 : decode kc_Cr_codeFor 26 = .ok (.getfield 135, 3) := by decide +kernel
theorem kd_Cr_codeFor_29 : decode kc_Cr_codeFor 29 = .ok (.iload_n 1, 1) := by decide +kernel
theorem kd_Cr_codeFor_30 : decode kc_Cr_codeFor 30 = .ok (.iaload, 1) := by decide +kernel
theorem kd_Cr_codeFor_31 : decode kc_Cr_codeFor 31 = .ok (.iaload, 1) := by decide +kernel
theorem kd_Cr_codeFor_32 : decode kc_Cr_codeFor 32 = .ok (.istore 4, 2) := by decide +kernel
theorem kd_Cr_codeFor_34 : decode kc_Cr_codeFor 34 = .ok (.aload_n 0, 1) := by decide +kernel
theorem kd_Cr_codeFor_35 : decode kc_Cr_codeFor 35 = .ok (.getfield 9, 3) := by decide +kernel
theorem kd_Cr_codeFor_38 : decode kc_Cr_codeFor 38 = .ok (.getfield 135, 3) := by decide +kernel
theorem kd_Cr_codeFor_41 : decode kc_Cr_codeFor 41 = .ok (.aload_n 0, 1) := by decide +kernel
theorem kd_Cr_codeFor_42 : decode kc_Cr_codeFor 42 = .ok (.getfield 9, 3) := by decide +kernel
theorem kd_Cr_codeFor_45 : decode kc_Cr_codeFor 45 = .ok (.getfield 80, 3) := by decide +kernel
theorem kd_Cr_codeFor_48 : decode kc_Cr_codeFor 48 = .ok (.iload_n 1, 1) := by decide +kernel
theorem kd_Cr_codeFor_49 : decode kc_Cr_codeFor 49 = .ok (.iaload, 1) := by decide +kernel
theorem kd_Cr_codeFor_50 : decode kc_Cr_codeFor 50 = .ok (.iaload, 1) := by decide +kernel
theorem kd_Cr_codeFor_51 : decode kc_Cr_codeFor 51 = .ok (.istore 5, 2) := by decide +kernel
theorem kd_Cr_codeFor_53 : decode kc_Cr_codeFor 53 = .ok (.aload_n 0, 1) := by decide +kernel
theorem kd_Cr_codeFor_54 : decode kc_Cr_codeFor 54 = .ok (.getfield 9, 3) := by decide +kernel
theorem kd_Cr_codeFor_57 : decode kc_Cr_codeFor 57 = .ok (.getfield 135, 3) := by decide +kernel
theorem kd_Cr_codeFor_60 : decode kc_Cr_codeFor 60 = .ok (.aload_n 0, 1) := by decide +kernel
theorem kd_Cr_codeFor_61 : decode kc_Cr_codeFor 61 = .ok (.getfield 9, 3) := by decide +kernel
theorem kd_Cr_codeFor_64 : decode kc_Cr_codeFor 64 = .ok (.iload_n 1, 1) := by decide +kernel
theorem kd_Cr_codeFor_65 : decode kc_Cr_codeFor 65 = .ok (.invokevirtual 163, 3) := by decide +kernel
theorem kd_Cr_codeFor_68 : decode kc_Cr_codeFor 68 = .ok (.iaload, 1) := by decide +kernel
theorem kd_Cr_codeFor_69 : decode kc_Cr_codeFor 69 = .ok (.istore 6, 2) := by decide +kernel
theorem kd_Cr_codeFor_71 : decode kc_Cr_codeFor 71 = .ok (.aload_n 0, 1) := by decide +kernel
theorem kd_Cr_codeFor_72 : decode kc_Cr_codeFor 72 = .ok (.getfield 9, 3) := by decide +kernel
theorem kd_Cr_codeFor_75 : decode kc_Cr_codeFor 75 = .ok (.iload_n 1, 1) := by decide +kernel
theorem kd_Cr_codeFor_76 : decode kc_Cr_codeFor 76 = .ok (.invokevirtual 167, 3) := by decide +kernel
theorem kd_Cr_codeFor_79 : decode kc_Cr_codeFor 79 = .ok (.istore 7, 2) := by decide +kernel
theorem kd_Cr_codeFor_81 : decode kc_Cr_codeFor 81 = .ok (.aload_n 0, 1) := by decide +kernel
theorem kd_Cr_codeFor_82 : decode kc_Cr_codeFor 82 = .ok (.getfield 9, 3) := by decide +kernel
theorem kd_Cr_codeFor_85 : decode kc_Cr_codeFor 85 = .ok (.getfield 87, 3) := by decide +kernel
theorem kd_Cr_codeFor_88 : decode kc_Cr_codeFor 88 = .ok (.aload_n 0, 1) := by decide +kernel
theorem kd_Cr_codeFor_89 : decode kc_Cr_codeFor 89 = .ok (.getfield 9, 3) := by decide +kernel
theorem kd_Cr_codeFor_92 : decode kc_Cr_codeFor 92 = .ok (.iload_n 1, 1) := by decide +kernel
theorem kd_Cr_codeFor_93 : decode kc_Cr_codeFor 93 = .ok (.invokevirtual 163, 3) := by decide +kernel
theorem kd_Cr_codeFor_96 : decode kc_Cr_codeFor 96 = .ok (.iaload, 1) := by decide +kernel
theorem kd_Cr_codeFor_97 : decode kc_Cr_codeFor 97 = .ok (.istore 8, 2) := by decide +kernel
theorem kd_Cr_codeFor_99 : decode kc_Cr_codeFor 99 = .ok (.aload_n 0, 1) := by decide +kernel
theorem kd_Cr_codeFor_100 : decode kc_Cr_codeFor 100 = .ok (.getfield 9, 3) := by decide +kernel
theorem kd_Cr_codeFor_103 : decode kc_Cr_codeFor 103 = .ok (.iload 8, 2) := by decide +kernel
theorem kd_Cr_codeFor_105 : decode kc_Cr_codeFor 105 = .ok (.invokevirtual 170, 3) := by decide +kernel
theorem kd_Cr_codeFor_108 : decode kc_Cr_codeFor 108 = .ok (.ifCond .eq 15, 3) := by decide +kernel
theorem kd_Cr_codeFor_111 : decode kc_Cr_codeFor 111 = .ok (.aload_n 0, 1) := by decide +kernel
theorem kd_Cr_codeFor_112 : decode kc_Cr_codeFor 112 = .ok (.getfield 9, 3) := by decide +kernel
theorem kd_Cr_codeFor_115 : decode kc_Cr_codeFor 115 = .ok (.getfield 87, 3) := by decide +kernel
theorem kd_Cr_codeFor_118 : decode kc_Cr_codeFor 118 = .ok (.iload 8, 2) := by decide +kernel
theorem kd_Cr_codeFor_120 : decode kc_Cr_codeFor 120 = .ok (.iaload, 1) := by decide +kernel
theorem kd_Cr_codeFor_121 : decode kc_Cr_codeFor 121 = .ok (.istore 8, 2) := by decide +kernel
theorem kd_Cr_codeFor_123 : decode kc_Cr_codeFor 123 = .ok (.aload_n 0, 1) := by decide +kernel
theorem kd_Cr_codeFor_124 : decode kc_Cr_codeFor 124 = .ok (.getfield 19, 3) := by decide +kernel
theorem kd_Cr_codeFor_127 : decode kc_Cr_codeFor 127 = .ok (.iconst 0, 1) := by decide +kernel
theorem kd_Cr_codeFor_128 : decode kc_Cr_codeFor 128 = .ok (.iload 5, 2) := by decide +kernel
theorem kd_Cr_codeFor_130 : decode kc_Cr_codeFor 130 = .ok (.invokevirtual 101, 3) := by decide +kernel
theorem kd_Cr_codeFor_133 : decode kc_Cr_codeFor 133 = .ok (.pop, 1) := by decide +kernel
theorem kd_Cr_codeFor_134 : decode kc_Cr_codeFor 134 = .ok (.aload_n 0, 1) := by decide +kernel
theorem kd_Cr_codeFor_135 : decode kc_Cr_codeFor 135 = .ok (.getfield 19, 3) := by decide +kernel
theorem kd_Cr_codeFor_138 : decode kc_Cr_codeFor 138 = .ok (.iconst 2, 1) := by decide +kernel
theorem kd_Cr_codeFor_139 : decode kc_Cr_codeFor 139 = .ok (.iload 4, 2) := by decide +kernel
theorem kd_Cr_codeFor_141 : decode kc_Cr_codeFor 141 = .ok (.invokevirtual 101, 3) := by decide +kernel
theorem kd_Cr_codeFor_144 : decode kc_Cr_codeFor 144 = .ok (.pop, 1) := by decide +kernel
theorem kd_Cr_codeFor_145 : decode kc_Cr_codeFor 145 = .ok (.aload_n 0, 1) := by decide +kernel
theorem kd_Cr_codeFor_146 : decode kc_Cr_codeFor 146 = .ok (.getfield 19, 3) := by decide +kernel
theorem kd_Cr_codeFor_149 : decode kc_Cr_codeFor 149 = .ok (.bipush 12, 2) := by decide +kernel
theorem kd_Cr_codeFor_151 : decode kc_Cr_codeFor 151 = .ok (.iload_n 3, 1) := by decide +kernel
theorem kd_Cr_codeFor_152 : decode kc_Cr_codeFor 152 = .ok (.invokevirtual 101, 3) := by decide +kernel
theorem kd_Cr_codeFor_155 : decode kc_Cr_codeFor 155 = .ok (.pop, 1) := by decide +kernel
theorem kd_Cr_codeFor_156 : decode kc_Cr_codeFor 156 = .ok (.aload_n 0, 1) := by decide +kernel
theorem kd_Cr_codeFor_157 : decode kc_Cr_codeFor 157 = .ok (.getfield 19, 3) := by decide +kernel
theorem kd_Cr_codeFor_160 : decode kc_Cr_codeFor 160 = .ok (.iload 5, 2) := by decide +kernel
theorem kd_Cr_codeFor_162 : decode kc_Cr_codeFor 162 = .ok (.iload 6, 2) := by decide +kernel
theorem kd_Cr_codeFor_164 : decode kc_Cr_codeFor 164 = .ok (.iload 7, 2) := by decide +kernel
theorem kd_Cr_codeFor_166 : decode kc_Cr_codeFor 166 = .ok (.invokestatic 174, 3) := by decide +kernel
theorem kd_Cr_codeFor_169 : decode kc_Cr_codeFor 169 = .ok (.l2i, 1) := by decide +kernel
theorem kd_Cr_codeFor_170 : decode kc_Cr_codeFor 170 = .ok (.iconst 0, 1) := by decide +kernel
theorem kd_Cr_codeFor_171 : decode kc_Cr_codeFor 171 = .ok (.invokevirtual 147, 3) := by decide +kernel
theorem kd_Cr_codeFor_174 : decode kc_Cr_codeFor 174 = .ok (.aload_n 0, 1) := by decide +kernel
theorem kd_Cr_codeFor_175 : decode kc_Cr_codeFor 175 = .ok (.getfield 19, 3) := by decide +kernel
theorem kd_Cr_codeFor_178 : decode kc_Cr_codeFor 178 = .ok (.bipush 13, 2) := by decide +kernel
theorem kd_Cr_codeFor_180 : decode kc_Cr_codeFor 180 = .ok (.iconst (-1), 1) := by decide +kernel
theorem kd_Cr_codeFor_181 : decode kc_Cr_codeFor 181 = .ok (.invokevirtual 101, 3) := by decide +kernel
theorem kd_Cr_codeFor_184 : decode kc_Cr_codeFor 184 = .ok (.istore 9, 2) := by decide +kernel
theorem kd_Cr_codeFor_186 : decode kc_Cr_codeFor 186 = .ok (.aload_n 0, 1) := by decide +kernel
theorem kd_Cr_codeFor_187 : decode kc_Cr_codeFor 187 = .ok (.getfield 19, 3) := by decide +kernel
theorem kd_Cr_codeFor_190 : decode kc_Cr_codeFor 190 = .ok (.iload_n 3, 1) := by decide +kernel
theorem kd_Cr_codeFor_191 : decode kc_Cr_codeFor 191 = .ok (.iconst 0, 1) := by decide +kernel
theorem kd_Cr_codeFor_192 : decode kc_Cr_codeFor 192 = .ok (.invokevirtual 147, 3) := by decide +kernel
theorem kd_Cr_codeFor_195 : decode kc_Cr_codeFor 195 = .ok (.aload_n 0, 1) := by decide +kernel
theorem kd_Cr_codeFor_196 : decode kc_Cr_codeFor 196 = .ok (.getfield 69, 3) := by decide +kernel
theorem kd_Cr_codeFor_199 : decode kc_Cr_codeFor 199 = .ok (.istore 10, 2) := by decide +kernel
theorem kd_Cr_codeFor_201 : decode kc_Cr_codeFor 201 = .ok (.aload_n 0, 1) := by decide +kernel
theorem kd_Cr_codeFor_202 : decode kc_Cr_codeFor 202 = .ok (.iconst (-1), 1) := by decide +kernel
theorem kd_Cr_codeFor_203 : decode kc_Cr_codeFor 203 = .ok (.putfield 69, 3) := by decide +kernel
theorem kd_Cr_codeFor_206 : decode kc_Cr_codeFor 206 = .ok (.aload_n 0, 1) := by decide +kernel
theorem kd_Cr_codeFor_207 : decode kc_Cr_codeFor 207 = .ok (.iload 8, 2) := by decide +kernel
theorem kd_Cr_codeFor_209 : decode kc_Cr_codeFor 209 = .ok (.iload_n 2, 1) := by decide +kernel
theorem kd_Cr_codeFor_210 : decode kc_Cr_codeFor 210 = .ok (.iconst 1, 1) := by decide +kernel
theorem kd_Cr_codeFor_211 : decode kc_Cr_codeFor 211 = .ok (.iadd, 1) := by decide +kernel
theorem kd_Cr_codeFor_212 : decode kc_Cr_codeFor 212 = .ok (.invokevirtual 93, 3) := by decide +kernel
theorem kd_Cr_codeFor_215 : decode kc_Cr_codeFor 215 = .ok (.aload_n 0, 1) := by decide +kernel
theorem kd_Cr_codeFor_216 : decode kc_Cr_codeFor 216 = .ok (.getfield 19, 3) := by decide +kernel
theorem kd_Cr_codeFor_219 : decode kc_Cr_codeFor 219 = .ok (.iconst 1, 1) := by decide +kernel
theorem kd_Cr_codeFor_220 : decode kc_Cr_codeFor 220 = .ok (.iload 4, 2) := by decide +kernel
theorem kd_Cr_codeFor_222 : decode kc_Cr_codeFor 222 = .ok (.invokevirtual 101, 3) := by decide +kernel
theorem kd_Cr_codeFor_225 : decode kc_Cr_codeFor 225 = .ok (.pop, 1) := by decide +kernel
theorem kd_Cr_codeFor_226 : decode kc_Cr_codeFor 226 = .ok (.aload_n 0, 1) := by decide +kernel
theorem kd_Cr_codeFor_227 : decode kc_Cr_codeFor 227 = .ok (.getfield 19, 3) := by decide +kernel
theorem kd_Cr_codeFor_230 : decode kc_Cr_codeFor 230 = .ok (.iconst 0, 1) := by decide +kernel
theorem kd_Cr_codeFor_231 : decode kc_Cr_codeFor 231 = .ok (.iload 7, 2) := by decide +kernel
theorem kd_Cr_codeFor_233 : decode kc_Cr_codeFor 233 = .ok (.invokevirtual 101, 3) := by decide +kernel
theorem kd_Cr_codeFor_236 : decode kc_Cr_codeFor 236 = .ok (.pop, 1) := by decide +kernel
theorem kd_Cr_codeFor_237 : decode kc_Cr_codeFor 237 = .ok (.aload_n 0, 1) := by decide +kernel
theorem kd_Cr_codeFor_238 : decode kc_Cr_codeFor 238 = .ok (.getfield 19, 3) := by decide +kernel
theorem kd_Cr_codeFor_241 : decode kc_Cr_codeFor 241 = .ok (.bipush 7, 2) := by decide +kernel
theorem kd_Cr_codeFor_243 : decode kc_Cr_codeFor 243 = .ok (.aload_n 0, 1) := by decide +kernel
theorem kd_Cr_codeFor_244 : decode kc_Cr_codeFor 244 = .ok (.getfield 9, 3) := by decide +kernel
theorem kd_Cr_codeFor_247 : decode kc_Cr_codeFor 247 = .ok (.getfield 178, 3) := by decide +kernel
theorem kd_Cr_codeFor_250 : decode kc_Cr_codeFor 250 = .ok (.iload_n 1, 1) := by decide +kernel
theorem kd_Cr_codeFor_251 : decode kc_Cr_codeFor 251 = .ok (.baload, 1) := by decide +kernel
theorem kd_Cr_codeFor_252 : decode kc_Cr_codeFor 252 = .ok (.iconst 1, 1) := by decide +kernel
theorem kd_Cr_codeFor_253 : decode kc_Cr_codeFor 253 = .ok (.if_icmp .ne 7, 3) := by decide +kernel
theorem kd_Cr_codeFor_256 : decode kc_Cr_codeFor 256 = .ok (.iconst 0, 1) := by decide +kernel
theorem kd_Cr_codeFor_257 : decode kc_Cr_codeFor 257 = .ok (.goto 4, 3) := by decide +kernel
theorem kd_Cr_codeFor_260 : decode kc_Cr_codeFor 260 = .ok (.iconst 5, 1) := by decide +kernel
theorem kd_Cr_codeFor_261 : decode kc_Cr_codeFor 261 = .ok (.invokevirtual 101, 3) := by decide +kernel
theorem kd_Cr_codeFor_264 : decode kc_Cr_codeFor 264 = .ok (.pop, 1) := by decide +kernel
theorem kd_Cr_codeFor_265 : decode kc_Cr_codeFor 265 = .ok (.aload_n 0, 1) := by decide +kernel
theorem kd_Cr_codeFor_266 : decode kc_Cr_codeFor 266 = .ok (.getfield 19, 3) := by decide +kernel
theorem kd_Cr_codeFor_269 : decode kc_Cr_codeFor 269 = .ok (.iconst 2, 1) := by decide +kernel
theorem kd_Cr_codeFor_270 : decode kc_Cr_codeFor 270 = .ok (.iload 4, 2) := by decide +kernel
theorem kd_Cr_codeFor_272 : decode kc_Cr_codeFor 272 = .ok (.invokevirtual 101, 3) := by decide +kernel
theorem kd_Cr_codeFor_275 : decode kc_Cr_codeFor 275 = .ok (.pop, 1) := by decide +kernel
theorem kd_Cr_codeFor_276 : decode kc_Cr_codeFor 276 = .ok (.aload_n 0, 1) := by decide +kernel
theorem kd_Cr_codeFor_277 : decode kc_Cr_codeFor 277 = .ok (.getfield 19, 3) := by decide +kernel
theorem kd_Cr_codeFor_280 : decode kc_Cr_codeFor 280 = .ok (.bipush 14, 2) := by decide +kernel
theorem kd_Cr_codeFor_282 : decode kc_Cr_codeFor 282 = .ok (.iload 9, 2) := by decide +kernel
theorem kd_Cr_codeFor_284 : decode kc_Cr_codeFor 284 = .ok (.invokevirtual 101, 3) := by decide +kernel
theorem kd_Cr_codeFor_287 : decode kc_Cr_codeFor 287 = .ok (.pop, 1) := by decide +kernel
theorem kd_Cr_codeFor_288 : decode kc_Cr_codeFor 288 = .ok (.aload_n 0, 1) := by decide +kernel
theorem kd_Cr_codeFor_289 : decode kc_Cr_codeFor 289 = .ok (.getfield 19, 3) := by decide +kernel
theorem kd_Cr_codeFor_292 : decode kc_Cr_codeFor 292 = .ok (.iload 9, 2) := by decide +kernel
theorem kd_Cr_codeFor_294 : decode kc_Cr_codeFor 294 = .ok (.invokevirtual 153, 3) := by decide +kernel
theorem kd_Cr_codeFor_297 : decode kc_Cr_codeFor 297 = .ok (.aload_n 0, 1) := by decide +kernel
theorem kd_Cr_codeFor_298 : decode kc_Cr_codeFor 298 = .ok (.getfield 19, 3) := by decide +kernel
theorem kd_Cr_codeFor_301 : decode kc_Cr_codeFor 301 = .ok (.aload_n 0, 1) := by decide +kernel
theorem kd_Cr_codeFor_302 : decode kc_Cr_codeFor 302 = .ok (.getfield 69, 3) := by decide +kernel
theorem kd_Cr_codeFor_305 : decode kc_Cr_codeFor 305 = .ok (.invokevirtual 153, 3) := by decide +kernel
theorem kd_Cr_codeFor_308 : decode kc_Cr_codeFor 308 = .ok (.aload_n 0, 1) := by decide +kernel
theorem kd_Cr_codeFor_309 : decode kc_Cr_codeFor 309 = .ok (.iload 10, 2) := by decide +kernel
theorem kd_Cr_codeFor_311 : decode kc_Cr_codeFor 311 = .ok (.putfield 69, 3) := by decide +kernel
theorem kd_Cr_codeFor_314 : decode kc_Cr_codeFor 314 = .ok (.return_, 1) := by decide +kernel
theorem kd_Cr_codeIf_0 : decode kc_Cr_codeIf 0 = .ok (.iconst (-1), 1) := by decide +kernel
theorem kd_Cr_codeIf_1 : decode kc_Cr_codeIf 1 = .ok (.istore_n 3, 1) := by decide +kernel
theorem kd_Cr_codeIf_2 : decode kc_Cr_codeIf 2 = .ok (.aload_n 0, 1) := by decide +kernel
theorem kd_Cr_codeIf_3 : decode kc_Cr_codeIf 3 = .ok (.getfield 9, 3) := by decide +kernel
theorem kd_Cr_codeIf_6 : decode kc_Cr_codeIf 6 = .ok (.getfield 80, 3) := by decide +kernel
theorem kd_Cr_codeIf_9 : decode kc_Cr_codeIf 9 = .ok (.iload_n 1, 1) := by decide +kernel
theorem kd_Cr_codeIf_10 : decode kc_Cr_codeIf 10 = .ok (.iaload, 1) := by decide +kernel
theorem kd_Cr_codeIf_11 : decode kc_Cr_codeIf 11 = .ok (.istore 4, 2) := by decide +kernel
theorem kd_Cr_codeIf_13 : decode kc_Cr_codeIf 13 = .ok (.iconst 0, 1) := by decide +kernel
theorem kd_Cr_codeIf_14 : decode kc_Cr_codeIf 14 = .ok (.istore 5, 2) := by decide +kernel
theorem kd_Cr_codeIf_16 : decode kc_Cr_codeIf 16 = .ok (.iload 5, 2) := by decide +kernel
theorem kd_Cr_codeIf_18 : decode kc_Cr_codeIf 18 = .ok (.aload_n 0, 1) := by decide +kernel
theorem kd_Cr_codeIf_19 : decode kc_Cr_codeIf 19 = .ok (.getfield 9, 3) := by decide +kernel
theorem kd_Cr_codeIf_22 : decode kc_Cr_codeIf 22 = .ok (.getfield 86, 3) := by decide +kernel
theorem kd_Cr_codeIf_25 : decode kc_Cr_codeIf 25 = .ok (.if_icmp .ge 101, 3) := by decide +kernel
theorem kd_Cr_codeIf_28 : decode kc_Cr_codeIf 28 = .ok (.iload 4, 2) := by decide +kernel
theorem kd_Cr_codeIf_30 : decode kc_Cr_codeIf 30 = .ok (.iconst (-1), 1) := by decide +kernel
theorem kd_Cr_codeIf_31 : decode kc_Cr_codeIf 31 = .ok (.if_icmp .eq 95, 3) := by decide +kernel
theorem kd_Cr_codeIf_34 : decode kc_Cr_codeIf 34 = .ok (.aload_n 0, 1) := by decide +kernel
theorem kd_Cr_codeIf_35 : decode kc_Cr_codeIf 35 = .ok (.getfield 9, 3) := by decide +kernel
theorem kd_Cr_codeIf_38 : decode kc_Cr_codeIf 38 = .ok (.getfield 90, 3) := by decide +kernel
theorem kd_Cr_codeIf_41 : decode kc_Cr_codeIf 41 = .ok (.iload 4, 2) := by decide +kernel
theorem kd_Cr_codeIf_43 : decode kc_Cr_codeIf 43 = .ok (.baload, 1) := by decide +kernel
theorem kd_Cr_codeIf_44 : decode kc_Cr_codeIf 44 = .ok (.bipush 11, 2) := by decide +kernel
theorem kd_Cr_codeIf_46 : decode kc_Cr_codeIf 46 = .ok (.if_icmp .ne 15, 3) := by decide +kernel
theorem kd_Cr_codeIf_49 : decode kc_Cr_codeIf 49 = .ok (.aload_n 0, 1) := by decide +kernel
theorem kd_Cr_codeIf_50 : decode kc_Cr_codeIf 50 = .ok (.iload 4, 2) := by decide +kernel
theorem kd_Cr_codeIf_52 : decode kc_Cr_codeIf 52 = .ok (.iload_n 2, 1) := by decide +kernel
theorem kd_Cr_codeIf_53 : decode kc_Cr_codeIf 53 = .ok (.iconst 1, 1) := by decide +kernel
theorem kd_Cr_codeIf_54 : decode kc_Cr_codeIf 54 = .ok (.iadd, 1) := by decide +kernel
theorem kd_Cr_codeIf_55 : decode kc_Cr_codeIf 55 = .ok (.invokevirtual 93, 3) := by decide +kernel
theorem kd_Cr_codeIf_58 : decode kc_Cr_codeIf 58 = .ok (.goto 50, 3) := by decide +kernel
theorem kd_Cr_codeIf_61 : decode kc_Cr_codeIf 61 = .ok (.aload_n 0, 1) := by decide +kernel
theorem kd_Cr_codeIf_62 : decode kc_Cr_codeIf 62 = .ok (.iload 4, 2) := by decide +kernel
theorem kd_Cr_codeIf_64 : decode kc_Cr_codeIf 64 = .ok (.iconst 0, 1) := by decide +kernel
theorem kd_Cr_codeIf_65 : decode kc_Cr_codeIf 65 = .ok (.invokevirtual 138, 3) := by decide +kernel
theorem kd_Cr_codeIf_68 : decode kc_Cr_codeIf 68 = .ok (.aload_n 0, 1) := by decide +kernel
theorem kd_Cr_codeIf_69 : decode kc_Cr_codeIf 69 = .ok (.getfield 9, 3) := by decide +kernel
theorem kd_Cr_codeIf_72 : decode kc_Cr_codeIf 72 = .ok (.getfield 87, 3) := by decide +kernel
theorem kd_Cr_codeIf_75 : decode kc_Cr_codeIf 75 = .ok (.iload 4, 2) := by decide +kernel
theorem kd_Cr_codeIf_77 : decode kc_Cr_codeIf 77 = .ok (.iaload, 1) := by decide +kernel
theorem kd_Cr_codeIf_78 : decode kc_Cr_codeIf 78 = .ok (.istore 4, 2) := by decide +kernel
theorem kd_Cr_codeIf_80 : decode kc_Cr_codeIf 80 = .ok (.aload_n 0, 1) := by decide +kernel
theorem kd_Cr_codeIf_81 : decode kc_Cr_codeIf 81 = .ok (.iload 4, 2) := by decide +kernel
theorem kd_Cr_codeIf_83 : decode kc_Cr_codeIf 83 = .ok (.aload_n 0, 1) := by decide +kernel
theorem kd_Cr_codeIf_84 : decode kc_Cr_codeIf 84 = .ok (.getfield 9, 3) := by decide +kernel
theorem kd_Cr_codeIf_87 : decode kc_Cr_codeIf 87 = .ok (.getfield 87, 3) := by decide +kernel
theorem kd_Cr_codeIf_90 : decode kc_Cr_codeIf 90 = .ok (.iload 4, 2) := by decide +kernel
theorem kd_Cr_codeIf_92 : decode kc_Cr_codeIf 92 = .ok (.iaload, 1) := by decide +kernel
theorem kd_Cr_codeIf_93 : decode kc_Cr_codeIf 93 = .ok (.iconst (-1), 1) := by decide +kernel
theorem kd_Cr_codeIf_94 : decode kc_Cr_codeIf 94 = .ok (.if_icmp .ne 7, 3) := by decide +kernel
theorem kd_Cr_codeIf_97 : decode kc_Cr_codeIf 97 = .ok (.iconst 1, 1) := by decide +kernel
theorem kd_Cr_codeIf_98 : decode kc_Cr_codeIf 98 = .ok (.goto 4, 3) := by decide +kernel
theorem kd_Cr_codeIf_101 : decode kc_Cr_codeIf 101 = .ok (.iconst 0, 1) := by decide +kernel
theorem kd_Cr_codeIf_102 : decode kc_Cr_codeIf 102 = .ok (.iload_n 3, 1) := by decide +kernel
theorem kd_Cr_codeIf_103 : decode kc_Cr_codeIf 103 = .ok (.iload_n 2, 1) := by decide +kernel
theorem kd_Cr_codeIf_104 : decode kc_Cr_codeIf 104 = .ok (.invokevirtual 156, 3) := by decide +kernel
theorem kd_Cr_codeIf_107 : decode kc_Cr_codeIf 107 = .ok (.istore_n 3, 1) := by decide +kernel
theorem kd_Cr_codeIf_108 : decode kc_Cr_codeIf 108 = .ok (.aload_n 0, 1) := by decide +kernel
theorem kd_Cr_codeIf_109 : decode kc_Cr_codeIf 109 = .ok (.getfield 9, 3) := by decide +kernel
theorem kd_Cr_codeIf_112 : decode kc_Cr_codeIf 112 = .ok (.getfield 87, 3) := by decide +kernel
theorem kd_Cr_codeIf_115 : decode kc_Cr_codeIf 115 = .ok (.iload 4, 2) := by decide +kernel
theorem kd_Cr_codeIf_117 : decode kc_Cr_codeIf 117 = .ok (.iaload, 1) := by decide +kernel
theorem kd_Cr_codeIf_118 : decode kc_Cr_codeIf 118 = .ok (.istore 4, 2) := by decide +kernel
theorem kd_Cr_codeIf_120 : decode kc_Cr_codeIf 120 = .ok (.iinc 5 1, 3) := by decide +kernel
theorem kd_Cr_codeIf_123 : decode kc_Cr_codeIf 123 = .ok (.goto (-107), 3) := by decide +kernel
theorem kd_Cr_codeIf_126 : decode kc_Cr_codeIf 126 = .ok (.aload_n 0, 1) := by decide +kernel
theorem kd_Cr_codeIf_127 : decode kc_Cr_codeIf 127 = .ok (.getfield 19, 3) := by decide +kernel
theorem kd_Cr_codeIf_130 : decode kc_Cr_codeIf 130 = .ok (.iload_n 3, 1) := by decide +kernel
theorem kd_Cr_codeIf_131 : decode kc_Cr_codeIf 131 = .ok (.invokevirtual 153, 3) := by decide +kernel
theorem kd_Cr_codeIf_134 : decode kc_Cr_codeIf 134 = .ok (.return_, 1) := by decide +kernel
theorem kd_Cr_lastOfGroup_0 : decode kc_Cr_lastOfGroup 0 = .ok (.iload_n 1, 1) := by decide +kernel
theorem kd_Cr_lastOfGroup_1 : decode kc_Cr_lastOfGroup 1 = .ok (.istore_n 3, 1) := by decide +kernel
theorem kd_Cr_lastOfGroup_2 : decode kc_Cr_lastOfGroup 2 = .ok (.iload_n 3, 1) := by decide +kernel
theorem kd_Cr_lastOfGroup_3 : decode kc_Cr_lastOfGroup 3 = .ok (.aload_n 0, 1) := by decide +kernel
theorem kd_Cr_lastOfGroup_4 : decode kc_Cr_lastOfGroup 4 = .ok (.getfield 209, 3) := by decide +kernel
theorem kd_Cr_lastOfGroup_7 : decode kc_Cr_lastOfGroup 7 = .ok (.iconst 1, 1) := by decide +kernel
theorem kd_Cr_lastOfGroup_8 : decode kc_Cr_lastOfGroup 8 = .ok (.isub, 1) := by decide +kernel
theorem kd_Cr_lastOfGroup_9 : decode kc_Cr_lastOfGroup 9 = .ok (.if_icmp .ge 23, 3) := by decide +kernel
theorem kd_Cr_lastOfGroup_12 : decode kc_Cr_lastOfGroup 12 = .ok (.aload_n 0, 1) := by decide +kernel
theorem kd_Cr_lastOfGroup_13 : decode kc_Cr_lastOfGroup 13 = .ok (.getfield 30, 3) := by decide +kernel
theorem kd_Cr_lastOfGroup_16 : decode kc_Cr_lastOfGroup 16 = .ok (.iload_n 3, 1) := by decide +kernel
theorem kd_Cr_lastOfGroup_17 : decode kc_Cr_lastOfGroup 17 = .ok (.bipush 12, 2) := by decide +kernel
theorem kd_Cr_lastOfGroup_19 : decode kc_Cr_lastOfGroup 19 = .ok (.imul, 1) := by decide +kernel
theorem kd_Cr_lastOfGroup_20 : decode kc_Cr_lastOfGroup 20 = .ok (.iload_n 2, 1) := by decide +kernel
theorem kd_Cr_lastOfGroup_21 : decode kc_Cr_lastOfGroup 21 = .ok (.iadd, 1) := by decide +kernel
theorem kd_Cr_lastOfGroup_22 : decode kc_Cr_lastOfGroup 22 = .ok (.baload, 1) := by decide +kernel
theorem kd_Cr_lastOfGroup_23 : decode kc_Cr_lastOfGroup 23 = .ok (.ifCond .eq 9, 3) := by decide +kernel
theorem kd_Cr_lastOfGroup_26 : decode kc_Cr_lastOfGroup 26 = .ok (.iinc 3 1, 3) := by decide +kernel
theorem kd_Cr_lastOfGroup_29 : decode kc_Cr_lastOfGroup 29 = .ok (.goto (-27), 3) := by decide +kernel
theorem kd_Cr_lastOfGroup_32 : decode kc_Cr_lastOfGroup 32 = .ok (.iload_n 3, 1) := by decide +kernel
theorem kd_Cr_lastOfGroup_33 : decode kc_Cr_lastOfGroup 33 = .ok (.ireturn, 1) := by decide +kernel
theorem kd_Cr_layCell_0 : decode kc_Cr_layCell 0 = .ok (.aload_n 0, 1) := by decide +kernel
theorem kd_Cr_layCell_1 : decode kc_Cr_layCell 1 = .ok (.getfield 209, 3) := by decide +kernel
theorem kd_Cr_layCell_4 : decode kc_Cr_layCell 4 = .ok (.bipush 12, 2) := by decide +kernel
theorem kd_Cr_layCell_6 : decode kc_Cr_layCell 6 = .ok (.imul, 1) := by decide +kernel
theorem kd_Cr_layCell_7 : decode kc_Cr_layCell 7 = .ok (.aload_n 0, 1) := by decide +kernel
theorem kd_Cr_layCell_8 : decode kc_Cr_layCell 8 = .ok (.getfield 206, 3) := by decide +kernel
theorem kd_Cr_layCell_11 : decode kc_Cr_layCell 11 = .ok (.iadd, 1) := by decide +kernel
theorem kd_Cr_layCell_12 : decode kc_Cr_layCell 12 = .ok (.istore_n 2, 1) := by decide +kernel
theorem kd_Cr_layCell_13 : decode kc_Cr_layCell 13 = .ok (.aload_n 0, 1) := by decide +kernel
theorem kd_Cr_layCell_14 : decode kc_Cr_layCell 14 = .ok (.getfield 9, 3) := by decide +kernel
theorem kd_Cr_layCell_17 : decode kc_Cr_layCell 17 = .ok (.getfield 90, 3) := by decide +kernel
theorem kd_Cr_layCell_20 : decode kc_Cr_layCell 20 = .ok (.iload_n 1, 1) := by decide +kernel
theorem kd_Cr_layCell_21 : decode kc_Cr_layCell 21 = .ok (.baload, 1) := by decide +kernel
theorem kd_Cr_layCell_22 : decode kc_Cr_layCell 22 = .ok (.bipush 29, 2) := by decide +kernel
theorem kd_Cr_layCell_24 : decode kc_Cr_layCell 24 = .ok (.if_icmp .ne 13, 3) := by decide +kernel
theorem kd_Cr_layCell_27 : decode kc_Cr_layCell 27 = .ok (.aload_n 0, 1) := by decide +kernel
theorem kd_Cr_layCell_28 : decode kc_Cr_layCell 28 = .ok (.getfield 30, 3) := by decide +kernel
theorem kd_Cr_layCell_31 : decode kc_Cr_layCell 31 = .ok (.iload_n 2, 1) := by decide +kernel
theorem kd_Cr_layCell_32 : decode kc_Cr_layCell 32 = .ok (.iconst 1, 1) := by decide +kernel
theorem kd_Cr_layCell_33 : decode kc_Cr_layCell 33 = .ok (.isub, 1) := by decide +kernel
theorem kd_Cr_layCell_34 : decode kc_Cr_layCell 34 = .ok (.iconst 1, 1) := by decide +kernel
theorem kd_Cr_layCell_35 : decode kc_Cr_layCell 35 = .ok (.bastore, 1) := by decide +kernel
theorem kd_Cr_layCell_36 : decode kc_Cr_layCell 36 = .ok (.return_, 1) := by decide +kernel
theorem kd_Cr_layCell_37 : decode kc_Cr_layCell 37 = .ok (.aload_n 0, 1) := by decide +kernel
theorem kd_Cr_layCell_38 : decode kc_Cr_layCell 38 = .ok (.getfield 23, 3) := by decide +kernel
theorem kd_Cr_layCell_41 : decode kc_Cr_layCell 41 = .ok (.iload_n 2, 1) := by decide +kernel
theorem kd_Cr_layCell_42 : decode kc_Cr_layCell 42 = .ok (.iload_n 1, 1) := by decide +kernel
theorem kd_Cr_layCell_43 : decode kc_Cr_layCell 43 = .ok (.iastore, 1) := by decide +kernel
theorem kd_Cr_layCell_44 : decode kc_Cr_layCell 44 = .ok (.aload_n 0, 1) := by decide +kernel
theorem kd_Cr_layCell_45 : decode kc_Cr_layCell 45 = .ok (.getfield 30, 3) := by decide +kernel
theorem kd_Cr_layCell_48 : decode kc_Cr_layCell 48 = .ok (.iload_n 2, 1) := by decide +kernel
theorem kd_Cr_layCell_49 : decode kc_Cr_layCell 49 = .ok (.iconst 0, 1) := by decide +kernel
theorem kd_Cr_layCell_50 : decode kc_Cr_layCell 50 = .ok (.bastore, 1) := by decide +kernel
theorem kd_Cr_layCell_51 : decode kc_Cr_layCell 51 = .ok (.aload_n 0, 1) := by decide +kernel
theorem kd_Cr_layCell_52 : decode kc_Cr_layCell 52 = .ok (.getfield 9, 3) := by decide +kernel
theorem kd_Cr_layCell_55 : decode kc_Cr_layCell 55 = .ok (.getfield 90, 3) := by decide +kernel
theorem kd_Cr_layCell_58 : decode kc_Cr_layCell 58 = .ok (.iload_n 1, 1) := by decide +kernel
theorem kd_Cr_layCell_59 : decode kc_Cr_layCell 59 = .ok (.baload, 1) := by decide +kernel
theorem kd_Cr_layCell_60 : decode kc_Cr_layCell 60 = .ok (.bipush 25, 2) := by decide +kernel
theorem kd_Cr_layCell_62 : decode kc_Cr_layCell 62 = .ok (.if_icmp .ne 36, 3) := by decide +kernel
theorem kd_Cr_layCell_65 : decode kc_Cr_layCell 65 = .ok (.aload_n 0, 1) := by decide +kernel
theorem kd_Cr_layCell_66 : decode kc_Cr_layCell 66 = .ok (.getfield 9, 3) := by decide +kernel
theorem kd_Cr_layCell_69 : decode kc_Cr_layCell 69 = .ok (.getfield 135, 3) := by decide +kernel
theorem kd_Cr_layCell_72 : decode kc_Cr_layCell 72 = .ok (.iload_n 1, 1) := by decide +kernel
theorem kd_Cr_layCell_73 : decode kc_Cr_layCell 73 = .ok (.iaload, 1) := by decide +kernel
theorem kd_Cr_layCell_74 : decode kc_Cr_layCell 74 = .ok (.iconst 2, 1) := by decide +kernel
theorem kd_Cr_layCell_75 : decode kc_Cr_layCell 75 = .ok (.if_icmp .lt 23, 3) := by decide +kernel
theorem kd_Cr_layCell_78 : decode kc_Cr_layCell 78 = .ok (.aload_n 0, 1) := by decide +kernel
theorem kd_Cr_layCell_79 : decode kc_Cr_layCell 79 = .ok (.getfield 27, 3) := by decide +kernel
theorem kd_Cr_layCell_82 : decode kc_Cr_layCell 82 = .ok (.iload_n 2, 1) := by decide +kernel
theorem kd_Cr_layCell_83 : decode kc_Cr_layCell 83 = .ok (.aload_n 0, 1) := by decide +kernel
theorem kd_Cr_layCell_84 : decode kc_Cr_layCell 84 = .ok (.getfield 60, 3) := by decide +kernel
theorem kd_Cr_layCell_87 : decode kc_Cr_layCell 87 = .ok (.iastore, 1) := by decide +kernel
theorem kd_Cr_layCell_88 : decode kc_Cr_layCell 88 = .ok (.aload_n 0, 1) := by decide +kernel
theorem kd_Cr_layCell_89 : decode kc_Cr_layCell 89 = .ok (.dup, 1) := by decide +kernel
theorem kd_Cr_layCell_90 : decode kc_Cr_layCell 90 = .ok (.getfield 60, 3) := by decide +kernel
theorem kd_Cr_layCell_93 : decode kc_Cr_layCell 93 = .ok (.iconst 1, 1) := by decide +kernel
theorem kd_Cr_layCell_94 : decode kc_Cr_layCell 94 = .ok (.iadd, 1) := by decide +kernel
theorem kd_Cr_layCell_95 : decode kc_Cr_layCell 95 = .ok (.putfield 60, 3) := by decide +kernel
theorem kd_Cr_layCell_98 : decode kc_Cr_layCell 98 = .ok (.aload_n 0, 1) := by decide +kernel
theorem kd_Cr_layCell_99 : decode kc_Cr_layCell 99 = .ok (.dup, 1) := by decide +kernel
theorem kd_Cr_layCell_100 : decode kc_Cr_layCell 100 = .ok (.getfield 206, 3) := by decide +kernel
theorem kd_Cr_layCell_103 : decode kc_Cr_layCell 103 = .ok (.iconst 1, 1) := by decide +kernel
theorem kd_Cr_layCell_104 : decode kc_Cr_layCell 104 = .ok (.iadd, 1) := by decide +kernel
theorem kd_Cr_layCell_105 : decode kc_Cr_layCell 105 = .ok (.putfield 206, 3) := by decide +kernel
theorem kd_Cr_layCell_108 : decode kc_Cr_layCell 108 = .ok (.return_, 1) := by decide +kernel
theorem kd_Cr_layGrid_0 : decode kc_Cr_layGrid 0 = .ok (.aload_n 0, 1) := by decide +kernel
theorem kd_Cr_layGrid_1 : decode kc_Cr_layGrid 1 = .ok (.iconst 0, 1) := by decide +kernel
theorem kd_Cr_layGrid_2 : decode kc_Cr_layGrid 2 = .ok (.putfield 209, 3) := by decide +kernel
theorem kd_Cr_layGrid_5 : decode kc_Cr_layGrid 5 = .ok (.aload_n 0, 1) := by decide +kernel
theorem kd_Cr_layGrid_6 : decode kc_Cr_layGrid 6 = .ok (.getfield 9, 3) := by decide +kernel
theorem kd_Cr_layGrid_9 : decode kc_Cr_layGrid 9 = .ok (.getfield 80, 3) := by decide +kernel
theorem kd_Cr_layGrid_12 : decode kc_Cr_layGrid 12 = .ok (.iload_n 1, 1) := by decide +kernel
theorem kd_Cr_layGrid_13 : decode kc_Cr_layGrid 13 = .ok (.iaload, 1) := by decide +kernel
theorem kd_Cr_layGrid_14 : decode kc_Cr_layGrid 14 = .ok (.istore_n 2, 1) := by decide +kernel
theorem kd_Cr_layGrid_15 : decode kc_Cr_layGrid 15 = .ok (.iconst 0, 1) := by decide +kernel
theorem kd_Cr_layGrid_16 : decode kc_Cr_layGrid 16 = .ok (.istore_n 3, 1) := by decide +kernel
theorem kd_Cr_layGrid_17 : decode kc_Cr_layGrid 17 = .ok (.iload_n 3, 1) := by decide +kernel
theorem kd_Cr_layGrid_18 : decode kc_Cr_layGrid 18 = .ok (.bipush 12, 2) := by decide +kernel
theorem kd_Cr_layGrid_20 : decode kc_Cr_layGrid 20 = .ok (.if_icmp .ge 90, 3) := by decide +kernel
theorem kd_Cr_layGrid_23 : decode kc_Cr_layGrid 23 = .ok (.iload_n 2, 1) := by decide +kernel
theorem kd_Cr_layGrid_24 : decode kc_Cr_layGrid 24 = .ok (.iconst (-1), 1) := by decide +kernel
theorem kd_Cr_layGrid_25 : decode kc_Cr_layGrid 25 = .ok (.if_icmp .eq 85, 3) := by decide +kernel
theorem kd_Cr_layGrid_28 : decode kc_Cr_layGrid 28 = .ok (.aload_n 0, 1) := by decide +kernel
theorem kd_Cr_layGrid_29 : decode kc_Cr_layGrid 29 = .ok (.iconst 0, 1) := by decide +kernel
theorem kd_Cr_layGrid_30 : decode kc_Cr_layGrid 30 = .ok (.putfield 206, 3) := by decide +kernel
theorem kd_Cr_layGrid_33 : decode kc_Cr_layGrid 33 = .ok (.aload_n 0, 1) := by decide +kernel
theorem kd_Cr_layGrid_34 : decode kc_Cr_layGrid 34 = .ok (.getfield 9, 3) := by decide +kernel
theorem kd_Cr_layGrid_37 : decode kc_Cr_layGrid 37 = .ok (.getfield 80, 3) := by decide +kernel
theorem kd_Cr_layGrid_40 : decode kc_Cr_layGrid 40 = .ok (.iload_n 2, 1) := by decide +kernel
theorem kd_Cr_layGrid_41 : decode kc_Cr_layGrid 41 = .ok (.iaload, 1) := by decide +kernel
theorem kd_Cr_layGrid_42 : decode kc_Cr_layGrid 42 = .ok (.istore 4, 2) := by decide +kernel
theorem kd_Cr_layGrid_44 : decode kc_Cr_layGrid 44 = .ok (.iconst 0, 1) := by decide +kernel
theorem kd_Cr_layGrid_45 : decode kc_Cr_layGrid 45 = .ok (.istore 5, 2) := by decide +kernel
theorem kd_Cr_layGrid_47 : decode kc_Cr_layGrid 47 = .ok (.iload 5, 2) := by decide +kernel
theorem kd_Cr_layGrid_49 : decode kc_Cr_layGrid 49 = .ok (.bipush 24, 2) := by decide +kernel
theorem kd_Cr_layGrid_51 : decode kc_Cr_layGrid 51 = .ok (.if_icmp .ge 33, 3) := by decide +kernel
theorem kd_Cr_layGrid_54 : decode kc_Cr_layGrid 54 = .ok (.iload 4, 2) := by decide +kernel
theorem kd_Cr_layGrid_56 : decode kc_Cr_layGrid 56 = .ok (.iconst (-1), 1) := by decide +kernel
theorem kd_Cr_layGrid_57 : decode kc_Cr_layGrid 57 = .ok (.if_icmp .eq 27, 3) := by decide +kernel
theorem kd_Cr_layGrid_60 : decode kc_Cr_layGrid 60 = .ok (.aload_n 0, 1) := by decide +kernel
theorem kd_Cr_layGrid_61 : decode kc_Cr_layGrid 61 = .ok (.iload 4, 2) := by decide +kernel
theorem kd_Cr_layGrid_63 : decode kc_Cr_layGrid 63 = .ok (.invokevirtual 222, 3) := by decide +kernel
theorem kd_Cr_layGrid_66 : decode kc_Cr_layGrid 66 = .ok (.aload_n 0, 1) := by decide +kernel
theorem kd_Cr_layGrid_67 : decode kc_Cr_layGrid 67 = .ok (.getfield 9, 3) := by decide +kernel
theorem kd_Cr_layGrid_70 : decode kc_Cr_layGrid 70 = .ok (.getfield 87, 3) := by decide +kernel
theorem kd_Cr_layGrid_73 : decode kc_Cr_layGrid 73 = .ok (.iload 4, 2) := by decide +kernel
theorem kd_Cr_layGrid_75 : decode kc_Cr_layGrid 75 = .ok (.iaload, 1) := by decide +kernel
theorem kd_Cr_layGrid_76 : decode kc_Cr_layGrid 76 = .ok (.istore 4, 2) := by decide +kernel
theorem kd_Cr_layGrid_78 : decode kc_Cr_layGrid 78 = .ok (.iinc 5 1, 3) := by decide +kernel
theorem kd_Cr_layGrid_81 : decode kc_Cr_layGrid 81 = .ok (.goto (-34), 3) := by decide +kernel
theorem kd_Cr_layGrid_84 : decode kc_Cr_layGrid 84 = .ok (.aload_n 0, 1) := by decide +kernel
theorem kd_Cr_layGrid_85 : decode kc_Cr_layGrid 85 = .ok (.dup, 1) := by decide +kernel
theorem kd_Cr_layGrid_86 : decode kc_Cr_layGrid 86 = .ok (.getfield 209, 3) := by decide +kernel
theorem kd_Cr_layGrid_89 : decode kc_Cr_layGrid 89 = .ok (.iconst 1, 1) := by decide +kernel
theorem kd_Cr_layGrid_90 : decode kc_Cr_layGrid 90 = .ok (.iadd, 1) := by decide +kernel
theorem kd_Cr_layGrid_91 : decode kc_Cr_layGrid 91 = .ok (.putfield 209, 3) := by decide +kernel
theorem kd_Cr_layGrid_94 : decode kc_Cr_layGrid 94 = .ok (.aload_n 0, 1) := by decide +kernel
theorem kd_Cr_layGrid_95 : decode kc_Cr_layGrid 95 = .ok (.getfield 9, 3) := by decide +kernel
theorem kd_Cr_layGrid_98 : decode kc_Cr_layGrid 98 = .ok (.getfield 87, 3) := by decide +kernel
theorem kd_Cr_layGrid_101 : decode kc_Cr_layGrid 101 = .ok (.iload_n 2, 1) := by decide +kernel
theorem kd_Cr_layGrid_102 : decode kc_Cr_layGrid 102 = .ok (.iaload, 1) := by decide +kernel
theorem kd_Cr_layGrid_103 : decode kc_Cr_layGrid 103 = .ok (.istore_n 2, 1) := by decide +kernel
theorem kd_Cr_layGrid_104 : decode kc_Cr_layGrid 104 = .ok (.iinc 3 1, 3) := by decide +kernel
theorem kd_Cr_layGrid_107 : decode kc_Cr_layGrid 107 = .ok (.goto (-90), 3) := by decide +kernel
theorem kd_Cr_layGrid_110 : decode kc_Cr_layGrid 110 = .ok (.return_, 1) := by decide +kernel
set_option maxHeartbeats 4000000 in
set_option maxRecDepth 100000 in
theorem zb_Cr_codeBody_176 {X : zkj_T} {S : zs_T} {P : ze_T} {l : Launch} {D : va_G} {sz0 : Nat} {d : Nat} {rh : zs_H} (C : zk_C X km_Cr_codeBody (zs_G S l D sz0) { frames := 403 + (d + 1), cells := 0, slots := 0, locals := 10473 + 30 * (d + 1) } (ze_E P)) (hR : zkj_R X (zd_PV S rh) (none)) {r_Cr_codeCase : zs_H → Int32 → Int32 → (Option zs_H)} (hr_Cr_codeCase : ∀ (h : zs_H) (x0 : Int32) (x1 : Int32) {rh : zs_H}, r_Cr_codeCase h x0 x1 = some rh → zk_Sp (zs_G S l D sz0) (ze_E P) km_Cr_codeCase { frames := 403 + d, cells := 0, slots := 0, locals := 10473 + 30 * d } [.ref (S.1 47), .int x0, .int x1] (zs_W S h) (zd_PV S rh)) {r_Cr_codeFor : zs_H → Int32 → Int32 → (Option zs_H)} (hr_Cr_codeFor : ∀ (h : zs_H) (x0 : Int32) (x1 : Int32) {rh : zs_H}, r_Cr_codeFor h x0 x1 = some rh → zk_Sp (zs_G S l D sz0) (ze_E P) km_Cr_codeFor { frames := 403 + d, cells := 0, slots := 0, locals := 10473 + 30 * d } [.ref (S.1 47), .int x0, .int x1] (zs_W S h) (zd_PV S rh)) {r_Cr_codeIf : zs_H → Int32 → Int32 → (Option zs_H)} (hr_Cr_codeIf : ∀ (h : zs_H) (x0 : Int32) (x1 : Int32) {rh : zs_H}, r_Cr_codeIf h x0 x1 = some rh → zk_Sp (zs_G S l D sz0) (ze_E P) km_Cr_codeIf { frames := 403 + d, cells := 0, slots := 0, locals := 10473 + 30 * d } [.ref (S.1 47), .int x0, .int x1] (zs_W S h) (zd_PV S rh)) {k21 : zs_H → Int32 → Int32 → Int32 → (Option zs_H)} (hk21 : ∀ (h : zs_H) (x2 : Int32) (x3 : Int32) (x4 : Int32), k21 h x2 x3 x4 = some rh → zk_Ab X (zs_W S h) 0 0 21 [(0, .ref (S.1 47)), (2, .int x2), (3, .int x3), (4, .int x4)] []) (h : zs_H) (x2 : Int32) (x3 : Int32) (x4 : Int32) (e : f_Cr_codeBody_176 r_Cr_codeCase r_Cr_codeFor r_Cr_codeIf k21 h x2 x3 x4 = some rh) : zk_Ab X (zs_W S h) 0 0 176 [(0, .ref (S.1 47)), (2, .int x2), (3, .int x3), (4, .int x4)] [] := by
  unfold f_Cr_codeBody_176 at e
  refine zk_aload_n C kd_Cr_codeBody_176 rfl 0 rfl rfl ?_
  refine zs_get (v := .ref (S.1 12)) C 47 0 rfl rfl rfl rfl ki_Cr (by decide) kw442 kd_Cr_codeBody_177 rfl ?_
  refine zs_get (v := .ref (S.1 18)) C 12 5 rfl rfl rfl rfl ki_Tr (by decide) kw174 kd_Cr_codeBody_180 rfl ?_
  refine zk_iload_n C kd_Cr_codeBody_183 rfl 2 rfl rfl ?_
  obtain ⟨q1, e⟩ := zd_g e
  refine zs_iald C 18 rfl (zd_vp q1) kd_Cr_codeBody_184 rfl ?_
  refine zk_istore_n (lv' := [(3, _), (0, _), (2, _), (4, _)]) C kd_Cr_codeBody_185 rfl (by decide) rfl rfl ?_
  refine zk_iinc (v := (x4 + 1)) (lv' := [(4, _), (3, _), (0, _), (2, _)]) C kd_Cr_codeBody_186 3 rfl rfl (by decide) rfl rfl ?_
  refine zk_goto (tgt := 21) C kd_Cr_codeBody_189 (by decide) ?_
  refine zk_lvs (lv' := [(0, .ref (S.1 47)), (2, .int x2), (3, .int (h.2.1 18 x3.toNatClampNeg)), (4, .int (x4 + 1))]) [2, 3, 1, 0] rfl ?_
  exact hk21 h x2 (h.2.1 18 x3.toNatClampNeg) (x4 + 1) e
set_option maxHeartbeats 4000000 in
set_option maxRecDepth 100000 in
theorem zb_Cr_codeBody_21 {X : zkj_T} {S : zs_T} {P : ze_T} {l : Launch} {D : va_G} {sz0 : Nat} {d : Nat} {rh : zs_H} (C : zk_C X km_Cr_codeBody (zs_G S l D sz0) { frames := 403 + (d + 1), cells := 0, slots := 0, locals := 10473 + 30 * (d + 1) } (ze_E P)) (hR : zkj_R X (zd_PV S rh) (none)) {r_Cr_codeCase : zs_H → Int32 → Int32 → (Option zs_H)} (hr_Cr_codeCase : ∀ (h : zs_H) (x0 : Int32) (x1 : Int32) {rh : zs_H}, r_Cr_codeCase h x0 x1 = some rh → zk_Sp (zs_G S l D sz0) (ze_E P) km_Cr_codeCase { frames := 403 + d, cells := 0, slots := 0, locals := 10473 + 30 * d } [.ref (S.1 47), .int x0, .int x1] (zs_W S h) (zd_PV S rh)) {r_Cr_codeFor : zs_H → Int32 → Int32 → (Option zs_H)} (hr_Cr_codeFor : ∀ (h : zs_H) (x0 : Int32) (x1 : Int32) {rh : zs_H}, r_Cr_codeFor h x0 x1 = some rh → zk_Sp (zs_G S l D sz0) (ze_E P) km_Cr_codeFor { frames := 403 + d, cells := 0, slots := 0, locals := 10473 + 30 * d } [.ref (S.1 47), .int x0, .int x1] (zs_W S h) (zd_PV S rh)) {r_Cr_codeIf : zs_H → Int32 → Int32 → (Option zs_H)} (hr_Cr_codeIf : ∀ (h : zs_H) (x0 : Int32) (x1 : Int32) {rh : zs_H}, r_Cr_codeIf h x0 x1 = some rh → zk_Sp (zs_G S l D sz0) (ze_E P) km_Cr_codeIf { frames := 403 + d, cells := 0, slots := 0, locals := 10473 + 30 * d } [.ref (S.1 47), .int x0, .int x1] (zs_W S h) (zd_PV S rh)) {k21 : zs_H → Int32 → Int32 → Int32 → (Option zs_H)} (hk21 : ∀ (h : zs_H) (x2 : Int32) (x3 : Int32) (x4 : Int32), k21 h x2 x3 x4 = some rh → zk_Ab X (zs_W S h) 0 0 21 [(0, .ref (S.1 47)), (2, .int x2), (3, .int x3), (4, .int x4)] []) (h : zs_H) (x2 : Int32) (x3 : Int32) (x4 : Int32) (e : f_Cr_codeBody_21 r_Cr_codeCase r_Cr_codeFor r_Cr_codeIf k21 h x2 x3 x4 = some rh) : zk_Ab X (zs_W S h) 0 0 21 [(0, .ref (S.1 47)), (2, .int x2), (3, .int x3), (4, .int x4)] [] := by
  unfold f_Cr_codeBody_21 at e
  refine zk_iload C kd_Cr_codeBody_21 3 rfl rfl ?_
  refine zk_aload_n C kd_Cr_codeBody_23 rfl 0 rfl rfl ?_
  refine zs_get (v := .ref (S.1 12)) C 47 0 rfl rfl rfl rfl ki_Cr (by decide) kw442 kd_Cr_codeBody_24 rfl ?_
  refine zs_get (v := .int (h.1 12 6)) C 12 6 rfl rfl rfl rfl ki_Tr (by decide) kw178 kd_Cr_codeBody_27 rfl ?_
  refine zk_icmp_ge (tgt := 192) C kd_Cr_codeBody_30 (by decide) rfl (fun b1 => ?_) (fun b1 => ?_)
  · replace e := zd_pos b1 e
    exact zk_vret C hR kd_Cr_codeBody_192 rfl rfl (zd_rV e)
  · replace e := zd_neg b1 e
    refine zk_iload_n C kd_Cr_codeBody_33 rfl 2 rfl rfl ?_
    refine zk_iconst (v := (-1)) C kd_Cr_codeBody_34 (by decide) rfl ?_
    refine zk_icmp_eq (tgt := 192) C kd_Cr_codeBody_35 (by decide) rfl (fun b2 => ?_) (fun b2 => ?_)
    · replace e := zd_pos b2 e
      exact zk_vret C hR kd_Cr_codeBody_192 rfl rfl (zd_rV e)
    · replace e := zd_neg b2 e
      refine zk_aload_n C kd_Cr_codeBody_38 rfl 0 rfl rfl ?_
      refine zs_get (v := .ref (S.1 12)) C 47 0 rfl rfl rfl rfl ki_Cr (by decide) kw442 kd_Cr_codeBody_39 rfl ?_
      refine zs_get (v := .ref (S.1 13)) C 12 0 rfl rfl rfl rfl ki_Tr (by decide) kw156 kd_Cr_codeBody_42 rfl ?_
      refine zk_iload_n C kd_Cr_codeBody_45 rfl 2 rfl rfl ?_
      obtain ⟨q3, e⟩ := zd_g e
      refine zs_bald C 13 rfl (zd_vp q3) kd_Cr_codeBody_46 rfl ?_
      by_cases b4 : (h.2.1 13 x3.toNatClampNeg) = 12
      · replace e := zd_pos b4 e
        refine zk_tableIn (tgt := 96) C kd_Cr_codeBody_47 (by rw [b4]; decide) (by rw [b4]; decide) (by rw [b4]; rfl) (by decide) ?_
        refine zk_aload_n C kd_Cr_codeBody_96 rfl 0 rfl rfl ?_
        refine zk_iload_n C kd_Cr_codeBody_97 rfl 2 rfl rfl ?_
        obtain ⟨h6, c5, e⟩ := zd_b e
        refine zs_callV (k := 47) (rn := { frames := 402, cells := 0, slots := 0, locals := 10448 }) (As := [.int x3]) (rest := []) C (zc_Cr_codeAssignment h x3 c5) ku_Cr_codeAssignment kw1286 kv_Cr_codeAssignment rfl (zd_rmO (by decide) (by decide)) ⟨Nat.le_refl _, Nat.le_refl _⟩ rfl rfl rfl (Nat.le_of_ble_eq_true rfl) kd_Cr_codeBody_98 rfl (c1 := 0) (s1 := 0) rfl rfl (fun v w hp => ?_)
        obtain ⟨rfl, rfl⟩ := hp
        refine zk_stk (r' := []) rfl ?_
        refine zk_goto (tgt := 176) C kd_Cr_codeBody_101 (by decide) ?_
        refine zk_lvs (lv' := [(0, .ref (S.1 47)), (2, .int x2), (3, .int x3), (4, .int x4)]) [0, 1, 2, 3] rfl ?_
        exact zb_Cr_codeBody_176 C hR hr_Cr_codeCase hr_Cr_codeFor hr_Cr_codeIf hk21 h6 x2 x3 x4 e
      replace e := zd_neg b4 e
      by_cases b7 : (h.2.1 13 x3.toNatClampNeg) = 13
      · replace e := zd_pos b7 e
        refine zk_tableIn (tgt := 104) C kd_Cr_codeBody_47 (by rw [b7]; decide) (by rw [b7]; decide) (by rw [b7]; rfl) (by decide) ?_
        refine zk_aload_n C kd_Cr_codeBody_104 rfl 0 rfl rfl ?_
        refine zk_iload_n C kd_Cr_codeBody_105 rfl 2 rfl rfl ?_
        obtain ⟨h9, c8, e⟩ := zd_b e
        refine zs_callV (k := 47) (rn := { frames := 402, cells := 0, slots := 0, locals := 10448 }) (As := [.int x3]) (rest := []) C (zc_Cr_codeInvocation h x3 c8) ku_Cr_codeInvocation kw1314 kv_Cr_codeInvocation rfl (zd_rmO (by decide) (by decide)) ⟨Nat.le_refl _, Nat.le_refl _⟩ rfl rfl rfl (Nat.le_of_ble_eq_true rfl) kd_Cr_codeBody_106 rfl (c1 := 0) (s1 := 0) rfl rfl (fun v w hp => ?_)
        obtain ⟨rfl, rfl⟩ := hp
        refine zk_stk (r' := []) rfl ?_
        refine zk_goto (tgt := 176) C kd_Cr_codeBody_109 (by decide) ?_
        refine zk_lvs (lv' := [(0, .ref (S.1 47)), (2, .int x2), (3, .int x3), (4, .int x4)]) [0, 1, 2, 3] rfl ?_
        exact zb_Cr_codeBody_176 C hR hr_Cr_codeCase hr_Cr_codeFor hr_Cr_codeIf hk21 h9 x2 x3 x4 e
      replace e := zd_neg b7 e
      by_cases b10 : (h.2.1 13 x3.toNatClampNeg) = 15
      · replace e := zd_pos b10 e
        refine zk_tableIn (tgt := 112) C kd_Cr_codeBody_47 (by rw [b10]; decide) (by rw [b10]; decide) (by rw [b10]; rfl) (by decide) ?_
        refine zk_aload_n C kd_Cr_codeBody_112 rfl 0 rfl rfl ?_
        refine zk_iload_n C kd_Cr_codeBody_113 rfl 2 rfl rfl ?_
        refine zk_iload_n C kd_Cr_codeBody_114 rfl 1 rfl rfl ?_
        refine zk_iconst (v := 1) C kd_Cr_codeBody_115 (by decide) rfl ?_
        refine zk_iadd C kd_Cr_codeBody_116 rfl ?_
        obtain ⟨h12, c11, e⟩ := zd_b e
        refine zs_callV (k := 47) (rn := { frames := 403 + d, cells := 0, slots := 0, locals := 10473 + 30 * d }) (As := [.int x3, .int (x2 + 1)]) (rest := []) C (hr_Cr_codeIf h x3 (x2 + 1) c11) ku_Cr_codeIf kw1318 kv_Cr_codeIf rfl (zd_rmI (by decide)) ⟨Nat.le_refl _, Nat.le_refl _⟩ rfl rfl rfl (Nat.le_of_ble_eq_true rfl) kd_Cr_codeBody_117 rfl (c1 := 0) (s1 := 0) rfl rfl (fun v w hp => ?_)
        obtain ⟨rfl, rfl⟩ := hp
        refine zk_stk (r' := []) rfl ?_
        refine zk_goto (tgt := 176) C kd_Cr_codeBody_120 (by decide) ?_
        refine zk_lvs (lv' := [(0, .ref (S.1 47)), (2, .int x2), (3, .int x3), (4, .int x4)]) [0, 1, 2, 3] rfl ?_
        exact zb_Cr_codeBody_176 C hR hr_Cr_codeCase hr_Cr_codeFor hr_Cr_codeIf hk21 h12 x2 x3 x4 e
      replace e := zd_neg b10 e
      by_cases b13 : (h.2.1 13 x3.toNatClampNeg) = 16
      · replace e := zd_pos b13 e
        refine zk_tableIn (tgt := 123) C kd_Cr_codeBody_47 (by rw [b13]; decide) (by rw [b13]; decide) (by rw [b13]; rfl) (by decide) ?_
        refine zk_aload_n C kd_Cr_codeBody_123 rfl 0 rfl rfl ?_
        refine zk_iload_n C kd_Cr_codeBody_124 rfl 2 rfl rfl ?_
        refine zk_iload_n C kd_Cr_codeBody_125 rfl 1 rfl rfl ?_
        refine zk_iconst (v := 1) C kd_Cr_codeBody_126 (by decide) rfl ?_
        refine zk_iadd C kd_Cr_codeBody_127 rfl ?_
        obtain ⟨h15, c14, e⟩ := zd_b e
        refine zs_callV (k := 47) (rn := { frames := 403 + d, cells := 0, slots := 0, locals := 10473 + 30 * d }) (As := [.int x3, .int (x2 + 1)]) (rest := []) C (hr_Cr_codeCase h x3 (x2 + 1) c14) ku_Cr_codeCase kw1330 kv_Cr_codeCase rfl (zd_rmI (by decide)) ⟨Nat.le_refl _, Nat.le_refl _⟩ rfl rfl rfl (Nat.le_of_ble_eq_true rfl) kd_Cr_codeBody_128 rfl (c1 := 0) (s1 := 0) rfl rfl (fun v w hp => ?_)
        obtain ⟨rfl, rfl⟩ := hp
        refine zk_stk (r' := []) rfl ?_
        refine zk_goto (tgt := 176) C kd_Cr_codeBody_131 (by decide) ?_
        refine zk_lvs (lv' := [(0, .ref (S.1 47)), (2, .int x2), (3, .int x3), (4, .int x4)]) [0, 1, 2, 3] rfl ?_
        exact zb_Cr_codeBody_176 C hR hr_Cr_codeCase hr_Cr_codeFor hr_Cr_codeIf hk21 h15 x2 x3 x4 e
      replace e := zd_neg b13 e
      by_cases b16 : (h.2.1 13 x3.toNatClampNeg) = 19
      · replace e := zd_pos b16 e
        refine zk_tableIn (tgt := 134) C kd_Cr_codeBody_47 (by rw [b16]; decide) (by rw [b16]; decide) (by rw [b16]; rfl) (by decide) ?_
        refine zk_aload_n C kd_Cr_codeBody_134 rfl 0 rfl rfl ?_
        refine zk_iload_n C kd_Cr_codeBody_135 rfl 2 rfl rfl ?_
        refine zk_iload_n C kd_Cr_codeBody_136 rfl 1 rfl rfl ?_
        refine zk_iconst (v := 1) C kd_Cr_codeBody_137 (by decide) rfl ?_
        refine zk_iadd C kd_Cr_codeBody_138 rfl ?_
        obtain ⟨h18, c17, e⟩ := zd_b e
        refine zs_callV (k := 47) (rn := { frames := 403 + d, cells := 0, slots := 0, locals := 10473 + 30 * d }) (As := [.int x3, .int (x2 + 1)]) (rest := []) C (hr_Cr_codeFor h x3 (x2 + 1) c17) ku_Cr_codeFor kw1338 kv_Cr_codeFor rfl (zd_rmI (by decide)) ⟨Nat.le_refl _, Nat.le_refl _⟩ rfl rfl rfl (Nat.le_of_ble_eq_true rfl) kd_Cr_codeBody_139 rfl (c1 := 0) (s1 := 0) rfl rfl (fun v w hp => ?_)
        obtain ⟨rfl, rfl⟩ := hp
        refine zk_stk (r' := []) rfl ?_
        refine zk_goto (tgt := 176) C kd_Cr_codeBody_142 (by decide) ?_
        refine zk_lvs (lv' := [(0, .ref (S.1 47)), (2, .int x2), (3, .int x3), (4, .int x4)]) [0, 1, 2, 3] rfl ?_
        exact zb_Cr_codeBody_176 C hR hr_Cr_codeCase hr_Cr_codeFor hr_Cr_codeIf hk21 h18 x2 x3 x4 e
      replace e := zd_neg b16 e
      by_cases b19 : (h.2.1 13 x3.toNatClampNeg) = 20
      · replace e := zd_pos b19 e
        refine zk_tableIn (tgt := 145) C kd_Cr_codeBody_47 (by rw [b19]; decide) (by rw [b19]; decide) (by rw [b19]; rfl) (by decide) ?_
        refine zk_aload_n C kd_Cr_codeBody_145 rfl 0 rfl rfl ?_
        refine zk_aload_n C kd_Cr_codeBody_146 rfl 0 rfl rfl ?_
        refine zs_get (v := .ref (S.1 41)) C 47 2 rfl rfl rfl rfl ki_Cr (by decide) kw444 kd_Cr_codeBody_147 rfl ?_
        refine zk_bipush (v := 10) C kd_Cr_codeBody_150 (by decide) rfl ?_
        refine zk_aload_n C kd_Cr_codeBody_152 rfl 0 rfl rfl ?_
        refine zs_get (v := .int (h.1 47 6)) C 47 6 rfl rfl rfl rfl ki_Cr (by decide) kw448 kd_Cr_codeBody_153 rfl ?_
        obtain ⟨v21, h22, c20, e⟩ := zd_Be e
        refine zs_callV (k := 41) (rn := { frames := 0, cells := 0, slots := 0, locals := 0 }) (As := [.int 10, .int (h.1 47 6)]) (rest := [.ref (S.1 47)]) C (zc_Cd_emit h 10 (h.1 47 6) c20) ku_Cd_emit kw1278 kv_Cd_emit rfl (zd_rmO (by decide) (by decide)) ⟨Nat.le_refl _, Nat.le_refl _⟩ rfl rfl rfl (Nat.le_of_ble_eq_true rfl) kd_Cr_codeBody_156 rfl (c1 := 0) (s1 := 0) rfl rfl (fun v w hp => ?_)
        obtain ⟨rfl, rfl⟩ := hp
        refine zk_stk (r' := [.int v21, .ref (S.1 47)]) rfl ?_
        refine zs_put (ty := .int) C 47 6 v21 rfl rfl rfl rfl ki_Cr ky_Cr ko_Cr kn_Cr (by decide) kw448 rfl rfl rfl rfl (by decide) kd_Cr_codeBody_159 rfl ?_
        refine zk_goto (tgt := 176) C kd_Cr_codeBody_162 (by decide) ?_
        refine zk_lvs (lv' := [(0, .ref (S.1 47)), (2, .int x2), (3, .int x3), (4, .int x4)]) [0, 1, 2, 3] rfl ?_
        exact zb_Cr_codeBody_176 C hR hr_Cr_codeCase hr_Cr_codeFor hr_Cr_codeIf hk21 (zs_uF h22 47 6 v21) x2 x3 x4 e
      replace e := zd_neg b19 e
      refine zd_tableD (tgt := 165) C kd_Cr_codeBody_47 (by decide) [12, 13, 15, 16, 19, 20] (by decide +kernel) (by have n0 := lv_neT b4 (a := 12) (by decide); have n1 := lv_neT b7 (a := 13) (by decide); have n2 := lv_neT b10 (a := 15) (by decide); have n3 := lv_neT b13 (a := 16) (by decide); have n4 := lv_neT b16 (a := 19) (by decide); have n5 := lv_neT b19 (a := 20) (by decide); simp only [List.mem_cons, List.not_mem_nil, or_false, not_or]; exact ⟨n0, n1, n2, n3, n4, n5⟩) ?_
      refine zk_aload_n C kd_Cr_codeBody_165 rfl 0 rfl rfl ?_
      refine zs_get (v := .ref (S.1 41)) C 47 2 rfl rfl rfl rfl ki_Cr (by decide) kw444 kd_Cr_codeBody_166 rfl ?_
      refine zk_bipush (v := 18) C kd_Cr_codeBody_169 (by decide) rfl ?_
      refine zk_iconst (v := 0) C kd_Cr_codeBody_171 (by decide) rfl ?_
      obtain ⟨v24, h25, c23, e⟩ := zd_Be e
      refine zs_callV (k := 41) (rn := { frames := 0, cells := 0, slots := 0, locals := 0 }) (As := [.int 18, .int 0]) (rest := []) C (zc_Cd_emit h 18 0 c23) ku_Cd_emit kw1278 kv_Cd_emit rfl (zd_rmO (by decide) (by decide)) ⟨Nat.le_refl _, Nat.le_refl _⟩ rfl rfl rfl (Nat.le_of_ble_eq_true rfl) kd_Cr_codeBody_172 rfl (c1 := 0) (s1 := 0) rfl rfl (fun v w hp => ?_)
      obtain ⟨rfl, rfl⟩ := hp
      refine zk_stk (r' := [.int v24]) rfl ?_
      refine zk_pop C kd_Cr_codeBody_175 rfl rfl ?_
      refine zk_lvs (lv' := [(0, .ref (S.1 47)), (2, .int x2), (3, .int x3), (4, .int x4)]) [0, 1, 2, 3] rfl ?_
      exact zb_Cr_codeBody_176 C hR hr_Cr_codeCase hr_Cr_codeFor hr_Cr_codeIf hk21 h25 x2 x3 x4 e
theorem zl_Cr_codeBody_21 {X : zkj_T} {S : zs_T} {P : ze_T} {l : Launch} {D : va_G} {sz0 : Nat} {d : Nat} {rh : zs_H} (C : zk_C X km_Cr_codeBody (zs_G S l D sz0) { frames := 403 + (d + 1), cells := 0, slots := 0, locals := 10473 + 30 * (d + 1) } (ze_E P)) (hR : zkj_R X (zd_PV S rh) (none)) {r_Cr_codeCase : zs_H → Int32 → Int32 → (Option zs_H)} (hr_Cr_codeCase : ∀ (h : zs_H) (x0 : Int32) (x1 : Int32) {rh : zs_H}, r_Cr_codeCase h x0 x1 = some rh → zk_Sp (zs_G S l D sz0) (ze_E P) km_Cr_codeCase { frames := 403 + d, cells := 0, slots := 0, locals := 10473 + 30 * d } [.ref (S.1 47), .int x0, .int x1] (zs_W S h) (zd_PV S rh)) {r_Cr_codeFor : zs_H → Int32 → Int32 → (Option zs_H)} (hr_Cr_codeFor : ∀ (h : zs_H) (x0 : Int32) (x1 : Int32) {rh : zs_H}, r_Cr_codeFor h x0 x1 = some rh → zk_Sp (zs_G S l D sz0) (ze_E P) km_Cr_codeFor { frames := 403 + d, cells := 0, slots := 0, locals := 10473 + 30 * d } [.ref (S.1 47), .int x0, .int x1] (zs_W S h) (zd_PV S rh)) {r_Cr_codeIf : zs_H → Int32 → Int32 → (Option zs_H)} (hr_Cr_codeIf : ∀ (h : zs_H) (x0 : Int32) (x1 : Int32) {rh : zs_H}, r_Cr_codeIf h x0 x1 = some rh → zk_Sp (zs_G S l D sz0) (ze_E P) km_Cr_codeIf { frames := 403 + d, cells := 0, slots := 0, locals := 10473 + 30 * d } [.ref (S.1 47), .int x0, .int x1] (zs_W S h) (zd_PV S rh)) (n : Nat) : ∀ (h : zs_H) (x2 : Int32) (x3 : Int32) (x4 : Int32), f_Cr_codeBody_L21 r_Cr_codeCase r_Cr_codeFor r_Cr_codeIf n h x2 x3 x4 = some rh → zk_Ab X (zs_W S h) 0 0 21 [(0, .ref (S.1 47)), (2, .int x2), (3, .int x3), (4, .int x4)] [] := by
  induction n with
  | zero => intro h x2 x3 x4 e; exact zd_no e
  | succ n ih => intro h x2 x3 x4 e; exact zb_Cr_codeBody_21 (k21 := f_Cr_codeBody_L21 r_Cr_codeCase r_Cr_codeFor r_Cr_codeIf n) C hR hr_Cr_codeCase hr_Cr_codeFor hr_Cr_codeIf ih h x2 x3 x4 e
set_option maxHeartbeats 4000000 in
set_option maxRecDepth 100000 in
theorem zg_Cr_codeBody {l : Launch} {D : va_G} {sz0 : Nat} {S : zs_T} {P : ze_T} {d : Nat} {r_Cr_codeCase : zs_H → Int32 → Int32 → (Option zs_H)} (hr_Cr_codeCase : ∀ (h : zs_H) (x0 : Int32) (x1 : Int32) {rh : zs_H}, r_Cr_codeCase h x0 x1 = some rh → zk_Sp (zs_G S l D sz0) (ze_E P) km_Cr_codeCase { frames := 403 + d, cells := 0, slots := 0, locals := 10473 + 30 * d } [.ref (S.1 47), .int x0, .int x1] (zs_W S h) (zd_PV S rh)) {r_Cr_codeFor : zs_H → Int32 → Int32 → (Option zs_H)} (hr_Cr_codeFor : ∀ (h : zs_H) (x0 : Int32) (x1 : Int32) {rh : zs_H}, r_Cr_codeFor h x0 x1 = some rh → zk_Sp (zs_G S l D sz0) (ze_E P) km_Cr_codeFor { frames := 403 + d, cells := 0, slots := 0, locals := 10473 + 30 * d } [.ref (S.1 47), .int x0, .int x1] (zs_W S h) (zd_PV S rh)) {r_Cr_codeIf : zs_H → Int32 → Int32 → (Option zs_H)} (hr_Cr_codeIf : ∀ (h : zs_H) (x0 : Int32) (x1 : Int32) {rh : zs_H}, r_Cr_codeIf h x0 x1 = some rh → zk_Sp (zs_G S l D sz0) (ze_E P) km_Cr_codeIf { frames := 403 + d, cells := 0, slots := 0, locals := 10473 + 30 * d } [.ref (S.1 47), .int x0, .int x1] (zs_W S h) (zd_PV S rh)) (h : zs_H) (x1 : Int32) (x2 : Int32) {rh : zs_H} (e : g_Cr_codeBody r_Cr_codeCase r_Cr_codeFor r_Cr_codeIf h x1 x2 = some rh) : zk_Sp (zs_G S l D sz0) (ze_E P) km_Cr_codeBody { frames := 403 + (d + 1), cells := 0, slots := 0, locals := 10473 + 30 * (d + 1) } [.ref (S.1 47), .int x1, .int x2] (zs_W S h) (zd_PV S rh) := by
  refine zk_met ku_Cr_codeBody (Nat.le_of_ble_eq_true rfl) (ze_Em P) ?_
  intro X C hR
  refine zk_lvs (lv' := [(0, .ref (S.1 47)), (1, .int x1), (2, .int x2)]) [0, 1, 2] rfl ?_
  unfold g_Cr_codeBody at e
  refine zk_iload_n C kd_Cr_codeBody_0 rfl 2 rfl rfl ?_
  refine zk_sipush (v := 240) C kd_Cr_codeBody_1 (by decide) rfl ?_
  refine zk_icmp_le (tgt := 8) C kd_Cr_codeBody_4 (by decide) rfl (fun b1 => ?_) (fun b1 => ?_)
  · replace e := zd_pos b1 e
    refine zk_aload_n C kd_Cr_codeBody_8 rfl 0 rfl rfl ?_
    refine zs_get (v := .ref (S.1 12)) C 47 0 rfl rfl rfl rfl ki_Cr (by decide) kw442 kd_Cr_codeBody_9 rfl ?_
    refine zs_get (v := .ref (S.1 17)) C 12 4 rfl rfl rfl rfl ki_Tr (by decide) kw171 kd_Cr_codeBody_12 rfl ?_
    refine zk_iload_n C kd_Cr_codeBody_15 rfl 1 rfl rfl ?_
    obtain ⟨q2, e⟩ := zd_g e
    refine zs_iald C 17 rfl (zd_vp q2) kd_Cr_codeBody_16 rfl ?_
    refine zk_istore_n (lv' := [(3, _), (0, _), (1, _), (2, _)]) C kd_Cr_codeBody_17 rfl (by decide) rfl rfl ?_
    refine zk_iconst (v := 0) C kd_Cr_codeBody_18 (by decide) rfl ?_
    refine zk_istore (lv' := [(4, _), (3, _), (0, _), (1, _), (2, _)]) C kd_Cr_codeBody_19 (by decide) rfl rfl ?_
    refine zk_lvs (lv' := [(0, .ref (S.1 47)), (2, .int x2), (3, .int (h.2.1 17 x1.toNatClampNeg)), (4, .int 0)]) [2, 4, 1, 0] rfl ?_
    exact zl_Cr_codeBody_21 C hR hr_Cr_codeCase hr_Cr_codeFor hr_Cr_codeIf zF h x2 (h.2.1 17 x1.toNatClampNeg) 0 e
  · replace e := zd_neg b1 e
    exact zk_vret C hR kd_Cr_codeBody_7 rfl rfl (zd_rV e)
set_option maxHeartbeats 4000000 in
set_option maxRecDepth 100000 in
theorem zb_Cr_codeBranch_39 {X : zkj_T} {S : zs_T} {P : ze_T} {l : Launch} {D : va_G} {sz0 : Nat} {d : Nat} {rv : Int32} {rh : zs_H} (C : zk_C X km_Cr_codeBranch (zs_G S l D sz0) { frames := 403 + (d + 1), cells := 0, slots := 0, locals := 10473 + 30 * (d + 1) } (ze_E P)) (hR : zkj_R X (zd_PI S rv rh) (some .int)) (h : zs_H) (x5 : Int32) (y0 : Int32) (e : f_Cr_codeBranch_39 h x5 y0 = some (rv, rh)) : zk_Ab X (zs_W S h) 0 0 39 [(0, .ref (S.1 47)), (5, .int x5)] [.int y0] := by
  unfold f_Cr_codeBranch_39 at e
  refine zk_istore (lv' := [(6, _), (0, _), (5, _)]) C kd_Cr_codeBranch_39 (by decide) rfl rfl ?_
  refine zk_aload_n C kd_Cr_codeBranch_41 rfl 1 rfl rfl ?_
  refine zs_get (v := .ref (S.1 41)) C 47 2 rfl rfl rfl rfl ki_Cr (by decide) kw444 kd_Cr_codeBranch_42 rfl ?_
  refine zk_iload C kd_Cr_codeBranch_45 2 rfl rfl ?_
  obtain ⟨h2, c1, e⟩ := zd_b e
  refine zs_callV (k := 41) (rn := { frames := 0, cells := 0, slots := 0, locals := 0 }) (As := [.int x5]) (rest := []) C (zc_Cd_joinHere h x5 c1) ku_Cd_joinHere kw1326 kv_Cd_joinHere rfl (zd_rmO (by decide) (by decide)) ⟨Nat.le_refl _, Nat.le_refl _⟩ rfl rfl rfl (Nat.le_of_ble_eq_true rfl) kd_Cr_codeBranch_47 rfl (c1 := 0) (s1 := 0) rfl rfl (fun v w hp => ?_)
  obtain ⟨rfl, rfl⟩ := hp
  refine zk_stk (r' := []) rfl ?_
  refine zk_iload C kd_Cr_codeBranch_50 0 rfl rfl ?_
  exact zk_iret C hR kd_Cr_codeBranch_52 rfl rfl (zd_rIS e)
set_option maxHeartbeats 4000000 in
set_option maxRecDepth 100000 in
theorem zg_Cr_codeBranch {l : Launch} {D : va_G} {sz0 : Nat} {S : zs_T} {P : ze_T} {d : Nat} {r_Cr_codeBody : zs_H → Int32 → Int32 → (Option zs_H)} (hr_Cr_codeBody : ∀ (h : zs_H) (x0 : Int32) (x1 : Int32) {rh : zs_H}, r_Cr_codeBody h x0 x1 = some rh → zk_Sp (zs_G S l D sz0) (ze_E P) km_Cr_codeBody { frames := 403 + d, cells := 0, slots := 0, locals := 10473 + 30 * d } [.ref (S.1 47), .int x0, .int x1] (zs_W S h) (zd_PV S rh)) (h : zs_H) (x1 : Int32) (x2 : Int32) (x3 : Int32) (x4 : Int32) {rv : Int32} {rh : zs_H} (e : g_Cr_codeBranch r_Cr_codeBody h x1 x2 x3 x4 = some (rv, rh)) : zk_Sp (zs_G S l D sz0) (ze_E P) km_Cr_codeBranch { frames := 403 + (d + 1), cells := 0, slots := 0, locals := 10473 + 30 * (d + 1) } [.ref (S.1 47), .int x1, .int x2, .int x3, .int x4] (zs_W S h) (zd_PI S rv rh) := by
  refine zk_met ku_Cr_codeBranch (Nat.le_of_ble_eq_true rfl) (ze_Em P) ?_
  intro X C hR
  refine zk_lvs (lv' := [(0, .ref (S.1 47)), (1, .int x1), (2, .int x2), (3, .int x3), (4, .int x4)]) [0, 1, 2, 3, 4] rfl ?_
  unfold g_Cr_codeBranch at e
  refine zk_aload_n C kd_Cr_codeBranch_0 rfl 0 rfl rfl ?_
  refine zs_get (v := .ref (S.1 41)) C 47 2 rfl rfl rfl rfl ki_Cr (by decide) kw444 kd_Cr_codeBranch_1 rfl ?_
  refine zk_bipush (v := 11) C kd_Cr_codeBranch_4 (by decide) rfl ?_
  refine zk_iconst (v := (-1)) C kd_Cr_codeBranch_6 (by decide) rfl ?_
  obtain ⟨v2, h3, c1, e⟩ := zd_Be e
  refine zs_callV (k := 41) (rn := { frames := 0, cells := 0, slots := 0, locals := 0 }) (As := [.int 11, .int (-1)]) (rest := []) C (zc_Cd_emit h 11 (-1) c1) ku_Cd_emit kw1278 kv_Cd_emit rfl (zd_rmO (by decide) (by decide)) ⟨Nat.le_refl _, Nat.le_refl _⟩ rfl rfl rfl (Nat.le_of_ble_eq_true rfl) kd_Cr_codeBranch_7 rfl (c1 := 0) (s1 := 0) rfl rfl (fun v w hp => ?_)
  obtain ⟨rfl, rfl⟩ := hp
  refine zk_stk (r' := [.int v2]) rfl ?_
  refine zk_istore (lv' := [(5, _), (0, _), (1, _), (2, _), (3, _), (4, _)]) C kd_Cr_codeBranch_10 (by decide) rfl rfl ?_
  refine zk_aload_n C kd_Cr_codeBranch_12 rfl 1 rfl rfl ?_
  refine zk_iload_n C kd_Cr_codeBranch_13 rfl 2 rfl rfl ?_
  refine zk_iload C kd_Cr_codeBranch_14 5 rfl rfl ?_
  refine zk_iconst (v := 1) C kd_Cr_codeBranch_16 (by decide) rfl ?_
  refine zk_iadd C kd_Cr_codeBranch_17 rfl ?_
  obtain ⟨h5, c4, e⟩ := zd_b e
  refine zs_callV (k := 47) (rn := { frames := 403 + d, cells := 0, slots := 0, locals := 10473 + 30 * d }) (As := [.int x1, .int (x4 + 1)]) (rest := []) C (hr_Cr_codeBody h3 x1 (x4 + 1) c4) ku_Cr_codeBody kw1282 kv_Cr_codeBody rfl (zd_rmI (by decide)) ⟨Nat.le_refl _, Nat.le_refl _⟩ rfl rfl rfl (Nat.le_of_ble_eq_true rfl) kd_Cr_codeBranch_18 rfl (c1 := 0) (s1 := 0) rfl rfl (fun v w hp => ?_)
  obtain ⟨rfl, rfl⟩ := hp
  refine zk_stk (r' := []) rfl ?_
  refine zk_iload_n C kd_Cr_codeBranch_21 rfl 3 rfl rfl ?_
  refine zk_if_eq (tgt := 29) C kd_Cr_codeBranch_22 (by decide) rfl (fun b6 => ?_) (fun b6 => ?_)
  · replace e := zd_pos b6 e
    refine zk_aload_n C kd_Cr_codeBranch_29 rfl 1 rfl rfl ?_
    refine zs_get (v := .ref (S.1 41)) C 47 2 rfl rfl rfl rfl ki_Cr (by decide) kw444 kd_Cr_codeBranch_30 rfl ?_
    refine zk_bipush (v := 10) C kd_Cr_codeBranch_33 (by decide) rfl ?_
    refine zk_iload_n C kd_Cr_codeBranch_35 rfl 4 rfl rfl ?_
    obtain ⟨v8, h9, c7, e⟩ := zd_Be e
    refine zs_callV (k := 41) (rn := { frames := 0, cells := 0, slots := 0, locals := 0 }) (As := [.int 10, .int x3]) (rest := []) C (zc_Cd_emit h5 10 x3 c7) ku_Cd_emit kw1278 kv_Cd_emit rfl (zd_rmO (by decide) (by decide)) ⟨Nat.le_refl _, Nat.le_refl _⟩ rfl rfl rfl (Nat.le_of_ble_eq_true rfl) kd_Cr_codeBranch_36 rfl (c1 := 0) (s1 := 0) rfl rfl (fun v w hp => ?_)
    obtain ⟨rfl, rfl⟩ := hp
    refine zk_stk (r' := [.int v8]) rfl ?_
    refine zk_lvs (lv' := [(0, .ref (S.1 47)), (5, .int v2)]) [1, 0] rfl ?_
    exact zb_Cr_codeBranch_39 C hR h9 v2 v8 e
  · replace e := zd_neg b6 e
    refine zk_iload_n C kd_Cr_codeBranch_25 rfl 4 rfl rfl ?_
    refine zk_goto (tgt := 39) C kd_Cr_codeBranch_26 (by decide) ?_
    refine zk_lvs (lv' := [(0, .ref (S.1 47)), (5, .int v2)]) [1, 0] rfl ?_
    exact zb_Cr_codeBranch_39 C hR h5 v2 x3 e
set_option maxHeartbeats 4000000 in
set_option maxRecDepth 100000 in
theorem zb_Cr_codeCase_145 {X : zkj_T} {S : zs_T} {P : ze_T} {l : Launch} {D : va_G} {sz0 : Nat} {d : Nat} {rh : zs_H} (C : zk_C X km_Cr_codeCase (zs_G S l D sz0) { frames := 403 + (d + 1), cells := 0, slots := 0, locals := 10473 + 30 * (d + 1) } (ze_E P)) (hR : zkj_R X (zd_PV S rh) (none)) {r_Cr_codeBody : zs_H → Int32 → Int32 → (Option zs_H)} (hr_Cr_codeBody : ∀ (h : zs_H) (x0 : Int32) (x1 : Int32) {rh : zs_H}, r_Cr_codeBody h x0 x1 = some rh → zk_Sp (zs_G S l D sz0) (ze_E P) km_Cr_codeBody { frames := 403 + d, cells := 0, slots := 0, locals := 10473 + 30 * d } [.ref (S.1 47), .int x0, .int x1] (zs_W S h) (zd_PV S rh)) {r_Cr_codeBranch : zs_H → Int32 → Int32 → Int32 → Int32 → (Option (Int32 × zs_H))} (hr_Cr_codeBranch : ∀ (h : zs_H) (x0 : Int32) (x1 : Int32) (x2 : Int32) (x3 : Int32) {rv : Int32} {rh : zs_H}, r_Cr_codeBranch h x0 x1 x2 x3 = some (rv, rh) → zk_Sp (zs_G S l D sz0) (ze_E P) km_Cr_codeBranch { frames := 403 + d, cells := 0, slots := 0, locals := 10473 + 30 * d } [.ref (S.1 47), .int x0, .int x1, .int x2, .int x3] (zs_W S h) (zd_PI S rv rh)) {k61 : zs_H → Int32 → Int32 → Int32 → Int32 → Int32 → (Option zs_H)} (hk61 : ∀ (h : zs_H) (x2 : Int32) (x3 : Int32) (x4 : Int32) (x5 : Int32) (x6 : Int32), k61 h x2 x3 x4 x5 x6 = some rh → zk_Ab X (zs_W S h) 0 0 61 [(0, .ref (S.1 47)), (2, .int x2), (3, .int x3), (4, .int x4), (5, .int x5), (6, .int x6)] []) (h : zs_H) (x2 : Int32) (x3 : Int32) (x4 : Int32) (x5 : Int32) (x6 : Int32) (e : f_Cr_codeCase_145 r_Cr_codeBody r_Cr_codeBranch k61 h x2 x3 x4 x5 x6 = some rh) : zk_Ab X (zs_W S h) 0 0 145 [(0, .ref (S.1 47)), (2, .int x2), (3, .int x3), (4, .int x4), (5, .int x5), (6, .int x6)] [] := by
  unfold f_Cr_codeCase_145 at e
  refine zk_aload_n C kd_Cr_codeCase_145 rfl 0 rfl rfl ?_
  refine zs_get (v := .ref (S.1 12)) C 47 0 rfl rfl rfl rfl ki_Cr (by decide) kw442 kd_Cr_codeCase_146 rfl ?_
  refine zs_get (v := .ref (S.1 18)) C 12 5 rfl rfl rfl rfl ki_Tr (by decide) kw174 kd_Cr_codeCase_149 rfl ?_
  refine zk_iload C kd_Cr_codeCase_152 3 rfl rfl ?_
  obtain ⟨q1, e⟩ := zd_g e
  refine zs_iald C 18 rfl (zd_vp q1) kd_Cr_codeCase_154 rfl ?_
  refine zk_istore (lv' := [(4, _), (0, _), (2, _), (3, _), (5, _), (6, _)]) C kd_Cr_codeCase_155 (by decide) rfl rfl ?_
  refine zk_iinc (v := (x6 + 1)) (lv' := [(6, _), (4, _), (0, _), (2, _), (3, _), (5, _)]) C kd_Cr_codeCase_157 5 rfl rfl (by decide) rfl rfl ?_
  refine zk_goto (tgt := 61) C kd_Cr_codeCase_160 (by decide) ?_
  refine zk_lvs (lv' := [(0, .ref (S.1 47)), (2, .int x2), (3, .int x3), (4, .int (h.2.1 18 x4.toNatClampNeg)), (5, .int x5), (6, .int (x6 + 1))]) [2, 3, 4, 1, 5, 0] rfl ?_
  exact hk61 h x2 x3 (h.2.1 18 x4.toNatClampNeg) x5 (x6 + 1) e
set_option maxHeartbeats 4000000 in
set_option maxRecDepth 100000 in
theorem zb_Cr_codeCase_137 {X : zkj_T} {S : zs_T} {P : ze_T} {l : Launch} {D : va_G} {sz0 : Nat} {d : Nat} {rh : zs_H} (C : zk_C X km_Cr_codeCase (zs_G S l D sz0) { frames := 403 + (d + 1), cells := 0, slots := 0, locals := 10473 + 30 * (d + 1) } (ze_E P)) (hR : zkj_R X (zd_PV S rh) (none)) {r_Cr_codeBody : zs_H → Int32 → Int32 → (Option zs_H)} (hr_Cr_codeBody : ∀ (h : zs_H) (x0 : Int32) (x1 : Int32) {rh : zs_H}, r_Cr_codeBody h x0 x1 = some rh → zk_Sp (zs_G S l D sz0) (ze_E P) km_Cr_codeBody { frames := 403 + d, cells := 0, slots := 0, locals := 10473 + 30 * d } [.ref (S.1 47), .int x0, .int x1] (zs_W S h) (zd_PV S rh)) {r_Cr_codeBranch : zs_H → Int32 → Int32 → Int32 → Int32 → (Option (Int32 × zs_H))} (hr_Cr_codeBranch : ∀ (h : zs_H) (x0 : Int32) (x1 : Int32) (x2 : Int32) (x3 : Int32) {rv : Int32} {rh : zs_H}, r_Cr_codeBranch h x0 x1 x2 x3 = some (rv, rh) → zk_Sp (zs_G S l D sz0) (ze_E P) km_Cr_codeBranch { frames := 403 + d, cells := 0, slots := 0, locals := 10473 + 30 * d } [.ref (S.1 47), .int x0, .int x1, .int x2, .int x3] (zs_W S h) (zd_PI S rv rh)) {k61 : zs_H → Int32 → Int32 → Int32 → Int32 → Int32 → (Option zs_H)} (hk61 : ∀ (h : zs_H) (x2 : Int32) (x3 : Int32) (x4 : Int32) (x5 : Int32) (x6 : Int32), k61 h x2 x3 x4 x5 x6 = some rh → zk_Ab X (zs_W S h) 0 0 61 [(0, .ref (S.1 47)), (2, .int x2), (3, .int x3), (4, .int x4), (5, .int x5), (6, .int x6)] []) (h : zs_H) (x2 : Int32) (x3 : Int32) (x4 : Int32) (x5 : Int32) (x6 : Int32) (y0 : Int32) (y1 : Int32) (e : f_Cr_codeCase_137 r_Cr_codeBody r_Cr_codeBranch k61 h x2 x3 x4 x5 x6 y0 y1 = some rh) : zk_Ab X (zs_W S h) 0 0 137 [(0, .ref (S.1 47)), (2, .int x2), (3, .int x3), (4, .int x4), (5, .int x5), (6, .int x6)] [.int y0, .int y1, .ref (S.1 47)] := by
  unfold f_Cr_codeCase_137 at e
  refine zk_iload C kd_Cr_codeCase_137 4 rfl rfl ?_
  refine zk_iload_n C kd_Cr_codeCase_139 rfl 1 rfl rfl ?_
  obtain ⟨v2, h3, c1, e⟩ := zd_Be e
  refine zs_callV (k := 47) (rn := { frames := 403 + d, cells := 0, slots := 0, locals := 10473 + 30 * d }) (As := [.int y1, .int y0, .int x5, .int x2]) (rest := []) C (hr_Cr_codeBranch h y1 y0 x5 x2 c1) ku_Cr_codeBranch kw1322 kv_Cr_codeBranch rfl (zd_rmI (by decide)) ⟨Nat.le_refl _, Nat.le_refl _⟩ rfl rfl rfl (Nat.le_of_ble_eq_true rfl) kd_Cr_codeCase_140 rfl (c1 := 0) (s1 := 0) rfl rfl (fun v w hp => ?_)
  obtain ⟨rfl, rfl⟩ := hp
  refine zk_stk (r' := [.int v2]) rfl ?_
  refine zk_istore (lv' := [(5, _), (0, _), (2, _), (3, _), (4, _), (6, _)]) C kd_Cr_codeCase_143 (by decide) rfl rfl ?_
  refine zk_lvs (lv' := [(0, .ref (S.1 47)), (2, .int x2), (3, .int x3), (4, .int x4), (5, .int v2), (6, .int x6)]) [1, 2, 3, 4, 0, 5] rfl ?_
  exact zb_Cr_codeCase_145 C hR hr_Cr_codeBody hr_Cr_codeBranch hk61 h3 x2 x3 x4 v2 x6 e
set_option maxHeartbeats 4000000 in
set_option maxRecDepth 100000 in
theorem zb_Cr_codeCase_163 {X : zkj_T} {S : zs_T} {P : ze_T} {l : Launch} {D : va_G} {sz0 : Nat} {d : Nat} {rh : zs_H} (C : zk_C X km_Cr_codeCase (zs_G S l D sz0) { frames := 403 + (d + 1), cells := 0, slots := 0, locals := 10473 + 30 * (d + 1) } (ze_E P)) (hR : zkj_R X (zd_PV S rh) (none)) (h : zs_H) (x5 : Int32) (e : f_Cr_codeCase_163 h x5 = some rh) : zk_Ab X (zs_W S h) 0 0 163 [(0, .ref (S.1 47)), (5, .int x5)] [] := by
  unfold f_Cr_codeCase_163 at e
  refine zk_aload_n C kd_Cr_codeCase_163 rfl 0 rfl rfl ?_
  refine zs_get (v := .ref (S.1 41)) C 47 2 rfl rfl rfl rfl ki_Cr (by decide) kw444 kd_Cr_codeCase_164 rfl ?_
  refine zk_iload C kd_Cr_codeCase_167 1 rfl rfl ?_
  obtain ⟨h2, c1, e⟩ := zd_b e
  refine zs_callV (k := 41) (rn := { frames := 0, cells := 0, slots := 0, locals := 0 }) (As := [.int x5]) (rest := []) C (zc_Cd_joinHere h x5 c1) ku_Cd_joinHere kw1326 kv_Cd_joinHere rfl (zd_rmO (by decide) (by decide)) ⟨Nat.le_refl _, Nat.le_refl _⟩ rfl rfl rfl (Nat.le_of_ble_eq_true rfl) kd_Cr_codeCase_169 rfl (c1 := 0) (s1 := 0) rfl rfl (fun v w hp => ?_)
  obtain ⟨rfl, rfl⟩ := hp
  refine zk_stk (r' := []) rfl ?_
  exact zk_vret C hR kd_Cr_codeCase_172 rfl rfl (zd_rV e)
set_option maxHeartbeats 4000000 in
set_option maxRecDepth 100000 in
theorem zb_Cr_codeCase_61 {X : zkj_T} {S : zs_T} {P : ze_T} {l : Launch} {D : va_G} {sz0 : Nat} {d : Nat} {rh : zs_H} (C : zk_C X km_Cr_codeCase (zs_G S l D sz0) { frames := 403 + (d + 1), cells := 0, slots := 0, locals := 10473 + 30 * (d + 1) } (ze_E P)) (hR : zkj_R X (zd_PV S rh) (none)) {r_Cr_codeBody : zs_H → Int32 → Int32 → (Option zs_H)} (hr_Cr_codeBody : ∀ (h : zs_H) (x0 : Int32) (x1 : Int32) {rh : zs_H}, r_Cr_codeBody h x0 x1 = some rh → zk_Sp (zs_G S l D sz0) (ze_E P) km_Cr_codeBody { frames := 403 + d, cells := 0, slots := 0, locals := 10473 + 30 * d } [.ref (S.1 47), .int x0, .int x1] (zs_W S h) (zd_PV S rh)) {r_Cr_codeBranch : zs_H → Int32 → Int32 → Int32 → Int32 → (Option (Int32 × zs_H))} (hr_Cr_codeBranch : ∀ (h : zs_H) (x0 : Int32) (x1 : Int32) (x2 : Int32) (x3 : Int32) {rv : Int32} {rh : zs_H}, r_Cr_codeBranch h x0 x1 x2 x3 = some (rv, rh) → zk_Sp (zs_G S l D sz0) (ze_E P) km_Cr_codeBranch { frames := 403 + d, cells := 0, slots := 0, locals := 10473 + 30 * d } [.ref (S.1 47), .int x0, .int x1, .int x2, .int x3] (zs_W S h) (zd_PI S rv rh)) {k61 : zs_H → Int32 → Int32 → Int32 → Int32 → Int32 → (Option zs_H)} (hk61 : ∀ (h : zs_H) (x2 : Int32) (x3 : Int32) (x4 : Int32) (x5 : Int32) (x6 : Int32), k61 h x2 x3 x4 x5 x6 = some rh → zk_Ab X (zs_W S h) 0 0 61 [(0, .ref (S.1 47)), (2, .int x2), (3, .int x3), (4, .int x4), (5, .int x5), (6, .int x6)] []) (h : zs_H) (x2 : Int32) (x3 : Int32) (x4 : Int32) (x5 : Int32) (x6 : Int32) (e : f_Cr_codeCase_61 r_Cr_codeBody r_Cr_codeBranch k61 h x2 x3 x4 x5 x6 = some rh) : zk_Ab X (zs_W S h) 0 0 61 [(0, .ref (S.1 47)), (2, .int x2), (3, .int x3), (4, .int x4), (5, .int x5), (6, .int x6)] [] := by
  unfold f_Cr_codeCase_61 at e
  refine zk_iload C kd_Cr_codeCase_61 5 rfl rfl ?_
  refine zk_aload_n C kd_Cr_codeCase_63 rfl 0 rfl rfl ?_
  refine zs_get (v := .ref (S.1 12)) C 47 0 rfl rfl rfl rfl ki_Cr (by decide) kw442 kd_Cr_codeCase_64 rfl ?_
  refine zs_get (v := .int (h.1 12 6)) C 12 6 rfl rfl rfl rfl ki_Tr (by decide) kw178 kd_Cr_codeCase_67 rfl ?_
  refine zk_icmp_ge (tgt := 163) C kd_Cr_codeCase_70 (by decide) rfl (fun b1 => ?_) (fun b1 => ?_)
  · replace e := zd_pos b1 e
    refine zk_lvs (lv' := [(0, .ref (S.1 47)), (5, .int x5)]) [0, 4] rfl ?_
    exact zb_Cr_codeCase_163 C hR h x5 e
  · replace e := zd_neg b1 e
    refine zk_iload C kd_Cr_codeCase_73 3 rfl rfl ?_
    refine zk_iconst (v := (-1)) C kd_Cr_codeCase_75 (by decide) rfl ?_
    refine zk_icmp_eq (tgt := 163) C kd_Cr_codeCase_76 (by decide) rfl (fun b2 => ?_) (fun b2 => ?_)
    · replace e := zd_pos b2 e
      refine zk_lvs (lv' := [(0, .ref (S.1 47)), (5, .int x5)]) [0, 4] rfl ?_
      exact zb_Cr_codeCase_163 C hR h x5 e
    · replace e := zd_neg b2 e
      refine zk_aload_n C kd_Cr_codeCase_79 rfl 0 rfl rfl ?_
      refine zs_get (v := .ref (S.1 12)) C 47 0 rfl rfl rfl rfl ki_Cr (by decide) kw442 kd_Cr_codeCase_80 rfl ?_
      refine zs_get (v := .ref (S.1 13)) C 12 0 rfl rfl rfl rfl ki_Tr (by decide) kw156 kd_Cr_codeCase_83 rfl ?_
      refine zk_iload C kd_Cr_codeCase_86 3 rfl rfl ?_
      obtain ⟨q3, e⟩ := zd_g e
      refine zs_bald C 13 rfl (zd_vp q3) kd_Cr_codeCase_88 rfl ?_
      refine zk_bipush (v := 11) C kd_Cr_codeCase_89 (by decide) rfl ?_
      refine zk_icmp_ne (tgt := 106) C kd_Cr_codeCase_91 (by decide) rfl (fun b4 => ?_) (fun b4 => ?_)
      · replace e := zd_neg b4 e
        refine zk_aload_n C kd_Cr_codeCase_106 rfl 0 rfl rfl ?_
        refine zk_iload C kd_Cr_codeCase_107 3 rfl rfl ?_
        refine zk_iload_n C kd_Cr_codeCase_109 rfl 2 rfl rfl ?_
        obtain ⟨v6, h7, c5, e⟩ := zd_Be e
        refine zs_callV (k := 47) (rn := { frames := 1, cells := 0, slots := 0, locals := 23 }) (As := [.int x4, .int x3]) (rest := []) C (zc_Cr_codeRanges h x4 x3 c5) ku_Cr_codeRanges kw1334 kv_Cr_codeRanges rfl (zd_rmO (by decide) (by decide)) ⟨Nat.le_refl _, Nat.le_refl _⟩ rfl rfl rfl (Nat.le_of_ble_eq_true rfl) kd_Cr_codeCase_110 rfl (c1 := 0) (s1 := 0) rfl rfl (fun v w hp => ?_)
        obtain ⟨rfl, rfl⟩ := hp
        refine zk_stk (r' := [.int v6]) rfl ?_
        refine zk_istore (lv' := [(7, _), (0, _), (2, _), (3, _), (4, _), (5, _), (6, _)]) C kd_Cr_codeCase_113 (by decide) rfl rfl ?_
        refine zk_aload_n C kd_Cr_codeCase_115 rfl 1 rfl rfl ?_
        refine zk_iload C kd_Cr_codeCase_116 0 rfl rfl ?_
        refine zk_aload_n C kd_Cr_codeCase_118 rfl 1 rfl rfl ?_
        refine zs_get (v := .ref (S.1 12)) C 47 0 rfl rfl rfl rfl ki_Cr (by decide) kw442 kd_Cr_codeCase_119 rfl ?_
        refine zs_get (v := .ref (S.1 18)) C 12 5 rfl rfl rfl rfl ki_Tr (by decide) kw174 kd_Cr_codeCase_122 rfl ?_
        refine zk_iload C kd_Cr_codeCase_125 4 rfl rfl ?_
        obtain ⟨q8, e⟩ := zd_g e
        refine zs_iald C 18 rfl (zd_vp q8) kd_Cr_codeCase_127 rfl ?_
        refine zk_iconst (v := (-1)) C kd_Cr_codeCase_128 (by decide) rfl ?_
        refine zk_icmp_ne (tgt := 136) C kd_Cr_codeCase_129 (by decide) rfl (fun b9 => ?_) (fun b9 => ?_)
        · replace e := zd_neg b9 e
          refine zk_iconst (v := 0) C kd_Cr_codeCase_136 (by decide) rfl ?_
          refine zk_lvs (lv' := [(0, .ref (S.1 47)), (2, .int x2), (3, .int x3), (4, .int x4), (5, .int x5), (6, .int x6)]) [1, 2, 3, 4, 5, 6] rfl ?_
          exact zb_Cr_codeCase_137 C hR hr_Cr_codeBody hr_Cr_codeBranch hk61 h7 x2 x3 x4 x5 x6 0 v6 e
        · replace e := zd_pos b9 e
          refine zk_iconst (v := 1) C kd_Cr_codeCase_132 (by decide) rfl ?_
          refine zk_goto (tgt := 137) C kd_Cr_codeCase_133 (by decide) ?_
          refine zk_lvs (lv' := [(0, .ref (S.1 47)), (2, .int x2), (3, .int x3), (4, .int x4), (5, .int x5), (6, .int x6)]) [1, 2, 3, 4, 5, 6] rfl ?_
          exact zb_Cr_codeCase_137 C hR hr_Cr_codeBody hr_Cr_codeBranch hk61 h7 x2 x3 x4 x5 x6 1 v6 e
      · replace e := zd_pos b4 e
        refine zk_aload_n C kd_Cr_codeCase_94 rfl 0 rfl rfl ?_
        refine zk_iload C kd_Cr_codeCase_95 3 rfl rfl ?_
        refine zk_iload_n C kd_Cr_codeCase_97 rfl 1 rfl rfl ?_
        refine zk_iconst (v := 1) C kd_Cr_codeCase_98 (by decide) rfl ?_
        refine zk_iadd C kd_Cr_codeCase_99 rfl ?_
        obtain ⟨h11, c10, e⟩ := zd_b e
        refine zs_callV (k := 47) (rn := { frames := 403 + d, cells := 0, slots := 0, locals := 10473 + 30 * d }) (As := [.int x4, .int (x2 + 1)]) (rest := []) C (hr_Cr_codeBody h x4 (x2 + 1) c10) ku_Cr_codeBody kw1282 kv_Cr_codeBody rfl (zd_rmI (by decide)) ⟨Nat.le_refl _, Nat.le_refl _⟩ rfl rfl rfl (Nat.le_of_ble_eq_true rfl) kd_Cr_codeCase_100 rfl (c1 := 0) (s1 := 0) rfl rfl (fun v w hp => ?_)
        obtain ⟨rfl, rfl⟩ := hp
        refine zk_stk (r' := []) rfl ?_
        refine zk_goto (tgt := 145) C kd_Cr_codeCase_103 (by decide) ?_
        refine zk_lvs (lv' := [(0, .ref (S.1 47)), (2, .int x2), (3, .int x3), (4, .int x4), (5, .int x5), (6, .int x6)]) [0, 1, 2, 3, 4, 5] rfl ?_
        exact zb_Cr_codeCase_145 C hR hr_Cr_codeBody hr_Cr_codeBranch hk61 h11 x2 x3 x4 x5 x6 e
theorem zl_Cr_codeCase_61 {X : zkj_T} {S : zs_T} {P : ze_T} {l : Launch} {D : va_G} {sz0 : Nat} {d : Nat} {rh : zs_H} (C : zk_C X km_Cr_codeCase (zs_G S l D sz0) { frames := 403 + (d + 1), cells := 0, slots := 0, locals := 10473 + 30 * (d + 1) } (ze_E P)) (hR : zkj_R X (zd_PV S rh) (none)) {r_Cr_codeBody : zs_H → Int32 → Int32 → (Option zs_H)} (hr_Cr_codeBody : ∀ (h : zs_H) (x0 : Int32) (x1 : Int32) {rh : zs_H}, r_Cr_codeBody h x0 x1 = some rh → zk_Sp (zs_G S l D sz0) (ze_E P) km_Cr_codeBody { frames := 403 + d, cells := 0, slots := 0, locals := 10473 + 30 * d } [.ref (S.1 47), .int x0, .int x1] (zs_W S h) (zd_PV S rh)) {r_Cr_codeBranch : zs_H → Int32 → Int32 → Int32 → Int32 → (Option (Int32 × zs_H))} (hr_Cr_codeBranch : ∀ (h : zs_H) (x0 : Int32) (x1 : Int32) (x2 : Int32) (x3 : Int32) {rv : Int32} {rh : zs_H}, r_Cr_codeBranch h x0 x1 x2 x3 = some (rv, rh) → zk_Sp (zs_G S l D sz0) (ze_E P) km_Cr_codeBranch { frames := 403 + d, cells := 0, slots := 0, locals := 10473 + 30 * d } [.ref (S.1 47), .int x0, .int x1, .int x2, .int x3] (zs_W S h) (zd_PI S rv rh)) (n : Nat) : ∀ (h : zs_H) (x2 : Int32) (x3 : Int32) (x4 : Int32) (x5 : Int32) (x6 : Int32), f_Cr_codeCase_L61 r_Cr_codeBody r_Cr_codeBranch n h x2 x3 x4 x5 x6 = some rh → zk_Ab X (zs_W S h) 0 0 61 [(0, .ref (S.1 47)), (2, .int x2), (3, .int x3), (4, .int x4), (5, .int x5), (6, .int x6)] [] := by
  induction n with
  | zero => intro h x2 x3 x4 x5 x6 e; exact zd_no e
  | succ n ih => intro h x2 x3 x4 x5 x6 e; exact zb_Cr_codeCase_61 (k61 := f_Cr_codeCase_L61 r_Cr_codeBody r_Cr_codeBranch n) C hR hr_Cr_codeBody hr_Cr_codeBranch ih h x2 x3 x4 x5 x6 e
set_option maxHeartbeats 4000000 in
set_option maxRecDepth 100000 in
theorem zg_Cr_codeCase {l : Launch} {D : va_G} {sz0 : Nat} {S : zs_T} {P : ze_T} {d : Nat} {r_Cr_codeBody : zs_H → Int32 → Int32 → (Option zs_H)} (hr_Cr_codeBody : ∀ (h : zs_H) (x0 : Int32) (x1 : Int32) {rh : zs_H}, r_Cr_codeBody h x0 x1 = some rh → zk_Sp (zs_G S l D sz0) (ze_E P) km_Cr_codeBody { frames := 403 + d, cells := 0, slots := 0, locals := 10473 + 30 * d } [.ref (S.1 47), .int x0, .int x1] (zs_W S h) (zd_PV S rh)) {r_Cr_codeBranch : zs_H → Int32 → Int32 → Int32 → Int32 → (Option (Int32 × zs_H))} (hr_Cr_codeBranch : ∀ (h : zs_H) (x0 : Int32) (x1 : Int32) (x2 : Int32) (x3 : Int32) {rv : Int32} {rh : zs_H}, r_Cr_codeBranch h x0 x1 x2 x3 = some (rv, rh) → zk_Sp (zs_G S l D sz0) (ze_E P) km_Cr_codeBranch { frames := 403 + d, cells := 0, slots := 0, locals := 10473 + 30 * d } [.ref (S.1 47), .int x0, .int x1, .int x2, .int x3] (zs_W S h) (zd_PI S rv rh)) (h : zs_H) (x1 : Int32) (x2 : Int32) {rh : zs_H} (e : g_Cr_codeCase r_Cr_codeBody r_Cr_codeBranch h x1 x2 = some rh) : zk_Sp (zs_G S l D sz0) (ze_E P) km_Cr_codeCase { frames := 403 + (d + 1), cells := 0, slots := 0, locals := 10473 + 30 * (d + 1) } [.ref (S.1 47), .int x1, .int x2] (zs_W S h) (zd_PV S rh) := by
  refine zk_met ku_Cr_codeCase (Nat.le_of_ble_eq_true rfl) (ze_Em P) ?_
  intro X C hR
  refine zk_lvs (lv' := [(0, .ref (S.1 47)), (1, .int x1), (2, .int x2)]) [0, 1, 2] rfl ?_
  unfold g_Cr_codeCase at e
  refine zk_aload_n C kd_Cr_codeCase_0 rfl 0 rfl rfl ?_
  refine zs_get (v := .int (h.1 47 4)) C 47 4 rfl rfl rfl rfl ki_Cr (by decide) kw446 kd_Cr_codeCase_1 rfl ?_
  refine zk_istore_n (lv' := [(3, _), (0, _), (1, _), (2, _)]) C kd_Cr_codeCase_4 rfl (by decide) rfl rfl ?_
  refine zk_aload_n C kd_Cr_codeCase_5 rfl 1 rfl rfl ?_
  refine zk_dup C kd_Cr_codeCase_6 rfl rfl ?_
  refine zs_get (v := .int (h.1 47 4)) C 47 4 rfl rfl rfl rfl ki_Cr (by decide) kw446 kd_Cr_codeCase_7 rfl ?_
  refine zk_iconst (v := 1) C kd_Cr_codeCase_10 (by decide) rfl ?_
  refine zk_iadd C kd_Cr_codeCase_11 rfl ?_
  refine zs_put (ty := .int) C 47 4 ((h.1 47 4) + 1) rfl rfl rfl rfl ki_Cr ky_Cr ko_Cr kn_Cr (by decide) kw446 rfl rfl rfl rfl (by decide) kd_Cr_codeCase_12 rfl ?_
  refine zk_aload_n C kd_Cr_codeCase_15 rfl 1 rfl rfl ?_
  refine zs_get (v := .ref (S.1 12)) C 47 0 rfl rfl rfl rfl ki_Cr (by decide) kw442 kd_Cr_codeCase_16 rfl ?_
  refine zs_get (v := .ref (S.1 17)) C 12 4 rfl rfl rfl rfl ki_Tr (by decide) kw171 kd_Cr_codeCase_19 rfl ?_
  refine zk_iload_n C kd_Cr_codeCase_22 rfl 2 rfl rfl ?_
  obtain ⟨q1, e⟩ := zd_g e
  refine zs_iald C 17 rfl (zd_vp q1) kd_Cr_codeCase_23 rfl ?_
  refine zk_stk (r' := [.int (h.2.1 17 x1.toNatClampNeg)]) rfl ?_
  refine zk_istore (lv' := [(4, _), (3, _), (0, _), (1, _), (2, _)]) C kd_Cr_codeCase_24 (by decide) rfl rfl ?_
  refine zk_aload_n C kd_Cr_codeCase_26 rfl 2 rfl rfl ?_
  refine zk_iload C kd_Cr_codeCase_27 0 rfl rfl ?_
  refine zk_iconst (v := 0) C kd_Cr_codeCase_29 (by decide) rfl ?_
  obtain ⟨h3, c2, e⟩ := zd_b e
  refine zs_callV (k := 47) (rn := { frames := 1 + 400, cells := 0, slots := 0, locals := 24 + 26 * 400 }) (As := [.int (h.2.1 17 x1.toNatClampNeg), .int 0]) (rest := []) C (zc_Cr_codeExpression (zs_uF h 47 4 ((h.1 47 4) + 1)) (h.2.1 17 x1.toNatClampNeg) 0 c2) ku_Cr_codeExpression kw1290 kv_Cr_codeExpression rfl (zd_rmO (by decide) (by decide)) ⟨Nat.le_refl _, Nat.le_refl _⟩ rfl rfl rfl (Nat.le_of_ble_eq_true rfl) kd_Cr_codeCase_30 rfl (c1 := 0) (s1 := 0) rfl rfl (fun v w hp => ?_)
  obtain ⟨rfl, rfl⟩ := hp
  refine zk_stk (r' := []) rfl ?_
  refine zk_aload_n C kd_Cr_codeCase_33 rfl 2 rfl rfl ?_
  refine zs_get (v := .ref (S.1 41)) C 47 2 rfl rfl rfl rfl ki_Cr (by decide) kw444 kd_Cr_codeCase_34 rfl ?_
  refine zk_iconst (v := 2) C kd_Cr_codeCase_37 (by decide) rfl ?_
  refine zk_iload_n C kd_Cr_codeCase_38 rfl 1 rfl rfl ?_
  obtain ⟨v5, h6, c4, e⟩ := zd_Be e
  refine zs_callV (k := 41) (rn := { frames := 0, cells := 0, slots := 0, locals := 0 }) (As := [.int 2, .int (h.1 47 4)]) (rest := []) C (zc_Cd_emit h3 2 (h.1 47 4) c4) ku_Cd_emit kw1278 kv_Cd_emit rfl (zd_rmO (by decide) (by decide)) ⟨Nat.le_refl _, Nat.le_refl _⟩ rfl rfl rfl (Nat.le_of_ble_eq_true rfl) kd_Cr_codeCase_39 rfl (c1 := 0) (s1 := 0) rfl rfl (fun v w hp => ?_)
  obtain ⟨rfl, rfl⟩ := hp
  refine zk_stk (r' := [.int v5]) rfl ?_
  refine zk_pop C kd_Cr_codeCase_42 rfl rfl ?_
  refine zk_iconst (v := (-1)) C kd_Cr_codeCase_43 (by decide) rfl ?_
  refine zk_istore (lv' := [(5, _), (4, _), (3, _), (0, _), (1, _), (2, _)]) C kd_Cr_codeCase_44 (by decide) rfl rfl ?_
  refine zk_aload_n C kd_Cr_codeCase_46 rfl 3 rfl rfl ?_
  refine zs_get (v := .ref (S.1 12)) C 47 0 rfl rfl rfl rfl ki_Cr (by decide) kw442 kd_Cr_codeCase_47 rfl ?_
  refine zs_get (v := .ref (S.1 18)) C 12 5 rfl rfl rfl rfl ki_Tr (by decide) kw174 kd_Cr_codeCase_50 rfl ?_
  refine zk_iload C kd_Cr_codeCase_53 1 rfl rfl ?_
  obtain ⟨q7, e⟩ := zd_g e
  refine zs_iald C 18 rfl (zd_vp q7) kd_Cr_codeCase_55 rfl ?_
  refine zk_istore (lv' := [(4, _), (5, _), (3, _), (0, _), (1, _), (2, _)]) C kd_Cr_codeCase_56 (by decide) rfl rfl ?_
  refine zk_iconst (v := 0) C kd_Cr_codeCase_58 (by decide) rfl ?_
  refine zk_istore (lv' := [(6, _), (4, _), (5, _), (3, _), (0, _), (1, _), (2, _)]) C kd_Cr_codeCase_59 (by decide) rfl rfl ?_
  refine zk_lvs (lv' := [(0, .ref (S.1 47)), (2, .int x2), (3, .int (h.1 47 4)), (4, .int (h6.2.1 18 (h.2.1 17 x1.toNatClampNeg).toNatClampNeg)), (5, .int (-1)), (6, .int 0)]) [4, 6, 3, 1, 2, 0] rfl ?_
  exact zl_Cr_codeCase_61 C hR hr_Cr_codeBody hr_Cr_codeBranch zF h6 x2 (h.1 47 4) (h6.2.1 18 (h.2.1 17 x1.toNatClampNeg).toNatClampNeg) (-1) 0 e
set_option maxHeartbeats 4000000 in
set_option maxRecDepth 100000 in
theorem zb_Cr_codeFor_261 {X : zkj_T} {S : zs_T} {P : ze_T} {l : Launch} {D : va_G} {sz0 : Nat} {d : Nat} {rh : zs_H} (C : zk_C X km_Cr_codeFor (zs_G S l D sz0) { frames := 403 + (d + 1), cells := 0, slots := 0, locals := 10473 + 30 * (d + 1) } (ze_E P)) (hR : zkj_R X (zd_PV S rh) (none)) (h : zs_H) (x4 : Int32) (x9 : Int32) (x10 : Int32) (y0 : Int32) (y1 : Int32) (e : f_Cr_codeFor_261 h x4 x9 x10 y0 y1 = some rh) : zk_Ab X (zs_W S h) 0 0 261 [(0, .ref (S.1 47)), (4, .int x4), (9, .int x9), (10, .int x10)] [.int y0, .int y1, .ref (S.1 41)] := by
  unfold f_Cr_codeFor_261 at e
  obtain ⟨v2, h3, c1, e⟩ := zd_Be e
  refine zs_callV (k := 41) (rn := { frames := 0, cells := 0, slots := 0, locals := 0 }) (As := [.int y1, .int y0]) (rest := []) C (zc_Cd_emit h y1 y0 c1) ku_Cd_emit kw1278 kv_Cd_emit rfl (zd_rmO (by decide) (by decide)) ⟨Nat.le_refl _, Nat.le_refl _⟩ rfl rfl rfl (Nat.le_of_ble_eq_true rfl) kd_Cr_codeFor_261 rfl (c1 := 0) (s1 := 0) rfl rfl (fun v w hp => ?_)
  obtain ⟨rfl, rfl⟩ := hp
  refine zk_stk (r' := [.int v2]) rfl ?_
  refine zk_pop C kd_Cr_codeFor_264 rfl rfl ?_
  refine zk_aload_n C kd_Cr_codeFor_265 rfl 0 rfl rfl ?_
  refine zs_get (v := .ref (S.1 41)) C 47 2 rfl rfl rfl rfl ki_Cr (by decide) kw444 kd_Cr_codeFor_266 rfl ?_
  refine zk_iconst (v := 2) C kd_Cr_codeFor_269 (by decide) rfl ?_
  refine zk_iload C kd_Cr_codeFor_270 1 rfl rfl ?_
  obtain ⟨v5, h6, c4, e⟩ := zd_Be e
  refine zs_callV (k := 41) (rn := { frames := 0, cells := 0, slots := 0, locals := 0 }) (As := [.int 2, .int x4]) (rest := []) C (zc_Cd_emit h3 2 x4 c4) ku_Cd_emit kw1278 kv_Cd_emit rfl (zd_rmO (by decide) (by decide)) ⟨Nat.le_refl _, Nat.le_refl _⟩ rfl rfl rfl (Nat.le_of_ble_eq_true rfl) kd_Cr_codeFor_272 rfl (c1 := 0) (s1 := 0) rfl rfl (fun v w hp => ?_)
  obtain ⟨rfl, rfl⟩ := hp
  refine zk_stk (r' := [.int v5]) rfl ?_
  refine zk_pop C kd_Cr_codeFor_275 rfl rfl ?_
  refine zk_aload_n C kd_Cr_codeFor_276 rfl 0 rfl rfl ?_
  refine zs_get (v := .ref (S.1 41)) C 47 2 rfl rfl rfl rfl ki_Cr (by decide) kw444 kd_Cr_codeFor_277 rfl ?_
  refine zk_bipush (v := 14) C kd_Cr_codeFor_280 (by decide) rfl ?_
  refine zk_iload C kd_Cr_codeFor_282 2 rfl rfl ?_
  obtain ⟨v8, h9, c7, e⟩ := zd_Be e
  refine zs_callV (k := 41) (rn := { frames := 0, cells := 0, slots := 0, locals := 0 }) (As := [.int 14, .int x9]) (rest := []) C (zc_Cd_emit h6 14 x9 c7) ku_Cd_emit kw1278 kv_Cd_emit rfl (zd_rmO (by decide) (by decide)) ⟨Nat.le_refl _, Nat.le_refl _⟩ rfl rfl rfl (Nat.le_of_ble_eq_true rfl) kd_Cr_codeFor_284 rfl (c1 := 0) (s1 := 0) rfl rfl (fun v w hp => ?_)
  obtain ⟨rfl, rfl⟩ := hp
  refine zk_stk (r' := [.int v8]) rfl ?_
  refine zk_pop C kd_Cr_codeFor_287 rfl rfl ?_
  refine zk_aload_n C kd_Cr_codeFor_288 rfl 0 rfl rfl ?_
  refine zs_get (v := .ref (S.1 41)) C 47 2 rfl rfl rfl rfl ki_Cr (by decide) kw444 kd_Cr_codeFor_289 rfl ?_
  refine zk_iload C kd_Cr_codeFor_292 2 rfl rfl ?_
  obtain ⟨h11, c10, e⟩ := zd_b e
  refine zs_callV (k := 41) (rn := { frames := 0, cells := 0, slots := 0, locals := 0 }) (As := [.int x9]) (rest := []) C (zc_Cd_joinHere h9 x9 c10) ku_Cd_joinHere kw1326 kv_Cd_joinHere rfl (zd_rmO (by decide) (by decide)) ⟨Nat.le_refl _, Nat.le_refl _⟩ rfl rfl rfl (Nat.le_of_ble_eq_true rfl) kd_Cr_codeFor_294 rfl (c1 := 0) (s1 := 0) rfl rfl (fun v w hp => ?_)
  obtain ⟨rfl, rfl⟩ := hp
  refine zk_stk (r' := []) rfl ?_
  refine zk_aload_n C kd_Cr_codeFor_297 rfl 0 rfl rfl ?_
  refine zs_get (v := .ref (S.1 41)) C 47 2 rfl rfl rfl rfl ki_Cr (by decide) kw444 kd_Cr_codeFor_298 rfl ?_
  refine zk_aload_n C kd_Cr_codeFor_301 rfl 0 rfl rfl ?_
  refine zs_get (v := .int (h11.1 47 6)) C 47 6 rfl rfl rfl rfl ki_Cr (by decide) kw448 kd_Cr_codeFor_302 rfl ?_
  obtain ⟨h13, c12, e⟩ := zd_b e
  refine zs_callV (k := 41) (rn := { frames := 0, cells := 0, slots := 0, locals := 0 }) (As := [.int (h11.1 47 6)]) (rest := []) C (zc_Cd_joinHere h11 (h11.1 47 6) c12) ku_Cd_joinHere kw1326 kv_Cd_joinHere rfl (zd_rmO (by decide) (by decide)) ⟨Nat.le_refl _, Nat.le_refl _⟩ rfl rfl rfl (Nat.le_of_ble_eq_true rfl) kd_Cr_codeFor_305 rfl (c1 := 0) (s1 := 0) rfl rfl (fun v w hp => ?_)
  obtain ⟨rfl, rfl⟩ := hp
  refine zk_stk (r' := []) rfl ?_
  refine zk_aload_n C kd_Cr_codeFor_308 rfl 0 rfl rfl ?_
  refine zk_iload C kd_Cr_codeFor_309 3 rfl rfl ?_
  refine zs_put (ty := .int) C 47 6 x10 rfl rfl rfl rfl ki_Cr ky_Cr ko_Cr kn_Cr (by decide) kw448 rfl rfl rfl rfl (by decide) kd_Cr_codeFor_311 rfl ?_
  exact zk_vret C hR kd_Cr_codeFor_314 rfl rfl (zd_rV e)
set_option maxHeartbeats 4000000 in
set_option maxRecDepth 100000 in
theorem zb_Cr_codeFor_123 {X : zkj_T} {S : zs_T} {P : ze_T} {l : Launch} {D : va_G} {sz0 : Nat} {d : Nat} {rh : zs_H} (C : zk_C X km_Cr_codeFor (zs_G S l D sz0) { frames := 403 + (d + 1), cells := 0, slots := 0, locals := 10473 + 30 * (d + 1) } (ze_E P)) (hR : zkj_R X (zd_PV S rh) (none)) {r_Cr_codeBody : zs_H → Int32 → Int32 → (Option zs_H)} (hr_Cr_codeBody : ∀ (h : zs_H) (x0 : Int32) (x1 : Int32) {rh : zs_H}, r_Cr_codeBody h x0 x1 = some rh → zk_Sp (zs_G S l D sz0) (ze_E P) km_Cr_codeBody { frames := 403 + d, cells := 0, slots := 0, locals := 10473 + 30 * d } [.ref (S.1 47), .int x0, .int x1] (zs_W S h) (zd_PV S rh)) (h : zs_H) (x1 : Int32) (x2 : Int32) (x3 : Int32) (x4 : Int32) (x5 : Int32) (x6 : Int32) (x7 : Int32) (x8 : Int32) (e : f_Cr_codeFor_123 r_Cr_codeBody h x1 x2 x3 x4 x5 x6 x7 x8 = some rh) : zk_Ab X (zs_W S h) 0 0 123 [(0, .ref (S.1 47)), (1, .int x1), (2, .int x2), (3, .int x3), (4, .int x4), (5, .int x5), (6, .int x6), (7, .int x7), (8, .int x8)] [] := by
  unfold f_Cr_codeFor_123 at e
  refine zk_aload_n C kd_Cr_codeFor_123 rfl 0 rfl rfl ?_
  refine zs_get (v := .ref (S.1 41)) C 47 2 rfl rfl rfl rfl ki_Cr (by decide) kw444 kd_Cr_codeFor_124 rfl ?_
  refine zk_iconst (v := 0) C kd_Cr_codeFor_127 (by decide) rfl ?_
  refine zk_iload C kd_Cr_codeFor_128 5 rfl rfl ?_
  obtain ⟨v2, h3, c1, e⟩ := zd_Be e
  refine zs_callV (k := 41) (rn := { frames := 0, cells := 0, slots := 0, locals := 0 }) (As := [.int 0, .int x5]) (rest := []) C (zc_Cd_emit h 0 x5 c1) ku_Cd_emit kw1278 kv_Cd_emit rfl (zd_rmO (by decide) (by decide)) ⟨Nat.le_refl _, Nat.le_refl _⟩ rfl rfl rfl (Nat.le_of_ble_eq_true rfl) kd_Cr_codeFor_130 rfl (c1 := 0) (s1 := 0) rfl rfl (fun v w hp => ?_)
  obtain ⟨rfl, rfl⟩ := hp
  refine zk_stk (r' := [.int v2]) rfl ?_
  refine zk_pop C kd_Cr_codeFor_133 rfl rfl ?_
  refine zk_aload_n C kd_Cr_codeFor_134 rfl 0 rfl rfl ?_
  refine zs_get (v := .ref (S.1 41)) C 47 2 rfl rfl rfl rfl ki_Cr (by decide) kw444 kd_Cr_codeFor_135 rfl ?_
  refine zk_iconst (v := 2) C kd_Cr_codeFor_138 (by decide) rfl ?_
  refine zk_iload C kd_Cr_codeFor_139 4 rfl rfl ?_
  obtain ⟨v5, h6, c4, e⟩ := zd_Be e
  refine zs_callV (k := 41) (rn := { frames := 0, cells := 0, slots := 0, locals := 0 }) (As := [.int 2, .int x4]) (rest := []) C (zc_Cd_emit h3 2 x4 c4) ku_Cd_emit kw1278 kv_Cd_emit rfl (zd_rmO (by decide) (by decide)) ⟨Nat.le_refl _, Nat.le_refl _⟩ rfl rfl rfl (Nat.le_of_ble_eq_true rfl) kd_Cr_codeFor_141 rfl (c1 := 0) (s1 := 0) rfl rfl (fun v w hp => ?_)
  obtain ⟨rfl, rfl⟩ := hp
  refine zk_stk (r' := [.int v5]) rfl ?_
  refine zk_pop C kd_Cr_codeFor_144 rfl rfl ?_
  refine zk_aload_n C kd_Cr_codeFor_145 rfl 0 rfl rfl ?_
  refine zs_get (v := .ref (S.1 41)) C 47 2 rfl rfl rfl rfl ki_Cr (by decide) kw444 kd_Cr_codeFor_146 rfl ?_
  refine zk_bipush (v := 12) C kd_Cr_codeFor_149 (by decide) rfl ?_
  refine zk_iload_n C kd_Cr_codeFor_151 rfl 3 rfl rfl ?_
  obtain ⟨v8, h9, c7, e⟩ := zd_Be e
  refine zs_callV (k := 41) (rn := { frames := 0, cells := 0, slots := 0, locals := 0 }) (As := [.int 12, .int x3]) (rest := []) C (zc_Cd_emit h6 12 x3 c7) ku_Cd_emit kw1278 kv_Cd_emit rfl (zd_rmO (by decide) (by decide)) ⟨Nat.le_refl _, Nat.le_refl _⟩ rfl rfl rfl (Nat.le_of_ble_eq_true rfl) kd_Cr_codeFor_152 rfl (c1 := 0) (s1 := 0) rfl rfl (fun v w hp => ?_)
  obtain ⟨rfl, rfl⟩ := hp
  refine zk_stk (r' := [.int v8]) rfl ?_
  refine zk_pop C kd_Cr_codeFor_155 rfl rfl ?_
  refine zk_aload_n C kd_Cr_codeFor_156 rfl 0 rfl rfl ?_
  refine zs_get (v := .ref (S.1 41)) C 47 2 rfl rfl rfl rfl ki_Cr (by decide) kw444 kd_Cr_codeFor_157 rfl ?_
  refine zk_iload C kd_Cr_codeFor_160 5 rfl rfl ?_
  refine zk_iload C kd_Cr_codeFor_162 6 rfl rfl ?_
  refine zk_iload C kd_Cr_codeFor_164 7 rfl rfl ?_
  obtain ⟨v11, c10, e⟩ := zd_b e
  refine zk_callS (rn := { frames := 1, cells := 0, slots := 0, locals := 23 }) (As := [.int x5, .int x6, .int x7]) (rest := [.ref (S.1 41)]) C (zc_Cd_times h9 x5 x6 x7 c10) ku_Cd_times kw1345 ks_Cd_times rfl (zd_rmO (by decide) (by decide)) ⟨Nat.le_refl _, Nat.le_refl _⟩ rfl (Nat.le_of_ble_eq_true rfl) kd_Cr_codeFor_166 rfl (c1 := 0) (s1 := 0) rfl rfl (fun v w hp => ?_)
  obtain ⟨rfl, rfl⟩ := hp
  refine zk_stk (r' := [.long v11, .ref (S.1 41)]) rfl ?_
  refine zk_l2i C kd_Cr_codeFor_169 rfl ?_
  refine zk_iconst (v := 0) C kd_Cr_codeFor_170 (by decide) rfl ?_
  obtain ⟨h13, c12, e⟩ := zd_b e
  refine zs_callV (k := 41) (rn := { frames := 0, cells := 0, slots := 0, locals := 0 }) (As := [.int (v11.toInt32), .int 0]) (rest := []) C (zc_Cd_with h9 (v11.toInt32) 0 c12) ku_Cd_with kw1298 kv_Cd_with rfl (zd_rmO (by decide) (by decide)) ⟨Nat.le_refl _, Nat.le_refl _⟩ rfl rfl rfl (Nat.le_of_ble_eq_true rfl) kd_Cr_codeFor_171 rfl (c1 := 0) (s1 := 0) rfl rfl (fun v w hp => ?_)
  obtain ⟨rfl, rfl⟩ := hp
  refine zk_stk (r' := []) rfl ?_
  refine zk_aload_n C kd_Cr_codeFor_174 rfl 0 rfl rfl ?_
  refine zs_get (v := .ref (S.1 41)) C 47 2 rfl rfl rfl rfl ki_Cr (by decide) kw444 kd_Cr_codeFor_175 rfl ?_
  refine zk_bipush (v := 13) C kd_Cr_codeFor_178 (by decide) rfl ?_
  refine zk_iconst (v := (-1)) C kd_Cr_codeFor_180 (by decide) rfl ?_
  obtain ⟨v15, h16, c14, e⟩ := zd_Be e
  refine zs_callV (k := 41) (rn := { frames := 0, cells := 0, slots := 0, locals := 0 }) (As := [.int 13, .int (-1)]) (rest := []) C (zc_Cd_emit h13 13 (-1) c14) ku_Cd_emit kw1278 kv_Cd_emit rfl (zd_rmO (by decide) (by decide)) ⟨Nat.le_refl _, Nat.le_refl _⟩ rfl rfl rfl (Nat.le_of_ble_eq_true rfl) kd_Cr_codeFor_181 rfl (c1 := 0) (s1 := 0) rfl rfl (fun v w hp => ?_)
  obtain ⟨rfl, rfl⟩ := hp
  refine zk_stk (r' := [.int v15]) rfl ?_
  refine zk_istore (lv' := [(9, _), (0, _), (1, _), (2, _), (3, _), (4, _), (5, _), (6, _), (7, _), (8, _)]) C kd_Cr_codeFor_184 (by decide) rfl rfl ?_
  refine zk_aload_n C kd_Cr_codeFor_186 rfl 1 rfl rfl ?_
  refine zs_get (v := .ref (S.1 41)) C 47 2 rfl rfl rfl rfl ki_Cr (by decide) kw444 kd_Cr_codeFor_187 rfl ?_
  refine zk_iload_n C kd_Cr_codeFor_190 rfl 4 rfl rfl ?_
  refine zk_iconst (v := 0) C kd_Cr_codeFor_191 (by decide) rfl ?_
  obtain ⟨h18, c17, e⟩ := zd_b e
  refine zs_callV (k := 41) (rn := { frames := 0, cells := 0, slots := 0, locals := 0 }) (As := [.int x3, .int 0]) (rest := []) C (zc_Cd_with h16 x3 0 c17) ku_Cd_with kw1298 kv_Cd_with rfl (zd_rmO (by decide) (by decide)) ⟨Nat.le_refl _, Nat.le_refl _⟩ rfl rfl rfl (Nat.le_of_ble_eq_true rfl) kd_Cr_codeFor_192 rfl (c1 := 0) (s1 := 0) rfl rfl (fun v w hp => ?_)
  obtain ⟨rfl, rfl⟩ := hp
  refine zk_stk (r' := []) rfl ?_
  refine zk_aload_n C kd_Cr_codeFor_195 rfl 1 rfl rfl ?_
  refine zs_get (v := .int (h18.1 47 6)) C 47 6 rfl rfl rfl rfl ki_Cr (by decide) kw448 kd_Cr_codeFor_196 rfl ?_
  refine zk_istore (lv' := [(10, _), (9, _), (0, _), (1, _), (2, _), (3, _), (4, _), (5, _), (6, _), (7, _), (8, _)]) C kd_Cr_codeFor_199 (by decide) rfl rfl ?_
  refine zk_aload_n C kd_Cr_codeFor_201 rfl 2 rfl rfl ?_
  refine zk_iconst (v := (-1)) C kd_Cr_codeFor_202 (by decide) rfl ?_
  refine zs_put (ty := .int) C 47 6 (-1) rfl rfl rfl rfl ki_Cr ky_Cr ko_Cr kn_Cr (by decide) kw448 rfl rfl rfl rfl (by decide) kd_Cr_codeFor_203 rfl ?_
  refine zk_aload_n C kd_Cr_codeFor_206 rfl 2 rfl rfl ?_
  refine zk_iload C kd_Cr_codeFor_207 10 rfl rfl ?_
  refine zk_iload_n C kd_Cr_codeFor_209 rfl 4 rfl rfl ?_
  refine zk_iconst (v := 1) C kd_Cr_codeFor_210 (by decide) rfl ?_
  refine zk_iadd C kd_Cr_codeFor_211 rfl ?_
  obtain ⟨h20, c19, e⟩ := zd_b e
  refine zs_callV (k := 47) (rn := { frames := 403 + d, cells := 0, slots := 0, locals := 10473 + 30 * d }) (As := [.int x8, .int (x2 + 1)]) (rest := []) C (hr_Cr_codeBody (zs_uF h18 47 6 (-1)) x8 (x2 + 1) c19) ku_Cr_codeBody kw1282 kv_Cr_codeBody rfl (zd_rmI (by decide)) ⟨Nat.le_refl _, Nat.le_refl _⟩ rfl rfl rfl (Nat.le_of_ble_eq_true rfl) kd_Cr_codeFor_212 rfl (c1 := 0) (s1 := 0) rfl rfl (fun v w hp => ?_)
  obtain ⟨rfl, rfl⟩ := hp
  refine zk_stk (r' := []) rfl ?_
  refine zk_aload_n C kd_Cr_codeFor_215 rfl 2 rfl rfl ?_
  refine zs_get (v := .ref (S.1 41)) C 47 2 rfl rfl rfl rfl ki_Cr (by decide) kw444 kd_Cr_codeFor_216 rfl ?_
  refine zk_iconst (v := 1) C kd_Cr_codeFor_219 (by decide) rfl ?_
  refine zk_iload C kd_Cr_codeFor_220 6 rfl rfl ?_
  obtain ⟨v22, h23, c21, e⟩ := zd_Be e
  refine zs_callV (k := 41) (rn := { frames := 0, cells := 0, slots := 0, locals := 0 }) (As := [.int 1, .int x4]) (rest := []) C (zc_Cd_emit h20 1 x4 c21) ku_Cd_emit kw1278 kv_Cd_emit rfl (zd_rmO (by decide) (by decide)) ⟨Nat.le_refl _, Nat.le_refl _⟩ rfl rfl rfl (Nat.le_of_ble_eq_true rfl) kd_Cr_codeFor_222 rfl (c1 := 0) (s1 := 0) rfl rfl (fun v w hp => ?_)
  obtain ⟨rfl, rfl⟩ := hp
  refine zk_stk (r' := [.int v22]) rfl ?_
  refine zk_pop C kd_Cr_codeFor_225 rfl rfl ?_
  refine zk_aload_n C kd_Cr_codeFor_226 rfl 2 rfl rfl ?_
  refine zs_get (v := .ref (S.1 41)) C 47 2 rfl rfl rfl rfl ki_Cr (by decide) kw444 kd_Cr_codeFor_227 rfl ?_
  refine zk_iconst (v := 0) C kd_Cr_codeFor_230 (by decide) rfl ?_
  refine zk_iload C kd_Cr_codeFor_231 9 rfl rfl ?_
  obtain ⟨v25, h26, c24, e⟩ := zd_Be e
  refine zs_callV (k := 41) (rn := { frames := 0, cells := 0, slots := 0, locals := 0 }) (As := [.int 0, .int x7]) (rest := []) C (zc_Cd_emit h23 0 x7 c24) ku_Cd_emit kw1278 kv_Cd_emit rfl (zd_rmO (by decide) (by decide)) ⟨Nat.le_refl _, Nat.le_refl _⟩ rfl rfl rfl (Nat.le_of_ble_eq_true rfl) kd_Cr_codeFor_233 rfl (c1 := 0) (s1 := 0) rfl rfl (fun v w hp => ?_)
  obtain ⟨rfl, rfl⟩ := hp
  refine zk_stk (r' := [.int v25]) rfl ?_
  refine zk_pop C kd_Cr_codeFor_236 rfl rfl ?_
  refine zk_aload_n C kd_Cr_codeFor_237 rfl 2 rfl rfl ?_
  refine zs_get (v := .ref (S.1 41)) C 47 2 rfl rfl rfl rfl ki_Cr (by decide) kw444 kd_Cr_codeFor_238 rfl ?_
  refine zk_bipush (v := 7) C kd_Cr_codeFor_241 (by decide) rfl ?_
  refine zk_aload_n C kd_Cr_codeFor_243 rfl 2 rfl rfl ?_
  refine zs_get (v := .ref (S.1 12)) C 47 0 rfl rfl rfl rfl ki_Cr (by decide) kw442 kd_Cr_codeFor_244 rfl ?_
  refine zs_get (v := .ref (S.1 14)) C 12 1 rfl rfl rfl rfl ki_Tr (by decide) kw161 kd_Cr_codeFor_247 rfl ?_
  refine zk_iload_n C kd_Cr_codeFor_250 rfl 3 rfl rfl ?_
  obtain ⟨q27, e⟩ := zd_g e
  refine zs_bald C 14 rfl (zd_vp q27) kd_Cr_codeFor_251 rfl ?_
  refine zk_iconst (v := 1) C kd_Cr_codeFor_252 (by decide) rfl ?_
  refine zk_icmp_ne (tgt := 260) C kd_Cr_codeFor_253 (by decide) rfl (fun b28 => ?_) (fun b28 => ?_)
  · replace e := zd_neg b28 e
    refine zk_iconst (v := 5) C kd_Cr_codeFor_260 (by decide) rfl ?_
    refine zk_lvs (lv' := [(0, .ref (S.1 47)), (4, .int x4), (9, .int v15), (10, .int (h18.1 47 6))]) [2, 6, 1, 0] rfl ?_
    exact zb_Cr_codeFor_261 C hR h26 x4 v15 (h18.1 47 6) 5 7 e
  · replace e := zd_pos b28 e
    refine zk_iconst (v := 0) C kd_Cr_codeFor_256 (by decide) rfl ?_
    refine zk_goto (tgt := 261) C kd_Cr_codeFor_257 (by decide) ?_
    refine zk_lvs (lv' := [(0, .ref (S.1 47)), (4, .int x4), (9, .int v15), (10, .int (h18.1 47 6))]) [2, 6, 1, 0] rfl ?_
    exact zb_Cr_codeFor_261 C hR h26 x4 v15 (h18.1 47 6) 0 7 e
set_option maxHeartbeats 4000000 in
set_option maxRecDepth 100000 in
theorem zg_Cr_codeFor {l : Launch} {D : va_G} {sz0 : Nat} {S : zs_T} {P : ze_T} {d : Nat} {r_Cr_codeBody : zs_H → Int32 → Int32 → (Option zs_H)} (hr_Cr_codeBody : ∀ (h : zs_H) (x0 : Int32) (x1 : Int32) {rh : zs_H}, r_Cr_codeBody h x0 x1 = some rh → zk_Sp (zs_G S l D sz0) (ze_E P) km_Cr_codeBody { frames := 403 + d, cells := 0, slots := 0, locals := 10473 + 30 * d } [.ref (S.1 47), .int x0, .int x1] (zs_W S h) (zd_PV S rh)) (h : zs_H) (x1 : Int32) (x2 : Int32) {rh : zs_H} (e : g_Cr_codeFor r_Cr_codeBody h x1 x2 = some rh) : zk_Sp (zs_G S l D sz0) (ze_E P) km_Cr_codeFor { frames := 403 + (d + 1), cells := 0, slots := 0, locals := 10473 + 30 * (d + 1) } [.ref (S.1 47), .int x1, .int x2] (zs_W S h) (zd_PV S rh) := by
  refine zk_met ku_Cr_codeFor (Nat.le_of_ble_eq_true rfl) (ze_Em P) ?_
  intro X C hR
  refine zk_lvs (lv' := [(0, .ref (S.1 47)), (1, .int x1), (2, .int x2)]) [0, 1, 2] rfl ?_
  unfold g_Cr_codeFor at e
  refine zk_aload_n C kd_Cr_codeFor_0 rfl 0 rfl rfl ?_
  refine zs_get (v := .int (h.1 47 4)) C 47 4 rfl rfl rfl rfl ki_Cr (by decide) kw446 kd_Cr_codeFor_1 rfl ?_
  refine zk_istore_n (lv' := [(3, _), (0, _), (1, _), (2, _)]) C kd_Cr_codeFor_4 rfl (by decide) rfl rfl ?_
  refine zk_aload_n C kd_Cr_codeFor_5 rfl 1 rfl rfl ?_
  refine zk_dup C kd_Cr_codeFor_6 rfl rfl ?_
  refine zs_get (v := .int (h.1 47 4)) C 47 4 rfl rfl rfl rfl ki_Cr (by decide) kw446 kd_Cr_codeFor_7 rfl ?_
  refine zk_iconst (v := 1) C kd_Cr_codeFor_10 (by decide) rfl ?_
  refine zk_iadd C kd_Cr_codeFor_11 rfl ?_
  refine zs_put (ty := .int) C 47 4 ((h.1 47 4) + 1) rfl rfl rfl rfl ki_Cr ky_Cr ko_Cr kn_Cr (by decide) kw446 rfl rfl rfl rfl (by decide) kd_Cr_codeFor_12 rfl ?_
  refine zk_aload_n C kd_Cr_codeFor_15 rfl 1 rfl rfl ?_
  refine zs_get (v := .ref (S.1 20)) C 47 1 rfl rfl rfl rfl ki_Cr (by decide) kw443 kd_Cr_codeFor_16 rfl ?_
  refine zs_get (v := .ref (S.1 32)) C 20 11 rfl rfl rfl rfl ki_Pl (by decide) kw269 kd_Cr_codeFor_19 rfl ?_
  refine zk_aload_n C kd_Cr_codeFor_22 rfl 1 rfl rfl ?_
  refine zs_get (v := .ref (S.1 12)) C 47 0 rfl rfl rfl rfl ki_Cr (by decide) kw442 kd_Cr_codeFor_23 rfl ?_
  refine zs_get (v := .ref (S.1 16)) C 12 3 rfl rfl rfl rfl ki_Tr (by decide) kw167 kd_Cr_codeFor_26 rfl ?_
  refine zk_iload_n C kd_Cr_codeFor_29 rfl 2 rfl rfl ?_
  obtain ⟨q1, e⟩ := zd_g e
  refine zs_iald C 16 rfl (zd_vp q1) kd_Cr_codeFor_30 rfl ?_
  refine zk_stk (r' := [.int (h.2.1 16 x1.toNatClampNeg), .ref (S.1 32)]) rfl ?_
  obtain ⟨q2, e⟩ := zd_g e
  refine zs_iald C 32 rfl (zd_vp q2) kd_Cr_codeFor_31 rfl ?_
  refine zk_stk (r' := [.int (h.2.1 32 (h.2.1 16 x1.toNatClampNeg).toNatClampNeg)]) rfl ?_
  refine zk_istore (lv' := [(4, _), (3, _), (0, _), (1, _), (2, _)]) C kd_Cr_codeFor_32 (by decide) rfl rfl ?_
  refine zk_aload_n C kd_Cr_codeFor_34 rfl 2 rfl rfl ?_
  refine zs_get (v := .ref (S.1 12)) C 47 0 rfl rfl rfl rfl ki_Cr (by decide) kw442 kd_Cr_codeFor_35 rfl ?_
  refine zs_get (v := .ref (S.1 16)) C 12 3 rfl rfl rfl rfl ki_Tr (by decide) kw167 kd_Cr_codeFor_38 rfl ?_
  refine zk_aload_n C kd_Cr_codeFor_41 rfl 2 rfl rfl ?_
  refine zs_get (v := .ref (S.1 12)) C 47 0 rfl rfl rfl rfl ki_Cr (by decide) kw442 kd_Cr_codeFor_42 rfl ?_
  refine zs_get (v := .ref (S.1 17)) C 12 4 rfl rfl rfl rfl ki_Tr (by decide) kw171 kd_Cr_codeFor_45 rfl ?_
  refine zk_iload_n C kd_Cr_codeFor_48 rfl 3 rfl rfl ?_
  refine zs_iald C 17 rfl (zd_vp q1) kd_Cr_codeFor_49 rfl ?_
  refine zk_stk (r' := [.int (h.2.1 17 x1.toNatClampNeg), .ref (S.1 16)]) rfl ?_
  obtain ⟨q3, e⟩ := zd_g e
  refine zs_iald C 16 rfl (zd_vp q3) kd_Cr_codeFor_50 rfl ?_
  refine zk_stk (r' := [.int (h.2.1 16 (h.2.1 17 x1.toNatClampNeg).toNatClampNeg)]) rfl ?_
  refine zk_istore (lv' := [(5, _), (4, _), (3, _), (0, _), (1, _), (2, _)]) C kd_Cr_codeFor_51 (by decide) rfl rfl ?_
  refine zk_aload_n C kd_Cr_codeFor_53 rfl 3 rfl rfl ?_
  refine zs_get (v := .ref (S.1 12)) C 47 0 rfl rfl rfl rfl ki_Cr (by decide) kw442 kd_Cr_codeFor_54 rfl ?_
  refine zs_get (v := .ref (S.1 16)) C 12 3 rfl rfl rfl rfl ki_Tr (by decide) kw167 kd_Cr_codeFor_57 rfl ?_
  refine zk_aload_n C kd_Cr_codeFor_60 rfl 3 rfl rfl ?_
  refine zs_get (v := .ref (S.1 12)) C 47 0 rfl rfl rfl rfl ki_Cr (by decide) kw442 kd_Cr_codeFor_61 rfl ?_
  refine zk_iload_n C kd_Cr_codeFor_64 rfl 4 rfl rfl ?_
  obtain ⟨v5, c4, e⟩ := zd_b e
  refine zs_callV (k := 12) (rn := { frames := 0, cells := 0, slots := 0, locals := 0 }) (As := [.int x1]) (rest := [.ref (S.1 16)]) C (zc_Tr_second (zs_uF h 47 4 ((h.1 47 4) + 1)) x1 c4) ku_Tr_second kw1342 kv_Tr_second rfl (zd_rmO (by decide) (by decide)) ⟨Nat.le_refl _, Nat.le_refl _⟩ rfl rfl rfl (Nat.le_of_ble_eq_true rfl) kd_Cr_codeFor_65 rfl (c1 := 0) (s1 := 0) rfl rfl (fun v w hp => ?_)
  obtain ⟨rfl, rfl⟩ := hp
  refine zk_stk (r' := [.int v5, .ref (S.1 16)]) rfl ?_
  obtain ⟨q6, e⟩ := zd_g e
  refine zs_iald C 16 rfl (zd_vp q6) kd_Cr_codeFor_68 rfl ?_
  refine zk_stk (r' := [.int (h.2.1 16 v5.toNatClampNeg)]) rfl ?_
  refine zk_istore (lv' := [(6, _), (5, _), (4, _), (3, _), (0, _), (1, _), (2, _)]) C kd_Cr_codeFor_69 (by decide) rfl rfl ?_
  refine zk_aload_n C kd_Cr_codeFor_71 rfl 4 rfl rfl ?_
  refine zs_get (v := .ref (S.1 12)) C 47 0 rfl rfl rfl rfl ki_Cr (by decide) kw442 kd_Cr_codeFor_72 rfl ?_
  refine zk_iload_n C kd_Cr_codeFor_75 rfl 5 rfl rfl ?_
  obtain ⟨v8, c7, e⟩ := zd_b e
  refine zs_callV (k := 12) (rn := { frames := 1, cells := 0, slots := 0, locals := 22 }) (As := [.int x1]) (rest := []) C (zc_Tr_stepOf (zs_uF h 47 4 ((h.1 47 4) + 1)) x1 c7) ku_Tr_stepOf kw1343 kv_Tr_stepOf rfl (zd_rmO (by decide) (by decide)) ⟨Nat.le_refl _, Nat.le_refl _⟩ rfl rfl rfl (Nat.le_of_ble_eq_true rfl) kd_Cr_codeFor_76 rfl (c1 := 0) (s1 := 0) rfl rfl (fun v w hp => ?_)
  obtain ⟨rfl, rfl⟩ := hp
  refine zk_stk (r' := [.int v8]) rfl ?_
  refine zk_istore (lv' := [(7, _), (6, _), (5, _), (4, _), (3, _), (0, _), (1, _), (2, _)]) C kd_Cr_codeFor_79 (by decide) rfl rfl ?_
  refine zk_aload_n C kd_Cr_codeFor_81 rfl 5 rfl rfl ?_
  refine zs_get (v := .ref (S.1 12)) C 47 0 rfl rfl rfl rfl ki_Cr (by decide) kw442 kd_Cr_codeFor_82 rfl ?_
  refine zs_get (v := .ref (S.1 18)) C 12 5 rfl rfl rfl rfl ki_Tr (by decide) kw174 kd_Cr_codeFor_85 rfl ?_
  refine zk_aload_n C kd_Cr_codeFor_88 rfl 5 rfl rfl ?_
  refine zs_get (v := .ref (S.1 12)) C 47 0 rfl rfl rfl rfl ki_Cr (by decide) kw442 kd_Cr_codeFor_89 rfl ?_
  refine zk_iload_n C kd_Cr_codeFor_92 rfl 6 rfl rfl ?_
  obtain ⟨v10, c9, e⟩ := zd_b e
  refine zs_callV (k := 12) (rn := { frames := 0, cells := 0, slots := 0, locals := 0 }) (As := [.int x1]) (rest := [.ref (S.1 18)]) C (zc_Tr_second (zs_uF h 47 4 ((h.1 47 4) + 1)) x1 c9) ku_Tr_second kw1342 kv_Tr_second rfl (zd_rmO (by decide) (by decide)) ⟨Nat.le_refl _, Nat.le_refl _⟩ rfl rfl rfl (Nat.le_of_ble_eq_true rfl) kd_Cr_codeFor_93 rfl (c1 := 0) (s1 := 0) rfl rfl (fun v w hp => ?_)
  obtain ⟨rfl, rfl⟩ := hp
  refine zk_stk (r' := [.int v10, .ref (S.1 18)]) rfl ?_
  obtain ⟨q11, e⟩ := zd_g e
  refine zs_iald C 18 rfl (zd_vp q11) kd_Cr_codeFor_96 rfl ?_
  refine zk_stk (r' := [.int (h.2.1 18 v10.toNatClampNeg)]) rfl ?_
  refine zk_istore (lv' := [(8, _), (7, _), (6, _), (5, _), (4, _), (3, _), (0, _), (1, _), (2, _)]) C kd_Cr_codeFor_97 (by decide) rfl rfl ?_
  refine zk_aload_n C kd_Cr_codeFor_99 rfl 6 rfl rfl ?_
  refine zs_get (v := .ref (S.1 12)) C 47 0 rfl rfl rfl rfl ki_Cr (by decide) kw442 kd_Cr_codeFor_100 rfl ?_
  refine zk_iload C kd_Cr_codeFor_103 0 rfl rfl ?_
  obtain ⟨v13, c12, e⟩ := zd_b e
  refine zs_callV (k := 12) (rn := { frames := 0, cells := 0, slots := 0, locals := 0 }) (As := [.int (h.2.1 18 v10.toNatClampNeg)]) (rest := []) C (zc_Tr_isConstant (zs_uF h 47 4 ((h.1 47 4) + 1)) (h.2.1 18 v10.toNatClampNeg) c12) ku_Tr_isConstant kw1344 kv_Tr_isConstant rfl (zd_rmO (by decide) (by decide)) ⟨Nat.le_refl _, Nat.le_refl _⟩ rfl rfl rfl (Nat.le_of_ble_eq_true rfl) kd_Cr_codeFor_105 rfl (c1 := 0) (s1 := 0) rfl rfl (fun v w hp => ?_)
  obtain ⟨rfl, rfl, z14⟩ := hp
  refine zk_stk (r' := [.int v13]) rfl ?_
  refine zk_if_eq (tgt := 123) C kd_Cr_codeFor_108 (by decide) rfl (fun b15 => ?_) (fun b15 => ?_)
  · replace e := zd_pos b15 e
    refine zk_lvs (lv' := [(0, .ref (S.1 47)), (1, .int x1), (2, .int x2), (3, .int (h.1 47 4)), (4, .int (h.2.1 32 (h.2.1 16 x1.toNatClampNeg).toNatClampNeg)), (5, .int (h.2.1 16 (h.2.1 17 x1.toNatClampNeg).toNatClampNeg)), (6, .int (h.2.1 16 v5.toNatClampNeg)), (7, .int v8), (8, .int (h.2.1 18 v10.toNatClampNeg))]) [6, 7, 8, 5, 4, 3, 2, 1, 0] rfl ?_
    exact zb_Cr_codeFor_123 C hR hr_Cr_codeBody (zs_uF h 47 4 ((h.1 47 4) + 1)) x1 x2 (h.1 47 4) (h.2.1 32 (h.2.1 16 x1.toNatClampNeg).toNatClampNeg) (h.2.1 16 (h.2.1 17 x1.toNatClampNeg).toNatClampNeg) (h.2.1 16 v5.toNatClampNeg) v8 (h.2.1 18 v10.toNatClampNeg) e
  · replace e := zd_neg b15 e
    refine zk_aload_n C kd_Cr_codeFor_111 rfl 6 rfl rfl ?_
    refine zs_get (v := .ref (S.1 12)) C 47 0 rfl rfl rfl rfl ki_Cr (by decide) kw442 kd_Cr_codeFor_112 rfl ?_
    refine zs_get (v := .ref (S.1 18)) C 12 5 rfl rfl rfl rfl ki_Tr (by decide) kw174 kd_Cr_codeFor_115 rfl ?_
    refine zk_iload C kd_Cr_codeFor_118 0 rfl rfl ?_
    obtain ⟨q16, e⟩ := zd_g e
    refine zs_iald C 18 rfl (zd_vp q16) kd_Cr_codeFor_120 rfl ?_
    refine zk_stk (r' := [.int (h.2.1 18 (h.2.1 18 v10.toNatClampNeg).toNatClampNeg)]) rfl ?_
    refine zk_istore (lv' := [(8, _), (7, _), (6, _), (5, _), (4, _), (3, _), (0, _), (1, _), (2, _)]) C kd_Cr_codeFor_121 (by decide) rfl rfl ?_
    refine zk_lvs (lv' := [(0, .ref (S.1 47)), (1, .int x1), (2, .int x2), (3, .int (h.1 47 4)), (4, .int (h.2.1 32 (h.2.1 16 x1.toNatClampNeg).toNatClampNeg)), (5, .int (h.2.1 16 (h.2.1 17 x1.toNatClampNeg).toNatClampNeg)), (6, .int (h.2.1 16 v5.toNatClampNeg)), (7, .int v8), (8, .int (h.2.1 18 (h.2.1 18 v10.toNatClampNeg).toNatClampNeg))]) [6, 7, 8, 5, 4, 3, 2, 1, 0] rfl ?_
    exact zb_Cr_codeFor_123 C hR hr_Cr_codeBody (zs_uF h 47 4 ((h.1 47 4) + 1)) x1 x2 (h.1 47 4) (h.2.1 32 (h.2.1 16 x1.toNatClampNeg).toNatClampNeg) (h.2.1 16 (h.2.1 17 x1.toNatClampNeg).toNatClampNeg) (h.2.1 16 v5.toNatClampNeg) v8 (h.2.1 18 (h.2.1 18 v10.toNatClampNeg).toNatClampNeg) e
set_option maxHeartbeats 4000000 in
set_option maxRecDepth 100000 in
theorem zb_Cr_codeIf_108 {X : zkj_T} {S : zs_T} {P : ze_T} {l : Launch} {D : va_G} {sz0 : Nat} {d : Nat} {rh : zs_H} (C : zk_C X km_Cr_codeIf (zs_G S l D sz0) { frames := 403 + (d + 1), cells := 0, slots := 0, locals := 10473 + 30 * (d + 1) } (ze_E P)) (hR : zkj_R X (zd_PV S rh) (none)) {r_Cr_codeBody : zs_H → Int32 → Int32 → (Option zs_H)} (hr_Cr_codeBody : ∀ (h : zs_H) (x0 : Int32) (x1 : Int32) {rh : zs_H}, r_Cr_codeBody h x0 x1 = some rh → zk_Sp (zs_G S l D sz0) (ze_E P) km_Cr_codeBody { frames := 403 + d, cells := 0, slots := 0, locals := 10473 + 30 * d } [.ref (S.1 47), .int x0, .int x1] (zs_W S h) (zd_PV S rh)) {r_Cr_codeBranch : zs_H → Int32 → Int32 → Int32 → Int32 → (Option (Int32 × zs_H))} (hr_Cr_codeBranch : ∀ (h : zs_H) (x0 : Int32) (x1 : Int32) (x2 : Int32) (x3 : Int32) {rv : Int32} {rh : zs_H}, r_Cr_codeBranch h x0 x1 x2 x3 = some (rv, rh) → zk_Sp (zs_G S l D sz0) (ze_E P) km_Cr_codeBranch { frames := 403 + d, cells := 0, slots := 0, locals := 10473 + 30 * d } [.ref (S.1 47), .int x0, .int x1, .int x2, .int x3] (zs_W S h) (zd_PI S rv rh)) {k16 : zs_H → Int32 → Int32 → Int32 → Int32 → (Option zs_H)} (hk16 : ∀ (h : zs_H) (x2 : Int32) (x3 : Int32) (x4 : Int32) (x5 : Int32), k16 h x2 x3 x4 x5 = some rh → zk_Ab X (zs_W S h) 0 0 16 [(0, .ref (S.1 47)), (2, .int x2), (3, .int x3), (4, .int x4), (5, .int x5)] []) (h : zs_H) (x2 : Int32) (x3 : Int32) (x4 : Int32) (x5 : Int32) (e : f_Cr_codeIf_108 r_Cr_codeBody r_Cr_codeBranch k16 h x2 x3 x4 x5 = some rh) : zk_Ab X (zs_W S h) 0 0 108 [(0, .ref (S.1 47)), (2, .int x2), (3, .int x3), (4, .int x4), (5, .int x5)] [] := by
  unfold f_Cr_codeIf_108 at e
  refine zk_aload_n C kd_Cr_codeIf_108 rfl 0 rfl rfl ?_
  refine zs_get (v := .ref (S.1 12)) C 47 0 rfl rfl rfl rfl ki_Cr (by decide) kw442 kd_Cr_codeIf_109 rfl ?_
  refine zs_get (v := .ref (S.1 18)) C 12 5 rfl rfl rfl rfl ki_Tr (by decide) kw174 kd_Cr_codeIf_112 rfl ?_
  refine zk_iload C kd_Cr_codeIf_115 3 rfl rfl ?_
  obtain ⟨q1, e⟩ := zd_g e
  refine zs_iald C 18 rfl (zd_vp q1) kd_Cr_codeIf_117 rfl ?_
  refine zk_istore (lv' := [(4, _), (0, _), (2, _), (3, _), (5, _)]) C kd_Cr_codeIf_118 (by decide) rfl rfl ?_
  refine zk_iinc (v := (x5 + 1)) (lv' := [(5, _), (4, _), (0, _), (2, _), (3, _)]) C kd_Cr_codeIf_120 4 rfl rfl (by decide) rfl rfl ?_
  refine zk_goto (tgt := 16) C kd_Cr_codeIf_123 (by decide) ?_
  refine zk_lvs (lv' := [(0, .ref (S.1 47)), (2, .int x2), (3, .int x3), (4, .int (h.2.1 18 x4.toNatClampNeg)), (5, .int (x5 + 1))]) [2, 3, 4, 1, 0] rfl ?_
  exact hk16 h x2 x3 (h.2.1 18 x4.toNatClampNeg) (x5 + 1) e
set_option maxHeartbeats 4000000 in
set_option maxRecDepth 100000 in
theorem zb_Cr_codeIf_102 {X : zkj_T} {S : zs_T} {P : ze_T} {l : Launch} {D : va_G} {sz0 : Nat} {d : Nat} {rh : zs_H} (C : zk_C X km_Cr_codeIf (zs_G S l D sz0) { frames := 403 + (d + 1), cells := 0, slots := 0, locals := 10473 + 30 * (d + 1) } (ze_E P)) (hR : zkj_R X (zd_PV S rh) (none)) {r_Cr_codeBody : zs_H → Int32 → Int32 → (Option zs_H)} (hr_Cr_codeBody : ∀ (h : zs_H) (x0 : Int32) (x1 : Int32) {rh : zs_H}, r_Cr_codeBody h x0 x1 = some rh → zk_Sp (zs_G S l D sz0) (ze_E P) km_Cr_codeBody { frames := 403 + d, cells := 0, slots := 0, locals := 10473 + 30 * d } [.ref (S.1 47), .int x0, .int x1] (zs_W S h) (zd_PV S rh)) {r_Cr_codeBranch : zs_H → Int32 → Int32 → Int32 → Int32 → (Option (Int32 × zs_H))} (hr_Cr_codeBranch : ∀ (h : zs_H) (x0 : Int32) (x1 : Int32) (x2 : Int32) (x3 : Int32) {rv : Int32} {rh : zs_H}, r_Cr_codeBranch h x0 x1 x2 x3 = some (rv, rh) → zk_Sp (zs_G S l D sz0) (ze_E P) km_Cr_codeBranch { frames := 403 + d, cells := 0, slots := 0, locals := 10473 + 30 * d } [.ref (S.1 47), .int x0, .int x1, .int x2, .int x3] (zs_W S h) (zd_PI S rv rh)) {k16 : zs_H → Int32 → Int32 → Int32 → Int32 → (Option zs_H)} (hk16 : ∀ (h : zs_H) (x2 : Int32) (x3 : Int32) (x4 : Int32) (x5 : Int32), k16 h x2 x3 x4 x5 = some rh → zk_Ab X (zs_W S h) 0 0 16 [(0, .ref (S.1 47)), (2, .int x2), (3, .int x3), (4, .int x4), (5, .int x5)] []) (h : zs_H) (x2 : Int32) (x3 : Int32) (x4 : Int32) (x5 : Int32) (y0 : Int32) (y1 : Int32) (e : f_Cr_codeIf_102 r_Cr_codeBody r_Cr_codeBranch k16 h x2 x3 x4 x5 y0 y1 = some rh) : zk_Ab X (zs_W S h) 0 0 102 [(0, .ref (S.1 47)), (2, .int x2), (3, .int x3), (4, .int x4), (5, .int x5)] [.int y0, .int y1, .ref (S.1 47)] := by
  unfold f_Cr_codeIf_102 at e
  refine zk_iload_n C kd_Cr_codeIf_102 rfl 2 rfl rfl ?_
  refine zk_iload_n C kd_Cr_codeIf_103 rfl 1 rfl rfl ?_
  obtain ⟨v2, h3, c1, e⟩ := zd_Be e
  refine zs_callV (k := 47) (rn := { frames := 403 + d, cells := 0, slots := 0, locals := 10473 + 30 * d }) (As := [.int y1, .int y0, .int x3, .int x2]) (rest := []) C (hr_Cr_codeBranch h y1 y0 x3 x2 c1) ku_Cr_codeBranch kw1322 kv_Cr_codeBranch rfl (zd_rmI (by decide)) ⟨Nat.le_refl _, Nat.le_refl _⟩ rfl rfl rfl (Nat.le_of_ble_eq_true rfl) kd_Cr_codeIf_104 rfl (c1 := 0) (s1 := 0) rfl rfl (fun v w hp => ?_)
  obtain ⟨rfl, rfl⟩ := hp
  refine zk_stk (r' := [.int v2]) rfl ?_
  refine zk_istore_n (lv' := [(3, _), (0, _), (2, _), (4, _), (5, _)]) C kd_Cr_codeIf_107 rfl (by decide) rfl rfl ?_
  refine zk_lvs (lv' := [(0, .ref (S.1 47)), (2, .int x2), (3, .int v2), (4, .int x4), (5, .int x5)]) [1, 2, 0, 3, 4] rfl ?_
  exact zb_Cr_codeIf_108 C hR hr_Cr_codeBody hr_Cr_codeBranch hk16 h3 x2 v2 x4 x5 e
set_option maxHeartbeats 4000000 in
set_option maxRecDepth 100000 in
theorem zb_Cr_codeIf_126 {X : zkj_T} {S : zs_T} {P : ze_T} {l : Launch} {D : va_G} {sz0 : Nat} {d : Nat} {rh : zs_H} (C : zk_C X km_Cr_codeIf (zs_G S l D sz0) { frames := 403 + (d + 1), cells := 0, slots := 0, locals := 10473 + 30 * (d + 1) } (ze_E P)) (hR : zkj_R X (zd_PV S rh) (none)) (h : zs_H) (x3 : Int32) (e : f_Cr_codeIf_126 h x3 = some rh) : zk_Ab X (zs_W S h) 0 0 126 [(0, .ref (S.1 47)), (3, .int x3)] [] := by
  unfold f_Cr_codeIf_126 at e
  refine zk_aload_n C kd_Cr_codeIf_126 rfl 0 rfl rfl ?_
  refine zs_get (v := .ref (S.1 41)) C 47 2 rfl rfl rfl rfl ki_Cr (by decide) kw444 kd_Cr_codeIf_127 rfl ?_
  refine zk_iload_n C kd_Cr_codeIf_130 rfl 1 rfl rfl ?_
  obtain ⟨h2, c1, e⟩ := zd_b e
  refine zs_callV (k := 41) (rn := { frames := 0, cells := 0, slots := 0, locals := 0 }) (As := [.int x3]) (rest := []) C (zc_Cd_joinHere h x3 c1) ku_Cd_joinHere kw1326 kv_Cd_joinHere rfl (zd_rmO (by decide) (by decide)) ⟨Nat.le_refl _, Nat.le_refl _⟩ rfl rfl rfl (Nat.le_of_ble_eq_true rfl) kd_Cr_codeIf_131 rfl (c1 := 0) (s1 := 0) rfl rfl (fun v w hp => ?_)
  obtain ⟨rfl, rfl⟩ := hp
  refine zk_stk (r' := []) rfl ?_
  exact zk_vret C hR kd_Cr_codeIf_134 rfl rfl (zd_rV e)
set_option maxHeartbeats 4000000 in
set_option maxRecDepth 100000 in
theorem zb_Cr_codeIf_16 {X : zkj_T} {S : zs_T} {P : ze_T} {l : Launch} {D : va_G} {sz0 : Nat} {d : Nat} {rh : zs_H} (C : zk_C X km_Cr_codeIf (zs_G S l D sz0) { frames := 403 + (d + 1), cells := 0, slots := 0, locals := 10473 + 30 * (d + 1) } (ze_E P)) (hR : zkj_R X (zd_PV S rh) (none)) {r_Cr_codeBody : zs_H → Int32 → Int32 → (Option zs_H)} (hr_Cr_codeBody : ∀ (h : zs_H) (x0 : Int32) (x1 : Int32) {rh : zs_H}, r_Cr_codeBody h x0 x1 = some rh → zk_Sp (zs_G S l D sz0) (ze_E P) km_Cr_codeBody { frames := 403 + d, cells := 0, slots := 0, locals := 10473 + 30 * d } [.ref (S.1 47), .int x0, .int x1] (zs_W S h) (zd_PV S rh)) {r_Cr_codeBranch : zs_H → Int32 → Int32 → Int32 → Int32 → (Option (Int32 × zs_H))} (hr_Cr_codeBranch : ∀ (h : zs_H) (x0 : Int32) (x1 : Int32) (x2 : Int32) (x3 : Int32) {rv : Int32} {rh : zs_H}, r_Cr_codeBranch h x0 x1 x2 x3 = some (rv, rh) → zk_Sp (zs_G S l D sz0) (ze_E P) km_Cr_codeBranch { frames := 403 + d, cells := 0, slots := 0, locals := 10473 + 30 * d } [.ref (S.1 47), .int x0, .int x1, .int x2, .int x3] (zs_W S h) (zd_PI S rv rh)) {k16 : zs_H → Int32 → Int32 → Int32 → Int32 → (Option zs_H)} (hk16 : ∀ (h : zs_H) (x2 : Int32) (x3 : Int32) (x4 : Int32) (x5 : Int32), k16 h x2 x3 x4 x5 = some rh → zk_Ab X (zs_W S h) 0 0 16 [(0, .ref (S.1 47)), (2, .int x2), (3, .int x3), (4, .int x4), (5, .int x5)] []) (h : zs_H) (x2 : Int32) (x3 : Int32) (x4 : Int32) (x5 : Int32) (e : f_Cr_codeIf_16 r_Cr_codeBody r_Cr_codeBranch k16 h x2 x3 x4 x5 = some rh) : zk_Ab X (zs_W S h) 0 0 16 [(0, .ref (S.1 47)), (2, .int x2), (3, .int x3), (4, .int x4), (5, .int x5)] [] := by
  unfold f_Cr_codeIf_16 at e
  refine zk_iload C kd_Cr_codeIf_16 4 rfl rfl ?_
  refine zk_aload_n C kd_Cr_codeIf_18 rfl 0 rfl rfl ?_
  refine zs_get (v := .ref (S.1 12)) C 47 0 rfl rfl rfl rfl ki_Cr (by decide) kw442 kd_Cr_codeIf_19 rfl ?_
  refine zs_get (v := .int (h.1 12 6)) C 12 6 rfl rfl rfl rfl ki_Tr (by decide) kw178 kd_Cr_codeIf_22 rfl ?_
  refine zk_icmp_ge (tgt := 126) C kd_Cr_codeIf_25 (by decide) rfl (fun b1 => ?_) (fun b1 => ?_)
  · replace e := zd_pos b1 e
    refine zk_lvs (lv' := [(0, .ref (S.1 47)), (3, .int x3)]) [0, 2] rfl ?_
    exact zb_Cr_codeIf_126 C hR h x3 e
  · replace e := zd_neg b1 e
    refine zk_iload C kd_Cr_codeIf_28 3 rfl rfl ?_
    refine zk_iconst (v := (-1)) C kd_Cr_codeIf_30 (by decide) rfl ?_
    refine zk_icmp_eq (tgt := 126) C kd_Cr_codeIf_31 (by decide) rfl (fun b2 => ?_) (fun b2 => ?_)
    · replace e := zd_pos b2 e
      refine zk_lvs (lv' := [(0, .ref (S.1 47)), (3, .int x3)]) [0, 2] rfl ?_
      exact zb_Cr_codeIf_126 C hR h x3 e
    · replace e := zd_neg b2 e
      refine zk_aload_n C kd_Cr_codeIf_34 rfl 0 rfl rfl ?_
      refine zs_get (v := .ref (S.1 12)) C 47 0 rfl rfl rfl rfl ki_Cr (by decide) kw442 kd_Cr_codeIf_35 rfl ?_
      refine zs_get (v := .ref (S.1 13)) C 12 0 rfl rfl rfl rfl ki_Tr (by decide) kw156 kd_Cr_codeIf_38 rfl ?_
      refine zk_iload C kd_Cr_codeIf_41 3 rfl rfl ?_
      obtain ⟨q3, e⟩ := zd_g e
      refine zs_bald C 13 rfl (zd_vp q3) kd_Cr_codeIf_43 rfl ?_
      refine zk_bipush (v := 11) C kd_Cr_codeIf_44 (by decide) rfl ?_
      refine zk_icmp_ne (tgt := 61) C kd_Cr_codeIf_46 (by decide) rfl (fun b4 => ?_) (fun b4 => ?_)
      · replace e := zd_neg b4 e
        refine zk_aload_n C kd_Cr_codeIf_61 rfl 0 rfl rfl ?_
        refine zk_iload C kd_Cr_codeIf_62 3 rfl rfl ?_
        refine zk_iconst (v := 0) C kd_Cr_codeIf_64 (by decide) rfl ?_
        obtain ⟨h6, c5, e⟩ := zd_b e
        refine zs_callV (k := 47) (rn := { frames := 1 + 400, cells := 0, slots := 0, locals := 24 + 26 * 400 }) (As := [.int x4, .int 0]) (rest := []) C (zc_Cr_codeExpression h x4 0 c5) ku_Cr_codeExpression kw1290 kv_Cr_codeExpression rfl (zd_rmO (by decide) (by decide)) ⟨Nat.le_refl _, Nat.le_refl _⟩ rfl rfl rfl (Nat.le_of_ble_eq_true rfl) kd_Cr_codeIf_65 rfl (c1 := 0) (s1 := 0) rfl rfl (fun v w hp => ?_)
        obtain ⟨rfl, rfl⟩ := hp
        refine zk_stk (r' := []) rfl ?_
        refine zk_aload_n C kd_Cr_codeIf_68 rfl 0 rfl rfl ?_
        refine zs_get (v := .ref (S.1 12)) C 47 0 rfl rfl rfl rfl ki_Cr (by decide) kw442 kd_Cr_codeIf_69 rfl ?_
        refine zs_get (v := .ref (S.1 18)) C 12 5 rfl rfl rfl rfl ki_Tr (by decide) kw174 kd_Cr_codeIf_72 rfl ?_
        refine zk_iload C kd_Cr_codeIf_75 3 rfl rfl ?_
        obtain ⟨q7, e⟩ := zd_g e
        refine zs_iald C 18 rfl (zd_vp q7) kd_Cr_codeIf_77 rfl ?_
        refine zk_istore (lv' := [(4, _), (0, _), (2, _), (3, _), (5, _)]) C kd_Cr_codeIf_78 (by decide) rfl rfl ?_
        refine zk_aload_n C kd_Cr_codeIf_80 rfl 1 rfl rfl ?_
        refine zk_iload C kd_Cr_codeIf_81 0 rfl rfl ?_
        refine zk_aload_n C kd_Cr_codeIf_83 rfl 1 rfl rfl ?_
        refine zs_get (v := .ref (S.1 12)) C 47 0 rfl rfl rfl rfl ki_Cr (by decide) kw442 kd_Cr_codeIf_84 rfl ?_
        refine zs_get (v := .ref (S.1 18)) C 12 5 rfl rfl rfl rfl ki_Tr (by decide) kw174 kd_Cr_codeIf_87 rfl ?_
        refine zk_iload C kd_Cr_codeIf_90 0 rfl rfl ?_
        obtain ⟨q8, e⟩ := zd_g e
        refine zs_iald C 18 rfl (zd_vp q8) kd_Cr_codeIf_92 rfl ?_
        refine zk_iconst (v := (-1)) C kd_Cr_codeIf_93 (by decide) rfl ?_
        refine zk_icmp_ne (tgt := 101) C kd_Cr_codeIf_94 (by decide) rfl (fun b9 => ?_) (fun b9 => ?_)
        · replace e := zd_neg b9 e
          refine zk_iconst (v := 0) C kd_Cr_codeIf_101 (by decide) rfl ?_
          refine zk_lvs (lv' := [(0, .ref (S.1 47)), (2, .int x2), (3, .int x3), (4, .int (h6.2.1 18 x4.toNatClampNeg)), (5, .int x5)]) [1, 2, 3, 0, 4] rfl ?_
          exact zb_Cr_codeIf_102 C hR hr_Cr_codeBody hr_Cr_codeBranch hk16 h6 x2 x3 (h6.2.1 18 x4.toNatClampNeg) x5 0 (h6.2.1 18 x4.toNatClampNeg) e
        · replace e := zd_pos b9 e
          refine zk_iconst (v := 1) C kd_Cr_codeIf_97 (by decide) rfl ?_
          refine zk_goto (tgt := 102) C kd_Cr_codeIf_98 (by decide) ?_
          refine zk_lvs (lv' := [(0, .ref (S.1 47)), (2, .int x2), (3, .int x3), (4, .int (h6.2.1 18 x4.toNatClampNeg)), (5, .int x5)]) [1, 2, 3, 0, 4] rfl ?_
          exact zb_Cr_codeIf_102 C hR hr_Cr_codeBody hr_Cr_codeBranch hk16 h6 x2 x3 (h6.2.1 18 x4.toNatClampNeg) x5 1 (h6.2.1 18 x4.toNatClampNeg) e
      · replace e := zd_pos b4 e
        refine zk_aload_n C kd_Cr_codeIf_49 rfl 0 rfl rfl ?_
        refine zk_iload C kd_Cr_codeIf_50 3 rfl rfl ?_
        refine zk_iload_n C kd_Cr_codeIf_52 rfl 1 rfl rfl ?_
        refine zk_iconst (v := 1) C kd_Cr_codeIf_53 (by decide) rfl ?_
        refine zk_iadd C kd_Cr_codeIf_54 rfl ?_
        obtain ⟨h11, c10, e⟩ := zd_b e
        refine zs_callV (k := 47) (rn := { frames := 403 + d, cells := 0, slots := 0, locals := 10473 + 30 * d }) (As := [.int x4, .int (x2 + 1)]) (rest := []) C (hr_Cr_codeBody h x4 (x2 + 1) c10) ku_Cr_codeBody kw1282 kv_Cr_codeBody rfl (zd_rmI (by decide)) ⟨Nat.le_refl _, Nat.le_refl _⟩ rfl rfl rfl (Nat.le_of_ble_eq_true rfl) kd_Cr_codeIf_55 rfl (c1 := 0) (s1 := 0) rfl rfl (fun v w hp => ?_)
        obtain ⟨rfl, rfl⟩ := hp
        refine zk_stk (r' := []) rfl ?_
        refine zk_goto (tgt := 108) C kd_Cr_codeIf_58 (by decide) ?_
        refine zk_lvs (lv' := [(0, .ref (S.1 47)), (2, .int x2), (3, .int x3), (4, .int x4), (5, .int x5)]) [0, 1, 2, 3, 4] rfl ?_
        exact zb_Cr_codeIf_108 C hR hr_Cr_codeBody hr_Cr_codeBranch hk16 h11 x2 x3 x4 x5 e
theorem zl_Cr_codeIf_16 {X : zkj_T} {S : zs_T} {P : ze_T} {l : Launch} {D : va_G} {sz0 : Nat} {d : Nat} {rh : zs_H} (C : zk_C X km_Cr_codeIf (zs_G S l D sz0) { frames := 403 + (d + 1), cells := 0, slots := 0, locals := 10473 + 30 * (d + 1) } (ze_E P)) (hR : zkj_R X (zd_PV S rh) (none)) {r_Cr_codeBody : zs_H → Int32 → Int32 → (Option zs_H)} (hr_Cr_codeBody : ∀ (h : zs_H) (x0 : Int32) (x1 : Int32) {rh : zs_H}, r_Cr_codeBody h x0 x1 = some rh → zk_Sp (zs_G S l D sz0) (ze_E P) km_Cr_codeBody { frames := 403 + d, cells := 0, slots := 0, locals := 10473 + 30 * d } [.ref (S.1 47), .int x0, .int x1] (zs_W S h) (zd_PV S rh)) {r_Cr_codeBranch : zs_H → Int32 → Int32 → Int32 → Int32 → (Option (Int32 × zs_H))} (hr_Cr_codeBranch : ∀ (h : zs_H) (x0 : Int32) (x1 : Int32) (x2 : Int32) (x3 : Int32) {rv : Int32} {rh : zs_H}, r_Cr_codeBranch h x0 x1 x2 x3 = some (rv, rh) → zk_Sp (zs_G S l D sz0) (ze_E P) km_Cr_codeBranch { frames := 403 + d, cells := 0, slots := 0, locals := 10473 + 30 * d } [.ref (S.1 47), .int x0, .int x1, .int x2, .int x3] (zs_W S h) (zd_PI S rv rh)) (n : Nat) : ∀ (h : zs_H) (x2 : Int32) (x3 : Int32) (x4 : Int32) (x5 : Int32), f_Cr_codeIf_L16 r_Cr_codeBody r_Cr_codeBranch n h x2 x3 x4 x5 = some rh → zk_Ab X (zs_W S h) 0 0 16 [(0, .ref (S.1 47)), (2, .int x2), (3, .int x3), (4, .int x4), (5, .int x5)] [] := by
  induction n with
  | zero => intro h x2 x3 x4 x5 e; exact zd_no e
  | succ n ih => intro h x2 x3 x4 x5 e; exact zb_Cr_codeIf_16 (k16 := f_Cr_codeIf_L16 r_Cr_codeBody r_Cr_codeBranch n) C hR hr_Cr_codeBody hr_Cr_codeBranch ih h x2 x3 x4 x5 e
set_option maxHeartbeats 4000000 in
set_option maxRecDepth 100000 in
theorem zg_Cr_codeIf {l : Launch} {D : va_G} {sz0 : Nat} {S : zs_T} {P : ze_T} {d : Nat} {r_Cr_codeBody : zs_H → Int32 → Int32 → (Option zs_H)} (hr_Cr_codeBody : ∀ (h : zs_H) (x0 : Int32) (x1 : Int32) {rh : zs_H}, r_Cr_codeBody h x0 x1 = some rh → zk_Sp (zs_G S l D sz0) (ze_E P) km_Cr_codeBody { frames := 403 + d, cells := 0, slots := 0, locals := 10473 + 30 * d } [.ref (S.1 47), .int x0, .int x1] (zs_W S h) (zd_PV S rh)) {r_Cr_codeBranch : zs_H → Int32 → Int32 → Int32 → Int32 → (Option (Int32 × zs_H))} (hr_Cr_codeBranch : ∀ (h : zs_H) (x0 : Int32) (x1 : Int32) (x2 : Int32) (x3 : Int32) {rv : Int32} {rh : zs_H}, r_Cr_codeBranch h x0 x1 x2 x3 = some (rv, rh) → zk_Sp (zs_G S l D sz0) (ze_E P) km_Cr_codeBranch { frames := 403 + d, cells := 0, slots := 0, locals := 10473 + 30 * d } [.ref (S.1 47), .int x0, .int x1, .int x2, .int x3] (zs_W S h) (zd_PI S rv rh)) (h : zs_H) (x1 : Int32) (x2 : Int32) {rh : zs_H} (e : g_Cr_codeIf r_Cr_codeBody r_Cr_codeBranch h x1 x2 = some rh) : zk_Sp (zs_G S l D sz0) (ze_E P) km_Cr_codeIf { frames := 403 + (d + 1), cells := 0, slots := 0, locals := 10473 + 30 * (d + 1) } [.ref (S.1 47), .int x1, .int x2] (zs_W S h) (zd_PV S rh) := by
  refine zk_met ku_Cr_codeIf (Nat.le_of_ble_eq_true rfl) (ze_Em P) ?_
  intro X C hR
  refine zk_lvs (lv' := [(0, .ref (S.1 47)), (1, .int x1), (2, .int x2)]) [0, 1, 2] rfl ?_
  unfold g_Cr_codeIf at e
  refine zk_iconst (v := (-1)) C kd_Cr_codeIf_0 (by decide) rfl ?_
  refine zk_istore_n (lv' := [(3, _), (0, _), (1, _), (2, _)]) C kd_Cr_codeIf_1 rfl (by decide) rfl rfl ?_
  refine zk_aload_n C kd_Cr_codeIf_2 rfl 1 rfl rfl ?_
  refine zs_get (v := .ref (S.1 12)) C 47 0 rfl rfl rfl rfl ki_Cr (by decide) kw442 kd_Cr_codeIf_3 rfl ?_
  refine zs_get (v := .ref (S.1 17)) C 12 4 rfl rfl rfl rfl ki_Tr (by decide) kw171 kd_Cr_codeIf_6 rfl ?_
  refine zk_iload_n C kd_Cr_codeIf_9 rfl 2 rfl rfl ?_
  obtain ⟨q1, e⟩ := zd_g e
  refine zs_iald C 17 rfl (zd_vp q1) kd_Cr_codeIf_10 rfl ?_
  refine zk_istore (lv' := [(4, _), (3, _), (0, _), (1, _), (2, _)]) C kd_Cr_codeIf_11 (by decide) rfl rfl ?_
  refine zk_iconst (v := 0) C kd_Cr_codeIf_13 (by decide) rfl ?_
  refine zk_istore (lv' := [(5, _), (4, _), (3, _), (0, _), (1, _), (2, _)]) C kd_Cr_codeIf_14 (by decide) rfl rfl ?_
  refine zk_lvs (lv' := [(0, .ref (S.1 47)), (2, .int x2), (3, .int (-1)), (4, .int (h.2.1 17 x1.toNatClampNeg)), (5, .int 0)]) [3, 5, 2, 1, 0] rfl ?_
  exact zl_Cr_codeIf_16 C hR hr_Cr_codeBody hr_Cr_codeBranch zF h x2 (-1) (h.2.1 17 x1.toNatClampNeg) 0 e
theorem zs_Cr_codeBody {l : Launch} {D : va_G} {sz0 : Nat} {S : zs_T} {P : ze_T} (d : Nat) : (∀ (h : zs_H) (x0 : Int32) (x1 : Int32) {rh : zs_H}, f_Cr_codeBody d h x0 x1 = some rh → zk_Sp (zs_G S l D sz0) (ze_E P) km_Cr_codeBody { frames := 403 + d, cells := 0, slots := 0, locals := 10473 + 30 * d } [.ref (S.1 47), .int x0, .int x1] (zs_W S h) (zd_PV S rh)) ∧ (∀ (h : zs_H) (x0 : Int32) (x1 : Int32) (x2 : Int32) (x3 : Int32) {rv : Int32} {rh : zs_H}, f_Cr_codeBranch d h x0 x1 x2 x3 = some (rv, rh) → zk_Sp (zs_G S l D sz0) (ze_E P) km_Cr_codeBranch { frames := 403 + d, cells := 0, slots := 0, locals := 10473 + 30 * d } [.ref (S.1 47), .int x0, .int x1, .int x2, .int x3] (zs_W S h) (zd_PI S rv rh)) ∧ (∀ (h : zs_H) (x0 : Int32) (x1 : Int32) {rh : zs_H}, f_Cr_codeCase d h x0 x1 = some rh → zk_Sp (zs_G S l D sz0) (ze_E P) km_Cr_codeCase { frames := 403 + d, cells := 0, slots := 0, locals := 10473 + 30 * d } [.ref (S.1 47), .int x0, .int x1] (zs_W S h) (zd_PV S rh)) ∧ (∀ (h : zs_H) (x0 : Int32) (x1 : Int32) {rh : zs_H}, f_Cr_codeFor d h x0 x1 = some rh → zk_Sp (zs_G S l D sz0) (ze_E P) km_Cr_codeFor { frames := 403 + d, cells := 0, slots := 0, locals := 10473 + 30 * d } [.ref (S.1 47), .int x0, .int x1] (zs_W S h) (zd_PV S rh)) ∧ (∀ (h : zs_H) (x0 : Int32) (x1 : Int32) {rh : zs_H}, f_Cr_codeIf d h x0 x1 = some rh → zk_Sp (zs_G S l D sz0) (ze_E P) km_Cr_codeIf { frames := 403 + d, cells := 0, slots := 0, locals := 10473 + 30 * d } [.ref (S.1 47), .int x0, .int x1] (zs_W S h) (zd_PV S rh)) := by
  induction d with
  | zero => exact ⟨(fun h x0 x1 _ e => zd_no e), (fun h x0 x1 x2 x3 _ _ e => zd_no e), (fun h x0 x1 _ e => zd_no e), (fun h x0 x1 _ e => zd_no e), (fun h x0 x1 _ e => zd_no e)⟩
  | succ d ih =>
    obtain ⟨q0, q1, q2, q3, q4⟩ := ih
    exact ⟨(fun h x0 x1 _ e => zg_Cr_codeBody (r_Cr_codeCase := f_Cr_codeCase d) q2 (r_Cr_codeFor := f_Cr_codeFor d) q3 (r_Cr_codeIf := f_Cr_codeIf d) q4 h x0 x1 e), (fun h x0 x1 x2 x3 _ _ e => zg_Cr_codeBranch (r_Cr_codeBody := f_Cr_codeBody d) q0 h x0 x1 x2 x3 e), (fun h x0 x1 _ e => zg_Cr_codeCase (r_Cr_codeBody := f_Cr_codeBody d) q0 (r_Cr_codeBranch := f_Cr_codeBranch d) q1 h x0 x1 e), (fun h x0 x1 _ e => zg_Cr_codeFor (r_Cr_codeBody := f_Cr_codeBody d) q0 h x0 x1 e), (fun h x0 x1 _ e => zg_Cr_codeIf (r_Cr_codeBody := f_Cr_codeBody d) q0 (r_Cr_codeBranch := f_Cr_codeBranch d) q1 h x0 x1 e)⟩
theorem zc_Cr_codeBody {l : Launch} {D : va_G} {sz0 : Nat} {S : zs_T} {P : ze_T} (h : zs_H) (x0 : Int32) (x1 : Int32) {rh : zs_H} (e : f_Cr_codeBody 400 h x0 x1 = some rh) : zk_Sp (zs_G S l D sz0) (ze_E P) km_Cr_codeBody { frames := 403 + 400, cells := 0, slots := 0, locals := 10473 + 30 * 400 } [.ref (S.1 47), .int x0, .int x1] (zs_W S h) (zd_PV S rh) := (zs_Cr_codeBody 400).1 h x0 x1 e
theorem zc_Cr_codeBranch {l : Launch} {D : va_G} {sz0 : Nat} {S : zs_T} {P : ze_T} (h : zs_H) (x0 : Int32) (x1 : Int32) (x2 : Int32) (x3 : Int32) {rv : Int32} {rh : zs_H} (e : f_Cr_codeBranch 400 h x0 x1 x2 x3 = some (rv, rh)) : zk_Sp (zs_G S l D sz0) (ze_E P) km_Cr_codeBranch { frames := 403 + 400, cells := 0, slots := 0, locals := 10473 + 30 * 400 } [.ref (S.1 47), .int x0, .int x1, .int x2, .int x3] (zs_W S h) (zd_PI S rv rh) := (zs_Cr_codeBody 400).2.1 h x0 x1 x2 x3 e
theorem zc_Cr_codeCase {l : Launch} {D : va_G} {sz0 : Nat} {S : zs_T} {P : ze_T} (h : zs_H) (x0 : Int32) (x1 : Int32) {rh : zs_H} (e : f_Cr_codeCase 400 h x0 x1 = some rh) : zk_Sp (zs_G S l D sz0) (ze_E P) km_Cr_codeCase { frames := 403 + 400, cells := 0, slots := 0, locals := 10473 + 30 * 400 } [.ref (S.1 47), .int x0, .int x1] (zs_W S h) (zd_PV S rh) := (zs_Cr_codeBody 400).2.2.1 h x0 x1 e
theorem zc_Cr_codeFor {l : Launch} {D : va_G} {sz0 : Nat} {S : zs_T} {P : ze_T} (h : zs_H) (x0 : Int32) (x1 : Int32) {rh : zs_H} (e : f_Cr_codeFor 400 h x0 x1 = some rh) : zk_Sp (zs_G S l D sz0) (ze_E P) km_Cr_codeFor { frames := 403 + 400, cells := 0, slots := 0, locals := 10473 + 30 * 400 } [.ref (S.1 47), .int x0, .int x1] (zs_W S h) (zd_PV S rh) := (zs_Cr_codeBody 400).2.2.2.1 h x0 x1 e
theorem zc_Cr_codeIf {l : Launch} {D : va_G} {sz0 : Nat} {S : zs_T} {P : ze_T} (h : zs_H) (x0 : Int32) (x1 : Int32) {rh : zs_H} (e : f_Cr_codeIf 400 h x0 x1 = some rh) : zk_Sp (zs_G S l D sz0) (ze_E P) km_Cr_codeIf { frames := 403 + 400, cells := 0, slots := 0, locals := 10473 + 30 * 400 } [.ref (S.1 47), .int x0, .int x1] (zs_W S h) (zd_PV S rh) := (zs_Cr_codeBody 400).2.2.2.2 h x0 x1 e
set_option maxHeartbeats 4000000 in
set_option maxRecDepth 100000 in
theorem zb_Cr_layCell_98 {X : zkj_T} {S : zs_T} {P : ze_T} {l : Launch} {D : va_G} {sz0 : Nat} {rh : zs_H} (C : zk_C X km_Cr_layCell (zs_G S l D sz0) { frames := 0, cells := 0, slots := 0, locals := 0 } (ze_E P)) (hR : zkj_R X (zd_PV S rh) (none)) (h : zs_H) (e : f_Cr_layCell_98 h = some rh) : zk_Ab X (zs_W S h) 0 0 98 [(0, .ref (S.1 47))] [] := by
  unfold f_Cr_layCell_98 at e
  refine zk_aload_n C kd_Cr_layCell_98 rfl 0 rfl rfl ?_
  refine zk_dup C kd_Cr_layCell_99 rfl rfl ?_
  refine zs_get (v := .int (h.1 47 11)) C 47 11 rfl rfl rfl rfl ki_Cr (by decide) kw453 kd_Cr_layCell_100 rfl ?_
  refine zk_iconst (v := 1) C kd_Cr_layCell_103 (by decide) rfl ?_
  refine zk_iadd C kd_Cr_layCell_104 rfl ?_
  refine zs_put (ty := .int) C 47 11 ((h.1 47 11) + 1) rfl rfl rfl rfl ki_Cr ky_Cr ko_Cr kn_Cr (by decide) kw453 rfl rfl rfl rfl (by decide) kd_Cr_layCell_105 rfl ?_
  exact zk_vret C hR kd_Cr_layCell_108 rfl rfl (zd_rV e)
set_option maxHeartbeats 4000000 in
set_option maxRecDepth 100000 in
theorem zc_Cr_layCell {l : Launch} {D : va_G} {sz0 : Nat} {S : zs_T} {P : ze_T} (h : zs_H) (x1 : Int32) {rh : zs_H} (e : f_Cr_layCell h x1 = some rh) : zk_Sp (zs_G S l D sz0) (ze_E P) km_Cr_layCell { frames := 0, cells := 0, slots := 0, locals := 0 } [.ref (S.1 47), .int x1] (zs_W S h) (zd_PV S rh) := by
  refine zk_met ku_Cr_layCell (Nat.le_of_ble_eq_true rfl) (ze_Em P) ?_
  intro X C hR
  refine zk_lvs (lv' := [(0, .ref (S.1 47)), (1, .int x1)]) [0, 1] rfl ?_
  unfold f_Cr_layCell at e
  refine zk_aload_n C kd_Cr_layCell_0 rfl 0 rfl rfl ?_
  refine zs_get (v := .int (h.1 47 10)) C 47 10 rfl rfl rfl rfl ki_Cr (by decide) kw452 kd_Cr_layCell_1 rfl ?_
  refine zk_bipush (v := 12) C kd_Cr_layCell_4 (by decide) rfl ?_
  refine zk_imul C kd_Cr_layCell_6 rfl ?_
  refine zk_aload_n C kd_Cr_layCell_7 rfl 0 rfl rfl ?_
  refine zs_get (v := .int (h.1 47 11)) C 47 11 rfl rfl rfl rfl ki_Cr (by decide) kw453 kd_Cr_layCell_8 rfl ?_
  refine zk_iadd C kd_Cr_layCell_11 rfl ?_
  refine zk_istore_n (lv' := [(2, _), (0, _), (1, _)]) C kd_Cr_layCell_12 rfl (by decide) rfl rfl ?_
  refine zk_aload_n C kd_Cr_layCell_13 rfl 1 rfl rfl ?_
  refine zs_get (v := .ref (S.1 12)) C 47 0 rfl rfl rfl rfl ki_Cr (by decide) kw442 kd_Cr_layCell_14 rfl ?_
  refine zs_get (v := .ref (S.1 13)) C 12 0 rfl rfl rfl rfl ki_Tr (by decide) kw156 kd_Cr_layCell_17 rfl ?_
  refine zk_iload_n C kd_Cr_layCell_20 rfl 2 rfl rfl ?_
  obtain ⟨q1, e⟩ := zd_g e
  refine zs_bald C 13 rfl (zd_vp q1) kd_Cr_layCell_21 rfl ?_
  refine zk_bipush (v := 29) C kd_Cr_layCell_22 (by decide) rfl ?_
  refine zk_icmp_ne (tgt := 37) C kd_Cr_layCell_24 (by decide) rfl (fun b2 => ?_) (fun b2 => ?_)
  · replace e := zd_neg b2 e
    refine zk_aload_n C kd_Cr_layCell_37 rfl 1 rfl rfl ?_
    refine zs_get (v := .ref (S.1 48)) C 47 7 rfl rfl rfl rfl ki_Cr (by decide) kw449 kd_Cr_layCell_38 rfl ?_
    refine zk_iload_n C kd_Cr_layCell_41 rfl 0 rfl rfl ?_
    refine zk_iload_n C kd_Cr_layCell_42 rfl 2 rfl rfl ?_
    obtain ⟨q3, e⟩ := zd_g e
    refine zs_iast C 48 rfl (zd_vp q3) kd_Cr_layCell_43 rfl ?_
    refine zk_aload_n C kd_Cr_layCell_44 rfl 1 rfl rfl ?_
    refine zs_get (v := .ref (S.1 50)) C 47 9 rfl rfl rfl rfl ki_Cr (by decide) kw451 kd_Cr_layCell_45 rfl ?_
    refine zk_iload_n C kd_Cr_layCell_48 rfl 0 rfl rfl ?_
    refine zk_iconst (v := 0) C kd_Cr_layCell_49 (by decide) rfl ?_
    refine zs_zast C 50 rfl (zd_vp q3) kd_Cr_layCell_50 rfl ?_
    refine zk_aload_n C kd_Cr_layCell_51 rfl 1 rfl rfl ?_
    refine zs_get (v := .ref (S.1 12)) C 47 0 rfl rfl rfl rfl ki_Cr (by decide) kw442 kd_Cr_layCell_52 rfl ?_
    refine zs_get (v := .ref (S.1 13)) C 12 0 rfl rfl rfl rfl ki_Tr (by decide) kw156 kd_Cr_layCell_55 rfl ?_
    refine zk_iload_n C kd_Cr_layCell_58 rfl 2 rfl rfl ?_
    refine zs_bald C 13 rfl (zd_vp q1) kd_Cr_layCell_59 rfl ?_
    refine zk_stk (r' := [.int (h.2.1 13 x1.toNatClampNeg)]) rfl ?_
    refine zk_bipush (v := 25) C kd_Cr_layCell_60 (by decide) rfl ?_
    refine zk_icmp_ne (tgt := 98) C kd_Cr_layCell_62 (by decide) rfl (fun b4 => ?_) (fun b4 => ?_)
    · replace e := zd_neg b4 e
      refine zk_lvs (lv' := [(0, .ref (S.1 47))]) [1] rfl ?_
      exact zb_Cr_layCell_98 C hR (zs_uM (zs_uM h 48 (((h.1 47 10) * 12) + (h.1 47 11)).toNatClampNeg x1) 50 (((h.1 47 10) * 12) + (h.1 47 11)).toNatClampNeg (vp_nar .boolean 0)) e
    · replace e := zd_pos b4 e
      refine zk_aload_n C kd_Cr_layCell_65 rfl 1 rfl rfl ?_
      refine zs_get (v := .ref (S.1 12)) C 47 0 rfl rfl rfl rfl ki_Cr (by decide) kw442 kd_Cr_layCell_66 rfl ?_
      refine zs_get (v := .ref (S.1 16)) C 12 3 rfl rfl rfl rfl ki_Tr (by decide) kw167 kd_Cr_layCell_69 rfl ?_
      refine zk_iload_n C kd_Cr_layCell_72 rfl 2 rfl rfl ?_
      refine zs_iald C 16 rfl (zd_vp q1) kd_Cr_layCell_73 rfl ?_
      refine zk_stk (r' := [.int (h.2.1 16 x1.toNatClampNeg)]) rfl ?_
      refine zk_iconst (v := 2) C kd_Cr_layCell_74 (by decide) rfl ?_
      refine zk_icmp_lt (tgt := 98) C kd_Cr_layCell_75 (by decide) rfl (fun b5 => ?_) (fun b5 => ?_)
      · replace e := zd_pos b5 e
        refine zk_lvs (lv' := [(0, .ref (S.1 47))]) [1] rfl ?_
        exact zb_Cr_layCell_98 C hR (zs_uM (zs_uM h 48 (((h.1 47 10) * 12) + (h.1 47 11)).toNatClampNeg x1) 50 (((h.1 47 10) * 12) + (h.1 47 11)).toNatClampNeg (vp_nar .boolean 0)) e
      · replace e := zd_neg b5 e
        refine zk_aload_n C kd_Cr_layCell_78 rfl 1 rfl rfl ?_
        refine zs_get (v := .ref (S.1 49)) C 47 8 rfl rfl rfl rfl ki_Cr (by decide) kw450 kd_Cr_layCell_79 rfl ?_
        refine zk_iload_n C kd_Cr_layCell_82 rfl 0 rfl rfl ?_
        refine zk_aload_n C kd_Cr_layCell_83 rfl 1 rfl rfl ?_
        refine zs_get (v := .int (h.1 47 4)) C 47 4 rfl rfl rfl rfl ki_Cr (by decide) kw446 kd_Cr_layCell_84 rfl ?_
        refine zs_iast C 49 rfl (zd_vp q3) kd_Cr_layCell_87 rfl ?_
        refine zk_aload_n C kd_Cr_layCell_88 rfl 1 rfl rfl ?_
        refine zk_dup C kd_Cr_layCell_89 rfl rfl ?_
        refine zs_get (v := .int (h.1 47 4)) C 47 4 rfl rfl rfl rfl ki_Cr (by decide) kw446 kd_Cr_layCell_90 rfl ?_
        refine zk_iconst (v := 1) C kd_Cr_layCell_93 (by decide) rfl ?_
        refine zk_iadd C kd_Cr_layCell_94 rfl ?_
        refine zs_put (ty := .int) C 47 4 ((h.1 47 4) + 1) rfl rfl rfl rfl ki_Cr ky_Cr ko_Cr kn_Cr (by decide) kw446 rfl rfl rfl rfl (by decide) kd_Cr_layCell_95 rfl ?_
        refine zk_lvs (lv' := [(0, .ref (S.1 47))]) [1] rfl ?_
        exact zb_Cr_layCell_98 C hR (zs_uF (zs_uM (zs_uM (zs_uM h 48 (((h.1 47 10) * 12) + (h.1 47 11)).toNatClampNeg x1) 50 (((h.1 47 10) * 12) + (h.1 47 11)).toNatClampNeg (vp_nar .boolean 0)) 49 (((h.1 47 10) * 12) + (h.1 47 11)).toNatClampNeg (h.1 47 4)) 47 4 ((h.1 47 4) + 1)) e
  · replace e := zd_pos b2 e
    refine zk_aload_n C kd_Cr_layCell_27 rfl 1 rfl rfl ?_
    refine zs_get (v := .ref (S.1 50)) C 47 9 rfl rfl rfl rfl ki_Cr (by decide) kw451 kd_Cr_layCell_28 rfl ?_
    refine zk_iload_n C kd_Cr_layCell_31 rfl 0 rfl rfl ?_
    refine zk_iconst (v := 1) C kd_Cr_layCell_32 (by decide) rfl ?_
    refine zk_isub C kd_Cr_layCell_33 rfl ?_
    refine zk_iconst (v := 1) C kd_Cr_layCell_34 (by decide) rfl ?_
    obtain ⟨q6, e⟩ := zd_g e
    refine zs_zast C 50 rfl (zd_vp q6) kd_Cr_layCell_35 rfl ?_
    exact zk_vret C hR kd_Cr_layCell_36 rfl rfl (zd_rV e)
set_option maxHeartbeats 4000000 in
set_option maxRecDepth 100000 in
theorem zb_Cr_layGrid_84 {X : zkj_T} {S : zs_T} {P : ze_T} {l : Launch} {D : va_G} {sz0 : Nat} {rh : zs_H} (C : zk_C X km_Cr_layGrid (zs_G S l D sz0) { frames := 1, cells := 0, slots := 0, locals := 22 } (ze_E P)) (hR : zkj_R X (zd_PV S rh) (none)) {k17 : zs_H → Int32 → Int32 → (Option zs_H)} (hk17 : ∀ (h : zs_H) (x2 : Int32) (x3 : Int32), k17 h x2 x3 = some rh → zk_Ab X (zs_W S h) 0 0 17 [(0, .ref (S.1 47)), (2, .int x2), (3, .int x3)] []) (h : zs_H) (x2 : Int32) (x3 : Int32) (e : f_Cr_layGrid_84 k17 h x2 x3 = some rh) : zk_Ab X (zs_W S h) 0 0 84 [(0, .ref (S.1 47)), (2, .int x2), (3, .int x3)] [] := by
  unfold f_Cr_layGrid_84 at e
  refine zk_aload_n C kd_Cr_layGrid_84 rfl 0 rfl rfl ?_
  refine zk_dup C kd_Cr_layGrid_85 rfl rfl ?_
  refine zs_get (v := .int (h.1 47 10)) C 47 10 rfl rfl rfl rfl ki_Cr (by decide) kw452 kd_Cr_layGrid_86 rfl ?_
  refine zk_iconst (v := 1) C kd_Cr_layGrid_89 (by decide) rfl ?_
  refine zk_iadd C kd_Cr_layGrid_90 rfl ?_
  refine zs_put (ty := .int) C 47 10 ((h.1 47 10) + 1) rfl rfl rfl rfl ki_Cr ky_Cr ko_Cr kn_Cr (by decide) kw452 rfl rfl rfl rfl (by decide) kd_Cr_layGrid_91 rfl ?_
  refine zk_aload_n C kd_Cr_layGrid_94 rfl 0 rfl rfl ?_
  refine zs_get (v := .ref (S.1 12)) C 47 0 rfl rfl rfl rfl ki_Cr (by decide) kw442 kd_Cr_layGrid_95 rfl ?_
  refine zs_get (v := .ref (S.1 18)) C 12 5 rfl rfl rfl rfl ki_Tr (by decide) kw174 kd_Cr_layGrid_98 rfl ?_
  refine zk_iload_n C kd_Cr_layGrid_101 rfl 1 rfl rfl ?_
  obtain ⟨q1, e⟩ := zd_g e
  refine zs_iald C 18 rfl (zd_vp q1) kd_Cr_layGrid_102 rfl ?_
  refine zk_stk (r' := [.int (h.2.1 18 x2.toNatClampNeg)]) rfl ?_
  refine zk_istore_n (lv' := [(2, _), (0, _), (3, _)]) C kd_Cr_layGrid_103 rfl (by decide) rfl rfl ?_
  refine zk_iinc (v := (x3 + 1)) (lv' := [(3, _), (2, _), (0, _)]) C kd_Cr_layGrid_104 2 rfl rfl (by decide) rfl rfl ?_
  refine zk_goto (tgt := 17) C kd_Cr_layGrid_107 (by decide) ?_
  refine zk_lvs (lv' := [(0, .ref (S.1 47)), (2, .int (h.2.1 18 x2.toNatClampNeg)), (3, .int (x3 + 1))]) [2, 1, 0] rfl ?_
  exact hk17 (zs_uF h 47 10 ((h.1 47 10) + 1)) (h.2.1 18 x2.toNatClampNeg) (x3 + 1) e
set_option maxHeartbeats 4000000 in
set_option maxRecDepth 100000 in
theorem zb_Cr_layGrid_47 {X : zkj_T} {S : zs_T} {P : ze_T} {l : Launch} {D : va_G} {sz0 : Nat} {rh : zs_H} (C : zk_C X km_Cr_layGrid (zs_G S l D sz0) { frames := 1, cells := 0, slots := 0, locals := 22 } (ze_E P)) (hR : zkj_R X (zd_PV S rh) (none)) {k17 : zs_H → Int32 → Int32 → (Option zs_H)} (hk17 : ∀ (h : zs_H) (x2 : Int32) (x3 : Int32), k17 h x2 x3 = some rh → zk_Ab X (zs_W S h) 0 0 17 [(0, .ref (S.1 47)), (2, .int x2), (3, .int x3)] []) {k47 : zs_H → Int32 → Int32 → Int32 → Int32 → (Option zs_H)} (hk47 : ∀ (h : zs_H) (x2 : Int32) (x3 : Int32) (x4 : Int32) (x5 : Int32), k47 h x2 x3 x4 x5 = some rh → zk_Ab X (zs_W S h) 0 0 47 [(0, .ref (S.1 47)), (2, .int x2), (3, .int x3), (4, .int x4), (5, .int x5)] []) (h : zs_H) (x2 : Int32) (x3 : Int32) (x4 : Int32) (x5 : Int32) (e : f_Cr_layGrid_47 k17 k47 h x2 x3 x4 x5 = some rh) : zk_Ab X (zs_W S h) 0 0 47 [(0, .ref (S.1 47)), (2, .int x2), (3, .int x3), (4, .int x4), (5, .int x5)] [] := by
  unfold f_Cr_layGrid_47 at e
  refine zk_iload C kd_Cr_layGrid_47 4 rfl rfl ?_
  refine zk_bipush (v := 24) C kd_Cr_layGrid_49 (by decide) rfl ?_
  refine zk_icmp_ge (tgt := 84) C kd_Cr_layGrid_51 (by decide) rfl (fun b1 => ?_) (fun b1 => ?_)
  · replace e := zd_pos b1 e
    refine zk_lvs (lv' := [(0, .ref (S.1 47)), (2, .int x2), (3, .int x3)]) [0, 1, 2] rfl ?_
    exact zb_Cr_layGrid_84 C hR hk17 h x2 x3 e
  · replace e := zd_neg b1 e
    refine zk_iload C kd_Cr_layGrid_54 3 rfl rfl ?_
    refine zk_iconst (v := (-1)) C kd_Cr_layGrid_56 (by decide) rfl ?_
    refine zk_icmp_eq (tgt := 84) C kd_Cr_layGrid_57 (by decide) rfl (fun b2 => ?_) (fun b2 => ?_)
    · replace e := zd_pos b2 e
      refine zk_lvs (lv' := [(0, .ref (S.1 47)), (2, .int x2), (3, .int x3)]) [0, 1, 2] rfl ?_
      exact zb_Cr_layGrid_84 C hR hk17 h x2 x3 e
    · replace e := zd_neg b2 e
      refine zk_aload_n C kd_Cr_layGrid_60 rfl 0 rfl rfl ?_
      refine zk_iload C kd_Cr_layGrid_61 3 rfl rfl ?_
      obtain ⟨h4, c3, e⟩ := zd_b e
      refine zs_callV (k := 47) (rn := { frames := 0, cells := 0, slots := 0, locals := 0 }) (As := [.int x4]) (rest := []) C (zc_Cr_layCell h x4 c3) ku_Cr_layCell kw1354 kv_Cr_layCell rfl ⟨by decide, by decide⟩ ⟨by decide, by decide⟩ rfl rfl rfl (Nat.le_of_ble_eq_true rfl) kd_Cr_layGrid_63 rfl (c1 := 0) (s1 := 0) rfl rfl (fun v w hp => ?_)
      obtain ⟨rfl, rfl⟩ := hp
      refine zk_stk (r' := []) rfl ?_
      refine zk_aload_n C kd_Cr_layGrid_66 rfl 0 rfl rfl ?_
      refine zs_get (v := .ref (S.1 12)) C 47 0 rfl rfl rfl rfl ki_Cr (by decide) kw442 kd_Cr_layGrid_67 rfl ?_
      refine zs_get (v := .ref (S.1 18)) C 12 5 rfl rfl rfl rfl ki_Tr (by decide) kw174 kd_Cr_layGrid_70 rfl ?_
      refine zk_iload C kd_Cr_layGrid_73 3 rfl rfl ?_
      obtain ⟨q5, e⟩ := zd_g e
      refine zs_iald C 18 rfl (zd_vp q5) kd_Cr_layGrid_75 rfl ?_
      refine zk_istore (lv' := [(4, _), (0, _), (2, _), (3, _), (5, _)]) C kd_Cr_layGrid_76 (by decide) rfl rfl ?_
      refine zk_iinc (v := (x5 + 1)) (lv' := [(5, _), (4, _), (0, _), (2, _), (3, _)]) C kd_Cr_layGrid_78 4 rfl rfl (by decide) rfl rfl ?_
      refine zk_goto (tgt := 47) C kd_Cr_layGrid_81 (by decide) ?_
      refine zk_lvs (lv' := [(0, .ref (S.1 47)), (2, .int x2), (3, .int x3), (4, .int (h4.2.1 18 x4.toNatClampNeg)), (5, .int (x5 + 1))]) [2, 3, 4, 1, 0] rfl ?_
      exact hk47 h4 x2 x3 (h4.2.1 18 x4.toNatClampNeg) (x5 + 1) e
theorem zl_Cr_layGrid_47 {X : zkj_T} {S : zs_T} {P : ze_T} {l : Launch} {D : va_G} {sz0 : Nat} {rh : zs_H} (C : zk_C X km_Cr_layGrid (zs_G S l D sz0) { frames := 1, cells := 0, slots := 0, locals := 22 } (ze_E P)) (hR : zkj_R X (zd_PV S rh) (none)) {k17 : zs_H → Int32 → Int32 → (Option zs_H)} (hk17 : ∀ (h : zs_H) (x2 : Int32) (x3 : Int32), k17 h x2 x3 = some rh → zk_Ab X (zs_W S h) 0 0 17 [(0, .ref (S.1 47)), (2, .int x2), (3, .int x3)] []) (n : Nat) : ∀ (h : zs_H) (x2 : Int32) (x3 : Int32) (x4 : Int32) (x5 : Int32), f_Cr_layGrid_L47 k17 n h x2 x3 x4 x5 = some rh → zk_Ab X (zs_W S h) 0 0 47 [(0, .ref (S.1 47)), (2, .int x2), (3, .int x3), (4, .int x4), (5, .int x5)] [] := by
  induction n with
  | zero => intro h x2 x3 x4 x5 e; exact zd_no e
  | succ n ih => intro h x2 x3 x4 x5 e; exact zb_Cr_layGrid_47 (k47 := f_Cr_layGrid_L47 k17 n) C hR hk17 ih h x2 x3 x4 x5 e
set_option maxHeartbeats 4000000 in
set_option maxRecDepth 100000 in
theorem zb_Cr_layGrid_17 {X : zkj_T} {S : zs_T} {P : ze_T} {l : Launch} {D : va_G} {sz0 : Nat} {rh : zs_H} (C : zk_C X km_Cr_layGrid (zs_G S l D sz0) { frames := 1, cells := 0, slots := 0, locals := 22 } (ze_E P)) (hR : zkj_R X (zd_PV S rh) (none)) {k17 : zs_H → Int32 → Int32 → (Option zs_H)} (hk17 : ∀ (h : zs_H) (x2 : Int32) (x3 : Int32), k17 h x2 x3 = some rh → zk_Ab X (zs_W S h) 0 0 17 [(0, .ref (S.1 47)), (2, .int x2), (3, .int x3)] []) (h : zs_H) (x2 : Int32) (x3 : Int32) (e : f_Cr_layGrid_17 k17 h x2 x3 = some rh) : zk_Ab X (zs_W S h) 0 0 17 [(0, .ref (S.1 47)), (2, .int x2), (3, .int x3)] [] := by
  unfold f_Cr_layGrid_17 at e
  refine zk_iload_n C kd_Cr_layGrid_17 rfl 2 rfl rfl ?_
  refine zk_bipush (v := 12) C kd_Cr_layGrid_18 (by decide) rfl ?_
  refine zk_icmp_ge (tgt := 110) C kd_Cr_layGrid_20 (by decide) rfl (fun b1 => ?_) (fun b1 => ?_)
  · replace e := zd_pos b1 e
    exact zk_vret C hR kd_Cr_layGrid_110 rfl rfl (zd_rV e)
  · replace e := zd_neg b1 e
    refine zk_iload_n C kd_Cr_layGrid_23 rfl 1 rfl rfl ?_
    refine zk_iconst (v := (-1)) C kd_Cr_layGrid_24 (by decide) rfl ?_
    refine zk_icmp_eq (tgt := 110) C kd_Cr_layGrid_25 (by decide) rfl (fun b2 => ?_) (fun b2 => ?_)
    · replace e := zd_pos b2 e
      exact zk_vret C hR kd_Cr_layGrid_110 rfl rfl (zd_rV e)
    · replace e := zd_neg b2 e
      refine zk_aload_n C kd_Cr_layGrid_28 rfl 0 rfl rfl ?_
      refine zk_iconst (v := 0) C kd_Cr_layGrid_29 (by decide) rfl ?_
      refine zs_put (ty := .int) C 47 11 0 rfl rfl rfl rfl ki_Cr ky_Cr ko_Cr kn_Cr (by decide) kw453 rfl rfl rfl rfl (by decide) kd_Cr_layGrid_30 rfl ?_
      refine zk_aload_n C kd_Cr_layGrid_33 rfl 0 rfl rfl ?_
      refine zs_get (v := .ref (S.1 12)) C 47 0 rfl rfl rfl rfl ki_Cr (by decide) kw442 kd_Cr_layGrid_34 rfl ?_
      refine zs_get (v := .ref (S.1 17)) C 12 4 rfl rfl rfl rfl ki_Tr (by decide) kw171 kd_Cr_layGrid_37 rfl ?_
      refine zk_iload_n C kd_Cr_layGrid_40 rfl 1 rfl rfl ?_
      obtain ⟨q3, e⟩ := zd_g e
      refine zs_iald C 17 rfl (zd_vp q3) kd_Cr_layGrid_41 rfl ?_
      refine zk_stk (r' := [.int (h.2.1 17 x2.toNatClampNeg)]) rfl ?_
      refine zk_istore (lv' := [(4, _), (0, _), (2, _), (3, _)]) C kd_Cr_layGrid_42 (by decide) rfl rfl ?_
      refine zk_iconst (v := 0) C kd_Cr_layGrid_44 (by decide) rfl ?_
      refine zk_istore (lv' := [(5, _), (4, _), (0, _), (2, _), (3, _)]) C kd_Cr_layGrid_45 (by decide) rfl rfl ?_
      refine zk_lvs (lv' := [(0, .ref (S.1 47)), (2, .int x2), (3, .int x3), (4, .int (h.2.1 17 x2.toNatClampNeg)), (5, .int 0)]) [2, 3, 4, 1, 0] rfl ?_
      exact zl_Cr_layGrid_47 C hR hk17 zF (zs_uF h 47 11 0) x2 x3 (h.2.1 17 x2.toNatClampNeg) 0 e
theorem zl_Cr_layGrid_17 {X : zkj_T} {S : zs_T} {P : ze_T} {l : Launch} {D : va_G} {sz0 : Nat} {rh : zs_H} (C : zk_C X km_Cr_layGrid (zs_G S l D sz0) { frames := 1, cells := 0, slots := 0, locals := 22 } (ze_E P)) (hR : zkj_R X (zd_PV S rh) (none)) (n : Nat) : ∀ (h : zs_H) (x2 : Int32) (x3 : Int32), f_Cr_layGrid_L17 n h x2 x3 = some rh → zk_Ab X (zs_W S h) 0 0 17 [(0, .ref (S.1 47)), (2, .int x2), (3, .int x3)] [] := by
  induction n with
  | zero => intro h x2 x3 e; exact zd_no e
  | succ n ih => intro h x2 x3 e; exact zb_Cr_layGrid_17 (k17 := f_Cr_layGrid_L17  n) C hR ih h x2 x3 e
set_option maxHeartbeats 4000000 in
set_option maxRecDepth 100000 in
theorem zc_Cr_layGrid {l : Launch} {D : va_G} {sz0 : Nat} {S : zs_T} {P : ze_T} (h : zs_H) (x1 : Int32) {rh : zs_H} (e : f_Cr_layGrid h x1 = some rh) : zk_Sp (zs_G S l D sz0) (ze_E P) km_Cr_layGrid { frames := 1, cells := 0, slots := 0, locals := 22 } [.ref (S.1 47), .int x1] (zs_W S h) (zd_PV S rh) := by
  refine zk_met ku_Cr_layGrid (Nat.le_of_ble_eq_true rfl) (ze_Em P) ?_
  intro X C hR
  refine zk_lvs (lv' := [(0, .ref (S.1 47)), (1, .int x1)]) [0, 1] rfl ?_
  unfold f_Cr_layGrid at e
  refine zk_aload_n C kd_Cr_layGrid_0 rfl 0 rfl rfl ?_
  refine zk_iconst (v := 0) C kd_Cr_layGrid_1 (by decide) rfl ?_
  refine zs_put (ty := .int) C 47 10 0 rfl rfl rfl rfl ki_Cr ky_Cr ko_Cr kn_Cr (by decide) kw452 rfl rfl rfl rfl (by decide) kd_Cr_layGrid_2 rfl ?_
  refine zk_aload_n C kd_Cr_layGrid_5 rfl 0 rfl rfl ?_
  refine zs_get (v := .ref (S.1 12)) C 47 0 rfl rfl rfl rfl ki_Cr (by decide) kw442 kd_Cr_layGrid_6 rfl ?_
  refine zs_get (v := .ref (S.1 17)) C 12 4 rfl rfl rfl rfl ki_Tr (by decide) kw171 kd_Cr_layGrid_9 rfl ?_
  refine zk_iload_n C kd_Cr_layGrid_12 rfl 1 rfl rfl ?_
  obtain ⟨q1, e⟩ := zd_g e
  refine zs_iald C 17 rfl (zd_vp q1) kd_Cr_layGrid_13 rfl ?_
  refine zk_stk (r' := [.int (h.2.1 17 x1.toNatClampNeg)]) rfl ?_
  refine zk_istore_n (lv' := [(2, _), (0, _), (1, _)]) C kd_Cr_layGrid_14 rfl (by decide) rfl rfl ?_
  refine zk_iconst (v := 0) C kd_Cr_layGrid_15 (by decide) rfl ?_
  refine zk_istore_n (lv' := [(3, _), (2, _), (0, _), (1, _)]) C kd_Cr_layGrid_16 rfl (by decide) rfl rfl ?_
  refine zk_lvs (lv' := [(0, .ref (S.1 47)), (2, .int (h.2.1 17 x1.toNatClampNeg)), (3, .int 0)]) [2, 1, 0] rfl ?_
  exact zl_Cr_layGrid_17 C hR zF (zs_uF h 47 10 0) (h.2.1 17 x1.toNatClampNeg) 0 e
set_option maxHeartbeats 4000000 in
set_option maxRecDepth 100000 in
theorem zb_Cr_lastOfGroup_2 {X : zkj_T} {S : zs_T} {P : ze_T} {l : Launch} {D : va_G} {sz0 : Nat} {rv : Int32} {h : zs_H} (C : zk_C X km_Cr_lastOfGroup (zs_G S l D sz0) { frames := 0, cells := 0, slots := 0, locals := 0 } (ze_E P)) (hR : zkj_R X (zd_PI S rv h) (some .int)) {k2 : Int32 → Int32 → (Option Int32)} (hk2 : ∀ (x2 : Int32) (x3 : Int32), k2 x2 x3 = some rv → zk_Ab X (zs_W S h) 0 0 2 [(0, .ref (S.1 47)), (2, .int x2), (3, .int x3)] []) (x2 : Int32) (x3 : Int32) (e : f_Cr_lastOfGroup_2 h k2 x2 x3 = some rv) : zk_Ab X (zs_W S h) 0 0 2 [(0, .ref (S.1 47)), (2, .int x2), (3, .int x3)] [] := by
  unfold f_Cr_lastOfGroup_2 at e
  refine zk_iload_n C kd_Cr_lastOfGroup_2 rfl 2 rfl rfl ?_
  refine zk_aload_n C kd_Cr_lastOfGroup_3 rfl 0 rfl rfl ?_
  refine zs_get (v := .int (h.1 47 10)) C 47 10 rfl rfl rfl rfl ki_Cr (by decide) kw452 kd_Cr_lastOfGroup_4 rfl ?_
  refine zk_iconst (v := 1) C kd_Cr_lastOfGroup_7 (by decide) rfl ?_
  refine zk_isub C kd_Cr_lastOfGroup_8 rfl ?_
  refine zk_icmp_ge (tgt := 32) C kd_Cr_lastOfGroup_9 (by decide) rfl (fun b1 => ?_) (fun b1 => ?_)
  · replace e := zd_pos b1 e
    refine zk_iload_n C kd_Cr_lastOfGroup_32 rfl 2 rfl rfl ?_
    exact zk_iret C hR kd_Cr_lastOfGroup_33 rfl rfl (zd_rIO e)
  · replace e := zd_neg b1 e
    refine zk_aload_n C kd_Cr_lastOfGroup_12 rfl 0 rfl rfl ?_
    refine zs_get (v := .ref (S.1 50)) C 47 9 rfl rfl rfl rfl ki_Cr (by decide) kw451 kd_Cr_lastOfGroup_13 rfl ?_
    refine zk_iload_n C kd_Cr_lastOfGroup_16 rfl 2 rfl rfl ?_
    refine zk_bipush (v := 12) C kd_Cr_lastOfGroup_17 (by decide) rfl ?_
    refine zk_imul C kd_Cr_lastOfGroup_19 rfl ?_
    refine zk_iload_n C kd_Cr_lastOfGroup_20 rfl 1 rfl rfl ?_
    refine zk_iadd C kd_Cr_lastOfGroup_21 rfl ?_
    obtain ⟨q2, e⟩ := zd_g e
    refine zs_zald C 50 rfl (zd_vp q2) kd_Cr_lastOfGroup_22 rfl ?_
    refine zk_if_eq (tgt := 32) C kd_Cr_lastOfGroup_23 (by decide) rfl (fun b3 => ?_) (fun b3 => ?_)
    · replace e := zd_pos b3 e
      refine zk_iload_n C kd_Cr_lastOfGroup_32 rfl 2 rfl rfl ?_
      exact zk_iret C hR kd_Cr_lastOfGroup_33 rfl rfl (zd_rIO e)
    · replace e := zd_neg b3 e
      refine zk_iinc (v := (x3 + 1)) (lv' := [(3, _), (0, _), (2, _)]) C kd_Cr_lastOfGroup_26 2 rfl rfl (by decide) rfl rfl ?_
      refine zk_goto (tgt := 2) C kd_Cr_lastOfGroup_29 (by decide) ?_
      refine zk_lvs (lv' := [(0, .ref (S.1 47)), (2, .int x2), (3, .int (x3 + 1))]) [1, 2, 0] rfl ?_
      exact hk2 x2 (x3 + 1) e
theorem zl_Cr_lastOfGroup_2 {X : zkj_T} {S : zs_T} {P : ze_T} {l : Launch} {D : va_G} {sz0 : Nat} {rv : Int32} {h : zs_H} (C : zk_C X km_Cr_lastOfGroup (zs_G S l D sz0) { frames := 0, cells := 0, slots := 0, locals := 0 } (ze_E P)) (hR : zkj_R X (zd_PI S rv h) (some .int)) (n : Nat) : ∀ (x2 : Int32) (x3 : Int32), f_Cr_lastOfGroup_L2 h n x2 x3 = some rv → zk_Ab X (zs_W S h) 0 0 2 [(0, .ref (S.1 47)), (2, .int x2), (3, .int x3)] [] := by
  induction n with
  | zero => intro x2 x3 e; exact zd_no e
  | succ n ih => intro x2 x3 e; exact zb_Cr_lastOfGroup_2 (k2 := f_Cr_lastOfGroup_L2 h n) C hR ih x2 x3 e
set_option maxHeartbeats 4000000 in
set_option maxRecDepth 100000 in
theorem zc_Cr_lastOfGroup {l : Launch} {D : va_G} {sz0 : Nat} {S : zs_T} {P : ze_T} (h : zs_H) (x1 : Int32) (x2 : Int32) {rv : Int32} (e : f_Cr_lastOfGroup h x1 x2 = some rv) : zk_Sp (zs_G S l D sz0) (ze_E P) km_Cr_lastOfGroup { frames := 0, cells := 0, slots := 0, locals := 0 } [.ref (S.1 47), .int x1, .int x2] (zs_W S h) (zd_PI S rv h) := by
  refine zk_met ku_Cr_lastOfGroup (Nat.le_of_ble_eq_true rfl) (ze_Em P) ?_
  intro X C hR
  refine zk_lvs (lv' := [(0, .ref (S.1 47)), (1, .int x1), (2, .int x2)]) [0, 1, 2] rfl ?_
  unfold f_Cr_lastOfGroup at e
  refine zk_iload_n C kd_Cr_lastOfGroup_0 rfl 1 rfl rfl ?_
  refine zk_istore_n (lv' := [(3, _), (0, _), (1, _), (2, _)]) C kd_Cr_lastOfGroup_1 rfl (by decide) rfl rfl ?_
  refine zk_lvs (lv' := [(0, .ref (S.1 47)), (2, .int x2), (3, .int x1)]) [1, 3, 0] rfl ?_
  exact zl_Cr_lastOfGroup_2 C hR zF x2 x1 e
set_option maxHeartbeats 4000000 in
set_option maxRecDepth 100000 in
theorem zb_Cr_codeEdge_32 {X : zkj_T} {S : zs_T} {P : ze_T} {l : Launch} {D : va_G} {sz0 : Nat} {rh : zs_H} (C : zk_C X km_Cr_codeEdge (zs_G S l D sz0) { frames := 1, cells := 0, slots := 0, locals := 23 } (ze_E P)) (hR : zkj_R X (zd_PV S rh) (none)) (h : zs_H) (x1 : Int32) (x3 : Int32) (y0 : Int32) (y1 : Int32) (e : f_Cr_codeEdge_32 h x1 x3 y0 y1 = some rh) : zk_Ab X (zs_W S h) 0 0 32 [(0, .ref (S.1 47)), (1, .int x1), (3, .int x3)] [.int y0, .int y1, .ref (S.1 41)] := by
  unfold f_Cr_codeEdge_32 at e
  obtain ⟨v2, h3, c1, e⟩ := zd_Be e
  refine zs_callV (k := 41) (rn := { frames := 0, cells := 0, slots := 0, locals := 0 }) (As := [.int y1, .int y0]) (rest := []) C (zc_Cd_emit h y1 y0 c1) ku_Cd_emit kw1278 kv_Cd_emit rfl ⟨by decide, by decide⟩ ⟨by decide, by decide⟩ rfl rfl rfl (Nat.le_of_ble_eq_true rfl) kd_Cr_codeEdge_32 rfl (c1 := 0) (s1 := 0) rfl rfl (fun v w hp => ?_)
  obtain ⟨rfl, rfl⟩ := hp
  refine zk_stk (r' := [.int v2]) rfl ?_
  refine zk_pop C kd_Cr_codeEdge_35 rfl rfl ?_
  refine zk_aload_n C kd_Cr_codeEdge_36 rfl 0 rfl rfl ?_
  refine zs_get (v := .ref (S.1 41)) C 47 2 rfl rfl rfl rfl ki_Cr (by decide) kw444 kd_Cr_codeEdge_37 rfl ?_
  refine zk_bipush (v := 8) C kd_Cr_codeEdge_40 (by decide) rfl ?_
  refine zk_iconst (v := 2) C kd_Cr_codeEdge_42 (by decide) rfl ?_
  obtain ⟨v5, h6, c4, e⟩ := zd_Be e
  refine zs_callV (k := 41) (rn := { frames := 0, cells := 0, slots := 0, locals := 0 }) (As := [.int 8, .int 2]) (rest := []) C (zc_Cd_emit h3 8 2 c4) ku_Cd_emit kw1278 kv_Cd_emit rfl ⟨by decide, by decide⟩ ⟨by decide, by decide⟩ rfl rfl rfl (Nat.le_of_ble_eq_true rfl) kd_Cr_codeEdge_43 rfl (c1 := 0) (s1 := 0) rfl rfl (fun v w hp => ?_)
  obtain ⟨rfl, rfl⟩ := hp
  refine zk_stk (r' := [.int v5]) rfl ?_
  refine zk_pop C kd_Cr_codeEdge_46 rfl rfl ?_
  refine zk_aload_n C kd_Cr_codeEdge_47 rfl 0 rfl rfl ?_
  refine zs_get (v := .ref (S.1 41)) C 47 2 rfl rfl rfl rfl ki_Cr (by decide) kw444 kd_Cr_codeEdge_48 rfl ?_
  refine zk_bipush (v := 7) C kd_Cr_codeEdge_51 (by decide) rfl ?_
  refine zk_bipush (v := 10) C kd_Cr_codeEdge_53 (by decide) rfl ?_
  obtain ⟨v8, h9, c7, e⟩ := zd_Be e
  refine zs_callV (k := 41) (rn := { frames := 0, cells := 0, slots := 0, locals := 0 }) (As := [.int 7, .int 10]) (rest := []) C (zc_Cd_emit h6 7 10 c7) ku_Cd_emit kw1278 kv_Cd_emit rfl ⟨by decide, by decide⟩ ⟨by decide, by decide⟩ rfl rfl rfl (Nat.le_of_ble_eq_true rfl) kd_Cr_codeEdge_55 rfl (c1 := 0) (s1 := 0) rfl rfl (fun v w hp => ?_)
  obtain ⟨rfl, rfl⟩ := hp
  refine zk_stk (r' := [.int v8]) rfl ?_
  refine zk_pop C kd_Cr_codeEdge_58 rfl rfl ?_
  refine zk_aload_n C kd_Cr_codeEdge_59 rfl 0 rfl rfl ?_
  refine zs_get (v := .ref (S.1 41)) C 47 2 rfl rfl rfl rfl ki_Cr (by decide) kw444 kd_Cr_codeEdge_60 rfl ?_
  refine zk_bipush (v := 7) C kd_Cr_codeEdge_63 (by decide) rfl ?_
  refine zk_bipush (v := 10) C kd_Cr_codeEdge_65 (by decide) rfl ?_
  obtain ⟨v11, h12, c10, e⟩ := zd_Be e
  refine zs_callV (k := 41) (rn := { frames := 0, cells := 0, slots := 0, locals := 0 }) (As := [.int 7, .int 10]) (rest := []) C (zc_Cd_emit h9 7 10 c10) ku_Cd_emit kw1278 kv_Cd_emit rfl ⟨by decide, by decide⟩ ⟨by decide, by decide⟩ rfl rfl rfl (Nat.le_of_ble_eq_true rfl) kd_Cr_codeEdge_67 rfl (c1 := 0) (s1 := 0) rfl rfl (fun v w hp => ?_)
  obtain ⟨rfl, rfl⟩ := hp
  refine zk_stk (r' := [.int v11]) rfl ?_
  refine zk_pop C kd_Cr_codeEdge_70 rfl rfl ?_
  refine zk_aload_n C kd_Cr_codeEdge_71 rfl 0 rfl rfl ?_
  refine zs_get (v := .ref (S.1 41)) C 47 2 rfl rfl rfl rfl ki_Cr (by decide) kw444 kd_Cr_codeEdge_72 rfl ?_
  refine zk_iconst (v := 1) C kd_Cr_codeEdge_75 (by decide) rfl ?_
  refine zk_iload_n C kd_Cr_codeEdge_76 rfl 1 rfl rfl ?_
  obtain ⟨v14, h15, c13, e⟩ := zd_Be e
  refine zs_callV (k := 41) (rn := { frames := 0, cells := 0, slots := 0, locals := 0 }) (As := [.int 1, .int x1]) (rest := []) C (zc_Cd_emit h12 1 x1 c13) ku_Cd_emit kw1278 kv_Cd_emit rfl ⟨by decide, by decide⟩ ⟨by decide, by decide⟩ rfl rfl rfl (Nat.le_of_ble_eq_true rfl) kd_Cr_codeEdge_77 rfl (c1 := 0) (s1 := 0) rfl rfl (fun v w hp => ?_)
  obtain ⟨rfl, rfl⟩ := hp
  refine zk_stk (r' := [.int v14]) rfl ?_
  refine zk_pop C kd_Cr_codeEdge_80 rfl rfl ?_
  refine zk_aload_n C kd_Cr_codeEdge_81 rfl 0 rfl rfl ?_
  refine zs_get (v := .ref (S.1 41)) C 47 2 rfl rfl rfl rfl ki_Cr (by decide) kw444 kd_Cr_codeEdge_82 rfl ?_
  refine zk_iconst (v := 2) C kd_Cr_codeEdge_85 (by decide) rfl ?_
  refine zk_iload_n C kd_Cr_codeEdge_86 rfl 2 rfl rfl ?_
  obtain ⟨v17, h18, c16, e⟩ := zd_Be e
  refine zs_callV (k := 41) (rn := { frames := 0, cells := 0, slots := 0, locals := 0 }) (As := [.int 2, .int x3]) (rest := []) C (zc_Cd_emit h15 2 x3 c16) ku_Cd_emit kw1278 kv_Cd_emit rfl ⟨by decide, by decide⟩ ⟨by decide, by decide⟩ rfl rfl rfl (Nat.le_of_ble_eq_true rfl) kd_Cr_codeEdge_87 rfl (c1 := 0) (s1 := 0) rfl rfl (fun v w hp => ?_)
  obtain ⟨rfl, rfl⟩ := hp
  refine zk_stk (r' := [.int v17]) rfl ?_
  refine zk_pop C kd_Cr_codeEdge_90 rfl rfl ?_
  exact zk_vret C hR kd_Cr_codeEdge_91 rfl rfl (zd_rV e)
set_option maxHeartbeats 4000000 in
set_option maxRecDepth 100000 in
theorem zb_Cr_codeEdge_14 {X : zkj_T} {S : zs_T} {P : ze_T} {l : Launch} {D : va_G} {sz0 : Nat} {rh : zs_H} (C : zk_C X km_Cr_codeEdge (zs_G S l D sz0) { frames := 1, cells := 0, slots := 0, locals := 23 } (ze_E P)) (hR : zkj_R X (zd_PV S rh) (none)) (h : zs_H) (x1 : Int32) (x2 : Int32) (x3 : Int32) (y0 : Int32) (y1 : Int32) (e : f_Cr_codeEdge_14 h x1 x2 x3 y0 y1 = some rh) : zk_Ab X (zs_W S h) 0 0 14 [(0, .ref (S.1 47)), (1, .int x1), (2, .int x2), (3, .int x3)] [.int y0, .int y1, .ref (S.1 41)] := by
  unfold f_Cr_codeEdge_14 at e
  obtain ⟨v2, h3, c1, e⟩ := zd_Be e
  refine zs_callV (k := 41) (rn := { frames := 0, cells := 0, slots := 0, locals := 0 }) (As := [.int y1, .int y0]) (rest := []) C (zc_Cd_emit h y1 y0 c1) ku_Cd_emit kw1278 kv_Cd_emit rfl ⟨by decide, by decide⟩ ⟨by decide, by decide⟩ rfl rfl rfl (Nat.le_of_ble_eq_true rfl) kd_Cr_codeEdge_14 rfl (c1 := 0) (s1 := 0) rfl rfl (fun v w hp => ?_)
  obtain ⟨rfl, rfl⟩ := hp
  refine zk_stk (r' := [.int v2]) rfl ?_
  refine zk_pop C kd_Cr_codeEdge_17 rfl rfl ?_
  refine zk_aload_n C kd_Cr_codeEdge_18 rfl 0 rfl rfl ?_
  refine zs_get (v := .ref (S.1 41)) C 47 2 rfl rfl rfl rfl ki_Cr (by decide) kw444 kd_Cr_codeEdge_19 rfl ?_
  refine zk_iconst (v := 1) C kd_Cr_codeEdge_22 (by decide) rfl ?_
  refine zk_iload_n C kd_Cr_codeEdge_23 rfl 2 rfl rfl ?_
  refine zk_if_eq (tgt := 31) C kd_Cr_codeEdge_24 (by decide) rfl (fun b4 => ?_) (fun b4 => ?_)
  · replace e := zd_pos b4 e
    refine zk_iload_n C kd_Cr_codeEdge_31 rfl 1 rfl rfl ?_
    refine zk_lvs (lv' := [(0, .ref (S.1 47)), (1, .int x1), (3, .int x3)]) [0, 1, 3] rfl ?_
    exact zb_Cr_codeEdge_32 C hR h3 x1 x3 x1 1 e
  · replace e := zd_neg b4 e
    refine zk_iload_n C kd_Cr_codeEdge_27 rfl 3 rfl rfl ?_
    refine zk_goto (tgt := 32) C kd_Cr_codeEdge_28 (by decide) ?_
    refine zk_lvs (lv' := [(0, .ref (S.1 47)), (1, .int x1), (3, .int x3)]) [0, 1, 3] rfl ?_
    exact zb_Cr_codeEdge_32 C hR h3 x1 x3 x3 1 e
set_option maxHeartbeats 4000000 in
set_option maxRecDepth 100000 in
theorem zc_Cr_codeEdge {l : Launch} {D : va_G} {sz0 : Nat} {S : zs_T} {P : ze_T} (h : zs_H) (x1 : Int32) (x2 : Int32) (x3 : Int32) {rh : zs_H} (e : f_Cr_codeEdge h x1 x2 x3 = some rh) : zk_Sp (zs_G S l D sz0) (ze_E P) km_Cr_codeEdge { frames := 1, cells := 0, slots := 0, locals := 23 } [.ref (S.1 47), .int x1, .int x2, .int x3] (zs_W S h) (zd_PV S rh) := by
  refine zk_met ku_Cr_codeEdge (Nat.le_of_ble_eq_true rfl) (ze_Em P) ?_
  intro X C hR
  refine zk_lvs (lv' := [(0, .ref (S.1 47)), (1, .int x1), (2, .int x2), (3, .int x3)]) [0, 1, 2, 3] rfl ?_
  unfold f_Cr_codeEdge at e
  refine zk_aload_n C kd_Cr_codeEdge_0 rfl 0 rfl rfl ?_
  refine zs_get (v := .ref (S.1 41)) C 47 2 rfl rfl rfl rfl ki_Cr (by decide) kw444 kd_Cr_codeEdge_1 rfl ?_
  refine zk_iconst (v := 1) C kd_Cr_codeEdge_4 (by decide) rfl ?_
  refine zk_iload_n C kd_Cr_codeEdge_5 rfl 2 rfl rfl ?_
  refine zk_if_eq (tgt := 13) C kd_Cr_codeEdge_6 (by decide) rfl (fun b1 => ?_) (fun b1 => ?_)
  · replace e := zd_pos b1 e
    refine zk_iload_n C kd_Cr_codeEdge_13 rfl 3 rfl rfl ?_
    refine zk_lvs (lv' := [(0, .ref (S.1 47)), (1, .int x1), (2, .int x2), (3, .int x3)]) [0, 1, 2, 3] rfl ?_
    exact zb_Cr_codeEdge_14 C hR h x1 x2 x3 x3 1 e
  · replace e := zd_neg b1 e
    refine zk_iload_n C kd_Cr_codeEdge_9 rfl 1 rfl rfl ?_
    refine zk_goto (tgt := 14) C kd_Cr_codeEdge_10 (by decide) ?_
    refine zk_lvs (lv' := [(0, .ref (S.1 47)), (1, .int x1), (2, .int x2), (3, .int x3)]) [0, 1, 2, 3] rfl ?_
    exact zb_Cr_codeEdge_14 C hR h x1 x2 x3 x1 1 e
