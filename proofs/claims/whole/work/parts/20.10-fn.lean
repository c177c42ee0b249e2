theorem kw2316 : Jvm.Cond.instanceMethod ({ cls := "PlantKeeperModel", name := "blockOf", desc := "(I)I" } : Jvm.MethodName) ∈ zk_BW := zk_inT 2316 (by decide +kernel) rfl
theorem kw2317 : Jvm.Cond.code ({ cls := "PlantKeeperModel", name := "blockOf", desc := "(I)I" } : Jvm.MethodName) prog_14_method_91_code (3 : Nat) (Option.some FieldType.int) ∈ zk_BW := zk_inT 2317 (by decide +kernel) rfl
theorem kw2320 : Jvm.Cond.instanceMethod ({ cls := "PlantKeeperModel", name := "instanceCells", desc := "(I)I" } : Jvm.MethodName) ∈ zk_BW := zk_inT 2320 (by decide +kernel) rfl
theorem kw2321 : Jvm.Cond.code ({ cls := "PlantKeeperModel", name := "instanceCells", desc := "(I)I" } : Jvm.MethodName) prog_14_method_79_code (2 : Nat) (Option.some FieldType.int) ∈ zk_BW := zk_inT 2321 (by decide +kernel) rfl
theorem kw2322 : Jvm.Cond.constant "PlantKeeperModel" (485 : Nat) (100005 : Int32) ∈ zk_BW := zk_inT 2322 (by decide +kernel) rfl
theorem kw2325 : Jvm.Cond.instanceMethod ({ cls := "PlantKeeperModel", name := "lookAtName", desc := "(I)V" } : Jvm.MethodName) ∈ zk_BW := zk_inT 2325 (by decide +kernel) rfl
theorem kw2326 : Jvm.Cond.code ({ cls := "PlantKeeperModel", name := "lookAtName", desc := "(I)V" } : Jvm.MethodName) prog_14_method_89_code (5 : Nat) (Option.none : Option FieldType) ∈ zk_BW := zk_inT 2326 (by decide +kernel) rfl
theorem kw2327 : Jvm.Cond.methodLink "PlantKeeperModel" (507 : Nat) ({ cls := "PlantKeeperModel", name := "variable", desc := "(II)I" } : Jvm.MethodName) ∈ zk_BW := zk_inT 2327 (by decide +kernel) rfl
theorem kw2329 : Jvm.Cond.instanceMethod ({ cls := "PlantKeeperModel", name := "variable", desc := "(II)I" } : Jvm.MethodName) ∈ zk_BW := zk_inT 2329 (by decide +kernel) rfl
theorem kw2330 : Jvm.Cond.code ({ cls := "PlantKeeperModel", name := "variable", desc := "(II)I" } : Jvm.MethodName) prog_14_method_68_code (4 : Nat) (Option.some FieldType.int) ∈ zk_BW := zk_inT 2330 (by decide +kernel) rfl
theorem kw2333 : Jvm.Cond.instanceMethod ({ cls := "PlantKeeperModel", name := "isPlaceTaken", desc := "(I)Z" } : Jvm.MethodName) ∈ zk_BW := zk_inT 2333 (by decide +kernel) rfl
theorem kw2334 : Jvm.Cond.code ({ cls := "PlantKeeperModel", name := "isPlaceTaken", desc := "(I)Z" } : Jvm.MethodName) prog_14_method_87_code (4 : Nat) (Option.some FieldType.boolean) ∈ zk_BW := zk_inT 2334 (by decide +kernel) rfl
theorem kw2337 : Jvm.Cond.instanceMethod ({ cls := "PlantKeeperModel", name := "lookAtArray", desc := "(I)V" } : Jvm.MethodName) ∈ zk_BW := zk_inT 2337 (by decide +kernel) rfl
theorem kw2338 : Jvm.Cond.code ({ cls := "PlantKeeperModel", name := "lookAtArray", desc := "(I)V" } : Jvm.MethodName) prog_14_method_88_code (5 : Nat) (Option.none : Option FieldType) ∈ zk_BW := zk_inT 2338 (by decide +kernel) rfl
abbrev kc_Mo_blockOf : ByteArray := prog_14_method_91_code
def km_Mo_blockOf : zk_MT := (⟨"PlantKeeperModel", "blockOf", "(I)I"⟩, kc_Mo_blockOf, 3, some .int, 1)
theorem ku_Mo_blockOf : zk_My km_Mo_blockOf := ⟨kw2317, kw17, by decide, by decide, by decide, by decide +kernel⟩
theorem kv_Mo_blockOf : zk_Mv km_Mo_blockOf := ⟨kw2316, zk_inS 221 (q := (⟨"PlantKeeperModel", "blockOf", "(I)I"⟩, 96)) (by decide +kernel)⟩
abbrev kc_Mo_instanceCells : ByteArray := prog_14_method_79_code
def km_Mo_instanceCells : zk_MT := (⟨"PlantKeeperModel", "instanceCells", "(I)I"⟩, kc_Mo_instanceCells, 2, some .int, 1)
theorem ku_Mo_instanceCells : zk_My km_Mo_instanceCells := ⟨kw2321, kw17, by decide, by decide, by decide, by decide +kernel⟩
theorem kv_Mo_instanceCells : zk_Mv km_Mo_instanceCells := ⟨kw2320, zk_inS 222 (q := (⟨"PlantKeeperModel", "instanceCells", "(I)I"⟩, 96)) (by decide +kernel)⟩
abbrev kc_Mo_isPlaceTaken : ByteArray := prog_14_method_87_code
def km_Mo_isPlaceTaken : zk_MT := (⟨"PlantKeeperModel", "isPlaceTaken", "(I)Z"⟩, kc_Mo_isPlaceTaken, 4, some .boolean, 1)
theorem ku_Mo_isPlaceTaken : zk_My km_Mo_isPlaceTaken := ⟨kw2334, kw17, by decide, by decide, by decide, by decide +kernel⟩
theorem kv_Mo_isPlaceTaken : zk_Mv km_Mo_isPlaceTaken := ⟨kw2333, zk_inS 225 (q := (⟨"PlantKeeperModel", "isPlaceTaken", "(I)Z"⟩, 96)) (by decide +kernel)⟩
abbrev kc_Mo_lookAtArray : ByteArray := prog_14_method_88_code
def km_Mo_lookAtArray : zk_MT := (⟨"PlantKeeperModel", "lookAtArray", "(I)V"⟩, kc_Mo_lookAtArray, 5, none, 1)
theorem ku_Mo_lookAtArray : zk_My km_Mo_lookAtArray := ⟨kw2338, kw17, by decide, by decide, by decide, by decide +kernel⟩
theorem kv_Mo_lookAtArray : zk_Mv km_Mo_lookAtArray := ⟨kw2337, zk_inS 226 (q := (⟨"PlantKeeperModel", "lookAtArray", "(I)V"⟩, 96)) (by decide +kernel)⟩
abbrev kc_Mo_lookAtName : ByteArray := prog_14_method_89_code
def km_Mo_lookAtName : zk_MT := (⟨"PlantKeeperModel", "lookAtName", "(I)V"⟩, kc_Mo_lookAtName, 5, none, 1)
theorem ku_Mo_lookAtName : zk_My km_Mo_lookAtName := ⟨kw2326, kw17, by decide, by decide, by decide, by decide +kernel⟩
theorem kv_Mo_lookAtName : zk_Mv km_Mo_lookAtName := ⟨kw2325, zk_inS 223 (q := (⟨"PlantKeeperModel", "lookAtName", "(I)V"⟩, 96)) (by decide +kernel)⟩
abbrev kc_Mo_variable : ByteArray := prog_14_method_68_code
def km_Mo_variable : zk_MT := (⟨"PlantKeeperModel", "variable", "(II)I"⟩, kc_Mo_variable, 4, some .int, 2)
theorem ku_Mo_variable : zk_My km_Mo_variable := ⟨kw2330, kw17, by decide, by decide, by decide, by decide +kernel⟩
theorem kv_Mo_variable : zk_Mv km_Mo_variable := ⟨kw2329, zk_inS 224 (q := (⟨"PlantKeeperModel", "variable", "(II)I"⟩, 96)) (by decide +kernel)⟩
theorem kd_Mo_blockOf_0 : decode kc_Mo_blockOf 0 = .ok (.aload_n 0, 1) := by decide +kernel
theorem kd_Mo_blockOf_1 : decode kc_Mo_blockOf 1 = .ok (.ldc_w 454, 3) := by decide +kernel
theorem kd_Mo_blockOf_4 : decode kc_Mo_blockOf 4 = .ok (.iload_n 1, 1) := by decide +kernel
theorem kd_Mo_blockOf_5 : decode kc_Mo_blockOf 5 = .ok (.invokevirtual 456, 3) := by decide +kernel
theorem kd_Mo_blockOf_8 : decode kc_Mo_blockOf 8 = .ok (.istore_n 2, 1) := by decide +kernel
theorem kd_Mo_blockOf_9 : decode kc_Mo_blockOf 9 = .ok (.iload_n 2, 1) := by decide +kernel
theorem kd_Mo_blockOf_10 : decode kc_Mo_blockOf 10 = .ok (.ifCond .lt 11, 3) := by decide +kernel
theorem kd_Mo_blockOf_13 : decode kc_Mo_blockOf 13 = .ok (.ldc_w 498, 3) := by decide +kernel
theorem kd_Mo_blockOf_16 : decode kc_Mo_blockOf 16 = .ok (.iload_n 2, 1) := by decide +kernel
theorem kd_Mo_blockOf_17 : decode kc_Mo_blockOf 17 = .ok (.iadd, 1) := by decide +kernel
theorem kd_Mo_blockOf_18 : decode kc_Mo_blockOf 18 = .ok (.goto 12, 3) := by decide +kernel
theorem kd_Mo_blockOf_21 : decode kc_Mo_blockOf 21 = .ok (.aload_n 0, 1) := by decide +kernel
theorem kd_Mo_blockOf_22 : decode kc_Mo_blockOf 22 = .ok (.iload_n 1, 1) := by decide +kernel
theorem kd_Mo_blockOf_23 : decode kc_Mo_blockOf 23 = .ok (.aload_n 0, 1) := by decide +kernel
theorem kd_Mo_blockOf_24 : decode kc_Mo_blockOf 24 = .ok (.getfield 550, 3) := by decide +kernel
theorem kd_Mo_blockOf_27 : decode kc_Mo_blockOf 27 = .ok (.invokevirtual 547, 3) := by decide +kernel
theorem kd_Mo_blockOf_30 : decode kc_Mo_blockOf 30 = .ok (.ireturn, 1) := by decide +kernel
theorem kd_Mo_instanceCells_0 : decode kc_Mo_instanceCells 0 = .ok (.iload_n 1, 1) := by decide +kernel
theorem kd_Mo_instanceCells_1 : decode kc_Mo_instanceCells 1 = .ok (.ldc_w 498, 3) := by decide +kernel
theorem kd_Mo_instanceCells_4 : decode kc_Mo_instanceCells 4 = .ok (.if_icmp .ge 12, 3) := by decide +kernel
theorem kd_Mo_instanceCells_7 : decode kc_Mo_instanceCells 7 = .ok (.aload_n 0, 1) := by decide +kernel
theorem kd_Mo_instanceCells_8 : decode kc_Mo_instanceCells 8 = .ok (.getfield 70, 3) := by decide +kernel
theorem kd_Mo_instanceCells_11 : decode kc_Mo_instanceCells 11 = .ok (.iload_n 1, 1) := by decide +kernel
theorem kd_Mo_instanceCells_12 : decode kc_Mo_instanceCells 12 = .ok (.iaload, 1) := by decide +kernel
theorem kd_Mo_instanceCells_13 : decode kc_Mo_instanceCells 13 = .ok (.goto 16, 3) := by decide +kernel
theorem kd_Mo_instanceCells_16 : decode kc_Mo_instanceCells 16 = .ok (.iload_n 1, 1) := by decide +kernel
theorem kd_Mo_instanceCells_17 : decode kc_Mo_instanceCells 17 = .ok (.ldc_w 485, 3) := by decide +kernel
theorem kd_Mo_instanceCells_20 : decode kc_Mo_instanceCells 20 = .ok (.if_icmp .ge 8, 3) := by decide +kernel
theorem kd_Mo_instanceCells_23 : decode kc_Mo_instanceCells 23 = .ok (.bipush 6, 2) := by decide +kernel
theorem kd_Mo_instanceCells_25 : decode kc_Mo_instanceCells 25 = .ok (.goto 4, 3) := by decide +kernel
theorem kd_Mo_instanceCells_28 : decode kc_Mo_instanceCells 28 = .ok (.iconst 3, 1) := by decide +kernel
theorem kd_Mo_instanceCells_29 : decode kc_Mo_instanceCells 29 = .ok (.ireturn, 1) := by decide +kernel
theorem kd_Mo_isPlaceTaken_0 : decode kc_Mo_isPlaceTaken 0 = .ok (.iconst 0, 1) := by decide +kernel
theorem kd_Mo_isPlaceTaken_1 : decode kc_Mo_isPlaceTaken 1 = .ok (.istore_n 2, 1) := by decide +kernel
theorem kd_Mo_isPlaceTaken_2 : decode kc_Mo_isPlaceTaken 2 = .ok (.aload_n 0, 1) := by decide +kernel
theorem kd_Mo_isPlaceTaken_3 : decode kc_Mo_isPlaceTaken 3 = .ok (.getfield 76, 3) := by decide +kernel
theorem kd_Mo_isPlaceTaken_6 : decode kc_Mo_isPlaceTaken 6 = .ok (.aload_n 0, 1) := by decide +kernel
theorem kd_Mo_isPlaceTaken_7 : decode kc_Mo_isPlaceTaken 7 = .ok (.getfield 550, 3) := by decide +kernel
theorem kd_Mo_isPlaceTaken_10 : decode kc_Mo_isPlaceTaken 10 = .ok (.iaload, 1) := by decide +kernel
theorem kd_Mo_isPlaceTaken_11 : decode kc_Mo_isPlaceTaken 11 = .ok (.istore_n 3, 1) := by decide +kernel
theorem kd_Mo_isPlaceTaken_12 : decode kc_Mo_isPlaceTaken 12 = .ok (.iload_n 3, 1) := by decide +kernel
theorem kd_Mo_isPlaceTaken_13 : decode kc_Mo_isPlaceTaken 13 = .ok (.aload_n 0, 1) := by decide +kernel
theorem kd_Mo_isPlaceTaken_14 : decode kc_Mo_isPlaceTaken 14 = .ok (.getfield 465, 3) := by decide +kernel
theorem kd_Mo_isPlaceTaken_17 : decode kc_Mo_isPlaceTaken 17 = .ok (.if_icmp .ge 29, 3) := by decide +kernel
theorem kd_Mo_isPlaceTaken_20 : decode kc_Mo_isPlaceTaken 20 = .ok (.iload_n 2, 1) := by decide +kernel
theorem kd_Mo_isPlaceTaken_21 : decode kc_Mo_isPlaceTaken 21 = .ok (.ifCond .ne 13, 3) := by decide +kernel
theorem kd_Mo_isPlaceTaken_24 : decode kc_Mo_isPlaceTaken 24 = .ok (.aload_n 0, 1) := by decide +kernel
theorem kd_Mo_isPlaceTaken_25 : decode kc_Mo_isPlaceTaken 25 = .ok (.getfield 94, 3) := by decide +kernel
theorem kd_Mo_isPlaceTaken_28 : decode kc_Mo_isPlaceTaken 28 = .ok (.iload_n 3, 1) := by decide +kernel
theorem kd_Mo_isPlaceTaken_29 : decode kc_Mo_isPlaceTaken 29 = .ok (.iaload, 1) := by decide +kernel
theorem kd_Mo_isPlaceTaken_30 : decode kc_Mo_isPlaceTaken 30 = .ok (.iload_n 1, 1) := by decide +kernel
theorem kd_Mo_isPlaceTaken_31 : decode kc_Mo_isPlaceTaken 31 = .ok (.if_icmp .ne 7, 3) := by decide +kernel
theorem kd_Mo_isPlaceTaken_34 : decode kc_Mo_isPlaceTaken 34 = .ok (.iconst 1, 1) := by decide +kernel
theorem kd_Mo_isPlaceTaken_35 : decode kc_Mo_isPlaceTaken 35 = .ok (.goto 4, 3) := by decide +kernel
theorem kd_Mo_isPlaceTaken_38 : decode kc_Mo_isPlaceTaken 38 = .ok (.iconst 0, 1) := by decide +kernel
theorem kd_Mo_isPlaceTaken_39 : decode kc_Mo_isPlaceTaken 39 = .ok (.istore_n 2, 1) := by decide +kernel
theorem kd_Mo_isPlaceTaken_40 : decode kc_Mo_isPlaceTaken 40 = .ok (.iinc 3 1, 3) := by decide +kernel
theorem kd_Mo_isPlaceTaken_43 : decode kc_Mo_isPlaceTaken 43 = .ok (.goto (-31), 3) := by decide +kernel
theorem kd_Mo_isPlaceTaken_46 : decode kc_Mo_isPlaceTaken 46 = .ok (.iload_n 2, 1) := by decide +kernel
theorem kd_Mo_isPlaceTaken_47 : decode kc_Mo_isPlaceTaken 47 = .ok (.ireturn, 1) := by decide +kernel
theorem kd_Mo_lookAtArray_0 : decode kc_Mo_lookAtArray 0 = .ok (.aload_n 0, 1) := by decide +kernel
theorem kd_Mo_lookAtArray_1 : decode kc_Mo_lookAtArray 1 = .ok (.getfield 34, 3) := by decide +kernel
theorem kd_Mo_lookAtArray_4 : decode kc_Mo_lookAtArray 4 = .ok (.iload_n 1, 1) := by decide +kernel
theorem kd_Mo_lookAtArray_5 : decode kc_Mo_lookAtArray 5 = .ok (.iaload, 1) := by decide +kernel
theorem kd_Mo_lookAtArray_6 : decode kc_Mo_lookAtArray 6 = .ok (.istore_n 2, 1) := by decide +kernel
theorem kd_Mo_lookAtArray_7 : decode kc_Mo_lookAtArray 7 = .ok (.aload_n 0, 1) := by decide +kernel
theorem kd_Mo_lookAtArray_8 : decode kc_Mo_lookAtArray 8 = .ok (.getfield 40, 3) := by decide +kernel
theorem kd_Mo_lookAtArray_11 : decode kc_Mo_lookAtArray 11 = .ok (.iload_n 2, 1) := by decide +kernel
theorem kd_Mo_lookAtArray_12 : decode kc_Mo_lookAtArray 12 = .ok (.iaload, 1) := by decide +kernel
theorem kd_Mo_lookAtArray_13 : decode kc_Mo_lookAtArray 13 = .ok (.istore_n 3, 1) := by decide +kernel
theorem kd_Mo_lookAtArray_14 : decode kc_Mo_lookAtArray 14 = .ok (.aload_n 0, 1) := by decide +kernel
theorem kd_Mo_lookAtArray_15 : decode kc_Mo_lookAtArray 15 = .ok (.getfield 64, 3) := by decide +kernel
theorem kd_Mo_lookAtArray_18 : decode kc_Mo_lookAtArray 18 = .ok (.aload_n 0, 1) := by decide +kernel
theorem kd_Mo_lookAtArray_19 : decode kc_Mo_lookAtArray 19 = .ok (.getfield 550, 3) := by decide +kernel
theorem kd_Mo_lookAtArray_22 : decode kc_Mo_lookAtArray 22 = .ok (.iaload, 1) := by decide +kernel
theorem kd_Mo_lookAtArray_23 : decode kc_Mo_lookAtArray 23 = .ok (.iconst 1, 1) := by decide +kernel
theorem kd_Mo_lookAtArray_24 : decode kc_Mo_lookAtArray 24 = .ok (.if_icmp .eq 25, 3) := by decide +kernel
theorem kd_Mo_lookAtArray_27 : decode kc_Mo_lookAtArray 27 = .ok (.aload_n 0, 1) := by decide +kernel
theorem kd_Mo_lookAtArray_28 : decode kc_Mo_lookAtArray 28 = .ok (.getfield 22, 3) := by decide +kernel
theorem kd_Mo_lookAtArray_31 : decode kc_Mo_lookAtArray 31 = .ok (.iload_n 2, 1) := by decide +kernel
theorem kd_Mo_lookAtArray_32 : decode kc_Mo_lookAtArray 32 = .ok (.iaload, 1) := by decide +kernel
theorem kd_Mo_lookAtArray_33 : decode kc_Mo_lookAtArray 33 = .ok (.bipush 31, 2) := by decide +kernel
theorem kd_Mo_lookAtArray_35 : decode kc_Mo_lookAtArray 35 = .ok (.if_icmp .eq 14, 3) := by decide +kernel
theorem kd_Mo_lookAtArray_38 : decode kc_Mo_lookAtArray 38 = .ok (.aload_n 0, 1) := by decide +kernel
theorem kd_Mo_lookAtArray_39 : decode kc_Mo_lookAtArray 39 = .ok (.getfield 22, 3) := by decide +kernel
theorem kd_Mo_lookAtArray_42 : decode kc_Mo_lookAtArray 42 = .ok (.iload_n 3, 1) := by decide +kernel
theorem kd_Mo_lookAtArray_43 : decode kc_Mo_lookAtArray 43 = .ok (.iaload, 1) := by decide +kernel
theorem kd_Mo_lookAtArray_44 : decode kc_Mo_lookAtArray 44 = .ok (.bipush 31, 2) := by decide +kernel
theorem kd_Mo_lookAtArray_46 : decode kc_Mo_lookAtArray 46 = .ok (.if_icmp .ne 7, 3) := by decide +kernel
theorem kd_Mo_lookAtArray_49 : decode kc_Mo_lookAtArray 49 = .ok (.iconst 1, 1) := by decide +kernel
theorem kd_Mo_lookAtArray_50 : decode kc_Mo_lookAtArray 50 = .ok (.goto 4, 3) := by decide +kernel
theorem kd_Mo_lookAtArray_53 : decode kc_Mo_lookAtArray 53 = .ok (.iconst 0, 1) := by decide +kernel
theorem kd_Mo_lookAtArray_54 : decode kc_Mo_lookAtArray 54 = .ok (.istore 4, 2) := by decide +kernel
theorem kd_Mo_lookAtArray_56 : decode kc_Mo_lookAtArray 56 = .ok (.aload_n 0, 1) := by decide +kernel
theorem kd_Mo_lookAtArray_57 : decode kc_Mo_lookAtArray 57 = .ok (.iload 4, 2) := by decide +kernel
theorem kd_Mo_lookAtArray_59 : decode kc_Mo_lookAtArray 59 = .ok (.ifCond .ne 45, 3) := by decide +kernel
theorem kd_Mo_lookAtArray_62 : decode kc_Mo_lookAtArray 62 = .ok (.aload_n 0, 1) := by decide +kernel
theorem kd_Mo_lookAtArray_63 : decode kc_Mo_lookAtArray 63 = .ok (.getfield 28, 3) := by decide +kernel
theorem kd_Mo_lookAtArray_66 : decode kc_Mo_lookAtArray 66 = .ok (.iload_n 3, 1) := by decide +kernel
theorem kd_Mo_lookAtArray_67 : decode kc_Mo_lookAtArray 67 = .ok (.iaload, 1) := by decide +kernel
theorem kd_Mo_lookAtArray_68 : decode kc_Mo_lookAtArray 68 = .ok (.i2l, 1) := by decide +kernel
theorem kd_Mo_lookAtArray_69 : decode kc_Mo_lookAtArray 69 = .ok (.aload_n 0, 1) := by decide +kernel
theorem kd_Mo_lookAtArray_70 : decode kc_Mo_lookAtArray 70 = .ok (.getfield 28, 3) := by decide +kernel
theorem kd_Mo_lookAtArray_73 : decode kc_Mo_lookAtArray 73 = .ok (.iload_n 2, 1) := by decide +kernel
theorem kd_Mo_lookAtArray_74 : decode kc_Mo_lookAtArray 74 = .ok (.iaload, 1) := by decide +kernel
theorem kd_Mo_lookAtArray_75 : decode kc_Mo_lookAtArray 75 = .ok (.i2l, 1) := by decide +kernel
theorem kd_Mo_lookAtArray_76 : decode kc_Mo_lookAtArray 76 = .ok (.lsub, 1) := by decide +kernel
theorem kd_Mo_lookAtArray_77 : decode kc_Mo_lookAtArray 77 = .ok (.lconst 0, 1) := by decide +kernel
theorem kd_Mo_lookAtArray_78 : decode kc_Mo_lookAtArray 78 = .ok (.lcmp, 1) := by decide +kernel
theorem kd_Mo_lookAtArray_79 : decode kc_Mo_lookAtArray 79 = .ok (.ifCond .lt 25, 3) := by decide +kernel
theorem kd_Mo_lookAtArray_82 : decode kc_Mo_lookAtArray 82 = .ok (.aload_n 0, 1) := by decide +kernel
theorem kd_Mo_lookAtArray_83 : decode kc_Mo_lookAtArray 83 = .ok (.getfield 28, 3) := by decide +kernel
theorem kd_Mo_lookAtArray_86 : decode kc_Mo_lookAtArray 86 = .ok (.iload_n 3, 1) := by decide +kernel
theorem kd_Mo_lookAtArray_87 : decode kc_Mo_lookAtArray 87 = .ok (.iaload, 1) := by decide +kernel
theorem kd_Mo_lookAtArray_88 : decode kc_Mo_lookAtArray 88 = .ok (.i2l, 1) := by decide +kernel
theorem kd_Mo_lookAtArray_89 : decode kc_Mo_lookAtArray 89 = .ok (.aload_n 0, 1) := by decide +kernel
theorem kd_Mo_lookAtArray_90 : decode kc_Mo_lookAtArray 90 = .ok (.getfield 28, 3) := by decide +kernel
theorem kd_Mo_lookAtArray_93 : decode kc_Mo_lookAtArray 93 = .ok (.iload_n 2, 1) := by decide +kernel
theorem kd_Mo_lookAtArray_94 : decode kc_Mo_lookAtArray 94 = .ok (.iaload, 1) := by decide +kernel
theorem kd_Mo_lookAtArray_95 : decode kc_Mo_lookAtArray 95 = .ok (.i2l, 1) := by decide +kernel
theorem kd_Mo_lookAtArray_96 : decode kc_Mo_lookAtArray 96 = .ok (.lsub, 1) := by decide +kernel
theorem kd_Mo_lookAtArray_97 : decode kc_Mo_lookAtArray 97 = .ok (.ldc2_w 287, 3) := by decide +kernel
theorem kd_Mo_lookAtArray_100 : decode kc_Mo_lookAtArray 100 = .ok (.lcmp, 1) := by decide +kernel
theorem kd_Mo_lookAtArray_101 : decode kc_Mo_lookAtArray 101 = .ok (.ifCond .le 7, 3) := by decide +kernel
theorem kd_Mo_lookAtArray_104 : decode kc_Mo_lookAtArray 104 = .ok (.iconst 1, 1) := by decide +kernel
theorem kd_Mo_lookAtArray_105 : decode kc_Mo_lookAtArray 105 = .ok (.goto 4, 3) := by decide +kernel
theorem kd_Mo_lookAtArray_108 : decode kc_Mo_lookAtArray 108 = .ok (.iconst 0, 1) := by decide +kernel
theorem kd_Mo_lookAtArray_109 : decode kc_Mo_lookAtArray 109 = .ok (.bipush 16, 2) := by decide +kernel
theorem kd_Mo_lookAtArray_111 : decode kc_Mo_lookAtArray 111 = .ok (.iload_n 1, 1) := by decide +kernel
theorem kd_Mo_lookAtArray_112 : decode kc_Mo_lookAtArray 112 = .ok (.invokevirtual 540, 3) := by decide +kernel
theorem kd_Mo_lookAtArray_115 : decode kc_Mo_lookAtArray 115 = .ok (.return_, 1) := by decide +kernel
theorem kd_Mo_lookAtName_0 : decode kc_Mo_lookAtName 0 = .ok (.aload_n 0, 1) := by decide +kernel
theorem kd_Mo_lookAtName_1 : decode kc_Mo_lookAtName 1 = .ok (.getfield 22, 3) := by decide +kernel
theorem kd_Mo_lookAtName_4 : decode kc_Mo_lookAtName 4 = .ok (.aload_n 0, 1) := by decide +kernel
theorem kd_Mo_lookAtName_5 : decode kc_Mo_lookAtName 5 = .ok (.getfield 31, 3) := by decide +kernel
theorem kd_Mo_lookAtName_8 : decode kc_Mo_lookAtName 8 = .ok (.iload_n 1, 1) := by decide +kernel
theorem kd_Mo_lookAtName_9 : decode kc_Mo_lookAtName 9 = .ok (.iaload, 1) := by decide +kernel
theorem kd_Mo_lookAtName_10 : decode kc_Mo_lookAtName 10 = .ok (.iaload, 1) := by decide +kernel
theorem kd_Mo_lookAtName_11 : decode kc_Mo_lookAtName 11 = .ok (.istore_n 2, 1) := by decide +kernel
theorem kd_Mo_lookAtName_12 : decode kc_Mo_lookAtName 12 = .ok (.iload_n 2, 1) := by decide +kernel
theorem kd_Mo_lookAtName_13 : decode kc_Mo_lookAtName 13 = .ok (.iconst 5, 1) := by decide +kernel
theorem kd_Mo_lookAtName_14 : decode kc_Mo_lookAtName 14 = .ok (.if_icmp .ne 87, 3) := by decide +kernel
theorem kd_Mo_lookAtName_17 : decode kc_Mo_lookAtName 17 = .ok (.aload_n 0, 1) := by decide +kernel
theorem kd_Mo_lookAtName_18 : decode kc_Mo_lookAtName 18 = .ok (.getfield 28, 3) := by decide +kernel
theorem kd_Mo_lookAtName_21 : decode kc_Mo_lookAtName 21 = .ok (.iload_n 1, 1) := by decide +kernel
theorem kd_Mo_lookAtName_22 : decode kc_Mo_lookAtName 22 = .ok (.iaload, 1) := by decide +kernel
theorem kd_Mo_lookAtName_23 : decode kc_Mo_lookAtName 23 = .ok (.istore_n 3, 1) := by decide +kernel
theorem kd_Mo_lookAtName_24 : decode kc_Mo_lookAtName 24 = .ok (.aload_n 0, 1) := by decide +kernel
theorem kd_Mo_lookAtName_25 : decode kc_Mo_lookAtName 25 = .ok (.aload_n 0, 1) := by decide +kernel
theorem kd_Mo_lookAtName_26 : decode kc_Mo_lookAtName 26 = .ok (.aload_n 0, 1) := by decide +kernel
theorem kd_Mo_lookAtName_27 : decode kc_Mo_lookAtName 27 = .ok (.getfield 550, 3) := by decide +kernel
theorem kd_Mo_lookAtName_30 : decode kc_Mo_lookAtName 30 = .ok (.iload_n 3, 1) := by decide +kernel
theorem kd_Mo_lookAtName_31 : decode kc_Mo_lookAtName 31 = .ok (.invokevirtual 507, 3) := by decide +kernel
theorem kd_Mo_lookAtName_34 : decode kc_Mo_lookAtName 34 = .ok (.ifCond .ge 23, 3) := by decide +kernel
theorem kd_Mo_lookAtName_37 : decode kc_Mo_lookAtName 37 = .ok (.aload_n 0, 1) := by decide +kernel
theorem kd_Mo_lookAtName_38 : decode kc_Mo_lookAtName 38 = .ok (.iload_n 3, 1) := by decide +kernel
theorem kd_Mo_lookAtName_39 : decode kc_Mo_lookAtName 39 = .ok (.aload_n 0, 1) := by decide +kernel
theorem kd_Mo_lookAtName_40 : decode kc_Mo_lookAtName 40 = .ok (.getfield 462, 3) := by decide +kernel
theorem kd_Mo_lookAtName_43 : decode kc_Mo_lookAtName 43 = .ok (.invokevirtual 547, 3) := by decide +kernel
theorem kd_Mo_lookAtName_46 : decode kc_Mo_lookAtName 46 = .ok (.ifCond .ge 11, 3) := by decide +kernel
theorem kd_Mo_lookAtName_49 : decode kc_Mo_lookAtName 49 = .ok (.aload_n 0, 1) := by decide +kernel
theorem kd_Mo_lookAtName_50 : decode kc_Mo_lookAtName 50 = .ok (.iload_n 3, 1) := by decide +kernel
theorem kd_Mo_lookAtName_51 : decode kc_Mo_lookAtName 51 = .ok (.invokevirtual 544, 3) := by decide +kernel
theorem kd_Mo_lookAtName_54 : decode kc_Mo_lookAtName 54 = .ok (.ifCond .eq 7, 3) := by decide +kernel
theorem kd_Mo_lookAtName_57 : decode kc_Mo_lookAtName 57 = .ok (.iconst 1, 1) := by decide +kernel
theorem kd_Mo_lookAtName_58 : decode kc_Mo_lookAtName 58 = .ok (.goto 4, 3) := by decide +kernel
theorem kd_Mo_lookAtName_61 : decode kc_Mo_lookAtName 61 = .ok (.iconst 0, 1) := by decide +kernel
theorem kd_Mo_lookAtName_62 : decode kc_Mo_lookAtName 62 = .ok (.bipush 12, 2) := by decide +kernel
theorem kd_Mo_lookAtName_64 : decode kc_Mo_lookAtName 64 = .ok (.iload_n 1, 1) := by decide +kernel
theorem kd_Mo_lookAtName_65 : decode kc_Mo_lookAtName 65 = .ok (.invokevirtual 540, 3) := by decide +kernel
theorem kd_Mo_lookAtName_68 : decode kc_Mo_lookAtName 68 = .ok (.aload_n 0, 1) := by decide +kernel
theorem kd_Mo_lookAtName_69 : decode kc_Mo_lookAtName 69 = .ok (.iload_n 3, 1) := by decide +kernel
theorem kd_Mo_lookAtName_70 : decode kc_Mo_lookAtName 70 = .ok (.invokevirtual 553, 3) := by decide +kernel
theorem kd_Mo_lookAtName_73 : decode kc_Mo_lookAtName 73 = .ok (.istore 4, 2) := by decide +kernel
theorem kd_Mo_lookAtName_75 : decode kc_Mo_lookAtName 75 = .ok (.aload_n 0, 1) := by decide +kernel
theorem kd_Mo_lookAtName_76 : decode kc_Mo_lookAtName 76 = .ok (.getfield 91, 3) := by decide +kernel
theorem kd_Mo_lookAtName_79 : decode kc_Mo_lookAtName 79 = .ok (.iload 4, 2) := by decide +kernel
theorem kd_Mo_lookAtName_81 : decode kc_Mo_lookAtName 81 = .ok (.aload_n 0, 1) := by decide +kernel
theorem kd_Mo_lookAtName_82 : decode kc_Mo_lookAtName 82 = .ok (.getfield 28, 3) := by decide +kernel
theorem kd_Mo_lookAtName_85 : decode kc_Mo_lookAtName 85 = .ok (.aload_n 0, 1) := by decide +kernel
theorem kd_Mo_lookAtName_86 : decode kc_Mo_lookAtName 86 = .ok (.getfield 31, 3) := by decide +kernel
theorem kd_Mo_lookAtName_89 : decode kc_Mo_lookAtName 89 = .ok (.aload_n 0, 1) := by decide +kernel
theorem kd_Mo_lookAtName_90 : decode kc_Mo_lookAtName 90 = .ok (.getfield 31, 3) := by decide +kernel
theorem kd_Mo_lookAtName_93 : decode kc_Mo_lookAtName 93 = .ok (.iload_n 1, 1) := by decide +kernel
theorem kd_Mo_lookAtName_94 : decode kc_Mo_lookAtName 94 = .ok (.iaload, 1) := by decide +kernel
theorem kd_Mo_lookAtName_95 : decode kc_Mo_lookAtName 95 = .ok (.iaload, 1) := by decide +kernel
theorem kd_Mo_lookAtName_96 : decode kc_Mo_lookAtName 96 = .ok (.iaload, 1) := by decide +kernel
theorem kd_Mo_lookAtName_97 : decode kc_Mo_lookAtName 97 = .ok (.iastore, 1) := by decide +kernel
theorem kd_Mo_lookAtName_98 : decode kc_Mo_lookAtName 98 = .ok (.goto 96, 3) := by decide +kernel
theorem kd_Mo_lookAtName_101 : decode kc_Mo_lookAtName 101 = .ok (.iload_n 2, 1) := by decide +kernel
theorem kd_Mo_lookAtName_102 : decode kc_Mo_lookAtName 102 = .ok (.bipush 33, 2) := by decide +kernel
theorem kd_Mo_lookAtName_104 : decode kc_Mo_lookAtName 104 = .ok (.if_icmp .eq 90, 3) := by decide +kernel
theorem kd_Mo_lookAtName_107 : decode kc_Mo_lookAtName 107 = .ok (.aload_n 0, 1) := by decide +kernel
theorem kd_Mo_lookAtName_108 : decode kc_Mo_lookAtName 108 = .ok (.aload_n 0, 1) := by decide +kernel
theorem kd_Mo_lookAtName_109 : decode kc_Mo_lookAtName 109 = .ok (.getfield 550, 3) := by decide +kernel
theorem kd_Mo_lookAtName_112 : decode kc_Mo_lookAtName 112 = .ok (.aload_n 0, 1) := by decide +kernel
theorem kd_Mo_lookAtName_113 : decode kc_Mo_lookAtName 113 = .ok (.getfield 28, 3) := by decide +kernel
theorem kd_Mo_lookAtName_116 : decode kc_Mo_lookAtName 116 = .ok (.iload_n 1, 1) := by decide +kernel
theorem kd_Mo_lookAtName_117 : decode kc_Mo_lookAtName 117 = .ok (.iaload, 1) := by decide +kernel
theorem kd_Mo_lookAtName_118 : decode kc_Mo_lookAtName 118 = .ok (.invokevirtual 507, 3) := by decide +kernel
theorem kd_Mo_lookAtName_121 : decode kc_Mo_lookAtName 121 = .ok (.istore_n 3, 1) := by decide +kernel
theorem kd_Mo_lookAtName_122 : decode kc_Mo_lookAtName 122 = .ok (.aload_n 0, 1) := by decide +kernel
theorem kd_Mo_lookAtName_123 : decode kc_Mo_lookAtName 123 = .ok (.iload_n 3, 1) := by decide +kernel
theorem kd_Mo_lookAtName_124 : decode kc_Mo_lookAtName 124 = .ok (.ifCond .ge 7, 3) := by decide +kernel
theorem kd_Mo_lookAtName_127 : decode kc_Mo_lookAtName 127 = .ok (.iconst 1, 1) := by decide +kernel
theorem kd_Mo_lookAtName_128 : decode kc_Mo_lookAtName 128 = .ok (.goto 4, 3) := by decide +kernel
theorem kd_Mo_lookAtName_131 : decode kc_Mo_lookAtName 131 = .ok (.iconst 0, 1) := by decide +kernel
theorem kd_Mo_lookAtName_132 : decode kc_Mo_lookAtName 132 = .ok (.bipush 20, 2) := by decide +kernel
theorem kd_Mo_lookAtName_134 : decode kc_Mo_lookAtName 134 = .ok (.iload_n 1, 1) := by decide +kernel
theorem kd_Mo_lookAtName_135 : decode kc_Mo_lookAtName 135 = .ok (.invokevirtual 540, 3) := by decide +kernel
theorem kd_Mo_lookAtName_138 : decode kc_Mo_lookAtName 138 = .ok (.aload_n 0, 1) := by decide +kernel
theorem kd_Mo_lookAtName_139 : decode kc_Mo_lookAtName 139 = .ok (.iload_n 3, 1) := by decide +kernel
theorem kd_Mo_lookAtName_140 : decode kc_Mo_lookAtName 140 = .ok (.ifCond .lt 16, 3) := by decide +kernel
theorem kd_Mo_lookAtName_143 : decode kc_Mo_lookAtName 143 = .ok (.aload_n 0, 1) := by decide +kernel
theorem kd_Mo_lookAtName_144 : decode kc_Mo_lookAtName 144 = .ok (.getfield 82, 3) := by decide +kernel
theorem kd_Mo_lookAtName_147 : decode kc_Mo_lookAtName 147 = .ok (.iload_n 3, 1) := by decide +kernel
theorem kd_Mo_lookAtName_148 : decode kc_Mo_lookAtName 148 = .ok (.iaload, 1) := by decide +kernel
theorem kd_Mo_lookAtName_149 : decode kc_Mo_lookAtName 149 = .ok (.ifCond .eq 7, 3) := by decide +kernel
theorem kd_Mo_lookAtName_152 : decode kc_Mo_lookAtName 152 = .ok (.iconst 1, 1) := by decide +kernel
theorem kd_Mo_lookAtName_153 : decode kc_Mo_lookAtName 153 = .ok (.goto 4, 3) := by decide +kernel
theorem kd_Mo_lookAtName_156 : decode kc_Mo_lookAtName 156 = .ok (.iconst 0, 1) := by decide +kernel
theorem kd_Mo_lookAtName_157 : decode kc_Mo_lookAtName 157 = .ok (.bipush 21, 2) := by decide +kernel
theorem kd_Mo_lookAtName_159 : decode kc_Mo_lookAtName 159 = .ok (.iload_n 1, 1) := by decide +kernel
theorem kd_Mo_lookAtName_160 : decode kc_Mo_lookAtName 160 = .ok (.invokevirtual 540, 3) := by decide +kernel
theorem kd_Mo_lookAtName_163 : decode kc_Mo_lookAtName 163 = .ok (.aload_n 0, 1) := by decide +kernel
theorem kd_Mo_lookAtName_164 : decode kc_Mo_lookAtName 164 = .ok (.getfield 445, 3) := by decide +kernel
theorem kd_Mo_lookAtName_167 : decode kc_Mo_lookAtName 167 = .ok (.ifCond .ne 27, 3) := by decide +kernel
theorem kd_Mo_lookAtName_170 : decode kc_Mo_lookAtName 170 = .ok (.aload_n 0, 1) := by decide +kernel
theorem kd_Mo_lookAtName_171 : decode kc_Mo_lookAtName 171 = .ok (.getfield 106, 3) := by decide +kernel
theorem kd_Mo_lookAtName_174 : decode kc_Mo_lookAtName 174 = .ok (.iload_n 1, 1) := by decide +kernel
theorem kd_Mo_lookAtName_175 : decode kc_Mo_lookAtName 175 = .ok (.aload_n 0, 1) := by decide +kernel
theorem kd_Mo_lookAtName_176 : decode kc_Mo_lookAtName 176 = .ok (.getfield 85, 3) := by decide +kernel
theorem kd_Mo_lookAtName_179 : decode kc_Mo_lookAtName 179 = .ok (.iload_n 3, 1) := by decide +kernel
theorem kd_Mo_lookAtName_180 : decode kc_Mo_lookAtName 180 = .ok (.iaload, 1) := by decide +kernel
theorem kd_Mo_lookAtName_181 : decode kc_Mo_lookAtName 181 = .ok (.iastore, 1) := by decide +kernel
theorem kd_Mo_lookAtName_182 : decode kc_Mo_lookAtName 182 = .ok (.aload_n 0, 1) := by decide +kernel
theorem kd_Mo_lookAtName_183 : decode kc_Mo_lookAtName 183 = .ok (.getfield 109, 3) := by decide +kernel
theorem kd_Mo_lookAtName_186 : decode kc_Mo_lookAtName 186 = .ok (.iload_n 1, 1) := by decide +kernel
theorem kd_Mo_lookAtName_187 : decode kc_Mo_lookAtName 187 = .ok (.aload_n 0, 1) := by decide +kernel
theorem kd_Mo_lookAtName_188 : decode kc_Mo_lookAtName 188 = .ok (.getfield 88, 3) := by decide +kernel
theorem kd_Mo_lookAtName_191 : decode kc_Mo_lookAtName 191 = .ok (.iload_n 3, 1) := by decide +kernel
theorem kd_Mo_lookAtName_192 : decode kc_Mo_lookAtName 192 = .ok (.iaload, 1) := by decide +kernel
theorem kd_Mo_lookAtName_193 : decode kc_Mo_lookAtName 193 = .ok (.iastore, 1) := by decide +kernel
theorem kd_Mo_lookAtName_194 : decode kc_Mo_lookAtName 194 = .ok (.return_, 1) := by decide +kernel
theorem kd_Mo_variable_0 : decode kc_Mo_variable 0 = .ok (.aload_n 0, 1) := by decide +kernel
theorem kd_Mo_variable_1 : decode kc_Mo_variable 1 = .ok (.getfield 76, 3) := by decide +kernel
theorem kd_Mo_variable_4 : decode kc_Mo_variable 4 = .ok (.iload_n 1, 1) := by decide +kernel
theorem kd_Mo_variable_5 : decode kc_Mo_variable 5 = .ok (.iaload, 1) := by decide +kernel
theorem kd_Mo_variable_6 : decode kc_Mo_variable 6 = .ok (.istore_n 3, 1) := by decide +kernel
theorem kd_Mo_variable_7 : decode kc_Mo_variable 7 = .ok (.iload_n 3, 1) := by decide +kernel
theorem kd_Mo_variable_8 : decode kc_Mo_variable 8 = .ok (.iload_n 1, 1) := by decide +kernel
theorem kd_Mo_variable_9 : decode kc_Mo_variable 9 = .ok (.aload_n 0, 1) := by decide +kernel
theorem kd_Mo_variable_10 : decode kc_Mo_variable 10 = .ok (.getfield 462, 3) := by decide +kernel
theorem kd_Mo_variable_13 : decode kc_Mo_variable 13 = .ok (.iconst 1, 1) := by decide +kernel
theorem kd_Mo_variable_14 : decode kc_Mo_variable 14 = .ok (.isub, 1) := by decide +kernel
theorem kd_Mo_variable_15 : decode kc_Mo_variable 15 = .ok (.if_icmp .ne 10, 3) := by decide +kernel
theorem kd_Mo_variable_18 : decode kc_Mo_variable 18 = .ok (.aload_n 0, 1) := by decide +kernel
theorem kd_Mo_variable_19 : decode kc_Mo_variable 19 = .ok (.getfield 465, 3) := by decide +kernel
theorem kd_Mo_variable_22 : decode kc_Mo_variable 22 = .ok (.goto 11, 3) := by decide +kernel
theorem kd_Mo_variable_25 : decode kc_Mo_variable 25 = .ok (.aload_n 0, 1) := by decide +kernel
theorem kd_Mo_variable_26 : decode kc_Mo_variable 26 = .ok (.getfield 76, 3) := by decide +kernel
theorem kd_Mo_variable_29 : decode kc_Mo_variable 29 = .ok (.iload_n 1, 1) := by decide +kernel
theorem kd_Mo_variable_30 : decode kc_Mo_variable 30 = .ok (.iconst 1, 1) := by decide +kernel
theorem kd_Mo_variable_31 : decode kc_Mo_variable 31 = .ok (.iadd, 1) := by decide +kernel
theorem kd_Mo_variable_32 : decode kc_Mo_variable 32 = .ok (.iaload, 1) := by decide +kernel
theorem kd_Mo_variable_33 : decode kc_Mo_variable 33 = .ok (.if_icmp .ge 21, 3) := by decide +kernel
theorem kd_Mo_variable_36 : decode kc_Mo_variable 36 = .ok (.aload_n 0, 1) := by decide +kernel
theorem kd_Mo_variable_37 : decode kc_Mo_variable 37 = .ok (.getfield 79, 3) := by decide +kernel
theorem kd_Mo_variable_40 : decode kc_Mo_variable 40 = .ok (.iload_n 3, 1) := by decide +kernel
theorem kd_Mo_variable_41 : decode kc_Mo_variable 41 = .ok (.iaload, 1) := by decide +kernel
theorem kd_Mo_variable_42 : decode kc_Mo_variable 42 = .ok (.iload_n 2, 1) := by decide +kernel
theorem kd_Mo_variable_43 : decode kc_Mo_variable 43 = .ok (.if_icmp .ne 5, 3) := by decide +kernel
theorem kd_Mo_variable_46 : decode kc_Mo_variable 46 = .ok (.iload_n 3, 1) := by decide +kernel
theorem kd_Mo_variable_47 : decode kc_Mo_variable 47 = .ok (.ireturn, 1) := by decide +kernel
theorem kd_Mo_variable_48 : decode kc_Mo_variable 48 = .ok (.iinc 3 1, 3) := by decide +kernel
theorem kd_Mo_variable_51 : decode kc_Mo_variable 51 = .ok (.goto (-44), 3) := by decide +kernel
theorem kd_Mo_variable_54 : decode kc_Mo_variable 54 = .ok (.iconst (-1), 1) := by decide +kernel
theorem kd_Mo_variable_55 : decode kc_Mo_variable 55 = .ok (.ireturn, 1) := by decide +kernel
set_option maxHeartbeats 4000000 in
set_option maxRecDepth 100000 in
theorem zb_Mo_lookAtArray_109 {X : zkj_T} {S : zs_T} {P : ze_T} {l : Launch} {D : va_G} {sz0 : Nat} {rh : zs_H} (C : zk_C X km_Mo_lookAtArray (zs_G S l D sz0) { frames := 2, cells := 0, slots := 0, locals := 45 } (ze_E P)) (hR : zkj_R X (zd_PV S rh) (none)) (h : zs_H) (x1 : Int32) (y0 : Int32) (e : f_Mo_lookAtArray_109 h x1 y0 = some rh) : zk_Ab X (zs_W S h) 0 0 109 [(1, .int x1)] [.int y0, .ref (S.1 68)] := by
  unfold f_Mo_lookAtArray_109 at e
  refine zk_bipush (v := 16) C kd_Mo_lookAtArray_109 (by decide) rfl ?_
  refine zk_iload_n C kd_Mo_lookAtArray_111 rfl 0 rfl rfl ?_
  obtain ⟨h2, c1, e⟩ := zd_b e
  refine zs_callV (k := 68) (rn := { frames := 1, cells := 0, slots := 0, locals := 22 }) (As := [.int y0, .int 16, .int x1]) (rest := []) C (zc_Mo_rule h y0 16 x1 c1) ku_Mo_rule kw2260 kv_Mo_rule rfl ⟨by decide, by decide⟩ ⟨by decide, by decide⟩ rfl rfl rfl (Nat.le_of_ble_eq_true rfl) kd_Mo_lookAtArray_112 rfl (c1 := 0) (s1 := 0) rfl rfl (fun v w hp => ?_)
  obtain ⟨rfl, rfl⟩ := hp
  refine zk_stk (r' := []) rfl ?_
  exact zk_vret C hR kd_Mo_lookAtArray_115 rfl rfl (zd_rV e)
set_option maxHeartbeats 4000000 in
set_option maxRecDepth 100000 in
theorem zb_Mo_lookAtArray_104 {X : zkj_T} {S : zs_T} {P : ze_T} {l : Launch} {D : va_G} {sz0 : Nat} {rh : zs_H} (C : zk_C X km_Mo_lookAtArray (zs_G S l D sz0) { frames := 2, cells := 0, slots := 0, locals := 45 } (ze_E P)) (hR : zkj_R X (zd_PV S rh) (none)) (h : zs_H) (x1 : Int32) (e : f_Mo_lookAtArray_104 h x1 = some rh) : zk_Ab X (zs_W S h) 0 0 104 [(1, .int x1)] [.ref (S.1 68)] := by
  unfold f_Mo_lookAtArray_104 at e
  refine zk_iconst (v := 1) C kd_Mo_lookAtArray_104 (by decide) rfl ?_
  refine zk_goto (tgt := 109) C kd_Mo_lookAtArray_105 (by decide) ?_
  refine zk_lvs (lv' := [(1, .int x1)]) [0] rfl ?_
  exact zb_Mo_lookAtArray_109 C hR h x1 1 e
set_option maxHeartbeats 4000000 in
set_option maxRecDepth 100000 in
theorem zb_Mo_lookAtArray_54 {X : zkj_T} {S : zs_T} {P : ze_T} {l : Launch} {D : va_G} {sz0 : Nat} {rh : zs_H} (C : zk_C X km_Mo_lookAtArray (zs_G S l D sz0) { frames := 2, cells := 0, slots := 0, locals := 45 } (ze_E P)) (hR : zkj_R X (zd_PV S rh) (none)) (h : zs_H) (x1 : Int32) (x2 : Int32) (x3 : Int32) (y0 : Int32) (e : f_Mo_lookAtArray_54 h x1 x2 x3 y0 = some rh) : zk_Ab X (zs_W S h) 0 0 54 [(0, .ref (S.1 68)), (1, .int x1), (2, .int x2), (3, .int x3)] [.int y0] := by
  unfold f_Mo_lookAtArray_54 at e
  refine zk_istore (lv' := [(4, _), (0, _), (1, _), (2, _), (3, _)]) C kd_Mo_lookAtArray_54 (by decide) rfl rfl ?_
  refine zk_aload_n C kd_Mo_lookAtArray_56 rfl 1 rfl rfl ?_
  refine zk_iload C kd_Mo_lookAtArray_57 0 rfl rfl ?_
  refine zk_if_ne (tgt := 104) C kd_Mo_lookAtArray_59 (by decide) rfl (fun b1 => ?_) (fun b1 => ?_)
  · replace e := zd_neg b1 e
    refine zk_lvs (lv' := [(1, .int x1)]) [2] rfl ?_
    exact zb_Mo_lookAtArray_104 C hR h x1 e
  · replace e := zd_pos b1 e
    refine zk_aload_n C kd_Mo_lookAtArray_62 rfl 1 rfl rfl ?_
    refine zs_get (v := .ref (S.1 74)) C 68 17 rfl rfl rfl rfl ki_Mo (by decide) kw1700 kd_Mo_lookAtArray_63 rfl ?_
    refine zk_iload_n C kd_Mo_lookAtArray_66 rfl 4 rfl rfl ?_
    obtain ⟨q2, e⟩ := zd_g e
    refine zs_iald C 74 rfl (zd_vp q2) kd_Mo_lookAtArray_67 rfl ?_
    refine zk_i2l C kd_Mo_lookAtArray_68 rfl ?_
    refine zk_aload_n C kd_Mo_lookAtArray_69 rfl 1 rfl rfl ?_
    refine zs_get (v := .ref (S.1 74)) C 68 17 rfl rfl rfl rfl ki_Mo (by decide) kw1700 kd_Mo_lookAtArray_70 rfl ?_
    refine zk_iload_n C kd_Mo_lookAtArray_73 rfl 3 rfl rfl ?_
    obtain ⟨q3, e⟩ := zd_g e
    refine zs_iald C 74 rfl (zd_vp q3) kd_Mo_lookAtArray_74 rfl ?_
    refine zk_i2l C kd_Mo_lookAtArray_75 rfl ?_
    refine zk_lsub C kd_Mo_lookAtArray_76 rfl ?_
    refine zk_lconst (v := 0) C kd_Mo_lookAtArray_77 (by decide) rfl ?_
    refine zk_lcmp C kd_Mo_lookAtArray_78 rfl ?_
    refine zk_if_lt (tgt := 104) C kd_Mo_lookAtArray_79 (by decide) rfl (fun b4 => ?_) (fun b4 => ?_)
    · replace e := zd_pos (zd_clt.mp b4) e
      refine zk_lvs (lv' := [(1, .int x1)]) [2] rfl ?_
      exact zb_Mo_lookAtArray_104 C hR h x1 e
    · replace e := zd_neg (fun z => b4 (zd_clt.mpr z)) e
      refine zk_aload_n C kd_Mo_lookAtArray_82 rfl 1 rfl rfl ?_
      refine zs_get (v := .ref (S.1 74)) C 68 17 rfl rfl rfl rfl ki_Mo (by decide) kw1700 kd_Mo_lookAtArray_83 rfl ?_
      refine zk_iload_n C kd_Mo_lookAtArray_86 rfl 4 rfl rfl ?_
      refine zs_iald C 74 rfl (zd_vp q2) kd_Mo_lookAtArray_87 rfl ?_
      refine zk_i2l C kd_Mo_lookAtArray_88 rfl ?_
      refine zk_aload_n C kd_Mo_lookAtArray_89 rfl 1 rfl rfl ?_
      refine zs_get (v := .ref (S.1 74)) C 68 17 rfl rfl rfl rfl ki_Mo (by decide) kw1700 kd_Mo_lookAtArray_90 rfl ?_
      refine zk_iload_n C kd_Mo_lookAtArray_93 rfl 3 rfl rfl ?_
      refine zs_iald C 74 rfl (zd_vp q3) kd_Mo_lookAtArray_94 rfl ?_
      refine zk_i2l C kd_Mo_lookAtArray_95 rfl ?_
      refine zk_lsub C kd_Mo_lookAtArray_96 rfl ?_
      refine zk_ldc2 (v := 255) C kw2077 kd_Mo_lookAtArray_97 rfl ?_
      refine zk_lcmp C kd_Mo_lookAtArray_100 rfl ?_
      refine zk_if_le (tgt := 108) C kd_Mo_lookAtArray_101 (by decide) rfl (fun b5 => ?_) (fun b5 => ?_)
      · replace e := zd_pos (zd_cle.mp b5) e
        refine zk_iconst (v := 0) C kd_Mo_lookAtArray_108 (by decide) rfl ?_
        refine zk_lvs (lv' := [(1, .int x1)]) [2] rfl ?_
        exact zb_Mo_lookAtArray_109 C hR h x1 0 e
      · replace e := zd_neg (fun z => b5 (zd_cle.mpr z)) e
        refine zk_lvs (lv' := [(1, .int x1)]) [2] rfl ?_
        exact zb_Mo_lookAtArray_104 C hR h x1 e
set_option maxHeartbeats 4000000 in
set_option maxRecDepth 100000 in
theorem zb_Mo_lookAtArray_49 {X : zkj_T} {S : zs_T} {P : ze_T} {l : Launch} {D : va_G} {sz0 : Nat} {rh : zs_H} (C : zk_C X km_Mo_lookAtArray (zs_G S l D sz0) { frames := 2, cells := 0, slots := 0, locals := 45 } (ze_E P)) (hR : zkj_R X (zd_PV S rh) (none)) (h : zs_H) (x1 : Int32) (x2 : Int32) (x3 : Int32) (e : f_Mo_lookAtArray_49 h x1 x2 x3 = some rh) : zk_Ab X (zs_W S h) 0 0 49 [(0, .ref (S.1 68)), (1, .int x1), (2, .int x2), (3, .int x3)] [] := by
  unfold f_Mo_lookAtArray_49 at e
  refine zk_iconst (v := 1) C kd_Mo_lookAtArray_49 (by decide) rfl ?_
  refine zk_goto (tgt := 54) C kd_Mo_lookAtArray_50 (by decide) ?_
  refine zk_lvs (lv' := [(0, .ref (S.1 68)), (1, .int x1), (2, .int x2), (3, .int x3)]) [0, 1, 2, 3] rfl ?_
  exact zb_Mo_lookAtArray_54 C hR h x1 x2 x3 1 e
set_option maxHeartbeats 4000000 in
set_option maxRecDepth 100000 in
theorem zc_Mo_lookAtArray {l : Launch} {D : va_G} {sz0 : Nat} {S : zs_T} {P : ze_T} (h : zs_H) (x1 : Int32) {rh : zs_H} (e : f_Mo_lookAtArray h x1 = some rh) : zk_Sp (zs_G S l D sz0) (ze_E P) km_Mo_lookAtArray { frames := 2, cells := 0, slots := 0, locals := 45 } [.ref (S.1 68), .int x1] (zs_W S h) (zd_PV S rh) := by
  refine zk_met ku_Mo_lookAtArray (Nat.le_of_ble_eq_true rfl) (ze_Em P) ?_
  intro X C hR
  refine zk_lvs (lv' := [(0, .ref (S.1 68)), (1, .int x1)]) [0, 1] rfl ?_
  unfold f_Mo_lookAtArray at e
  refine zk_aload_n C kd_Mo_lookAtArray_0 rfl 0 rfl rfl ?_
  refine zs_get (v := .ref (S.1 76)) C 68 19 rfl rfl rfl rfl ki_Mo (by decide) kw1702 kd_Mo_lookAtArray_1 rfl ?_
  refine zk_iload_n C kd_Mo_lookAtArray_4 rfl 1 rfl rfl ?_
  obtain ⟨q1, e⟩ := zd_g e
  refine zs_iald C 76 rfl (zd_vp q1) kd_Mo_lookAtArray_5 rfl ?_
  refine zk_istore_n (lv' := [(2, _), (0, _), (1, _)]) C kd_Mo_lookAtArray_6 rfl (by decide) rfl rfl ?_
  refine zk_aload_n C kd_Mo_lookAtArray_7 rfl 1 rfl rfl ?_
  refine zs_get (v := .ref (S.1 78)) C 68 21 rfl rfl rfl rfl ki_Mo (by decide) kw1704 kd_Mo_lookAtArray_8 rfl ?_
  refine zk_iload_n C kd_Mo_lookAtArray_11 rfl 0 rfl rfl ?_
  obtain ⟨q2, e⟩ := zd_g e
  refine zs_iald C 78 rfl (zd_vp q2) kd_Mo_lookAtArray_12 rfl ?_
  refine zk_istore_n (lv' := [(3, _), (2, _), (0, _), (1, _)]) C kd_Mo_lookAtArray_13 rfl (by decide) rfl rfl ?_
  refine zk_aload_n C kd_Mo_lookAtArray_14 rfl 2 rfl rfl ?_
  refine zs_get (v := .ref (S.1 86)) C 68 36 rfl rfl rfl rfl ki_Mo (by decide) kw1719 kd_Mo_lookAtArray_15 rfl ?_
  refine zk_aload_n C kd_Mo_lookAtArray_18 rfl 2 rfl rfl ?_
  refine zs_get (v := .int (h.1 68 54)) C 68 54 rfl rfl rfl rfl ki_Mo (by decide) kw1737 kd_Mo_lookAtArray_19 rfl ?_
  obtain ⟨q3, e⟩ := zd_g e
  refine zs_iald C 86 rfl (zd_vp q3) kd_Mo_lookAtArray_22 rfl ?_
  refine zk_iconst (v := 1) C kd_Mo_lookAtArray_23 (by decide) rfl ?_
  refine zk_icmp_eq (tgt := 49) C kd_Mo_lookAtArray_24 (by decide) rfl (fun b4 => ?_) (fun b4 => ?_)
  · replace e := zd_pos b4 e
    refine zk_lvs (lv' := [(0, .ref (S.1 68)), (1, .int x1), (2, .int (h.2.1 76 x1.toNatClampNeg)), (3, .int (h.2.1 78 (h.2.1 76 x1.toNatClampNeg).toNatClampNeg))]) [2, 3, 1, 0] rfl ?_
    exact zb_Mo_lookAtArray_49 C hR h x1 (h.2.1 76 x1.toNatClampNeg) (h.2.1 78 (h.2.1 76 x1.toNatClampNeg).toNatClampNeg) e
  · replace e := zd_neg b4 e
    refine zk_aload_n C kd_Mo_lookAtArray_27 rfl 2 rfl rfl ?_
    refine zs_get (v := .ref (S.1 72)) C 68 15 rfl rfl rfl rfl ki_Mo (by decide) kw1698 kd_Mo_lookAtArray_28 rfl ?_
    refine zk_iload_n C kd_Mo_lookAtArray_31 rfl 1 rfl rfl ?_
    refine zs_iald C 72 rfl (zd_vp q2) kd_Mo_lookAtArray_32 rfl ?_
    refine zk_bipush (v := 31) C kd_Mo_lookAtArray_33 (by decide) rfl ?_
    refine zk_icmp_eq (tgt := 49) C kd_Mo_lookAtArray_35 (by decide) rfl (fun b5 => ?_) (fun b5 => ?_)
    · replace e := zd_pos b5 e
      refine zk_lvs (lv' := [(0, .ref (S.1 68)), (1, .int x1), (2, .int (h.2.1 76 x1.toNatClampNeg)), (3, .int (h.2.1 78 (h.2.1 76 x1.toNatClampNeg).toNatClampNeg))]) [2, 3, 1, 0] rfl ?_
      exact zb_Mo_lookAtArray_49 C hR h x1 (h.2.1 76 x1.toNatClampNeg) (h.2.1 78 (h.2.1 76 x1.toNatClampNeg).toNatClampNeg) e
    · replace e := zd_neg b5 e
      refine zk_aload_n C kd_Mo_lookAtArray_38 rfl 2 rfl rfl ?_
      refine zs_get (v := .ref (S.1 72)) C 68 15 rfl rfl rfl rfl ki_Mo (by decide) kw1698 kd_Mo_lookAtArray_39 rfl ?_
      refine zk_iload_n C kd_Mo_lookAtArray_42 rfl 0 rfl rfl ?_
      obtain ⟨q6, e⟩ := zd_g e
      refine zs_iald C 72 rfl (zd_vp q6) kd_Mo_lookAtArray_43 rfl ?_
      refine zk_bipush (v := 31) C kd_Mo_lookAtArray_44 (by decide) rfl ?_
      refine zk_icmp_ne (tgt := 53) C kd_Mo_lookAtArray_46 (by decide) rfl (fun b7 => ?_) (fun b7 => ?_)
      · replace e := zd_neg b7 e
        refine zk_iconst (v := 0) C kd_Mo_lookAtArray_53 (by decide) rfl ?_
        refine zk_lvs (lv' := [(0, .ref (S.1 68)), (1, .int x1), (2, .int (h.2.1 76 x1.toNatClampNeg)), (3, .int (h.2.1 78 (h.2.1 76 x1.toNatClampNeg).toNatClampNeg))]) [2, 3, 1, 0] rfl ?_
        exact zb_Mo_lookAtArray_54 C hR h x1 (h.2.1 76 x1.toNatClampNeg) (h.2.1 78 (h.2.1 76 x1.toNatClampNeg).toNatClampNeg) 0 e
      · replace e := zd_pos b7 e
        refine zk_lvs (lv' := [(0, .ref (S.1 68)), (1, .int x1), (2, .int (h.2.1 76 x1.toNatClampNeg)), (3, .int (h.2.1 78 (h.2.1 76 x1.toNatClampNeg).toNatClampNeg))]) [2, 3, 1, 0] rfl ?_
        exact zb_Mo_lookAtArray_49 C hR h x1 (h.2.1 76 x1.toNatClampNeg) (h.2.1 78 (h.2.1 76 x1.toNatClampNeg).toNatClampNeg) e
set_option maxHeartbeats 4000000 in
set_option maxRecDepth 100000 in
theorem zb_Mo_isPlaceTaken_39 {X : zkj_T} {S : zs_T} {P : ze_T} {l : Launch} {D : va_G} {sz0 : Nat} {rv : Int32} {h : zs_H} (C : zk_C X km_Mo_isPlaceTaken (zs_G S l D sz0) { frames := 0, cells := 0, slots := 0, locals := 0 } (ze_E P)) (hR : zkj_R X (zd_PZ S rv h) (some .boolean)) {k12 : Int32 → Int32 → Int32 → (Option Int32)} (hk12 : ∀ (x1 : Int32) (x2 : Int32) (x3 : Int32), k12 x1 x2 x3 = some rv → zk_Ab X (zs_W S h) 0 0 12 [(0, .ref (S.1 68)), (1, .int x1), (2, .int x2), (3, .int x3)] []) (x1 : Int32) (x3 : Int32) (y0 : Int32) (e : f_Mo_isPlaceTaken_39 h k12 x1 x3 y0 = some rv) : zk_Ab X (zs_W S h) 0 0 39 [(0, .ref (S.1 68)), (1, .int x1), (3, .int x3)] [.int y0] := by
  unfold f_Mo_isPlaceTaken_39 at e
  refine zk_istore_n (lv' := [(2, _), (0, _), (1, _), (3, _)]) C kd_Mo_isPlaceTaken_39 rfl (by decide) rfl rfl ?_
  refine zk_iinc (v := (x3 + 1)) (lv' := [(3, _), (2, _), (0, _), (1, _)]) C kd_Mo_isPlaceTaken_40 3 rfl rfl (by decide) rfl rfl ?_
  refine zk_goto (tgt := 12) C kd_Mo_isPlaceTaken_43 (by decide) ?_
  refine zk_lvs (lv' := [(0, .ref (S.1 68)), (1, .int x1), (2, .int y0), (3, .int (x3 + 1))]) [2, 3, 1, 0] rfl ?_
  exact hk12 x1 y0 (x3 + 1) e
set_option maxHeartbeats 4000000 in
set_option maxRecDepth 100000 in
theorem zb_Mo_isPlaceTaken_34 {X : zkj_T} {S : zs_T} {P : ze_T} {l : Launch} {D : va_G} {sz0 : Nat} {rv : Int32} {h : zs_H} (C : zk_C X km_Mo_isPlaceTaken (zs_G S l D sz0) { frames := 0, cells := 0, slots := 0, locals := 0 } (ze_E P)) (hR : zkj_R X (zd_PZ S rv h) (some .boolean)) {k12 : Int32 → Int32 → Int32 → (Option Int32)} (hk12 : ∀ (x1 : Int32) (x2 : Int32) (x3 : Int32), k12 x1 x2 x3 = some rv → zk_Ab X (zs_W S h) 0 0 12 [(0, .ref (S.1 68)), (1, .int x1), (2, .int x2), (3, .int x3)] []) (x1 : Int32) (x3 : Int32) (e : f_Mo_isPlaceTaken_34 h k12 x1 x3 = some rv) : zk_Ab X (zs_W S h) 0 0 34 [(0, .ref (S.1 68)), (1, .int x1), (3, .int x3)] [] := by
  unfold f_Mo_isPlaceTaken_34 at e
  refine zk_iconst (v := 1) C kd_Mo_isPlaceTaken_34 (by decide) rfl ?_
  refine zk_goto (tgt := 39) C kd_Mo_isPlaceTaken_35 (by decide) ?_
  refine zk_lvs (lv' := [(0, .ref (S.1 68)), (1, .int x1), (3, .int x3)]) [0, 1, 2] rfl ?_
  exact zb_Mo_isPlaceTaken_39 C hR hk12 x1 x3 1 e
set_option maxHeartbeats 4000000 in
set_option maxRecDepth 100000 in
theorem zb_Mo_isPlaceTaken_12 {X : zkj_T} {S : zs_T} {P : ze_T} {l : Launch} {D : va_G} {sz0 : Nat} {rv : Int32} {h : zs_H} (C : zk_C X km_Mo_isPlaceTaken (zs_G S l D sz0) { frames := 0, cells := 0, slots := 0, locals := 0 } (ze_E P)) (hR : zkj_R X (zd_PZ S rv h) (some .boolean)) {k12 : Int32 → Int32 → Int32 → (Option Int32)} (hk12 : ∀ (x1 : Int32) (x2 : Int32) (x3 : Int32), k12 x1 x2 x3 = some rv → zk_Ab X (zs_W S h) 0 0 12 [(0, .ref (S.1 68)), (1, .int x1), (2, .int x2), (3, .int x3)] []) (x1 : Int32) (x2 : Int32) (x3 : Int32) (e : f_Mo_isPlaceTaken_12 h k12 x1 x2 x3 = some rv) : zk_Ab X (zs_W S h) 0 0 12 [(0, .ref (S.1 68)), (1, .int x1), (2, .int x2), (3, .int x3)] [] := by
  unfold f_Mo_isPlaceTaken_12 at e
  refine zk_iload_n C kd_Mo_isPlaceTaken_12 rfl 3 rfl rfl ?_
  refine zk_aload_n C kd_Mo_isPlaceTaken_13 rfl 0 rfl rfl ?_
  refine zs_get (v := .int (h.1 68 41)) C 68 41 rfl rfl rfl rfl ki_Mo (by decide) kw1724 kd_Mo_isPlaceTaken_14 rfl ?_
  refine zk_icmp_ge (tgt := 46) C kd_Mo_isPlaceTaken_17 (by decide) rfl (fun b1 => ?_) (fun b1 => ?_)
  · replace e := zd_pos b1 e
    refine zk_iload_n C kd_Mo_isPlaceTaken_46 rfl 2 rfl rfl ?_
    obtain ⟨q2, e⟩ := zd_g e
    exact zk_zret C hR (zd_nb q2) kd_Mo_isPlaceTaken_47 rfl rfl (zd_rZO q2 e)
  · replace e := zd_neg b1 e
    refine zk_iload_n C kd_Mo_isPlaceTaken_20 rfl 2 rfl rfl ?_
    refine zk_if_ne (tgt := 34) C kd_Mo_isPlaceTaken_21 (by decide) rfl (fun b3 => ?_) (fun b3 => ?_)
    · replace e := zd_neg b3 e
      refine zk_lvs (lv' := [(0, .ref (S.1 68)), (1, .int x1), (3, .int x3)]) [0, 1, 3] rfl ?_
      exact zb_Mo_isPlaceTaken_34 C hR hk12 x1 x3 e
    · replace e := zd_pos b3 e
      refine zk_aload_n C kd_Mo_isPlaceTaken_24 rfl 0 rfl rfl ?_
      refine zs_get (v := .ref (S.1 96)) C 68 47 rfl rfl rfl rfl ki_Mo (by decide) kw1730 kd_Mo_isPlaceTaken_25 rfl ?_
      refine zk_iload_n C kd_Mo_isPlaceTaken_28 rfl 3 rfl rfl ?_
      obtain ⟨q4, e⟩ := zd_g e
      refine zs_iald C 96 rfl (zd_vp q4) kd_Mo_isPlaceTaken_29 rfl ?_
      refine zk_iload_n C kd_Mo_isPlaceTaken_30 rfl 1 rfl rfl ?_
      refine zk_icmp_ne (tgt := 38) C kd_Mo_isPlaceTaken_31 (by decide) rfl (fun b5 => ?_) (fun b5 => ?_)
      · replace e := zd_neg b5 e
        refine zk_iconst (v := 0) C kd_Mo_isPlaceTaken_38 (by decide) rfl ?_
        refine zk_lvs (lv' := [(0, .ref (S.1 68)), (1, .int x1), (3, .int x3)]) [0, 1, 3] rfl ?_
        exact zb_Mo_isPlaceTaken_39 C hR hk12 x1 x3 0 e
      · replace e := zd_pos b5 e
        refine zk_lvs (lv' := [(0, .ref (S.1 68)), (1, .int x1), (3, .int x3)]) [0, 1, 3] rfl ?_
        exact zb_Mo_isPlaceTaken_34 C hR hk12 x1 x3 e
theorem zl_Mo_isPlaceTaken_12 {X : zkj_T} {S : zs_T} {P : ze_T} {l : Launch} {D : va_G} {sz0 : Nat} {rv : Int32} {h : zs_H} (C : zk_C X km_Mo_isPlaceTaken (zs_G S l D sz0) { frames := 0, cells := 0, slots := 0, locals := 0 } (ze_E P)) (hR : zkj_R X (zd_PZ S rv h) (some .boolean)) (n : Nat) : ∀ (x1 : Int32) (x2 : Int32) (x3 : Int32), f_Mo_isPlaceTaken_L12 h n x1 x2 x3 = some rv → zk_Ab X (zs_W S h) 0 0 12 [(0, .ref (S.1 68)), (1, .int x1), (2, .int x2), (3, .int x3)] [] := by
  induction n with
  | zero => intro x1 x2 x3 e; exact zd_no e
  | succ n ih => intro x1 x2 x3 e; exact zb_Mo_isPlaceTaken_12 (k12 := f_Mo_isPlaceTaken_L12 h n) C hR ih x1 x2 x3 e
set_option maxHeartbeats 4000000 in
set_option maxRecDepth 100000 in
theorem zc_Mo_isPlaceTaken {l : Launch} {D : va_G} {sz0 : Nat} {S : zs_T} {P : ze_T} (h : zs_H) (x1 : Int32) {rv : Int32} (e : f_Mo_isPlaceTaken h x1 = some rv) : zk_Sp (zs_G S l D sz0) (ze_E P) km_Mo_isPlaceTaken { frames := 0, cells := 0, slots := 0, locals := 0 } [.ref (S.1 68), .int x1] (zs_W S h) (zd_PZ S rv h) := by
  refine zk_met ku_Mo_isPlaceTaken (Nat.le_of_ble_eq_true rfl) (ze_Em P) ?_
  intro X C hR
  refine zk_lvs (lv' := [(0, .ref (S.1 68)), (1, .int x1)]) [0, 1] rfl ?_
  unfold f_Mo_isPlaceTaken at e
  refine zk_iconst (v := 0) C kd_Mo_isPlaceTaken_0 (by decide) rfl ?_
  refine zk_istore_n (lv' := [(2, _), (0, _), (1, _)]) C kd_Mo_isPlaceTaken_1 rfl (by decide) rfl rfl ?_
  refine zk_aload_n C kd_Mo_isPlaceTaken_2 rfl 1 rfl rfl ?_
  refine zs_get (v := .ref (S.1 90)) C 68 40 rfl rfl rfl rfl ki_Mo (by decide) kw1723 kd_Mo_isPlaceTaken_3 rfl ?_
  refine zk_aload_n C kd_Mo_isPlaceTaken_6 rfl 1 rfl rfl ?_
  refine zs_get (v := .int (h.1 68 54)) C 68 54 rfl rfl rfl rfl ki_Mo (by decide) kw1737 kd_Mo_isPlaceTaken_7 rfl ?_
  obtain ⟨q1, e⟩ := zd_g e
  refine zs_iald C 90 rfl (zd_vp q1) kd_Mo_isPlaceTaken_10 rfl ?_
  refine zk_istore_n (lv' := [(3, _), (2, _), (0, _), (1, _)]) C kd_Mo_isPlaceTaken_11 rfl (by decide) rfl rfl ?_
  refine zk_lvs (lv' := [(0, .ref (S.1 68)), (1, .int x1), (2, .int 0), (3, .int (h.2.1 90 (h.1 68 54).toNatClampNeg))]) [2, 3, 1, 0] rfl ?_
  exact zl_Mo_isPlaceTaken_12 C hR zF x1 0 (h.2.1 90 (h.1 68 54).toNatClampNeg) e
set_option maxHeartbeats 4000000 in
set_option maxRecDepth 100000 in
theorem zb_Mo_variable_33 {X : zkj_T} {S : zs_T} {P : ze_T} {l : Launch} {D : va_G} {sz0 : Nat} {rv : Int32} {h : zs_H} (C : zk_C X km_Mo_variable (zs_G S l D sz0) { frames := 0, cells := 0, slots := 0, locals := 0 } (ze_E P)) (hR : zkj_R X (zd_PI S rv h) (some .int)) {k7 : Int32 → Int32 → Int32 → (Option Int32)} (hk7 : ∀ (x1 : Int32) (x2 : Int32) (x3 : Int32), k7 x1 x2 x3 = some rv → zk_Ab X (zs_W S h) 0 0 7 [(0, .ref (S.1 68)), (1, .int x1), (2, .int x2), (3, .int x3)] []) (x1 : Int32) (x2 : Int32) (x3 : Int32) (y0 : Int32) (y1 : Int32) (e : f_Mo_variable_33 h k7 x1 x2 x3 y0 y1 = some rv) : zk_Ab X (zs_W S h) 0 0 33 [(0, .ref (S.1 68)), (1, .int x1), (2, .int x2), (3, .int x3)] [.int y0, .int y1] := by
  unfold f_Mo_variable_33 at e
  refine zk_icmp_ge (tgt := 54) C kd_Mo_variable_33 (by decide) rfl (fun b1 => ?_) (fun b1 => ?_)
  · replace e := zd_pos b1 e
    refine zk_iconst (v := (-1)) C kd_Mo_variable_54 (by decide) rfl ?_
    exact zk_iret C hR kd_Mo_variable_55 rfl rfl (zd_rIO e)
  · replace e := zd_neg b1 e
    refine zk_aload_n C kd_Mo_variable_36 rfl 0 rfl rfl ?_
    refine zs_get (v := .ref (S.1 91)) C 68 42 rfl rfl rfl rfl ki_Mo (by decide) kw1725 kd_Mo_variable_37 rfl ?_
    refine zk_iload_n C kd_Mo_variable_40 rfl 3 rfl rfl ?_
    obtain ⟨q2, e⟩ := zd_g e
    refine zs_iald C 91 rfl (zd_vp q2) kd_Mo_variable_41 rfl ?_
    refine zk_iload_n C kd_Mo_variable_42 rfl 2 rfl rfl ?_
    refine zk_icmp_ne (tgt := 48) C kd_Mo_variable_43 (by decide) rfl (fun b3 => ?_) (fun b3 => ?_)
    · replace e := zd_neg b3 e
      refine zk_iinc (v := (x3 + 1)) (lv' := [(3, _), (0, _), (1, _), (2, _)]) C kd_Mo_variable_48 3 rfl rfl (by decide) rfl rfl ?_
      refine zk_goto (tgt := 7) C kd_Mo_variable_51 (by decide) ?_
      refine zk_lvs (lv' := [(0, .ref (S.1 68)), (1, .int x1), (2, .int x2), (3, .int (x3 + 1))]) [1, 2, 3, 0] rfl ?_
      exact hk7 x1 x2 (x3 + 1) e
    · replace e := zd_pos b3 e
      refine zk_iload_n C kd_Mo_variable_46 rfl 3 rfl rfl ?_
      exact zk_iret C hR kd_Mo_variable_47 rfl rfl (zd_rIO e)
set_option maxHeartbeats 4000000 in
set_option maxRecDepth 100000 in
theorem zb_Mo_variable_7 {X : zkj_T} {S : zs_T} {P : ze_T} {l : Launch} {D : va_G} {sz0 : Nat} {rv : Int32} {h : zs_H} (C : zk_C X km_Mo_variable (zs_G S l D sz0) { frames := 0, cells := 0, slots := 0, locals := 0 } (ze_E P)) (hR : zkj_R X (zd_PI S rv h) (some .int)) {k7 : Int32 → Int32 → Int32 → (Option Int32)} (hk7 : ∀ (x1 : Int32) (x2 : Int32) (x3 : Int32), k7 x1 x2 x3 = some rv → zk_Ab X (zs_W S h) 0 0 7 [(0, .ref (S.1 68)), (1, .int x1), (2, .int x2), (3, .int x3)] []) (x1 : Int32) (x2 : Int32) (x3 : Int32) (e : f_Mo_variable_7 h k7 x1 x2 x3 = some rv) : zk_Ab X (zs_W S h) 0 0 7 [(0, .ref (S.1 68)), (1, .int x1), (2, .int x2), (3, .int x3)] [] := by
  unfold f_Mo_variable_7 at e
  refine zk_iload_n C kd_Mo_variable_7 rfl 3 rfl rfl ?_
  refine zk_iload_n C kd_Mo_variable_8 rfl 1 rfl rfl ?_
  refine zk_aload_n C kd_Mo_variable_9 rfl 0 rfl rfl ?_
  refine zs_get (v := .int (h.1 68 33)) C 68 33 rfl rfl rfl rfl ki_Mo (by decide) kw1716 kd_Mo_variable_10 rfl ?_
  refine zk_iconst (v := 1) C kd_Mo_variable_13 (by decide) rfl ?_
  refine zk_isub C kd_Mo_variable_14 rfl ?_
  refine zk_icmp_ne (tgt := 25) C kd_Mo_variable_15 (by decide) rfl (fun b1 => ?_) (fun b1 => ?_)
  · replace e := zd_neg b1 e
    refine zk_aload_n C kd_Mo_variable_25 rfl 0 rfl rfl ?_
    refine zs_get (v := .ref (S.1 90)) C 68 40 rfl rfl rfl rfl ki_Mo (by decide) kw1723 kd_Mo_variable_26 rfl ?_
    refine zk_iload_n C kd_Mo_variable_29 rfl 1 rfl rfl ?_
    refine zk_iconst (v := 1) C kd_Mo_variable_30 (by decide) rfl ?_
    refine zk_iadd C kd_Mo_variable_31 rfl ?_
    obtain ⟨q2, e⟩ := zd_g e
    refine zs_iald C 90 rfl (zd_vp q2) kd_Mo_variable_32 rfl ?_
    refine zk_lvs (lv' := [(0, .ref (S.1 68)), (1, .int x1), (2, .int x2), (3, .int x3)]) [0, 1, 2, 3] rfl ?_
    exact zb_Mo_variable_33 C hR hk7 x1 x2 x3 (h.2.1 90 (x1 + 1).toNatClampNeg) x3 e
  · replace e := zd_pos b1 e
    refine zk_aload_n C kd_Mo_variable_18 rfl 0 rfl rfl ?_
    refine zs_get (v := .int (h.1 68 41)) C 68 41 rfl rfl rfl rfl ki_Mo (by decide) kw1724 kd_Mo_variable_19 rfl ?_
    refine zk_goto (tgt := 33) C kd_Mo_variable_22 (by decide) ?_
    refine zk_lvs (lv' := [(0, .ref (S.1 68)), (1, .int x1), (2, .int x2), (3, .int x3)]) [0, 1, 2, 3] rfl ?_
    exact zb_Mo_variable_33 C hR hk7 x1 x2 x3 (h.1 68 41) x3 e
theorem zl_Mo_variable_7 {X : zkj_T} {S : zs_T} {P : ze_T} {l : Launch} {D : va_G} {sz0 : Nat} {rv : Int32} {h : zs_H} (C : zk_C X km_Mo_variable (zs_G S l D sz0) { frames := 0, cells := 0, slots := 0, locals := 0 } (ze_E P)) (hR : zkj_R X (zd_PI S rv h) (some .int)) (n : Nat) : ∀ (x1 : Int32) (x2 : Int32) (x3 : Int32), f_Mo_variable_L7 h n x1 x2 x3 = some rv → zk_Ab X (zs_W S h) 0 0 7 [(0, .ref (S.1 68)), (1, .int x1), (2, .int x2), (3, .int x3)] [] := by
  induction n with
  | zero => intro x1 x2 x3 e; exact zd_no e
  | succ n ih => intro x1 x2 x3 e; exact zb_Mo_variable_7 (k7 := f_Mo_variable_L7 h n) C hR ih x1 x2 x3 e
set_option maxHeartbeats 4000000 in
set_option maxRecDepth 100000 in
theorem zc_Mo_variable {l : Launch} {D : va_G} {sz0 : Nat} {S : zs_T} {P : ze_T} (h : zs_H) (x1 : Int32) (x2 : Int32) {rv : Int32} (e : f_Mo_variable h x1 x2 = some rv) : zk_Sp (zs_G S l D sz0) (ze_E P) km_Mo_variable { frames := 0, cells := 0, slots := 0, locals := 0 } [.ref (S.1 68), .int x1, .int x2] (zs_W S h) (zd_PI S rv h) := by
  refine zk_met ku_Mo_variable (Nat.le_of_ble_eq_true rfl) (ze_Em P) ?_
  intro X C hR
  refine zk_lvs (lv' := [(0, .ref (S.1 68)), (1, .int x1), (2, .int x2)]) [0, 1, 2] rfl ?_
  unfold f_Mo_variable at e
  refine zk_aload_n C kd_Mo_variable_0 rfl 0 rfl rfl ?_
  refine zs_get (v := .ref (S.1 90)) C 68 40 rfl rfl rfl rfl ki_Mo (by decide) kw1723 kd_Mo_variable_1 rfl ?_
  refine zk_iload_n C kd_Mo_variable_4 rfl 1 rfl rfl ?_
  obtain ⟨q1, e⟩ := zd_g e
  refine zs_iald C 90 rfl (zd_vp q1) kd_Mo_variable_5 rfl ?_
  refine zk_istore_n (lv' := [(3, _), (0, _), (1, _), (2, _)]) C kd_Mo_variable_6 rfl (by decide) rfl rfl ?_
  refine zk_lvs (lv' := [(0, .ref (S.1 68)), (1, .int x1), (2, .int x2), (3, .int (h.2.1 90 x1.toNatClampNeg))]) [1, 2, 3, 0] rfl ?_
  exact zl_Mo_variable_7 C hR zF x1 x2 (h.2.1 90 x1.toNatClampNeg) e
set_option maxHeartbeats 4000000 in
set_option maxRecDepth 100000 in
theorem zb_Mo_lookAtName_62 {X : zkj_T} {S : zs_T} {P : ze_T} {l : Launch} {D : va_G} {sz0 : Nat} {rh : zs_H} (C : zk_C X km_Mo_lookAtName (zs_G S l D sz0) { frames := 6, cells := 0, slots := 0, locals := 132 } (ze_E P)) (hR : zkj_R X (zd_PV S rh) (none)) (h : zs_H) (x1 : Int32) (x3 : Int32) (y0 : Int32) (e : f_Mo_lookAtName_62 h x1 x3 y0 = some rh) : zk_Ab X (zs_W S h) 0 0 62 [(0, .ref (S.1 68)), (1, .int x1), (3, .int x3)] [.int y0, .ref (S.1 68)] := by
  unfold f_Mo_lookAtName_62 at e
  refine zk_bipush (v := 12) C kd_Mo_lookAtName_62 (by decide) rfl ?_
  refine zk_iload_n C kd_Mo_lookAtName_64 rfl 1 rfl rfl ?_
  obtain ⟨h2, c1, e⟩ := zd_b e
  refine zs_callV (k := 68) (rn := { frames := 1, cells := 0, slots := 0, locals := 22 }) (As := [.int y0, .int 12, .int x1]) (rest := []) C (zc_Mo_rule h y0 12 x1 c1) ku_Mo_rule kw2260 kv_Mo_rule rfl ⟨by decide, by decide⟩ ⟨by decide, by decide⟩ rfl rfl rfl (Nat.le_of_ble_eq_true rfl) kd_Mo_lookAtName_65 rfl (c1 := 0) (s1 := 0) rfl rfl (fun v w hp => ?_)
  obtain ⟨rfl, rfl⟩ := hp
  refine zk_stk (r' := []) rfl ?_
  refine zk_aload_n C kd_Mo_lookAtName_68 rfl 0 rfl rfl ?_
  refine zk_iload_n C kd_Mo_lookAtName_69 rfl 2 rfl rfl ?_
  obtain ⟨v4, h5, c3, e⟩ := zd_Be e
  refine zs_callV (k := 68) (rn := { frames := 0, cells := 0, slots := 0, locals := 0 }) (As := [.int x3]) (rest := []) C (zc_Mo_addVariable h2 x3 c3) ku_Mo_addVariable kw2282 kv_Mo_addVariable rfl ⟨by decide, by decide⟩ ⟨by decide, by decide⟩ rfl rfl rfl (Nat.le_of_ble_eq_true rfl) kd_Mo_lookAtName_70 rfl (c1 := 0) (s1 := 0) rfl rfl (fun v w hp => ?_)
  obtain ⟨rfl, rfl⟩ := hp
  refine zk_stk (r' := [.int v4]) rfl ?_
  refine zk_istore (lv' := [(4, _), (0, _), (1, _), (3, _)]) C kd_Mo_lookAtName_73 (by decide) rfl rfl ?_
  refine zk_aload_n C kd_Mo_lookAtName_75 rfl 1 rfl rfl ?_
  refine zs_get (v := .ref (S.1 95)) C 68 46 rfl rfl rfl rfl ki_Mo (by decide) kw1729 kd_Mo_lookAtName_76 rfl ?_
  refine zk_iload C kd_Mo_lookAtName_79 0 rfl rfl ?_
  refine zk_aload_n C kd_Mo_lookAtName_81 rfl 1 rfl rfl ?_
  refine zs_get (v := .ref (S.1 74)) C 68 17 rfl rfl rfl rfl ki_Mo (by decide) kw1700 kd_Mo_lookAtName_82 rfl ?_
  refine zk_aload_n C kd_Mo_lookAtName_85 rfl 1 rfl rfl ?_
  refine zs_get (v := .ref (S.1 75)) C 68 18 rfl rfl rfl rfl ki_Mo (by decide) kw1701 kd_Mo_lookAtName_86 rfl ?_
  refine zk_aload_n C kd_Mo_lookAtName_89 rfl 1 rfl rfl ?_
  refine zs_get (v := .ref (S.1 75)) C 68 18 rfl rfl rfl rfl ki_Mo (by decide) kw1701 kd_Mo_lookAtName_90 rfl ?_
  refine zk_iload_n C kd_Mo_lookAtName_93 rfl 2 rfl rfl ?_
  obtain ⟨q6, e⟩ := zd_g e
  refine zs_iald C 75 rfl (zd_vp q6) kd_Mo_lookAtName_94 rfl ?_
  obtain ⟨q7, e⟩ := zd_g e
  refine zs_iald C 75 rfl (zd_vp q7) kd_Mo_lookAtName_95 rfl ?_
  obtain ⟨q8, e⟩ := zd_g e
  refine zs_iald C 74 rfl (zd_vp q8) kd_Mo_lookAtName_96 rfl ?_
  obtain ⟨q9, e⟩ := zd_g e
  refine zs_iast C 95 rfl (zd_vp q9) kd_Mo_lookAtName_97 rfl ?_
  refine zk_goto (tgt := 194) C kd_Mo_lookAtName_98 (by decide) ?_
  exact zk_vret C hR kd_Mo_lookAtName_194 rfl rfl (zd_rV e)
set_option maxHeartbeats 4000000 in
set_option maxRecDepth 100000 in
theorem zb_Mo_lookAtName_57 {X : zkj_T} {S : zs_T} {P : ze_T} {l : Launch} {D : va_G} {sz0 : Nat} {rh : zs_H} (C : zk_C X km_Mo_lookAtName (zs_G S l D sz0) { frames := 6, cells := 0, slots := 0, locals := 132 } (ze_E P)) (hR : zkj_R X (zd_PV S rh) (none)) (h : zs_H) (x1 : Int32) (x3 : Int32) (e : f_Mo_lookAtName_57 h x1 x3 = some rh) : zk_Ab X (zs_W S h) 0 0 57 [(0, .ref (S.1 68)), (1, .int x1), (3, .int x3)] [.ref (S.1 68)] := by
  unfold f_Mo_lookAtName_57 at e
  refine zk_iconst (v := 1) C kd_Mo_lookAtName_57 (by decide) rfl ?_
  refine zk_goto (tgt := 62) C kd_Mo_lookAtName_58 (by decide) ?_
  refine zk_lvs (lv' := [(0, .ref (S.1 68)), (1, .int x1), (3, .int x3)]) [0, 1, 2] rfl ?_
  exact zb_Mo_lookAtName_62 C hR h x1 x3 1 e
set_option maxHeartbeats 4000000 in
set_option maxRecDepth 100000 in
theorem zb_Mo_lookAtName_157 {X : zkj_T} {S : zs_T} {P : ze_T} {l : Launch} {D : va_G} {sz0 : Nat} {rh : zs_H} (C : zk_C X km_Mo_lookAtName (zs_G S l D sz0) { frames := 6, cells := 0, slots := 0, locals := 132 } (ze_E P)) (hR : zkj_R X (zd_PV S rh) (none)) (h : zs_H) (x1 : Int32) (x3 : Int32) (y0 : Int32) (e : f_Mo_lookAtName_157 h x1 x3 y0 = some rh) : zk_Ab X (zs_W S h) 0 0 157 [(0, .ref (S.1 68)), (1, .int x1), (3, .int x3)] [.int y0, .ref (S.1 68)] := by
  unfold f_Mo_lookAtName_157 at e
  refine zk_bipush (v := 21) C kd_Mo_lookAtName_157 (by decide) rfl ?_
  refine zk_iload_n C kd_Mo_lookAtName_159 rfl 1 rfl rfl ?_
  obtain ⟨h2, c1, e⟩ := zd_b e
  refine zs_callV (k := 68) (rn := { frames := 1, cells := 0, slots := 0, locals := 22 }) (As := [.int y0, .int 21, .int x1]) (rest := []) C (zc_Mo_rule h y0 21 x1 c1) ku_Mo_rule kw2260 kv_Mo_rule rfl ⟨by decide, by decide⟩ ⟨by decide, by decide⟩ rfl rfl rfl (Nat.le_of_ble_eq_true rfl) kd_Mo_lookAtName_160 rfl (c1 := 0) (s1 := 0) rfl rfl (fun v w hp => ?_)
  obtain ⟨rfl, rfl⟩ := hp
  refine zk_stk (r' := []) rfl ?_
  refine zk_aload_n C kd_Mo_lookAtName_163 rfl 0 rfl rfl ?_
  refine zs_get (v := .int (h2.1 68 29)) C 68 29 rfl rfl rfl rfl ki_Mo (by decide) kw1712 kd_Mo_lookAtName_164 rfl ?_
  refine zk_if_ne (tgt := 194) C kd_Mo_lookAtName_167 (by decide) rfl (fun b3 => ?_) (fun b3 => ?_)
  · replace e := zd_neg b3 e
    exact zk_vret C hR kd_Mo_lookAtName_194 rfl rfl (zd_rV e)
  · replace e := zd_pos b3 e
    refine zk_aload_n C kd_Mo_lookAtName_170 rfl 0 rfl rfl ?_
    refine zs_get (v := .ref (S.1 100)) C 68 51 rfl rfl rfl rfl ki_Mo (by decide) kw1734 kd_Mo_lookAtName_171 rfl ?_
    refine zk_iload_n C kd_Mo_lookAtName_174 rfl 1 rfl rfl ?_
    refine zk_aload_n C kd_Mo_lookAtName_175 rfl 0 rfl rfl ?_
    refine zs_get (v := .ref (S.1 93)) C 68 44 rfl rfl rfl rfl ki_Mo (by decide) kw1727 kd_Mo_lookAtName_176 rfl ?_
    refine zk_iload_n C kd_Mo_lookAtName_179 rfl 2 rfl rfl ?_
    obtain ⟨q4, e⟩ := zd_g e
    refine zs_iald C 93 rfl (zd_vp q4) kd_Mo_lookAtName_180 rfl ?_
    obtain ⟨q5, e⟩ := zd_g e
    refine zs_iast C 100 rfl (zd_vp q5) kd_Mo_lookAtName_181 rfl ?_
    refine zk_aload_n C kd_Mo_lookAtName_182 rfl 0 rfl rfl ?_
    refine zs_get (v := .ref (S.1 101)) C 68 52 rfl rfl rfl rfl ki_Mo (by decide) kw1735 kd_Mo_lookAtName_183 rfl ?_
    refine zk_iload_n C kd_Mo_lookAtName_186 rfl 1 rfl rfl ?_
    refine zk_aload_n C kd_Mo_lookAtName_187 rfl 0 rfl rfl ?_
    refine zs_get (v := .ref (S.1 94)) C 68 45 rfl rfl rfl rfl ki_Mo (by decide) kw1728 kd_Mo_lookAtName_188 rfl ?_
    refine zk_iload_n C kd_Mo_lookAtName_191 rfl 2 rfl rfl ?_
    refine zs_iald C 94 rfl (zd_vp q4) kd_Mo_lookAtName_192 rfl ?_
    refine zk_stk (r' := [.int (h2.2.1 94 x3.toNatClampNeg), .int x1, .ref (S.1 101)]) rfl ?_
    refine zs_iast C 101 rfl (zd_vp q5) kd_Mo_lookAtName_193 rfl ?_
    exact zk_vret C hR kd_Mo_lookAtName_194 rfl rfl (zd_rV e)
set_option maxHeartbeats 4000000 in
set_option maxRecDepth 100000 in
theorem zb_Mo_lookAtName_156 {X : zkj_T} {S : zs_T} {P : ze_T} {l : Launch} {D : va_G} {sz0 : Nat} {rh : zs_H} (C : zk_C X km_Mo_lookAtName (zs_G S l D sz0) { frames := 6, cells := 0, slots := 0, locals := 132 } (ze_E P)) (hR : zkj_R X (zd_PV S rh) (none)) (h : zs_H) (x1 : Int32) (x3 : Int32) (e : f_Mo_lookAtName_156 h x1 x3 = some rh) : zk_Ab X (zs_W S h) 0 0 156 [(0, .ref (S.1 68)), (1, .int x1), (3, .int x3)] [.ref (S.1 68)] := by
  unfold f_Mo_lookAtName_156 at e
  refine zk_iconst (v := 0) C kd_Mo_lookAtName_156 (by decide) rfl ?_
  refine zk_lvs (lv' := [(0, .ref (S.1 68)), (1, .int x1), (3, .int x3)]) [0, 1, 2] rfl ?_
  exact zb_Mo_lookAtName_157 C hR h x1 x3 0 e
set_option maxHeartbeats 4000000 in
set_option maxRecDepth 100000 in
theorem zb_Mo_lookAtName_132 {X : zkj_T} {S : zs_T} {P : ze_T} {l : Launch} {D : va_G} {sz0 : Nat} {rh : zs_H} (C : zk_C X km_Mo_lookAtName (zs_G S l D sz0) { frames := 6, cells := 0, slots := 0, locals := 132 } (ze_E P)) (hR : zkj_R X (zd_PV S rh) (none)) (h : zs_H) (x1 : Int32) (x3 : Int32) (y0 : Int32) (e : f_Mo_lookAtName_132 h x1 x3 y0 = some rh) : zk_Ab X (zs_W S h) 0 0 132 [(0, .ref (S.1 68)), (1, .int x1), (3, .int x3)] [.int y0, .ref (S.1 68)] := by
  unfold f_Mo_lookAtName_132 at e
  refine zk_bipush (v := 20) C kd_Mo_lookAtName_132 (by decide) rfl ?_
  refine zk_iload_n C kd_Mo_lookAtName_134 rfl 1 rfl rfl ?_
  obtain ⟨h2, c1, e⟩ := zd_b e
  refine zs_callV (k := 68) (rn := { frames := 1, cells := 0, slots := 0, locals := 22 }) (As := [.int y0, .int 20, .int x1]) (rest := []) C (zc_Mo_rule h y0 20 x1 c1) ku_Mo_rule kw2260 kv_Mo_rule rfl ⟨by decide, by decide⟩ ⟨by decide, by decide⟩ rfl rfl rfl (Nat.le_of_ble_eq_true rfl) kd_Mo_lookAtName_135 rfl (c1 := 0) (s1 := 0) rfl rfl (fun v w hp => ?_)
  obtain ⟨rfl, rfl⟩ := hp
  refine zk_stk (r' := []) rfl ?_
  refine zk_aload_n C kd_Mo_lookAtName_138 rfl 0 rfl rfl ?_
  refine zk_iload_n C kd_Mo_lookAtName_139 rfl 2 rfl rfl ?_
  refine zk_if_lt (tgt := 156) C kd_Mo_lookAtName_140 (by decide) rfl (fun b3 => ?_) (fun b3 => ?_)
  · replace e := zd_pos b3 e
    refine zk_lvs (lv' := [(0, .ref (S.1 68)), (1, .int x1), (3, .int x3)]) [0, 1, 2] rfl ?_
    exact zb_Mo_lookAtName_156 C hR h2 x1 x3 e
  · replace e := zd_neg b3 e
    refine zk_aload_n C kd_Mo_lookAtName_143 rfl 0 rfl rfl ?_
    refine zs_get (v := .ref (S.1 92)) C 68 43 rfl rfl rfl rfl ki_Mo (by decide) kw1726 kd_Mo_lookAtName_144 rfl ?_
    refine zk_iload_n C kd_Mo_lookAtName_147 rfl 2 rfl rfl ?_
    obtain ⟨q4, e⟩ := zd_g e
    refine zs_iald C 92 rfl (zd_vp q4) kd_Mo_lookAtName_148 rfl ?_
    refine zk_if_eq (tgt := 156) C kd_Mo_lookAtName_149 (by decide) rfl (fun b5 => ?_) (fun b5 => ?_)
    · replace e := zd_pos b5 e
      refine zk_lvs (lv' := [(0, .ref (S.1 68)), (1, .int x1), (3, .int x3)]) [0, 1, 2] rfl ?_
      exact zb_Mo_lookAtName_156 C hR h2 x1 x3 e
    · replace e := zd_neg b5 e
      refine zk_iconst (v := 1) C kd_Mo_lookAtName_152 (by decide) rfl ?_
      refine zk_goto (tgt := 157) C kd_Mo_lookAtName_153 (by decide) ?_
      refine zk_lvs (lv' := [(0, .ref (S.1 68)), (1, .int x1), (3, .int x3)]) [0, 1, 2] rfl ?_
      exact zb_Mo_lookAtName_157 C hR h2 x1 x3 1 e
set_option maxHeartbeats 4000000 in
set_option maxRecDepth 100000 in
theorem zc_Mo_lookAtName {l : Launch} {D : va_G} {sz0 : Nat} {S : zs_T} {P : ze_T} (h : zs_H) (x1 : Int32) {rh : zs_H} (e : f_Mo_lookAtName h x1 = some rh) : zk_Sp (zs_G S l D sz0) (ze_E P) km_Mo_lookAtName { frames := 6, cells := 0, slots := 0, locals := 132 } [.ref (S.1 68), .int x1] (zs_W S h) (zd_PV S rh) := by
  refine zk_met ku_Mo_lookAtName (Nat.le_of_ble_eq_true rfl) (ze_Em P) ?_
  intro X C hR
  refine zk_lvs (lv' := [(0, .ref (S.1 68)), (1, .int x1)]) [0, 1] rfl ?_
  unfold f_Mo_lookAtName at e
  refine zk_aload_n C kd_Mo_lookAtName_0 rfl 0 rfl rfl ?_
  refine zs_get (v := .ref (S.1 72)) C 68 15 rfl rfl rfl rfl ki_Mo (by decide) kw1698 kd_Mo_lookAtName_1 rfl ?_
  refine zk_aload_n C kd_Mo_lookAtName_4 rfl 0 rfl rfl ?_
  refine zs_get (v := .ref (S.1 75)) C 68 18 rfl rfl rfl rfl ki_Mo (by decide) kw1701 kd_Mo_lookAtName_5 rfl ?_
  refine zk_iload_n C kd_Mo_lookAtName_8 rfl 1 rfl rfl ?_
  obtain ⟨q1, e⟩ := zd_g e
  refine zs_iald C 75 rfl (zd_vp q1) kd_Mo_lookAtName_9 rfl ?_
  obtain ⟨q2, e⟩ := zd_g e
  refine zs_iald C 72 rfl (zd_vp q2) kd_Mo_lookAtName_10 rfl ?_
  refine zk_istore_n (lv' := [(2, _), (0, _), (1, _)]) C kd_Mo_lookAtName_11 rfl (by decide) rfl rfl ?_
  refine zk_iload_n C kd_Mo_lookAtName_12 rfl 0 rfl rfl ?_
  refine zk_iconst (v := 5) C kd_Mo_lookAtName_13 (by decide) rfl ?_
  refine zk_icmp_ne (tgt := 101) C kd_Mo_lookAtName_14 (by decide) rfl (fun b3 => ?_) (fun b3 => ?_)
  · replace e := zd_neg b3 e
    refine zk_iload_n C kd_Mo_lookAtName_101 rfl 0 rfl rfl ?_
    refine zk_bipush (v := 33) C kd_Mo_lookAtName_102 (by decide) rfl ?_
    refine zk_icmp_eq (tgt := 194) C kd_Mo_lookAtName_104 (by decide) rfl (fun b4 => ?_) (fun b4 => ?_)
    · replace e := zd_pos b4 e
      exact zk_vret C hR kd_Mo_lookAtName_194 rfl rfl (zd_rV e)
    · replace e := zd_neg b4 e
      refine zk_aload_n C kd_Mo_lookAtName_107 rfl 1 rfl rfl ?_
      refine zk_aload_n C kd_Mo_lookAtName_108 rfl 1 rfl rfl ?_
      refine zs_get (v := .int (h.1 68 54)) C 68 54 rfl rfl rfl rfl ki_Mo (by decide) kw1737 kd_Mo_lookAtName_109 rfl ?_
      refine zk_aload_n C kd_Mo_lookAtName_112 rfl 1 rfl rfl ?_
      refine zs_get (v := .ref (S.1 74)) C 68 17 rfl rfl rfl rfl ki_Mo (by decide) kw1700 kd_Mo_lookAtName_113 rfl ?_
      refine zk_iload_n C kd_Mo_lookAtName_116 rfl 2 rfl rfl ?_
      refine zs_iald C 74 rfl (zd_vp q1) kd_Mo_lookAtName_117 rfl ?_
      obtain ⟨v6, c5, e⟩ := zd_b e
      refine zs_callV (k := 68) (rn := { frames := 0, cells := 0, slots := 0, locals := 0 }) (As := [.int (h.1 68 54), .int (h.2.1 74 x1.toNatClampNeg)]) (rest := []) C (zc_Mo_variable h (h.1 68 54) (h.2.1 74 x1.toNatClampNeg) c5) ku_Mo_variable kw2327 kv_Mo_variable rfl ⟨by decide, by decide⟩ ⟨by decide, by decide⟩ rfl rfl rfl (Nat.le_of_ble_eq_true rfl) kd_Mo_lookAtName_118 rfl (c1 := 0) (s1 := 0) rfl rfl (fun v w hp => ?_)
      obtain ⟨rfl, rfl⟩ := hp
      refine zk_stk (r' := [.int v6]) rfl ?_
      refine zk_istore_n (lv' := [(3, _), (2, _), (0, _), (1, _)]) C kd_Mo_lookAtName_121 rfl (by decide) rfl rfl ?_
      refine zk_aload_n C kd_Mo_lookAtName_122 rfl 2 rfl rfl ?_
      refine zk_iload_n C kd_Mo_lookAtName_123 rfl 0 rfl rfl ?_
      refine zk_if_ge (tgt := 131) C kd_Mo_lookAtName_124 (by decide) rfl (fun b7 => ?_) (fun b7 => ?_)
      · replace e := zd_pos b7 e
        refine zk_iconst (v := 0) C kd_Mo_lookAtName_131 (by decide) rfl ?_
        refine zk_lvs (lv' := [(0, .ref (S.1 68)), (1, .int x1), (3, .int v6)]) [2, 3, 0] rfl ?_
        exact zb_Mo_lookAtName_132 C hR h x1 v6 0 e
      · replace e := zd_neg b7 e
        refine zk_iconst (v := 1) C kd_Mo_lookAtName_127 (by decide) rfl ?_
        refine zk_goto (tgt := 132) C kd_Mo_lookAtName_128 (by decide) ?_
        refine zk_lvs (lv' := [(0, .ref (S.1 68)), (1, .int x1), (3, .int v6)]) [2, 3, 0] rfl ?_
        exact zb_Mo_lookAtName_132 C hR h x1 v6 1 e
  · replace e := zd_pos b3 e
    refine zk_aload_n C kd_Mo_lookAtName_17 rfl 1 rfl rfl ?_
    refine zs_get (v := .ref (S.1 74)) C 68 17 rfl rfl rfl rfl ki_Mo (by decide) kw1700 kd_Mo_lookAtName_18 rfl ?_
    refine zk_iload_n C kd_Mo_lookAtName_21 rfl 2 rfl rfl ?_
    refine zs_iald C 74 rfl (zd_vp q1) kd_Mo_lookAtName_22 rfl ?_
    refine zk_istore_n (lv' := [(3, _), (2, _), (0, _), (1, _)]) C kd_Mo_lookAtName_23 rfl (by decide) rfl rfl ?_
    refine zk_aload_n C kd_Mo_lookAtName_24 rfl 2 rfl rfl ?_
    refine zk_aload_n C kd_Mo_lookAtName_25 rfl 2 rfl rfl ?_
    refine zk_aload_n C kd_Mo_lookAtName_26 rfl 2 rfl rfl ?_
    refine zs_get (v := .int (h.1 68 54)) C 68 54 rfl rfl rfl rfl ki_Mo (by decide) kw1737 kd_Mo_lookAtName_27 rfl ?_
    refine zk_iload_n C kd_Mo_lookAtName_30 rfl 0 rfl rfl ?_
    obtain ⟨v9, c8, e⟩ := zd_b e
    refine zs_callV (k := 68) (rn := { frames := 0, cells := 0, slots := 0, locals := 0 }) (As := [.int (h.1 68 54), .int (h.2.1 74 x1.toNatClampNeg)]) (rest := [.ref (S.1 68)]) C (zc_Mo_variable h (h.1 68 54) (h.2.1 74 x1.toNatClampNeg) c8) ku_Mo_variable kw2327 kv_Mo_variable rfl ⟨by decide, by decide⟩ ⟨by decide, by decide⟩ rfl rfl rfl (Nat.le_of_ble_eq_true rfl) kd_Mo_lookAtName_31 rfl (c1 := 0) (s1 := 0) rfl rfl (fun v w hp => ?_)
    obtain ⟨rfl, rfl⟩ := hp
    refine zk_stk (r' := [.int v9, .ref (S.1 68)]) rfl ?_
    refine zk_if_ge (tgt := 57) C kd_Mo_lookAtName_34 (by decide) rfl (fun b10 => ?_) (fun b10 => ?_)
    · replace e := zd_pos b10 e
      refine zk_lvs (lv' := [(0, .ref (S.1 68)), (1, .int x1), (3, .int (h.2.1 74 x1.toNatClampNeg))]) [2, 3, 0] rfl ?_
      exact zb_Mo_lookAtName_57 C hR h x1 (h.2.1 74 x1.toNatClampNeg) e
    · replace e := zd_neg b10 e
      refine zk_aload_n C kd_Mo_lookAtName_37 rfl 2 rfl rfl ?_
      refine zk_iload_n C kd_Mo_lookAtName_38 rfl 0 rfl rfl ?_
      refine zk_aload_n C kd_Mo_lookAtName_39 rfl 2 rfl rfl ?_
      refine zs_get (v := .int (h.1 68 33)) C 68 33 rfl rfl rfl rfl ki_Mo (by decide) kw1716 kd_Mo_lookAtName_40 rfl ?_
      obtain ⟨v12, c11, e⟩ := zd_b e
      refine zs_callV (k := 68) (rn := { frames := 0, cells := 0, slots := 0, locals := 0 }) (As := [.int (h.2.1 74 x1.toNatClampNeg), .int (h.1 68 33)]) (rest := [.ref (S.1 68)]) C (zc_Mo_blockNamed h (h.2.1 74 x1.toNatClampNeg) (h.1 68 33) c11) ku_Mo_blockNamed kw2278 kv_Mo_blockNamed rfl ⟨by decide, by decide⟩ ⟨by decide, by decide⟩ rfl rfl rfl (Nat.le_of_ble_eq_true rfl) kd_Mo_lookAtName_43 rfl (c1 := 0) (s1 := 0) rfl rfl (fun v w hp => ?_)
      obtain ⟨rfl, rfl⟩ := hp
      refine zk_stk (r' := [.int v12, .ref (S.1 68)]) rfl ?_
      refine zk_if_ge (tgt := 57) C kd_Mo_lookAtName_46 (by decide) rfl (fun b13 => ?_) (fun b13 => ?_)
      · replace e := zd_pos b13 e
        refine zk_lvs (lv' := [(0, .ref (S.1 68)), (1, .int x1), (3, .int (h.2.1 74 x1.toNatClampNeg))]) [2, 3, 0] rfl ?_
        exact zb_Mo_lookAtName_57 C hR h x1 (h.2.1 74 x1.toNatClampNeg) e
      · replace e := zd_neg b13 e
        refine zk_aload_n C kd_Mo_lookAtName_49 rfl 2 rfl rfl ?_
        refine zk_iload_n C kd_Mo_lookAtName_50 rfl 0 rfl rfl ?_
        obtain ⟨v15, c14, e⟩ := zd_b e
        refine zs_callV (k := 68) (rn := { frames := 5, cells := 0, slots := 0, locals := 111 }) (As := [.int (h.2.1 74 x1.toNatClampNeg)]) (rest := [.ref (S.1 68)]) C (zc_Mo_isStandard h (h.2.1 74 x1.toNatClampNeg) c14) ku_Mo_isStandard kw2268 kv_Mo_isStandard rfl ⟨by decide, by decide⟩ ⟨by decide, by decide⟩ rfl rfl rfl (Nat.le_of_ble_eq_true rfl) kd_Mo_lookAtName_51 rfl (c1 := 0) (s1 := 0) rfl rfl (fun v w hp => ?_)
        obtain ⟨rfl, rfl, z16⟩ := hp
        refine zk_stk (r' := [.int v15, .ref (S.1 68)]) rfl ?_
        refine zk_if_eq (tgt := 61) C kd_Mo_lookAtName_54 (by decide) rfl (fun b17 => ?_) (fun b17 => ?_)
        · replace e := zd_pos b17 e
          refine zk_iconst (v := 0) C kd_Mo_lookAtName_61 (by decide) rfl ?_
          refine zk_lvs (lv' := [(0, .ref (S.1 68)), (1, .int x1), (3, .int (h.2.1 74 x1.toNatClampNeg))]) [2, 3, 0] rfl ?_
          exact zb_Mo_lookAtName_62 C hR h x1 (h.2.1 74 x1.toNatClampNeg) 0 e
        · replace e := zd_neg b17 e
          refine zk_lvs (lv' := [(0, .ref (S.1 68)), (1, .int x1), (3, .int (h.2.1 74 x1.toNatClampNeg))]) [2, 3, 0] rfl ?_
          exact zb_Mo_lookAtName_57 C hR h x1 (h.2.1 74 x1.toNatClampNeg) e
set_option maxHeartbeats 4000000 in
set_option maxRecDepth 100000 in
theorem zc_Mo_instanceCells {l : Launch} {D : va_G} {sz0 : Nat} {S : zs_T} {P : ze_T} (h : zs_H) (x1 : Int32) {rv : Int32} (e : f_Mo_instanceCells h x1 = some rv) : zk_Sp (zs_G S l D sz0) (ze_E P) km_Mo_instanceCells { frames := 0, cells := 0, slots := 0, locals := 0 } [.ref (S.1 68), .int x1] (zs_W S h) (zd_PI S rv h) := by
  refine zk_met ku_Mo_instanceCells (Nat.le_of_ble_eq_true rfl) (ze_Em P) ?_
  intro X C hR
  refine zk_lvs (lv' := [(0, .ref (S.1 68)), (1, .int x1)]) [0, 1] rfl ?_
  unfold f_Mo_instanceCells at e
  refine zk_iload_n C kd_Mo_instanceCells_0 rfl 1 rfl rfl ?_
  refine zk_ldcw (v := 100000) C kw1988 kd_Mo_instanceCells_1 rfl ?_
  refine zk_icmp_ge (tgt := 16) C kd_Mo_instanceCells_4 (by decide) rfl (fun b1 => ?_) (fun b1 => ?_)
  · replace e := zd_pos b1 e
    refine zk_iload_n C kd_Mo_instanceCells_16 rfl 1 rfl rfl ?_
    refine zk_ldcw (v := 100005) C kw2322 kd_Mo_instanceCells_17 rfl ?_
    refine zk_icmp_ge (tgt := 28) C kd_Mo_instanceCells_20 (by decide) rfl (fun b2 => ?_) (fun b2 => ?_)
    · replace e := zd_pos b2 e
      refine zk_iconst (v := 3) C kd_Mo_instanceCells_28 (by decide) rfl ?_
      exact zk_iret C hR kd_Mo_instanceCells_29 rfl rfl (zd_rIO e)
    · replace e := zd_neg b2 e
      refine zk_bipush (v := 6) C kd_Mo_instanceCells_23 (by decide) rfl ?_
      refine zk_goto (tgt := 29) C kd_Mo_instanceCells_25 (by decide) ?_
      exact zk_iret C hR kd_Mo_instanceCells_29 rfl rfl (zd_rIO e)
  · replace e := zd_neg b1 e
    refine zk_aload_n C kd_Mo_instanceCells_7 rfl 0 rfl rfl ?_
    refine zs_get (v := .ref (S.1 88)) C 68 38 rfl rfl rfl rfl ki_Mo (by decide) kw1721 kd_Mo_instanceCells_8 rfl ?_
    refine zk_iload_n C kd_Mo_instanceCells_11 rfl 1 rfl rfl ?_
    obtain ⟨q3, e⟩ := zd_g e
    refine zs_iald C 88 rfl (zd_vp q3) kd_Mo_instanceCells_12 rfl ?_
    refine zk_goto (tgt := 29) C kd_Mo_instanceCells_13 (by decide) ?_
    exact zk_iret C hR kd_Mo_instanceCells_29 rfl rfl (zd_rIO e)
set_option maxHeartbeats 4000000 in
set_option maxRecDepth 100000 in
theorem zc_Mo_blockOf {l : Launch} {D : va_G} {sz0 : Nat} {S : zs_T} {P : ze_T} (h : zs_H) (x1 : Int32) {rv : Int32} (e : f_Mo_blockOf h x1 = some rv) : zk_Sp (zs_G S l D sz0) (ze_E P) km_Mo_blockOf { frames := 5, cells := 0, slots := 0, locals := 111 } [.ref (S.1 68), .int x1] (zs_W S h) (zd_PI S rv h) := by
  refine zk_met ku_Mo_blockOf (Nat.le_of_ble_eq_true rfl) (ze_Em P) ?_
  intro X C hR
  refine zk_lvs (lv' := [(0, .ref (S.1 68)), (1, .int x1)]) [0, 1] rfl ?_
  unfold f_Mo_blockOf at e
  refine zk_aload_n C kd_Mo_blockOf_0 rfl 0 rfl rfl ?_
  refine ze_ldcSw (i := 10) C (zd_str 10 rfl) kd_Mo_blockOf_1 rfl ?_
  refine zk_iload_n C kd_Mo_blockOf_4 rfl 1 rfl rfl ?_
  obtain ⟨v2, c1, e⟩ := zd_b e
  refine zs_callV (k := 68) (rn := { frames := 4, cells := 0, slots := 0, locals := 85 }) (As := [.ref (P.1 10), .int x1]) (rest := []) C (zc_Mo_wordOf_s10 h x1 c1) ku_Mo_wordOf kw2273 kv_Mo_wordOf rfl ⟨by decide, by decide⟩ ⟨by decide, by decide⟩ rfl rfl rfl (Nat.le_of_ble_eq_true rfl) kd_Mo_blockOf_5 rfl (c1 := 0) (s1 := 0) rfl rfl (fun v w hp => ?_)
  obtain ⟨rfl, rfl⟩ := hp
  refine zk_stk (r' := [.int v2]) rfl ?_
  refine zk_istore_n (lv' := [(2, _), (0, _), (1, _)]) C kd_Mo_blockOf_8 rfl (by decide) rfl rfl ?_
  refine zk_iload_n C kd_Mo_blockOf_9 rfl 0 rfl rfl ?_
  refine zk_if_lt (tgt := 21) C kd_Mo_blockOf_10 (by decide) rfl (fun b3 => ?_) (fun b3 => ?_)
  · replace e := zd_pos b3 e
    refine zk_aload_n C kd_Mo_blockOf_21 rfl 1 rfl rfl ?_
    refine zk_iload_n C kd_Mo_blockOf_22 rfl 2 rfl rfl ?_
    refine zk_aload_n C kd_Mo_blockOf_23 rfl 1 rfl rfl ?_
    refine zs_get (v := .int (h.1 68 54)) C 68 54 rfl rfl rfl rfl ki_Mo (by decide) kw1737 kd_Mo_blockOf_24 rfl ?_
    obtain ⟨v5, c4, e⟩ := zd_b e
    refine zs_callV (k := 68) (rn := { frames := 0, cells := 0, slots := 0, locals := 0 }) (As := [.int x1, .int (h.1 68 54)]) (rest := []) C (zc_Mo_blockNamed h x1 (h.1 68 54) c4) ku_Mo_blockNamed kw2278 kv_Mo_blockNamed rfl ⟨by decide, by decide⟩ ⟨by decide, by decide⟩ rfl rfl rfl (Nat.le_of_ble_eq_true rfl) kd_Mo_blockOf_27 rfl (c1 := 0) (s1 := 0) rfl rfl (fun v w hp => ?_)
    obtain ⟨rfl, rfl⟩ := hp
    refine zk_stk (r' := [.int v5]) rfl ?_
    exact zk_iret C hR kd_Mo_blockOf_30 rfl rfl (zd_rIO e)
  · replace e := zd_neg b3 e
    refine zk_ldcw (v := 100000) C kw1988 kd_Mo_blockOf_13 rfl ?_
    refine zk_iload_n C kd_Mo_blockOf_16 rfl 0 rfl rfl ?_
    refine zk_iadd C kd_Mo_blockOf_17 rfl ?_
    refine zk_goto (tgt := 30) C kd_Mo_blockOf_18 (by decide) ?_
    exact zk_iret C hR kd_Mo_blockOf_30 rfl rfl (zd_rIO e)
