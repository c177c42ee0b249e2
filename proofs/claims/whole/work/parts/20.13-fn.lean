theorem kw2351 : Jvm.Cond.methodLink "PlantKeeperModel" (600 : Nat) ({ cls := "PlantKeeperModel", name := "fits", desc := "(II)Z" } : Jvm.MethodName) ∈ zk_BW := zk_inT 2351 (by decide +kernel) rfl
theorem kw2356 : Jvm.Cond.instanceMethod ({ cls := "PlantKeeperModel", name := "lookAtInstance", desc := "(I)V" } : Jvm.MethodName) ∈ zk_BW := zk_inT 2356 (by decide +kernel) rfl
theorem kw2357 : Jvm.Cond.code ({ cls := "PlantKeeperModel", name := "lookAtInstance", desc := "(I)V" } : Jvm.MethodName) prog_14_method_98_code (3 : Nat) (Option.none : Option FieldType) ∈ zk_BW := zk_inT 2357 (by decide +kernel) rfl
theorem kw2479 : Jvm.Cond.instanceMethod ({ cls := "PlantKeeperModel", name := "lookAtRungs", desc := "(I)V" } : Jvm.MethodName) ∈ zk_BW := zk_inT 2479 (by decide +kernel) rfl
theorem kw2480 : Jvm.Cond.code ({ cls := "PlantKeeperModel", name := "lookAtRungs", desc := "(I)V" } : Jvm.MethodName) prog_14_method_102_code (5 : Nat) (Option.none : Option FieldType) ∈ zk_BW := zk_inT 2480 (by decide +kernel) rfl
theorem kw2481 : Jvm.Cond.methodLink "PlantKeeperModel" (627 : Nat) ({ cls := "PlantKeeperModel", name := "cellsIn", desc := "(I)I" } : Jvm.MethodName) ∈ zk_BW := zk_inT 2481 (by decide +kernel) rfl
theorem kw2483 : Jvm.Cond.instanceMethod ({ cls := "PlantKeeperModel", name := "cellsIn", desc := "(I)I" } : Jvm.MethodName) ∈ zk_BW := zk_inT 2483 (by decide +kernel) rfl
theorem kw2484 : Jvm.Cond.code ({ cls := "PlantKeeperModel", name := "cellsIn", desc := "(I)I" } : Jvm.MethodName) prog_14_method_101_code (4 : Nat) (Option.some FieldType.int) ∈ zk_BW := zk_inT 2484 (by decide +kernel) rfl
theorem kw2499 : Jvm.Cond.instanceMethod ({ cls := "PlantKeeperModel", name := "lookAtCall", desc := "(I)V" } : Jvm.MethodName) ∈ zk_BW := zk_inT 2499 (by decide +kernel) rfl
theorem kw2500 : Jvm.Cond.code ({ cls := "PlantKeeperModel", name := "lookAtCall", desc := "(I)V" } : Jvm.MethodName) prog_14_method_107_code (10 : Nat) (Option.none : Option FieldType) ∈ zk_BW := zk_inT 2500 (by decide +kernel) rfl
theorem kw2501 : Jvm.Cond.methodLink "PlantKeeperModel" (642 : Nat) ({ cls := "PlantKeeperModel", name := "wider", desc := "(II)I" } : Jvm.MethodName) ∈ zk_BW := zk_inT 2501 (by decide +kernel) rfl
theorem kw2502 : Jvm.Cond.static ({ cls := "PlantKeeperModel", name := "wider", desc := "(II)I" } : Jvm.MethodName) ∈ zk_BW := zk_inT 2502 (by decide +kernel) rfl
theorem kw2503 : Jvm.Cond.code ({ cls := "PlantKeeperModel", name := "wider", desc := "(II)I" } : Jvm.MethodName) prog_14_method_70_code (2 : Nat) (Option.some FieldType.int) ∈ zk_BW := zk_inT 2503 (by decide +kernel) rfl
theorem kw2504 : Jvm.Cond.methodLink "PlantKeeperModel" (645 : Nat) ({ cls := "PlantKeeperModel", name := "callOwn", desc := "(III)V" } : Jvm.MethodName) ∈ zk_BW := zk_inT 2504 (by decide +kernel) rfl
theorem kw2506 : Jvm.Cond.instanceMethod ({ cls := "PlantKeeperModel", name := "callOwn", desc := "(III)V" } : Jvm.MethodName) ∈ zk_BW := zk_inT 2506 (by decide +kernel) rfl
theorem kw2507 : Jvm.Cond.code ({ cls := "PlantKeeperModel", name := "callOwn", desc := "(III)V" } : Jvm.MethodName) prog_14_method_108_code (6 : Nat) (Option.none : Option FieldType) ∈ zk_BW := zk_inT 2507 (by decide +kernel) rfl
theorem kw2508 : Jvm.Cond.methodLink "PlantKeeperModel" (649 : Nat) ({ cls := "PlantKeeperModel", name := "input", desc := "(II)I" } : Jvm.MethodName) ∈ zk_BW := zk_inT 2508 (by decide +kernel) rfl
theorem kw2510 : Jvm.Cond.instanceMethod ({ cls := "PlantKeeperModel", name := "input", desc := "(II)I" } : Jvm.MethodName) ∈ zk_BW := zk_inT 2510 (by decide +kernel) rfl
theorem kw2511 : Jvm.Cond.code ({ cls := "PlantKeeperModel", name := "input", desc := "(II)I" } : Jvm.MethodName) prog_14_method_78_code (5 : Nat) (Option.some FieldType.int) ∈ zk_BW := zk_inT 2511 (by decide +kernel) rfl
theorem kw2514 : Jvm.Cond.instanceMethod ({ cls := "PlantKeeperModel", name := "lookAtTwo", desc := "(I)V" } : Jvm.MethodName) ∈ zk_BW := zk_inT 2514 (by decide +kernel) rfl
theorem kw2515 : Jvm.Cond.code ({ cls := "PlantKeeperModel", name := "lookAtTwo", desc := "(I)V" } : Jvm.MethodName) prog_14_method_106_code (7 : Nat) (Option.none : Option FieldType) ∈ zk_BW := zk_inT 2515 (by decide +kernel) rfl
abbrev kc_Mo_callOwn : ByteArray := prog_14_method_108_code
def km_Mo_callOwn : zk_MT := (⟨"PlantKeeperModel", "callOwn", "(III)V"⟩, kc_Mo_callOwn, 6, none, 3)
theorem ku_Mo_callOwn : zk_My km_Mo_callOwn := ⟨kw2507, kw17, by decide, by decide, by decide, by decide +kernel⟩
theorem kv_Mo_callOwn : zk_Mv km_Mo_callOwn := ⟨kw2506, zk_inS 243 (q := (⟨"PlantKeeperModel", "callOwn", "(III)V"⟩, 96)) (by decide +kernel)⟩
abbrev kc_Mo_cellsIn : ByteArray := prog_14_method_101_code
def km_Mo_cellsIn : zk_MT := (⟨"PlantKeeperModel", "cellsIn", "(I)I"⟩, kc_Mo_cellsIn, 4, some .int, 1)
theorem ku_Mo_cellsIn : zk_My km_Mo_cellsIn := ⟨kw2484, kw17, by decide, by decide, by decide, by decide +kernel⟩
theorem kv_Mo_cellsIn : zk_Mv km_Mo_cellsIn := ⟨kw2483, zk_inS 238 (q := (⟨"PlantKeeperModel", "cellsIn", "(I)I"⟩, 96)) (by decide +kernel)⟩
abbrev kc_Mo_input : ByteArray := prog_14_method_78_code
def km_Mo_input : zk_MT := (⟨"PlantKeeperModel", "input", "(II)I"⟩, kc_Mo_input, 5, some .int, 2)
theorem ku_Mo_input : zk_My km_Mo_input := ⟨kw2511, kw17, by decide, by decide, by decide, by decide +kernel⟩
theorem kv_Mo_input : zk_Mv km_Mo_input := ⟨kw2510, zk_inS 244 (q := (⟨"PlantKeeperModel", "input", "(II)I"⟩, 96)) (by decide +kernel)⟩
abbrev kc_Mo_lookAtCall : ByteArray := prog_14_method_107_code
def km_Mo_lookAtCall : zk_MT := (⟨"PlantKeeperModel", "lookAtCall", "(I)V"⟩, kc_Mo_lookAtCall, 10, none, 1)
theorem ku_Mo_lookAtCall : zk_My km_Mo_lookAtCall := ⟨kw2500, kw17, by decide, by decide, by decide, by decide +kernel⟩
theorem kv_Mo_lookAtCall : zk_Mv km_Mo_lookAtCall := ⟨kw2499, zk_inS 242 (q := (⟨"PlantKeeperModel", "lookAtCall", "(I)V"⟩, 96)) (by decide +kernel)⟩
abbrev kc_Mo_lookAtInstance : ByteArray := prog_14_method_98_code
def km_Mo_lookAtInstance : zk_MT := (⟨"PlantKeeperModel", "lookAtInstance", "(I)V"⟩, kc_Mo_lookAtInstance, 3, none, 1)
theorem ku_Mo_lookAtInstance : zk_My km_Mo_lookAtInstance := ⟨kw2357, kw17, by decide, by decide, by decide, by decide +kernel⟩
theorem kv_Mo_lookAtInstance : zk_Mv km_Mo_lookAtInstance := ⟨kw2356, zk_inS 230 (q := (⟨"PlantKeeperModel", "lookAtInstance", "(I)V"⟩, 96)) (by decide +kernel)⟩
abbrev kc_Mo_lookAtRungs : ByteArray := prog_14_method_102_code
def km_Mo_lookAtRungs : zk_MT := (⟨"PlantKeeperModel", "lookAtRungs", "(I)V"⟩, kc_Mo_lookAtRungs, 5, none, 1)
theorem ku_Mo_lookAtRungs : zk_My km_Mo_lookAtRungs := ⟨kw2480, kw17, by decide, by decide, by decide, by decide +kernel⟩
theorem kv_Mo_lookAtRungs : zk_Mv km_Mo_lookAtRungs := ⟨kw2479, zk_inS 237 (q := (⟨"PlantKeeperModel", "lookAtRungs", "(I)V"⟩, 96)) (by decide +kernel)⟩
abbrev kc_Mo_lookAtTwo : ByteArray := prog_14_method_106_code
def km_Mo_lookAtTwo : zk_MT := (⟨"PlantKeeperModel", "lookAtTwo", "(I)V"⟩, kc_Mo_lookAtTwo, 7, none, 1)
theorem ku_Mo_lookAtTwo : zk_My km_Mo_lookAtTwo := ⟨kw2515, kw17, by decide, by decide, by decide, by decide +kernel⟩
theorem kv_Mo_lookAtTwo : zk_Mv km_Mo_lookAtTwo := ⟨kw2514, zk_inS 245 (q := (⟨"PlantKeeperModel", "lookAtTwo", "(I)V"⟩, 96)) (by decide +kernel)⟩
abbrev kc_Mo_wider : ByteArray := prog_14_method_70_code
def km_Mo_wider : zk_MT := (⟨"PlantKeeperModel", "wider", "(II)I"⟩, kc_Mo_wider, 2, some .int, 2)
theorem ku_Mo_wider : zk_My km_Mo_wider := ⟨kw2503, kw17, by decide, by decide, by decide, by decide +kernel⟩
theorem ks_Mo_wider : Cond.static km_Mo_wider.1 ∈ zk_BW := kw2502
theorem kd_Mo_callOwn_0 : decode kc_Mo_callOwn 0 = .ok (.aload_n 0, 1) := by decide +kernel
theorem kd_Mo_callOwn_1 : decode kc_Mo_callOwn 1 = .ok (.iload_n 3, 1) := by decide +kernel
theorem kd_Mo_callOwn_2 : decode kc_Mo_callOwn 2 = .ok (.aload_n 0, 1) := by decide +kernel
theorem kd_Mo_callOwn_3 : decode kc_Mo_callOwn 3 = .ok (.iload_n 2, 1) := by decide +kernel
theorem kd_Mo_callOwn_4 : decode kc_Mo_callOwn 4 = .ok (.invokevirtual 563, 3) := by decide +kernel
theorem kd_Mo_callOwn_7 : decode kc_Mo_callOwn 7 = .ok (.if_icmp .eq 7, 3) := by decide +kernel
theorem kd_Mo_callOwn_10 : decode kc_Mo_callOwn 10 = .ok (.iconst 1, 1) := by decide +kernel
theorem kd_Mo_callOwn_11 : decode kc_Mo_callOwn 11 = .ok (.goto 4, 3) := by decide +kernel
theorem kd_Mo_callOwn_14 : decode kc_Mo_callOwn 14 = .ok (.iconst 0, 1) := by decide +kernel
theorem kd_Mo_callOwn_15 : decode kc_Mo_callOwn 15 = .ok (.bipush 25, 2) := by decide +kernel
theorem kd_Mo_callOwn_17 : decode kc_Mo_callOwn 17 = .ok (.iload_n 1, 1) := by decide +kernel
theorem kd_Mo_callOwn_18 : decode kc_Mo_callOwn 18 = .ok (.invokevirtual 540, 3) := by decide +kernel
theorem kd_Mo_callOwn_21 : decode kc_Mo_callOwn 21 = .ok (.iconst 0, 1) := by decide +kernel
theorem kd_Mo_callOwn_22 : decode kc_Mo_callOwn 22 = .ok (.istore 4, 2) := by decide +kernel
theorem kd_Mo_callOwn_24 : decode kc_Mo_callOwn 24 = .ok (.aload_n 0, 1) := by decide +kernel
theorem kd_Mo_callOwn_25 : decode kc_Mo_callOwn 25 = .ok (.getfield 34, 3) := by decide +kernel
theorem kd_Mo_callOwn_28 : decode kc_Mo_callOwn 28 = .ok (.iload_n 1, 1) := by decide +kernel
theorem kd_Mo_callOwn_29 : decode kc_Mo_callOwn 29 = .ok (.iaload, 1) := by decide +kernel
theorem kd_Mo_callOwn_30 : decode kc_Mo_callOwn 30 = .ok (.istore 5, 2) := by decide +kernel
theorem kd_Mo_callOwn_32 : decode kc_Mo_callOwn 32 = .ok (.iload 5, 2) := by decide +kernel
theorem kd_Mo_callOwn_34 : decode kc_Mo_callOwn 34 = .ok (.ifCond .lt 62, 3) := by decide +kernel
theorem kd_Mo_callOwn_37 : decode kc_Mo_callOwn 37 = .ok (.aload_n 0, 1) := by decide +kernel
theorem kd_Mo_callOwn_38 : decode kc_Mo_callOwn 38 = .ok (.getfield 445, 3) := by decide +kernel
theorem kd_Mo_callOwn_41 : decode kc_Mo_callOwn 41 = .ok (.ifCond .ne 55, 3) := by decide +kernel
theorem kd_Mo_callOwn_44 : decode kc_Mo_callOwn 44 = .ok (.aload_n 0, 1) := by decide +kernel
theorem kd_Mo_callOwn_45 : decode kc_Mo_callOwn 45 = .ok (.aload_n 0, 1) := by decide +kernel
theorem kd_Mo_callOwn_46 : decode kc_Mo_callOwn 46 = .ok (.getfield 106, 3) := by decide +kernel
theorem kd_Mo_callOwn_49 : decode kc_Mo_callOwn 49 = .ok (.iload 5, 2) := by decide +kernel
theorem kd_Mo_callOwn_51 : decode kc_Mo_callOwn 51 = .ok (.iaload, 1) := by decide +kernel
theorem kd_Mo_callOwn_52 : decode kc_Mo_callOwn 52 = .ok (.aload_n 0, 1) := by decide +kernel
theorem kd_Mo_callOwn_53 : decode kc_Mo_callOwn 53 = .ok (.getfield 85, 3) := by decide +kernel
theorem kd_Mo_callOwn_56 : decode kc_Mo_callOwn 56 = .ok (.aload_n 0, 1) := by decide +kernel
theorem kd_Mo_callOwn_57 : decode kc_Mo_callOwn 57 = .ok (.iload_n 2, 1) := by decide +kernel
theorem kd_Mo_callOwn_58 : decode kc_Mo_callOwn 58 = .ok (.iload 4, 2) := by decide +kernel
theorem kd_Mo_callOwn_60 : decode kc_Mo_callOwn 60 = .ok (.invokevirtual 649, 3) := by decide +kernel
theorem kd_Mo_callOwn_63 : decode kc_Mo_callOwn 63 = .ok (.iaload, 1) := by decide +kernel
theorem kd_Mo_callOwn_64 : decode kc_Mo_callOwn 64 = .ok (.invokestatic 600, 3) := by decide +kernel
theorem kd_Mo_callOwn_67 : decode kc_Mo_callOwn 67 = .ok (.ifCond .ne 7, 3) := by decide +kernel
theorem kd_Mo_callOwn_70 : decode kc_Mo_callOwn 70 = .ok (.iconst 1, 1) := by decide +kernel
theorem kd_Mo_callOwn_71 : decode kc_Mo_callOwn 71 = .ok (.goto 4, 3) := by decide +kernel
theorem kd_Mo_callOwn_74 : decode kc_Mo_callOwn 74 = .ok (.iconst 0, 1) := by decide +kernel
theorem kd_Mo_callOwn_75 : decode kc_Mo_callOwn 75 = .ok (.bipush 26, 2) := by decide +kernel
theorem kd_Mo_callOwn_77 : decode kc_Mo_callOwn 77 = .ok (.iload_n 1, 1) := by decide +kernel
theorem kd_Mo_callOwn_78 : decode kc_Mo_callOwn 78 = .ok (.invokevirtual 540, 3) := by decide +kernel
theorem kd_Mo_callOwn_81 : decode kc_Mo_callOwn 81 = .ok (.iinc 4 1, 3) := by decide +kernel
theorem kd_Mo_callOwn_84 : decode kc_Mo_callOwn 84 = .ok (.aload_n 0, 1) := by decide +kernel
theorem kd_Mo_callOwn_85 : decode kc_Mo_callOwn 85 = .ok (.getfield 40, 3) := by decide +kernel
theorem kd_Mo_callOwn_88 : decode kc_Mo_callOwn 88 = .ok (.iload 5, 2) := by decide +kernel
theorem kd_Mo_callOwn_90 : decode kc_Mo_callOwn 90 = .ok (.iaload, 1) := by decide +kernel
theorem kd_Mo_callOwn_91 : decode kc_Mo_callOwn 91 = .ok (.istore 5, 2) := by decide +kernel
theorem kd_Mo_callOwn_93 : decode kc_Mo_callOwn 93 = .ok (.goto (-61), 3) := by decide +kernel
theorem kd_Mo_callOwn_96 : decode kc_Mo_callOwn 96 = .ok (.aload_n 0, 1) := by decide +kernel
theorem kd_Mo_callOwn_97 : decode kc_Mo_callOwn 97 = .ok (.getfield 112, 3) := by decide +kernel
theorem kd_Mo_callOwn_100 : decode kc_Mo_callOwn 100 = .ok (.iload_n 1, 1) := by decide +kernel
theorem kd_Mo_callOwn_101 : decode kc_Mo_callOwn 101 = .ok (.iload_n 2, 1) := by decide +kernel
theorem kd_Mo_callOwn_102 : decode kc_Mo_callOwn 102 = .ok (.iastore, 1) := by decide +kernel
theorem kd_Mo_callOwn_103 : decode kc_Mo_callOwn 103 = .ok (.aload_n 0, 1) := by decide +kernel
theorem kd_Mo_callOwn_104 : decode kc_Mo_callOwn 104 = .ok (.getfield 106, 3) := by decide +kernel
theorem kd_Mo_callOwn_107 : decode kc_Mo_callOwn 107 = .ok (.iload_n 1, 1) := by decide +kernel
theorem kd_Mo_callOwn_108 : decode kc_Mo_callOwn 108 = .ok (.aload_n 0, 1) := by decide +kernel
theorem kd_Mo_callOwn_109 : decode kc_Mo_callOwn 109 = .ok (.getfield 67, 3) := by decide +kernel
theorem kd_Mo_callOwn_112 : decode kc_Mo_callOwn 112 = .ok (.iload_n 2, 1) := by decide +kernel
theorem kd_Mo_callOwn_113 : decode kc_Mo_callOwn 113 = .ok (.iaload, 1) := by decide +kernel
theorem kd_Mo_callOwn_114 : decode kc_Mo_callOwn 114 = .ok (.iastore, 1) := by decide +kernel
theorem kd_Mo_callOwn_115 : decode kc_Mo_callOwn 115 = .ok (.return_, 1) := by decide +kernel
theorem kd_Mo_cellsIn_0 : decode kc_Mo_cellsIn 0 = .ok (.iconst 0, 1) := by decide +kernel
theorem kd_Mo_cellsIn_1 : decode kc_Mo_cellsIn 1 = .ok (.istore_n 2, 1) := by decide +kernel
theorem kd_Mo_cellsIn_2 : decode kc_Mo_cellsIn 2 = .ok (.aload_n 0, 1) := by decide +kernel
theorem kd_Mo_cellsIn_3 : decode kc_Mo_cellsIn 3 = .ok (.getfield 34, 3) := by decide +kernel
theorem kd_Mo_cellsIn_6 : decode kc_Mo_cellsIn 6 = .ok (.iload_n 1, 1) := by decide +kernel
theorem kd_Mo_cellsIn_7 : decode kc_Mo_cellsIn 7 = .ok (.iaload, 1) := by decide +kernel
theorem kd_Mo_cellsIn_8 : decode kc_Mo_cellsIn 8 = .ok (.istore_n 3, 1) := by decide +kernel
theorem kd_Mo_cellsIn_9 : decode kc_Mo_cellsIn 9 = .ok (.iload_n 3, 1) := by decide +kernel
theorem kd_Mo_cellsIn_10 : decode kc_Mo_cellsIn 10 = .ok (.ifCond .lt 32, 3) := by decide +kernel
theorem kd_Mo_cellsIn_13 : decode kc_Mo_cellsIn 13 = .ok (.iload_n 2, 1) := by decide +kernel
theorem kd_Mo_cellsIn_14 : decode kc_Mo_cellsIn 14 = .ok (.aload_n 0, 1) := by decide +kernel
theorem kd_Mo_cellsIn_15 : decode kc_Mo_cellsIn 15 = .ok (.getfield 22, 3) := by decide +kernel
theorem kd_Mo_cellsIn_18 : decode kc_Mo_cellsIn 18 = .ok (.iload_n 3, 1) := by decide +kernel
theorem kd_Mo_cellsIn_19 : decode kc_Mo_cellsIn 19 = .ok (.iaload, 1) := by decide +kernel
theorem kd_Mo_cellsIn_20 : decode kc_Mo_cellsIn 20 = .ok (.bipush 29, 2) := by decide +kernel
theorem kd_Mo_cellsIn_22 : decode kc_Mo_cellsIn 22 = .ok (.if_icmp .ne 7, 3) := by decide +kernel
theorem kd_Mo_cellsIn_25 : decode kc_Mo_cellsIn 25 = .ok (.iconst 0, 1) := by decide +kernel
theorem kd_Mo_cellsIn_26 : decode kc_Mo_cellsIn 26 = .ok (.goto 4, 3) := by decide +kernel
theorem kd_Mo_cellsIn_29 : decode kc_Mo_cellsIn 29 = .ok (.iconst 1, 1) := by decide +kernel
theorem kd_Mo_cellsIn_30 : decode kc_Mo_cellsIn 30 = .ok (.iadd, 1) := by decide +kernel
theorem kd_Mo_cellsIn_31 : decode kc_Mo_cellsIn 31 = .ok (.istore_n 2, 1) := by decide +kernel
theorem kd_Mo_cellsIn_32 : decode kc_Mo_cellsIn 32 = .ok (.aload_n 0, 1) := by decide +kernel
theorem kd_Mo_cellsIn_33 : decode kc_Mo_cellsIn 33 = .ok (.getfield 40, 3) := by decide +kernel
theorem kd_Mo_cellsIn_36 : decode kc_Mo_cellsIn 36 = .ok (.iload_n 3, 1) := by decide +kernel
theorem kd_Mo_cellsIn_37 : decode kc_Mo_cellsIn 37 = .ok (.iaload, 1) := by decide +kernel
theorem kd_Mo_cellsIn_38 : decode kc_Mo_cellsIn 38 = .ok (.istore_n 3, 1) := by decide +kernel
theorem kd_Mo_cellsIn_39 : decode kc_Mo_cellsIn 39 = .ok (.goto (-30), 3) := by decide +kernel
theorem kd_Mo_cellsIn_42 : decode kc_Mo_cellsIn 42 = .ok (.iload_n 2, 1) := by decide +kernel
theorem kd_Mo_cellsIn_43 : decode kc_Mo_cellsIn 43 = .ok (.ireturn, 1) := by decide +kernel
theorem kd_Mo_input_0 : decode kc_Mo_input 0 = .ok (.iload_n 2, 1) := by decide +kernel
theorem kd_Mo_input_1 : decode kc_Mo_input 1 = .ok (.istore_n 3, 1) := by decide +kernel
theorem kd_Mo_input_2 : decode kc_Mo_input 2 = .ok (.aload_n 0, 1) := by decide +kernel
theorem kd_Mo_input_3 : decode kc_Mo_input 3 = .ok (.getfield 76, 3) := by decide +kernel
theorem kd_Mo_input_6 : decode kc_Mo_input 6 = .ok (.iload_n 1, 1) := by decide +kernel
theorem kd_Mo_input_7 : decode kc_Mo_input 7 = .ok (.iaload, 1) := by decide +kernel
theorem kd_Mo_input_8 : decode kc_Mo_input 8 = .ok (.istore 4, 2) := by decide +kernel
theorem kd_Mo_input_10 : decode kc_Mo_input 10 = .ok (.aload_n 0, 1) := by decide +kernel
theorem kd_Mo_input_11 : decode kc_Mo_input 11 = .ok (.getfield 91, 3) := by decide +kernel
theorem kd_Mo_input_14 : decode kc_Mo_input 14 = .ok (.iload 4, 2) := by decide +kernel
theorem kd_Mo_input_16 : decode kc_Mo_input 16 = .ok (.iaload, 1) := by decide +kernel
theorem kd_Mo_input_17 : decode kc_Mo_input 17 = .ok (.iconst 1, 1) := by decide +kernel
theorem kd_Mo_input_18 : decode kc_Mo_input 18 = .ok (.if_icmp .ne 7, 3) := by decide +kernel
theorem kd_Mo_input_21 : decode kc_Mo_input 21 = .ok (.iload_n 3, 1) := by decide +kernel
theorem kd_Mo_input_22 : decode kc_Mo_input 22 = .ok (.ifCond .le 28, 3) := by decide +kernel
theorem kd_Mo_input_25 : decode kc_Mo_input 25 = .ok (.iload_n 3, 1) := by decide +kernel
theorem kd_Mo_input_26 : decode kc_Mo_input 26 = .ok (.aload_n 0, 1) := by decide +kernel
theorem kd_Mo_input_27 : decode kc_Mo_input 27 = .ok (.getfield 91, 3) := by decide +kernel
theorem kd_Mo_input_30 : decode kc_Mo_input 30 = .ok (.iload 4, 2) := by decide +kernel
theorem kd_Mo_input_32 : decode kc_Mo_input 32 = .ok (.iaload, 1) := by decide +kernel
theorem kd_Mo_input_33 : decode kc_Mo_input 33 = .ok (.iconst 1, 1) := by decide +kernel
theorem kd_Mo_input_34 : decode kc_Mo_input 34 = .ok (.if_icmp .ne 7, 3) := by decide +kernel
theorem kd_Mo_input_37 : decode kc_Mo_input 37 = .ok (.iconst 1, 1) := by decide +kernel
theorem kd_Mo_input_38 : decode kc_Mo_input 38 = .ok (.goto 4, 3) := by decide +kernel
theorem kd_Mo_input_41 : decode kc_Mo_input 41 = .ok (.iconst 0, 1) := by decide +kernel
theorem kd_Mo_input_42 : decode kc_Mo_input 42 = .ok (.isub, 1) := by decide +kernel
theorem kd_Mo_input_43 : decode kc_Mo_input 43 = .ok (.istore_n 3, 1) := by decide +kernel
theorem kd_Mo_input_44 : decode kc_Mo_input 44 = .ok (.iinc 4 1, 3) := by decide +kernel
theorem kd_Mo_input_47 : decode kc_Mo_input 47 = .ok (.goto (-37), 3) := by decide +kernel
theorem kd_Mo_input_50 : decode kc_Mo_input 50 = .ok (.iload 4, 2) := by decide +kernel
theorem kd_Mo_input_52 : decode kc_Mo_input 52 = .ok (.ireturn, 1) := by decide +kernel
theorem kd_Mo_lookAtCall_0 : decode kc_Mo_lookAtCall 0 = .ok (.aload_n 0, 1) := by decide +kernel
theorem kd_Mo_lookAtCall_1 : decode kc_Mo_lookAtCall 1 = .ok (.ldc_w 460, 3) := by decide +kernel
theorem kd_Mo_lookAtCall_4 : decode kc_Mo_lookAtCall 4 = .ok (.aload_n 0, 1) := by decide +kernel
theorem kd_Mo_lookAtCall_5 : decode kc_Mo_lookAtCall 5 = .ok (.getfield 28, 3) := by decide +kernel
theorem kd_Mo_lookAtCall_8 : decode kc_Mo_lookAtCall 8 = .ok (.iload_n 1, 1) := by decide +kernel
theorem kd_Mo_lookAtCall_9 : decode kc_Mo_lookAtCall 9 = .ok (.iaload, 1) := by decide +kernel
theorem kd_Mo_lookAtCall_10 : decode kc_Mo_lookAtCall 10 = .ok (.invokevirtual 456, 3) := by decide +kernel
theorem kd_Mo_lookAtCall_13 : decode kc_Mo_lookAtCall 13 = .ok (.istore_n 2, 1) := by decide +kernel
theorem kd_Mo_lookAtCall_14 : decode kc_Mo_lookAtCall 14 = .ok (.aload_n 0, 1) := by decide +kernel
theorem kd_Mo_lookAtCall_15 : decode kc_Mo_lookAtCall 15 = .ok (.aload_n 0, 1) := by decide +kernel
theorem kd_Mo_lookAtCall_16 : decode kc_Mo_lookAtCall 16 = .ok (.getfield 28, 3) := by decide +kernel
theorem kd_Mo_lookAtCall_19 : decode kc_Mo_lookAtCall 19 = .ok (.iload_n 1, 1) := by decide +kernel
theorem kd_Mo_lookAtCall_20 : decode kc_Mo_lookAtCall 20 = .ok (.iaload, 1) := by decide +kernel
theorem kd_Mo_lookAtCall_21 : decode kc_Mo_lookAtCall 21 = .ok (.aload_n 0, 1) := by decide +kernel
theorem kd_Mo_lookAtCall_22 : decode kc_Mo_lookAtCall 22 = .ok (.getfield 550, 3) := by decide +kernel
theorem kd_Mo_lookAtCall_25 : decode kc_Mo_lookAtCall 25 = .ok (.invokevirtual 547, 3) := by decide +kernel
theorem kd_Mo_lookAtCall_28 : decode kc_Mo_lookAtCall 28 = .ok (.istore_n 3, 1) := by decide +kernel
theorem kd_Mo_lookAtCall_29 : decode kc_Mo_lookAtCall 29 = .ok (.iload_n 3, 1) := by decide +kernel
theorem kd_Mo_lookAtCall_30 : decode kc_Mo_lookAtCall 30 = .ok (.ifCond .lt 17, 3) := by decide +kernel
theorem kd_Mo_lookAtCall_33 : decode kc_Mo_lookAtCall 33 = .ok (.aload_n 0, 1) := by decide +kernel
theorem kd_Mo_lookAtCall_34 : decode kc_Mo_lookAtCall 34 = .ok (.getfield 64, 3) := by decide +kernel
theorem kd_Mo_lookAtCall_37 : decode kc_Mo_lookAtCall 37 = .ok (.iload_n 3, 1) := by decide +kernel
theorem kd_Mo_lookAtCall_38 : decode kc_Mo_lookAtCall 38 = .ok (.iaload, 1) := by decide +kernel
theorem kd_Mo_lookAtCall_39 : decode kc_Mo_lookAtCall 39 = .ok (.iconst 1, 1) := by decide +kernel
theorem kd_Mo_lookAtCall_40 : decode kc_Mo_lookAtCall 40 = .ok (.if_icmp .ne 7, 3) := by decide +kernel
theorem kd_Mo_lookAtCall_43 : decode kc_Mo_lookAtCall 43 = .ok (.iload_n 3, 1) := by decide +kernel
theorem kd_Mo_lookAtCall_44 : decode kc_Mo_lookAtCall 44 = .ok (.goto 4, 3) := by decide +kernel
theorem kd_Mo_lookAtCall_47 : decode kc_Mo_lookAtCall 47 = .ok (.iconst (-1), 1) := by decide +kernel
theorem kd_Mo_lookAtCall_48 : decode kc_Mo_lookAtCall 48 = .ok (.istore_n 3, 1) := by decide +kernel
theorem kd_Mo_lookAtCall_49 : decode kc_Mo_lookAtCall 49 = .ok (.aload_n 0, 1) := by decide +kernel
theorem kd_Mo_lookAtCall_50 : decode kc_Mo_lookAtCall 50 = .ok (.iload_n 2, 1) := by decide +kernel
theorem kd_Mo_lookAtCall_51 : decode kc_Mo_lookAtCall 51 = .ok (.ifCond .ge 11, 3) := by decide +kernel
theorem kd_Mo_lookAtCall_54 : decode kc_Mo_lookAtCall 54 = .ok (.iload_n 3, 1) := by decide +kernel
theorem kd_Mo_lookAtCall_55 : decode kc_Mo_lookAtCall 55 = .ok (.ifCond .ge 7, 3) := by decide +kernel
theorem kd_Mo_lookAtCall_58 : decode kc_Mo_lookAtCall 58 = .ok (.iconst 1, 1) := by decide +kernel
theorem kd_Mo_lookAtCall_59 : decode kc_Mo_lookAtCall 59 = .ok (.goto 4, 3) := by decide +kernel
theorem kd_Mo_lookAtCall_62 : decode kc_Mo_lookAtCall 62 = .ok (.iconst 0, 1) := by decide +kernel
theorem kd_Mo_lookAtCall_63 : decode kc_Mo_lookAtCall 63 = .ok (.bipush 24, 2) := by decide +kernel
theorem kd_Mo_lookAtCall_65 : decode kc_Mo_lookAtCall 65 = .ok (.iload_n 1, 1) := by decide +kernel
theorem kd_Mo_lookAtCall_66 : decode kc_Mo_lookAtCall 66 = .ok (.invokevirtual 540, 3) := by decide +kernel
theorem kd_Mo_lookAtCall_69 : decode kc_Mo_lookAtCall 69 = .ok (.iconst 0, 1) := by decide +kernel
theorem kd_Mo_lookAtCall_70 : decode kc_Mo_lookAtCall 70 = .ok (.istore 4, 2) := by decide +kernel
theorem kd_Mo_lookAtCall_72 : decode kc_Mo_lookAtCall 72 = .ok (.iconst 1, 1) := by decide +kernel
theorem kd_Mo_lookAtCall_73 : decode kc_Mo_lookAtCall 73 = .ok (.istore 5, 2) := by decide +kernel
theorem kd_Mo_lookAtCall_75 : decode kc_Mo_lookAtCall 75 = .ok (.iconst (-1), 1) := by decide +kernel
theorem kd_Mo_lookAtCall_76 : decode kc_Mo_lookAtCall 76 = .ok (.istore 6, 2) := by decide +kernel
theorem kd_Mo_lookAtCall_78 : decode kc_Mo_lookAtCall 78 = .ok (.aload_n 0, 1) := by decide +kernel
theorem kd_Mo_lookAtCall_79 : decode kc_Mo_lookAtCall 79 = .ok (.getfield 34, 3) := by decide +kernel
theorem kd_Mo_lookAtCall_82 : decode kc_Mo_lookAtCall 82 = .ok (.iload_n 1, 1) := by decide +kernel
theorem kd_Mo_lookAtCall_83 : decode kc_Mo_lookAtCall 83 = .ok (.iaload, 1) := by decide +kernel
theorem kd_Mo_lookAtCall_84 : decode kc_Mo_lookAtCall 84 = .ok (.istore 7, 2) := by decide +kernel
theorem kd_Mo_lookAtCall_86 : decode kc_Mo_lookAtCall 86 = .ok (.iload 7, 2) := by decide +kernel
theorem kd_Mo_lookAtCall_88 : decode kc_Mo_lookAtCall 88 = .ok (.ifCond .lt 57, 3) := by decide +kernel
theorem kd_Mo_lookAtCall_91 : decode kc_Mo_lookAtCall 91 = .ok (.iinc 4 1, 3) := by decide +kernel
theorem kd_Mo_lookAtCall_94 : decode kc_Mo_lookAtCall 94 = .ok (.iload 5, 2) := by decide +kernel
theorem kd_Mo_lookAtCall_96 : decode kc_Mo_lookAtCall 96 = .ok (.ifCond .eq 20, 3) := by decide +kernel
theorem kd_Mo_lookAtCall_99 : decode kc_Mo_lookAtCall 99 = .ok (.aload_n 0, 1) := by decide +kernel
theorem kd_Mo_lookAtCall_100 : decode kc_Mo_lookAtCall 100 = .ok (.getfield 106, 3) := by decide +kernel
theorem kd_Mo_lookAtCall_103 : decode kc_Mo_lookAtCall 103 = .ok (.iload 7, 2) := by decide +kernel
theorem kd_Mo_lookAtCall_105 : decode kc_Mo_lookAtCall 105 = .ok (.iaload, 1) := by decide +kernel
theorem kd_Mo_lookAtCall_106 : decode kc_Mo_lookAtCall 106 = .ok (.invokestatic 609, 3) := by decide +kernel
theorem kd_Mo_lookAtCall_109 : decode kc_Mo_lookAtCall 109 = .ok (.ifCond .eq 7, 3) := by decide +kernel
theorem kd_Mo_lookAtCall_112 : decode kc_Mo_lookAtCall 112 = .ok (.iconst 1, 1) := by decide +kernel
theorem kd_Mo_lookAtCall_113 : decode kc_Mo_lookAtCall 113 = .ok (.goto 4, 3) := by decide +kernel
theorem kd_Mo_lookAtCall_116 : decode kc_Mo_lookAtCall 116 = .ok (.iconst 0, 1) := by decide +kernel
theorem kd_Mo_lookAtCall_117 : decode kc_Mo_lookAtCall 117 = .ok (.istore 5, 2) := by decide +kernel
theorem kd_Mo_lookAtCall_119 : decode kc_Mo_lookAtCall 119 = .ok (.iload 6, 2) := by decide +kernel
theorem kd_Mo_lookAtCall_121 : decode kc_Mo_lookAtCall 121 = .ok (.aload_n 0, 1) := by decide +kernel
theorem kd_Mo_lookAtCall_122 : decode kc_Mo_lookAtCall 122 = .ok (.getfield 106, 3) := by decide +kernel
theorem kd_Mo_lookAtCall_125 : decode kc_Mo_lookAtCall 125 = .ok (.iload 7, 2) := by decide +kernel
theorem kd_Mo_lookAtCall_127 : decode kc_Mo_lookAtCall 127 = .ok (.iaload, 1) := by decide +kernel
theorem kd_Mo_lookAtCall_128 : decode kc_Mo_lookAtCall 128 = .ok (.invokestatic 642, 3) := by decide +kernel
theorem kd_Mo_lookAtCall_131 : decode kc_Mo_lookAtCall 131 = .ok (.istore 6, 2) := by decide +kernel
theorem kd_Mo_lookAtCall_133 : decode kc_Mo_lookAtCall 133 = .ok (.aload_n 0, 1) := by decide +kernel
theorem kd_Mo_lookAtCall_134 : decode kc_Mo_lookAtCall 134 = .ok (.getfield 40, 3) := by decide +kernel
theorem kd_Mo_lookAtCall_137 : decode kc_Mo_lookAtCall 137 = .ok (.iload 7, 2) := by decide +kernel
theorem kd_Mo_lookAtCall_139 : decode kc_Mo_lookAtCall 139 = .ok (.iaload, 1) := by decide +kernel
theorem kd_Mo_lookAtCall_140 : decode kc_Mo_lookAtCall 140 = .ok (.istore 7, 2) := by decide +kernel
theorem kd_Mo_lookAtCall_142 : decode kc_Mo_lookAtCall 142 = .ok (.goto (-56), 3) := by decide +kernel
theorem kd_Mo_lookAtCall_145 : decode kc_Mo_lookAtCall 145 = .ok (.aload_n 0, 1) := by decide +kernel
theorem kd_Mo_lookAtCall_146 : decode kc_Mo_lookAtCall 146 = .ok (.getfield 445, 3) := by decide +kernel
theorem kd_Mo_lookAtCall_149 : decode kc_Mo_lookAtCall 149 = .ok (.ifCond .le 4, 3) := by decide +kernel
theorem kd_Mo_lookAtCall_152 : decode kc_Mo_lookAtCall 152 = .ok (.return_, 1) := by decide +kernel
theorem kd_Mo_lookAtCall_153 : decode kc_Mo_lookAtCall 153 = .ok (.iload_n 2, 1) := by decide +kernel
theorem kd_Mo_lookAtCall_154 : decode kc_Mo_lookAtCall 154 = .ok (.ifCond .ge 12, 3) := by decide +kernel
theorem kd_Mo_lookAtCall_157 : decode kc_Mo_lookAtCall 157 = .ok (.aload_n 0, 1) := by decide +kernel
theorem kd_Mo_lookAtCall_158 : decode kc_Mo_lookAtCall 158 = .ok (.iload_n 1, 1) := by decide +kernel
theorem kd_Mo_lookAtCall_159 : decode kc_Mo_lookAtCall 159 = .ok (.iload_n 3, 1) := by decide +kernel
theorem kd_Mo_lookAtCall_160 : decode kc_Mo_lookAtCall 160 = .ok (.iload 4, 2) := by decide +kernel
theorem kd_Mo_lookAtCall_162 : decode kc_Mo_lookAtCall 162 = .ok (.invokevirtual 645, 3) := by decide +kernel
theorem kd_Mo_lookAtCall_165 : decode kc_Mo_lookAtCall 165 = .ok (.return_, 1) := by decide +kernel
theorem kd_Mo_lookAtCall_166 : decode kc_Mo_lookAtCall 166 = .ok (.aload_n 0, 1) := by decide +kernel
theorem kd_Mo_lookAtCall_167 : decode kc_Mo_lookAtCall 167 = .ok (.iload 4, 2) := by decide +kernel
theorem kd_Mo_lookAtCall_169 : decode kc_Mo_lookAtCall 169 = .ok (.iload_n 2, 1) := by decide +kernel
theorem kd_Mo_lookAtCall_170 : decode kc_Mo_lookAtCall 170 = .ok (.ifCond .eq 9, 3) := by decide +kernel
theorem kd_Mo_lookAtCall_173 : decode kc_Mo_lookAtCall 173 = .ok (.iload_n 2, 1) := by decide +kernel
theorem kd_Mo_lookAtCall_174 : decode kc_Mo_lookAtCall 174 = .ok (.bipush 6, 2) := by decide +kernel
theorem kd_Mo_lookAtCall_176 : decode kc_Mo_lookAtCall 176 = .ok (.if_icmp .le 7, 3) := by decide +kernel
theorem kd_Mo_lookAtCall_179 : decode kc_Mo_lookAtCall 179 = .ok (.iconst 1, 1) := by decide +kernel
theorem kd_Mo_lookAtCall_180 : decode kc_Mo_lookAtCall 180 = .ok (.goto 18, 3) := by decide +kernel
theorem kd_Mo_lookAtCall_183 : decode kc_Mo_lookAtCall 183 = .ok (.iload_n 2, 1) := by decide +kernel
theorem kd_Mo_lookAtCall_184 : decode kc_Mo_lookAtCall 184 = .ok (.iconst 3, 1) := by decide +kernel
theorem kd_Mo_lookAtCall_185 : decode kc_Mo_lookAtCall 185 = .ok (.if_icmp .eq 8, 3) := by decide +kernel
theorem kd_Mo_lookAtCall_188 : decode kc_Mo_lookAtCall 188 = .ok (.iload_n 2, 1) := by decide +kernel
theorem kd_Mo_lookAtCall_189 : decode kc_Mo_lookAtCall 189 = .ok (.iconst 4, 1) := by decide +kernel
theorem kd_Mo_lookAtCall_190 : decode kc_Mo_lookAtCall 190 = .ok (.if_icmp .ne 7, 3) := by decide +kernel
theorem kd_Mo_lookAtCall_193 : decode kc_Mo_lookAtCall 193 = .ok (.iconst 3, 1) := by decide +kernel
theorem kd_Mo_lookAtCall_194 : decode kc_Mo_lookAtCall 194 = .ok (.goto 4, 3) := by decide +kernel
theorem kd_Mo_lookAtCall_197 : decode kc_Mo_lookAtCall 197 = .ok (.iconst 2, 1) := by decide +kernel
theorem kd_Mo_lookAtCall_198 : decode kc_Mo_lookAtCall 198 = .ok (.if_icmp .eq 7, 3) := by decide +kernel
theorem kd_Mo_lookAtCall_201 : decode kc_Mo_lookAtCall 201 = .ok (.iconst 1, 1) := by decide +kernel
theorem kd_Mo_lookAtCall_202 : decode kc_Mo_lookAtCall 202 = .ok (.goto 4, 3) := by decide +kernel
theorem kd_Mo_lookAtCall_205 : decode kc_Mo_lookAtCall 205 = .ok (.iconst 0, 1) := by decide +kernel
theorem kd_Mo_lookAtCall_206 : decode kc_Mo_lookAtCall 206 = .ok (.bipush 25, 2) := by decide +kernel
theorem kd_Mo_lookAtCall_208 : decode kc_Mo_lookAtCall 208 = .ok (.iload_n 1, 1) := by decide +kernel
theorem kd_Mo_lookAtCall_209 : decode kc_Mo_lookAtCall 209 = .ok (.invokevirtual 540, 3) := by decide +kernel
theorem kd_Mo_lookAtCall_212 : decode kc_Mo_lookAtCall 212 = .ok (.aload_n 0, 1) := by decide +kernel
theorem kd_Mo_lookAtCall_213 : decode kc_Mo_lookAtCall 213 = .ok (.getfield 445, 3) := by decide +kernel
theorem kd_Mo_lookAtCall_216 : decode kc_Mo_lookAtCall 216 = .ok (.ifCond .le 4, 3) := by decide +kernel
theorem kd_Mo_lookAtCall_219 : decode kc_Mo_lookAtCall 219 = .ok (.return_, 1) := by decide +kernel
theorem kd_Mo_lookAtCall_220 : decode kc_Mo_lookAtCall 220 = .ok (.aload_n 0, 1) := by decide +kernel
theorem kd_Mo_lookAtCall_221 : decode kc_Mo_lookAtCall 221 = .ok (.getfield 112, 3) := by decide +kernel
theorem kd_Mo_lookAtCall_224 : decode kc_Mo_lookAtCall 224 = .ok (.iload_n 1, 1) := by decide +kernel
theorem kd_Mo_lookAtCall_225 : decode kc_Mo_lookAtCall 225 = .ok (.bipush 100, 2) := by decide +kernel
theorem kd_Mo_lookAtCall_227 : decode kc_Mo_lookAtCall 227 = .ok (.iload_n 2, 1) := by decide +kernel
theorem kd_Mo_lookAtCall_228 : decode kc_Mo_lookAtCall 228 = .ok (.iadd, 1) := by decide +kernel
theorem kd_Mo_lookAtCall_229 : decode kc_Mo_lookAtCall 229 = .ok (.iastore, 1) := by decide +kernel
theorem kd_Mo_lookAtCall_230 : decode kc_Mo_lookAtCall 230 = .ok (.iload_n 2, 1) := by decide +kernel
theorem kd_Mo_lookAtCall_231 : decode kc_Mo_lookAtCall 231 = .ok (.iconst 4, 1) := by decide +kernel
theorem kd_Mo_lookAtCall_232 : decode kc_Mo_lookAtCall 232 = .ok (.if_icmp .ne 114, 3) := by decide +kernel
theorem kd_Mo_lookAtCall_235 : decode kc_Mo_lookAtCall 235 = .ok (.aload_n 0, 1) := by decide +kernel
theorem kd_Mo_lookAtCall_236 : decode kc_Mo_lookAtCall 236 = .ok (.getfield 106, 3) := by decide +kernel
theorem kd_Mo_lookAtCall_239 : decode kc_Mo_lookAtCall 239 = .ok (.aload_n 0, 1) := by decide +kernel
theorem kd_Mo_lookAtCall_240 : decode kc_Mo_lookAtCall 240 = .ok (.getfield 40, 3) := by decide +kernel
theorem kd_Mo_lookAtCall_243 : decode kc_Mo_lookAtCall 243 = .ok (.aload_n 0, 1) := by decide +kernel
theorem kd_Mo_lookAtCall_244 : decode kc_Mo_lookAtCall 244 = .ok (.getfield 34, 3) := by decide +kernel
theorem kd_Mo_lookAtCall_247 : decode kc_Mo_lookAtCall 247 = .ok (.iload_n 1, 1) := by decide +kernel
theorem kd_Mo_lookAtCall_248 : decode kc_Mo_lookAtCall 248 = .ok (.iaload, 1) := by decide +kernel
theorem kd_Mo_lookAtCall_249 : decode kc_Mo_lookAtCall 249 = .ok (.iaload, 1) := by decide +kernel
theorem kd_Mo_lookAtCall_250 : decode kc_Mo_lookAtCall 250 = .ok (.iaload, 1) := by decide +kernel
theorem kd_Mo_lookAtCall_251 : decode kc_Mo_lookAtCall 251 = .ok (.istore 7, 2) := by decide +kernel
theorem kd_Mo_lookAtCall_253 : decode kc_Mo_lookAtCall 253 = .ok (.aload_n 0, 1) := by decide +kernel
theorem kd_Mo_lookAtCall_254 : decode kc_Mo_lookAtCall 254 = .ok (.getfield 106, 3) := by decide +kernel
theorem kd_Mo_lookAtCall_257 : decode kc_Mo_lookAtCall 257 = .ok (.aload_n 0, 1) := by decide +kernel
theorem kd_Mo_lookAtCall_258 : decode kc_Mo_lookAtCall 258 = .ok (.getfield 37, 3) := by decide +kernel
theorem kd_Mo_lookAtCall_261 : decode kc_Mo_lookAtCall 261 = .ok (.iload_n 1, 1) := by decide +kernel
theorem kd_Mo_lookAtCall_262 : decode kc_Mo_lookAtCall 262 = .ok (.iaload, 1) := by decide +kernel
theorem kd_Mo_lookAtCall_263 : decode kc_Mo_lookAtCall 263 = .ok (.iaload, 1) := by decide +kernel
theorem kd_Mo_lookAtCall_264 : decode kc_Mo_lookAtCall 264 = .ok (.istore 8, 2) := by decide +kernel
theorem kd_Mo_lookAtCall_266 : decode kc_Mo_lookAtCall 266 = .ok (.iload 7, 2) := by decide +kernel
theorem kd_Mo_lookAtCall_268 : decode kc_Mo_lookAtCall 268 = .ok (.ifCond .ne 8, 3) := by decide +kernel
theorem kd_Mo_lookAtCall_271 : decode kc_Mo_lookAtCall 271 = .ok (.iload 8, 2) := by decide +kernel
theorem kd_Mo_lookAtCall_273 : decode kc_Mo_lookAtCall 273 = .ok (.ifCond .eq 19, 3) := by decide +kernel
theorem kd_Mo_lookAtCall_276 : decode kc_Mo_lookAtCall 276 = .ok (.iload 7, 2) := by decide +kernel
theorem kd_Mo_lookAtCall_278 : decode kc_Mo_lookAtCall 278 = .ok (.invokestatic 609, 3) := by decide +kernel
theorem kd_Mo_lookAtCall_281 : decode kc_Mo_lookAtCall 281 = .ok (.ifCond .eq 15, 3) := by decide +kernel
theorem kd_Mo_lookAtCall_284 : decode kc_Mo_lookAtCall 284 = .ok (.iload 8, 2) := by decide +kernel
theorem kd_Mo_lookAtCall_286 : decode kc_Mo_lookAtCall 286 = .ok (.invokestatic 609, 3) := by decide +kernel
theorem kd_Mo_lookAtCall_289 : decode kc_Mo_lookAtCall 289 = .ok (.ifCond .eq 7, 3) := by decide +kernel
theorem kd_Mo_lookAtCall_292 : decode kc_Mo_lookAtCall 292 = .ok (.iconst 1, 1) := by decide +kernel
theorem kd_Mo_lookAtCall_293 : decode kc_Mo_lookAtCall 293 = .ok (.goto 4, 3) := by decide +kernel
theorem kd_Mo_lookAtCall_296 : decode kc_Mo_lookAtCall 296 = .ok (.iconst 0, 1) := by decide +kernel
theorem kd_Mo_lookAtCall_297 : decode kc_Mo_lookAtCall 297 = .ok (.istore 9, 2) := by decide +kernel
theorem kd_Mo_lookAtCall_299 : decode kc_Mo_lookAtCall 299 = .ok (.aload_n 0, 1) := by decide +kernel
theorem kd_Mo_lookAtCall_300 : decode kc_Mo_lookAtCall 300 = .ok (.aload_n 0, 1) := by decide +kernel
theorem kd_Mo_lookAtCall_301 : decode kc_Mo_lookAtCall 301 = .ok (.getfield 106, 3) := by decide +kernel
theorem kd_Mo_lookAtCall_304 : decode kc_Mo_lookAtCall 304 = .ok (.aload_n 0, 1) := by decide +kernel
theorem kd_Mo_lookAtCall_305 : decode kc_Mo_lookAtCall 305 = .ok (.getfield 34, 3) := by decide +kernel
theorem kd_Mo_lookAtCall_308 : decode kc_Mo_lookAtCall 308 = .ok (.iload_n 1, 1) := by decide +kernel
theorem kd_Mo_lookAtCall_309 : decode kc_Mo_lookAtCall 309 = .ok (.iaload, 1) := by decide +kernel
theorem kd_Mo_lookAtCall_310 : decode kc_Mo_lookAtCall 310 = .ok (.iaload, 1) := by decide +kernel
theorem kd_Mo_lookAtCall_311 : decode kc_Mo_lookAtCall 311 = .ok (.ifCond .ne 8, 3) := by decide +kernel
theorem kd_Mo_lookAtCall_314 : decode kc_Mo_lookAtCall 314 = .ok (.iload 9, 2) := by decide +kernel
theorem kd_Mo_lookAtCall_316 : decode kc_Mo_lookAtCall 316 = .ok (.ifCond .ne 7, 3) := by decide +kernel
theorem kd_Mo_lookAtCall_319 : decode kc_Mo_lookAtCall 319 = .ok (.iconst 1, 1) := by decide +kernel
theorem kd_Mo_lookAtCall_320 : decode kc_Mo_lookAtCall 320 = .ok (.goto 4, 3) := by decide +kernel
theorem kd_Mo_lookAtCall_323 : decode kc_Mo_lookAtCall 323 = .ok (.iconst 0, 1) := by decide +kernel
theorem kd_Mo_lookAtCall_324 : decode kc_Mo_lookAtCall 324 = .ok (.bipush 26, 2) := by decide +kernel
theorem kd_Mo_lookAtCall_326 : decode kc_Mo_lookAtCall 326 = .ok (.iload_n 1, 1) := by decide +kernel
theorem kd_Mo_lookAtCall_327 : decode kc_Mo_lookAtCall 327 = .ok (.invokevirtual 540, 3) := by decide +kernel
theorem kd_Mo_lookAtCall_330 : decode kc_Mo_lookAtCall 330 = .ok (.aload_n 0, 1) := by decide +kernel
theorem kd_Mo_lookAtCall_331 : decode kc_Mo_lookAtCall 331 = .ok (.getfield 106, 3) := by decide +kernel
theorem kd_Mo_lookAtCall_334 : decode kc_Mo_lookAtCall 334 = .ok (.iload_n 1, 1) := by decide +kernel
theorem kd_Mo_lookAtCall_335 : decode kc_Mo_lookAtCall 335 = .ok (.iload 7, 2) := by decide +kernel
theorem kd_Mo_lookAtCall_337 : decode kc_Mo_lookAtCall 337 = .ok (.iload 8, 2) := by decide +kernel
theorem kd_Mo_lookAtCall_339 : decode kc_Mo_lookAtCall 339 = .ok (.invokestatic 642, 3) := by decide +kernel
theorem kd_Mo_lookAtCall_342 : decode kc_Mo_lookAtCall 342 = .ok (.iastore, 1) := by decide +kernel
theorem kd_Mo_lookAtCall_343 : decode kc_Mo_lookAtCall 343 = .ok (.goto 82, 3) := by decide +kernel
theorem kd_Mo_lookAtCall_346 : decode kc_Mo_lookAtCall 346 = .ok (.aload_n 0, 1) := by decide +kernel
theorem kd_Mo_lookAtCall_347 : decode kc_Mo_lookAtCall 347 = .ok (.iload_n 2, 1) := by decide +kernel
theorem kd_Mo_lookAtCall_348 : decode kc_Mo_lookAtCall 348 = .ok (.bipush 7, 2) := by decide +kernel
theorem kd_Mo_lookAtCall_350 : decode kc_Mo_lookAtCall 350 = .ok (.if_icmp .eq 18, 3) := by decide +kernel
theorem kd_Mo_lookAtCall_353 : decode kc_Mo_lookAtCall 353 = .ok (.iload_n 2, 1) := by decide +kernel
theorem kd_Mo_lookAtCall_354 : decode kc_Mo_lookAtCall 354 = .ok (.bipush 8, 2) := by decide +kernel
theorem kd_Mo_lookAtCall_356 : decode kc_Mo_lookAtCall 356 = .ok (.if_icmp .eq 12, 3) := by decide +kernel
theorem kd_Mo_lookAtCall_359 : decode kc_Mo_lookAtCall 359 = .ok (.iload 5, 2) := by decide +kernel
theorem kd_Mo_lookAtCall_361 : decode kc_Mo_lookAtCall 361 = .ok (.ifCond .ne 7, 3) := by decide +kernel
theorem kd_Mo_lookAtCall_364 : decode kc_Mo_lookAtCall 364 = .ok (.iconst 1, 1) := by decide +kernel
theorem kd_Mo_lookAtCall_365 : decode kc_Mo_lookAtCall 365 = .ok (.goto 4, 3) := by decide +kernel
theorem kd_Mo_lookAtCall_368 : decode kc_Mo_lookAtCall 368 = .ok (.iconst 0, 1) := by decide +kernel
theorem kd_Mo_lookAtCall_369 : decode kc_Mo_lookAtCall 369 = .ok (.bipush 26, 2) := by decide +kernel
theorem kd_Mo_lookAtCall_371 : decode kc_Mo_lookAtCall 371 = .ok (.iload_n 1, 1) := by decide +kernel
theorem kd_Mo_lookAtCall_372 : decode kc_Mo_lookAtCall 372 = .ok (.invokevirtual 540, 3) := by decide +kernel
theorem kd_Mo_lookAtCall_375 : decode kc_Mo_lookAtCall 375 = .ok (.aload_n 0, 1) := by decide +kernel
theorem kd_Mo_lookAtCall_376 : decode kc_Mo_lookAtCall 376 = .ok (.getfield 106, 3) := by decide +kernel
theorem kd_Mo_lookAtCall_379 : decode kc_Mo_lookAtCall 379 = .ok (.iload_n 1, 1) := by decide +kernel
theorem kd_Mo_lookAtCall_380 : decode kc_Mo_lookAtCall 380 = .ok (.iload_n 2, 1) := by decide +kernel
theorem kd_Mo_lookAtCall_381 : decode kc_Mo_lookAtCall 381 = .ok (.iconst 4, 1) := by decide +kernel
theorem kd_Mo_lookAtCall_382 : decode kc_Mo_lookAtCall 382 = .ok (.if_icmp .ge 8, 3) := by decide +kernel
theorem kd_Mo_lookAtCall_385 : decode kc_Mo_lookAtCall 385 = .ok (.iload 6, 2) := by decide +kernel
theorem kd_Mo_lookAtCall_387 : decode kc_Mo_lookAtCall 387 = .ok (.goto 37, 3) := by decide +kernel
theorem kd_Mo_lookAtCall_390 : decode kc_Mo_lookAtCall 390 = .ok (.iload_n 2, 1) := by decide +kernel
theorem kd_Mo_lookAtCall_391 : decode kc_Mo_lookAtCall 391 = .ok (.bipush 7, 2) := by decide +kernel
theorem kd_Mo_lookAtCall_393 : decode kc_Mo_lookAtCall 393 = .ok (.if_icmp .ge 17, 3) := by decide +kernel
theorem kd_Mo_lookAtCall_396 : decode kc_Mo_lookAtCall 396 = .ok (.aload_n 0, 1) := by decide +kernel
theorem kd_Mo_lookAtCall_397 : decode kc_Mo_lookAtCall 397 = .ok (.getfield 106, 3) := by decide +kernel
theorem kd_Mo_lookAtCall_400 : decode kc_Mo_lookAtCall 400 = .ok (.aload_n 0, 1) := by decide +kernel
theorem kd_Mo_lookAtCall_401 : decode kc_Mo_lookAtCall 401 = .ok (.getfield 34, 3) := by decide +kernel
theorem kd_Mo_lookAtCall_404 : decode kc_Mo_lookAtCall 404 = .ok (.iload_n 1, 1) := by decide +kernel
theorem kd_Mo_lookAtCall_405 : decode kc_Mo_lookAtCall 405 = .ok (.iaload, 1) := by decide +kernel
theorem kd_Mo_lookAtCall_406 : decode kc_Mo_lookAtCall 406 = .ok (.iaload, 1) := by decide +kernel
theorem kd_Mo_lookAtCall_407 : decode kc_Mo_lookAtCall 407 = .ok (.goto 17, 3) := by decide +kernel
theorem kd_Mo_lookAtCall_410 : decode kc_Mo_lookAtCall 410 = .ok (.iload_n 2, 1) := by decide +kernel
theorem kd_Mo_lookAtCall_411 : decode kc_Mo_lookAtCall 411 = .ok (.bipush 9, 2) := by decide +kernel
theorem kd_Mo_lookAtCall_413 : decode kc_Mo_lookAtCall 413 = .ok (.if_icmp .ne 7, 3) := by decide +kernel
theorem kd_Mo_lookAtCall_416 : decode kc_Mo_lookAtCall 416 = .ok (.iconst 0, 1) := by decide +kernel
theorem kd_Mo_lookAtCall_417 : decode kc_Mo_lookAtCall 417 = .ok (.goto 7, 3) := by decide +kernel
theorem kd_Mo_lookAtCall_420 : decode kc_Mo_lookAtCall 420 = .ok (.iload_n 2, 1) := by decide +kernel
theorem kd_Mo_lookAtCall_421 : decode kc_Mo_lookAtCall 421 = .ok (.bipush 6, 2) := by decide +kernel
theorem kd_Mo_lookAtCall_423 : decode kc_Mo_lookAtCall 423 = .ok (.isub, 1) := by decide +kernel
theorem kd_Mo_lookAtCall_424 : decode kc_Mo_lookAtCall 424 = .ok (.iastore, 1) := by decide +kernel
theorem kd_Mo_lookAtCall_425 : decode kc_Mo_lookAtCall 425 = .ok (.return_, 1) := by decide +kernel
theorem kd_Mo_lookAtInstance_0 : decode kc_Mo_lookAtInstance 0 = .ok (.aload_n 0, 1) := by decide +kernel
theorem kd_Mo_lookAtInstance_1 : decode kc_Mo_lookAtInstance 1 = .ok (.aload_n 0, 1) := by decide +kernel
theorem kd_Mo_lookAtInstance_2 : decode kc_Mo_lookAtInstance 2 = .ok (.getfield 550, 3) := by decide +kernel
theorem kd_Mo_lookAtInstance_5 : decode kc_Mo_lookAtInstance 5 = .ok (.aload_n 0, 1) := by decide +kernel
theorem kd_Mo_lookAtInstance_6 : decode kc_Mo_lookAtInstance 6 = .ok (.getfield 28, 3) := by decide +kernel
theorem kd_Mo_lookAtInstance_9 : decode kc_Mo_lookAtInstance 9 = .ok (.iload_n 1, 1) := by decide +kernel
theorem kd_Mo_lookAtInstance_10 : decode kc_Mo_lookAtInstance 10 = .ok (.iaload, 1) := by decide +kernel
theorem kd_Mo_lookAtInstance_11 : decode kc_Mo_lookAtInstance 11 = .ok (.invokevirtual 507, 3) := by decide +kernel
theorem kd_Mo_lookAtInstance_14 : decode kc_Mo_lookAtInstance 14 = .ok (.istore_n 2, 1) := by decide +kernel
theorem kd_Mo_lookAtInstance_15 : decode kc_Mo_lookAtInstance 15 = .ok (.aload_n 0, 1) := by decide +kernel
theorem kd_Mo_lookAtInstance_16 : decode kc_Mo_lookAtInstance 16 = .ok (.iload_n 2, 1) := by decide +kernel
theorem kd_Mo_lookAtInstance_17 : decode kc_Mo_lookAtInstance 17 = .ok (.ifCond .ge 7, 3) := by decide +kernel
theorem kd_Mo_lookAtInstance_20 : decode kc_Mo_lookAtInstance 20 = .ok (.iconst 1, 1) := by decide +kernel
theorem kd_Mo_lookAtInstance_21 : decode kc_Mo_lookAtInstance 21 = .ok (.goto 4, 3) := by decide +kernel
theorem kd_Mo_lookAtInstance_24 : decode kc_Mo_lookAtInstance 24 = .ok (.iconst 0, 1) := by decide +kernel
theorem kd_Mo_lookAtInstance_25 : decode kc_Mo_lookAtInstance 25 = .ok (.bipush 20, 2) := by decide +kernel
theorem kd_Mo_lookAtInstance_27 : decode kc_Mo_lookAtInstance 27 = .ok (.iload_n 1, 1) := by decide +kernel
theorem kd_Mo_lookAtInstance_28 : decode kc_Mo_lookAtInstance 28 = .ok (.invokevirtual 540, 3) := by decide +kernel
theorem kd_Mo_lookAtInstance_31 : decode kc_Mo_lookAtInstance 31 = .ok (.aload_n 0, 1) := by decide +kernel
theorem kd_Mo_lookAtInstance_32 : decode kc_Mo_lookAtInstance 32 = .ok (.iload_n 2, 1) := by decide +kernel
theorem kd_Mo_lookAtInstance_33 : decode kc_Mo_lookAtInstance 33 = .ok (.ifCond .lt 17, 3) := by decide +kernel
theorem kd_Mo_lookAtInstance_36 : decode kc_Mo_lookAtInstance 36 = .ok (.aload_n 0, 1) := by decide +kernel
theorem kd_Mo_lookAtInstance_37 : decode kc_Mo_lookAtInstance 37 = .ok (.getfield 82, 3) := by decide +kernel
theorem kd_Mo_lookAtInstance_40 : decode kc_Mo_lookAtInstance 40 = .ok (.iload_n 2, 1) := by decide +kernel
theorem kd_Mo_lookAtInstance_41 : decode kc_Mo_lookAtInstance 41 = .ok (.iaload, 1) := by decide +kernel
theorem kd_Mo_lookAtInstance_42 : decode kc_Mo_lookAtInstance 42 = .ok (.iconst 2, 1) := by decide +kernel
theorem kd_Mo_lookAtInstance_43 : decode kc_Mo_lookAtInstance 43 = .ok (.if_icmp .eq 7, 3) := by decide +kernel
theorem kd_Mo_lookAtInstance_46 : decode kc_Mo_lookAtInstance 46 = .ok (.iconst 1, 1) := by decide +kernel
theorem kd_Mo_lookAtInstance_47 : decode kc_Mo_lookAtInstance 47 = .ok (.goto 4, 3) := by decide +kernel
theorem kd_Mo_lookAtInstance_50 : decode kc_Mo_lookAtInstance 50 = .ok (.iconst 0, 1) := by decide +kernel
theorem kd_Mo_lookAtInstance_51 : decode kc_Mo_lookAtInstance 51 = .ok (.bipush 21, 2) := by decide +kernel
theorem kd_Mo_lookAtInstance_53 : decode kc_Mo_lookAtInstance 53 = .ok (.iload_n 1, 1) := by decide +kernel
theorem kd_Mo_lookAtInstance_54 : decode kc_Mo_lookAtInstance 54 = .ok (.invokevirtual 540, 3) := by decide +kernel
theorem kd_Mo_lookAtInstance_57 : decode kc_Mo_lookAtInstance 57 = .ok (.return_, 1) := by decide +kernel
theorem kd_Mo_lookAtRungs_0 : decode kc_Mo_lookAtRungs 0 = .ok (.aload_n 0, 1) := by decide +kernel
theorem kd_Mo_lookAtRungs_1 : decode kc_Mo_lookAtRungs 1 = .ok (.getfield 22, 3) := by decide +kernel
theorem kd_Mo_lookAtRungs_4 : decode kc_Mo_lookAtRungs 4 = .ok (.iload_n 1, 1) := by decide +kernel
theorem kd_Mo_lookAtRungs_5 : decode kc_Mo_lookAtRungs 5 = .ok (.iaload, 1) := by decide +kernel
theorem kd_Mo_lookAtRungs_6 : decode kc_Mo_lookAtRungs 6 = .ok (.tableswitch 263 23 29 #[42, 263, 139, 263, 263, 168, 234], 42) := by decide +kernel
theorem kd_Mo_lookAtRungs_48 : decode kc_Mo_lookAtRungs 48 = .ok (.iconst 0, 1) := by decide +kernel
theorem kd_Mo_lookAtRungs_49 : decode kc_Mo_lookAtRungs 49 = .ok (.istore_n 2, 1) := by decide +kernel
theorem kd_Mo_lookAtRungs_50 : decode kc_Mo_lookAtRungs 50 = .ok (.iconst 0, 1) := by decide +kernel
theorem kd_Mo_lookAtRungs_51 : decode kc_Mo_lookAtRungs 51 = .ok (.istore_n 3, 1) := by decide +kernel
theorem kd_Mo_lookAtRungs_52 : decode kc_Mo_lookAtRungs 52 = .ok (.aload_n 0, 1) := by decide +kernel
theorem kd_Mo_lookAtRungs_53 : decode kc_Mo_lookAtRungs 53 = .ok (.getfield 34, 3) := by decide +kernel
theorem kd_Mo_lookAtRungs_56 : decode kc_Mo_lookAtRungs 56 = .ok (.iload_n 1, 1) := by decide +kernel
theorem kd_Mo_lookAtRungs_57 : decode kc_Mo_lookAtRungs 57 = .ok (.iaload, 1) := by decide +kernel
theorem kd_Mo_lookAtRungs_58 : decode kc_Mo_lookAtRungs 58 = .ok (.istore 4, 2) := by decide +kernel
theorem kd_Mo_lookAtRungs_60 : decode kc_Mo_lookAtRungs 60 = .ok (.iload 4, 2) := by decide +kernel
theorem kd_Mo_lookAtRungs_62 : decode kc_Mo_lookAtRungs 62 = .ok (.ifCond .lt 58, 3) := by decide +kernel
theorem kd_Mo_lookAtRungs_65 : decode kc_Mo_lookAtRungs 65 = .ok (.iinc 2 1, 3) := by decide +kernel
theorem kd_Mo_lookAtRungs_68 : decode kc_Mo_lookAtRungs 68 = .ok (.iload_n 3, 1) := by decide +kernel
theorem kd_Mo_lookAtRungs_69 : decode kc_Mo_lookAtRungs 69 = .ok (.ifCond .ne 33, 3) := by decide +kernel
theorem kd_Mo_lookAtRungs_72 : decode kc_Mo_lookAtRungs 72 = .ok (.aload_n 0, 1) := by decide +kernel
theorem kd_Mo_lookAtRungs_73 : decode kc_Mo_lookAtRungs 73 = .ok (.iload 4, 2) := by decide +kernel
theorem kd_Mo_lookAtRungs_75 : decode kc_Mo_lookAtRungs 75 = .ok (.invokevirtual 627, 3) := by decide +kernel
theorem kd_Mo_lookAtRungs_78 : decode kc_Mo_lookAtRungs 78 = .ok (.bipush 12, 2) := by decide +kernel
theorem kd_Mo_lookAtRungs_80 : decode kc_Mo_lookAtRungs 80 = .ok (.if_icmp .gt 22, 3) := by decide +kernel
theorem kd_Mo_lookAtRungs_83 : decode kc_Mo_lookAtRungs 83 = .ok (.aload_n 0, 1) := by decide +kernel
theorem kd_Mo_lookAtRungs_84 : decode kc_Mo_lookAtRungs 84 = .ok (.iload 4, 2) := by decide +kernel
theorem kd_Mo_lookAtRungs_86 : decode kc_Mo_lookAtRungs 86 = .ok (.invokevirtual 627, 3) := by decide +kernel
theorem kd_Mo_lookAtRungs_89 : decode kc_Mo_lookAtRungs 89 = .ok (.aload_n 0, 1) := by decide +kernel
theorem kd_Mo_lookAtRungs_90 : decode kc_Mo_lookAtRungs 90 = .ok (.aload_n 0, 1) := by decide +kernel
theorem kd_Mo_lookAtRungs_91 : decode kc_Mo_lookAtRungs 91 = .ok (.getfield 34, 3) := by decide +kernel
theorem kd_Mo_lookAtRungs_94 : decode kc_Mo_lookAtRungs 94 = .ok (.iload_n 1, 1) := by decide +kernel
theorem kd_Mo_lookAtRungs_95 : decode kc_Mo_lookAtRungs 95 = .ok (.iaload, 1) := by decide +kernel
theorem kd_Mo_lookAtRungs_96 : decode kc_Mo_lookAtRungs 96 = .ok (.invokevirtual 627, 3) := by decide +kernel
theorem kd_Mo_lookAtRungs_99 : decode kc_Mo_lookAtRungs 99 = .ok (.if_icmp .eq 7, 3) := by decide +kernel
theorem kd_Mo_lookAtRungs_102 : decode kc_Mo_lookAtRungs 102 = .ok (.iconst 1, 1) := by decide +kernel
theorem kd_Mo_lookAtRungs_103 : decode kc_Mo_lookAtRungs 103 = .ok (.goto 4, 3) := by decide +kernel
theorem kd_Mo_lookAtRungs_106 : decode kc_Mo_lookAtRungs 106 = .ok (.iconst 0, 1) := by decide +kernel
theorem kd_Mo_lookAtRungs_107 : decode kc_Mo_lookAtRungs 107 = .ok (.istore_n 3, 1) := by decide +kernel
theorem kd_Mo_lookAtRungs_108 : decode kc_Mo_lookAtRungs 108 = .ok (.aload_n 0, 1) := by decide +kernel
theorem kd_Mo_lookAtRungs_109 : decode kc_Mo_lookAtRungs 109 = .ok (.getfield 40, 3) := by decide +kernel
theorem kd_Mo_lookAtRungs_112 : decode kc_Mo_lookAtRungs 112 = .ok (.iload 4, 2) := by decide +kernel
theorem kd_Mo_lookAtRungs_114 : decode kc_Mo_lookAtRungs 114 = .ok (.iaload, 1) := by decide +kernel
theorem kd_Mo_lookAtRungs_115 : decode kc_Mo_lookAtRungs 115 = .ok (.istore 4, 2) := by decide +kernel
theorem kd_Mo_lookAtRungs_117 : decode kc_Mo_lookAtRungs 117 = .ok (.goto (-57), 3) := by decide +kernel
theorem kd_Mo_lookAtRungs_120 : decode kc_Mo_lookAtRungs 120 = .ok (.aload_n 0, 1) := by decide +kernel
theorem kd_Mo_lookAtRungs_121 : decode kc_Mo_lookAtRungs 121 = .ok (.iload_n 3, 1) := by decide +kernel
theorem kd_Mo_lookAtRungs_122 : decode kc_Mo_lookAtRungs 122 = .ok (.ifCond .ne 9, 3) := by decide +kernel
theorem kd_Mo_lookAtRungs_125 : decode kc_Mo_lookAtRungs 125 = .ok (.iload_n 2, 1) := by decide +kernel
theorem kd_Mo_lookAtRungs_126 : decode kc_Mo_lookAtRungs 126 = .ok (.bipush 12, 2) := by decide +kernel
theorem kd_Mo_lookAtRungs_128 : decode kc_Mo_lookAtRungs 128 = .ok (.if_icmp .le 7, 3) := by decide +kernel
theorem kd_Mo_lookAtRungs_131 : decode kc_Mo_lookAtRungs 131 = .ok (.iconst 1, 1) := by decide +kernel
theorem kd_Mo_lookAtRungs_132 : decode kc_Mo_lookAtRungs 132 = .ok (.goto 4, 3) := by decide +kernel
theorem kd_Mo_lookAtRungs_135 : decode kc_Mo_lookAtRungs 135 = .ok (.iconst 0, 1) := by decide +kernel
theorem kd_Mo_lookAtRungs_136 : decode kc_Mo_lookAtRungs 136 = .ok (.bipush 38, 2) := by decide +kernel
theorem kd_Mo_lookAtRungs_138 : decode kc_Mo_lookAtRungs 138 = .ok (.iload_n 1, 1) := by decide +kernel
theorem kd_Mo_lookAtRungs_139 : decode kc_Mo_lookAtRungs 139 = .ok (.invokevirtual 540, 3) := by decide +kernel
theorem kd_Mo_lookAtRungs_142 : decode kc_Mo_lookAtRungs 142 = .ok (.goto 127, 3) := by decide +kernel
theorem kd_Mo_lookAtRungs_145 : decode kc_Mo_lookAtRungs 145 = .ok (.aload_n 0, 1) := by decide +kernel
theorem kd_Mo_lookAtRungs_146 : decode kc_Mo_lookAtRungs 146 = .ok (.aload_n 0, 1) := by decide +kernel
theorem kd_Mo_lookAtRungs_147 : decode kc_Mo_lookAtRungs 147 = .ok (.getfield 106, 3) := by decide +kernel
theorem kd_Mo_lookAtRungs_150 : decode kc_Mo_lookAtRungs 150 = .ok (.aload_n 0, 1) := by decide +kernel
theorem kd_Mo_lookAtRungs_151 : decode kc_Mo_lookAtRungs 151 = .ok (.getfield 34, 3) := by decide +kernel
theorem kd_Mo_lookAtRungs_154 : decode kc_Mo_lookAtRungs 154 = .ok (.iload_n 1, 1) := by decide +kernel
theorem kd_Mo_lookAtRungs_155 : decode kc_Mo_lookAtRungs 155 = .ok (.iaload, 1) := by decide +kernel
theorem kd_Mo_lookAtRungs_156 : decode kc_Mo_lookAtRungs 156 = .ok (.iaload, 1) := by decide +kernel
theorem kd_Mo_lookAtRungs_157 : decode kc_Mo_lookAtRungs 157 = .ok (.ifCond .eq 7, 3) := by decide +kernel
theorem kd_Mo_lookAtRungs_160 : decode kc_Mo_lookAtRungs 160 = .ok (.iconst 1, 1) := by decide +kernel
theorem kd_Mo_lookAtRungs_161 : decode kc_Mo_lookAtRungs 161 = .ok (.goto 4, 3) := by decide +kernel
theorem kd_Mo_lookAtRungs_164 : decode kc_Mo_lookAtRungs 164 = .ok (.iconst 0, 1) := by decide +kernel
theorem kd_Mo_lookAtRungs_165 : decode kc_Mo_lookAtRungs 165 = .ok (.bipush 41, 2) := by decide +kernel
theorem kd_Mo_lookAtRungs_167 : decode kc_Mo_lookAtRungs 167 = .ok (.iload_n 1, 1) := by decide +kernel
theorem kd_Mo_lookAtRungs_168 : decode kc_Mo_lookAtRungs 168 = .ok (.invokevirtual 540, 3) := by decide +kernel
theorem kd_Mo_lookAtRungs_171 : decode kc_Mo_lookAtRungs 171 = .ok (.goto 98, 3) := by decide +kernel
theorem kd_Mo_lookAtRungs_174 : decode kc_Mo_lookAtRungs 174 = .ok (.aload_n 0, 1) := by decide +kernel
theorem kd_Mo_lookAtRungs_175 : decode kc_Mo_lookAtRungs 175 = .ok (.aload_n 0, 1) := by decide +kernel
theorem kd_Mo_lookAtRungs_176 : decode kc_Mo_lookAtRungs 176 = .ok (.getfield 40, 3) := by decide +kernel
theorem kd_Mo_lookAtRungs_179 : decode kc_Mo_lookAtRungs 179 = .ok (.iload_n 1, 1) := by decide +kernel
theorem kd_Mo_lookAtRungs_180 : decode kc_Mo_lookAtRungs 180 = .ok (.iaload, 1) := by decide +kernel
theorem kd_Mo_lookAtRungs_181 : decode kc_Mo_lookAtRungs 181 = .ok (.ifCond .lt 7, 3) := by decide +kernel
theorem kd_Mo_lookAtRungs_184 : decode kc_Mo_lookAtRungs 184 = .ok (.iconst 1, 1) := by decide +kernel
theorem kd_Mo_lookAtRungs_185 : decode kc_Mo_lookAtRungs 185 = .ok (.goto 4, 3) := by decide +kernel
theorem kd_Mo_lookAtRungs_188 : decode kc_Mo_lookAtRungs 188 = .ok (.iconst 0, 1) := by decide +kernel
theorem kd_Mo_lookAtRungs_189 : decode kc_Mo_lookAtRungs 189 = .ok (.bipush 39, 2) := by decide +kernel
theorem kd_Mo_lookAtRungs_191 : decode kc_Mo_lookAtRungs 191 = .ok (.iload_n 1, 1) := by decide +kernel
theorem kd_Mo_lookAtRungs_192 : decode kc_Mo_lookAtRungs 192 = .ok (.invokevirtual 540, 3) := by decide +kernel
theorem kd_Mo_lookAtRungs_195 : decode kc_Mo_lookAtRungs 195 = .ok (.aload_n 0, 1) := by decide +kernel
theorem kd_Mo_lookAtRungs_196 : decode kc_Mo_lookAtRungs 196 = .ok (.aload_n 0, 1) := by decide +kernel
theorem kd_Mo_lookAtRungs_197 : decode kc_Mo_lookAtRungs 197 = .ok (.getfield 106, 3) := by decide +kernel
theorem kd_Mo_lookAtRungs_200 : decode kc_Mo_lookAtRungs 200 = .ok (.aload_n 0, 1) := by decide +kernel
theorem kd_Mo_lookAtRungs_201 : decode kc_Mo_lookAtRungs 201 = .ok (.getfield 34, 3) := by decide +kernel
theorem kd_Mo_lookAtRungs_204 : decode kc_Mo_lookAtRungs 204 = .ok (.iload_n 1, 1) := by decide +kernel
theorem kd_Mo_lookAtRungs_205 : decode kc_Mo_lookAtRungs 205 = .ok (.iaload, 1) := by decide +kernel
theorem kd_Mo_lookAtRungs_206 : decode kc_Mo_lookAtRungs 206 = .ok (.iaload, 1) := by decide +kernel
theorem kd_Mo_lookAtRungs_207 : decode kc_Mo_lookAtRungs 207 = .ok (.ifCond .eq 7, 3) := by decide +kernel
theorem kd_Mo_lookAtRungs_210 : decode kc_Mo_lookAtRungs 210 = .ok (.iconst 1, 1) := by decide +kernel
theorem kd_Mo_lookAtRungs_211 : decode kc_Mo_lookAtRungs 211 = .ok (.goto 4, 3) := by decide +kernel
theorem kd_Mo_lookAtRungs_214 : decode kc_Mo_lookAtRungs 214 = .ok (.iconst 0, 1) := by decide +kernel
theorem kd_Mo_lookAtRungs_215 : decode kc_Mo_lookAtRungs 215 = .ok (.bipush 41, 2) := by decide +kernel
theorem kd_Mo_lookAtRungs_217 : decode kc_Mo_lookAtRungs 217 = .ok (.iload_n 1, 1) := by decide +kernel
theorem kd_Mo_lookAtRungs_218 : decode kc_Mo_lookAtRungs 218 = .ok (.invokevirtual 540, 3) := by decide +kernel
theorem kd_Mo_lookAtRungs_221 : decode kc_Mo_lookAtRungs 221 = .ok (.aload_n 0, 1) := by decide +kernel
theorem kd_Mo_lookAtRungs_222 : decode kc_Mo_lookAtRungs 222 = .ok (.aload_n 0, 1) := by decide +kernel
theorem kd_Mo_lookAtRungs_223 : decode kc_Mo_lookAtRungs 223 = .ok (.getfield 28, 3) := by decide +kernel
theorem kd_Mo_lookAtRungs_226 : decode kc_Mo_lookAtRungs 226 = .ok (.aload_n 0, 1) := by decide +kernel
theorem kd_Mo_lookAtRungs_227 : decode kc_Mo_lookAtRungs 227 = .ok (.getfield 34, 3) := by decide +kernel
theorem kd_Mo_lookAtRungs_230 : decode kc_Mo_lookAtRungs 230 = .ok (.iload_n 1, 1) := by decide +kernel
theorem kd_Mo_lookAtRungs_231 : decode kc_Mo_lookAtRungs 231 = .ok (.iaload, 1) := by decide +kernel
theorem kd_Mo_lookAtRungs_232 : decode kc_Mo_lookAtRungs 232 = .ok (.iaload, 1) := by decide +kernel
theorem kd_Mo_lookAtRungs_233 : decode kc_Mo_lookAtRungs 233 = .ok (.iload_n 1, 1) := by decide +kernel
theorem kd_Mo_lookAtRungs_234 : decode kc_Mo_lookAtRungs 234 = .ok (.invokevirtual 597, 3) := by decide +kernel
theorem kd_Mo_lookAtRungs_237 : decode kc_Mo_lookAtRungs 237 = .ok (.goto 32, 3) := by decide +kernel
theorem kd_Mo_lookAtRungs_240 : decode kc_Mo_lookAtRungs 240 = .ok (.aload_n 0, 1) := by decide +kernel
theorem kd_Mo_lookAtRungs_241 : decode kc_Mo_lookAtRungs 241 = .ok (.aload_n 0, 1) := by decide +kernel
theorem kd_Mo_lookAtRungs_242 : decode kc_Mo_lookAtRungs 242 = .ok (.getfield 40, 3) := by decide +kernel
theorem kd_Mo_lookAtRungs_245 : decode kc_Mo_lookAtRungs 245 = .ok (.aload_n 0, 1) := by decide +kernel
theorem kd_Mo_lookAtRungs_246 : decode kc_Mo_lookAtRungs 246 = .ok (.getfield 31, 3) := by decide +kernel
theorem kd_Mo_lookAtRungs_249 : decode kc_Mo_lookAtRungs 249 = .ok (.iload_n 1, 1) := by decide +kernel
theorem kd_Mo_lookAtRungs_250 : decode kc_Mo_lookAtRungs 250 = .ok (.iaload, 1) := by decide +kernel
theorem kd_Mo_lookAtRungs_251 : decode kc_Mo_lookAtRungs 251 = .ok (.iaload, 1) := by decide +kernel
theorem kd_Mo_lookAtRungs_252 : decode kc_Mo_lookAtRungs 252 = .ok (.ifCond .ge 7, 3) := by decide +kernel
theorem kd_Mo_lookAtRungs_255 : decode kc_Mo_lookAtRungs 255 = .ok (.iconst 1, 1) := by decide +kernel
theorem kd_Mo_lookAtRungs_256 : decode kc_Mo_lookAtRungs 256 = .ok (.goto 4, 3) := by decide +kernel
theorem kd_Mo_lookAtRungs_259 : decode kc_Mo_lookAtRungs 259 = .ok (.iconst 0, 1) := by decide +kernel
theorem kd_Mo_lookAtRungs_260 : decode kc_Mo_lookAtRungs 260 = .ok (.bipush 40, 2) := by decide +kernel
theorem kd_Mo_lookAtRungs_262 : decode kc_Mo_lookAtRungs 262 = .ok (.iload_n 1, 1) := by decide +kernel
theorem kd_Mo_lookAtRungs_263 : decode kc_Mo_lookAtRungs 263 = .ok (.invokevirtual 540, 3) := by decide +kernel
theorem kd_Mo_lookAtRungs_266 : decode kc_Mo_lookAtRungs 266 = .ok (.goto 3, 3) := by decide +kernel
theorem kd_Mo_lookAtRungs_269 : decode kc_Mo_lookAtRungs 269 = .ok (.return_, 1) := by decide +kernel
theorem kd_Mo_lookAtTwo_0 : decode kc_Mo_lookAtTwo 0 = .ok (.aload_n 0, 1) := by decide +kernel
theorem kd_Mo_lookAtTwo_1 : decode kc_Mo_lookAtTwo 1 = .ok (.getfield 106, 3) := by decide +kernel
theorem kd_Mo_lookAtTwo_4 : decode kc_Mo_lookAtTwo 4 = .ok (.aload_n 0, 1) := by decide +kernel
theorem kd_Mo_lookAtTwo_5 : decode kc_Mo_lookAtTwo 5 = .ok (.getfield 34, 3) := by decide +kernel
theorem kd_Mo_lookAtTwo_8 : decode kc_Mo_lookAtTwo 8 = .ok (.iload_n 1, 1) := by decide +kernel
theorem kd_Mo_lookAtTwo_9 : decode kc_Mo_lookAtTwo 9 = .ok (.iaload, 1) := by decide +kernel
theorem kd_Mo_lookAtTwo_10 : decode kc_Mo_lookAtTwo 10 = .ok (.iaload, 1) := by decide +kernel
theorem kd_Mo_lookAtTwo_11 : decode kc_Mo_lookAtTwo 11 = .ok (.istore_n 2, 1) := by decide +kernel
theorem kd_Mo_lookAtTwo_12 : decode kc_Mo_lookAtTwo 12 = .ok (.aload_n 0, 1) := by decide +kernel
theorem kd_Mo_lookAtTwo_13 : decode kc_Mo_lookAtTwo 13 = .ok (.getfield 106, 3) := by decide +kernel
theorem kd_Mo_lookAtTwo_16 : decode kc_Mo_lookAtTwo 16 = .ok (.aload_n 0, 1) := by decide +kernel
theorem kd_Mo_lookAtTwo_17 : decode kc_Mo_lookAtTwo 17 = .ok (.getfield 37, 3) := by decide +kernel
theorem kd_Mo_lookAtTwo_20 : decode kc_Mo_lookAtTwo 20 = .ok (.iload_n 1, 1) := by decide +kernel
theorem kd_Mo_lookAtTwo_21 : decode kc_Mo_lookAtTwo 21 = .ok (.iaload, 1) := by decide +kernel
theorem kd_Mo_lookAtTwo_22 : decode kc_Mo_lookAtTwo 22 = .ok (.iaload, 1) := by decide +kernel
theorem kd_Mo_lookAtTwo_23 : decode kc_Mo_lookAtTwo 23 = .ok (.istore_n 3, 1) := by decide +kernel
theorem kd_Mo_lookAtTwo_24 : decode kc_Mo_lookAtTwo 24 = .ok (.aload_n 0, 1) := by decide +kernel
theorem kd_Mo_lookAtTwo_25 : decode kc_Mo_lookAtTwo 25 = .ok (.getfield 28, 3) := by decide +kernel
theorem kd_Mo_lookAtTwo_28 : decode kc_Mo_lookAtTwo 28 = .ok (.iload_n 1, 1) := by decide +kernel
theorem kd_Mo_lookAtTwo_29 : decode kc_Mo_lookAtTwo 29 = .ok (.iaload, 1) := by decide +kernel
theorem kd_Mo_lookAtTwo_30 : decode kc_Mo_lookAtTwo 30 = .ok (.istore 4, 2) := by decide +kernel
theorem kd_Mo_lookAtTwo_32 : decode kc_Mo_lookAtTwo 32 = .ok (.iload_n 2, 1) := by decide +kernel
theorem kd_Mo_lookAtTwo_33 : decode kc_Mo_lookAtTwo 33 = .ok (.invokestatic 609, 3) := by decide +kernel
theorem kd_Mo_lookAtTwo_36 : decode kc_Mo_lookAtTwo 36 = .ok (.ifCond .eq 14, 3) := by decide +kernel
theorem kd_Mo_lookAtTwo_39 : decode kc_Mo_lookAtTwo 39 = .ok (.iload_n 3, 1) := by decide +kernel
theorem kd_Mo_lookAtTwo_40 : decode kc_Mo_lookAtTwo 40 = .ok (.invokestatic 609, 3) := by decide +kernel
theorem kd_Mo_lookAtTwo_43 : decode kc_Mo_lookAtTwo 43 = .ok (.ifCond .eq 7, 3) := by decide +kernel
theorem kd_Mo_lookAtTwo_46 : decode kc_Mo_lookAtTwo 46 = .ok (.iconst 1, 1) := by decide +kernel
theorem kd_Mo_lookAtTwo_47 : decode kc_Mo_lookAtTwo 47 = .ok (.goto 4, 3) := by decide +kernel
theorem kd_Mo_lookAtTwo_50 : decode kc_Mo_lookAtTwo 50 = .ok (.iconst 0, 1) := by decide +kernel
theorem kd_Mo_lookAtTwo_51 : decode kc_Mo_lookAtTwo 51 = .ok (.istore 5, 2) := by decide +kernel
theorem kd_Mo_lookAtTwo_53 : decode kc_Mo_lookAtTwo 53 = .ok (.iload_n 2, 1) := by decide +kernel
theorem kd_Mo_lookAtTwo_54 : decode kc_Mo_lookAtTwo 54 = .ok (.ifCond .ne 11, 3) := by decide +kernel
theorem kd_Mo_lookAtTwo_57 : decode kc_Mo_lookAtTwo 57 = .ok (.iload_n 3, 1) := by decide +kernel
theorem kd_Mo_lookAtTwo_58 : decode kc_Mo_lookAtTwo 58 = .ok (.ifCond .ne 7, 3) := by decide +kernel
theorem kd_Mo_lookAtTwo_61 : decode kc_Mo_lookAtTwo 61 = .ok (.iconst 1, 1) := by decide +kernel
theorem kd_Mo_lookAtTwo_62 : decode kc_Mo_lookAtTwo 62 = .ok (.goto 4, 3) := by decide +kernel
theorem kd_Mo_lookAtTwo_65 : decode kc_Mo_lookAtTwo 65 = .ok (.iconst 0, 1) := by decide +kernel
theorem kd_Mo_lookAtTwo_66 : decode kc_Mo_lookAtTwo 66 = .ok (.istore 6, 2) := by decide +kernel
theorem kd_Mo_lookAtTwo_68 : decode kc_Mo_lookAtTwo 68 = .ok (.aload_n 0, 1) := by decide +kernel
theorem kd_Mo_lookAtTwo_69 : decode kc_Mo_lookAtTwo 69 = .ok (.iload 5, 2) := by decide +kernel
theorem kd_Mo_lookAtTwo_71 : decode kc_Mo_lookAtTwo 71 = .ok (.ifCond .ne 18, 3) := by decide +kernel
theorem kd_Mo_lookAtTwo_74 : decode kc_Mo_lookAtTwo 74 = .ok (.iload 6, 2) := by decide +kernel
theorem kd_Mo_lookAtTwo_76 : decode kc_Mo_lookAtTwo 76 = .ok (.ifCond .eq 9, 3) := by decide +kernel
theorem kd_Mo_lookAtTwo_79 : decode kc_Mo_lookAtTwo 79 = .ok (.iload 4, 2) := by decide +kernel
theorem kd_Mo_lookAtTwo_81 : decode kc_Mo_lookAtTwo 81 = .ok (.iconst 4, 1) := by decide +kernel
theorem kd_Mo_lookAtTwo_82 : decode kc_Mo_lookAtTwo 82 = .ok (.if_icmp .le 7, 3) := by decide +kernel
theorem kd_Mo_lookAtTwo_85 : decode kc_Mo_lookAtTwo 85 = .ok (.iconst 1, 1) := by decide +kernel
theorem kd_Mo_lookAtTwo_86 : decode kc_Mo_lookAtTwo 86 = .ok (.goto 4, 3) := by decide +kernel
theorem kd_Mo_lookAtTwo_89 : decode kc_Mo_lookAtTwo 89 = .ok (.iconst 0, 1) := by decide +kernel
theorem kd_Mo_lookAtTwo_90 : decode kc_Mo_lookAtTwo 90 = .ok (.bipush 27, 2) := by decide +kernel
theorem kd_Mo_lookAtTwo_92 : decode kc_Mo_lookAtTwo 92 = .ok (.iload_n 1, 1) := by decide +kernel
theorem kd_Mo_lookAtTwo_93 : decode kc_Mo_lookAtTwo 93 = .ok (.invokevirtual 540, 3) := by decide +kernel
theorem kd_Mo_lookAtTwo_96 : decode kc_Mo_lookAtTwo 96 = .ok (.aload_n 0, 1) := by decide +kernel
theorem kd_Mo_lookAtTwo_97 : decode kc_Mo_lookAtTwo 97 = .ok (.getfield 106, 3) := by decide +kernel
theorem kd_Mo_lookAtTwo_100 : decode kc_Mo_lookAtTwo 100 = .ok (.iload_n 1, 1) := by decide +kernel
theorem kd_Mo_lookAtTwo_101 : decode kc_Mo_lookAtTwo 101 = .ok (.iload 4, 2) := by decide +kernel
theorem kd_Mo_lookAtTwo_103 : decode kc_Mo_lookAtTwo 103 = .ok (.iconst 2, 1) := by decide +kernel
theorem kd_Mo_lookAtTwo_104 : decode kc_Mo_lookAtTwo 104 = .ok (.if_icmp .le 14, 3) := by decide +kernel
theorem kd_Mo_lookAtTwo_107 : decode kc_Mo_lookAtTwo 107 = .ok (.iload 4, 2) := by decide +kernel
theorem kd_Mo_lookAtTwo_109 : decode kc_Mo_lookAtTwo 109 = .ok (.bipush 9, 2) := by decide +kernel
theorem kd_Mo_lookAtTwo_111 : decode kc_Mo_lookAtTwo 111 = .ok (.if_icmp .ge 7, 3) := by decide +kernel
theorem kd_Mo_lookAtTwo_114 : decode kc_Mo_lookAtTwo 114 = .ok (.iconst 0, 1) := by decide +kernel
theorem kd_Mo_lookAtTwo_115 : decode kc_Mo_lookAtTwo 115 = .ok (.goto 17, 3) := by decide +kernel
theorem kd_Mo_lookAtTwo_118 : decode kc_Mo_lookAtTwo 118 = .ok (.iload 6, 2) := by decide +kernel
theorem kd_Mo_lookAtTwo_120 : decode kc_Mo_lookAtTwo 120 = .ok (.ifCond .eq 7, 3) := by decide +kernel
theorem kd_Mo_lookAtTwo_123 : decode kc_Mo_lookAtTwo 123 = .ok (.iconst 0, 1) := by decide +kernel
theorem kd_Mo_lookAtTwo_124 : decode kc_Mo_lookAtTwo 124 = .ok (.goto 8, 3) := by decide +kernel
theorem kd_Mo_lookAtTwo_127 : decode kc_Mo_lookAtTwo 127 = .ok (.iload_n 2, 1) := by decide +kernel
theorem kd_Mo_lookAtTwo_128 : decode kc_Mo_lookAtTwo 128 = .ok (.iload_n 3, 1) := by decide +kernel
theorem kd_Mo_lookAtTwo_129 : decode kc_Mo_lookAtTwo 129 = .ok (.invokestatic 642, 3) := by decide +kernel
theorem kd_Mo_lookAtTwo_132 : decode kc_Mo_lookAtTwo 132 = .ok (.iastore, 1) := by decide +kernel
theorem kd_Mo_lookAtTwo_133 : decode kc_Mo_lookAtTwo 133 = .ok (.return_, 1) := by decide +kernel
theorem kd_Mo_wider_0 : decode kc_Mo_wider 0 = .ok (.iload_n 0, 1) := by decide +kernel
theorem kd_Mo_wider_1 : decode kc_Mo_wider 1 = .ok (.iload_n 1, 1) := by decide +kernel
theorem kd_Mo_wider_2 : decode kc_Mo_wider 2 = .ok (.if_icmp .le 7, 3) := by decide +kernel
theorem kd_Mo_wider_5 : decode kc_Mo_wider 5 = .ok (.iload_n 0, 1) := by decide +kernel
theorem kd_Mo_wider_6 : decode kc_Mo_wider 6 = .ok (.goto 4, 3) := by decide +kernel
theorem kd_Mo_wider_9 : decode kc_Mo_wider 9 = .ok (.iload_n 1, 1) := by decide +kernel
theorem kd_Mo_wider_10 : decode kc_Mo_wider 10 = .ok (.ireturn, 1) := by decide +kernel
set_option maxHeartbeats 4000000 in
set_option maxRecDepth 100000 in
theorem zb_Mo_lookAtInstance_51 {X : zkj_T} {S : zs_T} {P : ze_T} {l : Launch} {D : va_G} {sz0 : Nat} {rh : zs_H} (C : zk_C X km_Mo_lookAtInstance (zs_G S l D sz0) { frames := 2, cells := 0, slots := 0, locals := 45 } (ze_E P)) (hR : zkj_R X (zd_PV S rh) (none)) (h : zs_H) (x1 : Int32) (y0 : Int32) (e : f_Mo_lookAtInstance_51 h x1 y0 = some rh) : zk_Ab X (zs_W S h) 0 0 51 [(1, .int x1)] [.int y0, .ref (S.1 68)] := by
  unfold f_Mo_lookAtInstance_51 at e
  refine zk_bipush (v := 21) C kd_Mo_lookAtInstance_51 (by decide) rfl ?_
  refine zk_iload_n C kd_Mo_lookAtInstance_53 rfl 0 rfl rfl ?_
  obtain ⟨h2, c1, e⟩ := zd_b e
  refine zs_callV (k := 68) (rn := { frames := 1, cells := 0, slots := 0, locals := 22 }) (As := [.int y0, .int 21, .int x1]) (rest := []) C (zc_Mo_rule h y0 21 x1 c1) ku_Mo_rule kw2260 kv_Mo_rule rfl ⟨by decide, by decide⟩ ⟨by decide, by decide⟩ rfl rfl rfl (Nat.le_of_ble_eq_true rfl) kd_Mo_lookAtInstance_54 rfl (c1 := 0) (s1 := 0) rfl rfl (fun v w hp => ?_)
  obtain ⟨rfl, rfl⟩ := hp
  refine zk_stk (r' := []) rfl ?_
  exact zk_vret C hR kd_Mo_lookAtInstance_57 rfl rfl (zd_rV e)
set_option maxHeartbeats 4000000 in
set_option maxRecDepth 100000 in
theorem zb_Mo_lookAtInstance_50 {X : zkj_T} {S : zs_T} {P : ze_T} {l : Launch} {D : va_G} {sz0 : Nat} {rh : zs_H} (C : zk_C X km_Mo_lookAtInstance (zs_G S l D sz0) { frames := 2, cells := 0, slots := 0, locals := 45 } (ze_E P)) (hR : zkj_R X (zd_PV S rh) (none)) (h : zs_H) (x1 : Int32) (e : f_Mo_lookAtInstance_50 h x1 = some rh) : zk_Ab X (zs_W S h) 0 0 50 [(1, .int x1)] [.ref (S.1 68)] := by
  unfold f_Mo_lookAtInstance_50 at e
  refine zk_iconst (v := 0) C kd_Mo_lookAtInstance_50 (by decide) rfl ?_
  refine zk_lvs (lv' := [(1, .int x1)]) [0] rfl ?_
  exact zb_Mo_lookAtInstance_51 C hR h x1 0 e
set_option maxHeartbeats 4000000 in
set_option maxRecDepth 100000 in
theorem zb_Mo_lookAtInstance_25 {X : zkj_T} {S : zs_T} {P : ze_T} {l : Launch} {D : va_G} {sz0 : Nat} {rh : zs_H} (C : zk_C X km_Mo_lookAtInstance (zs_G S l D sz0) { frames := 2, cells := 0, slots := 0, locals := 45 } (ze_E P)) (hR : zkj_R X (zd_PV S rh) (none)) (h : zs_H) (x1 : Int32) (x2 : Int32) (y0 : Int32) (e : f_Mo_lookAtInstance_25 h x1 x2 y0 = some rh) : zk_Ab X (zs_W S h) 0 0 25 [(0, .ref (S.1 68)), (1, .int x1), (2, .int x2)] [.int y0, .ref (S.1 68)] := by
  unfold f_Mo_lookAtInstance_25 at e
  refine zk_bipush (v := 20) C kd_Mo_lookAtInstance_25 (by decide) rfl ?_
  refine zk_iload_n C kd_Mo_lookAtInstance_27 rfl 1 rfl rfl ?_
  obtain ⟨h2, c1, e⟩ := zd_b e
  refine zs_callV (k := 68) (rn := { frames := 1, cells := 0, slots := 0, locals := 22 }) (As := [.int y0, .int 20, .int x1]) (rest := []) C (zc_Mo_rule h y0 20 x1 c1) ku_Mo_rule kw2260 kv_Mo_rule rfl ⟨by decide, by decide⟩ ⟨by decide, by decide⟩ rfl rfl rfl (Nat.le_of_ble_eq_true rfl) kd_Mo_lookAtInstance_28 rfl (c1 := 0) (s1 := 0) rfl rfl (fun v w hp => ?_)
  obtain ⟨rfl, rfl⟩ := hp
  refine zk_stk (r' := []) rfl ?_
  refine zk_aload_n C kd_Mo_lookAtInstance_31 rfl 0 rfl rfl ?_
  refine zk_iload_n C kd_Mo_lookAtInstance_32 rfl 2 rfl rfl ?_
  refine zk_if_lt (tgt := 50) C kd_Mo_lookAtInstance_33 (by decide) rfl (fun b3 => ?_) (fun b3 => ?_)
  · replace e := zd_pos b3 e
    refine zk_lvs (lv' := [(1, .int x1)]) [1] rfl ?_
    exact zb_Mo_lookAtInstance_50 C hR h2 x1 e
  · replace e := zd_neg b3 e
    refine zk_aload_n C kd_Mo_lookAtInstance_36 rfl 0 rfl rfl ?_
    refine zs_get (v := .ref (S.1 92)) C 68 43 rfl rfl rfl rfl ki_Mo (by decide) kw1726 kd_Mo_lookAtInstance_37 rfl ?_
    refine zk_iload_n C kd_Mo_lookAtInstance_40 rfl 2 rfl rfl ?_
    obtain ⟨q4, e⟩ := zd_g e
    refine zs_iald C 92 rfl (zd_vp q4) kd_Mo_lookAtInstance_41 rfl ?_
    refine zk_iconst (v := 2) C kd_Mo_lookAtInstance_42 (by decide) rfl ?_
    refine zk_icmp_eq (tgt := 50) C kd_Mo_lookAtInstance_43 (by decide) rfl (fun b5 => ?_) (fun b5 => ?_)
    · replace e := zd_pos b5 e
      refine zk_lvs (lv' := [(1, .int x1)]) [1] rfl ?_
      exact zb_Mo_lookAtInstance_50 C hR h2 x1 e
    · replace e := zd_neg b5 e
      refine zk_iconst (v := 1) C kd_Mo_lookAtInstance_46 (by decide) rfl ?_
      refine zk_goto (tgt := 51) C kd_Mo_lookAtInstance_47 (by decide) ?_
      refine zk_lvs (lv' := [(1, .int x1)]) [1] rfl ?_
      exact zb_Mo_lookAtInstance_51 C hR h2 x1 1 e
set_option maxHeartbeats 4000000 in
set_option maxRecDepth 100000 in
theorem zc_Mo_lookAtInstance {l : Launch} {D : va_G} {sz0 : Nat} {S : zs_T} {P : ze_T} (h : zs_H) (x1 : Int32) {rh : zs_H} (e : f_Mo_lookAtInstance h x1 = some rh) : zk_Sp (zs_G S l D sz0) (ze_E P) km_Mo_lookAtInstance { frames := 2, cells := 0, slots := 0, locals := 45 } [.ref (S.1 68), .int x1] (zs_W S h) (zd_PV S rh) := by
  refine zk_met ku_Mo_lookAtInstance (Nat.le_of_ble_eq_true rfl) (ze_Em P) ?_
  intro X C hR
  refine zk_lvs (lv' := [(0, .ref (S.1 68)), (1, .int x1)]) [0, 1] rfl ?_
  unfold f_Mo_lookAtInstance at e
  refine zk_aload_n C kd_Mo_lookAtInstance_0 rfl 0 rfl rfl ?_
  refine zk_aload_n C kd_Mo_lookAtInstance_1 rfl 0 rfl rfl ?_
  refine zs_get (v := .int (h.1 68 54)) C 68 54 rfl rfl rfl rfl ki_Mo (by decide) kw1737 kd_Mo_lookAtInstance_2 rfl ?_
  refine zk_aload_n C kd_Mo_lookAtInstance_5 rfl 0 rfl rfl ?_
  refine zs_get (v := .ref (S.1 74)) C 68 17 rfl rfl rfl rfl ki_Mo (by decide) kw1700 kd_Mo_lookAtInstance_6 rfl ?_
  refine zk_iload_n C kd_Mo_lookAtInstance_9 rfl 1 rfl rfl ?_
  obtain ⟨q1, e⟩ := zd_g e
  refine zs_iald C 74 rfl (zd_vp q1) kd_Mo_lookAtInstance_10 rfl ?_
  obtain ⟨v3, c2, e⟩ := zd_b e
  refine zs_callV (k := 68) (rn := { frames := 0, cells := 0, slots := 0, locals := 0 }) (As := [.int (h.1 68 54), .int (h.2.1 74 x1.toNatClampNeg)]) (rest := []) C (zc_Mo_variable h (h.1 68 54) (h.2.1 74 x1.toNatClampNeg) c2) ku_Mo_variable kw2327 kv_Mo_variable rfl ⟨by decide, by decide⟩ ⟨by decide, by decide⟩ rfl rfl rfl (Nat.le_of_ble_eq_true rfl) kd_Mo_lookAtInstance_11 rfl (c1 := 0) (s1 := 0) rfl rfl (fun v w hp => ?_)
  obtain ⟨rfl, rfl⟩ := hp
  refine zk_stk (r' := [.int v3]) rfl ?_
  refine zk_istore_n (lv' := [(2, _), (0, _), (1, _)]) C kd_Mo_lookAtInstance_14 rfl (by decide) rfl rfl ?_
  refine zk_aload_n C kd_Mo_lookAtInstance_15 rfl 1 rfl rfl ?_
  refine zk_iload_n C kd_Mo_lookAtInstance_16 rfl 0 rfl rfl ?_
  refine zk_if_ge (tgt := 24) C kd_Mo_lookAtInstance_17 (by decide) rfl (fun b4 => ?_) (fun b4 => ?_)
  · replace e := zd_pos b4 e
    refine zk_iconst (v := 0) C kd_Mo_lookAtInstance_24 (by decide) rfl ?_
    refine zk_lvs (lv' := [(0, .ref (S.1 68)), (1, .int x1), (2, .int v3)]) [1, 2, 0] rfl ?_
    exact zb_Mo_lookAtInstance_25 C hR h x1 v3 0 e
  · replace e := zd_neg b4 e
    refine zk_iconst (v := 1) C kd_Mo_lookAtInstance_20 (by decide) rfl ?_
    refine zk_goto (tgt := 25) C kd_Mo_lookAtInstance_21 (by decide) ?_
    refine zk_lvs (lv' := [(0, .ref (S.1 68)), (1, .int x1), (2, .int v3)]) [1, 2, 0] rfl ?_
    exact zb_Mo_lookAtInstance_25 C hR h x1 v3 1 e
set_option maxHeartbeats 4000000 in
set_option maxRecDepth 100000 in
theorem zb_Mo_cellsIn_30 {X : zkj_T} {S : zs_T} {P : ze_T} {l : Launch} {D : va_G} {sz0 : Nat} {rv : Int32} {h : zs_H} (C : zk_C X km_Mo_cellsIn (zs_G S l D sz0) { frames := 0, cells := 0, slots := 0, locals := 0 } (ze_E P)) (hR : zkj_R X (zd_PI S rv h) (some .int)) {k9 : Int32 → Int32 → (Option Int32)} (hk9 : ∀ (x2 : Int32) (x3 : Int32), k9 x2 x3 = some rv → zk_Ab X (zs_W S h) 0 0 9 [(0, .ref (S.1 68)), (2, .int x2), (3, .int x3)] []) (x3 : Int32) (y0 : Int32) (y1 : Int32) (e : f_Mo_cellsIn_30 h k9 x3 y0 y1 = some rv) : zk_Ab X (zs_W S h) 0 0 30 [(0, .ref (S.1 68)), (3, .int x3)] [.int y0, .int y1] := by
  unfold f_Mo_cellsIn_30 at e
  refine zk_iadd C kd_Mo_cellsIn_30 rfl ?_
  refine zk_istore_n (lv' := [(2, _), (0, _), (3, _)]) C kd_Mo_cellsIn_31 rfl (by decide) rfl rfl ?_
  refine zk_aload_n C kd_Mo_cellsIn_32 rfl 1 rfl rfl ?_
  refine zs_get (v := .ref (S.1 78)) C 68 21 rfl rfl rfl rfl ki_Mo (by decide) kw1704 kd_Mo_cellsIn_33 rfl ?_
  refine zk_iload_n C kd_Mo_cellsIn_36 rfl 2 rfl rfl ?_
  obtain ⟨q1, e⟩ := zd_g e
  refine zs_iald C 78 rfl (zd_vp q1) kd_Mo_cellsIn_37 rfl ?_
  refine zk_istore_n (lv' := [(3, _), (2, _), (0, _)]) C kd_Mo_cellsIn_38 rfl (by decide) rfl rfl ?_
  refine zk_goto (tgt := 9) C kd_Mo_cellsIn_39 (by decide) ?_
  refine zk_lvs (lv' := [(0, .ref (S.1 68)), (2, .int (y1 + y0)), (3, .int (h.2.1 78 x3.toNatClampNeg))]) [2, 1, 0] rfl ?_
  exact hk9 (y1 + y0) (h.2.1 78 x3.toNatClampNeg) e
set_option maxHeartbeats 4000000 in
set_option maxRecDepth 100000 in
theorem zb_Mo_cellsIn_9 {X : zkj_T} {S : zs_T} {P : ze_T} {l : Launch} {D : va_G} {sz0 : Nat} {rv : Int32} {h : zs_H} (C : zk_C X km_Mo_cellsIn (zs_G S l D sz0) { frames := 0, cells := 0, slots := 0, locals := 0 } (ze_E P)) (hR : zkj_R X (zd_PI S rv h) (some .int)) {k9 : Int32 → Int32 → (Option Int32)} (hk9 : ∀ (x2 : Int32) (x3 : Int32), k9 x2 x3 = some rv → zk_Ab X (zs_W S h) 0 0 9 [(0, .ref (S.1 68)), (2, .int x2), (3, .int x3)] []) (x2 : Int32) (x3 : Int32) (e : f_Mo_cellsIn_9 h k9 x2 x3 = some rv) : zk_Ab X (zs_W S h) 0 0 9 [(0, .ref (S.1 68)), (2, .int x2), (3, .int x3)] [] := by
  unfold f_Mo_cellsIn_9 at e
  refine zk_iload_n C kd_Mo_cellsIn_9 rfl 2 rfl rfl ?_
  refine zk_if_lt (tgt := 42) C kd_Mo_cellsIn_10 (by decide) rfl (fun b1 => ?_) (fun b1 => ?_)
  · replace e := zd_pos b1 e
    refine zk_iload_n C kd_Mo_cellsIn_42 rfl 1 rfl rfl ?_
    exact zk_iret C hR kd_Mo_cellsIn_43 rfl rfl (zd_rIO e)
  · replace e := zd_neg b1 e
    refine zk_iload_n C kd_Mo_cellsIn_13 rfl 1 rfl rfl ?_
    refine zk_aload_n C kd_Mo_cellsIn_14 rfl 0 rfl rfl ?_
    refine zs_get (v := .ref (S.1 72)) C 68 15 rfl rfl rfl rfl ki_Mo (by decide) kw1698 kd_Mo_cellsIn_15 rfl ?_
    refine zk_iload_n C kd_Mo_cellsIn_18 rfl 2 rfl rfl ?_
    obtain ⟨q2, e⟩ := zd_g e
    refine zs_iald C 72 rfl (zd_vp q2) kd_Mo_cellsIn_19 rfl ?_
    refine zk_bipush (v := 29) C kd_Mo_cellsIn_20 (by decide) rfl ?_
    refine zk_icmp_ne (tgt := 29) C kd_Mo_cellsIn_22 (by decide) rfl (fun b3 => ?_) (fun b3 => ?_)
    · replace e := zd_neg b3 e
      refine zk_iconst (v := 1) C kd_Mo_cellsIn_29 (by decide) rfl ?_
      refine zk_lvs (lv' := [(0, .ref (S.1 68)), (3, .int x3)]) [0, 2] rfl ?_
      exact zb_Mo_cellsIn_30 C hR hk9 x3 1 x2 e
    · replace e := zd_pos b3 e
      refine zk_iconst (v := 0) C kd_Mo_cellsIn_25 (by decide) rfl ?_
      refine zk_goto (tgt := 30) C kd_Mo_cellsIn_26 (by decide) ?_
      refine zk_lvs (lv' := [(0, .ref (S.1 68)), (3, .int x3)]) [0, 2] rfl ?_
      exact zb_Mo_cellsIn_30 C hR hk9 x3 0 x2 e
theorem zl_Mo_cellsIn_9 {X : zkj_T} {S : zs_T} {P : ze_T} {l : Launch} {D : va_G} {sz0 : Nat} {rv : Int32} {h : zs_H} (C : zk_C X km_Mo_cellsIn (zs_G S l D sz0) { frames := 0, cells := 0, slots := 0, locals := 0 } (ze_E P)) (hR : zkj_R X (zd_PI S rv h) (some .int)) (n : Nat) : ∀ (x2 : Int32) (x3 : Int32), f_Mo_cellsIn_L9 h n x2 x3 = some rv → zk_Ab X (zs_W S h) 0 0 9 [(0, .ref (S.1 68)), (2, .int x2), (3, .int x3)] [] := by
  induction n with
  | zero => intro x2 x3 e; exact zd_no e
  | succ n ih => intro x2 x3 e; exact zb_Mo_cellsIn_9 (k9 := f_Mo_cellsIn_L9 h n) C hR ih x2 x3 e
set_option maxHeartbeats 4000000 in
set_option maxRecDepth 100000 in
theorem zc_Mo_cellsIn {l : Launch} {D : va_G} {sz0 : Nat} {S : zs_T} {P : ze_T} (h : zs_H) (x1 : Int32) {rv : Int32} (e : f_Mo_cellsIn h x1 = some rv) : zk_Sp (zs_G S l D sz0) (ze_E P) km_Mo_cellsIn { frames := 0, cells := 0, slots := 0, locals := 0 } [.ref (S.1 68), .int x1] (zs_W S h) (zd_PI S rv h) := by
  refine zk_met ku_Mo_cellsIn (Nat.le_of_ble_eq_true rfl) (ze_Em P) ?_
  intro X C hR
  refine zk_lvs (lv' := [(0, .ref (S.1 68)), (1, .int x1)]) [0, 1] rfl ?_
  unfold f_Mo_cellsIn at e
  refine zk_iconst (v := 0) C kd_Mo_cellsIn_0 (by decide) rfl ?_
  refine zk_istore_n (lv' := [(2, _), (0, _), (1, _)]) C kd_Mo_cellsIn_1 rfl (by decide) rfl rfl ?_
  refine zk_aload_n C kd_Mo_cellsIn_2 rfl 1 rfl rfl ?_
  refine zs_get (v := .ref (S.1 76)) C 68 19 rfl rfl rfl rfl ki_Mo (by decide) kw1702 kd_Mo_cellsIn_3 rfl ?_
  refine zk_iload_n C kd_Mo_cellsIn_6 rfl 2 rfl rfl ?_
  obtain ⟨q1, e⟩ := zd_g e
  refine zs_iald C 76 rfl (zd_vp q1) kd_Mo_cellsIn_7 rfl ?_
  refine zk_istore_n (lv' := [(3, _), (2, _), (0, _), (1, _)]) C kd_Mo_cellsIn_8 rfl (by decide) rfl rfl ?_
  refine zk_lvs (lv' := [(0, .ref (S.1 68)), (2, .int 0), (3, .int (h.2.1 76 x1.toNatClampNeg))]) [2, 1, 0] rfl ?_
  exact zl_Mo_cellsIn_9 C hR zF 0 (h.2.1 76 x1.toNatClampNeg) e
set_option maxHeartbeats 4000000 in
set_option maxRecDepth 100000 in
theorem zb_Mo_lookAtRungs_260 {X : zkj_T} {S : zs_T} {P : ze_T} {l : Launch} {D : va_G} {sz0 : Nat} {rh : zs_H} (C : zk_C X km_Mo_lookAtRungs (zs_G S l D sz0) { frames := 3, cells := 0, slots := 0, locals := 69 } (ze_E P)) (hR : zkj_R X (zd_PV S rh) (none)) (h : zs_H) (x1 : Int32) (y0 : Int32) (e : f_Mo_lookAtRungs_260 h x1 y0 = some rh) : zk_Ab X (zs_W S h) 0 0 260 [(1, .int x1)] [.int y0, .ref (S.1 68)] := by
  unfold f_Mo_lookAtRungs_260 at e
  refine zk_bipush (v := 40) C kd_Mo_lookAtRungs_260 (by decide) rfl ?_
  refine zk_iload_n C kd_Mo_lookAtRungs_262 rfl 0 rfl rfl ?_
  obtain ⟨h2, c1, e⟩ := zd_b e
  refine zs_callV (k := 68) (rn := { frames := 1, cells := 0, slots := 0, locals := 22 }) (As := [.int y0, .int 40, .int x1]) (rest := []) C (zc_Mo_rule h y0 40 x1 c1) ku_Mo_rule kw2260 kv_Mo_rule rfl ⟨by decide, by decide⟩ ⟨by decide, by decide⟩ rfl rfl rfl (Nat.le_of_ble_eq_true rfl) kd_Mo_lookAtRungs_263 rfl (c1 := 0) (s1 := 0) rfl rfl (fun v w hp => ?_)
  obtain ⟨rfl, rfl⟩ := hp
  refine zk_stk (r' := []) rfl ?_
  refine zk_goto (tgt := 269) C kd_Mo_lookAtRungs_266 (by decide) ?_
  exact zk_vret C hR kd_Mo_lookAtRungs_269 rfl rfl (zd_rV e)
set_option maxHeartbeats 4000000 in
set_option maxRecDepth 100000 in
theorem zb_Mo_lookAtRungs_215 {X : zkj_T} {S : zs_T} {P : ze_T} {l : Launch} {D : va_G} {sz0 : Nat} {rh : zs_H} (C : zk_C X km_Mo_lookAtRungs (zs_G S l D sz0) { frames := 3, cells := 0, slots := 0, locals := 69 } (ze_E P)) (hR : zkj_R X (zd_PV S rh) (none)) (h : zs_H) (x1 : Int32) (y0 : Int32) (e : f_Mo_lookAtRungs_215 h x1 y0 = some rh) : zk_Ab X (zs_W S h) 0 0 215 [(0, .ref (S.1 68)), (1, .int x1)] [.int y0, .ref (S.1 68)] := by
  unfold f_Mo_lookAtRungs_215 at e
  refine zk_bipush (v := 41) C kd_Mo_lookAtRungs_215 (by decide) rfl ?_
  refine zk_iload_n C kd_Mo_lookAtRungs_217 rfl 1 rfl rfl ?_
  obtain ⟨h2, c1, e⟩ := zd_b e
  refine zs_callV (k := 68) (rn := { frames := 1, cells := 0, slots := 0, locals := 22 }) (As := [.int y0, .int 41, .int x1]) (rest := []) C (zc_Mo_rule h y0 41 x1 c1) ku_Mo_rule kw2260 kv_Mo_rule rfl ⟨by decide, by decide⟩ ⟨by decide, by decide⟩ rfl rfl rfl (Nat.le_of_ble_eq_true rfl) kd_Mo_lookAtRungs_218 rfl (c1 := 0) (s1 := 0) rfl rfl (fun v w hp => ?_)
  obtain ⟨rfl, rfl⟩ := hp
  refine zk_stk (r' := []) rfl ?_
  refine zk_aload_n C kd_Mo_lookAtRungs_221 rfl 0 rfl rfl ?_
  refine zk_aload_n C kd_Mo_lookAtRungs_222 rfl 0 rfl rfl ?_
  refine zs_get (v := .ref (S.1 74)) C 68 17 rfl rfl rfl rfl ki_Mo (by decide) kw1700 kd_Mo_lookAtRungs_223 rfl ?_
  refine zk_aload_n C kd_Mo_lookAtRungs_226 rfl 0 rfl rfl ?_
  refine zs_get (v := .ref (S.1 76)) C 68 19 rfl rfl rfl rfl ki_Mo (by decide) kw1702 kd_Mo_lookAtRungs_227 rfl ?_
  refine zk_iload_n C kd_Mo_lookAtRungs_230 rfl 1 rfl rfl ?_
  obtain ⟨q3, e⟩ := zd_g e
  refine zs_iald C 76 rfl (zd_vp q3) kd_Mo_lookAtRungs_231 rfl ?_
  obtain ⟨q4, e⟩ := zd_g e
  refine zs_iald C 74 rfl (zd_vp q4) kd_Mo_lookAtRungs_232 rfl ?_
  refine zk_iload_n C kd_Mo_lookAtRungs_233 rfl 1 rfl rfl ?_
  obtain ⟨h6, c5, e⟩ := zd_b e
  refine zs_callV (k := 68) (rn := { frames := 2, cells := 0, slots := 0, locals := 45 }) (As := [.int (h2.2.1 74 (h2.2.1 76 x1.toNatClampNeg).toNatClampNeg), .int x1]) (rest := []) C (zc_Mo_lookAtAssigned h2 (h2.2.1 74 (h2.2.1 76 x1.toNatClampNeg).toNatClampNeg) x1 c5) ku_Mo_lookAtAssigned kw2343 kv_Mo_lookAtAssigned rfl ⟨by decide, by decide⟩ ⟨by decide, by decide⟩ rfl rfl rfl (Nat.le_of_ble_eq_true rfl) kd_Mo_lookAtRungs_234 rfl (c1 := 0) (s1 := 0) rfl rfl (fun v w hp => ?_)
  obtain ⟨rfl, rfl⟩ := hp
  refine zk_stk (r' := []) rfl ?_
  refine zk_goto (tgt := 269) C kd_Mo_lookAtRungs_237 (by decide) ?_
  exact zk_vret C hR kd_Mo_lookAtRungs_269 rfl rfl (zd_rV e)
set_option maxHeartbeats 4000000 in
set_option maxRecDepth 100000 in
theorem zb_Mo_lookAtRungs_189 {X : zkj_T} {S : zs_T} {P : ze_T} {l : Launch} {D : va_G} {sz0 : Nat} {rh : zs_H} (C : zk_C X km_Mo_lookAtRungs (zs_G S l D sz0) { frames := 3, cells := 0, slots := 0, locals := 69 } (ze_E P)) (hR : zkj_R X (zd_PV S rh) (none)) (h : zs_H) (x1 : Int32) (y0 : Int32) (e : f_Mo_lookAtRungs_189 h x1 y0 = some rh) : zk_Ab X (zs_W S h) 0 0 189 [(0, .ref (S.1 68)), (1, .int x1)] [.int y0, .ref (S.1 68)] := by
  unfold f_Mo_lookAtRungs_189 at e
  refine zk_bipush (v := 39) C kd_Mo_lookAtRungs_189 (by decide) rfl ?_
  refine zk_iload_n C kd_Mo_lookAtRungs_191 rfl 1 rfl rfl ?_
  obtain ⟨h2, c1, e⟩ := zd_b e
  refine zs_callV (k := 68) (rn := { frames := 1, cells := 0, slots := 0, locals := 22 }) (As := [.int y0, .int 39, .int x1]) (rest := []) C (zc_Mo_rule h y0 39 x1 c1) ku_Mo_rule kw2260 kv_Mo_rule rfl ⟨by decide, by decide⟩ ⟨by decide, by decide⟩ rfl rfl rfl (Nat.le_of_ble_eq_true rfl) kd_Mo_lookAtRungs_192 rfl (c1 := 0) (s1 := 0) rfl rfl (fun v w hp => ?_)
  obtain ⟨rfl, rfl⟩ := hp
  refine zk_stk (r' := []) rfl ?_
  refine zk_aload_n C kd_Mo_lookAtRungs_195 rfl 0 rfl rfl ?_
  refine zk_aload_n C kd_Mo_lookAtRungs_196 rfl 0 rfl rfl ?_
  refine zs_get (v := .ref (S.1 100)) C 68 51 rfl rfl rfl rfl ki_Mo (by decide) kw1734 kd_Mo_lookAtRungs_197 rfl ?_
  refine zk_aload_n C kd_Mo_lookAtRungs_200 rfl 0 rfl rfl ?_
  refine zs_get (v := .ref (S.1 76)) C 68 19 rfl rfl rfl rfl ki_Mo (by decide) kw1702 kd_Mo_lookAtRungs_201 rfl ?_
  refine zk_iload_n C kd_Mo_lookAtRungs_204 rfl 1 rfl rfl ?_
  obtain ⟨q3, e⟩ := zd_g e
  refine zs_iald C 76 rfl (zd_vp q3) kd_Mo_lookAtRungs_205 rfl ?_
  obtain ⟨q4, e⟩ := zd_g e
  refine zs_iald C 100 rfl (zd_vp q4) kd_Mo_lookAtRungs_206 rfl ?_
  refine zk_if_eq (tgt := 214) C kd_Mo_lookAtRungs_207 (by decide) rfl (fun b5 => ?_) (fun b5 => ?_)
  · replace e := zd_pos b5 e
    refine zk_iconst (v := 0) C kd_Mo_lookAtRungs_214 (by decide) rfl ?_
    refine zk_lvs (lv' := [(0, .ref (S.1 68)), (1, .int x1)]) [0, 1] rfl ?_
    exact zb_Mo_lookAtRungs_215 C hR h2 x1 0 e
  · replace e := zd_neg b5 e
    refine zk_iconst (v := 1) C kd_Mo_lookAtRungs_210 (by decide) rfl ?_
    refine zk_goto (tgt := 215) C kd_Mo_lookAtRungs_211 (by decide) ?_
    refine zk_lvs (lv' := [(0, .ref (S.1 68)), (1, .int x1)]) [0, 1] rfl ?_
    exact zb_Mo_lookAtRungs_215 C hR h2 x1 1 e
set_option maxHeartbeats 4000000 in
set_option maxRecDepth 100000 in
theorem zb_Mo_lookAtRungs_165 {X : zkj_T} {S : zs_T} {P : ze_T} {l : Launch} {D : va_G} {sz0 : Nat} {rh : zs_H} (C : zk_C X km_Mo_lookAtRungs (zs_G S l D sz0) { frames := 3, cells := 0, slots := 0, locals := 69 } (ze_E P)) (hR : zkj_R X (zd_PV S rh) (none)) (h : zs_H) (x1 : Int32) (y0 : Int32) (e : f_Mo_lookAtRungs_165 h x1 y0 = some rh) : zk_Ab X (zs_W S h) 0 0 165 [(1, .int x1)] [.int y0, .ref (S.1 68)] := by
  unfold f_Mo_lookAtRungs_165 at e
  refine zk_bipush (v := 41) C kd_Mo_lookAtRungs_165 (by decide) rfl ?_
  refine zk_iload_n C kd_Mo_lookAtRungs_167 rfl 0 rfl rfl ?_
  obtain ⟨h2, c1, e⟩ := zd_b e
  refine zs_callV (k := 68) (rn := { frames := 1, cells := 0, slots := 0, locals := 22 }) (As := [.int y0, .int 41, .int x1]) (rest := []) C (zc_Mo_rule h y0 41 x1 c1) ku_Mo_rule kw2260 kv_Mo_rule rfl ⟨by decide, by decide⟩ ⟨by decide, by decide⟩ rfl rfl rfl (Nat.le_of_ble_eq_true rfl) kd_Mo_lookAtRungs_168 rfl (c1 := 0) (s1 := 0) rfl rfl (fun v w hp => ?_)
  obtain ⟨rfl, rfl⟩ := hp
  refine zk_stk (r' := []) rfl ?_
  refine zk_goto (tgt := 269) C kd_Mo_lookAtRungs_171 (by decide) ?_
  exact zk_vret C hR kd_Mo_lookAtRungs_269 rfl rfl (zd_rV e)
set_option maxHeartbeats 4000000 in
set_option maxRecDepth 100000 in
theorem zb_Mo_lookAtRungs_107 {X : zkj_T} {S : zs_T} {P : ze_T} {l : Launch} {D : va_G} {sz0 : Nat} {rh : zs_H} (C : zk_C X km_Mo_lookAtRungs (zs_G S l D sz0) { frames := 3, cells := 0, slots := 0, locals := 69 } (ze_E P)) (hR : zkj_R X (zd_PV S rh) (none)) {k60 : zs_H → Int32 → Int32 → Int32 → Int32 → (Option zs_H)} (hk60 : ∀ (h : zs_H) (x1 : Int32) (x2 : Int32) (x3 : Int32) (x4 : Int32), k60 h x1 x2 x3 x4 = some rh → zk_Ab X (zs_W S h) 0 0 60 [(0, .ref (S.1 68)), (1, .int x1), (2, .int x2), (3, .int x3), (4, .int x4)] []) (h : zs_H) (x1 : Int32) (x2 : Int32) (x4 : Int32) (y0 : Int32) (e : f_Mo_lookAtRungs_107 k60 h x1 x2 x4 y0 = some rh) : zk_Ab X (zs_W S h) 0 0 107 [(0, .ref (S.1 68)), (1, .int x1), (2, .int x2), (4, .int x4)] [.int y0] := by
  unfold f_Mo_lookAtRungs_107 at e
  refine zk_istore_n (lv' := [(3, _), (0, _), (1, _), (2, _), (4, _)]) C kd_Mo_lookAtRungs_107 rfl (by decide) rfl rfl ?_
  refine zk_aload_n C kd_Mo_lookAtRungs_108 rfl 1 rfl rfl ?_
  refine zs_get (v := .ref (S.1 78)) C 68 21 rfl rfl rfl rfl ki_Mo (by decide) kw1704 kd_Mo_lookAtRungs_109 rfl ?_
  refine zk_iload C kd_Mo_lookAtRungs_112 4 rfl rfl ?_
  obtain ⟨q1, e⟩ := zd_g e
  refine zs_iald C 78 rfl (zd_vp q1) kd_Mo_lookAtRungs_114 rfl ?_
  refine zk_istore (lv' := [(4, _), (3, _), (0, _), (1, _), (2, _)]) C kd_Mo_lookAtRungs_115 (by decide) rfl rfl ?_
  refine zk_goto (tgt := 60) C kd_Mo_lookAtRungs_117 (by decide) ?_
  refine zk_lvs (lv' := [(0, .ref (S.1 68)), (1, .int x1), (2, .int x2), (3, .int y0), (4, .int (h.2.1 78 x4.toNatClampNeg))]) [2, 3, 4, 1, 0] rfl ?_
  exact hk60 h x1 x2 y0 (h.2.1 78 x4.toNatClampNeg) e
set_option maxHeartbeats 4000000 in
set_option maxRecDepth 100000 in
theorem zb_Mo_lookAtRungs_102 {X : zkj_T} {S : zs_T} {P : ze_T} {l : Launch} {D : va_G} {sz0 : Nat} {rh : zs_H} (C : zk_C X km_Mo_lookAtRungs (zs_G S l D sz0) { frames := 3, cells := 0, slots := 0, locals := 69 } (ze_E P)) (hR : zkj_R X (zd_PV S rh) (none)) {k60 : zs_H → Int32 → Int32 → Int32 → Int32 → (Option zs_H)} (hk60 : ∀ (h : zs_H) (x1 : Int32) (x2 : Int32) (x3 : Int32) (x4 : Int32), k60 h x1 x2 x3 x4 = some rh → zk_Ab X (zs_W S h) 0 0 60 [(0, .ref (S.1 68)), (1, .int x1), (2, .int x2), (3, .int x3), (4, .int x4)] []) (h : zs_H) (x1 : Int32) (x2 : Int32) (x4 : Int32) (e : f_Mo_lookAtRungs_102 k60 h x1 x2 x4 = some rh) : zk_Ab X (zs_W S h) 0 0 102 [(0, .ref (S.1 68)), (1, .int x1), (2, .int x2), (4, .int x4)] [] := by
  unfold f_Mo_lookAtRungs_102 at e
  refine zk_iconst (v := 1) C kd_Mo_lookAtRungs_102 (by decide) rfl ?_
  refine zk_goto (tgt := 107) C kd_Mo_lookAtRungs_103 (by decide) ?_
  refine zk_lvs (lv' := [(0, .ref (S.1 68)), (1, .int x1), (2, .int x2), (4, .int x4)]) [0, 1, 2, 3] rfl ?_
  exact zb_Mo_lookAtRungs_107 C hR hk60 h x1 x2 x4 1 e
set_option maxHeartbeats 4000000 in
set_option maxRecDepth 100000 in
theorem zb_Mo_lookAtRungs_136 {X : zkj_T} {S : zs_T} {P : ze_T} {l : Launch} {D : va_G} {sz0 : Nat} {rh : zs_H} (C : zk_C X km_Mo_lookAtRungs (zs_G S l D sz0) { frames := 3, cells := 0, slots := 0, locals := 69 } (ze_E P)) (hR : zkj_R X (zd_PV S rh) (none)) (h : zs_H) (x1 : Int32) (y0 : Int32) (e : f_Mo_lookAtRungs_136 h x1 y0 = some rh) : zk_Ab X (zs_W S h) 0 0 136 [(1, .int x1)] [.int y0, .ref (S.1 68)] := by
  unfold f_Mo_lookAtRungs_136 at e
  refine zk_bipush (v := 38) C kd_Mo_lookAtRungs_136 (by decide) rfl ?_
  refine zk_iload_n C kd_Mo_lookAtRungs_138 rfl 0 rfl rfl ?_
  obtain ⟨h2, c1, e⟩ := zd_b e
  refine zs_callV (k := 68) (rn := { frames := 1, cells := 0, slots := 0, locals := 22 }) (As := [.int y0, .int 38, .int x1]) (rest := []) C (zc_Mo_rule h y0 38 x1 c1) ku_Mo_rule kw2260 kv_Mo_rule rfl ⟨by decide, by decide⟩ ⟨by decide, by decide⟩ rfl rfl rfl (Nat.le_of_ble_eq_true rfl) kd_Mo_lookAtRungs_139 rfl (c1 := 0) (s1 := 0) rfl rfl (fun v w hp => ?_)
  obtain ⟨rfl, rfl⟩ := hp
  refine zk_stk (r' := []) rfl ?_
  refine zk_goto (tgt := 269) C kd_Mo_lookAtRungs_142 (by decide) ?_
  exact zk_vret C hR kd_Mo_lookAtRungs_269 rfl rfl (zd_rV e)
set_option maxHeartbeats 4000000 in
set_option maxRecDepth 100000 in
theorem zb_Mo_lookAtRungs_131 {X : zkj_T} {S : zs_T} {P : ze_T} {l : Launch} {D : va_G} {sz0 : Nat} {rh : zs_H} (C : zk_C X km_Mo_lookAtRungs (zs_G S l D sz0) { frames := 3, cells := 0, slots := 0, locals := 69 } (ze_E P)) (hR : zkj_R X (zd_PV S rh) (none)) (h : zs_H) (x1 : Int32) (e : f_Mo_lookAtRungs_131 h x1 = some rh) : zk_Ab X (zs_W S h) 0 0 131 [(1, .int x1)] [.ref (S.1 68)] := by
  unfold f_Mo_lookAtRungs_131 at e
  refine zk_iconst (v := 1) C kd_Mo_lookAtRungs_131 (by decide) rfl ?_
  refine zk_goto (tgt := 136) C kd_Mo_lookAtRungs_132 (by decide) ?_
  refine zk_lvs (lv' := [(1, .int x1)]) [0] rfl ?_
  exact zb_Mo_lookAtRungs_136 C hR h x1 1 e
set_option maxHeartbeats 4000000 in
set_option maxRecDepth 100000 in
theorem zb_Mo_lookAtRungs_60 {X : zkj_T} {S : zs_T} {P : ze_T} {l : Launch} {D : va_G} {sz0 : Nat} {rh : zs_H} (C : zk_C X km_Mo_lookAtRungs (zs_G S l D sz0) { frames := 3, cells := 0, slots := 0, locals := 69 } (ze_E P)) (hR : zkj_R X (zd_PV S rh) (none)) {k60 : zs_H → Int32 → Int32 → Int32 → Int32 → (Option zs_H)} (hk60 : ∀ (h : zs_H) (x1 : Int32) (x2 : Int32) (x3 : Int32) (x4 : Int32), k60 h x1 x2 x3 x4 = some rh → zk_Ab X (zs_W S h) 0 0 60 [(0, .ref (S.1 68)), (1, .int x1), (2, .int x2), (3, .int x3), (4, .int x4)] []) (h : zs_H) (x1 : Int32) (x2 : Int32) (x3 : Int32) (x4 : Int32) (e : f_Mo_lookAtRungs_60 k60 h x1 x2 x3 x4 = some rh) : zk_Ab X (zs_W S h) 0 0 60 [(0, .ref (S.1 68)), (1, .int x1), (2, .int x2), (3, .int x3), (4, .int x4)] [] := by
  unfold f_Mo_lookAtRungs_60 at e
  refine zk_iload C kd_Mo_lookAtRungs_60 4 rfl rfl ?_
  refine zk_if_lt (tgt := 120) C kd_Mo_lookAtRungs_62 (by decide) rfl (fun b1 => ?_) (fun b1 => ?_)
  · replace e := zd_pos b1 e
    refine zk_aload_n C kd_Mo_lookAtRungs_120 rfl 0 rfl rfl ?_
    refine zk_iload_n C kd_Mo_lookAtRungs_121 rfl 3 rfl rfl ?_
    refine zk_if_ne (tgt := 131) C kd_Mo_lookAtRungs_122 (by decide) rfl (fun b2 => ?_) (fun b2 => ?_)
    · replace e := zd_neg b2 e
      refine zk_lvs (lv' := [(1, .int x1)]) [1] rfl ?_
      exact zb_Mo_lookAtRungs_131 C hR h x1 e
    · replace e := zd_pos b2 e
      refine zk_iload_n C kd_Mo_lookAtRungs_125 rfl 2 rfl rfl ?_
      refine zk_bipush (v := 12) C kd_Mo_lookAtRungs_126 (by decide) rfl ?_
      refine zk_icmp_le (tgt := 135) C kd_Mo_lookAtRungs_128 (by decide) rfl (fun b3 => ?_) (fun b3 => ?_)
      · replace e := zd_pos b3 e
        refine zk_iconst (v := 0) C kd_Mo_lookAtRungs_135 (by decide) rfl ?_
        refine zk_lvs (lv' := [(1, .int x1)]) [1] rfl ?_
        exact zb_Mo_lookAtRungs_136 C hR h x1 0 e
      · replace e := zd_neg b3 e
        refine zk_lvs (lv' := [(1, .int x1)]) [1] rfl ?_
        exact zb_Mo_lookAtRungs_131 C hR h x1 e
  · replace e := zd_neg b1 e
    refine zk_iinc (v := (x2 + 1)) (lv' := [(2, _), (0, _), (1, _), (3, _), (4, _)]) C kd_Mo_lookAtRungs_65 2 rfl rfl (by decide) rfl rfl ?_
    refine zk_iload_n C kd_Mo_lookAtRungs_68 rfl 3 rfl rfl ?_
    refine zk_if_ne (tgt := 102) C kd_Mo_lookAtRungs_69 (by decide) rfl (fun b4 => ?_) (fun b4 => ?_)
    · replace e := zd_neg b4 e
      refine zk_lvs (lv' := [(0, .ref (S.1 68)), (1, .int x1), (2, .int (x2 + 1)), (4, .int x4)]) [1, 2, 0, 4] rfl ?_
      exact zb_Mo_lookAtRungs_102 C hR hk60 h x1 (x2 + 1) x4 e
    · replace e := zd_pos b4 e
      refine zk_aload_n C kd_Mo_lookAtRungs_72 rfl 1 rfl rfl ?_
      refine zk_iload C kd_Mo_lookAtRungs_73 4 rfl rfl ?_
      obtain ⟨v6, c5, e⟩ := zd_b e
      refine zs_callV (k := 68) (rn := { frames := 0, cells := 0, slots := 0, locals := 0 }) (As := [.int x4]) (rest := []) C (zc_Mo_cellsIn h x4 c5) ku_Mo_cellsIn kw2481 kv_Mo_cellsIn rfl ⟨by decide, by decide⟩ ⟨by decide, by decide⟩ rfl rfl rfl (Nat.le_of_ble_eq_true rfl) kd_Mo_lookAtRungs_75 rfl (c1 := 0) (s1 := 0) rfl rfl (fun v w hp => ?_)
      obtain ⟨rfl, rfl⟩ := hp
      refine zk_stk (r' := [.int v6]) rfl ?_
      refine zk_bipush (v := 12) C kd_Mo_lookAtRungs_78 (by decide) rfl ?_
      refine zk_icmp_gt (tgt := 102) C kd_Mo_lookAtRungs_80 (by decide) rfl (fun b7 => ?_) (fun b7 => ?_)
      · replace e := zd_pos b7 e
        refine zk_lvs (lv' := [(0, .ref (S.1 68)), (1, .int x1), (2, .int (x2 + 1)), (4, .int x4)]) [1, 2, 0, 4] rfl ?_
        exact zb_Mo_lookAtRungs_102 C hR hk60 h x1 (x2 + 1) x4 e
      · replace e := zd_neg b7 e
        refine zk_aload_n C kd_Mo_lookAtRungs_83 rfl 1 rfl rfl ?_
        refine zk_iload C kd_Mo_lookAtRungs_84 4 rfl rfl ?_
        obtain ⟨v9, c8, e⟩ := zd_b e
        refine zs_callV (k := 68) (rn := { frames := 0, cells := 0, slots := 0, locals := 0 }) (As := [.int x4]) (rest := []) C (zc_Mo_cellsIn h x4 c8) ku_Mo_cellsIn kw2481 kv_Mo_cellsIn rfl ⟨by decide, by decide⟩ ⟨by decide, by decide⟩ rfl rfl rfl (Nat.le_of_ble_eq_true rfl) kd_Mo_lookAtRungs_86 rfl (c1 := 0) (s1 := 0) rfl rfl (fun v w hp => ?_)
        obtain ⟨rfl, rfl⟩ := hp
        refine zk_stk (r' := [.int v9]) rfl ?_
        refine zk_aload_n C kd_Mo_lookAtRungs_89 rfl 1 rfl rfl ?_
        refine zk_aload_n C kd_Mo_lookAtRungs_90 rfl 1 rfl rfl ?_
        refine zs_get (v := .ref (S.1 76)) C 68 19 rfl rfl rfl rfl ki_Mo (by decide) kw1702 kd_Mo_lookAtRungs_91 rfl ?_
        refine zk_iload_n C kd_Mo_lookAtRungs_94 rfl 2 rfl rfl ?_
        obtain ⟨q10, e⟩ := zd_g e
        refine zs_iald C 76 rfl (zd_vp q10) kd_Mo_lookAtRungs_95 rfl ?_
        obtain ⟨v12, c11, e⟩ := zd_b e
        refine zs_callV (k := 68) (rn := { frames := 0, cells := 0, slots := 0, locals := 0 }) (As := [.int (h.2.1 76 x1.toNatClampNeg)]) (rest := [.int v9]) C (zc_Mo_cellsIn h (h.2.1 76 x1.toNatClampNeg) c11) ku_Mo_cellsIn kw2481 kv_Mo_cellsIn rfl ⟨by decide, by decide⟩ ⟨by decide, by decide⟩ rfl rfl rfl (Nat.le_of_ble_eq_true rfl) kd_Mo_lookAtRungs_96 rfl (c1 := 0) (s1 := 0) rfl rfl (fun v w hp => ?_)
        obtain ⟨rfl, rfl⟩ := hp
        refine zk_stk (r' := [.int v12, .int v9]) rfl ?_
        refine zk_icmp_eq (tgt := 106) C kd_Mo_lookAtRungs_99 (by decide) rfl (fun b13 => ?_) (fun b13 => ?_)
        · replace e := zd_pos b13 e
          refine zk_iconst (v := 0) C kd_Mo_lookAtRungs_106 (by decide) rfl ?_
          refine zk_lvs (lv' := [(0, .ref (S.1 68)), (1, .int x1), (2, .int (x2 + 1)), (4, .int x4)]) [1, 2, 0, 4] rfl ?_
          exact zb_Mo_lookAtRungs_107 C hR hk60 h x1 (x2 + 1) x4 0 e
        · replace e := zd_neg b13 e
          refine zk_lvs (lv' := [(0, .ref (S.1 68)), (1, .int x1), (2, .int (x2 + 1)), (4, .int x4)]) [1, 2, 0, 4] rfl ?_
          exact zb_Mo_lookAtRungs_102 C hR hk60 h x1 (x2 + 1) x4 e
theorem zl_Mo_lookAtRungs_60 {X : zkj_T} {S : zs_T} {P : ze_T} {l : Launch} {D : va_G} {sz0 : Nat} {rh : zs_H} (C : zk_C X km_Mo_lookAtRungs (zs_G S l D sz0) { frames := 3, cells := 0, slots := 0, locals := 69 } (ze_E P)) (hR : zkj_R X (zd_PV S rh) (none)) (n : Nat) : ∀ (h : zs_H) (x1 : Int32) (x2 : Int32) (x3 : Int32) (x4 : Int32), f_Mo_lookAtRungs_L60 n h x1 x2 x3 x4 = some rh → zk_Ab X (zs_W S h) 0 0 60 [(0, .ref (S.1 68)), (1, .int x1), (2, .int x2), (3, .int x3), (4, .int x4)] [] := by
  induction n with
  | zero => intro h x1 x2 x3 x4 e; exact zd_no e
  | succ n ih => intro h x1 x2 x3 x4 e; exact zb_Mo_lookAtRungs_60 (k60 := f_Mo_lookAtRungs_L60  n) C hR ih h x1 x2 x3 x4 e
set_option maxHeartbeats 4000000 in
set_option maxRecDepth 100000 in
theorem zc_Mo_lookAtRungs {l : Launch} {D : va_G} {sz0 : Nat} {S : zs_T} {P : ze_T} (h : zs_H) (x1 : Int32) {rh : zs_H} (e : f_Mo_lookAtRungs h x1 = some rh) : zk_Sp (zs_G S l D sz0) (ze_E P) km_Mo_lookAtRungs { frames := 3, cells := 0, slots := 0, locals := 69 } [.ref (S.1 68), .int x1] (zs_W S h) (zd_PV S rh) := by
  refine zk_met ku_Mo_lookAtRungs (Nat.le_of_ble_eq_true rfl) (ze_Em P) ?_
  intro X C hR
  refine zk_lvs (lv' := [(0, .ref (S.1 68)), (1, .int x1)]) [0, 1] rfl ?_
  unfold f_Mo_lookAtRungs at e
  refine zk_aload_n C kd_Mo_lookAtRungs_0 rfl 0 rfl rfl ?_
  refine zs_get (v := .ref (S.1 72)) C 68 15 rfl rfl rfl rfl ki_Mo (by decide) kw1698 kd_Mo_lookAtRungs_1 rfl ?_
  refine zk_iload_n C kd_Mo_lookAtRungs_4 rfl 1 rfl rfl ?_
  obtain ⟨q1, e⟩ := zd_g e
  refine zs_iald C 72 rfl (zd_vp q1) kd_Mo_lookAtRungs_5 rfl ?_
  by_cases b2 : (h.2.1 72 x1.toNatClampNeg) = 23
  · replace e := zd_pos b2 e
    refine zk_tableIn (tgt := 48) C kd_Mo_lookAtRungs_6 (by rw [b2]; decide) (by rw [b2]; decide) (by rw [b2]; rfl) (by decide) ?_
    refine zk_iconst (v := 0) C kd_Mo_lookAtRungs_48 (by decide) rfl ?_
    refine zk_istore_n (lv' := [(2, _), (0, _), (1, _)]) C kd_Mo_lookAtRungs_49 rfl (by decide) rfl rfl ?_
    refine zk_iconst (v := 0) C kd_Mo_lookAtRungs_50 (by decide) rfl ?_
    refine zk_istore_n (lv' := [(3, _), (2, _), (0, _), (1, _)]) C kd_Mo_lookAtRungs_51 rfl (by decide) rfl rfl ?_
    refine zk_aload_n C kd_Mo_lookAtRungs_52 rfl 2 rfl rfl ?_
    refine zs_get (v := .ref (S.1 76)) C 68 19 rfl rfl rfl rfl ki_Mo (by decide) kw1702 kd_Mo_lookAtRungs_53 rfl ?_
    refine zk_iload_n C kd_Mo_lookAtRungs_56 rfl 3 rfl rfl ?_
    refine zs_iald C 76 rfl (zd_vp q1) kd_Mo_lookAtRungs_57 rfl ?_
    refine zk_istore (lv' := [(4, _), (3, _), (2, _), (0, _), (1, _)]) C kd_Mo_lookAtRungs_58 (by decide) rfl rfl ?_
    refine zk_lvs (lv' := [(0, .ref (S.1 68)), (1, .int x1), (2, .int 0), (3, .int 0), (4, .int (h.2.1 76 x1.toNatClampNeg))]) [3, 4, 2, 1, 0] rfl ?_
    exact zl_Mo_lookAtRungs_60 C hR zF h x1 0 0 (h.2.1 76 x1.toNatClampNeg) e
  replace e := zd_neg b2 e
  by_cases b3 : (h.2.1 72 x1.toNatClampNeg) = 25
  · replace e := zd_pos b3 e
    refine zk_tableIn (tgt := 145) C kd_Mo_lookAtRungs_6 (by rw [b3]; decide) (by rw [b3]; decide) (by rw [b3]; rfl) (by decide) ?_
    refine zk_aload_n C kd_Mo_lookAtRungs_145 rfl 0 rfl rfl ?_
    refine zk_aload_n C kd_Mo_lookAtRungs_146 rfl 0 rfl rfl ?_
    refine zs_get (v := .ref (S.1 100)) C 68 51 rfl rfl rfl rfl ki_Mo (by decide) kw1734 kd_Mo_lookAtRungs_147 rfl ?_
    refine zk_aload_n C kd_Mo_lookAtRungs_150 rfl 0 rfl rfl ?_
    refine zs_get (v := .ref (S.1 76)) C 68 19 rfl rfl rfl rfl ki_Mo (by decide) kw1702 kd_Mo_lookAtRungs_151 rfl ?_
    refine zk_iload_n C kd_Mo_lookAtRungs_154 rfl 1 rfl rfl ?_
    refine zs_iald C 76 rfl (zd_vp q1) kd_Mo_lookAtRungs_155 rfl ?_
    obtain ⟨q4, e⟩ := zd_g e
    refine zs_iald C 100 rfl (zd_vp q4) kd_Mo_lookAtRungs_156 rfl ?_
    refine zk_if_eq (tgt := 164) C kd_Mo_lookAtRungs_157 (by decide) rfl (fun b5 => ?_) (fun b5 => ?_)
    · replace e := zd_pos b5 e
      refine zk_iconst (v := 0) C kd_Mo_lookAtRungs_164 (by decide) rfl ?_
      refine zk_lvs (lv' := [(1, .int x1)]) [1] rfl ?_
      exact zb_Mo_lookAtRungs_165 C hR h x1 0 e
    · replace e := zd_neg b5 e
      refine zk_iconst (v := 1) C kd_Mo_lookAtRungs_160 (by decide) rfl ?_
      refine zk_goto (tgt := 165) C kd_Mo_lookAtRungs_161 (by decide) ?_
      refine zk_lvs (lv' := [(1, .int x1)]) [1] rfl ?_
      exact zb_Mo_lookAtRungs_165 C hR h x1 1 e
  replace e := zd_neg b3 e
  by_cases b6 : (h.2.1 72 x1.toNatClampNeg) = 28
  · replace e := zd_pos b6 e
    refine zk_tableIn (tgt := 174) C kd_Mo_lookAtRungs_6 (by rw [b6]; decide) (by rw [b6]; decide) (by rw [b6]; rfl) (by decide) ?_
    refine zk_aload_n C kd_Mo_lookAtRungs_174 rfl 0 rfl rfl ?_
    refine zk_aload_n C kd_Mo_lookAtRungs_175 rfl 0 rfl rfl ?_
    refine zs_get (v := .ref (S.1 78)) C 68 21 rfl rfl rfl rfl ki_Mo (by decide) kw1704 kd_Mo_lookAtRungs_176 rfl ?_
    refine zk_iload_n C kd_Mo_lookAtRungs_179 rfl 1 rfl rfl ?_
    refine zs_iald C 78 rfl (zd_vp q1) kd_Mo_lookAtRungs_180 rfl ?_
    refine zk_if_lt (tgt := 188) C kd_Mo_lookAtRungs_181 (by decide) rfl (fun b7 => ?_) (fun b7 => ?_)
    · replace e := zd_pos b7 e
      refine zk_iconst (v := 0) C kd_Mo_lookAtRungs_188 (by decide) rfl ?_
      refine zk_lvs (lv' := [(0, .ref (S.1 68)), (1, .int x1)]) [0, 1] rfl ?_
      exact zb_Mo_lookAtRungs_189 C hR h x1 0 e
    · replace e := zd_neg b7 e
      refine zk_iconst (v := 1) C kd_Mo_lookAtRungs_184 (by decide) rfl ?_
      refine zk_goto (tgt := 189) C kd_Mo_lookAtRungs_185 (by decide) ?_
      refine zk_lvs (lv' := [(0, .ref (S.1 68)), (1, .int x1)]) [0, 1] rfl ?_
      exact zb_Mo_lookAtRungs_189 C hR h x1 1 e
  replace e := zd_neg b6 e
  by_cases b8 : (h.2.1 72 x1.toNatClampNeg) = 29
  · replace e := zd_pos b8 e
    refine zk_tableIn (tgt := 240) C kd_Mo_lookAtRungs_6 (by rw [b8]; decide) (by rw [b8]; decide) (by rw [b8]; rfl) (by decide) ?_
    refine zk_aload_n C kd_Mo_lookAtRungs_240 rfl 0 rfl rfl ?_
    refine zk_aload_n C kd_Mo_lookAtRungs_241 rfl 0 rfl rfl ?_
    refine zs_get (v := .ref (S.1 78)) C 68 21 rfl rfl rfl rfl ki_Mo (by decide) kw1704 kd_Mo_lookAtRungs_242 rfl ?_
    refine zk_aload_n C kd_Mo_lookAtRungs_245 rfl 0 rfl rfl ?_
    refine zs_get (v := .ref (S.1 75)) C 68 18 rfl rfl rfl rfl ki_Mo (by decide) kw1701 kd_Mo_lookAtRungs_246 rfl ?_
    refine zk_iload_n C kd_Mo_lookAtRungs_249 rfl 1 rfl rfl ?_
    refine zs_iald C 75 rfl (zd_vp q1) kd_Mo_lookAtRungs_250 rfl ?_
    obtain ⟨q9, e⟩ := zd_g e
    refine zs_iald C 78 rfl (zd_vp q9) kd_Mo_lookAtRungs_251 rfl ?_
    refine zk_if_ge (tgt := 259) C kd_Mo_lookAtRungs_252 (by decide) rfl (fun b10 => ?_) (fun b10 => ?_)
    · replace e := zd_pos b10 e
      refine zk_iconst (v := 0) C kd_Mo_lookAtRungs_259 (by decide) rfl ?_
      refine zk_lvs (lv' := [(1, .int x1)]) [1] rfl ?_
      exact zb_Mo_lookAtRungs_260 C hR h x1 0 e
    · replace e := zd_neg b10 e
      refine zk_iconst (v := 1) C kd_Mo_lookAtRungs_255 (by decide) rfl ?_
      refine zk_goto (tgt := 260) C kd_Mo_lookAtRungs_256 (by decide) ?_
      refine zk_lvs (lv' := [(1, .int x1)]) [1] rfl ?_
      exact zb_Mo_lookAtRungs_260 C hR h x1 1 e
  replace e := zd_neg b8 e
  refine zd_tableD (tgt := 269) C kd_Mo_lookAtRungs_6 (by decide) [23, 25, 28, 29] (by decide +kernel) (by have n0 := lv_neT b2 (a := 23) (by decide); have n1 := lv_neT b3 (a := 25) (by decide); have n2 := lv_neT b6 (a := 28) (by decide); have n3 := lv_neT b8 (a := 29) (by decide); simp only [List.mem_cons, List.not_mem_nil, or_false, not_or]; exact ⟨n0, n1, n2, n3⟩) ?_
  exact zk_vret C hR kd_Mo_lookAtRungs_269 rfl rfl (zd_rV e)
set_option maxHeartbeats 4000000 in
set_option maxRecDepth 100000 in
theorem zc_Mo_wider {l : Launch} {D : va_G} {sz0 : Nat} {S : zs_T} {P : ze_T} (h : zs_H) (x0 : Int32) (x1 : Int32) : zk_Sp (zs_G S l D sz0) (ze_E P) km_Mo_wider { frames := 0, cells := 0, slots := 0, locals := 0 } [.int x0, .int x1] (zs_W S h) (zd_PI S (f_Mo_wider x0 x1) h) := by
  obtain ⟨rv, e⟩ : ∃ rv, f_Mo_wider x0 x1 = rv := ⟨_, rfl⟩
  rw [e]
  refine zk_met ku_Mo_wider (Nat.le_of_ble_eq_true rfl) (ze_Em P) ?_
  intro X C hR
  refine zk_lvs (lv' := [(0, .int x0), (1, .int x1)]) [0, 1] rfl ?_
  unfold f_Mo_wider at e
  refine zk_iload_n C kd_Mo_wider_0 rfl 0 rfl rfl ?_
  refine zk_iload_n C kd_Mo_wider_1 rfl 1 rfl rfl ?_
  refine zk_icmp_le (tgt := 9) C kd_Mo_wider_2 (by decide) rfl (fun b1 => ?_) (fun b1 => ?_)
  · replace e := zd_pos b1 e
    refine zk_iload_n C kd_Mo_wider_9 rfl 1 rfl rfl ?_
    exact zk_iret C hR kd_Mo_wider_10 rfl rfl (zd_rIT e)
  · replace e := zd_neg b1 e
    refine zk_iload_n C kd_Mo_wider_5 rfl 0 rfl rfl ?_
    refine zk_goto (tgt := 10) C kd_Mo_wider_6 (by decide) ?_
    exact zk_iret C hR kd_Mo_wider_10 rfl rfl (zd_rIT e)
set_option maxHeartbeats 4000000 in
set_option maxRecDepth 100000 in
theorem zb_Mo_lookAtTwo_132 {X : zkj_T} {S : zs_T} {P : ze_T} {l : Launch} {D : va_G} {sz0 : Nat} {rh : zs_H} (C : zk_C X km_Mo_lookAtTwo (zs_G S l D sz0) { frames := 2, cells := 0, slots := 0, locals := 45 } (ze_E P)) (hR : zkj_R X (zd_PV S rh) (none)) (h : zs_H) (y0 : Int32) (y1 : Int32) (e : f_Mo_lookAtTwo_132 h y0 y1 = some rh) : zk_Ab X (zs_W S h) 0 0 132 [] [.int y0, .int y1, .ref (S.1 100)] := by
  unfold f_Mo_lookAtTwo_132 at e
  obtain ⟨q1, e⟩ := zd_g e
  refine zs_iast C 100 rfl (zd_vp q1) kd_Mo_lookAtTwo_132 rfl ?_
  exact zk_vret C hR kd_Mo_lookAtTwo_133 rfl rfl (zd_rV e)
set_option maxHeartbeats 4000000 in
set_option maxRecDepth 100000 in
theorem zb_Mo_lookAtTwo_118 {X : zkj_T} {S : zs_T} {P : ze_T} {l : Launch} {D : va_G} {sz0 : Nat} {rh : zs_H} (C : zk_C X km_Mo_lookAtTwo (zs_G S l D sz0) { frames := 2, cells := 0, slots := 0, locals := 45 } (ze_E P)) (hR : zkj_R X (zd_PV S rh) (none)) (h : zs_H) (x2 : Int32) (x3 : Int32) (x6 : Int32) (y0 : Int32) (e : f_Mo_lookAtTwo_118 h x2 x3 x6 y0 = some rh) : zk_Ab X (zs_W S h) 0 0 118 [(2, .int x2), (3, .int x3), (6, .int x6)] [.int y0, .ref (S.1 100)] := by
  unfold f_Mo_lookAtTwo_118 at e
  refine zk_iload C kd_Mo_lookAtTwo_118 2 rfl rfl ?_
  refine zk_if_eq (tgt := 127) C kd_Mo_lookAtTwo_120 (by decide) rfl (fun b1 => ?_) (fun b1 => ?_)
  · replace e := zd_pos b1 e
    refine zk_iload_n C kd_Mo_lookAtTwo_127 rfl 0 rfl rfl ?_
    refine zk_iload_n C kd_Mo_lookAtTwo_128 rfl 1 rfl rfl ?_
    refine zk_callS (rn := { frames := 0, cells := 0, slots := 0, locals := 0 }) (As := [.int x2, .int x3]) (rest := [.int y0, .ref (S.1 100)]) C (zc_Mo_wider h x2 x3) ku_Mo_wider kw2501 ks_Mo_wider rfl ⟨by decide, by decide⟩ ⟨by decide, by decide⟩ rfl (Nat.le_of_ble_eq_true rfl) kd_Mo_lookAtTwo_129 rfl (c1 := 0) (s1 := 0) rfl rfl (fun v w hp => ?_)
    obtain ⟨rfl, rfl⟩ := hp
    refine zk_stk (r' := [.int (f_Mo_wider x2 x3), .int y0, .ref (S.1 100)]) rfl ?_
    refine zk_lvs (lv' := []) [] rfl ?_
    exact zb_Mo_lookAtTwo_132 C hR h (f_Mo_wider x2 x3) y0 e
  · replace e := zd_neg b1 e
    refine zk_iconst (v := 0) C kd_Mo_lookAtTwo_123 (by decide) rfl ?_
    refine zk_goto (tgt := 132) C kd_Mo_lookAtTwo_124 (by decide) ?_
    refine zk_lvs (lv' := []) [] rfl ?_
    exact zb_Mo_lookAtTwo_132 C hR h 0 y0 e
set_option maxHeartbeats 4000000 in
set_option maxRecDepth 100000 in
theorem zb_Mo_lookAtTwo_90 {X : zkj_T} {S : zs_T} {P : ze_T} {l : Launch} {D : va_G} {sz0 : Nat} {rh : zs_H} (C : zk_C X km_Mo_lookAtTwo (zs_G S l D sz0) { frames := 2, cells := 0, slots := 0, locals := 45 } (ze_E P)) (hR : zkj_R X (zd_PV S rh) (none)) (h : zs_H) (x1 : Int32) (x2 : Int32) (x3 : Int32) (x4 : Int32) (x6 : Int32) (y0 : Int32) (e : f_Mo_lookAtTwo_90 h x1 x2 x3 x4 x6 y0 = some rh) : zk_Ab X (zs_W S h) 0 0 90 [(0, .ref (S.1 68)), (1, .int x1), (2, .int x2), (3, .int x3), (4, .int x4), (6, .int x6)] [.int y0, .ref (S.1 68)] := by
  unfold f_Mo_lookAtTwo_90 at e
  refine zk_bipush (v := 27) C kd_Mo_lookAtTwo_90 (by decide) rfl ?_
  refine zk_iload_n C kd_Mo_lookAtTwo_92 rfl 1 rfl rfl ?_
  obtain ⟨h2, c1, e⟩ := zd_b e
  refine zs_callV (k := 68) (rn := { frames := 1, cells := 0, slots := 0, locals := 22 }) (As := [.int y0, .int 27, .int x1]) (rest := []) C (zc_Mo_rule h y0 27 x1 c1) ku_Mo_rule kw2260 kv_Mo_rule rfl ⟨by decide, by decide⟩ ⟨by decide, by decide⟩ rfl rfl rfl (Nat.le_of_ble_eq_true rfl) kd_Mo_lookAtTwo_93 rfl (c1 := 0) (s1 := 0) rfl rfl (fun v w hp => ?_)
  obtain ⟨rfl, rfl⟩ := hp
  refine zk_stk (r' := []) rfl ?_
  refine zk_aload_n C kd_Mo_lookAtTwo_96 rfl 0 rfl rfl ?_
  refine zs_get (v := .ref (S.1 100)) C 68 51 rfl rfl rfl rfl ki_Mo (by decide) kw1734 kd_Mo_lookAtTwo_97 rfl ?_
  refine zk_iload_n C kd_Mo_lookAtTwo_100 rfl 1 rfl rfl ?_
  refine zk_iload C kd_Mo_lookAtTwo_101 4 rfl rfl ?_
  refine zk_iconst (v := 2) C kd_Mo_lookAtTwo_103 (by decide) rfl ?_
  refine zk_icmp_le (tgt := 118) C kd_Mo_lookAtTwo_104 (by decide) rfl (fun b3 => ?_) (fun b3 => ?_)
  · replace e := zd_pos b3 e
    refine zk_lvs (lv' := [(2, .int x2), (3, .int x3), (6, .int x6)]) [2, 3, 5] rfl ?_
    exact zb_Mo_lookAtTwo_118 C hR h2 x2 x3 x6 x1 e
  · replace e := zd_neg b3 e
    refine zk_iload C kd_Mo_lookAtTwo_107 4 rfl rfl ?_
    refine zk_bipush (v := 9) C kd_Mo_lookAtTwo_109 (by decide) rfl ?_
    refine zk_icmp_ge (tgt := 118) C kd_Mo_lookAtTwo_111 (by decide) rfl (fun b4 => ?_) (fun b4 => ?_)
    · replace e := zd_pos b4 e
      refine zk_lvs (lv' := [(2, .int x2), (3, .int x3), (6, .int x6)]) [2, 3, 5] rfl ?_
      exact zb_Mo_lookAtTwo_118 C hR h2 x2 x3 x6 x1 e
    · replace e := zd_neg b4 e
      refine zk_iconst (v := 0) C kd_Mo_lookAtTwo_114 (by decide) rfl ?_
      refine zk_goto (tgt := 132) C kd_Mo_lookAtTwo_115 (by decide) ?_
      refine zk_lvs (lv' := []) [] rfl ?_
      exact zb_Mo_lookAtTwo_132 C hR h2 0 x1 e
set_option maxHeartbeats 4000000 in
set_option maxRecDepth 100000 in
theorem zb_Mo_lookAtTwo_85 {X : zkj_T} {S : zs_T} {P : ze_T} {l : Launch} {D : va_G} {sz0 : Nat} {rh : zs_H} (C : zk_C X km_Mo_lookAtTwo (zs_G S l D sz0) { frames := 2, cells := 0, slots := 0, locals := 45 } (ze_E P)) (hR : zkj_R X (zd_PV S rh) (none)) (h : zs_H) (x1 : Int32) (x2 : Int32) (x3 : Int32) (x4 : Int32) (x6 : Int32) (e : f_Mo_lookAtTwo_85 h x1 x2 x3 x4 x6 = some rh) : zk_Ab X (zs_W S h) 0 0 85 [(0, .ref (S.1 68)), (1, .int x1), (2, .int x2), (3, .int x3), (4, .int x4), (6, .int x6)] [.ref (S.1 68)] := by
  unfold f_Mo_lookAtTwo_85 at e
  refine zk_iconst (v := 1) C kd_Mo_lookAtTwo_85 (by decide) rfl ?_
  refine zk_goto (tgt := 90) C kd_Mo_lookAtTwo_86 (by decide) ?_
  refine zk_lvs (lv' := [(0, .ref (S.1 68)), (1, .int x1), (2, .int x2), (3, .int x3), (4, .int x4), (6, .int x6)]) [0, 1, 2, 3, 4, 5] rfl ?_
  exact zb_Mo_lookAtTwo_90 C hR h x1 x2 x3 x4 x6 1 e
set_option maxHeartbeats 4000000 in
set_option maxRecDepth 100000 in
theorem zb_Mo_lookAtTwo_89 {X : zkj_T} {S : zs_T} {P : ze_T} {l : Launch} {D : va_G} {sz0 : Nat} {rh : zs_H} (C : zk_C X km_Mo_lookAtTwo (zs_G S l D sz0) { frames := 2, cells := 0, slots := 0, locals := 45 } (ze_E P)) (hR : zkj_R X (zd_PV S rh) (none)) (h : zs_H) (x1 : Int32) (x2 : Int32) (x3 : Int32) (x4 : Int32) (x6 : Int32) (e : f_Mo_lookAtTwo_89 h x1 x2 x3 x4 x6 = some rh) : zk_Ab X (zs_W S h) 0 0 89 [(0, .ref (S.1 68)), (1, .int x1), (2, .int x2), (3, .int x3), (4, .int x4), (6, .int x6)] [.ref (S.1 68)] := by
  unfold f_Mo_lookAtTwo_89 at e
  refine zk_iconst (v := 0) C kd_Mo_lookAtTwo_89 (by decide) rfl ?_
  refine zk_lvs (lv' := [(0, .ref (S.1 68)), (1, .int x1), (2, .int x2), (3, .int x3), (4, .int x4), (6, .int x6)]) [0, 1, 2, 3, 4, 5] rfl ?_
  exact zb_Mo_lookAtTwo_90 C hR h x1 x2 x3 x4 x6 0 e
set_option maxHeartbeats 4000000 in
set_option maxRecDepth 100000 in
theorem zb_Mo_lookAtTwo_66 {X : zkj_T} {S : zs_T} {P : ze_T} {l : Launch} {D : va_G} {sz0 : Nat} {rh : zs_H} (C : zk_C X km_Mo_lookAtTwo (zs_G S l D sz0) { frames := 2, cells := 0, slots := 0, locals := 45 } (ze_E P)) (hR : zkj_R X (zd_PV S rh) (none)) (h : zs_H) (x1 : Int32) (x2 : Int32) (x3 : Int32) (x4 : Int32) (x5 : Int32) (y0 : Int32) (e : f_Mo_lookAtTwo_66 h x1 x2 x3 x4 x5 y0 = some rh) : zk_Ab X (zs_W S h) 0 0 66 [(0, .ref (S.1 68)), (1, .int x1), (2, .int x2), (3, .int x3), (4, .int x4), (5, .int x5)] [.int y0] := by
  unfold f_Mo_lookAtTwo_66 at e
  refine zk_istore (lv' := [(6, _), (0, _), (1, _), (2, _), (3, _), (4, _), (5, _)]) C kd_Mo_lookAtTwo_66 (by decide) rfl rfl ?_
  refine zk_aload_n C kd_Mo_lookAtTwo_68 rfl 1 rfl rfl ?_
  refine zk_iload C kd_Mo_lookAtTwo_69 6 rfl rfl ?_
  refine zk_if_ne (tgt := 89) C kd_Mo_lookAtTwo_71 (by decide) rfl (fun b1 => ?_) (fun b1 => ?_)
  · replace e := zd_neg b1 e
    refine zk_lvs (lv' := [(0, .ref (S.1 68)), (1, .int x1), (2, .int x2), (3, .int x3), (4, .int x4), (6, .int y0)]) [1, 2, 3, 4, 5, 0] rfl ?_
    exact zb_Mo_lookAtTwo_89 C hR h x1 x2 x3 x4 y0 e
  · replace e := zd_pos b1 e
    refine zk_iload C kd_Mo_lookAtTwo_74 0 rfl rfl ?_
    refine zk_if_eq (tgt := 85) C kd_Mo_lookAtTwo_76 (by decide) rfl (fun b2 => ?_) (fun b2 => ?_)
    · replace e := zd_pos b2 e
      refine zk_lvs (lv' := [(0, .ref (S.1 68)), (1, .int x1), (2, .int x2), (3, .int x3), (4, .int x4), (6, .int y0)]) [1, 2, 3, 4, 5, 0] rfl ?_
      exact zb_Mo_lookAtTwo_85 C hR h x1 x2 x3 x4 y0 e
    · replace e := zd_neg b2 e
      refine zk_iload C kd_Mo_lookAtTwo_79 5 rfl rfl ?_
      refine zk_iconst (v := 4) C kd_Mo_lookAtTwo_81 (by decide) rfl ?_
      refine zk_icmp_le (tgt := 89) C kd_Mo_lookAtTwo_82 (by decide) rfl (fun b3 => ?_) (fun b3 => ?_)
      · replace e := zd_pos b3 e
        refine zk_lvs (lv' := [(0, .ref (S.1 68)), (1, .int x1), (2, .int x2), (3, .int x3), (4, .int x4), (6, .int y0)]) [1, 2, 3, 4, 5, 0] rfl ?_
        exact zb_Mo_lookAtTwo_89 C hR h x1 x2 x3 x4 y0 e
      · replace e := zd_neg b3 e
        refine zk_lvs (lv' := [(0, .ref (S.1 68)), (1, .int x1), (2, .int x2), (3, .int x3), (4, .int x4), (6, .int y0)]) [1, 2, 3, 4, 5, 0] rfl ?_
        exact zb_Mo_lookAtTwo_85 C hR h x1 x2 x3 x4 y0 e
set_option maxHeartbeats 4000000 in
set_option maxRecDepth 100000 in
theorem zb_Mo_lookAtTwo_65 {X : zkj_T} {S : zs_T} {P : ze_T} {l : Launch} {D : va_G} {sz0 : Nat} {rh : zs_H} (C : zk_C X km_Mo_lookAtTwo (zs_G S l D sz0) { frames := 2, cells := 0, slots := 0, locals := 45 } (ze_E P)) (hR : zkj_R X (zd_PV S rh) (none)) (h : zs_H) (x1 : Int32) (x2 : Int32) (x3 : Int32) (x4 : Int32) (x5 : Int32) (e : f_Mo_lookAtTwo_65 h x1 x2 x3 x4 x5 = some rh) : zk_Ab X (zs_W S h) 0 0 65 [(0, .ref (S.1 68)), (1, .int x1), (2, .int x2), (3, .int x3), (4, .int x4), (5, .int x5)] [] := by
  unfold f_Mo_lookAtTwo_65 at e
  refine zk_iconst (v := 0) C kd_Mo_lookAtTwo_65 (by decide) rfl ?_
  refine zk_lvs (lv' := [(0, .ref (S.1 68)), (1, .int x1), (2, .int x2), (3, .int x3), (4, .int x4), (5, .int x5)]) [0, 1, 2, 3, 4, 5] rfl ?_
  exact zb_Mo_lookAtTwo_66 C hR h x1 x2 x3 x4 x5 0 e
set_option maxHeartbeats 4000000 in
set_option maxRecDepth 100000 in
theorem zb_Mo_lookAtTwo_51 {X : zkj_T} {S : zs_T} {P : ze_T} {l : Launch} {D : va_G} {sz0 : Nat} {rh : zs_H} (C : zk_C X km_Mo_lookAtTwo (zs_G S l D sz0) { frames := 2, cells := 0, slots := 0, locals := 45 } (ze_E P)) (hR : zkj_R X (zd_PV S rh) (none)) (h : zs_H) (x1 : Int32) (x2 : Int32) (x3 : Int32) (x4 : Int32) (y0 : Int32) (e : f_Mo_lookAtTwo_51 h x1 x2 x3 x4 y0 = some rh) : zk_Ab X (zs_W S h) 0 0 51 [(0, .ref (S.1 68)), (1, .int x1), (2, .int x2), (3, .int x3), (4, .int x4)] [.int y0] := by
  unfold f_Mo_lookAtTwo_51 at e
  refine zk_istore (lv' := [(5, _), (0, _), (1, _), (2, _), (3, _), (4, _)]) C kd_Mo_lookAtTwo_51 (by decide) rfl rfl ?_
  refine zk_iload_n C kd_Mo_lookAtTwo_53 rfl 3 rfl rfl ?_
  refine zk_if_ne (tgt := 65) C kd_Mo_lookAtTwo_54 (by decide) rfl (fun b1 => ?_) (fun b1 => ?_)
  · replace e := zd_neg b1 e
    refine zk_lvs (lv' := [(0, .ref (S.1 68)), (1, .int x1), (2, .int x2), (3, .int x3), (4, .int x4), (5, .int y0)]) [1, 2, 3, 4, 5, 0] rfl ?_
    exact zb_Mo_lookAtTwo_65 C hR h x1 x2 x3 x4 y0 e
  · replace e := zd_pos b1 e
    refine zk_iload_n C kd_Mo_lookAtTwo_57 rfl 4 rfl rfl ?_
    refine zk_if_ne (tgt := 65) C kd_Mo_lookAtTwo_58 (by decide) rfl (fun b2 => ?_) (fun b2 => ?_)
    · replace e := zd_neg b2 e
      refine zk_lvs (lv' := [(0, .ref (S.1 68)), (1, .int x1), (2, .int x2), (3, .int x3), (4, .int x4), (5, .int y0)]) [1, 2, 3, 4, 5, 0] rfl ?_
      exact zb_Mo_lookAtTwo_65 C hR h x1 x2 x3 x4 y0 e
    · replace e := zd_pos b2 e
      refine zk_iconst (v := 1) C kd_Mo_lookAtTwo_61 (by decide) rfl ?_
      refine zk_goto (tgt := 66) C kd_Mo_lookAtTwo_62 (by decide) ?_
      refine zk_lvs (lv' := [(0, .ref (S.1 68)), (1, .int x1), (2, .int x2), (3, .int x3), (4, .int x4), (5, .int y0)]) [1, 2, 3, 4, 5, 0] rfl ?_
      exact zb_Mo_lookAtTwo_66 C hR h x1 x2 x3 x4 y0 1 e
set_option maxHeartbeats 4000000 in
set_option maxRecDepth 100000 in
theorem zb_Mo_lookAtTwo_50 {X : zkj_T} {S : zs_T} {P : ze_T} {l : Launch} {D : va_G} {sz0 : Nat} {rh : zs_H} (C : zk_C X km_Mo_lookAtTwo (zs_G S l D sz0) { frames := 2, cells := 0, slots := 0, locals := 45 } (ze_E P)) (hR : zkj_R X (zd_PV S rh) (none)) (h : zs_H) (x1 : Int32) (x2 : Int32) (x3 : Int32) (x4 : Int32) (e : f_Mo_lookAtTwo_50 h x1 x2 x3 x4 = some rh) : zk_Ab X (zs_W S h) 0 0 50 [(0, .ref (S.1 68)), (1, .int x1), (2, .int x2), (3, .int x3), (4, .int x4)] [] := by
  unfold f_Mo_lookAtTwo_50 at e
  refine zk_iconst (v := 0) C kd_Mo_lookAtTwo_50 (by decide) rfl ?_
  refine zk_lvs (lv' := [(0, .ref (S.1 68)), (1, .int x1), (2, .int x2), (3, .int x3), (4, .int x4)]) [0, 1, 2, 3, 4] rfl ?_
  exact zb_Mo_lookAtTwo_51 C hR h x1 x2 x3 x4 0 e
set_option maxHeartbeats 4000000 in
set_option maxRecDepth 100000 in
theorem zc_Mo_lookAtTwo {l : Launch} {D : va_G} {sz0 : Nat} {S : zs_T} {P : ze_T} (h : zs_H) (x1 : Int32) {rh : zs_H} (e : f_Mo_lookAtTwo h x1 = some rh) : zk_Sp (zs_G S l D sz0) (ze_E P) km_Mo_lookAtTwo { frames := 2, cells := 0, slots := 0, locals := 45 } [.ref (S.1 68), .int x1] (zs_W S h) (zd_PV S rh) := by
  refine zk_met ku_Mo_lookAtTwo (Nat.le_of_ble_eq_true rfl) (ze_Em P) ?_
  intro X C hR
  refine zk_lvs (lv' := [(0, .ref (S.1 68)), (1, .int x1)]) [0, 1] rfl ?_
  unfold f_Mo_lookAtTwo at e
  refine zk_aload_n C kd_Mo_lookAtTwo_0 rfl 0 rfl rfl ?_
  refine zs_get (v := .ref (S.1 100)) C 68 51 rfl rfl rfl rfl ki_Mo (by decide) kw1734 kd_Mo_lookAtTwo_1 rfl ?_
  refine zk_aload_n C kd_Mo_lookAtTwo_4 rfl 0 rfl rfl ?_
  refine zs_get (v := .ref (S.1 76)) C 68 19 rfl rfl rfl rfl ki_Mo (by decide) kw1702 kd_Mo_lookAtTwo_5 rfl ?_
  refine zk_iload_n C kd_Mo_lookAtTwo_8 rfl 1 rfl rfl ?_
  obtain ⟨q1, e⟩ := zd_g e
  refine zs_iald C 76 rfl (zd_vp q1) kd_Mo_lookAtTwo_9 rfl ?_
  obtain ⟨q2, e⟩ := zd_g e
  refine zs_iald C 100 rfl (zd_vp q2) kd_Mo_lookAtTwo_10 rfl ?_
  refine zk_istore_n (lv' := [(2, _), (0, _), (1, _)]) C kd_Mo_lookAtTwo_11 rfl (by decide) rfl rfl ?_
  refine zk_aload_n C kd_Mo_lookAtTwo_12 rfl 1 rfl rfl ?_
  refine zs_get (v := .ref (S.1 100)) C 68 51 rfl rfl rfl rfl ki_Mo (by decide) kw1734 kd_Mo_lookAtTwo_13 rfl ?_
  refine zk_aload_n C kd_Mo_lookAtTwo_16 rfl 1 rfl rfl ?_
  refine zs_get (v := .ref (S.1 77)) C 68 20 rfl rfl rfl rfl ki_Mo (by decide) kw1703 kd_Mo_lookAtTwo_17 rfl ?_
  refine zk_iload_n C kd_Mo_lookAtTwo_20 rfl 2 rfl rfl ?_
  refine zs_iald C 77 rfl (zd_vp q1) kd_Mo_lookAtTwo_21 rfl ?_
  obtain ⟨q3, e⟩ := zd_g e
  refine zs_iald C 100 rfl (zd_vp q3) kd_Mo_lookAtTwo_22 rfl ?_
  refine zk_istore_n (lv' := [(3, _), (2, _), (0, _), (1, _)]) C kd_Mo_lookAtTwo_23 rfl (by decide) rfl rfl ?_
  refine zk_aload_n C kd_Mo_lookAtTwo_24 rfl 2 rfl rfl ?_
  refine zs_get (v := .ref (S.1 74)) C 68 17 rfl rfl rfl rfl ki_Mo (by decide) kw1700 kd_Mo_lookAtTwo_25 rfl ?_
  refine zk_iload_n C kd_Mo_lookAtTwo_28 rfl 3 rfl rfl ?_
  refine zs_iald C 74 rfl (zd_vp q1) kd_Mo_lookAtTwo_29 rfl ?_
  refine zk_istore (lv' := [(4, _), (3, _), (2, _), (0, _), (1, _)]) C kd_Mo_lookAtTwo_30 (by decide) rfl rfl ?_
  refine zk_iload_n C kd_Mo_lookAtTwo_32 rfl 2 rfl rfl ?_
  refine zk_callS (rn := { frames := 0, cells := 0, slots := 0, locals := 0 }) (As := [.int (h.2.1 100 (h.2.1 76 x1.toNatClampNeg).toNatClampNeg)]) (rest := []) C (zc_Mo_isNumber h (h.2.1 100 (h.2.1 76 x1.toNatClampNeg).toNatClampNeg)) ku_Mo_isNumber kw2469 ks_Mo_isNumber rfl ⟨by decide, by decide⟩ ⟨by decide, by decide⟩ rfl (Nat.le_of_ble_eq_true rfl) kd_Mo_lookAtTwo_33 rfl (c1 := 0) (s1 := 0) rfl rfl (fun v w hp => ?_)
  obtain ⟨rfl, rfl, z4⟩ := hp
  refine zk_stk (r' := [.int (f_Mo_isNumber (h.2.1 100 (h.2.1 76 x1.toNatClampNeg).toNatClampNeg))]) rfl ?_
  refine zk_if_eq (tgt := 50) C kd_Mo_lookAtTwo_36 (by decide) rfl (fun b5 => ?_) (fun b5 => ?_)
  · replace e := zd_pos b5 e
    refine zk_lvs (lv' := [(0, .ref (S.1 68)), (1, .int x1), (2, .int (h.2.1 100 (h.2.1 76 x1.toNatClampNeg).toNatClampNeg)), (3, .int (h.2.1 100 (h.2.1 77 x1.toNatClampNeg).toNatClampNeg)), (4, .int (h.2.1 74 x1.toNatClampNeg))]) [3, 4, 2, 1, 0] rfl ?_
    exact zb_Mo_lookAtTwo_50 C hR h x1 (h.2.1 100 (h.2.1 76 x1.toNatClampNeg).toNatClampNeg) (h.2.1 100 (h.2.1 77 x1.toNatClampNeg).toNatClampNeg) (h.2.1 74 x1.toNatClampNeg) e
  · replace e := zd_neg b5 e
    refine zk_iload_n C kd_Mo_lookAtTwo_39 rfl 1 rfl rfl ?_
    refine zk_callS (rn := { frames := 0, cells := 0, slots := 0, locals := 0 }) (As := [.int (h.2.1 100 (h.2.1 77 x1.toNatClampNeg).toNatClampNeg)]) (rest := []) C (zc_Mo_isNumber h (h.2.1 100 (h.2.1 77 x1.toNatClampNeg).toNatClampNeg)) ku_Mo_isNumber kw2469 ks_Mo_isNumber rfl ⟨by decide, by decide⟩ ⟨by decide, by decide⟩ rfl (Nat.le_of_ble_eq_true rfl) kd_Mo_lookAtTwo_40 rfl (c1 := 0) (s1 := 0) rfl rfl (fun v w hp => ?_)
    obtain ⟨rfl, rfl, z6⟩ := hp
    refine zk_stk (r' := [.int (f_Mo_isNumber (h.2.1 100 (h.2.1 77 x1.toNatClampNeg).toNatClampNeg))]) rfl ?_
    refine zk_if_eq (tgt := 50) C kd_Mo_lookAtTwo_43 (by decide) rfl (fun b7 => ?_) (fun b7 => ?_)
    · replace e := zd_pos b7 e
      refine zk_lvs (lv' := [(0, .ref (S.1 68)), (1, .int x1), (2, .int (h.2.1 100 (h.2.1 76 x1.toNatClampNeg).toNatClampNeg)), (3, .int (h.2.1 100 (h.2.1 77 x1.toNatClampNeg).toNatClampNeg)), (4, .int (h.2.1 74 x1.toNatClampNeg))]) [3, 4, 2, 1, 0] rfl ?_
      exact zb_Mo_lookAtTwo_50 C hR h x1 (h.2.1 100 (h.2.1 76 x1.toNatClampNeg).toNatClampNeg) (h.2.1 100 (h.2.1 77 x1.toNatClampNeg).toNatClampNeg) (h.2.1 74 x1.toNatClampNeg) e
    · replace e := zd_neg b7 e
      refine zk_iconst (v := 1) C kd_Mo_lookAtTwo_46 (by decide) rfl ?_
      refine zk_goto (tgt := 51) C kd_Mo_lookAtTwo_47 (by decide) ?_
      refine zk_lvs (lv' := [(0, .ref (S.1 68)), (1, .int x1), (2, .int (h.2.1 100 (h.2.1 76 x1.toNatClampNeg).toNatClampNeg)), (3, .int (h.2.1 100 (h.2.1 77 x1.toNatClampNeg).toNatClampNeg)), (4, .int (h.2.1 74 x1.toNatClampNeg))]) [3, 4, 2, 1, 0] rfl ?_
      exact zb_Mo_lookAtTwo_51 C hR h x1 (h.2.1 100 (h.2.1 76 x1.toNatClampNeg).toNatClampNeg) (h.2.1 100 (h.2.1 77 x1.toNatClampNeg).toNatClampNeg) (h.2.1 74 x1.toNatClampNeg) 1 e
set_option maxHeartbeats 4000000 in
set_option maxRecDepth 100000 in
theorem zb_Mo_input_42 {X : zkj_T} {S : zs_T} {P : ze_T} {l : Launch} {D : va_G} {sz0 : Nat} {rv : Int32} {h : zs_H} (C : zk_C X km_Mo_input (zs_G S l D sz0) { frames := 0, cells := 0, slots := 0, locals := 0 } (ze_E P)) (hR : zkj_R X (zd_PI S rv h) (some .int)) {k10 : Int32 → Int32 → (Option Int32)} (hk10 : ∀ (x3 : Int32) (x4 : Int32), k10 x3 x4 = some rv → zk_Ab X (zs_W S h) 0 0 10 [(0, .ref (S.1 68)), (3, .int x3), (4, .int x4)] []) (x4 : Int32) (y0 : Int32) (y1 : Int32) (e : f_Mo_input_42 h k10 x4 y0 y1 = some rv) : zk_Ab X (zs_W S h) 0 0 42 [(0, .ref (S.1 68)), (4, .int x4)] [.int y0, .int y1] := by
  unfold f_Mo_input_42 at e
  refine zk_isub C kd_Mo_input_42 rfl ?_
  refine zk_istore_n (lv' := [(3, _), (0, _), (4, _)]) C kd_Mo_input_43 rfl (by decide) rfl rfl ?_
  refine zk_iinc (v := (x4 + 1)) (lv' := [(4, _), (3, _), (0, _)]) C kd_Mo_input_44 2 rfl rfl (by decide) rfl rfl ?_
  refine zk_goto (tgt := 10) C kd_Mo_input_47 (by decide) ?_
  refine zk_lvs (lv' := [(0, .ref (S.1 68)), (3, .int (y1 - y0)), (4, .int (x4 + 1))]) [2, 1, 0] rfl ?_
  exact hk10 (y1 - y0) (x4 + 1) e
set_option maxHeartbeats 4000000 in
set_option maxRecDepth 100000 in
theorem zb_Mo_input_25 {X : zkj_T} {S : zs_T} {P : ze_T} {l : Launch} {D : va_G} {sz0 : Nat} {rv : Int32} {h : zs_H} (C : zk_C X km_Mo_input (zs_G S l D sz0) { frames := 0, cells := 0, slots := 0, locals := 0 } (ze_E P)) (hR : zkj_R X (zd_PI S rv h) (some .int)) {k10 : Int32 → Int32 → (Option Int32)} (hk10 : ∀ (x3 : Int32) (x4 : Int32), k10 x3 x4 = some rv → zk_Ab X (zs_W S h) 0 0 10 [(0, .ref (S.1 68)), (3, .int x3), (4, .int x4)] []) (x3 : Int32) (x4 : Int32) (e : f_Mo_input_25 h k10 x3 x4 = some rv) : zk_Ab X (zs_W S h) 0 0 25 [(0, .ref (S.1 68)), (3, .int x3), (4, .int x4)] [] := by
  unfold f_Mo_input_25 at e
  refine zk_iload_n C kd_Mo_input_25 rfl 1 rfl rfl ?_
  refine zk_aload_n C kd_Mo_input_26 rfl 0 rfl rfl ?_
  refine zs_get (v := .ref (S.1 95)) C 68 46 rfl rfl rfl rfl ki_Mo (by decide) kw1729 kd_Mo_input_27 rfl ?_
  refine zk_iload C kd_Mo_input_30 2 rfl rfl ?_
  obtain ⟨q1, e⟩ := zd_g e
  refine zs_iald C 95 rfl (zd_vp q1) kd_Mo_input_32 rfl ?_
  refine zk_iconst (v := 1) C kd_Mo_input_33 (by decide) rfl ?_
  refine zk_icmp_ne (tgt := 41) C kd_Mo_input_34 (by decide) rfl (fun b2 => ?_) (fun b2 => ?_)
  · replace e := zd_neg b2 e
    refine zk_iconst (v := 0) C kd_Mo_input_41 (by decide) rfl ?_
    refine zk_lvs (lv' := [(0, .ref (S.1 68)), (4, .int x4)]) [0, 2] rfl ?_
    exact zb_Mo_input_42 C hR hk10 x4 0 x3 e
  · replace e := zd_pos b2 e
    refine zk_iconst (v := 1) C kd_Mo_input_37 (by decide) rfl ?_
    refine zk_goto (tgt := 42) C kd_Mo_input_38 (by decide) ?_
    refine zk_lvs (lv' := [(0, .ref (S.1 68)), (4, .int x4)]) [0, 2] rfl ?_
    exact zb_Mo_input_42 C hR hk10 x4 1 x3 e
set_option maxHeartbeats 4000000 in
set_option maxRecDepth 100000 in
theorem zb_Mo_input_10 {X : zkj_T} {S : zs_T} {P : ze_T} {l : Launch} {D : va_G} {sz0 : Nat} {rv : Int32} {h : zs_H} (C : zk_C X km_Mo_input (zs_G S l D sz0) { frames := 0, cells := 0, slots := 0, locals := 0 } (ze_E P)) (hR : zkj_R X (zd_PI S rv h) (some .int)) {k10 : Int32 → Int32 → (Option Int32)} (hk10 : ∀ (x3 : Int32) (x4 : Int32), k10 x3 x4 = some rv → zk_Ab X (zs_W S h) 0 0 10 [(0, .ref (S.1 68)), (3, .int x3), (4, .int x4)] []) (x3 : Int32) (x4 : Int32) (e : f_Mo_input_10 h k10 x3 x4 = some rv) : zk_Ab X (zs_W S h) 0 0 10 [(0, .ref (S.1 68)), (3, .int x3), (4, .int x4)] [] := by
  unfold f_Mo_input_10 at e
  refine zk_aload_n C kd_Mo_input_10 rfl 0 rfl rfl ?_
  refine zs_get (v := .ref (S.1 95)) C 68 46 rfl rfl rfl rfl ki_Mo (by decide) kw1729 kd_Mo_input_11 rfl ?_
  refine zk_iload C kd_Mo_input_14 2 rfl rfl ?_
  obtain ⟨q1, e⟩ := zd_g e
  refine zs_iald C 95 rfl (zd_vp q1) kd_Mo_input_16 rfl ?_
  refine zk_iconst (v := 1) C kd_Mo_input_17 (by decide) rfl ?_
  refine zk_icmp_ne (tgt := 25) C kd_Mo_input_18 (by decide) rfl (fun b2 => ?_) (fun b2 => ?_)
  · replace e := zd_neg b2 e
    refine zk_lvs (lv' := [(0, .ref (S.1 68)), (3, .int x3), (4, .int x4)]) [0, 1, 2] rfl ?_
    exact zb_Mo_input_25 C hR hk10 x3 x4 e
  · replace e := zd_pos b2 e
    refine zk_iload_n C kd_Mo_input_21 rfl 1 rfl rfl ?_
    refine zk_if_le (tgt := 50) C kd_Mo_input_22 (by decide) rfl (fun b3 => ?_) (fun b3 => ?_)
    · replace e := zd_pos b3 e
      refine zk_iload C kd_Mo_input_50 2 rfl rfl ?_
      exact zk_iret C hR kd_Mo_input_52 rfl rfl (zd_rIO e)
    · replace e := zd_neg b3 e
      refine zk_lvs (lv' := [(0, .ref (S.1 68)), (3, .int x3), (4, .int x4)]) [0, 1, 2] rfl ?_
      exact zb_Mo_input_25 C hR hk10 x3 x4 e
theorem zl_Mo_input_10 {X : zkj_T} {S : zs_T} {P : ze_T} {l : Launch} {D : va_G} {sz0 : Nat} {rv : Int32} {h : zs_H} (C : zk_C X km_Mo_input (zs_G S l D sz0) { frames := 0, cells := 0, slots := 0, locals := 0 } (ze_E P)) (hR : zkj_R X (zd_PI S rv h) (some .int)) (n : Nat) : ∀ (x3 : Int32) (x4 : Int32), f_Mo_input_L10 h n x3 x4 = some rv → zk_Ab X (zs_W S h) 0 0 10 [(0, .ref (S.1 68)), (3, .int x3), (4, .int x4)] [] := by
  induction n with
  | zero => intro x3 x4 e; exact zd_no e
  | succ n ih => intro x3 x4 e; exact zb_Mo_input_10 (k10 := f_Mo_input_L10 h n) C hR ih x3 x4 e
set_option maxHeartbeats 4000000 in
set_option maxRecDepth 100000 in
theorem zc_Mo_input {l : Launch} {D : va_G} {sz0 : Nat} {S : zs_T} {P : ze_T} (h : zs_H) (x1 : Int32) (x2 : Int32) {rv : Int32} (e : f_Mo_input h x1 x2 = some rv) : zk_Sp (zs_G S l D sz0) (ze_E P) km_Mo_input { frames := 0, cells := 0, slots := 0, locals := 0 } [.ref (S.1 68), .int x1, .int x2] (zs_W S h) (zd_PI S rv h) := by
  refine zk_met ku_Mo_input (Nat.le_of_ble_eq_true rfl) (ze_Em P) ?_
  intro X C hR
  refine zk_lvs (lv' := [(0, .ref (S.1 68)), (1, .int x1), (2, .int x2)]) [0, 1, 2] rfl ?_
  unfold f_Mo_input at e
  refine zk_iload_n C kd_Mo_input_0 rfl 2 rfl rfl ?_
  refine zk_istore_n (lv' := [(3, _), (0, _), (1, _), (2, _)]) C kd_Mo_input_1 rfl (by decide) rfl rfl ?_
  refine zk_aload_n C kd_Mo_input_2 rfl 1 rfl rfl ?_
  refine zs_get (v := .ref (S.1 90)) C 68 40 rfl rfl rfl rfl ki_Mo (by decide) kw1723 kd_Mo_input_3 rfl ?_
  refine zk_iload_n C kd_Mo_input_6 rfl 2 rfl rfl ?_
  obtain ⟨q1, e⟩ := zd_g e
  refine zs_iald C 90 rfl (zd_vp q1) kd_Mo_input_7 rfl ?_
  refine zk_istore (lv' := [(4, _), (3, _), (0, _), (1, _), (2, _)]) C kd_Mo_input_8 (by decide) rfl rfl ?_
  refine zk_lvs (lv' := [(0, .ref (S.1 68)), (3, .int x2), (4, .int (h.2.1 90 x1.toNatClampNeg))]) [2, 1, 0] rfl ?_
  exact zl_Mo_input_10 C hR zF x2 (h.2.1 90 x1.toNatClampNeg) e
set_option maxHeartbeats 4000000 in
set_option maxRecDepth 100000 in
theorem zb_Mo_callOwn_75 {X : zkj_T} {S : zs_T} {P : ze_T} {l : Launch} {D : va_G} {sz0 : Nat} {rh : zs_H} (C : zk_C X km_Mo_callOwn (zs_G S l D sz0) { frames := 2, cells := 0, slots := 0, locals := 45 } (ze_E P)) (hR : zkj_R X (zd_PV S rh) (none)) {k32 : zs_H → Int32 → Int32 → Int32 → Int32 → (Option zs_H)} (hk32 : ∀ (h : zs_H) (x1 : Int32) (x2 : Int32) (x4 : Int32) (x5 : Int32), k32 h x1 x2 x4 x5 = some rh → zk_Ab X (zs_W S h) 0 0 32 [(0, .ref (S.1 68)), (1, .int x1), (2, .int x2), (4, .int x4), (5, .int x5)] []) (h : zs_H) (x1 : Int32) (x2 : Int32) (x4 : Int32) (x5 : Int32) (y0 : Int32) (e : f_Mo_callOwn_75 k32 h x1 x2 x4 x5 y0 = some rh) : zk_Ab X (zs_W S h) 0 0 75 [(0, .ref (S.1 68)), (1, .int x1), (2, .int x2), (4, .int x4), (5, .int x5)] [.int y0, .ref (S.1 68)] := by
  unfold f_Mo_callOwn_75 at e
  refine zk_bipush (v := 26) C kd_Mo_callOwn_75 (by decide) rfl ?_
  refine zk_iload_n C kd_Mo_callOwn_77 rfl 1 rfl rfl ?_
  obtain ⟨h2, c1, e⟩ := zd_b e
  refine zs_callV (k := 68) (rn := { frames := 1, cells := 0, slots := 0, locals := 22 }) (As := [.int y0, .int 26, .int x1]) (rest := []) C (zc_Mo_rule h y0 26 x1 c1) ku_Mo_rule kw2260 kv_Mo_rule rfl ⟨by decide, by decide⟩ ⟨by decide, by decide⟩ rfl rfl rfl (Nat.le_of_ble_eq_true rfl) kd_Mo_callOwn_78 rfl (c1 := 0) (s1 := 0) rfl rfl (fun v w hp => ?_)
  obtain ⟨rfl, rfl⟩ := hp
  refine zk_stk (r' := []) rfl ?_
  refine zk_iinc (v := (x4 + 1)) (lv' := [(4, _), (0, _), (1, _), (2, _), (5, _)]) C kd_Mo_callOwn_81 3 rfl rfl (by decide) rfl rfl ?_
  refine zk_aload_n C kd_Mo_callOwn_84 rfl 1 rfl rfl ?_
  refine zs_get (v := .ref (S.1 78)) C 68 21 rfl rfl rfl rfl ki_Mo (by decide) kw1704 kd_Mo_callOwn_85 rfl ?_
  refine zk_iload C kd_Mo_callOwn_88 4 rfl rfl ?_
  obtain ⟨q3, e⟩ := zd_g e
  refine zs_iald C 78 rfl (zd_vp q3) kd_Mo_callOwn_90 rfl ?_
  refine zk_istore (lv' := [(5, _), (4, _), (0, _), (1, _), (2, _)]) C kd_Mo_callOwn_91 (by decide) rfl rfl ?_
  refine zk_goto (tgt := 32) C kd_Mo_callOwn_93 (by decide) ?_
  refine zk_lvs (lv' := [(0, .ref (S.1 68)), (1, .int x1), (2, .int x2), (4, .int (x4 + 1)), (5, .int (h2.2.1 78 x5.toNatClampNeg))]) [2, 3, 4, 1, 0] rfl ?_
  exact hk32 h2 x1 x2 (x4 + 1) (h2.2.1 78 x5.toNatClampNeg) e
set_option maxHeartbeats 4000000 in
set_option maxRecDepth 100000 in
theorem zb_Mo_callOwn_96 {X : zkj_T} {S : zs_T} {P : ze_T} {l : Launch} {D : va_G} {sz0 : Nat} {rh : zs_H} (C : zk_C X km_Mo_callOwn (zs_G S l D sz0) { frames := 2, cells := 0, slots := 0, locals := 45 } (ze_E P)) (hR : zkj_R X (zd_PV S rh) (none)) (h : zs_H) (x1 : Int32) (x2 : Int32) (e : f_Mo_callOwn_96 h x1 x2 = some rh) : zk_Ab X (zs_W S h) 0 0 96 [(0, .ref (S.1 68)), (1, .int x1), (2, .int x2)] [] := by
  unfold f_Mo_callOwn_96 at e
  refine zk_aload_n C kd_Mo_callOwn_96 rfl 0 rfl rfl ?_
  refine zs_get (v := .ref (S.1 102)) C 68 53 rfl rfl rfl rfl ki_Mo (by decide) kw1736 kd_Mo_callOwn_97 rfl ?_
  refine zk_iload_n C kd_Mo_callOwn_100 rfl 1 rfl rfl ?_
  refine zk_iload_n C kd_Mo_callOwn_101 rfl 2 rfl rfl ?_
  obtain ⟨q1, e⟩ := zd_g e
  refine zs_iast C 102 rfl (zd_vp q1) kd_Mo_callOwn_102 rfl ?_
  refine zk_aload_n C kd_Mo_callOwn_103 rfl 0 rfl rfl ?_
  refine zs_get (v := .ref (S.1 100)) C 68 51 rfl rfl rfl rfl ki_Mo (by decide) kw1734 kd_Mo_callOwn_104 rfl ?_
  refine zk_iload_n C kd_Mo_callOwn_107 rfl 1 rfl rfl ?_
  refine zk_aload_n C kd_Mo_callOwn_108 rfl 0 rfl rfl ?_
  refine zs_get (v := .ref (S.1 87)) C 68 37 rfl rfl rfl rfl ki_Mo (by decide) kw1720 kd_Mo_callOwn_109 rfl ?_
  refine zk_iload_n C kd_Mo_callOwn_112 rfl 2 rfl rfl ?_
  obtain ⟨q2, e⟩ := zd_g e
  refine zs_iald C 87 rfl (zd_vp q2) kd_Mo_callOwn_113 rfl ?_
  refine zk_stk (r' := [.int (h.2.1 87 x2.toNatClampNeg), .int x1, .ref (S.1 100)]) rfl ?_
  refine zs_iast C 100 rfl (zd_vp q1) kd_Mo_callOwn_114 rfl ?_
  exact zk_vret C hR kd_Mo_callOwn_115 rfl rfl (zd_rV e)
set_option maxHeartbeats 4000000 in
set_option maxRecDepth 100000 in
theorem zb_Mo_callOwn_32 {X : zkj_T} {S : zs_T} {P : ze_T} {l : Launch} {D : va_G} {sz0 : Nat} {rh : zs_H} (C : zk_C X km_Mo_callOwn (zs_G S l D sz0) { frames := 2, cells := 0, slots := 0, locals := 45 } (ze_E P)) (hR : zkj_R X (zd_PV S rh) (none)) {k32 : zs_H → Int32 → Int32 → Int32 → Int32 → (Option zs_H)} (hk32 : ∀ (h : zs_H) (x1 : Int32) (x2 : Int32) (x4 : Int32) (x5 : Int32), k32 h x1 x2 x4 x5 = some rh → zk_Ab X (zs_W S h) 0 0 32 [(0, .ref (S.1 68)), (1, .int x1), (2, .int x2), (4, .int x4), (5, .int x5)] []) (h : zs_H) (x1 : Int32) (x2 : Int32) (x4 : Int32) (x5 : Int32) (e : f_Mo_callOwn_32 k32 h x1 x2 x4 x5 = some rh) : zk_Ab X (zs_W S h) 0 0 32 [(0, .ref (S.1 68)), (1, .int x1), (2, .int x2), (4, .int x4), (5, .int x5)] [] := by
  unfold f_Mo_callOwn_32 at e
  refine zk_iload C kd_Mo_callOwn_32 4 rfl rfl ?_
  refine zk_if_lt (tgt := 96) C kd_Mo_callOwn_34 (by decide) rfl (fun b1 => ?_) (fun b1 => ?_)
  · replace e := zd_pos b1 e
    refine zk_lvs (lv' := [(0, .ref (S.1 68)), (1, .int x1), (2, .int x2)]) [0, 1, 2] rfl ?_
    exact zb_Mo_callOwn_96 C hR h x1 x2 e
  · replace e := zd_neg b1 e
    refine zk_aload_n C kd_Mo_callOwn_37 rfl 0 rfl rfl ?_
    refine zs_get (v := .int (h.1 68 29)) C 68 29 rfl rfl rfl rfl ki_Mo (by decide) kw1712 kd_Mo_callOwn_38 rfl ?_
    refine zk_if_ne (tgt := 96) C kd_Mo_callOwn_41 (by decide) rfl (fun b2 => ?_) (fun b2 => ?_)
    · replace e := zd_neg b2 e
      refine zk_lvs (lv' := [(0, .ref (S.1 68)), (1, .int x1), (2, .int x2)]) [0, 1, 2] rfl ?_
      exact zb_Mo_callOwn_96 C hR h x1 x2 e
    · replace e := zd_pos b2 e
      refine zk_aload_n C kd_Mo_callOwn_44 rfl 0 rfl rfl ?_
      refine zk_aload_n C kd_Mo_callOwn_45 rfl 0 rfl rfl ?_
      refine zs_get (v := .ref (S.1 100)) C 68 51 rfl rfl rfl rfl ki_Mo (by decide) kw1734 kd_Mo_callOwn_46 rfl ?_
      refine zk_iload C kd_Mo_callOwn_49 4 rfl rfl ?_
      obtain ⟨q3, e⟩ := zd_g e
      refine zs_iald C 100 rfl (zd_vp q3) kd_Mo_callOwn_51 rfl ?_
      refine zk_aload_n C kd_Mo_callOwn_52 rfl 0 rfl rfl ?_
      refine zs_get (v := .ref (S.1 93)) C 68 44 rfl rfl rfl rfl ki_Mo (by decide) kw1727 kd_Mo_callOwn_53 rfl ?_
      refine zk_aload_n C kd_Mo_callOwn_56 rfl 0 rfl rfl ?_
      refine zk_iload_n C kd_Mo_callOwn_57 rfl 2 rfl rfl ?_
      refine zk_iload C kd_Mo_callOwn_58 3 rfl rfl ?_
      obtain ⟨v5, c4, e⟩ := zd_b e
      refine zs_callV (k := 68) (rn := { frames := 0, cells := 0, slots := 0, locals := 0 }) (As := [.int x2, .int x4]) (rest := [.ref (S.1 93), .int (h.2.1 100 x5.toNatClampNeg), .ref (S.1 68)]) C (zc_Mo_input h x2 x4 c4) ku_Mo_input kw2508 kv_Mo_input rfl ⟨by decide, by decide⟩ ⟨by decide, by decide⟩ rfl rfl rfl (Nat.le_of_ble_eq_true rfl) kd_Mo_callOwn_60 rfl (c1 := 0) (s1 := 0) rfl rfl (fun v w hp => ?_)
      obtain ⟨rfl, rfl⟩ := hp
      refine zk_stk (r' := [.int v5, .ref (S.1 93), .int (h.2.1 100 x5.toNatClampNeg), .ref (S.1 68)]) rfl ?_
      obtain ⟨q6, e⟩ := zd_g e
      refine zs_iald C 93 rfl (zd_vp q6) kd_Mo_callOwn_63 rfl ?_
      refine zk_callS (rn := { frames := 0, cells := 0, slots := 0, locals := 0 }) (As := [.int (h.2.1 100 x5.toNatClampNeg), .int (h.2.1 93 v5.toNatClampNeg)]) (rest := [.ref (S.1 68)]) C (zc_Mo_fits h (h.2.1 100 x5.toNatClampNeg) (h.2.1 93 v5.toNatClampNeg)) ku_Mo_fits kw2351 ks_Mo_fits rfl ⟨by decide, by decide⟩ ⟨by decide, by decide⟩ rfl (Nat.le_of_ble_eq_true rfl) kd_Mo_callOwn_64 rfl (c1 := 0) (s1 := 0) rfl rfl (fun v w hp => ?_)
      obtain ⟨rfl, rfl, z7⟩ := hp
      refine zk_stk (r' := [.int (f_Mo_fits (h.2.1 100 x5.toNatClampNeg) (h.2.1 93 v5.toNatClampNeg)), .ref (S.1 68)]) rfl ?_
      refine zk_if_ne (tgt := 74) C kd_Mo_callOwn_67 (by decide) rfl (fun b8 => ?_) (fun b8 => ?_)
      · replace e := zd_neg b8 e
        refine zk_iconst (v := 0) C kd_Mo_callOwn_74 (by decide) rfl ?_
        refine zk_lvs (lv' := [(0, .ref (S.1 68)), (1, .int x1), (2, .int x2), (4, .int x4), (5, .int x5)]) [0, 1, 2, 3, 4] rfl ?_
        exact zb_Mo_callOwn_75 C hR hk32 h x1 x2 x4 x5 0 e
      · replace e := zd_pos b8 e
        refine zk_iconst (v := 1) C kd_Mo_callOwn_70 (by decide) rfl ?_
        refine zk_goto (tgt := 75) C kd_Mo_callOwn_71 (by decide) ?_
        refine zk_lvs (lv' := [(0, .ref (S.1 68)), (1, .int x1), (2, .int x2), (4, .int x4), (5, .int x5)]) [0, 1, 2, 3, 4] rfl ?_
        exact zb_Mo_callOwn_75 C hR hk32 h x1 x2 x4 x5 1 e
theorem zl_Mo_callOwn_32 {X : zkj_T} {S : zs_T} {P : ze_T} {l : Launch} {D : va_G} {sz0 : Nat} {rh : zs_H} (C : zk_C X km_Mo_callOwn (zs_G S l D sz0) { frames := 2, cells := 0, slots := 0, locals := 45 } (ze_E P)) (hR : zkj_R X (zd_PV S rh) (none)) (n : Nat) : ∀ (h : zs_H) (x1 : Int32) (x2 : Int32) (x4 : Int32) (x5 : Int32), f_Mo_callOwn_L32 n h x1 x2 x4 x5 = some rh → zk_Ab X (zs_W S h) 0 0 32 [(0, .ref (S.1 68)), (1, .int x1), (2, .int x2), (4, .int x4), (5, .int x5)] [] := by
  induction n with
  | zero => intro h x1 x2 x4 x5 e; exact zd_no e
  | succ n ih => intro h x1 x2 x4 x5 e; exact zb_Mo_callOwn_32 (k32 := f_Mo_callOwn_L32  n) C hR ih h x1 x2 x4 x5 e
set_option maxHeartbeats 4000000 in
set_option maxRecDepth 100000 in
theorem zb_Mo_callOwn_15 {X : zkj_T} {S : zs_T} {P : ze_T} {l : Launch} {D : va_G} {sz0 : Nat} {rh : zs_H} (C : zk_C X km_Mo_callOwn (zs_G S l D sz0) { frames := 2, cells := 0, slots := 0, locals := 45 } (ze_E P)) (hR : zkj_R X (zd_PV S rh) (none)) (h : zs_H) (x1 : Int32) (x2 : Int32) (y0 : Int32) (e : f_Mo_callOwn_15 h x1 x2 y0 = some rh) : zk_Ab X (zs_W S h) 0 0 15 [(0, .ref (S.1 68)), (1, .int x1), (2, .int x2)] [.int y0, .ref (S.1 68)] := by
  unfold f_Mo_callOwn_15 at e
  refine zk_bipush (v := 25) C kd_Mo_callOwn_15 (by decide) rfl ?_
  refine zk_iload_n C kd_Mo_callOwn_17 rfl 1 rfl rfl ?_
  obtain ⟨h2, c1, e⟩ := zd_b e
  refine zs_callV (k := 68) (rn := { frames := 1, cells := 0, slots := 0, locals := 22 }) (As := [.int y0, .int 25, .int x1]) (rest := []) C (zc_Mo_rule h y0 25 x1 c1) ku_Mo_rule kw2260 kv_Mo_rule rfl ⟨by decide, by decide⟩ ⟨by decide, by decide⟩ rfl rfl rfl (Nat.le_of_ble_eq_true rfl) kd_Mo_callOwn_18 rfl (c1 := 0) (s1 := 0) rfl rfl (fun v w hp => ?_)
  obtain ⟨rfl, rfl⟩ := hp
  refine zk_stk (r' := []) rfl ?_
  refine zk_iconst (v := 0) C kd_Mo_callOwn_21 (by decide) rfl ?_
  refine zk_istore (lv' := [(4, _), (0, _), (1, _), (2, _)]) C kd_Mo_callOwn_22 (by decide) rfl rfl ?_
  refine zk_aload_n C kd_Mo_callOwn_24 rfl 1 rfl rfl ?_
  refine zs_get (v := .ref (S.1 76)) C 68 19 rfl rfl rfl rfl ki_Mo (by decide) kw1702 kd_Mo_callOwn_25 rfl ?_
  refine zk_iload_n C kd_Mo_callOwn_28 rfl 2 rfl rfl ?_
  obtain ⟨q3, e⟩ := zd_g e
  refine zs_iald C 76 rfl (zd_vp q3) kd_Mo_callOwn_29 rfl ?_
  refine zk_istore (lv' := [(5, _), (4, _), (0, _), (1, _), (2, _)]) C kd_Mo_callOwn_30 (by decide) rfl rfl ?_
  refine zk_lvs (lv' := [(0, .ref (S.1 68)), (1, .int x1), (2, .int x2), (4, .int 0), (5, .int (h2.2.1 76 x1.toNatClampNeg))]) [2, 3, 4, 1, 0] rfl ?_
  exact zl_Mo_callOwn_32 C hR zF h2 x1 x2 0 (h2.2.1 76 x1.toNatClampNeg) e
set_option maxHeartbeats 4000000 in
set_option maxRecDepth 100000 in
theorem zc_Mo_callOwn {l : Launch} {D : va_G} {sz0 : Nat} {S : zs_T} {P : ze_T} (h : zs_H) (x1 : Int32) (x2 : Int32) (x3 : Int32) {rh : zs_H} (e : f_Mo_callOwn h x1 x2 x3 = some rh) : zk_Sp (zs_G S l D sz0) (ze_E P) km_Mo_callOwn { frames := 2, cells := 0, slots := 0, locals := 45 } [.ref (S.1 68), .int x1, .int x2, .int x3] (zs_W S h) (zd_PV S rh) := by
  refine zk_met ku_Mo_callOwn (Nat.le_of_ble_eq_true rfl) (ze_Em P) ?_
  intro X C hR
  refine zk_lvs (lv' := [(0, .ref (S.1 68)), (1, .int x1), (2, .int x2), (3, .int x3)]) [0, 1, 2, 3] rfl ?_
  unfold f_Mo_callOwn at e
  refine zk_aload_n C kd_Mo_callOwn_0 rfl 0 rfl rfl ?_
  refine zk_iload_n C kd_Mo_callOwn_1 rfl 3 rfl rfl ?_
  refine zk_aload_n C kd_Mo_callOwn_2 rfl 0 rfl rfl ?_
  refine zk_iload_n C kd_Mo_callOwn_3 rfl 2 rfl rfl ?_
  obtain ⟨v2, c1, e⟩ := zd_b e
  refine zs_callV (k := 68) (rn := { frames := 0, cells := 0, slots := 0, locals := 0 }) (As := [.int x2]) (rest := [.int x3, .ref (S.1 68)]) C (zc_Mo_inputs h x2 c1) ku_Mo_inputs kw2298 kv_Mo_inputs rfl ⟨by decide, by decide⟩ ⟨by decide, by decide⟩ rfl rfl rfl (Nat.le_of_ble_eq_true rfl) kd_Mo_callOwn_4 rfl (c1 := 0) (s1 := 0) rfl rfl (fun v w hp => ?_)
  obtain ⟨rfl, rfl⟩ := hp
  refine zk_stk (r' := [.int v2, .int x3, .ref (S.1 68)]) rfl ?_
  refine zk_icmp_eq (tgt := 14) C kd_Mo_callOwn_7 (by decide) rfl (fun b3 => ?_) (fun b3 => ?_)
  · replace e := zd_pos b3 e
    refine zk_iconst (v := 0) C kd_Mo_callOwn_14 (by decide) rfl ?_
    refine zk_lvs (lv' := [(0, .ref (S.1 68)), (1, .int x1), (2, .int x2)]) [0, 1, 2] rfl ?_
    exact zb_Mo_callOwn_15 C hR h x1 x2 0 e
  · replace e := zd_neg b3 e
    refine zk_iconst (v := 1) C kd_Mo_callOwn_10 (by decide) rfl ?_
    refine zk_goto (tgt := 15) C kd_Mo_callOwn_11 (by decide) ?_
    refine zk_lvs (lv' := [(0, .ref (S.1 68)), (1, .int x1), (2, .int x2)]) [0, 1, 2] rfl ?_
    exact zb_Mo_callOwn_15 C hR h x1 x2 1 e
set_option maxHeartbeats 4000000 in
set_option maxRecDepth 100000 in
theorem zb_Mo_lookAtCall_117 {X : zkj_T} {S : zs_T} {P : ze_T} {l : Launch} {D : va_G} {sz0 : Nat} {rh : zs_H} (C : zk_C X km_Mo_lookAtCall (zs_G S l D sz0) { frames := 5, cells := 0, slots := 0, locals := 111 } (ze_E P)) (hR : zkj_R X (zd_PV S rh) (none)) {k86 : zs_H → Int32 → Int32 → Int32 → Int32 → Int32 → Int32 → Int32 → (Option zs_H)} (hk86 : ∀ (h : zs_H) (x1 : Int32) (x2 : Int32) (x3 : Int32) (x4 : Int32) (x5 : Int32) (x6 : Int32) (x7 : Int32), k86 h x1 x2 x3 x4 x5 x6 x7 = some rh → zk_Ab X (zs_W S h) 0 0 86 [(0, .ref (S.1 68)), (1, .int x1), (2, .int x2), (3, .int x3), (4, .int x4), (5, .int x5), (6, .int x6), (7, .int x7)] []) (h : zs_H) (x1 : Int32) (x2 : Int32) (x3 : Int32) (x4 : Int32) (x6 : Int32) (x7 : Int32) (y0 : Int32) (e : f_Mo_lookAtCall_117 k86 h x1 x2 x3 x4 x6 x7 y0 = some rh) : zk_Ab X (zs_W S h) 0 0 117 [(0, .ref (S.1 68)), (1, .int x1), (2, .int x2), (3, .int x3), (4, .int x4), (6, .int x6), (7, .int x7)] [.int y0] := by
  unfold f_Mo_lookAtCall_117 at e
  refine zk_istore (lv' := [(5, _), (0, _), (1, _), (2, _), (3, _), (4, _), (6, _), (7, _)]) C kd_Mo_lookAtCall_117 (by decide) rfl rfl ?_
  refine zk_iload C kd_Mo_lookAtCall_119 6 rfl rfl ?_
  refine zk_aload_n C kd_Mo_lookAtCall_121 rfl 1 rfl rfl ?_
  refine zs_get (v := .ref (S.1 100)) C 68 51 rfl rfl rfl rfl ki_Mo (by decide) kw1734 kd_Mo_lookAtCall_122 rfl ?_
  refine zk_iload C kd_Mo_lookAtCall_125 7 rfl rfl ?_
  obtain ⟨q1, e⟩ := zd_g e
  refine zs_iald C 100 rfl (zd_vp q1) kd_Mo_lookAtCall_127 rfl ?_
  refine zk_callS (rn := { frames := 0, cells := 0, slots := 0, locals := 0 }) (As := [.int x6, .int (h.2.1 100 x7.toNatClampNeg)]) (rest := []) C (zc_Mo_wider h x6 (h.2.1 100 x7.toNatClampNeg)) ku_Mo_wider kw2501 ks_Mo_wider rfl ⟨by decide, by decide⟩ ⟨by decide, by decide⟩ rfl (Nat.le_of_ble_eq_true rfl) kd_Mo_lookAtCall_128 rfl (c1 := 0) (s1 := 0) rfl rfl (fun v w hp => ?_)
  obtain ⟨rfl, rfl⟩ := hp
  refine zk_stk (r' := [.int (f_Mo_wider x6 (h.2.1 100 x7.toNatClampNeg))]) rfl ?_
  refine zk_istore (lv' := [(6, _), (5, _), (0, _), (1, _), (2, _), (3, _), (4, _), (7, _)]) C kd_Mo_lookAtCall_131 (by decide) rfl rfl ?_
  refine zk_aload_n C kd_Mo_lookAtCall_133 rfl 2 rfl rfl ?_
  refine zs_get (v := .ref (S.1 78)) C 68 21 rfl rfl rfl rfl ki_Mo (by decide) kw1704 kd_Mo_lookAtCall_134 rfl ?_
  refine zk_iload C kd_Mo_lookAtCall_137 7 rfl rfl ?_
  refine zs_iald C 78 rfl (zd_vp q1) kd_Mo_lookAtCall_139 rfl ?_
  refine zk_istore (lv' := [(7, _), (6, _), (5, _), (0, _), (1, _), (2, _), (3, _), (4, _)]) C kd_Mo_lookAtCall_140 (by decide) rfl rfl ?_
  refine zk_goto (tgt := 86) C kd_Mo_lookAtCall_142 (by decide) ?_
  refine zk_lvs (lv' := [(0, .ref (S.1 68)), (1, .int x1), (2, .int x2), (3, .int x3), (4, .int x4), (5, .int y0), (6, .int (f_Mo_wider x6 (h.2.1 100 x7.toNatClampNeg))), (7, .int (h.2.1 78 x7.toNatClampNeg))]) [3, 4, 5, 6, 7, 2, 1, 0] rfl ?_
  exact hk86 h x1 x2 x3 x4 y0 (f_Mo_wider x6 (h.2.1 100 x7.toNatClampNeg)) (h.2.1 78 x7.toNatClampNeg) e
set_option maxHeartbeats 4000000 in
set_option maxRecDepth 100000 in
theorem zb_Mo_lookAtCall_116 {X : zkj_T} {S : zs_T} {P : ze_T} {l : Launch} {D : va_G} {sz0 : Nat} {rh : zs_H} (C : zk_C X km_Mo_lookAtCall (zs_G S l D sz0) { frames := 5, cells := 0, slots := 0, locals := 111 } (ze_E P)) (hR : zkj_R X (zd_PV S rh) (none)) {k86 : zs_H → Int32 → Int32 → Int32 → Int32 → Int32 → Int32 → Int32 → (Option zs_H)} (hk86 : ∀ (h : zs_H) (x1 : Int32) (x2 : Int32) (x3 : Int32) (x4 : Int32) (x5 : Int32) (x6 : Int32) (x7 : Int32), k86 h x1 x2 x3 x4 x5 x6 x7 = some rh → zk_Ab X (zs_W S h) 0 0 86 [(0, .ref (S.1 68)), (1, .int x1), (2, .int x2), (3, .int x3), (4, .int x4), (5, .int x5), (6, .int x6), (7, .int x7)] []) (h : zs_H) (x1 : Int32) (x2 : Int32) (x3 : Int32) (x4 : Int32) (x6 : Int32) (x7 : Int32) (e : f_Mo_lookAtCall_116 k86 h x1 x2 x3 x4 x6 x7 = some rh) : zk_Ab X (zs_W S h) 0 0 116 [(0, .ref (S.1 68)), (1, .int x1), (2, .int x2), (3, .int x3), (4, .int x4), (6, .int x6), (7, .int x7)] [] := by
  unfold f_Mo_lookAtCall_116 at e
  refine zk_iconst (v := 0) C kd_Mo_lookAtCall_116 (by decide) rfl ?_
  refine zk_lvs (lv' := [(0, .ref (S.1 68)), (1, .int x1), (2, .int x2), (3, .int x3), (4, .int x4), (6, .int x6), (7, .int x7)]) [0, 1, 2, 3, 4, 5, 6] rfl ?_
  exact zb_Mo_lookAtCall_117 C hR hk86 h x1 x2 x3 x4 x6 x7 0 e
set_option maxHeartbeats 4000000 in
set_option maxRecDepth 100000 in
theorem zb_Mo_lookAtCall_324 {X : zkj_T} {S : zs_T} {P : ze_T} {l : Launch} {D : va_G} {sz0 : Nat} {rh : zs_H} (C : zk_C X km_Mo_lookAtCall (zs_G S l D sz0) { frames := 5, cells := 0, slots := 0, locals := 111 } (ze_E P)) (hR : zkj_R X (zd_PV S rh) (none)) (h : zs_H) (x1 : Int32) (x7 : Int32) (x8 : Int32) (y0 : Int32) (e : f_Mo_lookAtCall_324 h x1 x7 x8 y0 = some rh) : zk_Ab X (zs_W S h) 0 0 324 [(0, .ref (S.1 68)), (1, .int x1), (7, .int x7), (8, .int x8)] [.int y0, .ref (S.1 68)] := by
  unfold f_Mo_lookAtCall_324 at e
  refine zk_bipush (v := 26) C kd_Mo_lookAtCall_324 (by decide) rfl ?_
  refine zk_iload_n C kd_Mo_lookAtCall_326 rfl 1 rfl rfl ?_
  obtain ⟨h2, c1, e⟩ := zd_b e
  refine zs_callV (k := 68) (rn := { frames := 1, cells := 0, slots := 0, locals := 22 }) (As := [.int y0, .int 26, .int x1]) (rest := []) C (zc_Mo_rule h y0 26 x1 c1) ku_Mo_rule kw2260 kv_Mo_rule rfl ⟨by decide, by decide⟩ ⟨by decide, by decide⟩ rfl rfl rfl (Nat.le_of_ble_eq_true rfl) kd_Mo_lookAtCall_327 rfl (c1 := 0) (s1 := 0) rfl rfl (fun v w hp => ?_)
  obtain ⟨rfl, rfl⟩ := hp
  refine zk_stk (r' := []) rfl ?_
  refine zk_aload_n C kd_Mo_lookAtCall_330 rfl 0 rfl rfl ?_
  refine zs_get (v := .ref (S.1 100)) C 68 51 rfl rfl rfl rfl ki_Mo (by decide) kw1734 kd_Mo_lookAtCall_331 rfl ?_
  refine zk_iload_n C kd_Mo_lookAtCall_334 rfl 1 rfl rfl ?_
  refine zk_iload C kd_Mo_lookAtCall_335 2 rfl rfl ?_
  refine zk_iload C kd_Mo_lookAtCall_337 3 rfl rfl ?_
  refine zk_callS (rn := { frames := 0, cells := 0, slots := 0, locals := 0 }) (As := [.int x7, .int x8]) (rest := [.int x1, .ref (S.1 100)]) C (zc_Mo_wider h2 x7 x8) ku_Mo_wider kw2501 ks_Mo_wider rfl ⟨by decide, by decide⟩ ⟨by decide, by decide⟩ rfl (Nat.le_of_ble_eq_true rfl) kd_Mo_lookAtCall_339 rfl (c1 := 0) (s1 := 0) rfl rfl (fun v w hp => ?_)
  obtain ⟨rfl, rfl⟩ := hp
  refine zk_stk (r' := [.int (f_Mo_wider x7 x8), .int x1, .ref (S.1 100)]) rfl ?_
  obtain ⟨q3, e⟩ := zd_g e
  refine zs_iast C 100 rfl (zd_vp q3) kd_Mo_lookAtCall_342 rfl ?_
  refine zk_goto (tgt := 425) C kd_Mo_lookAtCall_343 (by decide) ?_
  exact zk_vret C hR kd_Mo_lookAtCall_425 rfl rfl (zd_rV e)
set_option maxHeartbeats 4000000 in
set_option maxRecDepth 100000 in
theorem zb_Mo_lookAtCall_319 {X : zkj_T} {S : zs_T} {P : ze_T} {l : Launch} {D : va_G} {sz0 : Nat} {rh : zs_H} (C : zk_C X km_Mo_lookAtCall (zs_G S l D sz0) { frames := 5, cells := 0, slots := 0, locals := 111 } (ze_E P)) (hR : zkj_R X (zd_PV S rh) (none)) (h : zs_H) (x1 : Int32) (x7 : Int32) (x8 : Int32) (e : f_Mo_lookAtCall_319 h x1 x7 x8 = some rh) : zk_Ab X (zs_W S h) 0 0 319 [(0, .ref (S.1 68)), (1, .int x1), (7, .int x7), (8, .int x8)] [.ref (S.1 68)] := by
  unfold f_Mo_lookAtCall_319 at e
  refine zk_iconst (v := 1) C kd_Mo_lookAtCall_319 (by decide) rfl ?_
  refine zk_goto (tgt := 324) C kd_Mo_lookAtCall_320 (by decide) ?_
  refine zk_lvs (lv' := [(0, .ref (S.1 68)), (1, .int x1), (7, .int x7), (8, .int x8)]) [0, 1, 2, 3] rfl ?_
  exact zb_Mo_lookAtCall_324 C hR h x1 x7 x8 1 e
set_option maxHeartbeats 4000000 in
set_option maxRecDepth 100000 in
theorem zb_Mo_lookAtCall_297 {X : zkj_T} {S : zs_T} {P : ze_T} {l : Launch} {D : va_G} {sz0 : Nat} {rh : zs_H} (C : zk_C X km_Mo_lookAtCall (zs_G S l D sz0) { frames := 5, cells := 0, slots := 0, locals := 111 } (ze_E P)) (hR : zkj_R X (zd_PV S rh) (none)) (h : zs_H) (x1 : Int32) (x7 : Int32) (x8 : Int32) (y0 : Int32) (e : f_Mo_lookAtCall_297 h x1 x7 x8 y0 = some rh) : zk_Ab X (zs_W S h) 0 0 297 [(0, .ref (S.1 68)), (1, .int x1), (7, .int x7), (8, .int x8)] [.int y0] := by
  unfold f_Mo_lookAtCall_297 at e
  refine zk_istore (lv' := [(9, _), (0, _), (1, _), (7, _), (8, _)]) C kd_Mo_lookAtCall_297 (by decide) rfl rfl ?_
  refine zk_aload_n C kd_Mo_lookAtCall_299 rfl 1 rfl rfl ?_
  refine zk_aload_n C kd_Mo_lookAtCall_300 rfl 1 rfl rfl ?_
  refine zs_get (v := .ref (S.1 100)) C 68 51 rfl rfl rfl rfl ki_Mo (by decide) kw1734 kd_Mo_lookAtCall_301 rfl ?_
  refine zk_aload_n C kd_Mo_lookAtCall_304 rfl 1 rfl rfl ?_
  refine zs_get (v := .ref (S.1 76)) C 68 19 rfl rfl rfl rfl ki_Mo (by decide) kw1702 kd_Mo_lookAtCall_305 rfl ?_
  refine zk_iload_n C kd_Mo_lookAtCall_308 rfl 2 rfl rfl ?_
  obtain ⟨q1, e⟩ := zd_g e
  refine zs_iald C 76 rfl (zd_vp q1) kd_Mo_lookAtCall_309 rfl ?_
  obtain ⟨q2, e⟩ := zd_g e
  refine zs_iald C 100 rfl (zd_vp q2) kd_Mo_lookAtCall_310 rfl ?_
  refine zk_if_ne (tgt := 319) C kd_Mo_lookAtCall_311 (by decide) rfl (fun b3 => ?_) (fun b3 => ?_)
  · replace e := zd_neg b3 e
    refine zk_lvs (lv' := [(0, .ref (S.1 68)), (1, .int x1), (7, .int x7), (8, .int x8)]) [1, 2, 3, 4] rfl ?_
    exact zb_Mo_lookAtCall_319 C hR h x1 x7 x8 e
  · replace e := zd_pos b3 e
    refine zk_iload C kd_Mo_lookAtCall_314 0 rfl rfl ?_
    refine zk_if_ne (tgt := 323) C kd_Mo_lookAtCall_316 (by decide) rfl (fun b4 => ?_) (fun b4 => ?_)
    · replace e := zd_neg b4 e
      refine zk_iconst (v := 0) C kd_Mo_lookAtCall_323 (by decide) rfl ?_
      refine zk_lvs (lv' := [(0, .ref (S.1 68)), (1, .int x1), (7, .int x7), (8, .int x8)]) [1, 2, 3, 4] rfl ?_
      exact zb_Mo_lookAtCall_324 C hR h x1 x7 x8 0 e
    · replace e := zd_pos b4 e
      refine zk_lvs (lv' := [(0, .ref (S.1 68)), (1, .int x1), (7, .int x7), (8, .int x8)]) [1, 2, 3, 4] rfl ?_
      exact zb_Mo_lookAtCall_319 C hR h x1 x7 x8 e
set_option maxHeartbeats 4000000 in
set_option maxRecDepth 100000 in
theorem zb_Mo_lookAtCall_292 {X : zkj_T} {S : zs_T} {P : ze_T} {l : Launch} {D : va_G} {sz0 : Nat} {rh : zs_H} (C : zk_C X km_Mo_lookAtCall (zs_G S l D sz0) { frames := 5, cells := 0, slots := 0, locals := 111 } (ze_E P)) (hR : zkj_R X (zd_PV S rh) (none)) (h : zs_H) (x1 : Int32) (x7 : Int32) (x8 : Int32) (e : f_Mo_lookAtCall_292 h x1 x7 x8 = some rh) : zk_Ab X (zs_W S h) 0 0 292 [(0, .ref (S.1 68)), (1, .int x1), (7, .int x7), (8, .int x8)] [] := by
  unfold f_Mo_lookAtCall_292 at e
  refine zk_iconst (v := 1) C kd_Mo_lookAtCall_292 (by decide) rfl ?_
  refine zk_goto (tgt := 297) C kd_Mo_lookAtCall_293 (by decide) ?_
  refine zk_lvs (lv' := [(0, .ref (S.1 68)), (1, .int x1), (7, .int x7), (8, .int x8)]) [0, 1, 2, 3] rfl ?_
  exact zb_Mo_lookAtCall_297 C hR h x1 x7 x8 1 e
set_option maxHeartbeats 4000000 in
set_option maxRecDepth 100000 in
theorem zb_Mo_lookAtCall_296 {X : zkj_T} {S : zs_T} {P : ze_T} {l : Launch} {D : va_G} {sz0 : Nat} {rh : zs_H} (C : zk_C X km_Mo_lookAtCall (zs_G S l D sz0) { frames := 5, cells := 0, slots := 0, locals := 111 } (ze_E P)) (hR : zkj_R X (zd_PV S rh) (none)) (h : zs_H) (x1 : Int32) (x7 : Int32) (x8 : Int32) (e : f_Mo_lookAtCall_296 h x1 x7 x8 = some rh) : zk_Ab X (zs_W S h) 0 0 296 [(0, .ref (S.1 68)), (1, .int x1), (7, .int x7), (8, .int x8)] [] := by
  unfold f_Mo_lookAtCall_296 at e
  refine zk_iconst (v := 0) C kd_Mo_lookAtCall_296 (by decide) rfl ?_
  refine zk_lvs (lv' := [(0, .ref (S.1 68)), (1, .int x1), (7, .int x7), (8, .int x8)]) [0, 1, 2, 3] rfl ?_
  exact zb_Mo_lookAtCall_297 C hR h x1 x7 x8 0 e
set_option maxHeartbeats 4000000 in
set_option maxRecDepth 100000 in
theorem zb_Mo_lookAtCall_276 {X : zkj_T} {S : zs_T} {P : ze_T} {l : Launch} {D : va_G} {sz0 : Nat} {rh : zs_H} (C : zk_C X km_Mo_lookAtCall (zs_G S l D sz0) { frames := 5, cells := 0, slots := 0, locals := 111 } (ze_E P)) (hR : zkj_R X (zd_PV S rh) (none)) (h : zs_H) (x1 : Int32) (x7 : Int32) (x8 : Int32) (e : f_Mo_lookAtCall_276 h x1 x7 x8 = some rh) : zk_Ab X (zs_W S h) 0 0 276 [(0, .ref (S.1 68)), (1, .int x1), (7, .int x7), (8, .int x8)] [] := by
  unfold f_Mo_lookAtCall_276 at e
  refine zk_iload C kd_Mo_lookAtCall_276 2 rfl rfl ?_
  refine zk_callS (rn := { frames := 0, cells := 0, slots := 0, locals := 0 }) (As := [.int x7]) (rest := []) C (zc_Mo_isNumber h x7) ku_Mo_isNumber kw2469 ks_Mo_isNumber rfl ⟨by decide, by decide⟩ ⟨by decide, by decide⟩ rfl (Nat.le_of_ble_eq_true rfl) kd_Mo_lookAtCall_278 rfl (c1 := 0) (s1 := 0) rfl rfl (fun v w hp => ?_)
  obtain ⟨rfl, rfl, z1⟩ := hp
  refine zk_stk (r' := [.int (f_Mo_isNumber x7)]) rfl ?_
  refine zk_if_eq (tgt := 296) C kd_Mo_lookAtCall_281 (by decide) rfl (fun b2 => ?_) (fun b2 => ?_)
  · replace e := zd_pos b2 e
    refine zk_lvs (lv' := [(0, .ref (S.1 68)), (1, .int x1), (7, .int x7), (8, .int x8)]) [0, 1, 2, 3] rfl ?_
    exact zb_Mo_lookAtCall_296 C hR h x1 x7 x8 e
  · replace e := zd_neg b2 e
    refine zk_iload C kd_Mo_lookAtCall_284 3 rfl rfl ?_
    refine zk_callS (rn := { frames := 0, cells := 0, slots := 0, locals := 0 }) (As := [.int x8]) (rest := []) C (zc_Mo_isNumber h x8) ku_Mo_isNumber kw2469 ks_Mo_isNumber rfl ⟨by decide, by decide⟩ ⟨by decide, by decide⟩ rfl (Nat.le_of_ble_eq_true rfl) kd_Mo_lookAtCall_286 rfl (c1 := 0) (s1 := 0) rfl rfl (fun v w hp => ?_)
    obtain ⟨rfl, rfl, z3⟩ := hp
    refine zk_stk (r' := [.int (f_Mo_isNumber x8)]) rfl ?_
    refine zk_if_eq (tgt := 296) C kd_Mo_lookAtCall_289 (by decide) rfl (fun b4 => ?_) (fun b4 => ?_)
    · replace e := zd_pos b4 e
      refine zk_lvs (lv' := [(0, .ref (S.1 68)), (1, .int x1), (7, .int x7), (8, .int x8)]) [0, 1, 2, 3] rfl ?_
      exact zb_Mo_lookAtCall_296 C hR h x1 x7 x8 e
    · replace e := zd_neg b4 e
      refine zk_lvs (lv' := [(0, .ref (S.1 68)), (1, .int x1), (7, .int x7), (8, .int x8)]) [0, 1, 2, 3] rfl ?_
      exact zb_Mo_lookAtCall_292 C hR h x1 x7 x8 e
set_option maxHeartbeats 4000000 in
set_option maxRecDepth 100000 in
theorem zb_Mo_lookAtCall_424 {X : zkj_T} {S : zs_T} {P : ze_T} {l : Launch} {D : va_G} {sz0 : Nat} {rh : zs_H} (C : zk_C X km_Mo_lookAtCall (zs_G S l D sz0) { frames := 5, cells := 0, slots := 0, locals := 111 } (ze_E P)) (hR : zkj_R X (zd_PV S rh) (none)) (h : zs_H) (y0 : Int32) (y1 : Int32) (e : f_Mo_lookAtCall_424 h y0 y1 = some rh) : zk_Ab X (zs_W S h) 0 0 424 [] [.int y0, .int y1, .ref (S.1 100)] := by
  unfold f_Mo_lookAtCall_424 at e
  obtain ⟨q1, e⟩ := zd_g e
  refine zs_iast C 100 rfl (zd_vp q1) kd_Mo_lookAtCall_424 rfl ?_
  exact zk_vret C hR kd_Mo_lookAtCall_425 rfl rfl (zd_rV e)
set_option maxHeartbeats 4000000 in
set_option maxRecDepth 100000 in
theorem zb_Mo_lookAtCall_369 {X : zkj_T} {S : zs_T} {P : ze_T} {l : Launch} {D : va_G} {sz0 : Nat} {rh : zs_H} (C : zk_C X km_Mo_lookAtCall (zs_G S l D sz0) { frames := 5, cells := 0, slots := 0, locals := 111 } (ze_E P)) (hR : zkj_R X (zd_PV S rh) (none)) (h : zs_H) (x1 : Int32) (x2 : Int32) (x6 : Int32) (y0 : Int32) (e : f_Mo_lookAtCall_369 h x1 x2 x6 y0 = some rh) : zk_Ab X (zs_W S h) 0 0 369 [(0, .ref (S.1 68)), (1, .int x1), (2, .int x2), (6, .int x6)] [.int y0, .ref (S.1 68)] := by
  unfold f_Mo_lookAtCall_369 at e
  refine zk_bipush (v := 26) C kd_Mo_lookAtCall_369 (by decide) rfl ?_
  refine zk_iload_n C kd_Mo_lookAtCall_371 rfl 1 rfl rfl ?_
  obtain ⟨h2, c1, e⟩ := zd_b e
  refine zs_callV (k := 68) (rn := { frames := 1, cells := 0, slots := 0, locals := 22 }) (As := [.int y0, .int 26, .int x1]) (rest := []) C (zc_Mo_rule h y0 26 x1 c1) ku_Mo_rule kw2260 kv_Mo_rule rfl ⟨by decide, by decide⟩ ⟨by decide, by decide⟩ rfl rfl rfl (Nat.le_of_ble_eq_true rfl) kd_Mo_lookAtCall_372 rfl (c1 := 0) (s1 := 0) rfl rfl (fun v w hp => ?_)
  obtain ⟨rfl, rfl⟩ := hp
  refine zk_stk (r' := []) rfl ?_
  refine zk_aload_n C kd_Mo_lookAtCall_375 rfl 0 rfl rfl ?_
  refine zs_get (v := .ref (S.1 100)) C 68 51 rfl rfl rfl rfl ki_Mo (by decide) kw1734 kd_Mo_lookAtCall_376 rfl ?_
  refine zk_iload_n C kd_Mo_lookAtCall_379 rfl 1 rfl rfl ?_
  refine zk_iload_n C kd_Mo_lookAtCall_380 rfl 2 rfl rfl ?_
  refine zk_iconst (v := 4) C kd_Mo_lookAtCall_381 (by decide) rfl ?_
  refine zk_icmp_ge (tgt := 390) C kd_Mo_lookAtCall_382 (by decide) rfl (fun b3 => ?_) (fun b3 => ?_)
  · replace e := zd_pos b3 e
    refine zk_iload_n C kd_Mo_lookAtCall_390 rfl 2 rfl rfl ?_
    refine zk_bipush (v := 7) C kd_Mo_lookAtCall_391 (by decide) rfl ?_
    refine zk_icmp_ge (tgt := 410) C kd_Mo_lookAtCall_393 (by decide) rfl (fun b4 => ?_) (fun b4 => ?_)
    · replace e := zd_pos b4 e
      refine zk_iload_n C kd_Mo_lookAtCall_410 rfl 2 rfl rfl ?_
      refine zk_bipush (v := 9) C kd_Mo_lookAtCall_411 (by decide) rfl ?_
      refine zk_icmp_ne (tgt := 420) C kd_Mo_lookAtCall_413 (by decide) rfl (fun b5 => ?_) (fun b5 => ?_)
      · replace e := zd_neg b5 e
        refine zk_iload_n C kd_Mo_lookAtCall_420 rfl 2 rfl rfl ?_
        refine zk_bipush (v := 6) C kd_Mo_lookAtCall_421 (by decide) rfl ?_
        refine zk_isub C kd_Mo_lookAtCall_423 rfl ?_
        refine zk_lvs (lv' := []) [] rfl ?_
        exact zb_Mo_lookAtCall_424 C hR h2 (x2 - 6) x1 e
      · replace e := zd_pos b5 e
        refine zk_iconst (v := 0) C kd_Mo_lookAtCall_416 (by decide) rfl ?_
        refine zk_goto (tgt := 424) C kd_Mo_lookAtCall_417 (by decide) ?_
        refine zk_lvs (lv' := []) [] rfl ?_
        exact zb_Mo_lookAtCall_424 C hR h2 0 x1 e
    · replace e := zd_neg b4 e
      refine zk_aload_n C kd_Mo_lookAtCall_396 rfl 0 rfl rfl ?_
      refine zs_get (v := .ref (S.1 100)) C 68 51 rfl rfl rfl rfl ki_Mo (by decide) kw1734 kd_Mo_lookAtCall_397 rfl ?_
      refine zk_aload_n C kd_Mo_lookAtCall_400 rfl 0 rfl rfl ?_
      refine zs_get (v := .ref (S.1 76)) C 68 19 rfl rfl rfl rfl ki_Mo (by decide) kw1702 kd_Mo_lookAtCall_401 rfl ?_
      refine zk_iload_n C kd_Mo_lookAtCall_404 rfl 1 rfl rfl ?_
      obtain ⟨q6, e⟩ := zd_g e
      refine zs_iald C 76 rfl (zd_vp q6) kd_Mo_lookAtCall_405 rfl ?_
      obtain ⟨q7, e⟩ := zd_g e
      refine zs_iald C 100 rfl (zd_vp q7) kd_Mo_lookAtCall_406 rfl ?_
      refine zk_goto (tgt := 424) C kd_Mo_lookAtCall_407 (by decide) ?_
      refine zk_lvs (lv' := []) [] rfl ?_
      exact zb_Mo_lookAtCall_424 C hR h2 (h2.2.1 100 (h2.2.1 76 x1.toNatClampNeg).toNatClampNeg) x1 e
  · replace e := zd_neg b3 e
    refine zk_iload C kd_Mo_lookAtCall_385 3 rfl rfl ?_
    refine zk_goto (tgt := 424) C kd_Mo_lookAtCall_387 (by decide) ?_
    refine zk_lvs (lv' := []) [] rfl ?_
    exact zb_Mo_lookAtCall_424 C hR h2 x6 x1 e
set_option maxHeartbeats 4000000 in
set_option maxRecDepth 100000 in
theorem zb_Mo_lookAtCall_368 {X : zkj_T} {S : zs_T} {P : ze_T} {l : Launch} {D : va_G} {sz0 : Nat} {rh : zs_H} (C : zk_C X km_Mo_lookAtCall (zs_G S l D sz0) { frames := 5, cells := 0, slots := 0, locals := 111 } (ze_E P)) (hR : zkj_R X (zd_PV S rh) (none)) (h : zs_H) (x1 : Int32) (x2 : Int32) (x6 : Int32) (e : f_Mo_lookAtCall_368 h x1 x2 x6 = some rh) : zk_Ab X (zs_W S h) 0 0 368 [(0, .ref (S.1 68)), (1, .int x1), (2, .int x2), (6, .int x6)] [.ref (S.1 68)] := by
  unfold f_Mo_lookAtCall_368 at e
  refine zk_iconst (v := 0) C kd_Mo_lookAtCall_368 (by decide) rfl ?_
  refine zk_lvs (lv' := [(0, .ref (S.1 68)), (1, .int x1), (2, .int x2), (6, .int x6)]) [0, 1, 2, 3] rfl ?_
  exact zb_Mo_lookAtCall_369 C hR h x1 x2 x6 0 e
set_option maxHeartbeats 4000000 in
set_option maxRecDepth 100000 in
theorem zb_Mo_lookAtCall_206 {X : zkj_T} {S : zs_T} {P : ze_T} {l : Launch} {D : va_G} {sz0 : Nat} {rh : zs_H} (C : zk_C X km_Mo_lookAtCall (zs_G S l D sz0) { frames := 5, cells := 0, slots := 0, locals := 111 } (ze_E P)) (hR : zkj_R X (zd_PV S rh) (none)) (h : zs_H) (x1 : Int32) (x2 : Int32) (x5 : Int32) (x6 : Int32) (y0 : Int32) (e : f_Mo_lookAtCall_206 h x1 x2 x5 x6 y0 = some rh) : zk_Ab X (zs_W S h) 0 0 206 [(0, .ref (S.1 68)), (1, .int x1), (2, .int x2), (5, .int x5), (6, .int x6)] [.int y0, .ref (S.1 68)] := by
  unfold f_Mo_lookAtCall_206 at e
  refine zk_bipush (v := 25) C kd_Mo_lookAtCall_206 (by decide) rfl ?_
  refine zk_iload_n C kd_Mo_lookAtCall_208 rfl 1 rfl rfl ?_
  obtain ⟨h2, c1, e⟩ := zd_b e
  refine zs_callV (k := 68) (rn := { frames := 1, cells := 0, slots := 0, locals := 22 }) (As := [.int y0, .int 25, .int x1]) (rest := []) C (zc_Mo_rule h y0 25 x1 c1) ku_Mo_rule kw2260 kv_Mo_rule rfl ⟨by decide, by decide⟩ ⟨by decide, by decide⟩ rfl rfl rfl (Nat.le_of_ble_eq_true rfl) kd_Mo_lookAtCall_209 rfl (c1 := 0) (s1 := 0) rfl rfl (fun v w hp => ?_)
  obtain ⟨rfl, rfl⟩ := hp
  refine zk_stk (r' := []) rfl ?_
  refine zk_aload_n C kd_Mo_lookAtCall_212 rfl 0 rfl rfl ?_
  refine zs_get (v := .int (h2.1 68 29)) C 68 29 rfl rfl rfl rfl ki_Mo (by decide) kw1712 kd_Mo_lookAtCall_213 rfl ?_
  refine zk_if_le (tgt := 220) C kd_Mo_lookAtCall_216 (by decide) rfl (fun b3 => ?_) (fun b3 => ?_)
  · replace e := zd_pos b3 e
    refine zk_aload_n C kd_Mo_lookAtCall_220 rfl 0 rfl rfl ?_
    refine zs_get (v := .ref (S.1 102)) C 68 53 rfl rfl rfl rfl ki_Mo (by decide) kw1736 kd_Mo_lookAtCall_221 rfl ?_
    refine zk_iload_n C kd_Mo_lookAtCall_224 rfl 1 rfl rfl ?_
    refine zk_bipush (v := 100) C kd_Mo_lookAtCall_225 (by decide) rfl ?_
    refine zk_iload_n C kd_Mo_lookAtCall_227 rfl 2 rfl rfl ?_
    refine zk_iadd C kd_Mo_lookAtCall_228 rfl ?_
    obtain ⟨q4, e⟩ := zd_g e
    refine zs_iast C 102 rfl (zd_vp q4) kd_Mo_lookAtCall_229 rfl ?_
    refine zk_iload_n C kd_Mo_lookAtCall_230 rfl 2 rfl rfl ?_
    refine zk_iconst (v := 4) C kd_Mo_lookAtCall_231 (by decide) rfl ?_
    refine zk_icmp_ne (tgt := 346) C kd_Mo_lookAtCall_232 (by decide) rfl (fun b5 => ?_) (fun b5 => ?_)
    · replace e := zd_neg b5 e
      refine zk_aload_n C kd_Mo_lookAtCall_346 rfl 0 rfl rfl ?_
      refine zk_iload_n C kd_Mo_lookAtCall_347 rfl 2 rfl rfl ?_
      refine zk_bipush (v := 7) C kd_Mo_lookAtCall_348 (by decide) rfl ?_
      refine zk_icmp_eq (tgt := 368) C kd_Mo_lookAtCall_350 (by decide) rfl (fun b6 => ?_) (fun b6 => ?_)
      · replace e := zd_pos b6 e
        refine zk_lvs (lv' := [(0, .ref (S.1 68)), (1, .int x1), (2, .int x2), (6, .int x6)]) [0, 1, 2, 4] rfl ?_
        exact zb_Mo_lookAtCall_368 C hR (zs_uM h2 102 x1.toNatClampNeg (100 + x2)) x1 x2 x6 e
      · replace e := zd_neg b6 e
        refine zk_iload_n C kd_Mo_lookAtCall_353 rfl 2 rfl rfl ?_
        refine zk_bipush (v := 8) C kd_Mo_lookAtCall_354 (by decide) rfl ?_
        refine zk_icmp_eq (tgt := 368) C kd_Mo_lookAtCall_356 (by decide) rfl (fun b7 => ?_) (fun b7 => ?_)
        · replace e := zd_pos b7 e
          refine zk_lvs (lv' := [(0, .ref (S.1 68)), (1, .int x1), (2, .int x2), (6, .int x6)]) [0, 1, 2, 4] rfl ?_
          exact zb_Mo_lookAtCall_368 C hR (zs_uM h2 102 x1.toNatClampNeg (100 + x2)) x1 x2 x6 e
        · replace e := zd_neg b7 e
          refine zk_iload C kd_Mo_lookAtCall_359 3 rfl rfl ?_
          refine zk_if_ne (tgt := 368) C kd_Mo_lookAtCall_361 (by decide) rfl (fun b8 => ?_) (fun b8 => ?_)
          · replace e := zd_neg b8 e
            refine zk_lvs (lv' := [(0, .ref (S.1 68)), (1, .int x1), (2, .int x2), (6, .int x6)]) [0, 1, 2, 4] rfl ?_
            exact zb_Mo_lookAtCall_368 C hR (zs_uM h2 102 x1.toNatClampNeg (100 + x2)) x1 x2 x6 e
          · replace e := zd_pos b8 e
            refine zk_iconst (v := 1) C kd_Mo_lookAtCall_364 (by decide) rfl ?_
            refine zk_goto (tgt := 369) C kd_Mo_lookAtCall_365 (by decide) ?_
            refine zk_lvs (lv' := [(0, .ref (S.1 68)), (1, .int x1), (2, .int x2), (6, .int x6)]) [0, 1, 2, 4] rfl ?_
            exact zb_Mo_lookAtCall_369 C hR (zs_uM h2 102 x1.toNatClampNeg (100 + x2)) x1 x2 x6 1 e
    · replace e := zd_pos b5 e
      refine zk_aload_n C kd_Mo_lookAtCall_235 rfl 0 rfl rfl ?_
      refine zs_get (v := .ref (S.1 100)) C 68 51 rfl rfl rfl rfl ki_Mo (by decide) kw1734 kd_Mo_lookAtCall_236 rfl ?_
      refine zk_aload_n C kd_Mo_lookAtCall_239 rfl 0 rfl rfl ?_
      refine zs_get (v := .ref (S.1 78)) C 68 21 rfl rfl rfl rfl ki_Mo (by decide) kw1704 kd_Mo_lookAtCall_240 rfl ?_
      refine zk_aload_n C kd_Mo_lookAtCall_243 rfl 0 rfl rfl ?_
      refine zs_get (v := .ref (S.1 76)) C 68 19 rfl rfl rfl rfl ki_Mo (by decide) kw1702 kd_Mo_lookAtCall_244 rfl ?_
      refine zk_iload_n C kd_Mo_lookAtCall_247 rfl 1 rfl rfl ?_
      refine zs_iald C 76 rfl (zd_vp q4) kd_Mo_lookAtCall_248 rfl ?_
      refine zk_stk (r' := [.int (h2.2.1 76 x1.toNatClampNeg), .ref (S.1 78), .ref (S.1 100)]) rfl ?_
      obtain ⟨q9, e⟩ := zd_g e
      refine zs_iald C 78 rfl (zd_vp q9) kd_Mo_lookAtCall_249 rfl ?_
      refine zk_stk (r' := [.int (h2.2.1 78 (h2.2.1 76 x1.toNatClampNeg).toNatClampNeg), .ref (S.1 100)]) rfl ?_
      obtain ⟨q10, e⟩ := zd_g e
      refine zs_iald C 100 rfl (zd_vp q10) kd_Mo_lookAtCall_250 rfl ?_
      refine zk_stk (r' := [.int (h2.2.1 100 (h2.2.1 78 (h2.2.1 76 x1.toNatClampNeg).toNatClampNeg).toNatClampNeg)]) rfl ?_
      refine zk_istore (lv' := [(7, _), (0, _), (1, _), (2, _), (5, _), (6, _)]) C kd_Mo_lookAtCall_251 (by decide) rfl rfl ?_
      refine zk_aload_n C kd_Mo_lookAtCall_253 rfl 1 rfl rfl ?_
      refine zs_get (v := .ref (S.1 100)) C 68 51 rfl rfl rfl rfl ki_Mo (by decide) kw1734 kd_Mo_lookAtCall_254 rfl ?_
      refine zk_aload_n C kd_Mo_lookAtCall_257 rfl 1 rfl rfl ?_
      refine zs_get (v := .ref (S.1 77)) C 68 20 rfl rfl rfl rfl ki_Mo (by decide) kw1703 kd_Mo_lookAtCall_258 rfl ?_
      refine zk_iload_n C kd_Mo_lookAtCall_261 rfl 2 rfl rfl ?_
      refine zs_iald C 77 rfl (zd_vp q4) kd_Mo_lookAtCall_262 rfl ?_
      refine zk_stk (r' := [.int (h2.2.1 77 x1.toNatClampNeg), .ref (S.1 100)]) rfl ?_
      obtain ⟨q11, e⟩ := zd_g e
      refine zs_iald C 100 rfl (zd_vp q11) kd_Mo_lookAtCall_263 rfl ?_
      refine zk_stk (r' := [.int (h2.2.1 100 (h2.2.1 77 x1.toNatClampNeg).toNatClampNeg)]) rfl ?_
      refine zk_istore (lv' := [(8, _), (7, _), (0, _), (1, _), (2, _), (5, _), (6, _)]) C kd_Mo_lookAtCall_264 (by decide) rfl rfl ?_
      refine zk_iload C kd_Mo_lookAtCall_266 1 rfl rfl ?_
      refine zk_if_ne (tgt := 276) C kd_Mo_lookAtCall_268 (by decide) rfl (fun b12 => ?_) (fun b12 => ?_)
      · replace e := zd_neg b12 e
        refine zk_lvs (lv' := [(0, .ref (S.1 68)), (1, .int x1), (7, .int (h2.2.1 100 (h2.2.1 78 (h2.2.1 76 x1.toNatClampNeg).toNatClampNeg).toNatClampNeg)), (8, .int (h2.2.1 100 (h2.2.1 77 x1.toNatClampNeg).toNatClampNeg))]) [2, 3, 1, 0] rfl ?_
        exact zb_Mo_lookAtCall_276 C hR (zs_uM h2 102 x1.toNatClampNeg (100 + x2)) x1 (h2.2.1 100 (h2.2.1 78 (h2.2.1 76 x1.toNatClampNeg).toNatClampNeg).toNatClampNeg) (h2.2.1 100 (h2.2.1 77 x1.toNatClampNeg).toNatClampNeg) e
      · replace e := zd_pos b12 e
        refine zk_iload C kd_Mo_lookAtCall_271 0 rfl rfl ?_
        refine zk_if_eq (tgt := 292) C kd_Mo_lookAtCall_273 (by decide) rfl (fun b13 => ?_) (fun b13 => ?_)
        · replace e := zd_pos b13 e
          refine zk_lvs (lv' := [(0, .ref (S.1 68)), (1, .int x1), (7, .int (h2.2.1 100 (h2.2.1 78 (h2.2.1 76 x1.toNatClampNeg).toNatClampNeg).toNatClampNeg)), (8, .int (h2.2.1 100 (h2.2.1 77 x1.toNatClampNeg).toNatClampNeg))]) [2, 3, 1, 0] rfl ?_
          exact zb_Mo_lookAtCall_292 C hR (zs_uM h2 102 x1.toNatClampNeg (100 + x2)) x1 (h2.2.1 100 (h2.2.1 78 (h2.2.1 76 x1.toNatClampNeg).toNatClampNeg).toNatClampNeg) (h2.2.1 100 (h2.2.1 77 x1.toNatClampNeg).toNatClampNeg) e
        · replace e := zd_neg b13 e
          refine zk_lvs (lv' := [(0, .ref (S.1 68)), (1, .int x1), (7, .int (h2.2.1 100 (h2.2.1 78 (h2.2.1 76 x1.toNatClampNeg).toNatClampNeg).toNatClampNeg)), (8, .int (h2.2.1 100 (h2.2.1 77 x1.toNatClampNeg).toNatClampNeg))]) [2, 3, 1, 0] rfl ?_
          exact zb_Mo_lookAtCall_276 C hR (zs_uM h2 102 x1.toNatClampNeg (100 + x2)) x1 (h2.2.1 100 (h2.2.1 78 (h2.2.1 76 x1.toNatClampNeg).toNatClampNeg).toNatClampNeg) (h2.2.1 100 (h2.2.1 77 x1.toNatClampNeg).toNatClampNeg) e
  · replace e := zd_neg b3 e
    exact zk_vret C hR kd_Mo_lookAtCall_219 rfl rfl (zd_rV e)
set_option maxHeartbeats 4000000 in
set_option maxRecDepth 100000 in
theorem zb_Mo_lookAtCall_198 {X : zkj_T} {S : zs_T} {P : ze_T} {l : Launch} {D : va_G} {sz0 : Nat} {rh : zs_H} (C : zk_C X km_Mo_lookAtCall (zs_G S l D sz0) { frames := 5, cells := 0, slots := 0, locals := 111 } (ze_E P)) (hR : zkj_R X (zd_PV S rh) (none)) (h : zs_H) (x1 : Int32) (x2 : Int32) (x5 : Int32) (x6 : Int32) (y0 : Int32) (y1 : Int32) (e : f_Mo_lookAtCall_198 h x1 x2 x5 x6 y0 y1 = some rh) : zk_Ab X (zs_W S h) 0 0 198 [(0, .ref (S.1 68)), (1, .int x1), (2, .int x2), (5, .int x5), (6, .int x6)] [.int y0, .int y1, .ref (S.1 68)] := by
  unfold f_Mo_lookAtCall_198 at e
  refine zk_icmp_eq (tgt := 205) C kd_Mo_lookAtCall_198 (by decide) rfl (fun b1 => ?_) (fun b1 => ?_)
  · replace e := zd_pos b1 e
    refine zk_iconst (v := 0) C kd_Mo_lookAtCall_205 (by decide) rfl ?_
    refine zk_lvs (lv' := [(0, .ref (S.1 68)), (1, .int x1), (2, .int x2), (5, .int x5), (6, .int x6)]) [0, 1, 2, 3, 4] rfl ?_
    exact zb_Mo_lookAtCall_206 C hR h x1 x2 x5 x6 0 e
  · replace e := zd_neg b1 e
    refine zk_iconst (v := 1) C kd_Mo_lookAtCall_201 (by decide) rfl ?_
    refine zk_goto (tgt := 206) C kd_Mo_lookAtCall_202 (by decide) ?_
    refine zk_lvs (lv' := [(0, .ref (S.1 68)), (1, .int x1), (2, .int x2), (5, .int x5), (6, .int x6)]) [0, 1, 2, 3, 4] rfl ?_
    exact zb_Mo_lookAtCall_206 C hR h x1 x2 x5 x6 1 e
set_option maxHeartbeats 4000000 in
set_option maxRecDepth 100000 in
theorem zb_Mo_lookAtCall_179 {X : zkj_T} {S : zs_T} {P : ze_T} {l : Launch} {D : va_G} {sz0 : Nat} {rh : zs_H} (C : zk_C X km_Mo_lookAtCall (zs_G S l D sz0) { frames := 5, cells := 0, slots := 0, locals := 111 } (ze_E P)) (hR : zkj_R X (zd_PV S rh) (none)) (h : zs_H) (x1 : Int32) (x2 : Int32) (x5 : Int32) (x6 : Int32) (y0 : Int32) (e : f_Mo_lookAtCall_179 h x1 x2 x5 x6 y0 = some rh) : zk_Ab X (zs_W S h) 0 0 179 [(0, .ref (S.1 68)), (1, .int x1), (2, .int x2), (5, .int x5), (6, .int x6)] [.int y0, .ref (S.1 68)] := by
  unfold f_Mo_lookAtCall_179 at e
  refine zk_iconst (v := 1) C kd_Mo_lookAtCall_179 (by decide) rfl ?_
  refine zk_goto (tgt := 198) C kd_Mo_lookAtCall_180 (by decide) ?_
  refine zk_lvs (lv' := [(0, .ref (S.1 68)), (1, .int x1), (2, .int x2), (5, .int x5), (6, .int x6)]) [0, 1, 2, 3, 4] rfl ?_
  exact zb_Mo_lookAtCall_198 C hR h x1 x2 x5 x6 1 y0 e
set_option maxHeartbeats 4000000 in
set_option maxRecDepth 100000 in
theorem zb_Mo_lookAtCall_193 {X : zkj_T} {S : zs_T} {P : ze_T} {l : Launch} {D : va_G} {sz0 : Nat} {rh : zs_H} (C : zk_C X km_Mo_lookAtCall (zs_G S l D sz0) { frames := 5, cells := 0, slots := 0, locals := 111 } (ze_E P)) (hR : zkj_R X (zd_PV S rh) (none)) (h : zs_H) (x1 : Int32) (x2 : Int32) (x5 : Int32) (x6 : Int32) (y0 : Int32) (e : f_Mo_lookAtCall_193 h x1 x2 x5 x6 y0 = some rh) : zk_Ab X (zs_W S h) 0 0 193 [(0, .ref (S.1 68)), (1, .int x1), (2, .int x2), (5, .int x5), (6, .int x6)] [.int y0, .ref (S.1 68)] := by
  unfold f_Mo_lookAtCall_193 at e
  refine zk_iconst (v := 3) C kd_Mo_lookAtCall_193 (by decide) rfl ?_
  refine zk_goto (tgt := 198) C kd_Mo_lookAtCall_194 (by decide) ?_
  refine zk_lvs (lv' := [(0, .ref (S.1 68)), (1, .int x1), (2, .int x2), (5, .int x5), (6, .int x6)]) [0, 1, 2, 3, 4] rfl ?_
  exact zb_Mo_lookAtCall_198 C hR h x1 x2 x5 x6 3 y0 e
set_option maxHeartbeats 4000000 in
set_option maxRecDepth 100000 in
theorem zb_Mo_lookAtCall_86 {X : zkj_T} {S : zs_T} {P : ze_T} {l : Launch} {D : va_G} {sz0 : Nat} {rh : zs_H} (C : zk_C X km_Mo_lookAtCall (zs_G S l D sz0) { frames := 5, cells := 0, slots := 0, locals := 111 } (ze_E P)) (hR : zkj_R X (zd_PV S rh) (none)) {k86 : zs_H → Int32 → Int32 → Int32 → Int32 → Int32 → Int32 → Int32 → (Option zs_H)} (hk86 : ∀ (h : zs_H) (x1 : Int32) (x2 : Int32) (x3 : Int32) (x4 : Int32) (x5 : Int32) (x6 : Int32) (x7 : Int32), k86 h x1 x2 x3 x4 x5 x6 x7 = some rh → zk_Ab X (zs_W S h) 0 0 86 [(0, .ref (S.1 68)), (1, .int x1), (2, .int x2), (3, .int x3), (4, .int x4), (5, .int x5), (6, .int x6), (7, .int x7)] []) (h : zs_H) (x1 : Int32) (x2 : Int32) (x3 : Int32) (x4 : Int32) (x5 : Int32) (x6 : Int32) (x7 : Int32) (e : f_Mo_lookAtCall_86 k86 h x1 x2 x3 x4 x5 x6 x7 = some rh) : zk_Ab X (zs_W S h) 0 0 86 [(0, .ref (S.1 68)), (1, .int x1), (2, .int x2), (3, .int x3), (4, .int x4), (5, .int x5), (6, .int x6), (7, .int x7)] [] := by
  unfold f_Mo_lookAtCall_86 at e
  refine zk_iload C kd_Mo_lookAtCall_86 7 rfl rfl ?_
  refine zk_if_lt (tgt := 145) C kd_Mo_lookAtCall_88 (by decide) rfl (fun b1 => ?_) (fun b1 => ?_)
  · replace e := zd_pos b1 e
    refine zk_aload_n C kd_Mo_lookAtCall_145 rfl 0 rfl rfl ?_
    refine zs_get (v := .int (h.1 68 29)) C 68 29 rfl rfl rfl rfl ki_Mo (by decide) kw1712 kd_Mo_lookAtCall_146 rfl ?_
    refine zk_if_le (tgt := 153) C kd_Mo_lookAtCall_149 (by decide) rfl (fun b2 => ?_) (fun b2 => ?_)
    · replace e := zd_pos b2 e
      refine zk_iload_n C kd_Mo_lookAtCall_153 rfl 2 rfl rfl ?_
      refine zk_if_ge (tgt := 166) C kd_Mo_lookAtCall_154 (by decide) rfl (fun b3 => ?_) (fun b3 => ?_)
      · replace e := zd_pos b3 e
        refine zk_aload_n C kd_Mo_lookAtCall_166 rfl 0 rfl rfl ?_
        refine zk_iload C kd_Mo_lookAtCall_167 4 rfl rfl ?_
        refine zk_iload_n C kd_Mo_lookAtCall_169 rfl 2 rfl rfl ?_
        refine zk_if_eq (tgt := 179) C kd_Mo_lookAtCall_170 (by decide) rfl (fun b4 => ?_) (fun b4 => ?_)
        · replace e := zd_pos b4 e
          refine zk_lvs (lv' := [(0, .ref (S.1 68)), (1, .int x1), (2, .int x2), (5, .int x5), (6, .int x6)]) [0, 1, 2, 5, 6] rfl ?_
          exact zb_Mo_lookAtCall_179 C hR h x1 x2 x5 x6 x4 e
        · replace e := zd_neg b4 e
          refine zk_iload_n C kd_Mo_lookAtCall_173 rfl 2 rfl rfl ?_
          refine zk_bipush (v := 6) C kd_Mo_lookAtCall_174 (by decide) rfl ?_
          refine zk_icmp_le (tgt := 183) C kd_Mo_lookAtCall_176 (by decide) rfl (fun b5 => ?_) (fun b5 => ?_)
          · replace e := zd_pos b5 e
            refine zk_iload_n C kd_Mo_lookAtCall_183 rfl 2 rfl rfl ?_
            refine zk_iconst (v := 3) C kd_Mo_lookAtCall_184 (by decide) rfl ?_
            refine zk_icmp_eq (tgt := 193) C kd_Mo_lookAtCall_185 (by decide) rfl (fun b6 => ?_) (fun b6 => ?_)
            · replace e := zd_pos b6 e
              refine zk_lvs (lv' := [(0, .ref (S.1 68)), (1, .int x1), (2, .int x2), (5, .int x5), (6, .int x6)]) [0, 1, 2, 5, 6] rfl ?_
              exact zb_Mo_lookAtCall_193 C hR h x1 x2 x5 x6 x4 e
            · replace e := zd_neg b6 e
              refine zk_iload_n C kd_Mo_lookAtCall_188 rfl 2 rfl rfl ?_
              refine zk_iconst (v := 4) C kd_Mo_lookAtCall_189 (by decide) rfl ?_
              refine zk_icmp_ne (tgt := 197) C kd_Mo_lookAtCall_190 (by decide) rfl (fun b7 => ?_) (fun b7 => ?_)
              · replace e := zd_neg b7 e
                refine zk_iconst (v := 2) C kd_Mo_lookAtCall_197 (by decide) rfl ?_
                refine zk_lvs (lv' := [(0, .ref (S.1 68)), (1, .int x1), (2, .int x2), (5, .int x5), (6, .int x6)]) [0, 1, 2, 5, 6] rfl ?_
                exact zb_Mo_lookAtCall_198 C hR h x1 x2 x5 x6 2 x4 e
              · replace e := zd_pos b7 e
                refine zk_lvs (lv' := [(0, .ref (S.1 68)), (1, .int x1), (2, .int x2), (5, .int x5), (6, .int x6)]) [0, 1, 2, 5, 6] rfl ?_
                exact zb_Mo_lookAtCall_193 C hR h x1 x2 x5 x6 x4 e
          · replace e := zd_neg b5 e
            refine zk_lvs (lv' := [(0, .ref (S.1 68)), (1, .int x1), (2, .int x2), (5, .int x5), (6, .int x6)]) [0, 1, 2, 5, 6] rfl ?_
            exact zb_Mo_lookAtCall_179 C hR h x1 x2 x5 x6 x4 e
      · replace e := zd_neg b3 e
        refine zk_aload_n C kd_Mo_lookAtCall_157 rfl 0 rfl rfl ?_
        refine zk_iload_n C kd_Mo_lookAtCall_158 rfl 1 rfl rfl ?_
        refine zk_iload_n C kd_Mo_lookAtCall_159 rfl 3 rfl rfl ?_
        refine zk_iload C kd_Mo_lookAtCall_160 4 rfl rfl ?_
        obtain ⟨h9, c8, e⟩ := zd_b e
        refine zs_callV (k := 68) (rn := { frames := 2, cells := 0, slots := 0, locals := 45 }) (As := [.int x1, .int x3, .int x4]) (rest := []) C (zc_Mo_callOwn h x1 x3 x4 c8) ku_Mo_callOwn kw2504 kv_Mo_callOwn rfl ⟨by decide, by decide⟩ ⟨by decide, by decide⟩ rfl rfl rfl (Nat.le_of_ble_eq_true rfl) kd_Mo_lookAtCall_162 rfl (c1 := 0) (s1 := 0) rfl rfl (fun v w hp => ?_)
        obtain ⟨rfl, rfl⟩ := hp
        refine zk_stk (r' := []) rfl ?_
        exact zk_vret C hR kd_Mo_lookAtCall_165 rfl rfl (zd_rV e)
    · replace e := zd_neg b2 e
      exact zk_vret C hR kd_Mo_lookAtCall_152 rfl rfl (zd_rV e)
  · replace e := zd_neg b1 e
    refine zk_iinc (v := (x4 + 1)) (lv' := [(4, _), (0, _), (1, _), (2, _), (3, _), (5, _), (6, _), (7, _)]) C kd_Mo_lookAtCall_91 4 rfl rfl (by decide) rfl rfl ?_
    refine zk_iload C kd_Mo_lookAtCall_94 5 rfl rfl ?_
    refine zk_if_eq (tgt := 116) C kd_Mo_lookAtCall_96 (by decide) rfl (fun b10 => ?_) (fun b10 => ?_)
    · replace e := zd_pos b10 e
      refine zk_lvs (lv' := [(0, .ref (S.1 68)), (1, .int x1), (2, .int x2), (3, .int x3), (4, .int (x4 + 1)), (6, .int x6), (7, .int x7)]) [1, 2, 3, 4, 0, 6, 7] rfl ?_
      exact zb_Mo_lookAtCall_116 C hR hk86 h x1 x2 x3 (x4 + 1) x6 x7 e
    · replace e := zd_neg b10 e
      refine zk_aload_n C kd_Mo_lookAtCall_99 rfl 1 rfl rfl ?_
      refine zs_get (v := .ref (S.1 100)) C 68 51 rfl rfl rfl rfl ki_Mo (by decide) kw1734 kd_Mo_lookAtCall_100 rfl ?_
      refine zk_iload C kd_Mo_lookAtCall_103 7 rfl rfl ?_
      obtain ⟨q11, e⟩ := zd_g e
      refine zs_iald C 100 rfl (zd_vp q11) kd_Mo_lookAtCall_105 rfl ?_
      refine zk_callS (rn := { frames := 0, cells := 0, slots := 0, locals := 0 }) (As := [.int (h.2.1 100 x7.toNatClampNeg)]) (rest := []) C (zc_Mo_isNumber h (h.2.1 100 x7.toNatClampNeg)) ku_Mo_isNumber kw2469 ks_Mo_isNumber rfl ⟨by decide, by decide⟩ ⟨by decide, by decide⟩ rfl (Nat.le_of_ble_eq_true rfl) kd_Mo_lookAtCall_106 rfl (c1 := 0) (s1 := 0) rfl rfl (fun v w hp => ?_)
      obtain ⟨rfl, rfl, z12⟩ := hp
      refine zk_stk (r' := [.int (f_Mo_isNumber (h.2.1 100 x7.toNatClampNeg))]) rfl ?_
      refine zk_if_eq (tgt := 116) C kd_Mo_lookAtCall_109 (by decide) rfl (fun b13 => ?_) (fun b13 => ?_)
      · replace e := zd_pos b13 e
        refine zk_lvs (lv' := [(0, .ref (S.1 68)), (1, .int x1), (2, .int x2), (3, .int x3), (4, .int (x4 + 1)), (6, .int x6), (7, .int x7)]) [1, 2, 3, 4, 0, 6, 7] rfl ?_
        exact zb_Mo_lookAtCall_116 C hR hk86 h x1 x2 x3 (x4 + 1) x6 x7 e
      · replace e := zd_neg b13 e
        refine zk_iconst (v := 1) C kd_Mo_lookAtCall_112 (by decide) rfl ?_
        refine zk_goto (tgt := 117) C kd_Mo_lookAtCall_113 (by decide) ?_
        refine zk_lvs (lv' := [(0, .ref (S.1 68)), (1, .int x1), (2, .int x2), (3, .int x3), (4, .int (x4 + 1)), (6, .int x6), (7, .int x7)]) [1, 2, 3, 4, 0, 6, 7] rfl ?_
        exact zb_Mo_lookAtCall_117 C hR hk86 h x1 x2 x3 (x4 + 1) x6 x7 1 e
theorem zl_Mo_lookAtCall_86 {X : zkj_T} {S : zs_T} {P : ze_T} {l : Launch} {D : va_G} {sz0 : Nat} {rh : zs_H} (C : zk_C X km_Mo_lookAtCall (zs_G S l D sz0) { frames := 5, cells := 0, slots := 0, locals := 111 } (ze_E P)) (hR : zkj_R X (zd_PV S rh) (none)) (n : Nat) : ∀ (h : zs_H) (x1 : Int32) (x2 : Int32) (x3 : Int32) (x4 : Int32) (x5 : Int32) (x6 : Int32) (x7 : Int32), f_Mo_lookAtCall_L86 n h x1 x2 x3 x4 x5 x6 x7 = some rh → zk_Ab X (zs_W S h) 0 0 86 [(0, .ref (S.1 68)), (1, .int x1), (2, .int x2), (3, .int x3), (4, .int x4), (5, .int x5), (6, .int x6), (7, .int x7)] [] := by
  induction n with
  | zero => intro h x1 x2 x3 x4 x5 x6 x7 e; exact zd_no e
  | succ n ih => intro h x1 x2 x3 x4 x5 x6 x7 e; exact zb_Mo_lookAtCall_86 (k86 := f_Mo_lookAtCall_L86  n) C hR ih h x1 x2 x3 x4 x5 x6 x7 e
set_option maxHeartbeats 4000000 in
set_option maxRecDepth 100000 in
theorem zb_Mo_lookAtCall_63 {X : zkj_T} {S : zs_T} {P : ze_T} {l : Launch} {D : va_G} {sz0 : Nat} {rh : zs_H} (C : zk_C X km_Mo_lookAtCall (zs_G S l D sz0) { frames := 5, cells := 0, slots := 0, locals := 111 } (ze_E P)) (hR : zkj_R X (zd_PV S rh) (none)) (h : zs_H) (x1 : Int32) (x2 : Int32) (x3 : Int32) (y0 : Int32) (e : f_Mo_lookAtCall_63 h x1 x2 x3 y0 = some rh) : zk_Ab X (zs_W S h) 0 0 63 [(0, .ref (S.1 68)), (1, .int x1), (2, .int x2), (3, .int x3)] [.int y0, .ref (S.1 68)] := by
  unfold f_Mo_lookAtCall_63 at e
  refine zk_bipush (v := 24) C kd_Mo_lookAtCall_63 (by decide) rfl ?_
  refine zk_iload_n C kd_Mo_lookAtCall_65 rfl 1 rfl rfl ?_
  obtain ⟨h2, c1, e⟩ := zd_b e
  refine zs_callV (k := 68) (rn := { frames := 1, cells := 0, slots := 0, locals := 22 }) (As := [.int y0, .int 24, .int x1]) (rest := []) C (zc_Mo_rule h y0 24 x1 c1) ku_Mo_rule kw2260 kv_Mo_rule rfl ⟨by decide, by decide⟩ ⟨by decide, by decide⟩ rfl rfl rfl (Nat.le_of_ble_eq_true rfl) kd_Mo_lookAtCall_66 rfl (c1 := 0) (s1 := 0) rfl rfl (fun v w hp => ?_)
  obtain ⟨rfl, rfl⟩ := hp
  refine zk_stk (r' := []) rfl ?_
  refine zk_iconst (v := 0) C kd_Mo_lookAtCall_69 (by decide) rfl ?_
  refine zk_istore (lv' := [(4, _), (0, _), (1, _), (2, _), (3, _)]) C kd_Mo_lookAtCall_70 (by decide) rfl rfl ?_
  refine zk_iconst (v := 1) C kd_Mo_lookAtCall_72 (by decide) rfl ?_
  refine zk_istore (lv' := [(5, _), (4, _), (0, _), (1, _), (2, _), (3, _)]) C kd_Mo_lookAtCall_73 (by decide) rfl rfl ?_
  refine zk_iconst (v := (-1)) C kd_Mo_lookAtCall_75 (by decide) rfl ?_
  refine zk_istore (lv' := [(6, _), (5, _), (4, _), (0, _), (1, _), (2, _), (3, _)]) C kd_Mo_lookAtCall_76 (by decide) rfl rfl ?_
  refine zk_aload_n C kd_Mo_lookAtCall_78 rfl 3 rfl rfl ?_
  refine zs_get (v := .ref (S.1 76)) C 68 19 rfl rfl rfl rfl ki_Mo (by decide) kw1702 kd_Mo_lookAtCall_79 rfl ?_
  refine zk_iload_n C kd_Mo_lookAtCall_82 rfl 4 rfl rfl ?_
  obtain ⟨q3, e⟩ := zd_g e
  refine zs_iald C 76 rfl (zd_vp q3) kd_Mo_lookAtCall_83 rfl ?_
  refine zk_istore (lv' := [(7, _), (6, _), (5, _), (4, _), (0, _), (1, _), (2, _), (3, _)]) C kd_Mo_lookAtCall_84 (by decide) rfl rfl ?_
  refine zk_lvs (lv' := [(0, .ref (S.1 68)), (1, .int x1), (2, .int x2), (3, .int x3), (4, .int 0), (5, .int 1), (6, .int (-1)), (7, .int (h2.2.1 76 x1.toNatClampNeg))]) [4, 5, 6, 7, 3, 2, 1, 0] rfl ?_
  exact zl_Mo_lookAtCall_86 C hR zF h2 x1 x2 x3 0 1 (-1) (h2.2.1 76 x1.toNatClampNeg) e
set_option maxHeartbeats 4000000 in
set_option maxRecDepth 100000 in
theorem zb_Mo_lookAtCall_62 {X : zkj_T} {S : zs_T} {P : ze_T} {l : Launch} {D : va_G} {sz0 : Nat} {rh : zs_H} (C : zk_C X km_Mo_lookAtCall (zs_G S l D sz0) { frames := 5, cells := 0, slots := 0, locals := 111 } (ze_E P)) (hR : zkj_R X (zd_PV S rh) (none)) (h : zs_H) (x1 : Int32) (x2 : Int32) (x3 : Int32) (e : f_Mo_lookAtCall_62 h x1 x2 x3 = some rh) : zk_Ab X (zs_W S h) 0 0 62 [(0, .ref (S.1 68)), (1, .int x1), (2, .int x2), (3, .int x3)] [.ref (S.1 68)] := by
  unfold f_Mo_lookAtCall_62 at e
  refine zk_iconst (v := 0) C kd_Mo_lookAtCall_62 (by decide) rfl ?_
  refine zk_lvs (lv' := [(0, .ref (S.1 68)), (1, .int x1), (2, .int x2), (3, .int x3)]) [0, 1, 2, 3] rfl ?_
  exact zb_Mo_lookAtCall_63 C hR h x1 x2 x3 0 e
set_option maxHeartbeats 4000000 in
set_option maxRecDepth 100000 in
theorem zb_Mo_lookAtCall_48 {X : zkj_T} {S : zs_T} {P : ze_T} {l : Launch} {D : va_G} {sz0 : Nat} {rh : zs_H} (C : zk_C X km_Mo_lookAtCall (zs_G S l D sz0) { frames := 5, cells := 0, slots := 0, locals := 111 } (ze_E P)) (hR : zkj_R X (zd_PV S rh) (none)) (h : zs_H) (x1 : Int32) (x2 : Int32) (y0 : Int32) (e : f_Mo_lookAtCall_48 h x1 x2 y0 = some rh) : zk_Ab X (zs_W S h) 0 0 48 [(0, .ref (S.1 68)), (1, .int x1), (2, .int x2)] [.int y0] := by
  unfold f_Mo_lookAtCall_48 at e
  refine zk_istore_n (lv' := [(3, _), (0, _), (1, _), (2, _)]) C kd_Mo_lookAtCall_48 rfl (by decide) rfl rfl ?_
  refine zk_aload_n C kd_Mo_lookAtCall_49 rfl 1 rfl rfl ?_
  refine zk_iload_n C kd_Mo_lookAtCall_50 rfl 3 rfl rfl ?_
  refine zk_if_ge (tgt := 62) C kd_Mo_lookAtCall_51 (by decide) rfl (fun b1 => ?_) (fun b1 => ?_)
  · replace e := zd_pos b1 e
    refine zk_lvs (lv' := [(0, .ref (S.1 68)), (1, .int x1), (2, .int x2), (3, .int y0)]) [1, 2, 3, 0] rfl ?_
    exact zb_Mo_lookAtCall_62 C hR h x1 x2 y0 e
  · replace e := zd_neg b1 e
    refine zk_iload_n C kd_Mo_lookAtCall_54 rfl 0 rfl rfl ?_
    refine zk_if_ge (tgt := 62) C kd_Mo_lookAtCall_55 (by decide) rfl (fun b2 => ?_) (fun b2 => ?_)
    · replace e := zd_pos b2 e
      refine zk_lvs (lv' := [(0, .ref (S.1 68)), (1, .int x1), (2, .int x2), (3, .int y0)]) [1, 2, 3, 0] rfl ?_
      exact zb_Mo_lookAtCall_62 C hR h x1 x2 y0 e
    · replace e := zd_neg b2 e
      refine zk_iconst (v := 1) C kd_Mo_lookAtCall_58 (by decide) rfl ?_
      refine zk_goto (tgt := 63) C kd_Mo_lookAtCall_59 (by decide) ?_
      refine zk_lvs (lv' := [(0, .ref (S.1 68)), (1, .int x1), (2, .int x2), (3, .int y0)]) [1, 2, 3, 0] rfl ?_
      exact zb_Mo_lookAtCall_63 C hR h x1 x2 y0 1 e
set_option maxHeartbeats 4000000 in
set_option maxRecDepth 100000 in
theorem zb_Mo_lookAtCall_47 {X : zkj_T} {S : zs_T} {P : ze_T} {l : Launch} {D : va_G} {sz0 : Nat} {rh : zs_H} (C : zk_C X km_Mo_lookAtCall (zs_G S l D sz0) { frames := 5, cells := 0, slots := 0, locals := 111 } (ze_E P)) (hR : zkj_R X (zd_PV S rh) (none)) (h : zs_H) (x1 : Int32) (x2 : Int32) (e : f_Mo_lookAtCall_47 h x1 x2 = some rh) : zk_Ab X (zs_W S h) 0 0 47 [(0, .ref (S.1 68)), (1, .int x1), (2, .int x2)] [] := by
  unfold f_Mo_lookAtCall_47 at e
  refine zk_iconst (v := (-1)) C kd_Mo_lookAtCall_47 (by decide) rfl ?_
  refine zk_lvs (lv' := [(0, .ref (S.1 68)), (1, .int x1), (2, .int x2)]) [0, 1, 2] rfl ?_
  exact zb_Mo_lookAtCall_48 C hR h x1 x2 (-1) e
set_option maxHeartbeats 4000000 in
set_option maxRecDepth 100000 in
theorem zc_Mo_lookAtCall {l : Launch} {D : va_G} {sz0 : Nat} {S : zs_T} {P : ze_T} (h : zs_H) (x1 : Int32) {rh : zs_H} (e : f_Mo_lookAtCall h x1 = some rh) : zk_Sp (zs_G S l D sz0) (ze_E P) km_Mo_lookAtCall { frames := 5, cells := 0, slots := 0, locals := 111 } [.ref (S.1 68), .int x1] (zs_W S h) (zd_PV S rh) := by
  refine zk_met ku_Mo_lookAtCall (Nat.le_of_ble_eq_true rfl) (ze_Em P) ?_
  intro X C hR
  refine zk_lvs (lv' := [(0, .ref (S.1 68)), (1, .int x1)]) [0, 1] rfl ?_
  unfold f_Mo_lookAtCall at e
  refine zk_aload_n C kd_Mo_lookAtCall_0 rfl 0 rfl rfl ?_
  refine ze_ldcSw (i := 11) C (zd_str 11 rfl) kd_Mo_lookAtCall_1 rfl ?_
  refine zk_aload_n C kd_Mo_lookAtCall_4 rfl 0 rfl rfl ?_
  refine zs_get (v := .ref (S.1 74)) C 68 17 rfl rfl rfl rfl ki_Mo (by decide) kw1700 kd_Mo_lookAtCall_5 rfl ?_
  refine zk_iload_n C kd_Mo_lookAtCall_8 rfl 1 rfl rfl ?_
  obtain ⟨q1, e⟩ := zd_g e
  refine zs_iald C 74 rfl (zd_vp q1) kd_Mo_lookAtCall_9 rfl ?_
  obtain ⟨v3, c2, e⟩ := zd_b e
  refine zs_callV (k := 68) (rn := { frames := 4, cells := 0, slots := 0, locals := 85 }) (As := [.ref (P.1 11), .int (h.2.1 74 x1.toNatClampNeg)]) (rest := []) C (zc_Mo_wordOf_s11 h (h.2.1 74 x1.toNatClampNeg) c2) ku_Mo_wordOf kw2273 kv_Mo_wordOf rfl ⟨by decide, by decide⟩ ⟨by decide, by decide⟩ rfl rfl rfl (Nat.le_of_ble_eq_true rfl) kd_Mo_lookAtCall_10 rfl (c1 := 0) (s1 := 0) rfl rfl (fun v w hp => ?_)
  obtain ⟨rfl, rfl⟩ := hp
  refine zk_stk (r' := [.int v3]) rfl ?_
  refine zk_istore_n (lv' := [(2, _), (0, _), (1, _)]) C kd_Mo_lookAtCall_13 rfl (by decide) rfl rfl ?_
  refine zk_aload_n C kd_Mo_lookAtCall_14 rfl 1 rfl rfl ?_
  refine zk_aload_n C kd_Mo_lookAtCall_15 rfl 1 rfl rfl ?_
  refine zs_get (v := .ref (S.1 74)) C 68 17 rfl rfl rfl rfl ki_Mo (by decide) kw1700 kd_Mo_lookAtCall_16 rfl ?_
  refine zk_iload_n C kd_Mo_lookAtCall_19 rfl 2 rfl rfl ?_
  refine zs_iald C 74 rfl (zd_vp q1) kd_Mo_lookAtCall_20 rfl ?_
  refine zk_aload_n C kd_Mo_lookAtCall_21 rfl 1 rfl rfl ?_
  refine zs_get (v := .int (h.1 68 54)) C 68 54 rfl rfl rfl rfl ki_Mo (by decide) kw1737 kd_Mo_lookAtCall_22 rfl ?_
  obtain ⟨v5, c4, e⟩ := zd_b e
  refine zs_callV (k := 68) (rn := { frames := 0, cells := 0, slots := 0, locals := 0 }) (As := [.int (h.2.1 74 x1.toNatClampNeg), .int (h.1 68 54)]) (rest := []) C (zc_Mo_blockNamed h (h.2.1 74 x1.toNatClampNeg) (h.1 68 54) c4) ku_Mo_blockNamed kw2278 kv_Mo_blockNamed rfl ⟨by decide, by decide⟩ ⟨by decide, by decide⟩ rfl rfl rfl (Nat.le_of_ble_eq_true rfl) kd_Mo_lookAtCall_25 rfl (c1 := 0) (s1 := 0) rfl rfl (fun v w hp => ?_)
  obtain ⟨rfl, rfl⟩ := hp
  refine zk_stk (r' := [.int v5]) rfl ?_
  refine zk_istore_n (lv' := [(3, _), (2, _), (0, _), (1, _)]) C kd_Mo_lookAtCall_28 rfl (by decide) rfl rfl ?_
  refine zk_iload_n C kd_Mo_lookAtCall_29 rfl 0 rfl rfl ?_
  refine zk_if_lt (tgt := 47) C kd_Mo_lookAtCall_30 (by decide) rfl (fun b6 => ?_) (fun b6 => ?_)
  · replace e := zd_pos b6 e
    refine zk_lvs (lv' := [(0, .ref (S.1 68)), (1, .int x1), (2, .int v3)]) [2, 3, 1] rfl ?_
    exact zb_Mo_lookAtCall_47 C hR h x1 v3 e
  · replace e := zd_neg b6 e
    refine zk_aload_n C kd_Mo_lookAtCall_33 rfl 2 rfl rfl ?_
    refine zs_get (v := .ref (S.1 86)) C 68 36 rfl rfl rfl rfl ki_Mo (by decide) kw1719 kd_Mo_lookAtCall_34 rfl ?_
    refine zk_iload_n C kd_Mo_lookAtCall_37 rfl 0 rfl rfl ?_
    obtain ⟨q7, e⟩ := zd_g e
    refine zs_iald C 86 rfl (zd_vp q7) kd_Mo_lookAtCall_38 rfl ?_
    refine zk_iconst (v := 1) C kd_Mo_lookAtCall_39 (by decide) rfl ?_
    refine zk_icmp_ne (tgt := 47) C kd_Mo_lookAtCall_40 (by decide) rfl (fun b8 => ?_) (fun b8 => ?_)
    · replace e := zd_neg b8 e
      refine zk_lvs (lv' := [(0, .ref (S.1 68)), (1, .int x1), (2, .int v3)]) [2, 3, 1] rfl ?_
      exact zb_Mo_lookAtCall_47 C hR h x1 v3 e
    · replace e := zd_pos b8 e
      refine zk_iload_n C kd_Mo_lookAtCall_43 rfl 0 rfl rfl ?_
      refine zk_goto (tgt := 48) C kd_Mo_lookAtCall_44 (by decide) ?_
      refine zk_lvs (lv' := [(0, .ref (S.1 68)), (1, .int x1), (2, .int v3)]) [2, 3, 1] rfl ?_
      exact zb_Mo_lookAtCall_48 C hR h x1 v3 v5 e
