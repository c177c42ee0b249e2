theorem kw19 : Jvm.Cond.initialized "java/lang/Math" ∈ zk_BW := zk_inT 19 (by decide +kernel) rfl
theorem kw290 : Jvm.Cond.fieldLink "PlantKeeper$Plan" (71 : Nat) "PlantKeeper$Plan" "blocks" "I" ∈ zk_BW := zk_inT 290 (by decide +kernel) rfl
theorem kw292 : Jvm.Cond.fieldLink "PlantKeeper$Plan" (75 : Nat) "PlantKeeper$Plan" "variables" "I" ∈ zk_BW := zk_inT 292 (by decide +kernel) rfl
theorem kw294 : Jvm.Cond.fieldLink "PlantKeeper$Plan" (78 : Nat) "PlantKeeper$Plan" "program" "I" ∈ zk_BW := zk_inT 294 (by decide +kernel) rfl
theorem kw298 : Jvm.Cond.fieldLink "PlantKeeper$Plan" (81 : Nat) "PlantKeeper$Plan" "allCells" "I" ∈ zk_BW := zk_inT 298 (by decide +kernel) rfl
theorem kw816 : Jvm.Cond.static ({ cls := "java/lang/Math", name := "min", desc := "(II)I" } : Jvm.MethodName) ∈ zk_BW := zk_inT 816 (by decide +kernel) rfl
theorem kw1003 : Jvm.Cond.instanceMethod ({ cls := "PlantKeeper$Plan", name := "forget", desc := "()V" } : Jvm.MethodName) ∈ zk_BW := zk_inT 1003 (by decide +kernel) rfl
theorem kw1004 : Jvm.Cond.selects "PlantKeeper$Plan" ({ cls := "PlantKeeper$Plan", name := "forget", desc := "()V" } : Jvm.MethodName) ({ cls := "PlantKeeper$Plan", name := "forget", desc := "()V" } : Jvm.MethodName) ∈ zk_BW := zk_inT 1004 (by decide +kernel) rfl
theorem kw1005 : Jvm.Cond.code ({ cls := "PlantKeeper$Plan", name := "forget", desc := "()V" } : Jvm.MethodName) prog_9_method_2_code (3 : Nat) (Option.none : Option FieldType) ∈ zk_BW := zk_inT 1005 (by decide +kernel) rfl
theorem kw1006 : Jvm.Cond.methodLink "PlantKeeper$Plan" (65 : Nat) ({ cls := "java/util/Arrays", name := "fill", desc := "([II)V" } : Jvm.MethodName) ∈ zk_BW := zk_inT 1006 (by decide +kernel) rfl
theorem kw1007 : Jvm.Cond.methodLink "PlantKeeper$Plan" (84 : Nat) ({ cls := "PlantKeeper$Plan", name := "open", desc := "(III)I" } : Jvm.MethodName) ∈ zk_BW := zk_inT 1007 (by decide +kernel) rfl
theorem kw1008 : Jvm.Cond.instanceMethod ({ cls := "PlantKeeper$Plan", name := "open", desc := "(III)I" } : Jvm.MethodName) ∈ zk_BW := zk_inT 1008 (by decide +kernel) rfl
theorem kw1009 : Jvm.Cond.selects "PlantKeeper$Plan" ({ cls := "PlantKeeper$Plan", name := "open", desc := "(III)I" } : Jvm.MethodName) ({ cls := "PlantKeeper$Plan", name := "open", desc := "(III)I" } : Jvm.MethodName) ∈ zk_BW := zk_inT 1009 (by decide +kernel) rfl
theorem kw1010 : Jvm.Cond.code ({ cls := "PlantKeeper$Plan", name := "open", desc := "(III)I" } : Jvm.MethodName) prog_9_method_4_code (5 : Nat) (Option.some FieldType.int) ∈ zk_BW := zk_inT 1010 (by decide +kernel) rfl
theorem kw1011 : Jvm.Cond.methodLink "PlantKeeper$Plan" (102 : Nat) ({ cls := "java/lang/Math", name := "min", desc := "(II)I" } : Jvm.MethodName) ∈ zk_BW := zk_inT 1011 (by decide +kernel) rfl
theorem kw1012 : Jvm.Cond.fieldLink "PlantKeeper$Plan" (88 : Nat) "PlantKeeper$Plan" "STANDARD_VARIABLES" "[I" ∈ zk_BW := zk_inT 1012 (by decide +kernel) rfl
theorem kw1014 : Jvm.Cond.methodLink "PlantKeeper$Plan" (91 : Nat) ({ cls := "PlantKeeper$Plan", name := "addStandard", desc := "(I)V" } : Jvm.MethodName) ∈ zk_BW := zk_inT 1014 (by decide +kernel) rfl
theorem kw1016 : Jvm.Cond.instanceMethod ({ cls := "PlantKeeper$Plan", name := "addStandard", desc := "(I)V" } : Jvm.MethodName) ∈ zk_BW := zk_inT 1016 (by decide +kernel) rfl
theorem kw1017 : Jvm.Cond.code ({ cls := "PlantKeeper$Plan", name := "addStandard", desc := "(I)V" } : Jvm.MethodName) prog_9_method_3_code (3 : Nat) (Option.none : Option FieldType) ∈ zk_BW := zk_inT 1017 (by decide +kernel) rfl
theorem kw1018 : Jvm.Cond.methodLink "PlantKeeper$Plan" (98 : Nat) ({ cls := "PlantKeeper$Plan", name := "add", desc := "(II)I" } : Jvm.MethodName) ∈ zk_BW := zk_inT 1018 (by decide +kernel) rfl
theorem kw1019 : Jvm.Cond.instanceMethod ({ cls := "PlantKeeper$Plan", name := "add", desc := "(II)I" } : Jvm.MethodName) ∈ zk_BW := zk_inT 1019 (by decide +kernel) rfl
theorem kw1020 : Jvm.Cond.selects "PlantKeeper$Plan" ({ cls := "PlantKeeper$Plan", name := "add", desc := "(II)I" } : Jvm.MethodName) ({ cls := "PlantKeeper$Plan", name := "add", desc := "(II)I" } : Jvm.MethodName) ∈ zk_BW := zk_inT 1020 (by decide +kernel) rfl
theorem kw1021 : Jvm.Cond.code ({ cls := "PlantKeeper$Plan", name := "add", desc := "(II)I" } : Jvm.MethodName) prog_9_method_5_code (4 : Nat) (Option.some FieldType.int) ∈ zk_BW := zk_inT 1021 (by decide +kernel) rfl
theorem kw1022 : Jvm.Cond.fieldLink "PlantKeeper$Plan" (95 : Nat) "PlantKeeper$Plan" "STANDARD_CELLS" "[I" ∈ zk_BW := zk_inT 1022 (by decide +kernel) rfl
abbrev kc_Pl_open : ByteArray := prog_9_method_4_code
def km_Pl_open : zk_MT := (⟨"PlantKeeper$Plan", "open", "(III)I"⟩, kc_Pl_open, 5, some .int, 3)
theorem ku_Pl_open : zk_My km_Pl_open := ⟨kw1010, kw10, by decide, by decide, by decide, by decide +kernel⟩
theorem kv_Pl_open : zk_Mv km_Pl_open := ⟨kw1008, kw1009⟩
abbrev kc_Pl_add : ByteArray := prog_9_method_5_code
def km_Pl_add : zk_MT := (⟨"PlantKeeper$Plan", "add", "(II)I"⟩, kc_Pl_add, 4, some .int, 2)
theorem ku_Pl_add : zk_My km_Pl_add := ⟨kw1021, kw10, by decide, by decide, by decide, by decide +kernel⟩
theorem kv_Pl_add : zk_Mv km_Pl_add := ⟨kw1019, kw1020⟩
abbrev kc_Pl_addStandard : ByteArray := prog_9_method_3_code
def km_Pl_addStandard : zk_MT := (⟨"PlantKeeper$Plan", "addStandard", "(I)V"⟩, kc_Pl_addStandard, 3, none, 1)
theorem ku_Pl_addStandard : zk_My km_Pl_addStandard := ⟨kw1017, kw10, by decide, by decide, by decide, by decide +kernel⟩
theorem kv_Pl_addStandard : zk_Mv km_Pl_addStandard := ⟨kw1016, zk_inS 47 (q := (⟨"PlantKeeper$Plan", "addStandard", "(I)V"⟩, 21)) (by decide +kernel)⟩
abbrev kc_Pl_forget : ByteArray := prog_9_method_2_code
def km_Pl_forget : zk_MT := (⟨"PlantKeeper$Plan", "forget", "()V"⟩, kc_Pl_forget, 3, none, 0)
theorem ku_Pl_forget : zk_My km_Pl_forget := ⟨kw1005, kw10, by decide, by decide, by decide, by decide +kernel⟩
theorem kv_Pl_forget : zk_Mv km_Pl_forget := ⟨kw1003, kw1004⟩
theorem kd_Pl_open_0 : decode kc_Pl_open 0 = .ok (.aload_n 0, 1) := by decide +kernel
theorem kd_Pl_open_1 : decode kc_Pl_open 1 = .ok (.getfield 71, 3) := by decide +kernel
theorem kd_Pl_open_4 : decode kc_Pl_open 4 = .ok (.sipush 628, 3) := by decide +kernel
theorem kd_Pl_open_7 : decode kc_Pl_open 7 = .ok (.invokestatic 102, 3) := by decide +kernel
theorem kd_Pl_open_10 : decode kc_Pl_open 10 = .ok (.istore 4, 2) := by decide +kernel
theorem kd_Pl_open_12 : decode kc_Pl_open 12 = .ok (.aload_n 0, 1) := by decide +kernel
theorem kd_Pl_open_13 : decode kc_Pl_open 13 = .ok (.getfield 11, 3) := by decide +kernel
theorem kd_Pl_open_16 : decode kc_Pl_open 16 = .ok (.iload 4, 2) := by decide +kernel
theorem kd_Pl_open_18 : decode kc_Pl_open 18 = .ok (.iload_n 1, 1) := by decide +kernel
theorem kd_Pl_open_19 : decode kc_Pl_open 19 = .ok (.iastore, 1) := by decide +kernel
theorem kd_Pl_open_20 : decode kc_Pl_open 20 = .ok (.aload_n 0, 1) := by decide +kernel
theorem kd_Pl_open_21 : decode kc_Pl_open 21 = .ok (.getfield 15, 3) := by decide +kernel
theorem kd_Pl_open_24 : decode kc_Pl_open 24 = .ok (.iload 4, 2) := by decide +kernel
theorem kd_Pl_open_26 : decode kc_Pl_open 26 = .ok (.iload_n 3, 1) := by decide +kernel
theorem kd_Pl_open_27 : decode kc_Pl_open 27 = .ok (.iastore, 1) := by decide +kernel
theorem kd_Pl_open_28 : decode kc_Pl_open 28 = .ok (.aload_n 0, 1) := by decide +kernel
theorem kd_Pl_open_29 : decode kc_Pl_open 29 = .ok (.getfield 18, 3) := by decide +kernel
theorem kd_Pl_open_32 : decode kc_Pl_open 32 = .ok (.iload 4, 2) := by decide +kernel
theorem kd_Pl_open_34 : decode kc_Pl_open 34 = .ok (.aload_n 0, 1) := by decide +kernel
theorem kd_Pl_open_35 : decode kc_Pl_open 35 = .ok (.getfield 75, 3) := by decide +kernel
theorem kd_Pl_open_38 : decode kc_Pl_open 38 = .ok (.iastore, 1) := by decide +kernel
theorem kd_Pl_open_39 : decode kc_Pl_open 39 = .ok (.aload_n 0, 1) := by decide +kernel
theorem kd_Pl_open_40 : decode kc_Pl_open 40 = .ok (.getfield 21, 3) := by decide +kernel
theorem kd_Pl_open_43 : decode kc_Pl_open 43 = .ok (.iload 4, 2) := by decide +kernel
theorem kd_Pl_open_45 : decode kc_Pl_open 45 = .ok (.aload_n 0, 1) := by decide +kernel
theorem kd_Pl_open_46 : decode kc_Pl_open 46 = .ok (.getfield 75, 3) := by decide +kernel
theorem kd_Pl_open_49 : decode kc_Pl_open 49 = .ok (.iastore, 1) := by decide +kernel
theorem kd_Pl_open_50 : decode kc_Pl_open 50 = .ok (.aload_n 0, 1) := by decide +kernel
theorem kd_Pl_open_51 : decode kc_Pl_open 51 = .ok (.getfield 24, 3) := by decide +kernel
theorem kd_Pl_open_54 : decode kc_Pl_open 54 = .ok (.iload 4, 2) := by decide +kernel
theorem kd_Pl_open_56 : decode kc_Pl_open 56 = .ok (.iload_n 1, 1) := by decide +kernel
theorem kd_Pl_open_57 : decode kc_Pl_open 57 = .ok (.iconst 3, 1) := by decide +kernel
theorem kd_Pl_open_58 : decode kc_Pl_open 58 = .ok (.if_icmp .ne 9, 3) := by decide +kernel
theorem kd_Pl_open_61 : decode kc_Pl_open 61 = .ok (.sipush 960, 3) := by decide +kernel
theorem kd_Pl_open_64 : decode kc_Pl_open 64 = .ok (.goto 4, 3) := by decide +kernel
theorem kd_Pl_open_67 : decode kc_Pl_open 67 = .ok (.iconst 0, 1) := by decide +kernel
theorem kd_Pl_open_68 : decode kc_Pl_open 68 = .ok (.iastore, 1) := by decide +kernel
theorem kd_Pl_open_69 : decode kc_Pl_open 69 = .ok (.aload_n 0, 1) := by decide +kernel
theorem kd_Pl_open_70 : decode kc_Pl_open 70 = .ok (.getfield 27, 3) := by decide +kernel
theorem kd_Pl_open_73 : decode kc_Pl_open 73 = .ok (.iload 4, 2) := by decide +kernel
theorem kd_Pl_open_75 : decode kc_Pl_open 75 = .ok (.aload_n 0, 1) := by decide +kernel
theorem kd_Pl_open_76 : decode kc_Pl_open 76 = .ok (.getfield 24, 3) := by decide +kernel
theorem kd_Pl_open_79 : decode kc_Pl_open 79 = .ok (.iload 4, 2) := by decide +kernel
theorem kd_Pl_open_81 : decode kc_Pl_open 81 = .ok (.iaload, 1) := by decide +kernel
theorem kd_Pl_open_82 : decode kc_Pl_open 82 = .ok (.iastore, 1) := by decide +kernel
theorem kd_Pl_open_83 : decode kc_Pl_open 83 = .ok (.aload_n 0, 1) := by decide +kernel
theorem kd_Pl_open_84 : decode kc_Pl_open 84 = .ok (.getfield 30, 3) := by decide +kernel
theorem kd_Pl_open_87 : decode kc_Pl_open 87 = .ok (.iload 4, 2) := by decide +kernel
theorem kd_Pl_open_89 : decode kc_Pl_open 89 = .ok (.iconst 0, 1) := by decide +kernel
theorem kd_Pl_open_90 : decode kc_Pl_open 90 = .ok (.iastore, 1) := by decide +kernel
theorem kd_Pl_open_91 : decode kc_Pl_open 91 = .ok (.aload_n 0, 1) := by decide +kernel
theorem kd_Pl_open_92 : decode kc_Pl_open 92 = .ok (.getfield 59, 3) := by decide +kernel
theorem kd_Pl_open_95 : decode kc_Pl_open 95 = .ok (.iload_n 2, 1) := by decide +kernel
theorem kd_Pl_open_96 : decode kc_Pl_open 96 = .ok (.iload 4, 2) := by decide +kernel
theorem kd_Pl_open_98 : decode kc_Pl_open 98 = .ok (.iastore, 1) := by decide +kernel
theorem kd_Pl_open_99 : decode kc_Pl_open 99 = .ok (.aload_n 0, 1) := by decide +kernel
theorem kd_Pl_open_100 : decode kc_Pl_open 100 = .ok (.iload 4, 2) := by decide +kernel
theorem kd_Pl_open_102 : decode kc_Pl_open 102 = .ok (.iconst 1, 1) := by decide +kernel
theorem kd_Pl_open_103 : decode kc_Pl_open 103 = .ok (.iadd, 1) := by decide +kernel
theorem kd_Pl_open_104 : decode kc_Pl_open 104 = .ok (.putfield 71, 3) := by decide +kernel
theorem kd_Pl_open_107 : decode kc_Pl_open 107 = .ok (.iload_n 1, 1) := by decide +kernel
theorem kd_Pl_open_108 : decode kc_Pl_open 108 = .ok (.iconst 3, 1) := by decide +kernel
theorem kd_Pl_open_109 : decode kc_Pl_open 109 = .ok (.if_icmp .ne 9, 3) := by decide +kernel
theorem kd_Pl_open_112 : decode kc_Pl_open 112 = .ok (.aload_n 0, 1) := by decide +kernel
theorem kd_Pl_open_113 : decode kc_Pl_open 113 = .ok (.iload 4, 2) := by decide +kernel
theorem kd_Pl_open_115 : decode kc_Pl_open 115 = .ok (.putfield 78, 3) := by decide +kernel
theorem kd_Pl_open_118 : decode kc_Pl_open 118 = .ok (.iload 4, 2) := by decide +kernel
theorem kd_Pl_open_120 : decode kc_Pl_open 120 = .ok (.ireturn, 1) := by decide +kernel
theorem kd_Pl_add_0 : decode kc_Pl_add 0 = .ok (.aload_n 0, 1) := by decide +kernel
theorem kd_Pl_add_1 : decode kc_Pl_add 1 = .ok (.getfield 75, 3) := by decide +kernel
theorem kd_Pl_add_4 : decode kc_Pl_add 4 = .ok (.sipush 5999, 3) := by decide +kernel
theorem kd_Pl_add_7 : decode kc_Pl_add 7 = .ok (.invokestatic 102, 3) := by decide +kernel
theorem kd_Pl_add_10 : decode kc_Pl_add 10 = .ok (.istore_n 3, 1) := by decide +kernel
theorem kd_Pl_add_11 : decode kc_Pl_add 11 = .ok (.aload_n 0, 1) := by decide +kernel
theorem kd_Pl_add_12 : decode kc_Pl_add 12 = .ok (.getfield 33, 3) := by decide +kernel
theorem kd_Pl_add_15 : decode kc_Pl_add 15 = .ok (.iload_n 3, 1) := by decide +kernel
theorem kd_Pl_add_16 : decode kc_Pl_add 16 = .ok (.iload_n 1, 1) := by decide +kernel
theorem kd_Pl_add_17 : decode kc_Pl_add 17 = .ok (.iastore, 1) := by decide +kernel
theorem kd_Pl_add_18 : decode kc_Pl_add 18 = .ok (.aload_n 0, 1) := by decide +kernel
theorem kd_Pl_add_19 : decode kc_Pl_add 19 = .ok (.getfield 36, 3) := by decide +kernel
theorem kd_Pl_add_22 : decode kc_Pl_add 22 = .ok (.iload_n 3, 1) := by decide +kernel
theorem kd_Pl_add_23 : decode kc_Pl_add 23 = .ok (.iload_n 2, 1) := by decide +kernel
theorem kd_Pl_add_24 : decode kc_Pl_add 24 = .ok (.iastore, 1) := by decide +kernel
theorem kd_Pl_add_25 : decode kc_Pl_add 25 = .ok (.aload_n 0, 1) := by decide +kernel
theorem kd_Pl_add_26 : decode kc_Pl_add 26 = .ok (.getfield 39, 3) := by decide +kernel
theorem kd_Pl_add_29 : decode kc_Pl_add 29 = .ok (.iload_n 3, 1) := by decide +kernel
theorem kd_Pl_add_30 : decode kc_Pl_add 30 = .ok (.iconst (-1), 1) := by decide +kernel
theorem kd_Pl_add_31 : decode kc_Pl_add 31 = .ok (.iastore, 1) := by decide +kernel
theorem kd_Pl_add_32 : decode kc_Pl_add 32 = .ok (.aload_n 0, 1) := by decide +kernel
theorem kd_Pl_add_33 : decode kc_Pl_add 33 = .ok (.getfield 42, 3) := by decide +kernel
theorem kd_Pl_add_36 : decode kc_Pl_add 36 = .ok (.iload_n 3, 1) := by decide +kernel
theorem kd_Pl_add_37 : decode kc_Pl_add 37 = .ok (.iconst 0, 1) := by decide +kernel
theorem kd_Pl_add_38 : decode kc_Pl_add 38 = .ok (.iastore, 1) := by decide +kernel
theorem kd_Pl_add_39 : decode kc_Pl_add 39 = .ok (.aload_n 0, 1) := by decide +kernel
theorem kd_Pl_add_40 : decode kc_Pl_add 40 = .ok (.getfield 45, 3) := by decide +kernel
theorem kd_Pl_add_43 : decode kc_Pl_add 43 = .ok (.iload_n 3, 1) := by decide +kernel
theorem kd_Pl_add_44 : decode kc_Pl_add 44 = .ok (.iconst 0, 1) := by decide +kernel
theorem kd_Pl_add_45 : decode kc_Pl_add 45 = .ok (.iastore, 1) := by decide +kernel
theorem kd_Pl_add_46 : decode kc_Pl_add 46 = .ok (.aload_n 0, 1) := by decide +kernel
theorem kd_Pl_add_47 : decode kc_Pl_add 47 = .ok (.getfield 48, 3) := by decide +kernel
theorem kd_Pl_add_50 : decode kc_Pl_add 50 = .ok (.iload_n 3, 1) := by decide +kernel
theorem kd_Pl_add_51 : decode kc_Pl_add 51 = .ok (.iconst 0, 1) := by decide +kernel
theorem kd_Pl_add_52 : decode kc_Pl_add 52 = .ok (.iastore, 1) := by decide +kernel
theorem kd_Pl_add_53 : decode kc_Pl_add 53 = .ok (.aload_n 0, 1) := by decide +kernel
theorem kd_Pl_add_54 : decode kc_Pl_add 54 = .ok (.getfield 51, 3) := by decide +kernel
theorem kd_Pl_add_57 : decode kc_Pl_add 57 = .ok (.iload_n 3, 1) := by decide +kernel
theorem kd_Pl_add_58 : decode kc_Pl_add 58 = .ok (.iconst 1, 1) := by decide +kernel
theorem kd_Pl_add_59 : decode kc_Pl_add 59 = .ok (.iastore, 1) := by decide +kernel
theorem kd_Pl_add_60 : decode kc_Pl_add 60 = .ok (.aload_n 0, 1) := by decide +kernel
theorem kd_Pl_add_61 : decode kc_Pl_add 61 = .ok (.getfield 54, 3) := by decide +kernel
theorem kd_Pl_add_64 : decode kc_Pl_add 64 = .ok (.iload_n 3, 1) := by decide +kernel
theorem kd_Pl_add_65 : decode kc_Pl_add 65 = .ok (.iconst 0, 1) := by decide +kernel
theorem kd_Pl_add_66 : decode kc_Pl_add 66 = .ok (.iastore, 1) := by decide +kernel
theorem kd_Pl_add_67 : decode kc_Pl_add 67 = .ok (.aload_n 0, 1) := by decide +kernel
theorem kd_Pl_add_68 : decode kc_Pl_add 68 = .ok (.getfield 62, 3) := by decide +kernel
theorem kd_Pl_add_71 : decode kc_Pl_add 71 = .ok (.iload_n 1, 1) := by decide +kernel
theorem kd_Pl_add_72 : decode kc_Pl_add 72 = .ok (.iload_n 3, 1) := by decide +kernel
theorem kd_Pl_add_73 : decode kc_Pl_add 73 = .ok (.iastore, 1) := by decide +kernel
theorem kd_Pl_add_74 : decode kc_Pl_add 74 = .ok (.aload_n 0, 1) := by decide +kernel
theorem kd_Pl_add_75 : decode kc_Pl_add 75 = .ok (.iload_n 3, 1) := by decide +kernel
theorem kd_Pl_add_76 : decode kc_Pl_add 76 = .ok (.iconst 1, 1) := by decide +kernel
theorem kd_Pl_add_77 : decode kc_Pl_add 77 = .ok (.iadd, 1) := by decide +kernel
theorem kd_Pl_add_78 : decode kc_Pl_add 78 = .ok (.putfield 75, 3) := by decide +kernel
theorem kd_Pl_add_81 : decode kc_Pl_add 81 = .ok (.aload_n 0, 1) := by decide +kernel
theorem kd_Pl_add_82 : decode kc_Pl_add 82 = .ok (.getfield 71, 3) := by decide +kernel
theorem kd_Pl_add_85 : decode kc_Pl_add 85 = .ok (.ifCond .le 18, 3) := by decide +kernel
theorem kd_Pl_add_88 : decode kc_Pl_add 88 = .ok (.aload_n 0, 1) := by decide +kernel
theorem kd_Pl_add_89 : decode kc_Pl_add 89 = .ok (.getfield 21, 3) := by decide +kernel
theorem kd_Pl_add_92 : decode kc_Pl_add 92 = .ok (.aload_n 0, 1) := by decide +kernel
theorem kd_Pl_add_93 : decode kc_Pl_add 93 = .ok (.getfield 71, 3) := by decide +kernel
theorem kd_Pl_add_96 : decode kc_Pl_add 96 = .ok (.iconst 1, 1) := by decide +kernel
theorem kd_Pl_add_97 : decode kc_Pl_add 97 = .ok (.isub, 1) := by decide +kernel
theorem kd_Pl_add_98 : decode kc_Pl_add 98 = .ok (.aload_n 0, 1) := by decide +kernel
theorem kd_Pl_add_99 : decode kc_Pl_add 99 = .ok (.getfield 75, 3) := by decide +kernel
theorem kd_Pl_add_102 : decode kc_Pl_add 102 = .ok (.iastore, 1) := by decide +kernel
theorem kd_Pl_add_103 : decode kc_Pl_add 103 = .ok (.iload_n 3, 1) := by decide +kernel
theorem kd_Pl_add_104 : decode kc_Pl_add 104 = .ok (.ireturn, 1) := by decide +kernel
theorem kd_Pl_addStandard_0 : decode kc_Pl_addStandard 0 = .ok (.aload_n 0, 1) := by decide +kernel
theorem kd_Pl_addStandard_1 : decode kc_Pl_addStandard 1 = .ok (.bipush 60, 2) := by decide +kernel
theorem kd_Pl_addStandard_3 : decode kc_Pl_addStandard 3 = .ok (.getstatic 88, 3) := by decide +kernel
theorem kd_Pl_addStandard_6 : decode kc_Pl_addStandard 6 = .ok (.iload_n 1, 1) := by decide +kernel
theorem kd_Pl_addStandard_7 : decode kc_Pl_addStandard 7 = .ok (.iconst 1, 1) := by decide +kernel
theorem kd_Pl_addStandard_8 : decode kc_Pl_addStandard 8 = .ok (.iadd, 1) := by decide +kernel
theorem kd_Pl_addStandard_9 : decode kc_Pl_addStandard 9 = .ok (.iaload, 1) := by decide +kernel
theorem kd_Pl_addStandard_10 : decode kc_Pl_addStandard 10 = .ok (.iadd, 1) := by decide +kernel
theorem kd_Pl_addStandard_11 : decode kc_Pl_addStandard 11 = .ok (.getstatic 88, 3) := by decide +kernel
theorem kd_Pl_addStandard_14 : decode kc_Pl_addStandard 14 = .ok (.iload_n 1, 1) := by decide +kernel
theorem kd_Pl_addStandard_15 : decode kc_Pl_addStandard 15 = .ok (.iconst 2, 1) := by decide +kernel
theorem kd_Pl_addStandard_16 : decode kc_Pl_addStandard 16 = .ok (.iadd, 1) := by decide +kernel
theorem kd_Pl_addStandard_17 : decode kc_Pl_addStandard 17 = .ok (.iaload, 1) := by decide +kernel
theorem kd_Pl_addStandard_18 : decode kc_Pl_addStandard 18 = .ok (.invokevirtual 98, 3) := by decide +kernel
theorem kd_Pl_addStandard_21 : decode kc_Pl_addStandard 21 = .ok (.istore_n 2, 1) := by decide +kernel
theorem kd_Pl_addStandard_22 : decode kc_Pl_addStandard 22 = .ok (.aload_n 0, 1) := by decide +kernel
theorem kd_Pl_addStandard_23 : decode kc_Pl_addStandard 23 = .ok (.getfield 42, 3) := by decide +kernel
theorem kd_Pl_addStandard_26 : decode kc_Pl_addStandard 26 = .ok (.iload_n 2, 1) := by decide +kernel
theorem kd_Pl_addStandard_27 : decode kc_Pl_addStandard 27 = .ok (.getstatic 88, 3) := by decide +kernel
theorem kd_Pl_addStandard_30 : decode kc_Pl_addStandard 30 = .ok (.iload_n 1, 1) := by decide +kernel
theorem kd_Pl_addStandard_31 : decode kc_Pl_addStandard 31 = .ok (.iconst 3, 1) := by decide +kernel
theorem kd_Pl_addStandard_32 : decode kc_Pl_addStandard 32 = .ok (.iadd, 1) := by decide +kernel
theorem kd_Pl_addStandard_33 : decode kc_Pl_addStandard 33 = .ok (.iaload, 1) := by decide +kernel
theorem kd_Pl_addStandard_34 : decode kc_Pl_addStandard 34 = .ok (.iastore, 1) := by decide +kernel
theorem kd_Pl_addStandard_35 : decode kc_Pl_addStandard 35 = .ok (.aload_n 0, 1) := by decide +kernel
theorem kd_Pl_addStandard_36 : decode kc_Pl_addStandard 36 = .ok (.getfield 45, 3) := by decide +kernel
theorem kd_Pl_addStandard_39 : decode kc_Pl_addStandard 39 = .ok (.iload_n 2, 1) := by decide +kernel
theorem kd_Pl_addStandard_40 : decode kc_Pl_addStandard 40 = .ok (.getstatic 88, 3) := by decide +kernel
theorem kd_Pl_addStandard_43 : decode kc_Pl_addStandard 43 = .ok (.iload_n 1, 1) := by decide +kernel
theorem kd_Pl_addStandard_44 : decode kc_Pl_addStandard 44 = .ok (.iconst 4, 1) := by decide +kernel
theorem kd_Pl_addStandard_45 : decode kc_Pl_addStandard 45 = .ok (.iadd, 1) := by decide +kernel
theorem kd_Pl_addStandard_46 : decode kc_Pl_addStandard 46 = .ok (.iaload, 1) := by decide +kernel
theorem kd_Pl_addStandard_47 : decode kc_Pl_addStandard 47 = .ok (.iastore, 1) := by decide +kernel
theorem kd_Pl_addStandard_48 : decode kc_Pl_addStandard 48 = .ok (.return_, 1) := by decide +kernel
theorem kd_Pl_forget_0 : decode kc_Pl_forget 0 = .ok (.aload_n 0, 1) := by decide +kernel
theorem kd_Pl_forget_1 : decode kc_Pl_forget 1 = .ok (.getfield 59, 3) := by decide +kernel
theorem kd_Pl_forget_4 : decode kc_Pl_forget 4 = .ok (.iconst (-1), 1) := by decide +kernel
theorem kd_Pl_forget_5 : decode kc_Pl_forget 5 = .ok (.invokestatic 65, 3) := by decide +kernel
theorem kd_Pl_forget_8 : decode kc_Pl_forget 8 = .ok (.aload_n 0, 1) := by decide +kernel
theorem kd_Pl_forget_9 : decode kc_Pl_forget 9 = .ok (.getfield 62, 3) := by decide +kernel
theorem kd_Pl_forget_12 : decode kc_Pl_forget 12 = .ok (.iconst (-1), 1) := by decide +kernel
theorem kd_Pl_forget_13 : decode kc_Pl_forget 13 = .ok (.invokestatic 65, 3) := by decide +kernel
theorem kd_Pl_forget_16 : decode kc_Pl_forget 16 = .ok (.aload_n 0, 1) := by decide +kernel
theorem kd_Pl_forget_17 : decode kc_Pl_forget 17 = .ok (.iconst 0, 1) := by decide +kernel
theorem kd_Pl_forget_18 : decode kc_Pl_forget 18 = .ok (.putfield 71, 3) := by decide +kernel
theorem kd_Pl_forget_21 : decode kc_Pl_forget 21 = .ok (.aload_n 0, 1) := by decide +kernel
theorem kd_Pl_forget_22 : decode kc_Pl_forget 22 = .ok (.iconst 0, 1) := by decide +kernel
theorem kd_Pl_forget_23 : decode kc_Pl_forget 23 = .ok (.putfield 75, 3) := by decide +kernel
theorem kd_Pl_forget_26 : decode kc_Pl_forget 26 = .ok (.aload_n 0, 1) := by decide +kernel
theorem kd_Pl_forget_27 : decode kc_Pl_forget 27 = .ok (.iconst (-1), 1) := by decide +kernel
theorem kd_Pl_forget_28 : decode kc_Pl_forget 28 = .ok (.putfield 78, 3) := by decide +kernel
theorem kd_Pl_forget_31 : decode kc_Pl_forget 31 = .ok (.aload_n 0, 1) := by decide +kernel
theorem kd_Pl_forget_32 : decode kc_Pl_forget 32 = .ok (.iconst 0, 1) := by decide +kernel
theorem kd_Pl_forget_33 : decode kc_Pl_forget 33 = .ok (.putfield 81, 3) := by decide +kernel
theorem kd_Pl_forget_36 : decode kc_Pl_forget 36 = .ok (.iconst 0, 1) := by decide +kernel
theorem kd_Pl_forget_37 : decode kc_Pl_forget 37 = .ok (.istore_n 1, 1) := by decide +kernel
theorem kd_Pl_forget_38 : decode kc_Pl_forget 38 = .ok (.iconst 0, 1) := by decide +kernel
theorem kd_Pl_forget_39 : decode kc_Pl_forget 39 = .ok (.istore_n 2, 1) := by decide +kernel
theorem kd_Pl_forget_40 : decode kc_Pl_forget 40 = .ok (.iload_n 2, 1) := by decide +kernel
theorem kd_Pl_forget_41 : decode kc_Pl_forget 41 = .ok (.bipush 9, 2) := by decide +kernel
theorem kd_Pl_forget_43 : decode kc_Pl_forget 43 = .ok (.if_icmp .ge 72, 3) := by decide +kernel
theorem kd_Pl_forget_46 : decode kc_Pl_forget 46 = .ok (.aload_n 0, 1) := by decide +kernel
theorem kd_Pl_forget_47 : decode kc_Pl_forget 47 = .ok (.iconst 0, 1) := by decide +kernel
theorem kd_Pl_forget_48 : decode kc_Pl_forget 48 = .ok (.bipush 41, 2) := by decide +kernel
theorem kd_Pl_forget_50 : decode kc_Pl_forget 50 = .ok (.iload_n 2, 1) := by decide +kernel
theorem kd_Pl_forget_51 : decode kc_Pl_forget 51 = .ok (.iadd, 1) := by decide +kernel
theorem kd_Pl_forget_52 : decode kc_Pl_forget 52 = .ok (.iconst (-1), 1) := by decide +kernel
theorem kd_Pl_forget_53 : decode kc_Pl_forget 53 = .ok (.invokevirtual 84, 3) := by decide +kernel
theorem kd_Pl_forget_56 : decode kc_Pl_forget 56 = .ok (.pop, 1) := by decide +kernel
theorem kd_Pl_forget_57 : decode kc_Pl_forget 57 = .ok (.iload_n 1, 1) := by decide +kernel
theorem kd_Pl_forget_58 : decode kc_Pl_forget 58 = .ok (.iconst 4, 1) := by decide +kernel
theorem kd_Pl_forget_59 : decode kc_Pl_forget 59 = .ok (.iadd, 1) := by decide +kernel
theorem kd_Pl_forget_60 : decode kc_Pl_forget 60 = .ok (.getstatic 88, 3) := by decide +kernel
theorem kd_Pl_forget_63 : decode kc_Pl_forget 63 = .ok (.arraylength, 1) := by decide +kernel
theorem kd_Pl_forget_64 : decode kc_Pl_forget 64 = .ok (.if_icmp .ge 23, 3) := by decide +kernel
theorem kd_Pl_forget_67 : decode kc_Pl_forget 67 = .ok (.getstatic 88, 3) := by decide +kernel
theorem kd_Pl_forget_70 : decode kc_Pl_forget 70 = .ok (.iload_n 1, 1) := by decide +kernel
theorem kd_Pl_forget_71 : decode kc_Pl_forget 71 = .ok (.iaload, 1) := by decide +kernel
theorem kd_Pl_forget_72 : decode kc_Pl_forget 72 = .ok (.iload_n 2, 1) := by decide +kernel
theorem kd_Pl_forget_73 : decode kc_Pl_forget 73 = .ok (.if_icmp .ne 14, 3) := by decide +kernel
theorem kd_Pl_forget_76 : decode kc_Pl_forget 76 = .ok (.aload_n 0, 1) := by decide +kernel
theorem kd_Pl_forget_77 : decode kc_Pl_forget 77 = .ok (.iload_n 1, 1) := by decide +kernel
theorem kd_Pl_forget_78 : decode kc_Pl_forget 78 = .ok (.invokevirtual 91, 3) := by decide +kernel
theorem kd_Pl_forget_81 : decode kc_Pl_forget 81 = .ok (.iinc 1 5, 3) := by decide +kernel
theorem kd_Pl_forget_84 : decode kc_Pl_forget 84 = .ok (.goto (-27), 3) := by decide +kernel
theorem kd_Pl_forget_87 : decode kc_Pl_forget 87 = .ok (.aload_n 0, 1) := by decide +kernel
theorem kd_Pl_forget_88 : decode kc_Pl_forget 88 = .ok (.getfield 24, 3) := by decide +kernel
theorem kd_Pl_forget_91 : decode kc_Pl_forget 91 = .ok (.iload_n 2, 1) := by decide +kernel
theorem kd_Pl_forget_92 : decode kc_Pl_forget 92 = .ok (.getstatic 95, 3) := by decide +kernel
theorem kd_Pl_forget_95 : decode kc_Pl_forget 95 = .ok (.iload_n 2, 1) := by decide +kernel
theorem kd_Pl_forget_96 : decode kc_Pl_forget 96 = .ok (.iaload, 1) := by decide +kernel
theorem kd_Pl_forget_97 : decode kc_Pl_forget 97 = .ok (.iastore, 1) := by decide +kernel
theorem kd_Pl_forget_98 : decode kc_Pl_forget 98 = .ok (.aload_n 0, 1) := by decide +kernel
theorem kd_Pl_forget_99 : decode kc_Pl_forget 99 = .ok (.getfield 27, 3) := by decide +kernel
theorem kd_Pl_forget_102 : decode kc_Pl_forget 102 = .ok (.iload_n 2, 1) := by decide +kernel
theorem kd_Pl_forget_103 : decode kc_Pl_forget 103 = .ok (.getstatic 95, 3) := by decide +kernel
theorem kd_Pl_forget_106 : decode kc_Pl_forget 106 = .ok (.iload_n 2, 1) := by decide +kernel
theorem kd_Pl_forget_107 : decode kc_Pl_forget 107 = .ok (.iaload, 1) := by decide +kernel
theorem kd_Pl_forget_108 : decode kc_Pl_forget 108 = .ok (.iastore, 1) := by decide +kernel
theorem kd_Pl_forget_109 : decode kc_Pl_forget 109 = .ok (.iinc 2 1, 3) := by decide +kernel
theorem kd_Pl_forget_112 : decode kc_Pl_forget 112 = .ok (.goto (-72), 3) := by decide +kernel
theorem kd_Pl_forget_115 : decode kc_Pl_forget 115 = .ok (.return_, 1) := by decide +kernel
section ZM
variable {X : zk_T} {M : zk_MT} {G : zk_GT} {rm : Room} {E : Nat → State → Prop} {ws : va_W} {cells slots pc n : Nat} {lv : List (Nat × Value)} {r : List Value}
theorem kw_min : Cond.code Lib.Math.min.name Lib.Math.min.code 2 (some .int) ∈ zk_BW := zk_inT 817 (by decide +kernel) rfl
theorem zk_mmin {index : Nat} {x y : Int32} (C : zk_C X M G rm E) (hl : Cond.methodLink M.1.cls index Lib.Math.min.name ∈ zk_BW) (hst : Cond.static Lib.Math.min.name ∈ zk_BW) (hin : Cond.initialized "java/lang/Math" ∈ zk_BW) (h1 : 1 ≤ rm.frames) (h2 : (r.map fun v => v.category).sum + 13 ≤ rm.locals) (hc : cells ≤ rm.cells) (hs : slots ≤ rm.slots) (d : decode M.2.1 pc = .ok (.invokestatic index, 3)) (hpc : pc + 3 = n) (k : zk_Ab X ws cells slots n lv (.int (if y < x then y else x) :: r)) : zk_Ab X ws cells slots pc lv (.int y :: .int x :: r) := by
  obtain ⟨p, l, e, R, s, m, args, below, meth, c, Q, D, cl, tys, sz0, nL⟩ := X
  obtain ⟨⟨hx, hb, hml, hown, hts⟩, hK, hsz, hE, hEm, hG9, hnL9, hrm9, hin0⟩ := C; subst hG9; subst hnL9; subst hrm9
  subst hpc
  exact fun H locs ls hP hD hS h => va_mmin hx hb (hml.trans h.1.symm) hown (hts _ hl) (hts _ hst) (hts _ hin) (hts _ kw_min) h1 h2 hc hs d (k H locs ls hP hD hS h)
end ZM
/-- the cells of the plan -/
def zl_A (k : Nat) : Prop := 20 ≤ k ∧ k ≤ 37
/-- b blocks, v variables, no PROGRAM as yet -/
def zl_P (h : zs_H) (b v : Nat) : Prop := h.1 20 17 = nI b ∧ h.1 20 18 = nI v ∧ h.1 20 19 = -1 ∧ h.1 20 20 = 0
set_option maxHeartbeats 4000000 in
set_option maxRecDepth 100000 in
theorem zl_open {l : Launch} {D : va_G} {sz0 : Nat} {S : zs_T} {P : ze_T} (h : zs_H) (b v1 q : Nat) (hP : zl_P h b v1) (hb : b < 600) (hq : q < 6000) : zk_Sp (zs_G S l D sz0) (ze_E P) km_Pl_open { frames := 1, cells := 0, slots := 0, locals := 21 } [.ref (S.1 20), .int 0, .int (nI q), .int (-1)] (zs_W S h) (fun v w => ∃ h2 : zs_H, v = some (.int (nI b)) ∧ w = zs_W S h2 ∧ zl_P h2 (b + 1) v1 ∧ zp_ag zl_A h h2) := by
  refine zk_met ku_Pl_open (Nat.le_of_ble_eq_true rfl) (ze_Em P) ?_
  intro X C hR
  refine zk_lvs (lv' := [(0, .ref (S.1 20)), (1, .int 0), (2, .int (nI q)), (3, .int (-1))]) [0, 1, 2, 3] rfl ?_
  refine zk_aload_n C kd_Pl_open_0 rfl 0 rfl rfl ?_
  refine zs_get (v := .int (nI b)) C 20 17 rfl rfl (congrArg Value.int hP.1) rfl ki_Pl (by decide) kw290 kd_Pl_open_1 rfl ?_
  refine zk_sipush (v := 628) C kd_Pl_open_4 (by decide) rfl ?_
  refine zk_mmin C kw1011 kw816 kw19 (by decide) (Nat.le_of_ble_eq_true rfl) (by decide) (by decide) kd_Pl_open_7 rfl ?_
  refine zk_stk (r' := [.int (nI b)]) (by rw [if_neg (show ¬ (628 : Int32) < nI b from nI_nlt (a := 628) (b := b) (by omega) (by decide))]) ?_
  refine zk_istore (lv' := [(4, _), (0, _), (1, _), (2, _), (3, _)]) C kd_Pl_open_10 (by decide) rfl rfl ?_
  refine zk_aload_n C kd_Pl_open_12 rfl 1 rfl rfl ?_
  refine zs_get (v := .ref (S.1 21)) C 20 0 rfl rfl rfl rfl ki_Pl (by decide) kw232 kd_Pl_open_13 rfl ?_
  refine zk_iload C kd_Pl_open_16 0 rfl rfl ?_
  refine zk_iload_n C kd_Pl_open_18 rfl 2 rfl rfl ?_
  refine zs_iast C 21 rfl (vp_in_nI (by omega) (by decide)) kd_Pl_open_19 rfl ?_
  refine zk_aload_n C kd_Pl_open_20 rfl 1 rfl rfl ?_
  refine zs_get (v := .ref (S.1 22)) C 20 1 rfl rfl rfl rfl ki_Pl (by decide) kw236 kd_Pl_open_21 rfl ?_
  refine zk_iload C kd_Pl_open_24 0 rfl rfl ?_
  refine zk_iload_n C kd_Pl_open_26 rfl 4 rfl rfl ?_
  refine zs_iast C 22 rfl (vp_in_nI (by omega) (by decide)) kd_Pl_open_27 rfl ?_
  refine zk_aload_n C kd_Pl_open_28 rfl 1 rfl rfl ?_
  refine zs_get (v := .ref (S.1 23)) C 20 2 rfl rfl rfl rfl ki_Pl (by decide) kw239 kd_Pl_open_29 rfl ?_
  refine zk_iload C kd_Pl_open_32 0 rfl rfl ?_
  refine zk_aload_n C kd_Pl_open_34 rfl 1 rfl rfl ?_
  refine zs_get (v := .int (nI v1)) C 20 18 rfl rfl (congrArg Value.int hP.2.1) rfl ki_Pl (by decide) kw292 kd_Pl_open_35 rfl ?_
  refine zs_iast C 23 rfl (vp_in_nI (by omega) (by decide)) kd_Pl_open_38 rfl ?_
  refine zk_aload_n C kd_Pl_open_39 rfl 1 rfl rfl ?_
  refine zs_get (v := .ref (S.1 24)) C 20 3 rfl rfl rfl rfl ki_Pl (by decide) kw243 kd_Pl_open_40 rfl ?_
  refine zk_iload C kd_Pl_open_43 0 rfl rfl ?_
  refine zk_aload_n C kd_Pl_open_45 rfl 1 rfl rfl ?_
  refine zs_get (v := .int (nI v1)) C 20 18 rfl rfl (congrArg Value.int hP.2.1) rfl ki_Pl (by decide) kw292 kd_Pl_open_46 rfl ?_
  refine zs_iast C 24 rfl (vp_in_nI (by omega) (by decide)) kd_Pl_open_49 rfl ?_
  refine zk_aload_n C kd_Pl_open_50 rfl 1 rfl rfl ?_
  refine zs_get (v := .ref (S.1 25)) C 20 4 rfl rfl rfl rfl ki_Pl (by decide) kw246 kd_Pl_open_51 rfl ?_
  refine zk_iload C kd_Pl_open_54 0 rfl rfl ?_
  refine zk_iload_n C kd_Pl_open_56 rfl 2 rfl rfl ?_
  refine zk_iconst (v := 3) C kd_Pl_open_57 (by decide) rfl ?_
  refine zk_icmp_ne (tgt := 67) C kd_Pl_open_58 (by decide) rfl (fun h_34 => ?_) (fun h_34 => absurd h_34 (by decide))
  refine zk_iconst (v := 0) C kd_Pl_open_67 (by decide) rfl ?_
  refine zs_iast C 25 rfl (vp_in_nI (by omega) (by decide)) kd_Pl_open_68 rfl ?_
  refine zk_aload_n C kd_Pl_open_69 rfl 1 rfl rfl ?_
  refine zs_get (v := .ref (S.1 26)) C 20 5 rfl rfl rfl rfl ki_Pl (by decide) kw249 kd_Pl_open_70 rfl ?_
  refine zk_iload C kd_Pl_open_73 0 rfl rfl ?_
  refine zk_aload_n C kd_Pl_open_75 rfl 1 rfl rfl ?_
  refine zs_get (v := .ref (S.1 25)) C 20 4 rfl rfl rfl rfl ki_Pl (by decide) kw246 kd_Pl_open_76 rfl ?_
  refine zk_iload C kd_Pl_open_79 0 rfl rfl ?_
  refine zs_iald C 25 rfl (vp_in_nI (by omega) (by decide)) kd_Pl_open_81 rfl ?_
  refine zk_stk (r' := [.int 0, .int (nI b), .ref (S.1 26)]) (by rw [zs_rM]) ?_
  refine zs_iast C 26 rfl (vp_in_nI (by omega) (by decide)) kd_Pl_open_82 rfl ?_
  refine zk_aload_n C kd_Pl_open_83 rfl 1 rfl rfl ?_
  refine zs_get (v := .ref (S.1 27)) C 20 6 rfl rfl rfl rfl ki_Pl (by decide) kw253 kd_Pl_open_84 rfl ?_
  refine zk_iload C kd_Pl_open_87 0 rfl rfl ?_
  refine zk_iconst (v := 0) C kd_Pl_open_89 (by decide) rfl ?_
  refine zs_iast C 27 rfl (vp_in_nI (by omega) (by decide)) kd_Pl_open_90 rfl ?_
  refine zk_aload_n C kd_Pl_open_91 rfl 1 rfl rfl ?_
  refine zs_get (v := .ref (S.1 36)) C 20 15 rfl rfl rfl rfl ki_Pl (by decide) kw286 kd_Pl_open_92 rfl ?_
  refine zk_iload_n C kd_Pl_open_95 rfl 3 rfl rfl ?_
  refine zk_iload C kd_Pl_open_96 0 rfl rfl ?_
  refine zs_iast C 36 rfl (vp_in_nI (by omega) (by decide)) kd_Pl_open_98 rfl ?_
  refine zk_aload_n C kd_Pl_open_99 rfl 1 rfl rfl ?_
  refine zk_iload C kd_Pl_open_100 0 rfl rfl ?_
  refine zk_iconst (v := 1) C kd_Pl_open_102 (by decide) rfl ?_
  refine zk_iadd C kd_Pl_open_103 rfl ?_
  refine zk_stk (r' := [.int (nI (b + 1)), .ref (S.1 20)]) (by rw [nI_1]) ?_
  refine zs_put (ty := .int) C 20 17 ((nI (b + 1))) rfl rfl rfl rfl ki_Pl ky_Pl ko_Pl kn_Pl (by decide) kw290 rfl rfl rfl rfl (by decide) kd_Pl_open_104 rfl ?_
  refine zk_iload_n C kd_Pl_open_107 rfl 2 rfl rfl ?_
  refine zk_iconst (v := 3) C kd_Pl_open_108 (by decide) rfl ?_
  refine zk_icmp_ne (tgt := 118) C kd_Pl_open_109 (by decide) rfl (fun h_35 => ?_) (fun h_35 => absurd h_35 (by decide))
  refine zk_iload C kd_Pl_open_118 0 rfl rfl ?_
  exact zk_iret C hR kd_Pl_open_120 rfl rfl ⟨_, rfl, rfl, ⟨rfl, hP.2.1, hP.2.2.1, hP.2.2.2⟩, (((((((((zp_ag.rf).uM (⟨by decide, by decide⟩)).uM (⟨by decide, by decide⟩)).uM (⟨by decide, by decide⟩)).uM (⟨by decide, by decide⟩)).uM (⟨by decide, by decide⟩)).uM (⟨by decide, by decide⟩)).uM (⟨by decide, by decide⟩)).uM (⟨by decide, by decide⟩)).uF (⟨by decide, by decide⟩)⟩
set_option maxHeartbeats 4000000 in
set_option maxRecDepth 100000 in
theorem zl_add {l : Launch} {D : va_G} {sz0 : Nat} {S : zs_T} {P : ze_T} (h : zs_H) (b v1 q : Nat) (y : Int32) (hP : zl_P h b v1) (hb0 : 0 < b) (hb : b < 600) (hv : v1 < 5999) (hq : q < 6000) : zk_Sp (zs_G S l D sz0) (ze_E P) km_Pl_add { frames := 1, cells := 0, slots := 0, locals := 21 } [.ref (S.1 20), .int (nI q), .int y] (zs_W S h) (fun v w => ∃ h2 : zs_H, v = some (.int (nI v1)) ∧ w = zs_W S h2 ∧ zl_P h2 b (v1 + 1) ∧ zp_ag zl_A h h2) := by
  refine zk_met ku_Pl_add (Nat.le_of_ble_eq_true rfl) (ze_Em P) ?_
  intro X C hR
  refine zk_lvs (lv' := [(0, .ref (S.1 20)), (1, .int (nI q)), (2, .int y)]) [0, 1, 2] rfl ?_
  refine zk_aload_n C kd_Pl_add_0 rfl 0 rfl rfl ?_
  refine zs_get (v := .int (nI v1)) C 20 18 rfl rfl (congrArg Value.int hP.2.1) rfl ki_Pl (by decide) kw292 kd_Pl_add_1 rfl ?_
  refine zk_sipush (v := 5999) C kd_Pl_add_4 (by decide) rfl ?_
  refine zk_mmin C kw1011 kw816 kw19 (by decide) (Nat.le_of_ble_eq_true rfl) (by decide) (by decide) kd_Pl_add_7 rfl ?_
  refine zk_stk (r' := [.int (nI v1)]) (by rw [if_neg (show ¬ (5999 : Int32) < nI v1 from nI_nlt (a := 5999) (b := v1) (by omega) (by decide))]) ?_
  refine zk_istore_n (lv' := [(3, _), (0, _), (1, _), (2, _)]) C kd_Pl_add_10 rfl (by decide) rfl rfl ?_
  refine zk_aload_n C kd_Pl_add_11 rfl 1 rfl rfl ?_
  refine zs_get (v := .ref (S.1 28)) C 20 7 rfl rfl rfl rfl ki_Pl (by decide) kw255 kd_Pl_add_12 rfl ?_
  refine zk_iload_n C kd_Pl_add_15 rfl 0 rfl rfl ?_
  refine zk_iload_n C kd_Pl_add_16 rfl 2 rfl rfl ?_
  refine zs_iast C 28 rfl (vp_in_nI (by omega) (by decide)) kd_Pl_add_17 rfl ?_
  refine zk_aload_n C kd_Pl_add_18 rfl 1 rfl rfl ?_
  refine zs_get (v := .ref (S.1 29)) C 20 8 rfl rfl rfl rfl ki_Pl (by decide) kw257 kd_Pl_add_19 rfl ?_
  refine zk_iload_n C kd_Pl_add_22 rfl 0 rfl rfl ?_
  refine zk_iload_n C kd_Pl_add_23 rfl 3 rfl rfl ?_
  refine zs_iast C 29 rfl (vp_in_nI (by omega) (by decide)) kd_Pl_add_24 rfl ?_
  refine zk_aload_n C kd_Pl_add_25 rfl 1 rfl rfl ?_
  refine zs_get (v := .ref (S.1 30)) C 20 9 rfl rfl rfl rfl ki_Pl (by decide) kw260 kd_Pl_add_26 rfl ?_
  refine zk_iload_n C kd_Pl_add_29 rfl 0 rfl rfl ?_
  refine zk_iconst (v := (-1)) C kd_Pl_add_30 (by decide) rfl ?_
  refine zs_iast C 30 rfl (vp_in_nI (by omega) (by decide)) kd_Pl_add_31 rfl ?_
  refine zk_aload_n C kd_Pl_add_32 rfl 1 rfl rfl ?_
  refine zs_get (v := .ref (S.1 31)) C 20 10 rfl rfl rfl rfl ki_Pl (by decide) kw265 kd_Pl_add_33 rfl ?_
  refine zk_iload_n C kd_Pl_add_36 rfl 0 rfl rfl ?_
  refine zk_iconst (v := 0) C kd_Pl_add_37 (by decide) rfl ?_
  refine zs_iast C 31 rfl (vp_in_nI (by omega) (by decide)) kd_Pl_add_38 rfl ?_
  refine zk_aload_n C kd_Pl_add_39 rfl 1 rfl rfl ?_
  refine zs_get (v := .ref (S.1 32)) C 20 11 rfl rfl rfl rfl ki_Pl (by decide) kw268 kd_Pl_add_40 rfl ?_
  refine zk_iload_n C kd_Pl_add_43 rfl 0 rfl rfl ?_
  refine zk_iconst (v := 0) C kd_Pl_add_44 (by decide) rfl ?_
  refine zs_iast C 32 rfl (vp_in_nI (by omega) (by decide)) kd_Pl_add_45 rfl ?_
  refine zk_aload_n C kd_Pl_add_46 rfl 1 rfl rfl ?_
  refine zs_get (v := .ref (S.1 33)) C 20 12 rfl rfl rfl rfl ki_Pl (by decide) kw273 kd_Pl_add_47 rfl ?_
  refine zk_iload_n C kd_Pl_add_50 rfl 0 rfl rfl ?_
  refine zk_iconst (v := 0) C kd_Pl_add_51 (by decide) rfl ?_
  refine zs_iast C 33 rfl (vp_in_nI (by omega) (by decide)) kd_Pl_add_52 rfl ?_
  refine zk_aload_n C kd_Pl_add_53 rfl 1 rfl rfl ?_
  refine zs_get (v := .ref (S.1 34)) C 20 13 rfl rfl rfl rfl ki_Pl (by decide) kw277 kd_Pl_add_54 rfl ?_
  refine zk_iload_n C kd_Pl_add_57 rfl 0 rfl rfl ?_
  refine zk_iconst (v := 1) C kd_Pl_add_58 (by decide) rfl ?_
  refine zs_iast C 34 rfl (vp_in_nI (by omega) (by decide)) kd_Pl_add_59 rfl ?_
  refine zk_aload_n C kd_Pl_add_60 rfl 1 rfl rfl ?_
  refine zs_get (v := .ref (S.1 35)) C 20 14 rfl rfl rfl rfl ki_Pl (by decide) kw282 kd_Pl_add_61 rfl ?_
  refine zk_iload_n C kd_Pl_add_64 rfl 0 rfl rfl ?_
  refine zk_iconst (v := 0) C kd_Pl_add_65 (by decide) rfl ?_
  refine zs_iast C 35 rfl (vp_in_nI (by omega) (by decide)) kd_Pl_add_66 rfl ?_
  refine zk_aload_n C kd_Pl_add_67 rfl 1 rfl rfl ?_
  refine zs_get (v := .ref (S.1 37)) C 20 16 rfl rfl rfl rfl ki_Pl (by decide) kw288 kd_Pl_add_68 rfl ?_
  refine zk_iload_n C kd_Pl_add_71 rfl 2 rfl rfl ?_
  refine zk_iload_n C kd_Pl_add_72 rfl 0 rfl rfl ?_
  refine zs_iast C 37 rfl (vp_in_nI (by omega) (by decide)) kd_Pl_add_73 rfl ?_
  refine zk_aload_n C kd_Pl_add_74 rfl 1 rfl rfl ?_
  refine zk_iload_n C kd_Pl_add_75 rfl 0 rfl rfl ?_
  refine zk_iconst (v := 1) C kd_Pl_add_76 (by decide) rfl ?_
  refine zk_iadd C kd_Pl_add_77 rfl ?_
  refine zk_stk (r' := [.int (nI (v1 + 1)), .ref (S.1 20)]) (by rw [nI_1]) ?_
  refine zs_put (ty := .int) C 20 18 ((nI (v1 + 1))) rfl rfl rfl rfl ki_Pl ky_Pl ko_Pl kn_Pl (by decide) kw292 rfl rfl rfl rfl (by decide) kd_Pl_add_78 rfl ?_
  refine zk_aload_n C kd_Pl_add_81 rfl 1 rfl rfl ?_
  refine zs_get (v := .int (nI b)) C 20 17 rfl rfl (congrArg Value.int hP.1) rfl ki_Pl (by decide) kw290 kd_Pl_add_82 rfl ?_
  refine zk_if_le (tgt := 103) C kd_Pl_add_85 (by decide) rfl (fun h_36 => absurd h_36 (nI_nle (by omega) (by omega))) (fun h_36 => ?_)
  refine zk_aload_n C kd_Pl_add_88 rfl 1 rfl rfl ?_
  refine zs_get (v := .ref (S.1 24)) C 20 3 rfl rfl rfl rfl ki_Pl (by decide) kw243 kd_Pl_add_89 rfl ?_
  refine zk_aload_n C kd_Pl_add_92 rfl 1 rfl rfl ?_
  refine zs_get (v := .int (nI b)) C 20 17 rfl rfl (congrArg Value.int hP.1) rfl ki_Pl (by decide) kw290 kd_Pl_add_93 rfl ?_
  refine zk_iconst (v := 1) C kd_Pl_add_96 (by decide) rfl ?_
  refine zk_isub C kd_Pl_add_97 rfl ?_
  refine zk_stk (r' := [.int (nI (b - 1)), .ref (S.1 24)]) (by rw [show nI b - 1 = nI (b - 1) from pk_sub (a := b) (b := 1) (by omega)]) ?_
  refine zk_aload_n C kd_Pl_add_98 rfl 1 rfl rfl ?_
  refine zs_get (v := .int (nI (v1 + 1))) C 20 18 rfl rfl rfl rfl ki_Pl (by decide) kw292 kd_Pl_add_99 rfl ?_
  refine zs_iast C 24 rfl (vp_in_nI (by omega) (by decide)) kd_Pl_add_102 rfl ?_
  refine zk_iload_n C kd_Pl_add_103 rfl 0 rfl rfl ?_
  exact zk_iret C hR kd_Pl_add_104 rfl rfl ⟨_, rfl, rfl, ⟨hP.1, rfl, hP.2.2.1, hP.2.2.2⟩, (((((((((((zp_ag.rf).uM (⟨by decide, by decide⟩)).uM (⟨by decide, by decide⟩)).uM (⟨by decide, by decide⟩)).uM (⟨by decide, by decide⟩)).uM (⟨by decide, by decide⟩)).uM (⟨by decide, by decide⟩)).uM (⟨by decide, by decide⟩)).uM (⟨by decide, by decide⟩)).uM (⟨by decide, by decide⟩)).uF (⟨by decide, by decide⟩)).uM (⟨by decide, by decide⟩)⟩
set_option maxHeartbeats 4000000 in
set_option maxRecDepth 100000 in
theorem zl_as0 {l : Launch} {D : va_G} {sz0 : Nat} {S : zs_T} {P : ze_T} (h : zs_H) (b v1 : Nat) (hP : zl_P h b v1) (hb0 : 0 < b) (hb : b < 600) (hv : v1 < 5999) : zk_Sp (zs_G S l D sz0) (ze_E P) km_Pl_addStandard { frames := 2, cells := 0, slots := 0, locals := 44 } [.ref (S.1 20), .int 0] (zs_W S h) (fun v w => ∃ h2 : zs_H, v = none ∧ w = zs_W S h2 ∧ zl_P h2 b (v1 + 1) ∧ zp_ag zl_A h h2) := by
  refine zk_met ku_Pl_addStandard (Nat.le_of_ble_eq_true rfl) (ze_Em P) ?_
  intro X C hR
  refine zk_lvs (lv' := [(0, .ref (S.1 20)), (1, .int 0)]) [0, 1] rfl ?_
  refine zk_aload_n C kd_Pl_addStandard_0 rfl 0 rfl rfl ?_
  refine zk_bipush (v := 60) C kd_Pl_addStandard_1 (by decide) rfl ?_
  refine ze_gets (j := 1) C rfl kw1012 kd_Pl_addStandard_3 rfl ?_
  refine zk_iload_n C kd_Pl_addStandard_6 rfl 1 rfl rfl ?_
  refine zk_iconst (v := 1) C kd_Pl_addStandard_7 (by decide) rfl ?_
  refine zk_iadd C kd_Pl_addStandard_8 rfl ?_
  refine zk_stk (r' := [.int 1, .ref (P.2.2 1), .int 60, .ref (S.1 20)]) (by rw [show (0 : Int32) + 1 = 1 by decide]) ?_
  refine ze_ti C rfl (zp_dec rfl) kd_Pl_addStandard_9 rfl ?_
  refine zk_stk (r' := [.int 0, .int 60, .ref (S.1 20)]) rfl ?_
  refine zk_iadd C kd_Pl_addStandard_10 rfl ?_
  refine zk_stk (r' := [.int 60, .ref (S.1 20)]) (by rw [show (60 : Int32) + 0 = 60 by decide]) ?_
  refine ze_gets (j := 1) C rfl kw1012 kd_Pl_addStandard_11 rfl ?_
  refine zk_iload_n C kd_Pl_addStandard_14 rfl 1 rfl rfl ?_
  refine zk_iconst (v := 2) C kd_Pl_addStandard_15 (by decide) rfl ?_
  refine zk_iadd C kd_Pl_addStandard_16 rfl ?_
  refine zk_stk (r' := [.int 2, .ref (P.2.2 1), .int 60, .ref (S.1 20)]) (by rw [show (0 : Int32) + 2 = 2 by decide]) ?_
  refine ze_ti C rfl (zp_dec rfl) kd_Pl_addStandard_17 rfl ?_
  refine zk_stk (r' := [.int 1, .int 60, .ref (S.1 20)]) rfl ?_
  refine zs_callV (k := 20) (rn := { frames := 1, cells := 0, slots := 0, locals := 21 }) (As := [.int 60, .int 1]) (rest := []) C (zl_add h b v1 60 1 hP hb0 hb hv (by decide)) ku_Pl_add kw1018 kv_Pl_add rfl ⟨by decide, by decide⟩ ⟨by decide, by decide⟩ rfl rfl rfl (Nat.le_of_ble_eq_true rfl) kd_Pl_addStandard_18 rfl (c1 := 0) (s1 := 0) rfl rfl (fun v w hp => ?_)
  obtain ⟨h2, rfl, rfl, hP2, ha2⟩ := hp
  refine zk_stk (r' := [.int (nI v1)]) rfl ?_
  refine zk_istore_n (lv' := [(2, _), (0, _), (1, _)]) C kd_Pl_addStandard_21 rfl (by decide) rfl rfl ?_
  refine zk_aload_n C kd_Pl_addStandard_22 rfl 1 rfl rfl ?_
  refine zs_get (v := .ref (S.1 31)) C 20 10 rfl rfl rfl rfl ki_Pl (by decide) kw265 kd_Pl_addStandard_23 rfl ?_
  refine zk_iload_n C kd_Pl_addStandard_26 rfl 0 rfl rfl ?_
  refine ze_gets (j := 1) C rfl kw1012 kd_Pl_addStandard_27 rfl ?_
  refine zk_iload_n C kd_Pl_addStandard_30 rfl 2 rfl rfl ?_
  refine zk_iconst (v := 3) C kd_Pl_addStandard_31 (by decide) rfl ?_
  refine zk_iadd C kd_Pl_addStandard_32 rfl ?_
  refine zk_stk (r' := [.int 3, .ref (P.2.2 1), .int (nI v1), .ref (S.1 31)]) (by rw [show (0 : Int32) + 3 = 3 by decide]) ?_
  refine ze_ti C rfl (zp_dec rfl) kd_Pl_addStandard_33 rfl ?_
  refine zk_stk (r' := [.int 0, .int (nI v1), .ref (S.1 31)]) rfl ?_
  refine zs_iast C 31 rfl (vp_in_nI (by omega) (by decide)) kd_Pl_addStandard_34 rfl ?_
  refine zk_aload_n C kd_Pl_addStandard_35 rfl 1 rfl rfl ?_
  refine zs_get (v := .ref (S.1 32)) C 20 11 rfl rfl rfl rfl ki_Pl (by decide) kw268 kd_Pl_addStandard_36 rfl ?_
  refine zk_iload_n C kd_Pl_addStandard_39 rfl 0 rfl rfl ?_
  refine ze_gets (j := 1) C rfl kw1012 kd_Pl_addStandard_40 rfl ?_
  refine zk_iload_n C kd_Pl_addStandard_43 rfl 2 rfl rfl ?_
  refine zk_iconst (v := 4) C kd_Pl_addStandard_44 (by decide) rfl ?_
  refine zk_iadd C kd_Pl_addStandard_45 rfl ?_
  refine zk_stk (r' := [.int 4, .ref (P.2.2 1), .int (nI v1), .ref (S.1 32)]) (by rw [show (0 : Int32) + 4 = 4 by decide]) ?_
  refine ze_ti C rfl (zp_dec rfl) kd_Pl_addStandard_46 rfl ?_
  refine zk_stk (r' := [.int 0, .int (nI v1), .ref (S.1 32)]) rfl ?_
  refine zs_iast C 32 rfl (vp_in_nI (by omega) (by decide)) kd_Pl_addStandard_47 rfl ?_
  exact zk_vret C hR kd_Pl_addStandard_48 rfl rfl ⟨_, rfl, rfl, hP2, ((ha2).uM (⟨by decide, by decide⟩)).uM (⟨by decide, by decide⟩)⟩
set_option maxHeartbeats 4000000 in
set_option maxRecDepth 100000 in
theorem zl_as5 {l : Launch} {D : va_G} {sz0 : Nat} {S : zs_T} {P : ze_T} (h : zs_H) (b v1 : Nat) (hP : zl_P h b v1) (hb0 : 0 < b) (hb : b < 600) (hv : v1 < 5999) : zk_Sp (zs_G S l D sz0) (ze_E P) km_Pl_addStandard { frames := 2, cells := 0, slots := 0, locals := 44 } [.ref (S.1 20), .int 5] (zs_W S h) (fun v w => ∃ h2 : zs_H, v = none ∧ w = zs_W S h2 ∧ zl_P h2 b (v1 + 1) ∧ zp_ag zl_A h h2) := by
  refine zk_met ku_Pl_addStandard (Nat.le_of_ble_eq_true rfl) (ze_Em P) ?_
  intro X C hR
  refine zk_lvs (lv' := [(0, .ref (S.1 20)), (1, .int 5)]) [0, 1] rfl ?_
  refine zk_aload_n C kd_Pl_addStandard_0 rfl 0 rfl rfl ?_
  refine zk_bipush (v := 60) C kd_Pl_addStandard_1 (by decide) rfl ?_
  refine ze_gets (j := 1) C rfl kw1012 kd_Pl_addStandard_3 rfl ?_
  refine zk_iload_n C kd_Pl_addStandard_6 rfl 1 rfl rfl ?_
  refine zk_iconst (v := 1) C kd_Pl_addStandard_7 (by decide) rfl ?_
  refine zk_iadd C kd_Pl_addStandard_8 rfl ?_
  refine zk_stk (r' := [.int 6, .ref (P.2.2 1), .int 60, .ref (S.1 20)]) (by rw [show (5 : Int32) + 1 = 6 by decide]) ?_
  refine ze_ti C rfl (zp_dec rfl) kd_Pl_addStandard_9 rfl ?_
  refine zk_stk (r' := [.int 1, .int 60, .ref (S.1 20)]) rfl ?_
  refine zk_iadd C kd_Pl_addStandard_10 rfl ?_
  refine zk_stk (r' := [.int 61, .ref (S.1 20)]) (by rw [show (60 : Int32) + 1 = 61 by decide]) ?_
  refine ze_gets (j := 1) C rfl kw1012 kd_Pl_addStandard_11 rfl ?_
  refine zk_iload_n C kd_Pl_addStandard_14 rfl 1 rfl rfl ?_
  refine zk_iconst (v := 2) C kd_Pl_addStandard_15 (by decide) rfl ?_
  refine zk_iadd C kd_Pl_addStandard_16 rfl ?_
  refine zk_stk (r' := [.int 7, .ref (P.2.2 1), .int 61, .ref (S.1 20)]) (by rw [show (5 : Int32) + 2 = 7 by decide]) ?_
  refine ze_ti C rfl (zp_dec rfl) kd_Pl_addStandard_17 rfl ?_
  refine zk_stk (r' := [.int 1, .int 61, .ref (S.1 20)]) rfl ?_
  refine zs_callV (k := 20) (rn := { frames := 1, cells := 0, slots := 0, locals := 21 }) (As := [.int 61, .int 1]) (rest := []) C (zl_add h b v1 61 1 hP hb0 hb hv (by decide)) ku_Pl_add kw1018 kv_Pl_add rfl ⟨by decide, by decide⟩ ⟨by decide, by decide⟩ rfl rfl rfl (Nat.le_of_ble_eq_true rfl) kd_Pl_addStandard_18 rfl (c1 := 0) (s1 := 0) rfl rfl (fun v w hp => ?_)
  obtain ⟨h2, rfl, rfl, hP2, ha2⟩ := hp
  refine zk_stk (r' := [.int (nI v1)]) rfl ?_
  refine zk_istore_n (lv' := [(2, _), (0, _), (1, _)]) C kd_Pl_addStandard_21 rfl (by decide) rfl rfl ?_
  refine zk_aload_n C kd_Pl_addStandard_22 rfl 1 rfl rfl ?_
  refine zs_get (v := .ref (S.1 31)) C 20 10 rfl rfl rfl rfl ki_Pl (by decide) kw265 kd_Pl_addStandard_23 rfl ?_
  refine zk_iload_n C kd_Pl_addStandard_26 rfl 0 rfl rfl ?_
  refine ze_gets (j := 1) C rfl kw1012 kd_Pl_addStandard_27 rfl ?_
  refine zk_iload_n C kd_Pl_addStandard_30 rfl 2 rfl rfl ?_
  refine zk_iconst (v := 3) C kd_Pl_addStandard_31 (by decide) rfl ?_
  refine zk_iadd C kd_Pl_addStandard_32 rfl ?_
  refine zk_stk (r' := [.int 8, .ref (P.2.2 1), .int (nI v1), .ref (S.1 31)]) (by rw [show (5 : Int32) + 3 = 8 by decide]) ?_
  refine ze_ti C rfl (zp_dec rfl) kd_Pl_addStandard_33 rfl ?_
  refine zk_stk (r' := [.int 2, .int (nI v1), .ref (S.1 31)]) rfl ?_
  refine zs_iast C 31 rfl (vp_in_nI (by omega) (by decide)) kd_Pl_addStandard_34 rfl ?_
  refine zk_aload_n C kd_Pl_addStandard_35 rfl 1 rfl rfl ?_
  refine zs_get (v := .ref (S.1 32)) C 20 11 rfl rfl rfl rfl ki_Pl (by decide) kw268 kd_Pl_addStandard_36 rfl ?_
  refine zk_iload_n C kd_Pl_addStandard_39 rfl 0 rfl rfl ?_
  refine ze_gets (j := 1) C rfl kw1012 kd_Pl_addStandard_40 rfl ?_
  refine zk_iload_n C kd_Pl_addStandard_43 rfl 2 rfl rfl ?_
  refine zk_iconst (v := 4) C kd_Pl_addStandard_44 (by decide) rfl ?_
  refine zk_iadd C kd_Pl_addStandard_45 rfl ?_
  refine zk_stk (r' := [.int 9, .ref (P.2.2 1), .int (nI v1), .ref (S.1 32)]) (by rw [show (5 : Int32) + 4 = 9 by decide]) ?_
  refine ze_ti C rfl (zp_dec rfl) kd_Pl_addStandard_46 rfl ?_
  refine zk_stk (r' := [.int 1, .int (nI v1), .ref (S.1 32)]) rfl ?_
  refine zs_iast C 32 rfl (vp_in_nI (by omega) (by decide)) kd_Pl_addStandard_47 rfl ?_
  exact zk_vret C hR kd_Pl_addStandard_48 rfl rfl ⟨_, rfl, rfl, hP2, ((ha2).uM (⟨by decide, by decide⟩)).uM (⟨by decide, by decide⟩)⟩
set_option maxHeartbeats 4000000 in
set_option maxRecDepth 100000 in
theorem zl_as10 {l : Launch} {D : va_G} {sz0 : Nat} {S : zs_T} {P : ze_T} (h : zs_H) (b v1 : Nat) (hP : zl_P h b v1) (hb0 : 0 < b) (hb : b < 600) (hv : v1 < 5999) : zk_Sp (zs_G S l D sz0) (ze_E P) km_Pl_addStandard { frames := 2, cells := 0, slots := 0, locals := 44 } [.ref (S.1 20), .int 10] (zs_W S h) (fun v w => ∃ h2 : zs_H, v = none ∧ w = zs_W S h2 ∧ zl_P h2 b (v1 + 1) ∧ zp_ag zl_A h h2) := by
  refine zk_met ku_Pl_addStandard (Nat.le_of_ble_eq_true rfl) (ze_Em P) ?_
  intro X C hR
  refine zk_lvs (lv' := [(0, .ref (S.1 20)), (1, .int 10)]) [0, 1] rfl ?_
  refine zk_aload_n C kd_Pl_addStandard_0 rfl 0 rfl rfl ?_
  refine zk_bipush (v := 60) C kd_Pl_addStandard_1 (by decide) rfl ?_
  refine ze_gets (j := 1) C rfl kw1012 kd_Pl_addStandard_3 rfl ?_
  refine zk_iload_n C kd_Pl_addStandard_6 rfl 1 rfl rfl ?_
  refine zk_iconst (v := 1) C kd_Pl_addStandard_7 (by decide) rfl ?_
  refine zk_iadd C kd_Pl_addStandard_8 rfl ?_
  refine zk_stk (r' := [.int 11, .ref (P.2.2 1), .int 60, .ref (S.1 20)]) (by rw [show (10 : Int32) + 1 = 11 by decide]) ?_
  refine ze_ti C rfl (zp_dec rfl) kd_Pl_addStandard_9 rfl ?_
  refine zk_stk (r' := [.int 2, .int 60, .ref (S.1 20)]) rfl ?_
  refine zk_iadd C kd_Pl_addStandard_10 rfl ?_
  refine zk_stk (r' := [.int 62, .ref (S.1 20)]) (by rw [show (60 : Int32) + 2 = 62 by decide]) ?_
  refine ze_gets (j := 1) C rfl kw1012 kd_Pl_addStandard_11 rfl ?_
  refine zk_iload_n C kd_Pl_addStandard_14 rfl 1 rfl rfl ?_
  refine zk_iconst (v := 2) C kd_Pl_addStandard_15 (by decide) rfl ?_
  refine zk_iadd C kd_Pl_addStandard_16 rfl ?_
  refine zk_stk (r' := [.int 12, .ref (P.2.2 1), .int 62, .ref (S.1 20)]) (by rw [show (10 : Int32) + 2 = 12 by decide]) ?_
  refine ze_ti C rfl (zp_dec rfl) kd_Pl_addStandard_17 rfl ?_
  refine zk_stk (r' := [.int 2, .int 62, .ref (S.1 20)]) rfl ?_
  refine zs_callV (k := 20) (rn := { frames := 1, cells := 0, slots := 0, locals := 21 }) (As := [.int 62, .int 2]) (rest := []) C (zl_add h b v1 62 2 hP hb0 hb hv (by decide)) ku_Pl_add kw1018 kv_Pl_add rfl ⟨by decide, by decide⟩ ⟨by decide, by decide⟩ rfl rfl rfl (Nat.le_of_ble_eq_true rfl) kd_Pl_addStandard_18 rfl (c1 := 0) (s1 := 0) rfl rfl (fun v w hp => ?_)
  obtain ⟨h2, rfl, rfl, hP2, ha2⟩ := hp
  refine zk_stk (r' := [.int (nI v1)]) rfl ?_
  refine zk_istore_n (lv' := [(2, _), (0, _), (1, _)]) C kd_Pl_addStandard_21 rfl (by decide) rfl rfl ?_
  refine zk_aload_n C kd_Pl_addStandard_22 rfl 1 rfl rfl ?_
  refine zs_get (v := .ref (S.1 31)) C 20 10 rfl rfl rfl rfl ki_Pl (by decide) kw265 kd_Pl_addStandard_23 rfl ?_
  refine zk_iload_n C kd_Pl_addStandard_26 rfl 0 rfl rfl ?_
  refine ze_gets (j := 1) C rfl kw1012 kd_Pl_addStandard_27 rfl ?_
  refine zk_iload_n C kd_Pl_addStandard_30 rfl 2 rfl rfl ?_
  refine zk_iconst (v := 3) C kd_Pl_addStandard_31 (by decide) rfl ?_
  refine zk_iadd C kd_Pl_addStandard_32 rfl ?_
  refine zk_stk (r' := [.int 13, .ref (P.2.2 1), .int (nI v1), .ref (S.1 31)]) (by rw [show (10 : Int32) + 3 = 13 by decide]) ?_
  refine ze_ti C rfl (zp_dec rfl) kd_Pl_addStandard_33 rfl ?_
  refine zk_stk (r' := [.int 0, .int (nI v1), .ref (S.1 31)]) rfl ?_
  refine zs_iast C 31 rfl (vp_in_nI (by omega) (by decide)) kd_Pl_addStandard_34 rfl ?_
  refine zk_aload_n C kd_Pl_addStandard_35 rfl 1 rfl rfl ?_
  refine zs_get (v := .ref (S.1 32)) C 20 11 rfl rfl rfl rfl ki_Pl (by decide) kw268 kd_Pl_addStandard_36 rfl ?_
  refine zk_iload_n C kd_Pl_addStandard_39 rfl 0 rfl rfl ?_
  refine ze_gets (j := 1) C rfl kw1012 kd_Pl_addStandard_40 rfl ?_
  refine zk_iload_n C kd_Pl_addStandard_43 rfl 2 rfl rfl ?_
  refine zk_iconst (v := 4) C kd_Pl_addStandard_44 (by decide) rfl ?_
  refine zk_iadd C kd_Pl_addStandard_45 rfl ?_
  refine zk_stk (r' := [.int 14, .ref (P.2.2 1), .int (nI v1), .ref (S.1 32)]) (by rw [show (10 : Int32) + 4 = 14 by decide]) ?_
  refine ze_ti C rfl (zp_dec rfl) kd_Pl_addStandard_46 rfl ?_
  refine zk_stk (r' := [.int 2, .int (nI v1), .ref (S.1 32)]) rfl ?_
  refine zs_iast C 32 rfl (vp_in_nI (by omega) (by decide)) kd_Pl_addStandard_47 rfl ?_
  exact zk_vret C hR kd_Pl_addStandard_48 rfl rfl ⟨_, rfl, rfl, hP2, ((ha2).uM (⟨by decide, by decide⟩)).uM (⟨by decide, by decide⟩)⟩
set_option maxHeartbeats 4000000 in
set_option maxRecDepth 100000 in
theorem zl_as15 {l : Launch} {D : va_G} {sz0 : Nat} {S : zs_T} {P : ze_T} (h : zs_H) (b v1 : Nat) (hP : zl_P h b v1) (hb0 : 0 < b) (hb : b < 600) (hv : v1 < 5999) : zk_Sp (zs_G S l D sz0) (ze_E P) km_Pl_addStandard { frames := 2, cells := 0, slots := 0, locals := 44 } [.ref (S.1 20), .int 15] (zs_W S h) (fun v w => ∃ h2 : zs_H, v = none ∧ w = zs_W S h2 ∧ zl_P h2 b (v1 + 1) ∧ zp_ag zl_A h h2) := by
  refine zk_met ku_Pl_addStandard (Nat.le_of_ble_eq_true rfl) (ze_Em P) ?_
  intro X C hR
  refine zk_lvs (lv' := [(0, .ref (S.1 20)), (1, .int 15)]) [0, 1] rfl ?_
  refine zk_aload_n C kd_Pl_addStandard_0 rfl 0 rfl rfl ?_
  refine zk_bipush (v := 60) C kd_Pl_addStandard_1 (by decide) rfl ?_
  refine ze_gets (j := 1) C rfl kw1012 kd_Pl_addStandard_3 rfl ?_
  refine zk_iload_n C kd_Pl_addStandard_6 rfl 1 rfl rfl ?_
  refine zk_iconst (v := 1) C kd_Pl_addStandard_7 (by decide) rfl ?_
  refine zk_iadd C kd_Pl_addStandard_8 rfl ?_
  refine zk_stk (r' := [.int 16, .ref (P.2.2 1), .int 60, .ref (S.1 20)]) (by rw [show (15 : Int32) + 1 = 16 by decide]) ?_
  refine ze_ti C rfl (zp_dec rfl) kd_Pl_addStandard_9 rfl ?_
  refine zk_stk (r' := [.int 3, .int 60, .ref (S.1 20)]) rfl ?_
  refine zk_iadd C kd_Pl_addStandard_10 rfl ?_
  refine zk_stk (r' := [.int 63, .ref (S.1 20)]) (by rw [show (60 : Int32) + 3 = 63 by decide]) ?_
  refine ze_gets (j := 1) C rfl kw1012 kd_Pl_addStandard_11 rfl ?_
  refine zk_iload_n C kd_Pl_addStandard_14 rfl 1 rfl rfl ?_
  refine zk_iconst (v := 2) C kd_Pl_addStandard_15 (by decide) rfl ?_
  refine zk_iadd C kd_Pl_addStandard_16 rfl ?_
  refine zk_stk (r' := [.int 17, .ref (P.2.2 1), .int 63, .ref (S.1 20)]) (by rw [show (15 : Int32) + 2 = 17 by decide]) ?_
  refine ze_ti C rfl (zp_dec rfl) kd_Pl_addStandard_17 rfl ?_
  refine zk_stk (r' := [.int 2, .int 63, .ref (S.1 20)]) rfl ?_
  refine zs_callV (k := 20) (rn := { frames := 1, cells := 0, slots := 0, locals := 21 }) (As := [.int 63, .int 2]) (rest := []) C (zl_add h b v1 63 2 hP hb0 hb hv (by decide)) ku_Pl_add kw1018 kv_Pl_add rfl ⟨by decide, by decide⟩ ⟨by decide, by decide⟩ rfl rfl rfl (Nat.le_of_ble_eq_true rfl) kd_Pl_addStandard_18 rfl (c1 := 0) (s1 := 0) rfl rfl (fun v w hp => ?_)
  obtain ⟨h2, rfl, rfl, hP2, ha2⟩ := hp
  refine zk_stk (r' := [.int (nI v1)]) rfl ?_
  refine zk_istore_n (lv' := [(2, _), (0, _), (1, _)]) C kd_Pl_addStandard_21 rfl (by decide) rfl rfl ?_
  refine zk_aload_n C kd_Pl_addStandard_22 rfl 1 rfl rfl ?_
  refine zs_get (v := .ref (S.1 31)) C 20 10 rfl rfl rfl rfl ki_Pl (by decide) kw265 kd_Pl_addStandard_23 rfl ?_
  refine zk_iload_n C kd_Pl_addStandard_26 rfl 0 rfl rfl ?_
  refine ze_gets (j := 1) C rfl kw1012 kd_Pl_addStandard_27 rfl ?_
  refine zk_iload_n C kd_Pl_addStandard_30 rfl 2 rfl rfl ?_
  refine zk_iconst (v := 3) C kd_Pl_addStandard_31 (by decide) rfl ?_
  refine zk_iadd C kd_Pl_addStandard_32 rfl ?_
  refine zk_stk (r' := [.int 18, .ref (P.2.2 1), .int (nI v1), .ref (S.1 31)]) (by rw [show (15 : Int32) + 3 = 18 by decide]) ?_
  refine ze_ti C rfl (zp_dec rfl) kd_Pl_addStandard_33 rfl ?_
  refine zk_stk (r' := [.int 2, .int (nI v1), .ref (S.1 31)]) rfl ?_
  refine zs_iast C 31 rfl (vp_in_nI (by omega) (by decide)) kd_Pl_addStandard_34 rfl ?_
  refine zk_aload_n C kd_Pl_addStandard_35 rfl 1 rfl rfl ?_
  refine zs_get (v := .ref (S.1 32)) C 20 11 rfl rfl rfl rfl ki_Pl (by decide) kw268 kd_Pl_addStandard_36 rfl ?_
  refine zk_iload_n C kd_Pl_addStandard_39 rfl 0 rfl rfl ?_
  refine ze_gets (j := 1) C rfl kw1012 kd_Pl_addStandard_40 rfl ?_
  refine zk_iload_n C kd_Pl_addStandard_43 rfl 2 rfl rfl ?_
  refine zk_iconst (v := 4) C kd_Pl_addStandard_44 (by decide) rfl ?_
  refine zk_iadd C kd_Pl_addStandard_45 rfl ?_
  refine zk_stk (r' := [.int 19, .ref (P.2.2 1), .int (nI v1), .ref (S.1 32)]) (by rw [show (15 : Int32) + 4 = 19 by decide]) ?_
  refine ze_ti C rfl (zp_dec rfl) kd_Pl_addStandard_46 rfl ?_
  refine zk_stk (r' := [.int 3, .int (nI v1), .ref (S.1 32)]) rfl ?_
  refine zs_iast C 32 rfl (vp_in_nI (by omega) (by decide)) kd_Pl_addStandard_47 rfl ?_
  exact zk_vret C hR kd_Pl_addStandard_48 rfl rfl ⟨_, rfl, rfl, hP2, ((ha2).uM (⟨by decide, by decide⟩)).uM (⟨by decide, by decide⟩)⟩
set_option maxHeartbeats 4000000 in
set_option maxRecDepth 100000 in
theorem zl_as20 {l : Launch} {D : va_G} {sz0 : Nat} {S : zs_T} {P : ze_T} (h : zs_H) (b v1 : Nat) (hP : zl_P h b v1) (hb0 : 0 < b) (hb : b < 600) (hv : v1 < 5999) : zk_Sp (zs_G S l D sz0) (ze_E P) km_Pl_addStandard { frames := 2, cells := 0, slots := 0, locals := 44 } [.ref (S.1 20), .int 20] (zs_W S h) (fun v w => ∃ h2 : zs_H, v = none ∧ w = zs_W S h2 ∧ zl_P h2 b (v1 + 1) ∧ zp_ag zl_A h h2) := by
  refine zk_met ku_Pl_addStandard (Nat.le_of_ble_eq_true rfl) (ze_Em P) ?_
  intro X C hR
  refine zk_lvs (lv' := [(0, .ref (S.1 20)), (1, .int 20)]) [0, 1] rfl ?_
  refine zk_aload_n C kd_Pl_addStandard_0 rfl 0 rfl rfl ?_
  refine zk_bipush (v := 60) C kd_Pl_addStandard_1 (by decide) rfl ?_
  refine ze_gets (j := 1) C rfl kw1012 kd_Pl_addStandard_3 rfl ?_
  refine zk_iload_n C kd_Pl_addStandard_6 rfl 1 rfl rfl ?_
  refine zk_iconst (v := 1) C kd_Pl_addStandard_7 (by decide) rfl ?_
  refine zk_iadd C kd_Pl_addStandard_8 rfl ?_
  refine zk_stk (r' := [.int 21, .ref (P.2.2 1), .int 60, .ref (S.1 20)]) (by rw [show (20 : Int32) + 1 = 21 by decide]) ?_
  refine ze_ti C rfl (zp_dec rfl) kd_Pl_addStandard_9 rfl ?_
  refine zk_stk (r' := [.int 0, .int 60, .ref (S.1 20)]) rfl ?_
  refine zk_iadd C kd_Pl_addStandard_10 rfl ?_
  refine zk_stk (r' := [.int 60, .ref (S.1 20)]) (by rw [show (60 : Int32) + 0 = 60 by decide]) ?_
  refine ze_gets (j := 1) C rfl kw1012 kd_Pl_addStandard_11 rfl ?_
  refine zk_iload_n C kd_Pl_addStandard_14 rfl 1 rfl rfl ?_
  refine zk_iconst (v := 2) C kd_Pl_addStandard_15 (by decide) rfl ?_
  refine zk_iadd C kd_Pl_addStandard_16 rfl ?_
  refine zk_stk (r' := [.int 22, .ref (P.2.2 1), .int 60, .ref (S.1 20)]) (by rw [show (20 : Int32) + 2 = 22 by decide]) ?_
  refine ze_ti C rfl (zp_dec rfl) kd_Pl_addStandard_17 rfl ?_
  refine zk_stk (r' := [.int 1, .int 60, .ref (S.1 20)]) rfl ?_
  refine zs_callV (k := 20) (rn := { frames := 1, cells := 0, slots := 0, locals := 21 }) (As := [.int 60, .int 1]) (rest := []) C (zl_add h b v1 60 1 hP hb0 hb hv (by decide)) ku_Pl_add kw1018 kv_Pl_add rfl ⟨by decide, by decide⟩ ⟨by decide, by decide⟩ rfl rfl rfl (Nat.le_of_ble_eq_true rfl) kd_Pl_addStandard_18 rfl (c1 := 0) (s1 := 0) rfl rfl (fun v w hp => ?_)
  obtain ⟨h2, rfl, rfl, hP2, ha2⟩ := hp
  refine zk_stk (r' := [.int (nI v1)]) rfl ?_
  refine zk_istore_n (lv' := [(2, _), (0, _), (1, _)]) C kd_Pl_addStandard_21 rfl (by decide) rfl rfl ?_
  refine zk_aload_n C kd_Pl_addStandard_22 rfl 1 rfl rfl ?_
  refine zs_get (v := .ref (S.1 31)) C 20 10 rfl rfl rfl rfl ki_Pl (by decide) kw265 kd_Pl_addStandard_23 rfl ?_
  refine zk_iload_n C kd_Pl_addStandard_26 rfl 0 rfl rfl ?_
  refine ze_gets (j := 1) C rfl kw1012 kd_Pl_addStandard_27 rfl ?_
  refine zk_iload_n C kd_Pl_addStandard_30 rfl 2 rfl rfl ?_
  refine zk_iconst (v := 3) C kd_Pl_addStandard_31 (by decide) rfl ?_
  refine zk_iadd C kd_Pl_addStandard_32 rfl ?_
  refine zk_stk (r' := [.int 23, .ref (P.2.2 1), .int (nI v1), .ref (S.1 31)]) (by rw [show (20 : Int32) + 3 = 23 by decide]) ?_
  refine ze_ti C rfl (zp_dec rfl) kd_Pl_addStandard_33 rfl ?_
  refine zk_stk (r' := [.int 0, .int (nI v1), .ref (S.1 31)]) rfl ?_
  refine zs_iast C 31 rfl (vp_in_nI (by omega) (by decide)) kd_Pl_addStandard_34 rfl ?_
  refine zk_aload_n C kd_Pl_addStandard_35 rfl 1 rfl rfl ?_
  refine zs_get (v := .ref (S.1 32)) C 20 11 rfl rfl rfl rfl ki_Pl (by decide) kw268 kd_Pl_addStandard_36 rfl ?_
  refine zk_iload_n C kd_Pl_addStandard_39 rfl 0 rfl rfl ?_
  refine ze_gets (j := 1) C rfl kw1012 kd_Pl_addStandard_40 rfl ?_
  refine zk_iload_n C kd_Pl_addStandard_43 rfl 2 rfl rfl ?_
  refine zk_iconst (v := 4) C kd_Pl_addStandard_44 (by decide) rfl ?_
  refine zk_iadd C kd_Pl_addStandard_45 rfl ?_
  refine zk_stk (r' := [.int 24, .ref (P.2.2 1), .int (nI v1), .ref (S.1 32)]) (by rw [show (20 : Int32) + 4 = 24 by decide]) ?_
  refine ze_ti C rfl (zp_dec rfl) kd_Pl_addStandard_46 rfl ?_
  refine zk_stk (r' := [.int 0, .int (nI v1), .ref (S.1 32)]) rfl ?_
  refine zs_iast C 32 rfl (vp_in_nI (by omega) (by decide)) kd_Pl_addStandard_47 rfl ?_
  exact zk_vret C hR kd_Pl_addStandard_48 rfl rfl ⟨_, rfl, rfl, hP2, ((ha2).uM (⟨by decide, by decide⟩)).uM (⟨by decide, by decide⟩)⟩
set_option maxHeartbeats 4000000 in
set_option maxRecDepth 100000 in
theorem zl_as25 {l : Launch} {D : va_G} {sz0 : Nat} {S : zs_T} {P : ze_T} (h : zs_H) (b v1 : Nat) (hP : zl_P h b v1) (hb0 : 0 < b) (hb : b < 600) (hv : v1 < 5999) : zk_Sp (zs_G S l D sz0) (ze_E P) km_Pl_addStandard { frames := 2, cells := 0, slots := 0, locals := 44 } [.ref (S.1 20), .int 25] (zs_W S h) (fun v w => ∃ h2 : zs_H, v = none ∧ w = zs_W S h2 ∧ zl_P h2 b (v1 + 1) ∧ zp_ag zl_A h h2) := by
  refine zk_met ku_Pl_addStandard (Nat.le_of_ble_eq_true rfl) (ze_Em P) ?_
  intro X C hR
  refine zk_lvs (lv' := [(0, .ref (S.1 20)), (1, .int 25)]) [0, 1] rfl ?_
  refine zk_aload_n C kd_Pl_addStandard_0 rfl 0 rfl rfl ?_
  refine zk_bipush (v := 60) C kd_Pl_addStandard_1 (by decide) rfl ?_
  refine ze_gets (j := 1) C rfl kw1012 kd_Pl_addStandard_3 rfl ?_
  refine zk_iload_n C kd_Pl_addStandard_6 rfl 1 rfl rfl ?_
  refine zk_iconst (v := 1) C kd_Pl_addStandard_7 (by decide) rfl ?_
  refine zk_iadd C kd_Pl_addStandard_8 rfl ?_
  refine zk_stk (r' := [.int 26, .ref (P.2.2 1), .int 60, .ref (S.1 20)]) (by rw [show (25 : Int32) + 1 = 26 by decide]) ?_
  refine ze_ti C rfl (zp_dec rfl) kd_Pl_addStandard_9 rfl ?_
  refine zk_stk (r' := [.int 1, .int 60, .ref (S.1 20)]) rfl ?_
  refine zk_iadd C kd_Pl_addStandard_10 rfl ?_
  refine zk_stk (r' := [.int 61, .ref (S.1 20)]) (by rw [show (60 : Int32) + 1 = 61 by decide]) ?_
  refine ze_gets (j := 1) C rfl kw1012 kd_Pl_addStandard_11 rfl ?_
  refine zk_iload_n C kd_Pl_addStandard_14 rfl 1 rfl rfl ?_
  refine zk_iconst (v := 2) C kd_Pl_addStandard_15 (by decide) rfl ?_
  refine zk_iadd C kd_Pl_addStandard_16 rfl ?_
  refine zk_stk (r' := [.int 27, .ref (P.2.2 1), .int 61, .ref (S.1 20)]) (by rw [show (25 : Int32) + 2 = 27 by decide]) ?_
  refine ze_ti C rfl (zp_dec rfl) kd_Pl_addStandard_17 rfl ?_
  refine zk_stk (r' := [.int 1, .int 61, .ref (S.1 20)]) rfl ?_
  refine zs_callV (k := 20) (rn := { frames := 1, cells := 0, slots := 0, locals := 21 }) (As := [.int 61, .int 1]) (rest := []) C (zl_add h b v1 61 1 hP hb0 hb hv (by decide)) ku_Pl_add kw1018 kv_Pl_add rfl ⟨by decide, by decide⟩ ⟨by decide, by decide⟩ rfl rfl rfl (Nat.le_of_ble_eq_true rfl) kd_Pl_addStandard_18 rfl (c1 := 0) (s1 := 0) rfl rfl (fun v w hp => ?_)
  obtain ⟨h2, rfl, rfl, hP2, ha2⟩ := hp
  refine zk_stk (r' := [.int (nI v1)]) rfl ?_
  refine zk_istore_n (lv' := [(2, _), (0, _), (1, _)]) C kd_Pl_addStandard_21 rfl (by decide) rfl rfl ?_
  refine zk_aload_n C kd_Pl_addStandard_22 rfl 1 rfl rfl ?_
  refine zs_get (v := .ref (S.1 31)) C 20 10 rfl rfl rfl rfl ki_Pl (by decide) kw265 kd_Pl_addStandard_23 rfl ?_
  refine zk_iload_n C kd_Pl_addStandard_26 rfl 0 rfl rfl ?_
  refine ze_gets (j := 1) C rfl kw1012 kd_Pl_addStandard_27 rfl ?_
  refine zk_iload_n C kd_Pl_addStandard_30 rfl 2 rfl rfl ?_
  refine zk_iconst (v := 3) C kd_Pl_addStandard_31 (by decide) rfl ?_
  refine zk_iadd C kd_Pl_addStandard_32 rfl ?_
  refine zk_stk (r' := [.int 28, .ref (P.2.2 1), .int (nI v1), .ref (S.1 31)]) (by rw [show (25 : Int32) + 3 = 28 by decide]) ?_
  refine ze_ti C rfl (zp_dec rfl) kd_Pl_addStandard_33 rfl ?_
  refine zk_stk (r' := [.int 2, .int (nI v1), .ref (S.1 31)]) rfl ?_
  refine zs_iast C 31 rfl (vp_in_nI (by omega) (by decide)) kd_Pl_addStandard_34 rfl ?_
  refine zk_aload_n C kd_Pl_addStandard_35 rfl 1 rfl rfl ?_
  refine zs_get (v := .ref (S.1 32)) C 20 11 rfl rfl rfl rfl ki_Pl (by decide) kw268 kd_Pl_addStandard_36 rfl ?_
  refine zk_iload_n C kd_Pl_addStandard_39 rfl 0 rfl rfl ?_
  refine ze_gets (j := 1) C rfl kw1012 kd_Pl_addStandard_40 rfl ?_
  refine zk_iload_n C kd_Pl_addStandard_43 rfl 2 rfl rfl ?_
  refine zk_iconst (v := 4) C kd_Pl_addStandard_44 (by decide) rfl ?_
  refine zk_iadd C kd_Pl_addStandard_45 rfl ?_
  refine zk_stk (r' := [.int 29, .ref (P.2.2 1), .int (nI v1), .ref (S.1 32)]) (by rw [show (25 : Int32) + 4 = 29 by decide]) ?_
  refine ze_ti C rfl (zp_dec rfl) kd_Pl_addStandard_46 rfl ?_
  refine zk_stk (r' := [.int 1, .int (nI v1), .ref (S.1 32)]) rfl ?_
  refine zs_iast C 32 rfl (vp_in_nI (by omega) (by decide)) kd_Pl_addStandard_47 rfl ?_
  exact zk_vret C hR kd_Pl_addStandard_48 rfl rfl ⟨_, rfl, rfl, hP2, ((ha2).uM (⟨by decide, by decide⟩)).uM (⟨by decide, by decide⟩)⟩
set_option maxHeartbeats 4000000 in
set_option maxRecDepth 100000 in
theorem zl_as30 {l : Launch} {D : va_G} {sz0 : Nat} {S : zs_T} {P : ze_T} (h : zs_H) (b v1 : Nat) (hP : zl_P h b v1) (hb0 : 0 < b) (hb : b < 600) (hv : v1 < 5999) : zk_Sp (zs_G S l D sz0) (ze_E P) km_Pl_addStandard { frames := 2, cells := 0, slots := 0, locals := 44 } [.ref (S.1 20), .int 30] (zs_W S h) (fun v w => ∃ h2 : zs_H, v = none ∧ w = zs_W S h2 ∧ zl_P h2 b (v1 + 1) ∧ zp_ag zl_A h h2) := by
  refine zk_met ku_Pl_addStandard (Nat.le_of_ble_eq_true rfl) (ze_Em P) ?_
  intro X C hR
  refine zk_lvs (lv' := [(0, .ref (S.1 20)), (1, .int 30)]) [0, 1] rfl ?_
  refine zk_aload_n C kd_Pl_addStandard_0 rfl 0 rfl rfl ?_
  refine zk_bipush (v := 60) C kd_Pl_addStandard_1 (by decide) rfl ?_
  refine ze_gets (j := 1) C rfl kw1012 kd_Pl_addStandard_3 rfl ?_
  refine zk_iload_n C kd_Pl_addStandard_6 rfl 1 rfl rfl ?_
  refine zk_iconst (v := 1) C kd_Pl_addStandard_7 (by decide) rfl ?_
  refine zk_iadd C kd_Pl_addStandard_8 rfl ?_
  refine zk_stk (r' := [.int 31, .ref (P.2.2 1), .int 60, .ref (S.1 20)]) (by rw [show (30 : Int32) + 1 = 31 by decide]) ?_
  refine ze_ti C rfl (zp_dec rfl) kd_Pl_addStandard_9 rfl ?_
  refine zk_stk (r' := [.int 2, .int 60, .ref (S.1 20)]) rfl ?_
  refine zk_iadd C kd_Pl_addStandard_10 rfl ?_
  refine zk_stk (r' := [.int 62, .ref (S.1 20)]) (by rw [show (60 : Int32) + 2 = 62 by decide]) ?_
  refine ze_gets (j := 1) C rfl kw1012 kd_Pl_addStandard_11 rfl ?_
  refine zk_iload_n C kd_Pl_addStandard_14 rfl 1 rfl rfl ?_
  refine zk_iconst (v := 2) C kd_Pl_addStandard_15 (by decide) rfl ?_
  refine zk_iadd C kd_Pl_addStandard_16 rfl ?_
  refine zk_stk (r' := [.int 32, .ref (P.2.2 1), .int 62, .ref (S.1 20)]) (by rw [show (30 : Int32) + 2 = 32 by decide]) ?_
  refine ze_ti C rfl (zp_dec rfl) kd_Pl_addStandard_17 rfl ?_
  refine zk_stk (r' := [.int 2, .int 62, .ref (S.1 20)]) rfl ?_
  refine zs_callV (k := 20) (rn := { frames := 1, cells := 0, slots := 0, locals := 21 }) (As := [.int 62, .int 2]) (rest := []) C (zl_add h b v1 62 2 hP hb0 hb hv (by decide)) ku_Pl_add kw1018 kv_Pl_add rfl ⟨by decide, by decide⟩ ⟨by decide, by decide⟩ rfl rfl rfl (Nat.le_of_ble_eq_true rfl) kd_Pl_addStandard_18 rfl (c1 := 0) (s1 := 0) rfl rfl (fun v w hp => ?_)
  obtain ⟨h2, rfl, rfl, hP2, ha2⟩ := hp
  refine zk_stk (r' := [.int (nI v1)]) rfl ?_
  refine zk_istore_n (lv' := [(2, _), (0, _), (1, _)]) C kd_Pl_addStandard_21 rfl (by decide) rfl rfl ?_
  refine zk_aload_n C kd_Pl_addStandard_22 rfl 1 rfl rfl ?_
  refine zs_get (v := .ref (S.1 31)) C 20 10 rfl rfl rfl rfl ki_Pl (by decide) kw265 kd_Pl_addStandard_23 rfl ?_
  refine zk_iload_n C kd_Pl_addStandard_26 rfl 0 rfl rfl ?_
  refine ze_gets (j := 1) C rfl kw1012 kd_Pl_addStandard_27 rfl ?_
  refine zk_iload_n C kd_Pl_addStandard_30 rfl 2 rfl rfl ?_
  refine zk_iconst (v := 3) C kd_Pl_addStandard_31 (by decide) rfl ?_
  refine zk_iadd C kd_Pl_addStandard_32 rfl ?_
  refine zk_stk (r' := [.int 33, .ref (P.2.2 1), .int (nI v1), .ref (S.1 31)]) (by rw [show (30 : Int32) + 3 = 33 by decide]) ?_
  refine ze_ti C rfl (zp_dec rfl) kd_Pl_addStandard_33 rfl ?_
  refine zk_stk (r' := [.int 0, .int (nI v1), .ref (S.1 31)]) rfl ?_
  refine zs_iast C 31 rfl (vp_in_nI (by omega) (by decide)) kd_Pl_addStandard_34 rfl ?_
  refine zk_aload_n C kd_Pl_addStandard_35 rfl 1 rfl rfl ?_
  refine zs_get (v := .ref (S.1 32)) C 20 11 rfl rfl rfl rfl ki_Pl (by decide) kw268 kd_Pl_addStandard_36 rfl ?_
  refine zk_iload_n C kd_Pl_addStandard_39 rfl 0 rfl rfl ?_
  refine ze_gets (j := 1) C rfl kw1012 kd_Pl_addStandard_40 rfl ?_
  refine zk_iload_n C kd_Pl_addStandard_43 rfl 2 rfl rfl ?_
  refine zk_iconst (v := 4) C kd_Pl_addStandard_44 (by decide) rfl ?_
  refine zk_iadd C kd_Pl_addStandard_45 rfl ?_
  refine zk_stk (r' := [.int 34, .ref (P.2.2 1), .int (nI v1), .ref (S.1 32)]) (by rw [show (30 : Int32) + 4 = 34 by decide]) ?_
  refine ze_ti C rfl (zp_dec rfl) kd_Pl_addStandard_46 rfl ?_
  refine zk_stk (r' := [.int 2, .int (nI v1), .ref (S.1 32)]) rfl ?_
  refine zs_iast C 32 rfl (vp_in_nI (by omega) (by decide)) kd_Pl_addStandard_47 rfl ?_
  exact zk_vret C hR kd_Pl_addStandard_48 rfl rfl ⟨_, rfl, rfl, hP2, ((ha2).uM (⟨by decide, by decide⟩)).uM (⟨by decide, by decide⟩)⟩
set_option maxHeartbeats 4000000 in
set_option maxRecDepth 100000 in
theorem zl_as35 {l : Launch} {D : va_G} {sz0 : Nat} {S : zs_T} {P : ze_T} (h : zs_H) (b v1 : Nat) (hP : zl_P h b v1) (hb0 : 0 < b) (hb : b < 600) (hv : v1 < 5999) : zk_Sp (zs_G S l D sz0) (ze_E P) km_Pl_addStandard { frames := 2, cells := 0, slots := 0, locals := 44 } [.ref (S.1 20), .int 35] (zs_W S h) (fun v w => ∃ h2 : zs_H, v = none ∧ w = zs_W S h2 ∧ zl_P h2 b (v1 + 1) ∧ zp_ag zl_A h h2) := by
  refine zk_met ku_Pl_addStandard (Nat.le_of_ble_eq_true rfl) (ze_Em P) ?_
  intro X C hR
  refine zk_lvs (lv' := [(0, .ref (S.1 20)), (1, .int 35)]) [0, 1] rfl ?_
  refine zk_aload_n C kd_Pl_addStandard_0 rfl 0 rfl rfl ?_
  refine zk_bipush (v := 60) C kd_Pl_addStandard_1 (by decide) rfl ?_
  refine ze_gets (j := 1) C rfl kw1012 kd_Pl_addStandard_3 rfl ?_
  refine zk_iload_n C kd_Pl_addStandard_6 rfl 1 rfl rfl ?_
  refine zk_iconst (v := 1) C kd_Pl_addStandard_7 (by decide) rfl ?_
  refine zk_iadd C kd_Pl_addStandard_8 rfl ?_
  refine zk_stk (r' := [.int 36, .ref (P.2.2 1), .int 60, .ref (S.1 20)]) (by rw [show (35 : Int32) + 1 = 36 by decide]) ?_
  refine ze_ti C rfl (zp_dec rfl) kd_Pl_addStandard_9 rfl ?_
  refine zk_stk (r' := [.int 3, .int 60, .ref (S.1 20)]) rfl ?_
  refine zk_iadd C kd_Pl_addStandard_10 rfl ?_
  refine zk_stk (r' := [.int 63, .ref (S.1 20)]) (by rw [show (60 : Int32) + 3 = 63 by decide]) ?_
  refine ze_gets (j := 1) C rfl kw1012 kd_Pl_addStandard_11 rfl ?_
  refine zk_iload_n C kd_Pl_addStandard_14 rfl 1 rfl rfl ?_
  refine zk_iconst (v := 2) C kd_Pl_addStandard_15 (by decide) rfl ?_
  refine zk_iadd C kd_Pl_addStandard_16 rfl ?_
  refine zk_stk (r' := [.int 37, .ref (P.2.2 1), .int 63, .ref (S.1 20)]) (by rw [show (35 : Int32) + 2 = 37 by decide]) ?_
  refine ze_ti C rfl (zp_dec rfl) kd_Pl_addStandard_17 rfl ?_
  refine zk_stk (r' := [.int 2, .int 63, .ref (S.1 20)]) rfl ?_
  refine zs_callV (k := 20) (rn := { frames := 1, cells := 0, slots := 0, locals := 21 }) (As := [.int 63, .int 2]) (rest := []) C (zl_add h b v1 63 2 hP hb0 hb hv (by decide)) ku_Pl_add kw1018 kv_Pl_add rfl ⟨by decide, by decide⟩ ⟨by decide, by decide⟩ rfl rfl rfl (Nat.le_of_ble_eq_true rfl) kd_Pl_addStandard_18 rfl (c1 := 0) (s1 := 0) rfl rfl (fun v w hp => ?_)
  obtain ⟨h2, rfl, rfl, hP2, ha2⟩ := hp
  refine zk_stk (r' := [.int (nI v1)]) rfl ?_
  refine zk_istore_n (lv' := [(2, _), (0, _), (1, _)]) C kd_Pl_addStandard_21 rfl (by decide) rfl rfl ?_
  refine zk_aload_n C kd_Pl_addStandard_22 rfl 1 rfl rfl ?_
  refine zs_get (v := .ref (S.1 31)) C 20 10 rfl rfl rfl rfl ki_Pl (by decide) kw265 kd_Pl_addStandard_23 rfl ?_
  refine zk_iload_n C kd_Pl_addStandard_26 rfl 0 rfl rfl ?_
  refine ze_gets (j := 1) C rfl kw1012 kd_Pl_addStandard_27 rfl ?_
  refine zk_iload_n C kd_Pl_addStandard_30 rfl 2 rfl rfl ?_
  refine zk_iconst (v := 3) C kd_Pl_addStandard_31 (by decide) rfl ?_
  refine zk_iadd C kd_Pl_addStandard_32 rfl ?_
  refine zk_stk (r' := [.int 38, .ref (P.2.2 1), .int (nI v1), .ref (S.1 31)]) (by rw [show (35 : Int32) + 3 = 38 by decide]) ?_
  refine ze_ti C rfl (zp_dec rfl) kd_Pl_addStandard_33 rfl ?_
  refine zk_stk (r' := [.int 2, .int (nI v1), .ref (S.1 31)]) rfl ?_
  refine zs_iast C 31 rfl (vp_in_nI (by omega) (by decide)) kd_Pl_addStandard_34 rfl ?_
  refine zk_aload_n C kd_Pl_addStandard_35 rfl 1 rfl rfl ?_
  refine zs_get (v := .ref (S.1 32)) C 20 11 rfl rfl rfl rfl ki_Pl (by decide) kw268 kd_Pl_addStandard_36 rfl ?_
  refine zk_iload_n C kd_Pl_addStandard_39 rfl 0 rfl rfl ?_
  refine ze_gets (j := 1) C rfl kw1012 kd_Pl_addStandard_40 rfl ?_
  refine zk_iload_n C kd_Pl_addStandard_43 rfl 2 rfl rfl ?_
  refine zk_iconst (v := 4) C kd_Pl_addStandard_44 (by decide) rfl ?_
  refine zk_iadd C kd_Pl_addStandard_45 rfl ?_
  refine zk_stk (r' := [.int 39, .ref (P.2.2 1), .int (nI v1), .ref (S.1 32)]) (by rw [show (35 : Int32) + 4 = 39 by decide]) ?_
  refine ze_ti C rfl (zp_dec rfl) kd_Pl_addStandard_46 rfl ?_
  refine zk_stk (r' := [.int 3, .int (nI v1), .ref (S.1 32)]) rfl ?_
  refine zs_iast C 32 rfl (vp_in_nI (by omega) (by decide)) kd_Pl_addStandard_47 rfl ?_
  exact zk_vret C hR kd_Pl_addStandard_48 rfl rfl ⟨_, rfl, rfl, hP2, ((ha2).uM (⟨by decide, by decide⟩)).uM (⟨by decide, by decide⟩)⟩
set_option maxHeartbeats 4000000 in
set_option maxRecDepth 100000 in
theorem zl_as40 {l : Launch} {D : va_G} {sz0 : Nat} {S : zs_T} {P : ze_T} (h : zs_H) (b v1 : Nat) (hP : zl_P h b v1) (hb0 : 0 < b) (hb : b < 600) (hv : v1 < 5999) : zk_Sp (zs_G S l D sz0) (ze_E P) km_Pl_addStandard { frames := 2, cells := 0, slots := 0, locals := 44 } [.ref (S.1 20), .int 40] (zs_W S h) (fun v w => ∃ h2 : zs_H, v = none ∧ w = zs_W S h2 ∧ zl_P h2 b (v1 + 1) ∧ zp_ag zl_A h h2) := by
  refine zk_met ku_Pl_addStandard (Nat.le_of_ble_eq_true rfl) (ze_Em P) ?_
  intro X C hR
  refine zk_lvs (lv' := [(0, .ref (S.1 20)), (1, .int 40)]) [0, 1] rfl ?_
  refine zk_aload_n C kd_Pl_addStandard_0 rfl 0 rfl rfl ?_
  refine zk_bipush (v := 60) C kd_Pl_addStandard_1 (by decide) rfl ?_
  refine ze_gets (j := 1) C rfl kw1012 kd_Pl_addStandard_3 rfl ?_
  refine zk_iload_n C kd_Pl_addStandard_6 rfl 1 rfl rfl ?_
  refine zk_iconst (v := 1) C kd_Pl_addStandard_7 (by decide) rfl ?_
  refine zk_iadd C kd_Pl_addStandard_8 rfl ?_
  refine zk_stk (r' := [.int 41, .ref (P.2.2 1), .int 60, .ref (S.1 20)]) (by rw [show (40 : Int32) + 1 = 41 by decide]) ?_
  refine ze_ti C rfl (zp_dec rfl) kd_Pl_addStandard_9 rfl ?_
  refine zk_stk (r' := [.int 0, .int 60, .ref (S.1 20)]) rfl ?_
  refine zk_iadd C kd_Pl_addStandard_10 rfl ?_
  refine zk_stk (r' := [.int 60, .ref (S.1 20)]) (by rw [show (60 : Int32) + 0 = 60 by decide]) ?_
  refine ze_gets (j := 1) C rfl kw1012 kd_Pl_addStandard_11 rfl ?_
  refine zk_iload_n C kd_Pl_addStandard_14 rfl 1 rfl rfl ?_
  refine zk_iconst (v := 2) C kd_Pl_addStandard_15 (by decide) rfl ?_
  refine zk_iadd C kd_Pl_addStandard_16 rfl ?_
  refine zk_stk (r' := [.int 42, .ref (P.2.2 1), .int 60, .ref (S.1 20)]) (by rw [show (40 : Int32) + 2 = 42 by decide]) ?_
  refine ze_ti C rfl (zp_dec rfl) kd_Pl_addStandard_17 rfl ?_
  refine zk_stk (r' := [.int 1, .int 60, .ref (S.1 20)]) rfl ?_
  refine zs_callV (k := 20) (rn := { frames := 1, cells := 0, slots := 0, locals := 21 }) (As := [.int 60, .int 1]) (rest := []) C (zl_add h b v1 60 1 hP hb0 hb hv (by decide)) ku_Pl_add kw1018 kv_Pl_add rfl ⟨by decide, by decide⟩ ⟨by decide, by decide⟩ rfl rfl rfl (Nat.le_of_ble_eq_true rfl) kd_Pl_addStandard_18 rfl (c1 := 0) (s1 := 0) rfl rfl (fun v w hp => ?_)
  obtain ⟨h2, rfl, rfl, hP2, ha2⟩ := hp
  refine zk_stk (r' := [.int (nI v1)]) rfl ?_
  refine zk_istore_n (lv' := [(2, _), (0, _), (1, _)]) C kd_Pl_addStandard_21 rfl (by decide) rfl rfl ?_
  refine zk_aload_n C kd_Pl_addStandard_22 rfl 1 rfl rfl ?_
  refine zs_get (v := .ref (S.1 31)) C 20 10 rfl rfl rfl rfl ki_Pl (by decide) kw265 kd_Pl_addStandard_23 rfl ?_
  refine zk_iload_n C kd_Pl_addStandard_26 rfl 0 rfl rfl ?_
  refine ze_gets (j := 1) C rfl kw1012 kd_Pl_addStandard_27 rfl ?_
  refine zk_iload_n C kd_Pl_addStandard_30 rfl 2 rfl rfl ?_
  refine zk_iconst (v := 3) C kd_Pl_addStandard_31 (by decide) rfl ?_
  refine zk_iadd C kd_Pl_addStandard_32 rfl ?_
  refine zk_stk (r' := [.int 43, .ref (P.2.2 1), .int (nI v1), .ref (S.1 31)]) (by rw [show (40 : Int32) + 3 = 43 by decide]) ?_
  refine ze_ti C rfl (zp_dec rfl) kd_Pl_addStandard_33 rfl ?_
  refine zk_stk (r' := [.int 0, .int (nI v1), .ref (S.1 31)]) rfl ?_
  refine zs_iast C 31 rfl (vp_in_nI (by omega) (by decide)) kd_Pl_addStandard_34 rfl ?_
  refine zk_aload_n C kd_Pl_addStandard_35 rfl 1 rfl rfl ?_
  refine zs_get (v := .ref (S.1 32)) C 20 11 rfl rfl rfl rfl ki_Pl (by decide) kw268 kd_Pl_addStandard_36 rfl ?_
  refine zk_iload_n C kd_Pl_addStandard_39 rfl 0 rfl rfl ?_
  refine ze_gets (j := 1) C rfl kw1012 kd_Pl_addStandard_40 rfl ?_
  refine zk_iload_n C kd_Pl_addStandard_43 rfl 2 rfl rfl ?_
  refine zk_iconst (v := 4) C kd_Pl_addStandard_44 (by decide) rfl ?_
  refine zk_iadd C kd_Pl_addStandard_45 rfl ?_
  refine zk_stk (r' := [.int 44, .ref (P.2.2 1), .int (nI v1), .ref (S.1 32)]) (by rw [show (40 : Int32) + 4 = 44 by decide]) ?_
  refine ze_ti C rfl (zp_dec rfl) kd_Pl_addStandard_46 rfl ?_
  refine zk_stk (r' := [.int 0, .int (nI v1), .ref (S.1 32)]) rfl ?_
  refine zs_iast C 32 rfl (vp_in_nI (by omega) (by decide)) kd_Pl_addStandard_47 rfl ?_
  exact zk_vret C hR kd_Pl_addStandard_48 rfl rfl ⟨_, rfl, rfl, hP2, ((ha2).uM (⟨by decide, by decide⟩)).uM (⟨by decide, by decide⟩)⟩
set_option maxHeartbeats 4000000 in
set_option maxRecDepth 100000 in
theorem zl_as45 {l : Launch} {D : va_G} {sz0 : Nat} {S : zs_T} {P : ze_T} (h : zs_H) (b v1 : Nat) (hP : zl_P h b v1) (hb0 : 0 < b) (hb : b < 600) (hv : v1 < 5999) : zk_Sp (zs_G S l D sz0) (ze_E P) km_Pl_addStandard { frames := 2, cells := 0, slots := 0, locals := 44 } [.ref (S.1 20), .int 45] (zs_W S h) (fun v w => ∃ h2 : zs_H, v = none ∧ w = zs_W S h2 ∧ zl_P h2 b (v1 + 1) ∧ zp_ag zl_A h h2) := by
  refine zk_met ku_Pl_addStandard (Nat.le_of_ble_eq_true rfl) (ze_Em P) ?_
  intro X C hR
  refine zk_lvs (lv' := [(0, .ref (S.1 20)), (1, .int 45)]) [0, 1] rfl ?_
  refine zk_aload_n C kd_Pl_addStandard_0 rfl 0 rfl rfl ?_
  refine zk_bipush (v := 60) C kd_Pl_addStandard_1 (by decide) rfl ?_
  refine ze_gets (j := 1) C rfl kw1012 kd_Pl_addStandard_3 rfl ?_
  refine zk_iload_n C kd_Pl_addStandard_6 rfl 1 rfl rfl ?_
  refine zk_iconst (v := 1) C kd_Pl_addStandard_7 (by decide) rfl ?_
  refine zk_iadd C kd_Pl_addStandard_8 rfl ?_
  refine zk_stk (r' := [.int 46, .ref (P.2.2 1), .int 60, .ref (S.1 20)]) (by rw [show (45 : Int32) + 1 = 46 by decide]) ?_
  refine ze_ti C rfl (zp_dec rfl) kd_Pl_addStandard_9 rfl ?_
  refine zk_stk (r' := [.int 1, .int 60, .ref (S.1 20)]) rfl ?_
  refine zk_iadd C kd_Pl_addStandard_10 rfl ?_
  refine zk_stk (r' := [.int 61, .ref (S.1 20)]) (by rw [show (60 : Int32) + 1 = 61 by decide]) ?_
  refine ze_gets (j := 1) C rfl kw1012 kd_Pl_addStandard_11 rfl ?_
  refine zk_iload_n C kd_Pl_addStandard_14 rfl 1 rfl rfl ?_
  refine zk_iconst (v := 2) C kd_Pl_addStandard_15 (by decide) rfl ?_
  refine zk_iadd C kd_Pl_addStandard_16 rfl ?_
  refine zk_stk (r' := [.int 47, .ref (P.2.2 1), .int 61, .ref (S.1 20)]) (by rw [show (45 : Int32) + 2 = 47 by decide]) ?_
  refine ze_ti C rfl (zp_dec rfl) kd_Pl_addStandard_17 rfl ?_
  refine zk_stk (r' := [.int 1, .int 61, .ref (S.1 20)]) rfl ?_
  refine zs_callV (k := 20) (rn := { frames := 1, cells := 0, slots := 0, locals := 21 }) (As := [.int 61, .int 1]) (rest := []) C (zl_add h b v1 61 1 hP hb0 hb hv (by decide)) ku_Pl_add kw1018 kv_Pl_add rfl ⟨by decide, by decide⟩ ⟨by decide, by decide⟩ rfl rfl rfl (Nat.le_of_ble_eq_true rfl) kd_Pl_addStandard_18 rfl (c1 := 0) (s1 := 0) rfl rfl (fun v w hp => ?_)
  obtain ⟨h2, rfl, rfl, hP2, ha2⟩ := hp
  refine zk_stk (r' := [.int (nI v1)]) rfl ?_
  refine zk_istore_n (lv' := [(2, _), (0, _), (1, _)]) C kd_Pl_addStandard_21 rfl (by decide) rfl rfl ?_
  refine zk_aload_n C kd_Pl_addStandard_22 rfl 1 rfl rfl ?_
  refine zs_get (v := .ref (S.1 31)) C 20 10 rfl rfl rfl rfl ki_Pl (by decide) kw265 kd_Pl_addStandard_23 rfl ?_
  refine zk_iload_n C kd_Pl_addStandard_26 rfl 0 rfl rfl ?_
  refine ze_gets (j := 1) C rfl kw1012 kd_Pl_addStandard_27 rfl ?_
  refine zk_iload_n C kd_Pl_addStandard_30 rfl 2 rfl rfl ?_
  refine zk_iconst (v := 3) C kd_Pl_addStandard_31 (by decide) rfl ?_
  refine zk_iadd C kd_Pl_addStandard_32 rfl ?_
  refine zk_stk (r' := [.int 48, .ref (P.2.2 1), .int (nI v1), .ref (S.1 31)]) (by rw [show (45 : Int32) + 3 = 48 by decide]) ?_
  refine ze_ti C rfl (zp_dec rfl) kd_Pl_addStandard_33 rfl ?_
  refine zk_stk (r' := [.int 2, .int (nI v1), .ref (S.1 31)]) rfl ?_
  refine zs_iast C 31 rfl (vp_in_nI (by omega) (by decide)) kd_Pl_addStandard_34 rfl ?_
  refine zk_aload_n C kd_Pl_addStandard_35 rfl 1 rfl rfl ?_
  refine zs_get (v := .ref (S.1 32)) C 20 11 rfl rfl rfl rfl ki_Pl (by decide) kw268 kd_Pl_addStandard_36 rfl ?_
  refine zk_iload_n C kd_Pl_addStandard_39 rfl 0 rfl rfl ?_
  refine ze_gets (j := 1) C rfl kw1012 kd_Pl_addStandard_40 rfl ?_
  refine zk_iload_n C kd_Pl_addStandard_43 rfl 2 rfl rfl ?_
  refine zk_iconst (v := 4) C kd_Pl_addStandard_44 (by decide) rfl ?_
  refine zk_iadd C kd_Pl_addStandard_45 rfl ?_
  refine zk_stk (r' := [.int 49, .ref (P.2.2 1), .int (nI v1), .ref (S.1 32)]) (by rw [show (45 : Int32) + 4 = 49 by decide]) ?_
  refine ze_ti C rfl (zp_dec rfl) kd_Pl_addStandard_46 rfl ?_
  refine zk_stk (r' := [.int 1, .int (nI v1), .ref (S.1 32)]) rfl ?_
  refine zs_iast C 32 rfl (vp_in_nI (by omega) (by decide)) kd_Pl_addStandard_47 rfl ?_
  exact zk_vret C hR kd_Pl_addStandard_48 rfl rfl ⟨_, rfl, rfl, hP2, ((ha2).uM (⟨by decide, by decide⟩)).uM (⟨by decide, by decide⟩)⟩
set_option maxHeartbeats 4000000 in
set_option maxRecDepth 100000 in
theorem zl_as50 {l : Launch} {D : va_G} {sz0 : Nat} {S : zs_T} {P : ze_T} (h : zs_H) (b v1 : Nat) (hP : zl_P h b v1) (hb0 : 0 < b) (hb : b < 600) (hv : v1 < 5999) : zk_Sp (zs_G S l D sz0) (ze_E P) km_Pl_addStandard { frames := 2, cells := 0, slots := 0, locals := 44 } [.ref (S.1 20), .int 50] (zs_W S h) (fun v w => ∃ h2 : zs_H, v = none ∧ w = zs_W S h2 ∧ zl_P h2 b (v1 + 1) ∧ zp_ag zl_A h h2) := by
  refine zk_met ku_Pl_addStandard (Nat.le_of_ble_eq_true rfl) (ze_Em P) ?_
  intro X C hR
  refine zk_lvs (lv' := [(0, .ref (S.1 20)), (1, .int 50)]) [0, 1] rfl ?_
  refine zk_aload_n C kd_Pl_addStandard_0 rfl 0 rfl rfl ?_
  refine zk_bipush (v := 60) C kd_Pl_addStandard_1 (by decide) rfl ?_
  refine ze_gets (j := 1) C rfl kw1012 kd_Pl_addStandard_3 rfl ?_
  refine zk_iload_n C kd_Pl_addStandard_6 rfl 1 rfl rfl ?_
  refine zk_iconst (v := 1) C kd_Pl_addStandard_7 (by decide) rfl ?_
  refine zk_iadd C kd_Pl_addStandard_8 rfl ?_
  refine zk_stk (r' := [.int 51, .ref (P.2.2 1), .int 60, .ref (S.1 20)]) (by rw [show (50 : Int32) + 1 = 51 by decide]) ?_
  refine ze_ti C rfl (zp_dec rfl) kd_Pl_addStandard_9 rfl ?_
  refine zk_stk (r' := [.int 2, .int 60, .ref (S.1 20)]) rfl ?_
  refine zk_iadd C kd_Pl_addStandard_10 rfl ?_
  refine zk_stk (r' := [.int 62, .ref (S.1 20)]) (by rw [show (60 : Int32) + 2 = 62 by decide]) ?_
  refine ze_gets (j := 1) C rfl kw1012 kd_Pl_addStandard_11 rfl ?_
  refine zk_iload_n C kd_Pl_addStandard_14 rfl 1 rfl rfl ?_
  refine zk_iconst (v := 2) C kd_Pl_addStandard_15 (by decide) rfl ?_
  refine zk_iadd C kd_Pl_addStandard_16 rfl ?_
  refine zk_stk (r' := [.int 52, .ref (P.2.2 1), .int 62, .ref (S.1 20)]) (by rw [show (50 : Int32) + 2 = 52 by decide]) ?_
  refine ze_ti C rfl (zp_dec rfl) kd_Pl_addStandard_17 rfl ?_
  refine zk_stk (r' := [.int 2, .int 62, .ref (S.1 20)]) rfl ?_
  refine zs_callV (k := 20) (rn := { frames := 1, cells := 0, slots := 0, locals := 21 }) (As := [.int 62, .int 2]) (rest := []) C (zl_add h b v1 62 2 hP hb0 hb hv (by decide)) ku_Pl_add kw1018 kv_Pl_add rfl ⟨by decide, by decide⟩ ⟨by decide, by decide⟩ rfl rfl rfl (Nat.le_of_ble_eq_true rfl) kd_Pl_addStandard_18 rfl (c1 := 0) (s1 := 0) rfl rfl (fun v w hp => ?_)
  obtain ⟨h2, rfl, rfl, hP2, ha2⟩ := hp
  refine zk_stk (r' := [.int (nI v1)]) rfl ?_
  refine zk_istore_n (lv' := [(2, _), (0, _), (1, _)]) C kd_Pl_addStandard_21 rfl (by decide) rfl rfl ?_
  refine zk_aload_n C kd_Pl_addStandard_22 rfl 1 rfl rfl ?_
  refine zs_get (v := .ref (S.1 31)) C 20 10 rfl rfl rfl rfl ki_Pl (by decide) kw265 kd_Pl_addStandard_23 rfl ?_
  refine zk_iload_n C kd_Pl_addStandard_26 rfl 0 rfl rfl ?_
  refine ze_gets (j := 1) C rfl kw1012 kd_Pl_addStandard_27 rfl ?_
  refine zk_iload_n C kd_Pl_addStandard_30 rfl 2 rfl rfl ?_
  refine zk_iconst (v := 3) C kd_Pl_addStandard_31 (by decide) rfl ?_
  refine zk_iadd C kd_Pl_addStandard_32 rfl ?_
  refine zk_stk (r' := [.int 53, .ref (P.2.2 1), .int (nI v1), .ref (S.1 31)]) (by rw [show (50 : Int32) + 3 = 53 by decide]) ?_
  refine ze_ti C rfl (zp_dec rfl) kd_Pl_addStandard_33 rfl ?_
  refine zk_stk (r' := [.int 0, .int (nI v1), .ref (S.1 31)]) rfl ?_
  refine zs_iast C 31 rfl (vp_in_nI (by omega) (by decide)) kd_Pl_addStandard_34 rfl ?_
  refine zk_aload_n C kd_Pl_addStandard_35 rfl 1 rfl rfl ?_
  refine zs_get (v := .ref (S.1 32)) C 20 11 rfl rfl rfl rfl ki_Pl (by decide) kw268 kd_Pl_addStandard_36 rfl ?_
  refine zk_iload_n C kd_Pl_addStandard_39 rfl 0 rfl rfl ?_
  refine ze_gets (j := 1) C rfl kw1012 kd_Pl_addStandard_40 rfl ?_
  refine zk_iload_n C kd_Pl_addStandard_43 rfl 2 rfl rfl ?_
  refine zk_iconst (v := 4) C kd_Pl_addStandard_44 (by decide) rfl ?_
  refine zk_iadd C kd_Pl_addStandard_45 rfl ?_
  refine zk_stk (r' := [.int 54, .ref (P.2.2 1), .int (nI v1), .ref (S.1 32)]) (by rw [show (50 : Int32) + 4 = 54 by decide]) ?_
  refine ze_ti C rfl (zp_dec rfl) kd_Pl_addStandard_46 rfl ?_
  refine zk_stk (r' := [.int 2, .int (nI v1), .ref (S.1 32)]) rfl ?_
  refine zs_iast C 32 rfl (vp_in_nI (by omega) (by decide)) kd_Pl_addStandard_47 rfl ?_
  exact zk_vret C hR kd_Pl_addStandard_48 rfl rfl ⟨_, rfl, rfl, hP2, ((ha2).uM (⟨by decide, by decide⟩)).uM (⟨by decide, by decide⟩)⟩
set_option maxHeartbeats 4000000 in
set_option maxRecDepth 100000 in
theorem zl_as55 {l : Launch} {D : va_G} {sz0 : Nat} {S : zs_T} {P : ze_T} (h : zs_H) (b v1 : Nat) (hP : zl_P h b v1) (hb0 : 0 < b) (hb : b < 600) (hv : v1 < 5999) : zk_Sp (zs_G S l D sz0) (ze_E P) km_Pl_addStandard { frames := 2, cells := 0, slots := 0, locals := 44 } [.ref (S.1 20), .int 55] (zs_W S h) (fun v w => ∃ h2 : zs_H, v = none ∧ w = zs_W S h2 ∧ zl_P h2 b (v1 + 1) ∧ zp_ag zl_A h h2) := by
  refine zk_met ku_Pl_addStandard (Nat.le_of_ble_eq_true rfl) (ze_Em P) ?_
  intro X C hR
  refine zk_lvs (lv' := [(0, .ref (S.1 20)), (1, .int 55)]) [0, 1] rfl ?_
  refine zk_aload_n C kd_Pl_addStandard_0 rfl 0 rfl rfl ?_
  refine zk_bipush (v := 60) C kd_Pl_addStandard_1 (by decide) rfl ?_
  refine ze_gets (j := 1) C rfl kw1012 kd_Pl_addStandard_3 rfl ?_
  refine zk_iload_n C kd_Pl_addStandard_6 rfl 1 rfl rfl ?_
  refine zk_iconst (v := 1) C kd_Pl_addStandard_7 (by decide) rfl ?_
  refine zk_iadd C kd_Pl_addStandard_8 rfl ?_
  refine zk_stk (r' := [.int 56, .ref (P.2.2 1), .int 60, .ref (S.1 20)]) (by rw [show (55 : Int32) + 1 = 56 by decide]) ?_
  refine ze_ti C rfl (zp_dec rfl) kd_Pl_addStandard_9 rfl ?_
  refine zk_stk (r' := [.int 3, .int 60, .ref (S.1 20)]) rfl ?_
  refine zk_iadd C kd_Pl_addStandard_10 rfl ?_
  refine zk_stk (r' := [.int 63, .ref (S.1 20)]) (by rw [show (60 : Int32) + 3 = 63 by decide]) ?_
  refine ze_gets (j := 1) C rfl kw1012 kd_Pl_addStandard_11 rfl ?_
  refine zk_iload_n C kd_Pl_addStandard_14 rfl 1 rfl rfl ?_
  refine zk_iconst (v := 2) C kd_Pl_addStandard_15 (by decide) rfl ?_
  refine zk_iadd C kd_Pl_addStandard_16 rfl ?_
  refine zk_stk (r' := [.int 57, .ref (P.2.2 1), .int 63, .ref (S.1 20)]) (by rw [show (55 : Int32) + 2 = 57 by decide]) ?_
  refine ze_ti C rfl (zp_dec rfl) kd_Pl_addStandard_17 rfl ?_
  refine zk_stk (r' := [.int 2, .int 63, .ref (S.1 20)]) rfl ?_
  refine zs_callV (k := 20) (rn := { frames := 1, cells := 0, slots := 0, locals := 21 }) (As := [.int 63, .int 2]) (rest := []) C (zl_add h b v1 63 2 hP hb0 hb hv (by decide)) ku_Pl_add kw1018 kv_Pl_add rfl ⟨by decide, by decide⟩ ⟨by decide, by decide⟩ rfl rfl rfl (Nat.le_of_ble_eq_true rfl) kd_Pl_addStandard_18 rfl (c1 := 0) (s1 := 0) rfl rfl (fun v w hp => ?_)
  obtain ⟨h2, rfl, rfl, hP2, ha2⟩ := hp
  refine zk_stk (r' := [.int (nI v1)]) rfl ?_
  refine zk_istore_n (lv' := [(2, _), (0, _), (1, _)]) C kd_Pl_addStandard_21 rfl (by decide) rfl rfl ?_
  refine zk_aload_n C kd_Pl_addStandard_22 rfl 1 rfl rfl ?_
  refine zs_get (v := .ref (S.1 31)) C 20 10 rfl rfl rfl rfl ki_Pl (by decide) kw265 kd_Pl_addStandard_23 rfl ?_
  refine zk_iload_n C kd_Pl_addStandard_26 rfl 0 rfl rfl ?_
  refine ze_gets (j := 1) C rfl kw1012 kd_Pl_addStandard_27 rfl ?_
  refine zk_iload_n C kd_Pl_addStandard_30 rfl 2 rfl rfl ?_
  refine zk_iconst (v := 3) C kd_Pl_addStandard_31 (by decide) rfl ?_
  refine zk_iadd C kd_Pl_addStandard_32 rfl ?_
  refine zk_stk (r' := [.int 58, .ref (P.2.2 1), .int (nI v1), .ref (S.1 31)]) (by rw [show (55 : Int32) + 3 = 58 by decide]) ?_
  refine ze_ti C rfl (zp_dec rfl) kd_Pl_addStandard_33 rfl ?_
  refine zk_stk (r' := [.int 2, .int (nI v1), .ref (S.1 31)]) rfl ?_
  refine zs_iast C 31 rfl (vp_in_nI (by omega) (by decide)) kd_Pl_addStandard_34 rfl ?_
  refine zk_aload_n C kd_Pl_addStandard_35 rfl 1 rfl rfl ?_
  refine zs_get (v := .ref (S.1 32)) C 20 11 rfl rfl rfl rfl ki_Pl (by decide) kw268 kd_Pl_addStandard_36 rfl ?_
  refine zk_iload_n C kd_Pl_addStandard_39 rfl 0 rfl rfl ?_
  refine ze_gets (j := 1) C rfl kw1012 kd_Pl_addStandard_40 rfl ?_
  refine zk_iload_n C kd_Pl_addStandard_43 rfl 2 rfl rfl ?_
  refine zk_iconst (v := 4) C kd_Pl_addStandard_44 (by decide) rfl ?_
  refine zk_iadd C kd_Pl_addStandard_45 rfl ?_
  refine zk_stk (r' := [.int 59, .ref (P.2.2 1), .int (nI v1), .ref (S.1 32)]) (by rw [show (55 : Int32) + 4 = 59 by decide]) ?_
  refine ze_ti C rfl (zp_dec rfl) kd_Pl_addStandard_46 rfl ?_
  refine zk_stk (r' := [.int 3, .int (nI v1), .ref (S.1 32)]) rfl ?_
  refine zs_iast C 32 rfl (vp_in_nI (by omega) (by decide)) kd_Pl_addStandard_47 rfl ?_
  exact zk_vret C hR kd_Pl_addStandard_48 rfl rfl ⟨_, rfl, rfl, hP2, ((ha2).uM (⟨by decide, by decide⟩)).uM (⟨by decide, by decide⟩)⟩
set_option maxHeartbeats 4000000 in
set_option maxRecDepth 100000 in
theorem zl_as60 {l : Launch} {D : va_G} {sz0 : Nat} {S : zs_T} {P : ze_T} (h : zs_H) (b v1 : Nat) (hP : zl_P h b v1) (hb0 : 0 < b) (hb : b < 600) (hv : v1 < 5999) : zk_Sp (zs_G S l D sz0) (ze_E P) km_Pl_addStandard { frames := 2, cells := 0, slots := 0, locals := 44 } [.ref (S.1 20), .int 60] (zs_W S h) (fun v w => ∃ h2 : zs_H, v = none ∧ w = zs_W S h2 ∧ zl_P h2 b (v1 + 1) ∧ zp_ag zl_A h h2) := by
  refine zk_met ku_Pl_addStandard (Nat.le_of_ble_eq_true rfl) (ze_Em P) ?_
  intro X C hR
  refine zk_lvs (lv' := [(0, .ref (S.1 20)), (1, .int 60)]) [0, 1] rfl ?_
  refine zk_aload_n C kd_Pl_addStandard_0 rfl 0 rfl rfl ?_
  refine zk_bipush (v := 60) C kd_Pl_addStandard_1 (by decide) rfl ?_
  refine ze_gets (j := 1) C rfl kw1012 kd_Pl_addStandard_3 rfl ?_
  refine zk_iload_n C kd_Pl_addStandard_6 rfl 1 rfl rfl ?_
  refine zk_iconst (v := 1) C kd_Pl_addStandard_7 (by decide) rfl ?_
  refine zk_iadd C kd_Pl_addStandard_8 rfl ?_
  refine zk_stk (r' := [.int 61, .ref (P.2.2 1), .int 60, .ref (S.1 20)]) (by rw [show (60 : Int32) + 1 = 61 by decide]) ?_
  refine ze_ti C rfl (zp_dec rfl) kd_Pl_addStandard_9 rfl ?_
  refine zk_stk (r' := [.int 4, .int 60, .ref (S.1 20)]) rfl ?_
  refine zk_iadd C kd_Pl_addStandard_10 rfl ?_
  refine zk_stk (r' := [.int 64, .ref (S.1 20)]) (by rw [show (60 : Int32) + 4 = 64 by decide]) ?_
  refine ze_gets (j := 1) C rfl kw1012 kd_Pl_addStandard_11 rfl ?_
  refine zk_iload_n C kd_Pl_addStandard_14 rfl 1 rfl rfl ?_
  refine zk_iconst (v := 2) C kd_Pl_addStandard_15 (by decide) rfl ?_
  refine zk_iadd C kd_Pl_addStandard_16 rfl ?_
  refine zk_stk (r' := [.int 62, .ref (P.2.2 1), .int 64, .ref (S.1 20)]) (by rw [show (60 : Int32) + 2 = 62 by decide]) ?_
  refine ze_ti C rfl (zp_dec rfl) kd_Pl_addStandard_17 rfl ?_
  refine zk_stk (r' := [.int 1, .int 64, .ref (S.1 20)]) rfl ?_
  refine zs_callV (k := 20) (rn := { frames := 1, cells := 0, slots := 0, locals := 21 }) (As := [.int 64, .int 1]) (rest := []) C (zl_add h b v1 64 1 hP hb0 hb hv (by decide)) ku_Pl_add kw1018 kv_Pl_add rfl ⟨by decide, by decide⟩ ⟨by decide, by decide⟩ rfl rfl rfl (Nat.le_of_ble_eq_true rfl) kd_Pl_addStandard_18 rfl (c1 := 0) (s1 := 0) rfl rfl (fun v w hp => ?_)
  obtain ⟨h2, rfl, rfl, hP2, ha2⟩ := hp
  refine zk_stk (r' := [.int (nI v1)]) rfl ?_
  refine zk_istore_n (lv' := [(2, _), (0, _), (1, _)]) C kd_Pl_addStandard_21 rfl (by decide) rfl rfl ?_
  refine zk_aload_n C kd_Pl_addStandard_22 rfl 1 rfl rfl ?_
  refine zs_get (v := .ref (S.1 31)) C 20 10 rfl rfl rfl rfl ki_Pl (by decide) kw265 kd_Pl_addStandard_23 rfl ?_
  refine zk_iload_n C kd_Pl_addStandard_26 rfl 0 rfl rfl ?_
  refine ze_gets (j := 1) C rfl kw1012 kd_Pl_addStandard_27 rfl ?_
  refine zk_iload_n C kd_Pl_addStandard_30 rfl 2 rfl rfl ?_
  refine zk_iconst (v := 3) C kd_Pl_addStandard_31 (by decide) rfl ?_
  refine zk_iadd C kd_Pl_addStandard_32 rfl ?_
  refine zk_stk (r' := [.int 63, .ref (P.2.2 1), .int (nI v1), .ref (S.1 31)]) (by rw [show (60 : Int32) + 3 = 63 by decide]) ?_
  refine ze_ti C rfl (zp_dec rfl) kd_Pl_addStandard_33 rfl ?_
  refine zk_stk (r' := [.int 0, .int (nI v1), .ref (S.1 31)]) rfl ?_
  refine zs_iast C 31 rfl (vp_in_nI (by omega) (by decide)) kd_Pl_addStandard_34 rfl ?_
  refine zk_aload_n C kd_Pl_addStandard_35 rfl 1 rfl rfl ?_
  refine zs_get (v := .ref (S.1 32)) C 20 11 rfl rfl rfl rfl ki_Pl (by decide) kw268 kd_Pl_addStandard_36 rfl ?_
  refine zk_iload_n C kd_Pl_addStandard_39 rfl 0 rfl rfl ?_
  refine ze_gets (j := 1) C rfl kw1012 kd_Pl_addStandard_40 rfl ?_
  refine zk_iload_n C kd_Pl_addStandard_43 rfl 2 rfl rfl ?_
  refine zk_iconst (v := 4) C kd_Pl_addStandard_44 (by decide) rfl ?_
  refine zk_iadd C kd_Pl_addStandard_45 rfl ?_
  refine zk_stk (r' := [.int 64, .ref (P.2.2 1), .int (nI v1), .ref (S.1 32)]) (by rw [show (60 : Int32) + 4 = 64 by decide]) ?_
  refine ze_ti C rfl (zp_dec rfl) kd_Pl_addStandard_46 rfl ?_
  refine zk_stk (r' := [.int 0, .int (nI v1), .ref (S.1 32)]) rfl ?_
  refine zs_iast C 32 rfl (vp_in_nI (by omega) (by decide)) kd_Pl_addStandard_47 rfl ?_
  exact zk_vret C hR kd_Pl_addStandard_48 rfl rfl ⟨_, rfl, rfl, hP2, ((ha2).uM (⟨by decide, by decide⟩)).uM (⟨by decide, by decide⟩)⟩
set_option maxHeartbeats 4000000 in
set_option maxRecDepth 100000 in
theorem zl_as65 {l : Launch} {D : va_G} {sz0 : Nat} {S : zs_T} {P : ze_T} (h : zs_H) (b v1 : Nat) (hP : zl_P h b v1) (hb0 : 0 < b) (hb : b < 600) (hv : v1 < 5999) : zk_Sp (zs_G S l D sz0) (ze_E P) km_Pl_addStandard { frames := 2, cells := 0, slots := 0, locals := 44 } [.ref (S.1 20), .int 65] (zs_W S h) (fun v w => ∃ h2 : zs_H, v = none ∧ w = zs_W S h2 ∧ zl_P h2 b (v1 + 1) ∧ zp_ag zl_A h h2) := by
  refine zk_met ku_Pl_addStandard (Nat.le_of_ble_eq_true rfl) (ze_Em P) ?_
  intro X C hR
  refine zk_lvs (lv' := [(0, .ref (S.1 20)), (1, .int 65)]) [0, 1] rfl ?_
  refine zk_aload_n C kd_Pl_addStandard_0 rfl 0 rfl rfl ?_
  refine zk_bipush (v := 60) C kd_Pl_addStandard_1 (by decide) rfl ?_
  refine ze_gets (j := 1) C rfl kw1012 kd_Pl_addStandard_3 rfl ?_
  refine zk_iload_n C kd_Pl_addStandard_6 rfl 1 rfl rfl ?_
  refine zk_iconst (v := 1) C kd_Pl_addStandard_7 (by decide) rfl ?_
  refine zk_iadd C kd_Pl_addStandard_8 rfl ?_
  refine zk_stk (r' := [.int 66, .ref (P.2.2 1), .int 60, .ref (S.1 20)]) (by rw [show (65 : Int32) + 1 = 66 by decide]) ?_
  refine ze_ti C rfl (zp_dec rfl) kd_Pl_addStandard_9 rfl ?_
  refine zk_stk (r' := [.int 5, .int 60, .ref (S.1 20)]) rfl ?_
  refine zk_iadd C kd_Pl_addStandard_10 rfl ?_
  refine zk_stk (r' := [.int 65, .ref (S.1 20)]) (by rw [show (60 : Int32) + 5 = 65 by decide]) ?_
  refine ze_gets (j := 1) C rfl kw1012 kd_Pl_addStandard_11 rfl ?_
  refine zk_iload_n C kd_Pl_addStandard_14 rfl 1 rfl rfl ?_
  refine zk_iconst (v := 2) C kd_Pl_addStandard_15 (by decide) rfl ?_
  refine zk_iadd C kd_Pl_addStandard_16 rfl ?_
  refine zk_stk (r' := [.int 67, .ref (P.2.2 1), .int 65, .ref (S.1 20)]) (by rw [show (65 : Int32) + 2 = 67 by decide]) ?_
  refine ze_ti C rfl (zp_dec rfl) kd_Pl_addStandard_17 rfl ?_
  refine zk_stk (r' := [.int 1, .int 65, .ref (S.1 20)]) rfl ?_
  refine zs_callV (k := 20) (rn := { frames := 1, cells := 0, slots := 0, locals := 21 }) (As := [.int 65, .int 1]) (rest := []) C (zl_add h b v1 65 1 hP hb0 hb hv (by decide)) ku_Pl_add kw1018 kv_Pl_add rfl ⟨by decide, by decide⟩ ⟨by decide, by decide⟩ rfl rfl rfl (Nat.le_of_ble_eq_true rfl) kd_Pl_addStandard_18 rfl (c1 := 0) (s1 := 0) rfl rfl (fun v w hp => ?_)
  obtain ⟨h2, rfl, rfl, hP2, ha2⟩ := hp
  refine zk_stk (r' := [.int (nI v1)]) rfl ?_
  refine zk_istore_n (lv' := [(2, _), (0, _), (1, _)]) C kd_Pl_addStandard_21 rfl (by decide) rfl rfl ?_
  refine zk_aload_n C kd_Pl_addStandard_22 rfl 1 rfl rfl ?_
  refine zs_get (v := .ref (S.1 31)) C 20 10 rfl rfl rfl rfl ki_Pl (by decide) kw265 kd_Pl_addStandard_23 rfl ?_
  refine zk_iload_n C kd_Pl_addStandard_26 rfl 0 rfl rfl ?_
  refine ze_gets (j := 1) C rfl kw1012 kd_Pl_addStandard_27 rfl ?_
  refine zk_iload_n C kd_Pl_addStandard_30 rfl 2 rfl rfl ?_
  refine zk_iconst (v := 3) C kd_Pl_addStandard_31 (by decide) rfl ?_
  refine zk_iadd C kd_Pl_addStandard_32 rfl ?_
  refine zk_stk (r' := [.int 68, .ref (P.2.2 1), .int (nI v1), .ref (S.1 31)]) (by rw [show (65 : Int32) + 3 = 68 by decide]) ?_
  refine ze_ti C rfl (zp_dec rfl) kd_Pl_addStandard_33 rfl ?_
  refine zk_stk (r' := [.int 0, .int (nI v1), .ref (S.1 31)]) rfl ?_
  refine zs_iast C 31 rfl (vp_in_nI (by omega) (by decide)) kd_Pl_addStandard_34 rfl ?_
  refine zk_aload_n C kd_Pl_addStandard_35 rfl 1 rfl rfl ?_
  refine zs_get (v := .ref (S.1 32)) C 20 11 rfl rfl rfl rfl ki_Pl (by decide) kw268 kd_Pl_addStandard_36 rfl ?_
  refine zk_iload_n C kd_Pl_addStandard_39 rfl 0 rfl rfl ?_
  refine ze_gets (j := 1) C rfl kw1012 kd_Pl_addStandard_40 rfl ?_
  refine zk_iload_n C kd_Pl_addStandard_43 rfl 2 rfl rfl ?_
  refine zk_iconst (v := 4) C kd_Pl_addStandard_44 (by decide) rfl ?_
  refine zk_iadd C kd_Pl_addStandard_45 rfl ?_
  refine zk_stk (r' := [.int 69, .ref (P.2.2 1), .int (nI v1), .ref (S.1 32)]) (by rw [show (65 : Int32) + 4 = 69 by decide]) ?_
  refine ze_ti C rfl (zp_dec rfl) kd_Pl_addStandard_46 rfl ?_
  refine zk_stk (r' := [.int 1, .int (nI v1), .ref (S.1 32)]) rfl ?_
  refine zs_iast C 32 rfl (vp_in_nI (by omega) (by decide)) kd_Pl_addStandard_47 rfl ?_
  exact zk_vret C hR kd_Pl_addStandard_48 rfl rfl ⟨_, rfl, rfl, hP2, ((ha2).uM (⟨by decide, by decide⟩)).uM (⟨by decide, by decide⟩)⟩
set_option maxHeartbeats 4000000 in
set_option maxRecDepth 100000 in
theorem zl_as70 {l : Launch} {D : va_G} {sz0 : Nat} {S : zs_T} {P : ze_T} (h : zs_H) (b v1 : Nat) (hP : zl_P h b v1) (hb0 : 0 < b) (hb : b < 600) (hv : v1 < 5999) : zk_Sp (zs_G S l D sz0) (ze_E P) km_Pl_addStandard { frames := 2, cells := 0, slots := 0, locals := 44 } [.ref (S.1 20), .int 70] (zs_W S h) (fun v w => ∃ h2 : zs_H, v = none ∧ w = zs_W S h2 ∧ zl_P h2 b (v1 + 1) ∧ zp_ag zl_A h h2) := by
  refine zk_met ku_Pl_addStandard (Nat.le_of_ble_eq_true rfl) (ze_Em P) ?_
  intro X C hR
  refine zk_lvs (lv' := [(0, .ref (S.1 20)), (1, .int 70)]) [0, 1] rfl ?_
  refine zk_aload_n C kd_Pl_addStandard_0 rfl 0 rfl rfl ?_
  refine zk_bipush (v := 60) C kd_Pl_addStandard_1 (by decide) rfl ?_
  refine ze_gets (j := 1) C rfl kw1012 kd_Pl_addStandard_3 rfl ?_
  refine zk_iload_n C kd_Pl_addStandard_6 rfl 1 rfl rfl ?_
  refine zk_iconst (v := 1) C kd_Pl_addStandard_7 (by decide) rfl ?_
  refine zk_iadd C kd_Pl_addStandard_8 rfl ?_
  refine zk_stk (r' := [.int 71, .ref (P.2.2 1), .int 60, .ref (S.1 20)]) (by rw [show (70 : Int32) + 1 = 71 by decide]) ?_
  refine ze_ti C rfl (zp_dec rfl) kd_Pl_addStandard_9 rfl ?_
  refine zk_stk (r' := [.int 6, .int 60, .ref (S.1 20)]) rfl ?_
  refine zk_iadd C kd_Pl_addStandard_10 rfl ?_
  refine zk_stk (r' := [.int 66, .ref (S.1 20)]) (by rw [show (60 : Int32) + 6 = 66 by decide]) ?_
  refine ze_gets (j := 1) C rfl kw1012 kd_Pl_addStandard_11 rfl ?_
  refine zk_iload_n C kd_Pl_addStandard_14 rfl 1 rfl rfl ?_
  refine zk_iconst (v := 2) C kd_Pl_addStandard_15 (by decide) rfl ?_
  refine zk_iadd C kd_Pl_addStandard_16 rfl ?_
  refine zk_stk (r' := [.int 72, .ref (P.2.2 1), .int 66, .ref (S.1 20)]) (by rw [show (70 : Int32) + 2 = 72 by decide]) ?_
  refine ze_ti C rfl (zp_dec rfl) kd_Pl_addStandard_17 rfl ?_
  refine zk_stk (r' := [.int 1, .int 66, .ref (S.1 20)]) rfl ?_
  refine zs_callV (k := 20) (rn := { frames := 1, cells := 0, slots := 0, locals := 21 }) (As := [.int 66, .int 1]) (rest := []) C (zl_add h b v1 66 1 hP hb0 hb hv (by decide)) ku_Pl_add kw1018 kv_Pl_add rfl ⟨by decide, by decide⟩ ⟨by decide, by decide⟩ rfl rfl rfl (Nat.le_of_ble_eq_true rfl) kd_Pl_addStandard_18 rfl (c1 := 0) (s1 := 0) rfl rfl (fun v w hp => ?_)
  obtain ⟨h2, rfl, rfl, hP2, ha2⟩ := hp
  refine zk_stk (r' := [.int (nI v1)]) rfl ?_
  refine zk_istore_n (lv' := [(2, _), (0, _), (1, _)]) C kd_Pl_addStandard_21 rfl (by decide) rfl rfl ?_
  refine zk_aload_n C kd_Pl_addStandard_22 rfl 1 rfl rfl ?_
  refine zs_get (v := .ref (S.1 31)) C 20 10 rfl rfl rfl rfl ki_Pl (by decide) kw265 kd_Pl_addStandard_23 rfl ?_
  refine zk_iload_n C kd_Pl_addStandard_26 rfl 0 rfl rfl ?_
  refine ze_gets (j := 1) C rfl kw1012 kd_Pl_addStandard_27 rfl ?_
  refine zk_iload_n C kd_Pl_addStandard_30 rfl 2 rfl rfl ?_
  refine zk_iconst (v := 3) C kd_Pl_addStandard_31 (by decide) rfl ?_
  refine zk_iadd C kd_Pl_addStandard_32 rfl ?_
  refine zk_stk (r' := [.int 73, .ref (P.2.2 1), .int (nI v1), .ref (S.1 31)]) (by rw [show (70 : Int32) + 3 = 73 by decide]) ?_
  refine ze_ti C rfl (zp_dec rfl) kd_Pl_addStandard_33 rfl ?_
  refine zk_stk (r' := [.int 1, .int (nI v1), .ref (S.1 31)]) rfl ?_
  refine zs_iast C 31 rfl (vp_in_nI (by omega) (by decide)) kd_Pl_addStandard_34 rfl ?_
  refine zk_aload_n C kd_Pl_addStandard_35 rfl 1 rfl rfl ?_
  refine zs_get (v := .ref (S.1 32)) C 20 11 rfl rfl rfl rfl ki_Pl (by decide) kw268 kd_Pl_addStandard_36 rfl ?_
  refine zk_iload_n C kd_Pl_addStandard_39 rfl 0 rfl rfl ?_
  refine ze_gets (j := 1) C rfl kw1012 kd_Pl_addStandard_40 rfl ?_
  refine zk_iload_n C kd_Pl_addStandard_43 rfl 2 rfl rfl ?_
  refine zk_iconst (v := 4) C kd_Pl_addStandard_44 (by decide) rfl ?_
  refine zk_iadd C kd_Pl_addStandard_45 rfl ?_
  refine zk_stk (r' := [.int 74, .ref (P.2.2 1), .int (nI v1), .ref (S.1 32)]) (by rw [show (70 : Int32) + 4 = 74 by decide]) ?_
  refine ze_ti C rfl (zp_dec rfl) kd_Pl_addStandard_46 rfl ?_
  refine zk_stk (r' := [.int 2, .int (nI v1), .ref (S.1 32)]) rfl ?_
  refine zs_iast C 32 rfl (vp_in_nI (by omega) (by decide)) kd_Pl_addStandard_47 rfl ?_
  exact zk_vret C hR kd_Pl_addStandard_48 rfl rfl ⟨_, rfl, rfl, hP2, ((ha2).uM (⟨by decide, by decide⟩)).uM (⟨by decide, by decide⟩)⟩
set_option maxHeartbeats 4000000 in
set_option maxRecDepth 100000 in
theorem zl_as75 {l : Launch} {D : va_G} {sz0 : Nat} {S : zs_T} {P : ze_T} (h : zs_H) (b v1 : Nat) (hP : zl_P h b v1) (hb0 : 0 < b) (hb : b < 600) (hv : v1 < 5999) : zk_Sp (zs_G S l D sz0) (ze_E P) km_Pl_addStandard { frames := 2, cells := 0, slots := 0, locals := 44 } [.ref (S.1 20), .int 75] (zs_W S h) (fun v w => ∃ h2 : zs_H, v = none ∧ w = zs_W S h2 ∧ zl_P h2 b (v1 + 1) ∧ zp_ag zl_A h h2) := by
  refine zk_met ku_Pl_addStandard (Nat.le_of_ble_eq_true rfl) (ze_Em P) ?_
  intro X C hR
  refine zk_lvs (lv' := [(0, .ref (S.1 20)), (1, .int 75)]) [0, 1] rfl ?_
  refine zk_aload_n C kd_Pl_addStandard_0 rfl 0 rfl rfl ?_
  refine zk_bipush (v := 60) C kd_Pl_addStandard_1 (by decide) rfl ?_
  refine ze_gets (j := 1) C rfl kw1012 kd_Pl_addStandard_3 rfl ?_
  refine zk_iload_n C kd_Pl_addStandard_6 rfl 1 rfl rfl ?_
  refine zk_iconst (v := 1) C kd_Pl_addStandard_7 (by decide) rfl ?_
  refine zk_iadd C kd_Pl_addStandard_8 rfl ?_
  refine zk_stk (r' := [.int 76, .ref (P.2.2 1), .int 60, .ref (S.1 20)]) (by rw [show (75 : Int32) + 1 = 76 by decide]) ?_
  refine ze_ti C rfl (zp_dec rfl) kd_Pl_addStandard_9 rfl ?_
  refine zk_stk (r' := [.int 2, .int 60, .ref (S.1 20)]) rfl ?_
  refine zk_iadd C kd_Pl_addStandard_10 rfl ?_
  refine zk_stk (r' := [.int 62, .ref (S.1 20)]) (by rw [show (60 : Int32) + 2 = 62 by decide]) ?_
  refine ze_gets (j := 1) C rfl kw1012 kd_Pl_addStandard_11 rfl ?_
  refine zk_iload_n C kd_Pl_addStandard_14 rfl 1 rfl rfl ?_
  refine zk_iconst (v := 2) C kd_Pl_addStandard_15 (by decide) rfl ?_
  refine zk_iadd C kd_Pl_addStandard_16 rfl ?_
  refine zk_stk (r' := [.int 77, .ref (P.2.2 1), .int 62, .ref (S.1 20)]) (by rw [show (75 : Int32) + 2 = 77 by decide]) ?_
  refine ze_ti C rfl (zp_dec rfl) kd_Pl_addStandard_17 rfl ?_
  refine zk_stk (r' := [.int 2, .int 62, .ref (S.1 20)]) rfl ?_
  refine zs_callV (k := 20) (rn := { frames := 1, cells := 0, slots := 0, locals := 21 }) (As := [.int 62, .int 2]) (rest := []) C (zl_add h b v1 62 2 hP hb0 hb hv (by decide)) ku_Pl_add kw1018 kv_Pl_add rfl ⟨by decide, by decide⟩ ⟨by decide, by decide⟩ rfl rfl rfl (Nat.le_of_ble_eq_true rfl) kd_Pl_addStandard_18 rfl (c1 := 0) (s1 := 0) rfl rfl (fun v w hp => ?_)
  obtain ⟨h2, rfl, rfl, hP2, ha2⟩ := hp
  refine zk_stk (r' := [.int (nI v1)]) rfl ?_
  refine zk_istore_n (lv' := [(2, _), (0, _), (1, _)]) C kd_Pl_addStandard_21 rfl (by decide) rfl rfl ?_
  refine zk_aload_n C kd_Pl_addStandard_22 rfl 1 rfl rfl ?_
  refine zs_get (v := .ref (S.1 31)) C 20 10 rfl rfl rfl rfl ki_Pl (by decide) kw265 kd_Pl_addStandard_23 rfl ?_
  refine zk_iload_n C kd_Pl_addStandard_26 rfl 0 rfl rfl ?_
  refine ze_gets (j := 1) C rfl kw1012 kd_Pl_addStandard_27 rfl ?_
  refine zk_iload_n C kd_Pl_addStandard_30 rfl 2 rfl rfl ?_
  refine zk_iconst (v := 3) C kd_Pl_addStandard_31 (by decide) rfl ?_
  refine zk_iadd C kd_Pl_addStandard_32 rfl ?_
  refine zk_stk (r' := [.int 78, .ref (P.2.2 1), .int (nI v1), .ref (S.1 31)]) (by rw [show (75 : Int32) + 3 = 78 by decide]) ?_
  refine ze_ti C rfl (zp_dec rfl) kd_Pl_addStandard_33 rfl ?_
  refine zk_stk (r' := [.int 0, .int (nI v1), .ref (S.1 31)]) rfl ?_
  refine zs_iast C 31 rfl (vp_in_nI (by omega) (by decide)) kd_Pl_addStandard_34 rfl ?_
  refine zk_aload_n C kd_Pl_addStandard_35 rfl 1 rfl rfl ?_
  refine zs_get (v := .ref (S.1 32)) C 20 11 rfl rfl rfl rfl ki_Pl (by decide) kw268 kd_Pl_addStandard_36 rfl ?_
  refine zk_iload_n C kd_Pl_addStandard_39 rfl 0 rfl rfl ?_
  refine ze_gets (j := 1) C rfl kw1012 kd_Pl_addStandard_40 rfl ?_
  refine zk_iload_n C kd_Pl_addStandard_43 rfl 2 rfl rfl ?_
  refine zk_iconst (v := 4) C kd_Pl_addStandard_44 (by decide) rfl ?_
  refine zk_iadd C kd_Pl_addStandard_45 rfl ?_
  refine zk_stk (r' := [.int 79, .ref (P.2.2 1), .int (nI v1), .ref (S.1 32)]) (by rw [show (75 : Int32) + 4 = 79 by decide]) ?_
  refine ze_ti C rfl (zp_dec rfl) kd_Pl_addStandard_46 rfl ?_
  refine zk_stk (r' := [.int 3, .int (nI v1), .ref (S.1 32)]) rfl ?_
  refine zs_iast C 32 rfl (vp_in_nI (by omega) (by decide)) kd_Pl_addStandard_47 rfl ?_
  exact zk_vret C hR kd_Pl_addStandard_48 rfl rfl ⟨_, rfl, rfl, hP2, ((ha2).uM (⟨by decide, by decide⟩)).uM (⟨by decide, by decide⟩)⟩
set_option maxHeartbeats 4000000 in
set_option maxRecDepth 100000 in
theorem zl_as80 {l : Launch} {D : va_G} {sz0 : Nat} {S : zs_T} {P : ze_T} (h : zs_H) (b v1 : Nat) (hP : zl_P h b v1) (hb0 : 0 < b) (hb : b < 600) (hv : v1 < 5999) : zk_Sp (zs_G S l D sz0) (ze_E P) km_Pl_addStandard { frames := 2, cells := 0, slots := 0, locals := 44 } [.ref (S.1 20), .int 80] (zs_W S h) (fun v w => ∃ h2 : zs_H, v = none ∧ w = zs_W S h2 ∧ zl_P h2 b (v1 + 1) ∧ zp_ag zl_A h h2) := by
  refine zk_met ku_Pl_addStandard (Nat.le_of_ble_eq_true rfl) (ze_Em P) ?_
  intro X C hR
  refine zk_lvs (lv' := [(0, .ref (S.1 20)), (1, .int 80)]) [0, 1] rfl ?_
  refine zk_aload_n C kd_Pl_addStandard_0 rfl 0 rfl rfl ?_
  refine zk_bipush (v := 60) C kd_Pl_addStandard_1 (by decide) rfl ?_
  refine ze_gets (j := 1) C rfl kw1012 kd_Pl_addStandard_3 rfl ?_
  refine zk_iload_n C kd_Pl_addStandard_6 rfl 1 rfl rfl ?_
  refine zk_iconst (v := 1) C kd_Pl_addStandard_7 (by decide) rfl ?_
  refine zk_iadd C kd_Pl_addStandard_8 rfl ?_
  refine zk_stk (r' := [.int 81, .ref (P.2.2 1), .int 60, .ref (S.1 20)]) (by rw [show (80 : Int32) + 1 = 81 by decide]) ?_
  refine ze_ti C rfl (zp_dec rfl) kd_Pl_addStandard_9 rfl ?_
  refine zk_stk (r' := [.int 7, .int 60, .ref (S.1 20)]) rfl ?_
  refine zk_iadd C kd_Pl_addStandard_10 rfl ?_
  refine zk_stk (r' := [.int 67, .ref (S.1 20)]) (by rw [show (60 : Int32) + 7 = 67 by decide]) ?_
  refine ze_gets (j := 1) C rfl kw1012 kd_Pl_addStandard_11 rfl ?_
  refine zk_iload_n C kd_Pl_addStandard_14 rfl 1 rfl rfl ?_
  refine zk_iconst (v := 2) C kd_Pl_addStandard_15 (by decide) rfl ?_
  refine zk_iadd C kd_Pl_addStandard_16 rfl ?_
  refine zk_stk (r' := [.int 82, .ref (P.2.2 1), .int 67, .ref (S.1 20)]) (by rw [show (80 : Int32) + 2 = 82 by decide]) ?_
  refine ze_ti C rfl (zp_dec rfl) kd_Pl_addStandard_17 rfl ?_
  refine zk_stk (r' := [.int 2, .int 67, .ref (S.1 20)]) rfl ?_
  refine zs_callV (k := 20) (rn := { frames := 1, cells := 0, slots := 0, locals := 21 }) (As := [.int 67, .int 2]) (rest := []) C (zl_add h b v1 67 2 hP hb0 hb hv (by decide)) ku_Pl_add kw1018 kv_Pl_add rfl ⟨by decide, by decide⟩ ⟨by decide, by decide⟩ rfl rfl rfl (Nat.le_of_ble_eq_true rfl) kd_Pl_addStandard_18 rfl (c1 := 0) (s1 := 0) rfl rfl (fun v w hp => ?_)
  obtain ⟨h2, rfl, rfl, hP2, ha2⟩ := hp
  refine zk_stk (r' := [.int (nI v1)]) rfl ?_
  refine zk_istore_n (lv' := [(2, _), (0, _), (1, _)]) C kd_Pl_addStandard_21 rfl (by decide) rfl rfl ?_
  refine zk_aload_n C kd_Pl_addStandard_22 rfl 1 rfl rfl ?_
  refine zs_get (v := .ref (S.1 31)) C 20 10 rfl rfl rfl rfl ki_Pl (by decide) kw265 kd_Pl_addStandard_23 rfl ?_
  refine zk_iload_n C kd_Pl_addStandard_26 rfl 0 rfl rfl ?_
  refine ze_gets (j := 1) C rfl kw1012 kd_Pl_addStandard_27 rfl ?_
  refine zk_iload_n C kd_Pl_addStandard_30 rfl 2 rfl rfl ?_
  refine zk_iconst (v := 3) C kd_Pl_addStandard_31 (by decide) rfl ?_
  refine zk_iadd C kd_Pl_addStandard_32 rfl ?_
  refine zk_stk (r' := [.int 83, .ref (P.2.2 1), .int (nI v1), .ref (S.1 31)]) (by rw [show (80 : Int32) + 3 = 83 by decide]) ?_
  refine ze_ti C rfl (zp_dec rfl) kd_Pl_addStandard_33 rfl ?_
  refine zk_stk (r' := [.int 1, .int (nI v1), .ref (S.1 31)]) rfl ?_
  refine zs_iast C 31 rfl (vp_in_nI (by omega) (by decide)) kd_Pl_addStandard_34 rfl ?_
  refine zk_aload_n C kd_Pl_addStandard_35 rfl 1 rfl rfl ?_
  refine zs_get (v := .ref (S.1 32)) C 20 11 rfl rfl rfl rfl ki_Pl (by decide) kw268 kd_Pl_addStandard_36 rfl ?_
  refine zk_iload_n C kd_Pl_addStandard_39 rfl 0 rfl rfl ?_
  refine ze_gets (j := 1) C rfl kw1012 kd_Pl_addStandard_40 rfl ?_
  refine zk_iload_n C kd_Pl_addStandard_43 rfl 2 rfl rfl ?_
  refine zk_iconst (v := 4) C kd_Pl_addStandard_44 (by decide) rfl ?_
  refine zk_iadd C kd_Pl_addStandard_45 rfl ?_
  refine zk_stk (r' := [.int 84, .ref (P.2.2 1), .int (nI v1), .ref (S.1 32)]) (by rw [show (80 : Int32) + 4 = 84 by decide]) ?_
  refine ze_ti C rfl (zp_dec rfl) kd_Pl_addStandard_46 rfl ?_
  refine zk_stk (r' := [.int 4, .int (nI v1), .ref (S.1 32)]) rfl ?_
  refine zs_iast C 32 rfl (vp_in_nI (by omega) (by decide)) kd_Pl_addStandard_47 rfl ?_
  exact zk_vret C hR kd_Pl_addStandard_48 rfl rfl ⟨_, rfl, rfl, hP2, ((ha2).uM (⟨by decide, by decide⟩)).uM (⟨by decide, by decide⟩)⟩
set_option maxHeartbeats 4000000 in
set_option maxRecDepth 100000 in
theorem zl_as85 {l : Launch} {D : va_G} {sz0 : Nat} {S : zs_T} {P : ze_T} (h : zs_H) (b v1 : Nat) (hP : zl_P h b v1) (hb0 : 0 < b) (hb : b < 600) (hv : v1 < 5999) : zk_Sp (zs_G S l D sz0) (ze_E P) km_Pl_addStandard { frames := 2, cells := 0, slots := 0, locals := 44 } [.ref (S.1 20), .int 85] (zs_W S h) (fun v w => ∃ h2 : zs_H, v = none ∧ w = zs_W S h2 ∧ zl_P h2 b (v1 + 1) ∧ zp_ag zl_A h h2) := by
  refine zk_met ku_Pl_addStandard (Nat.le_of_ble_eq_true rfl) (ze_Em P) ?_
  intro X C hR
  refine zk_lvs (lv' := [(0, .ref (S.1 20)), (1, .int 85)]) [0, 1] rfl ?_
  refine zk_aload_n C kd_Pl_addStandard_0 rfl 0 rfl rfl ?_
  refine zk_bipush (v := 60) C kd_Pl_addStandard_1 (by decide) rfl ?_
  refine ze_gets (j := 1) C rfl kw1012 kd_Pl_addStandard_3 rfl ?_
  refine zk_iload_n C kd_Pl_addStandard_6 rfl 1 rfl rfl ?_
  refine zk_iconst (v := 1) C kd_Pl_addStandard_7 (by decide) rfl ?_
  refine zk_iadd C kd_Pl_addStandard_8 rfl ?_
  refine zk_stk (r' := [.int 86, .ref (P.2.2 1), .int 60, .ref (S.1 20)]) (by rw [show (85 : Int32) + 1 = 86 by decide]) ?_
  refine ze_ti C rfl (zp_dec rfl) kd_Pl_addStandard_9 rfl ?_
  refine zk_stk (r' := [.int 8, .int 60, .ref (S.1 20)]) rfl ?_
  refine zk_iadd C kd_Pl_addStandard_10 rfl ?_
  refine zk_stk (r' := [.int 68, .ref (S.1 20)]) (by rw [show (60 : Int32) + 8 = 68 by decide]) ?_
  refine ze_gets (j := 1) C rfl kw1012 kd_Pl_addStandard_11 rfl ?_
  refine zk_iload_n C kd_Pl_addStandard_14 rfl 1 rfl rfl ?_
  refine zk_iconst (v := 2) C kd_Pl_addStandard_15 (by decide) rfl ?_
  refine zk_iadd C kd_Pl_addStandard_16 rfl ?_
  refine zk_stk (r' := [.int 87, .ref (P.2.2 1), .int 68, .ref (S.1 20)]) (by rw [show (85 : Int32) + 2 = 87 by decide]) ?_
  refine ze_ti C rfl (zp_dec rfl) kd_Pl_addStandard_17 rfl ?_
  refine zk_stk (r' := [.int 1, .int 68, .ref (S.1 20)]) rfl ?_
  refine zs_callV (k := 20) (rn := { frames := 1, cells := 0, slots := 0, locals := 21 }) (As := [.int 68, .int 1]) (rest := []) C (zl_add h b v1 68 1 hP hb0 hb hv (by decide)) ku_Pl_add kw1018 kv_Pl_add rfl ⟨by decide, by decide⟩ ⟨by decide, by decide⟩ rfl rfl rfl (Nat.le_of_ble_eq_true rfl) kd_Pl_addStandard_18 rfl (c1 := 0) (s1 := 0) rfl rfl (fun v w hp => ?_)
  obtain ⟨h2, rfl, rfl, hP2, ha2⟩ := hp
  refine zk_stk (r' := [.int (nI v1)]) rfl ?_
  refine zk_istore_n (lv' := [(2, _), (0, _), (1, _)]) C kd_Pl_addStandard_21 rfl (by decide) rfl rfl ?_
  refine zk_aload_n C kd_Pl_addStandard_22 rfl 1 rfl rfl ?_
  refine zs_get (v := .ref (S.1 31)) C 20 10 rfl rfl rfl rfl ki_Pl (by decide) kw265 kd_Pl_addStandard_23 rfl ?_
  refine zk_iload_n C kd_Pl_addStandard_26 rfl 0 rfl rfl ?_
  refine ze_gets (j := 1) C rfl kw1012 kd_Pl_addStandard_27 rfl ?_
  refine zk_iload_n C kd_Pl_addStandard_30 rfl 2 rfl rfl ?_
  refine zk_iconst (v := 3) C kd_Pl_addStandard_31 (by decide) rfl ?_
  refine zk_iadd C kd_Pl_addStandard_32 rfl ?_
  refine zk_stk (r' := [.int 88, .ref (P.2.2 1), .int (nI v1), .ref (S.1 31)]) (by rw [show (85 : Int32) + 3 = 88 by decide]) ?_
  refine ze_ti C rfl (zp_dec rfl) kd_Pl_addStandard_33 rfl ?_
  refine zk_stk (r' := [.int 0, .int (nI v1), .ref (S.1 31)]) rfl ?_
  refine zs_iast C 31 rfl (vp_in_nI (by omega) (by decide)) kd_Pl_addStandard_34 rfl ?_
  refine zk_aload_n C kd_Pl_addStandard_35 rfl 1 rfl rfl ?_
  refine zs_get (v := .ref (S.1 32)) C 20 11 rfl rfl rfl rfl ki_Pl (by decide) kw268 kd_Pl_addStandard_36 rfl ?_
  refine zk_iload_n C kd_Pl_addStandard_39 rfl 0 rfl rfl ?_
  refine ze_gets (j := 1) C rfl kw1012 kd_Pl_addStandard_40 rfl ?_
  refine zk_iload_n C kd_Pl_addStandard_43 rfl 2 rfl rfl ?_
  refine zk_iconst (v := 4) C kd_Pl_addStandard_44 (by decide) rfl ?_
  refine zk_iadd C kd_Pl_addStandard_45 rfl ?_
  refine zk_stk (r' := [.int 89, .ref (P.2.2 1), .int (nI v1), .ref (S.1 32)]) (by rw [show (85 : Int32) + 4 = 89 by decide]) ?_
  refine ze_ti C rfl (zp_dec rfl) kd_Pl_addStandard_46 rfl ?_
  refine zk_stk (r' := [.int 0, .int (nI v1), .ref (S.1 32)]) rfl ?_
  refine zs_iast C 32 rfl (vp_in_nI (by omega) (by decide)) kd_Pl_addStandard_47 rfl ?_
  exact zk_vret C hR kd_Pl_addStandard_48 rfl rfl ⟨_, rfl, rfl, hP2, ((ha2).uM (⟨by decide, by decide⟩)).uM (⟨by decide, by decide⟩)⟩
set_option maxHeartbeats 4000000 in
set_option maxRecDepth 100000 in
theorem zl_as90 {l : Launch} {D : va_G} {sz0 : Nat} {S : zs_T} {P : ze_T} (h : zs_H) (b v1 : Nat) (hP : zl_P h b v1) (hb0 : 0 < b) (hb : b < 600) (hv : v1 < 5999) : zk_Sp (zs_G S l D sz0) (ze_E P) km_Pl_addStandard { frames := 2, cells := 0, slots := 0, locals := 44 } [.ref (S.1 20), .int 90] (zs_W S h) (fun v w => ∃ h2 : zs_H, v = none ∧ w = zs_W S h2 ∧ zl_P h2 b (v1 + 1) ∧ zp_ag zl_A h h2) := by
  refine zk_met ku_Pl_addStandard (Nat.le_of_ble_eq_true rfl) (ze_Em P) ?_
  intro X C hR
  refine zk_lvs (lv' := [(0, .ref (S.1 20)), (1, .int 90)]) [0, 1] rfl ?_
  refine zk_aload_n C kd_Pl_addStandard_0 rfl 0 rfl rfl ?_
  refine zk_bipush (v := 60) C kd_Pl_addStandard_1 (by decide) rfl ?_
  refine ze_gets (j := 1) C rfl kw1012 kd_Pl_addStandard_3 rfl ?_
  refine zk_iload_n C kd_Pl_addStandard_6 rfl 1 rfl rfl ?_
  refine zk_iconst (v := 1) C kd_Pl_addStandard_7 (by decide) rfl ?_
  refine zk_iadd C kd_Pl_addStandard_8 rfl ?_
  refine zk_stk (r' := [.int 91, .ref (P.2.2 1), .int 60, .ref (S.1 20)]) (by rw [show (90 : Int32) + 1 = 91 by decide]) ?_
  refine ze_ti C rfl (zp_dec rfl) kd_Pl_addStandard_9 rfl ?_
  refine zk_stk (r' := [.int 9, .int 60, .ref (S.1 20)]) rfl ?_
  refine zk_iadd C kd_Pl_addStandard_10 rfl ?_
  refine zk_stk (r' := [.int 69, .ref (S.1 20)]) (by rw [show (60 : Int32) + 9 = 69 by decide]) ?_
  refine ze_gets (j := 1) C rfl kw1012 kd_Pl_addStandard_11 rfl ?_
  refine zk_iload_n C kd_Pl_addStandard_14 rfl 1 rfl rfl ?_
  refine zk_iconst (v := 2) C kd_Pl_addStandard_15 (by decide) rfl ?_
  refine zk_iadd C kd_Pl_addStandard_16 rfl ?_
  refine zk_stk (r' := [.int 92, .ref (P.2.2 1), .int 69, .ref (S.1 20)]) (by rw [show (90 : Int32) + 2 = 92 by decide]) ?_
  refine ze_ti C rfl (zp_dec rfl) kd_Pl_addStandard_17 rfl ?_
  refine zk_stk (r' := [.int 1, .int 69, .ref (S.1 20)]) rfl ?_
  refine zs_callV (k := 20) (rn := { frames := 1, cells := 0, slots := 0, locals := 21 }) (As := [.int 69, .int 1]) (rest := []) C (zl_add h b v1 69 1 hP hb0 hb hv (by decide)) ku_Pl_add kw1018 kv_Pl_add rfl ⟨by decide, by decide⟩ ⟨by decide, by decide⟩ rfl rfl rfl (Nat.le_of_ble_eq_true rfl) kd_Pl_addStandard_18 rfl (c1 := 0) (s1 := 0) rfl rfl (fun v w hp => ?_)
  obtain ⟨h2, rfl, rfl, hP2, ha2⟩ := hp
  refine zk_stk (r' := [.int (nI v1)]) rfl ?_
  refine zk_istore_n (lv' := [(2, _), (0, _), (1, _)]) C kd_Pl_addStandard_21 rfl (by decide) rfl rfl ?_
  refine zk_aload_n C kd_Pl_addStandard_22 rfl 1 rfl rfl ?_
  refine zs_get (v := .ref (S.1 31)) C 20 10 rfl rfl rfl rfl ki_Pl (by decide) kw265 kd_Pl_addStandard_23 rfl ?_
  refine zk_iload_n C kd_Pl_addStandard_26 rfl 0 rfl rfl ?_
  refine ze_gets (j := 1) C rfl kw1012 kd_Pl_addStandard_27 rfl ?_
  refine zk_iload_n C kd_Pl_addStandard_30 rfl 2 rfl rfl ?_
  refine zk_iconst (v := 3) C kd_Pl_addStandard_31 (by decide) rfl ?_
  refine zk_iadd C kd_Pl_addStandard_32 rfl ?_
  refine zk_stk (r' := [.int 93, .ref (P.2.2 1), .int (nI v1), .ref (S.1 31)]) (by rw [show (90 : Int32) + 3 = 93 by decide]) ?_
  refine ze_ti C rfl (zp_dec rfl) kd_Pl_addStandard_33 rfl ?_
  refine zk_stk (r' := [.int 0, .int (nI v1), .ref (S.1 31)]) rfl ?_
  refine zs_iast C 31 rfl (vp_in_nI (by omega) (by decide)) kd_Pl_addStandard_34 rfl ?_
  refine zk_aload_n C kd_Pl_addStandard_35 rfl 1 rfl rfl ?_
  refine zs_get (v := .ref (S.1 32)) C 20 11 rfl rfl rfl rfl ki_Pl (by decide) kw268 kd_Pl_addStandard_36 rfl ?_
  refine zk_iload_n C kd_Pl_addStandard_39 rfl 0 rfl rfl ?_
  refine ze_gets (j := 1) C rfl kw1012 kd_Pl_addStandard_40 rfl ?_
  refine zk_iload_n C kd_Pl_addStandard_43 rfl 2 rfl rfl ?_
  refine zk_iconst (v := 4) C kd_Pl_addStandard_44 (by decide) rfl ?_
  refine zk_iadd C kd_Pl_addStandard_45 rfl ?_
  refine zk_stk (r' := [.int 94, .ref (P.2.2 1), .int (nI v1), .ref (S.1 32)]) (by rw [show (90 : Int32) + 4 = 94 by decide]) ?_
  refine ze_ti C rfl (zp_dec rfl) kd_Pl_addStandard_46 rfl ?_
  refine zk_stk (r' := [.int 1, .int (nI v1), .ref (S.1 32)]) rfl ?_
  refine zs_iast C 32 rfl (vp_in_nI (by omega) (by decide)) kd_Pl_addStandard_47 rfl ?_
  exact zk_vret C hR kd_Pl_addStandard_48 rfl rfl ⟨_, rfl, rfl, hP2, ((ha2).uM (⟨by decide, by decide⟩)).uM (⟨by decide, by decide⟩)⟩
set_option maxHeartbeats 4000000 in
set_option maxRecDepth 100000 in
theorem zl_as95 {l : Launch} {D : va_G} {sz0 : Nat} {S : zs_T} {P : ze_T} (h : zs_H) (b v1 : Nat) (hP : zl_P h b v1) (hb0 : 0 < b) (hb : b < 600) (hv : v1 < 5999) : zk_Sp (zs_G S l D sz0) (ze_E P) km_Pl_addStandard { frames := 2, cells := 0, slots := 0, locals := 44 } [.ref (S.1 20), .int 95] (zs_W S h) (fun v w => ∃ h2 : zs_H, v = none ∧ w = zs_W S h2 ∧ zl_P h2 b (v1 + 1) ∧ zp_ag zl_A h h2) := by
  refine zk_met ku_Pl_addStandard (Nat.le_of_ble_eq_true rfl) (ze_Em P) ?_
  intro X C hR
  refine zk_lvs (lv' := [(0, .ref (S.1 20)), (1, .int 95)]) [0, 1] rfl ?_
  refine zk_aload_n C kd_Pl_addStandard_0 rfl 0 rfl rfl ?_
  refine zk_bipush (v := 60) C kd_Pl_addStandard_1 (by decide) rfl ?_
  refine ze_gets (j := 1) C rfl kw1012 kd_Pl_addStandard_3 rfl ?_
  refine zk_iload_n C kd_Pl_addStandard_6 rfl 1 rfl rfl ?_
  refine zk_iconst (v := 1) C kd_Pl_addStandard_7 (by decide) rfl ?_
  refine zk_iadd C kd_Pl_addStandard_8 rfl ?_
  refine zk_stk (r' := [.int 96, .ref (P.2.2 1), .int 60, .ref (S.1 20)]) (by rw [show (95 : Int32) + 1 = 96 by decide]) ?_
  refine ze_ti C rfl (zp_dec rfl) kd_Pl_addStandard_9 rfl ?_
  refine zk_stk (r' := [.int 6, .int 60, .ref (S.1 20)]) rfl ?_
  refine zk_iadd C kd_Pl_addStandard_10 rfl ?_
  refine zk_stk (r' := [.int 66, .ref (S.1 20)]) (by rw [show (60 : Int32) + 6 = 66 by decide]) ?_
  refine ze_gets (j := 1) C rfl kw1012 kd_Pl_addStandard_11 rfl ?_
  refine zk_iload_n C kd_Pl_addStandard_14 rfl 1 rfl rfl ?_
  refine zk_iconst (v := 2) C kd_Pl_addStandard_15 (by decide) rfl ?_
  refine zk_iadd C kd_Pl_addStandard_16 rfl ?_
  refine zk_stk (r' := [.int 97, .ref (P.2.2 1), .int 66, .ref (S.1 20)]) (by rw [show (95 : Int32) + 2 = 97 by decide]) ?_
  refine ze_ti C rfl (zp_dec rfl) kd_Pl_addStandard_17 rfl ?_
  refine zk_stk (r' := [.int 1, .int 66, .ref (S.1 20)]) rfl ?_
  refine zs_callV (k := 20) (rn := { frames := 1, cells := 0, slots := 0, locals := 21 }) (As := [.int 66, .int 1]) (rest := []) C (zl_add h b v1 66 1 hP hb0 hb hv (by decide)) ku_Pl_add kw1018 kv_Pl_add rfl ⟨by decide, by decide⟩ ⟨by decide, by decide⟩ rfl rfl rfl (Nat.le_of_ble_eq_true rfl) kd_Pl_addStandard_18 rfl (c1 := 0) (s1 := 0) rfl rfl (fun v w hp => ?_)
  obtain ⟨h2, rfl, rfl, hP2, ha2⟩ := hp
  refine zk_stk (r' := [.int (nI v1)]) rfl ?_
  refine zk_istore_n (lv' := [(2, _), (0, _), (1, _)]) C kd_Pl_addStandard_21 rfl (by decide) rfl rfl ?_
  refine zk_aload_n C kd_Pl_addStandard_22 rfl 1 rfl rfl ?_
  refine zs_get (v := .ref (S.1 31)) C 20 10 rfl rfl rfl rfl ki_Pl (by decide) kw265 kd_Pl_addStandard_23 rfl ?_
  refine zk_iload_n C kd_Pl_addStandard_26 rfl 0 rfl rfl ?_
  refine ze_gets (j := 1) C rfl kw1012 kd_Pl_addStandard_27 rfl ?_
  refine zk_iload_n C kd_Pl_addStandard_30 rfl 2 rfl rfl ?_
  refine zk_iconst (v := 3) C kd_Pl_addStandard_31 (by decide) rfl ?_
  refine zk_iadd C kd_Pl_addStandard_32 rfl ?_
  refine zk_stk (r' := [.int 98, .ref (P.2.2 1), .int (nI v1), .ref (S.1 31)]) (by rw [show (95 : Int32) + 3 = 98 by decide]) ?_
  refine ze_ti C rfl (zp_dec rfl) kd_Pl_addStandard_33 rfl ?_
  refine zk_stk (r' := [.int 1, .int (nI v1), .ref (S.1 31)]) rfl ?_
  refine zs_iast C 31 rfl (vp_in_nI (by omega) (by decide)) kd_Pl_addStandard_34 rfl ?_
  refine zk_aload_n C kd_Pl_addStandard_35 rfl 1 rfl rfl ?_
  refine zs_get (v := .ref (S.1 32)) C 20 11 rfl rfl rfl rfl ki_Pl (by decide) kw268 kd_Pl_addStandard_36 rfl ?_
  refine zk_iload_n C kd_Pl_addStandard_39 rfl 0 rfl rfl ?_
  refine ze_gets (j := 1) C rfl kw1012 kd_Pl_addStandard_40 rfl ?_
  refine zk_iload_n C kd_Pl_addStandard_43 rfl 2 rfl rfl ?_
  refine zk_iconst (v := 4) C kd_Pl_addStandard_44 (by decide) rfl ?_
  refine zk_iadd C kd_Pl_addStandard_45 rfl ?_
  refine zk_stk (r' := [.int 99, .ref (P.2.2 1), .int (nI v1), .ref (S.1 32)]) (by rw [show (95 : Int32) + 4 = 99 by decide]) ?_
  refine ze_ti C rfl (zp_dec rfl) kd_Pl_addStandard_46 rfl ?_
  refine zk_stk (r' := [.int 2, .int (nI v1), .ref (S.1 32)]) rfl ?_
  refine zs_iast C 32 rfl (vp_in_nI (by omega) (by decide)) kd_Pl_addStandard_47 rfl ?_
  exact zk_vret C hR kd_Pl_addStandard_48 rfl rfl ⟨_, rfl, rfl, hP2, ((ha2).uM (⟨by decide, by decide⟩)).uM (⟨by decide, by decide⟩)⟩
set_option maxHeartbeats 4000000 in
set_option maxRecDepth 100000 in
theorem zl_as100 {l : Launch} {D : va_G} {sz0 : Nat} {S : zs_T} {P : ze_T} (h : zs_H) (b v1 : Nat) (hP : zl_P h b v1) (hb0 : 0 < b) (hb : b < 600) (hv : v1 < 5999) : zk_Sp (zs_G S l D sz0) (ze_E P) km_Pl_addStandard { frames := 2, cells := 0, slots := 0, locals := 44 } [.ref (S.1 20), .int 100] (zs_W S h) (fun v w => ∃ h2 : zs_H, v = none ∧ w = zs_W S h2 ∧ zl_P h2 b (v1 + 1) ∧ zp_ag zl_A h h2) := by
  refine zk_met ku_Pl_addStandard (Nat.le_of_ble_eq_true rfl) (ze_Em P) ?_
  intro X C hR
  refine zk_lvs (lv' := [(0, .ref (S.1 20)), (1, .int 100)]) [0, 1] rfl ?_
  refine zk_aload_n C kd_Pl_addStandard_0 rfl 0 rfl rfl ?_
  refine zk_bipush (v := 60) C kd_Pl_addStandard_1 (by decide) rfl ?_
  refine ze_gets (j := 1) C rfl kw1012 kd_Pl_addStandard_3 rfl ?_
  refine zk_iload_n C kd_Pl_addStandard_6 rfl 1 rfl rfl ?_
  refine zk_iconst (v := 1) C kd_Pl_addStandard_7 (by decide) rfl ?_
  refine zk_iadd C kd_Pl_addStandard_8 rfl ?_
  refine zk_stk (r' := [.int 101, .ref (P.2.2 1), .int 60, .ref (S.1 20)]) (by rw [show (100 : Int32) + 1 = 101 by decide]) ?_
  refine ze_ti C rfl (zp_dec rfl) kd_Pl_addStandard_9 rfl ?_
  refine zk_stk (r' := [.int 2, .int 60, .ref (S.1 20)]) rfl ?_
  refine zk_iadd C kd_Pl_addStandard_10 rfl ?_
  refine zk_stk (r' := [.int 62, .ref (S.1 20)]) (by rw [show (60 : Int32) + 2 = 62 by decide]) ?_
  refine ze_gets (j := 1) C rfl kw1012 kd_Pl_addStandard_11 rfl ?_
  refine zk_iload_n C kd_Pl_addStandard_14 rfl 1 rfl rfl ?_
  refine zk_iconst (v := 2) C kd_Pl_addStandard_15 (by decide) rfl ?_
  refine zk_iadd C kd_Pl_addStandard_16 rfl ?_
  refine zk_stk (r' := [.int 102, .ref (P.2.2 1), .int 62, .ref (S.1 20)]) (by rw [show (100 : Int32) + 2 = 102 by decide]) ?_
  refine ze_ti C rfl (zp_dec rfl) kd_Pl_addStandard_17 rfl ?_
  refine zk_stk (r' := [.int 2, .int 62, .ref (S.1 20)]) rfl ?_
  refine zs_callV (k := 20) (rn := { frames := 1, cells := 0, slots := 0, locals := 21 }) (As := [.int 62, .int 2]) (rest := []) C (zl_add h b v1 62 2 hP hb0 hb hv (by decide)) ku_Pl_add kw1018 kv_Pl_add rfl ⟨by decide, by decide⟩ ⟨by decide, by decide⟩ rfl rfl rfl (Nat.le_of_ble_eq_true rfl) kd_Pl_addStandard_18 rfl (c1 := 0) (s1 := 0) rfl rfl (fun v w hp => ?_)
  obtain ⟨h2, rfl, rfl, hP2, ha2⟩ := hp
  refine zk_stk (r' := [.int (nI v1)]) rfl ?_
  refine zk_istore_n (lv' := [(2, _), (0, _), (1, _)]) C kd_Pl_addStandard_21 rfl (by decide) rfl rfl ?_
  refine zk_aload_n C kd_Pl_addStandard_22 rfl 1 rfl rfl ?_
  refine zs_get (v := .ref (S.1 31)) C 20 10 rfl rfl rfl rfl ki_Pl (by decide) kw265 kd_Pl_addStandard_23 rfl ?_
  refine zk_iload_n C kd_Pl_addStandard_26 rfl 0 rfl rfl ?_
  refine ze_gets (j := 1) C rfl kw1012 kd_Pl_addStandard_27 rfl ?_
  refine zk_iload_n C kd_Pl_addStandard_30 rfl 2 rfl rfl ?_
  refine zk_iconst (v := 3) C kd_Pl_addStandard_31 (by decide) rfl ?_
  refine zk_iadd C kd_Pl_addStandard_32 rfl ?_
  refine zk_stk (r' := [.int 103, .ref (P.2.2 1), .int (nI v1), .ref (S.1 31)]) (by rw [show (100 : Int32) + 3 = 103 by decide]) ?_
  refine ze_ti C rfl (zp_dec rfl) kd_Pl_addStandard_33 rfl ?_
  refine zk_stk (r' := [.int 0, .int (nI v1), .ref (S.1 31)]) rfl ?_
  refine zs_iast C 31 rfl (vp_in_nI (by omega) (by decide)) kd_Pl_addStandard_34 rfl ?_
  refine zk_aload_n C kd_Pl_addStandard_35 rfl 1 rfl rfl ?_
  refine zs_get (v := .ref (S.1 32)) C 20 11 rfl rfl rfl rfl ki_Pl (by decide) kw268 kd_Pl_addStandard_36 rfl ?_
  refine zk_iload_n C kd_Pl_addStandard_39 rfl 0 rfl rfl ?_
  refine ze_gets (j := 1) C rfl kw1012 kd_Pl_addStandard_40 rfl ?_
  refine zk_iload_n C kd_Pl_addStandard_43 rfl 2 rfl rfl ?_
  refine zk_iconst (v := 4) C kd_Pl_addStandard_44 (by decide) rfl ?_
  refine zk_iadd C kd_Pl_addStandard_45 rfl ?_
  refine zk_stk (r' := [.int 104, .ref (P.2.2 1), .int (nI v1), .ref (S.1 32)]) (by rw [show (100 : Int32) + 4 = 104 by decide]) ?_
  refine ze_ti C rfl (zp_dec rfl) kd_Pl_addStandard_46 rfl ?_
  refine zk_stk (r' := [.int 3, .int (nI v1), .ref (S.1 32)]) rfl ?_
  refine zs_iast C 32 rfl (vp_in_nI (by omega) (by decide)) kd_Pl_addStandard_47 rfl ?_
  exact zk_vret C hR kd_Pl_addStandard_48 rfl rfl ⟨_, rfl, rfl, hP2, ((ha2).uM (⟨by decide, by decide⟩)).uM (⟨by decide, by decide⟩)⟩
set_option maxHeartbeats 4000000 in
set_option maxRecDepth 100000 in
theorem zl_as105 {l : Launch} {D : va_G} {sz0 : Nat} {S : zs_T} {P : ze_T} (h : zs_H) (b v1 : Nat) (hP : zl_P h b v1) (hb0 : 0 < b) (hb : b < 600) (hv : v1 < 5999) : zk_Sp (zs_G S l D sz0) (ze_E P) km_Pl_addStandard { frames := 2, cells := 0, slots := 0, locals := 44 } [.ref (S.1 20), .int 105] (zs_W S h) (fun v w => ∃ h2 : zs_H, v = none ∧ w = zs_W S h2 ∧ zl_P h2 b (v1 + 1) ∧ zp_ag zl_A h h2) := by
  refine zk_met ku_Pl_addStandard (Nat.le_of_ble_eq_true rfl) (ze_Em P) ?_
  intro X C hR
  refine zk_lvs (lv' := [(0, .ref (S.1 20)), (1, .int 105)]) [0, 1] rfl ?_
  refine zk_aload_n C kd_Pl_addStandard_0 rfl 0 rfl rfl ?_
  refine zk_bipush (v := 60) C kd_Pl_addStandard_1 (by decide) rfl ?_
  refine ze_gets (j := 1) C rfl kw1012 kd_Pl_addStandard_3 rfl ?_
  refine zk_iload_n C kd_Pl_addStandard_6 rfl 1 rfl rfl ?_
  refine zk_iconst (v := 1) C kd_Pl_addStandard_7 (by decide) rfl ?_
  refine zk_iadd C kd_Pl_addStandard_8 rfl ?_
  refine zk_stk (r' := [.int 106, .ref (P.2.2 1), .int 60, .ref (S.1 20)]) (by rw [show (105 : Int32) + 1 = 106 by decide]) ?_
  refine ze_ti C rfl (zp_dec rfl) kd_Pl_addStandard_9 rfl ?_
  refine zk_stk (r' := [.int 7, .int 60, .ref (S.1 20)]) rfl ?_
  refine zk_iadd C kd_Pl_addStandard_10 rfl ?_
  refine zk_stk (r' := [.int 67, .ref (S.1 20)]) (by rw [show (60 : Int32) + 7 = 67 by decide]) ?_
  refine ze_gets (j := 1) C rfl kw1012 kd_Pl_addStandard_11 rfl ?_
  refine zk_iload_n C kd_Pl_addStandard_14 rfl 1 rfl rfl ?_
  refine zk_iconst (v := 2) C kd_Pl_addStandard_15 (by decide) rfl ?_
  refine zk_iadd C kd_Pl_addStandard_16 rfl ?_
  refine zk_stk (r' := [.int 107, .ref (P.2.2 1), .int 67, .ref (S.1 20)]) (by rw [show (105 : Int32) + 2 = 107 by decide]) ?_
  refine ze_ti C rfl (zp_dec rfl) kd_Pl_addStandard_17 rfl ?_
  refine zk_stk (r' := [.int 2, .int 67, .ref (S.1 20)]) rfl ?_
  refine zs_callV (k := 20) (rn := { frames := 1, cells := 0, slots := 0, locals := 21 }) (As := [.int 67, .int 2]) (rest := []) C (zl_add h b v1 67 2 hP hb0 hb hv (by decide)) ku_Pl_add kw1018 kv_Pl_add rfl ⟨by decide, by decide⟩ ⟨by decide, by decide⟩ rfl rfl rfl (Nat.le_of_ble_eq_true rfl) kd_Pl_addStandard_18 rfl (c1 := 0) (s1 := 0) rfl rfl (fun v w hp => ?_)
  obtain ⟨h2, rfl, rfl, hP2, ha2⟩ := hp
  refine zk_stk (r' := [.int (nI v1)]) rfl ?_
  refine zk_istore_n (lv' := [(2, _), (0, _), (1, _)]) C kd_Pl_addStandard_21 rfl (by decide) rfl rfl ?_
  refine zk_aload_n C kd_Pl_addStandard_22 rfl 1 rfl rfl ?_
  refine zs_get (v := .ref (S.1 31)) C 20 10 rfl rfl rfl rfl ki_Pl (by decide) kw265 kd_Pl_addStandard_23 rfl ?_
  refine zk_iload_n C kd_Pl_addStandard_26 rfl 0 rfl rfl ?_
  refine ze_gets (j := 1) C rfl kw1012 kd_Pl_addStandard_27 rfl ?_
  refine zk_iload_n C kd_Pl_addStandard_30 rfl 2 rfl rfl ?_
  refine zk_iconst (v := 3) C kd_Pl_addStandard_31 (by decide) rfl ?_
  refine zk_iadd C kd_Pl_addStandard_32 rfl ?_
  refine zk_stk (r' := [.int 108, .ref (P.2.2 1), .int (nI v1), .ref (S.1 31)]) (by rw [show (105 : Int32) + 3 = 108 by decide]) ?_
  refine ze_ti C rfl (zp_dec rfl) kd_Pl_addStandard_33 rfl ?_
  refine zk_stk (r' := [.int 1, .int (nI v1), .ref (S.1 31)]) rfl ?_
  refine zs_iast C 31 rfl (vp_in_nI (by omega) (by decide)) kd_Pl_addStandard_34 rfl ?_
  refine zk_aload_n C kd_Pl_addStandard_35 rfl 1 rfl rfl ?_
  refine zs_get (v := .ref (S.1 32)) C 20 11 rfl rfl rfl rfl ki_Pl (by decide) kw268 kd_Pl_addStandard_36 rfl ?_
  refine zk_iload_n C kd_Pl_addStandard_39 rfl 0 rfl rfl ?_
  refine ze_gets (j := 1) C rfl kw1012 kd_Pl_addStandard_40 rfl ?_
  refine zk_iload_n C kd_Pl_addStandard_43 rfl 2 rfl rfl ?_
  refine zk_iconst (v := 4) C kd_Pl_addStandard_44 (by decide) rfl ?_
  refine zk_iadd C kd_Pl_addStandard_45 rfl ?_
  refine zk_stk (r' := [.int 109, .ref (P.2.2 1), .int (nI v1), .ref (S.1 32)]) (by rw [show (105 : Int32) + 4 = 109 by decide]) ?_
  refine ze_ti C rfl (zp_dec rfl) kd_Pl_addStandard_46 rfl ?_
  refine zk_stk (r' := [.int 4, .int (nI v1), .ref (S.1 32)]) rfl ?_
  refine zs_iast C 32 rfl (vp_in_nI (by omega) (by decide)) kd_Pl_addStandard_47 rfl ?_
  exact zk_vret C hR kd_Pl_addStandard_48 rfl rfl ⟨_, rfl, rfl, hP2, ((ha2).uM (⟨by decide, by decide⟩)).uM (⟨by decide, by decide⟩)⟩
set_option maxHeartbeats 4000000 in
set_option maxRecDepth 100000 in
theorem zl_as110 {l : Launch} {D : va_G} {sz0 : Nat} {S : zs_T} {P : ze_T} (h : zs_H) (b v1 : Nat) (hP : zl_P h b v1) (hb0 : 0 < b) (hb : b < 600) (hv : v1 < 5999) : zk_Sp (zs_G S l D sz0) (ze_E P) km_Pl_addStandard { frames := 2, cells := 0, slots := 0, locals := 44 } [.ref (S.1 20), .int 110] (zs_W S h) (fun v w => ∃ h2 : zs_H, v = none ∧ w = zs_W S h2 ∧ zl_P h2 b (v1 + 1) ∧ zp_ag zl_A h h2) := by
  refine zk_met ku_Pl_addStandard (Nat.le_of_ble_eq_true rfl) (ze_Em P) ?_
  intro X C hR
  refine zk_lvs (lv' := [(0, .ref (S.1 20)), (1, .int 110)]) [0, 1] rfl ?_
  refine zk_aload_n C kd_Pl_addStandard_0 rfl 0 rfl rfl ?_
  refine zk_bipush (v := 60) C kd_Pl_addStandard_1 (by decide) rfl ?_
  refine ze_gets (j := 1) C rfl kw1012 kd_Pl_addStandard_3 rfl ?_
  refine zk_iload_n C kd_Pl_addStandard_6 rfl 1 rfl rfl ?_
  refine zk_iconst (v := 1) C kd_Pl_addStandard_7 (by decide) rfl ?_
  refine zk_iadd C kd_Pl_addStandard_8 rfl ?_
  refine zk_stk (r' := [.int 111, .ref (P.2.2 1), .int 60, .ref (S.1 20)]) (by rw [show (110 : Int32) + 1 = 111 by decide]) ?_
  refine ze_ti C rfl (zp_dec rfl) kd_Pl_addStandard_9 rfl ?_
  refine zk_stk (r' := [.int 10, .int 60, .ref (S.1 20)]) rfl ?_
  refine zk_iadd C kd_Pl_addStandard_10 rfl ?_
  refine zk_stk (r' := [.int 70, .ref (S.1 20)]) (by rw [show (60 : Int32) + 10 = 70 by decide]) ?_
  refine ze_gets (j := 1) C rfl kw1012 kd_Pl_addStandard_11 rfl ?_
  refine zk_iload_n C kd_Pl_addStandard_14 rfl 1 rfl rfl ?_
  refine zk_iconst (v := 2) C kd_Pl_addStandard_15 (by decide) rfl ?_
  refine zk_iadd C kd_Pl_addStandard_16 rfl ?_
  refine zk_stk (r' := [.int 112, .ref (P.2.2 1), .int 70, .ref (S.1 20)]) (by rw [show (110 : Int32) + 2 = 112 by decide]) ?_
  refine ze_ti C rfl (zp_dec rfl) kd_Pl_addStandard_17 rfl ?_
  refine zk_stk (r' := [.int 1, .int 70, .ref (S.1 20)]) rfl ?_
  refine zs_callV (k := 20) (rn := { frames := 1, cells := 0, slots := 0, locals := 21 }) (As := [.int 70, .int 1]) (rest := []) C (zl_add h b v1 70 1 hP hb0 hb hv (by decide)) ku_Pl_add kw1018 kv_Pl_add rfl ⟨by decide, by decide⟩ ⟨by decide, by decide⟩ rfl rfl rfl (Nat.le_of_ble_eq_true rfl) kd_Pl_addStandard_18 rfl (c1 := 0) (s1 := 0) rfl rfl (fun v w hp => ?_)
  obtain ⟨h2, rfl, rfl, hP2, ha2⟩ := hp
  refine zk_stk (r' := [.int (nI v1)]) rfl ?_
  refine zk_istore_n (lv' := [(2, _), (0, _), (1, _)]) C kd_Pl_addStandard_21 rfl (by decide) rfl rfl ?_
  refine zk_aload_n C kd_Pl_addStandard_22 rfl 1 rfl rfl ?_
  refine zs_get (v := .ref (S.1 31)) C 20 10 rfl rfl rfl rfl ki_Pl (by decide) kw265 kd_Pl_addStandard_23 rfl ?_
  refine zk_iload_n C kd_Pl_addStandard_26 rfl 0 rfl rfl ?_
  refine ze_gets (j := 1) C rfl kw1012 kd_Pl_addStandard_27 rfl ?_
  refine zk_iload_n C kd_Pl_addStandard_30 rfl 2 rfl rfl ?_
  refine zk_iconst (v := 3) C kd_Pl_addStandard_31 (by decide) rfl ?_
  refine zk_iadd C kd_Pl_addStandard_32 rfl ?_
  refine zk_stk (r' := [.int 113, .ref (P.2.2 1), .int (nI v1), .ref (S.1 31)]) (by rw [show (110 : Int32) + 3 = 113 by decide]) ?_
  refine ze_ti C rfl (zp_dec rfl) kd_Pl_addStandard_33 rfl ?_
  refine zk_stk (r' := [.int 0, .int (nI v1), .ref (S.1 31)]) rfl ?_
  refine zs_iast C 31 rfl (vp_in_nI (by omega) (by decide)) kd_Pl_addStandard_34 rfl ?_
  refine zk_aload_n C kd_Pl_addStandard_35 rfl 1 rfl rfl ?_
  refine zs_get (v := .ref (S.1 32)) C 20 11 rfl rfl rfl rfl ki_Pl (by decide) kw268 kd_Pl_addStandard_36 rfl ?_
  refine zk_iload_n C kd_Pl_addStandard_39 rfl 0 rfl rfl ?_
  refine ze_gets (j := 1) C rfl kw1012 kd_Pl_addStandard_40 rfl ?_
  refine zk_iload_n C kd_Pl_addStandard_43 rfl 2 rfl rfl ?_
  refine zk_iconst (v := 4) C kd_Pl_addStandard_44 (by decide) rfl ?_
  refine zk_iadd C kd_Pl_addStandard_45 rfl ?_
  refine zk_stk (r' := [.int 114, .ref (P.2.2 1), .int (nI v1), .ref (S.1 32)]) (by rw [show (110 : Int32) + 4 = 114 by decide]) ?_
  refine ze_ti C rfl (zp_dec rfl) kd_Pl_addStandard_46 rfl ?_
  refine zk_stk (r' := [.int 0, .int (nI v1), .ref (S.1 32)]) rfl ?_
  refine zs_iast C 32 rfl (vp_in_nI (by omega) (by decide)) kd_Pl_addStandard_47 rfl ?_
  exact zk_vret C hR kd_Pl_addStandard_48 rfl rfl ⟨_, rfl, rfl, hP2, ((ha2).uM (⟨by decide, by decide⟩)).uM (⟨by decide, by decide⟩)⟩
set_option maxHeartbeats 4000000 in
set_option maxRecDepth 100000 in
theorem zl_as115 {l : Launch} {D : va_G} {sz0 : Nat} {S : zs_T} {P : ze_T} (h : zs_H) (b v1 : Nat) (hP : zl_P h b v1) (hb0 : 0 < b) (hb : b < 600) (hv : v1 < 5999) : zk_Sp (zs_G S l D sz0) (ze_E P) km_Pl_addStandard { frames := 2, cells := 0, slots := 0, locals := 44 } [.ref (S.1 20), .int 115] (zs_W S h) (fun v w => ∃ h2 : zs_H, v = none ∧ w = zs_W S h2 ∧ zl_P h2 b (v1 + 1) ∧ zp_ag zl_A h h2) := by
  refine zk_met ku_Pl_addStandard (Nat.le_of_ble_eq_true rfl) (ze_Em P) ?_
  intro X C hR
  refine zk_lvs (lv' := [(0, .ref (S.1 20)), (1, .int 115)]) [0, 1] rfl ?_
  refine zk_aload_n C kd_Pl_addStandard_0 rfl 0 rfl rfl ?_
  refine zk_bipush (v := 60) C kd_Pl_addStandard_1 (by decide) rfl ?_
  refine ze_gets (j := 1) C rfl kw1012 kd_Pl_addStandard_3 rfl ?_
  refine zk_iload_n C kd_Pl_addStandard_6 rfl 1 rfl rfl ?_
  refine zk_iconst (v := 1) C kd_Pl_addStandard_7 (by decide) rfl ?_
  refine zk_iadd C kd_Pl_addStandard_8 rfl ?_
  refine zk_stk (r' := [.int 116, .ref (P.2.2 1), .int 60, .ref (S.1 20)]) (by rw [show (115 : Int32) + 1 = 116 by decide]) ?_
  refine ze_ti C rfl (zp_dec rfl) kd_Pl_addStandard_9 rfl ?_
  refine zk_stk (r' := [.int 2, .int 60, .ref (S.1 20)]) rfl ?_
  refine zk_iadd C kd_Pl_addStandard_10 rfl ?_
  refine zk_stk (r' := [.int 62, .ref (S.1 20)]) (by rw [show (60 : Int32) + 2 = 62 by decide]) ?_
  refine ze_gets (j := 1) C rfl kw1012 kd_Pl_addStandard_11 rfl ?_
  refine zk_iload_n C kd_Pl_addStandard_14 rfl 1 rfl rfl ?_
  refine zk_iconst (v := 2) C kd_Pl_addStandard_15 (by decide) rfl ?_
  refine zk_iadd C kd_Pl_addStandard_16 rfl ?_
  refine zk_stk (r' := [.int 117, .ref (P.2.2 1), .int 62, .ref (S.1 20)]) (by rw [show (115 : Int32) + 2 = 117 by decide]) ?_
  refine ze_ti C rfl (zp_dec rfl) kd_Pl_addStandard_17 rfl ?_
  refine zk_stk (r' := [.int 2, .int 62, .ref (S.1 20)]) rfl ?_
  refine zs_callV (k := 20) (rn := { frames := 1, cells := 0, slots := 0, locals := 21 }) (As := [.int 62, .int 2]) (rest := []) C (zl_add h b v1 62 2 hP hb0 hb hv (by decide)) ku_Pl_add kw1018 kv_Pl_add rfl ⟨by decide, by decide⟩ ⟨by decide, by decide⟩ rfl rfl rfl (Nat.le_of_ble_eq_true rfl) kd_Pl_addStandard_18 rfl (c1 := 0) (s1 := 0) rfl rfl (fun v w hp => ?_)
  obtain ⟨h2, rfl, rfl, hP2, ha2⟩ := hp
  refine zk_stk (r' := [.int (nI v1)]) rfl ?_
  refine zk_istore_n (lv' := [(2, _), (0, _), (1, _)]) C kd_Pl_addStandard_21 rfl (by decide) rfl rfl ?_
  refine zk_aload_n C kd_Pl_addStandard_22 rfl 1 rfl rfl ?_
  refine zs_get (v := .ref (S.1 31)) C 20 10 rfl rfl rfl rfl ki_Pl (by decide) kw265 kd_Pl_addStandard_23 rfl ?_
  refine zk_iload_n C kd_Pl_addStandard_26 rfl 0 rfl rfl ?_
  refine ze_gets (j := 1) C rfl kw1012 kd_Pl_addStandard_27 rfl ?_
  refine zk_iload_n C kd_Pl_addStandard_30 rfl 2 rfl rfl ?_
  refine zk_iconst (v := 3) C kd_Pl_addStandard_31 (by decide) rfl ?_
  refine zk_iadd C kd_Pl_addStandard_32 rfl ?_
  refine zk_stk (r' := [.int 118, .ref (P.2.2 1), .int (nI v1), .ref (S.1 31)]) (by rw [show (115 : Int32) + 3 = 118 by decide]) ?_
  refine ze_ti C rfl (zp_dec rfl) kd_Pl_addStandard_33 rfl ?_
  refine zk_stk (r' := [.int 0, .int (nI v1), .ref (S.1 31)]) rfl ?_
  refine zs_iast C 31 rfl (vp_in_nI (by omega) (by decide)) kd_Pl_addStandard_34 rfl ?_
  refine zk_aload_n C kd_Pl_addStandard_35 rfl 1 rfl rfl ?_
  refine zs_get (v := .ref (S.1 32)) C 20 11 rfl rfl rfl rfl ki_Pl (by decide) kw268 kd_Pl_addStandard_36 rfl ?_
  refine zk_iload_n C kd_Pl_addStandard_39 rfl 0 rfl rfl ?_
  refine ze_gets (j := 1) C rfl kw1012 kd_Pl_addStandard_40 rfl ?_
  refine zk_iload_n C kd_Pl_addStandard_43 rfl 2 rfl rfl ?_
  refine zk_iconst (v := 4) C kd_Pl_addStandard_44 (by decide) rfl ?_
  refine zk_iadd C kd_Pl_addStandard_45 rfl ?_
  refine zk_stk (r' := [.int 119, .ref (P.2.2 1), .int (nI v1), .ref (S.1 32)]) (by rw [show (115 : Int32) + 4 = 119 by decide]) ?_
  refine ze_ti C rfl (zp_dec rfl) kd_Pl_addStandard_46 rfl ?_
  refine zk_stk (r' := [.int 1, .int (nI v1), .ref (S.1 32)]) rfl ?_
  refine zs_iast C 32 rfl (vp_in_nI (by omega) (by decide)) kd_Pl_addStandard_47 rfl ?_
  exact zk_vret C hR kd_Pl_addStandard_48 rfl rfl ⟨_, rfl, rfl, hP2, ((ha2).uM (⟨by decide, by decide⟩)).uM (⟨by decide, by decide⟩)⟩
set_option maxHeartbeats 4000000 in
set_option maxRecDepth 100000 in
theorem zl_as120 {l : Launch} {D : va_G} {sz0 : Nat} {S : zs_T} {P : ze_T} (h : zs_H) (b v1 : Nat) (hP : zl_P h b v1) (hb0 : 0 < b) (hb : b < 600) (hv : v1 < 5999) : zk_Sp (zs_G S l D sz0) (ze_E P) km_Pl_addStandard { frames := 2, cells := 0, slots := 0, locals := 44 } [.ref (S.1 20), .int 120] (zs_W S h) (fun v w => ∃ h2 : zs_H, v = none ∧ w = zs_W S h2 ∧ zl_P h2 b (v1 + 1) ∧ zp_ag zl_A h h2) := by
  refine zk_met ku_Pl_addStandard (Nat.le_of_ble_eq_true rfl) (ze_Em P) ?_
  intro X C hR
  refine zk_lvs (lv' := [(0, .ref (S.1 20)), (1, .int 120)]) [0, 1] rfl ?_
  refine zk_aload_n C kd_Pl_addStandard_0 rfl 0 rfl rfl ?_
  refine zk_bipush (v := 60) C kd_Pl_addStandard_1 (by decide) rfl ?_
  refine ze_gets (j := 1) C rfl kw1012 kd_Pl_addStandard_3 rfl ?_
  refine zk_iload_n C kd_Pl_addStandard_6 rfl 1 rfl rfl ?_
  refine zk_iconst (v := 1) C kd_Pl_addStandard_7 (by decide) rfl ?_
  refine zk_iadd C kd_Pl_addStandard_8 rfl ?_
  refine zk_stk (r' := [.int 121, .ref (P.2.2 1), .int 60, .ref (S.1 20)]) (by rw [show (120 : Int32) + 1 = 121 by decide]) ?_
  refine ze_ti C rfl (zp_dec rfl) kd_Pl_addStandard_9 rfl ?_
  refine zk_stk (r' := [.int 10, .int 60, .ref (S.1 20)]) rfl ?_
  refine zk_iadd C kd_Pl_addStandard_10 rfl ?_
  refine zk_stk (r' := [.int 70, .ref (S.1 20)]) (by rw [show (60 : Int32) + 10 = 70 by decide]) ?_
  refine ze_gets (j := 1) C rfl kw1012 kd_Pl_addStandard_11 rfl ?_
  refine zk_iload_n C kd_Pl_addStandard_14 rfl 1 rfl rfl ?_
  refine zk_iconst (v := 2) C kd_Pl_addStandard_15 (by decide) rfl ?_
  refine zk_iadd C kd_Pl_addStandard_16 rfl ?_
  refine zk_stk (r' := [.int 122, .ref (P.2.2 1), .int 70, .ref (S.1 20)]) (by rw [show (120 : Int32) + 2 = 122 by decide]) ?_
  refine ze_ti C rfl (zp_dec rfl) kd_Pl_addStandard_17 rfl ?_
  refine zk_stk (r' := [.int 1, .int 70, .ref (S.1 20)]) rfl ?_
  refine zs_callV (k := 20) (rn := { frames := 1, cells := 0, slots := 0, locals := 21 }) (As := [.int 70, .int 1]) (rest := []) C (zl_add h b v1 70 1 hP hb0 hb hv (by decide)) ku_Pl_add kw1018 kv_Pl_add rfl ⟨by decide, by decide⟩ ⟨by decide, by decide⟩ rfl rfl rfl (Nat.le_of_ble_eq_true rfl) kd_Pl_addStandard_18 rfl (c1 := 0) (s1 := 0) rfl rfl (fun v w hp => ?_)
  obtain ⟨h2, rfl, rfl, hP2, ha2⟩ := hp
  refine zk_stk (r' := [.int (nI v1)]) rfl ?_
  refine zk_istore_n (lv' := [(2, _), (0, _), (1, _)]) C kd_Pl_addStandard_21 rfl (by decide) rfl rfl ?_
  refine zk_aload_n C kd_Pl_addStandard_22 rfl 1 rfl rfl ?_
  refine zs_get (v := .ref (S.1 31)) C 20 10 rfl rfl rfl rfl ki_Pl (by decide) kw265 kd_Pl_addStandard_23 rfl ?_
  refine zk_iload_n C kd_Pl_addStandard_26 rfl 0 rfl rfl ?_
  refine ze_gets (j := 1) C rfl kw1012 kd_Pl_addStandard_27 rfl ?_
  refine zk_iload_n C kd_Pl_addStandard_30 rfl 2 rfl rfl ?_
  refine zk_iconst (v := 3) C kd_Pl_addStandard_31 (by decide) rfl ?_
  refine zk_iadd C kd_Pl_addStandard_32 rfl ?_
  refine zk_stk (r' := [.int 123, .ref (P.2.2 1), .int (nI v1), .ref (S.1 31)]) (by rw [show (120 : Int32) + 3 = 123 by decide]) ?_
  refine ze_ti C rfl (zp_dec rfl) kd_Pl_addStandard_33 rfl ?_
  refine zk_stk (r' := [.int 0, .int (nI v1), .ref (S.1 31)]) rfl ?_
  refine zs_iast C 31 rfl (vp_in_nI (by omega) (by decide)) kd_Pl_addStandard_34 rfl ?_
  refine zk_aload_n C kd_Pl_addStandard_35 rfl 1 rfl rfl ?_
  refine zs_get (v := .ref (S.1 32)) C 20 11 rfl rfl rfl rfl ki_Pl (by decide) kw268 kd_Pl_addStandard_36 rfl ?_
  refine zk_iload_n C kd_Pl_addStandard_39 rfl 0 rfl rfl ?_
  refine ze_gets (j := 1) C rfl kw1012 kd_Pl_addStandard_40 rfl ?_
  refine zk_iload_n C kd_Pl_addStandard_43 rfl 2 rfl rfl ?_
  refine zk_iconst (v := 4) C kd_Pl_addStandard_44 (by decide) rfl ?_
  refine zk_iadd C kd_Pl_addStandard_45 rfl ?_
  refine zk_stk (r' := [.int 124, .ref (P.2.2 1), .int (nI v1), .ref (S.1 32)]) (by rw [show (120 : Int32) + 4 = 124 by decide]) ?_
  refine ze_ti C rfl (zp_dec rfl) kd_Pl_addStandard_46 rfl ?_
  refine zk_stk (r' := [.int 0, .int (nI v1), .ref (S.1 32)]) rfl ?_
  refine zs_iast C 32 rfl (vp_in_nI (by omega) (by decide)) kd_Pl_addStandard_47 rfl ?_
  exact zk_vret C hR kd_Pl_addStandard_48 rfl rfl ⟨_, rfl, rfl, hP2, ((ha2).uM (⟨by decide, by decide⟩)).uM (⟨by decide, by decide⟩)⟩
set_option maxHeartbeats 4000000 in
set_option maxRecDepth 100000 in
theorem zl_as125 {l : Launch} {D : va_G} {sz0 : Nat} {S : zs_T} {P : ze_T} (h : zs_H) (b v1 : Nat) (hP : zl_P h b v1) (hb0 : 0 < b) (hb : b < 600) (hv : v1 < 5999) : zk_Sp (zs_G S l D sz0) (ze_E P) km_Pl_addStandard { frames := 2, cells := 0, slots := 0, locals := 44 } [.ref (S.1 20), .int 125] (zs_W S h) (fun v w => ∃ h2 : zs_H, v = none ∧ w = zs_W S h2 ∧ zl_P h2 b (v1 + 1) ∧ zp_ag zl_A h h2) := by
  refine zk_met ku_Pl_addStandard (Nat.le_of_ble_eq_true rfl) (ze_Em P) ?_
  intro X C hR
  refine zk_lvs (lv' := [(0, .ref (S.1 20)), (1, .int 125)]) [0, 1] rfl ?_
  refine zk_aload_n C kd_Pl_addStandard_0 rfl 0 rfl rfl ?_
  refine zk_bipush (v := 60) C kd_Pl_addStandard_1 (by decide) rfl ?_
  refine ze_gets (j := 1) C rfl kw1012 kd_Pl_addStandard_3 rfl ?_
  refine zk_iload_n C kd_Pl_addStandard_6 rfl 1 rfl rfl ?_
  refine zk_iconst (v := 1) C kd_Pl_addStandard_7 (by decide) rfl ?_
  refine zk_iadd C kd_Pl_addStandard_8 rfl ?_
  refine zk_stk (r' := [.int 126, .ref (P.2.2 1), .int 60, .ref (S.1 20)]) (by rw [show (125 : Int32) + 1 = 126 by decide]) ?_
  refine ze_ti C rfl (zp_dec rfl) kd_Pl_addStandard_9 rfl ?_
  refine zk_stk (r' := [.int 2, .int 60, .ref (S.1 20)]) rfl ?_
  refine zk_iadd C kd_Pl_addStandard_10 rfl ?_
  refine zk_stk (r' := [.int 62, .ref (S.1 20)]) (by rw [show (60 : Int32) + 2 = 62 by decide]) ?_
  refine ze_gets (j := 1) C rfl kw1012 kd_Pl_addStandard_11 rfl ?_
  refine zk_iload_n C kd_Pl_addStandard_14 rfl 1 rfl rfl ?_
  refine zk_iconst (v := 2) C kd_Pl_addStandard_15 (by decide) rfl ?_
  refine zk_iadd C kd_Pl_addStandard_16 rfl ?_
  refine zk_stk (r' := [.int 127, .ref (P.2.2 1), .int 62, .ref (S.1 20)]) (by rw [show (125 : Int32) + 2 = 127 by decide]) ?_
  refine ze_ti C rfl (zp_dec rfl) kd_Pl_addStandard_17 rfl ?_
  refine zk_stk (r' := [.int 2, .int 62, .ref (S.1 20)]) rfl ?_
  refine zs_callV (k := 20) (rn := { frames := 1, cells := 0, slots := 0, locals := 21 }) (As := [.int 62, .int 2]) (rest := []) C (zl_add h b v1 62 2 hP hb0 hb hv (by decide)) ku_Pl_add kw1018 kv_Pl_add rfl ⟨by decide, by decide⟩ ⟨by decide, by decide⟩ rfl rfl rfl (Nat.le_of_ble_eq_true rfl) kd_Pl_addStandard_18 rfl (c1 := 0) (s1 := 0) rfl rfl (fun v w hp => ?_)
  obtain ⟨h2, rfl, rfl, hP2, ha2⟩ := hp
  refine zk_stk (r' := [.int (nI v1)]) rfl ?_
  refine zk_istore_n (lv' := [(2, _), (0, _), (1, _)]) C kd_Pl_addStandard_21 rfl (by decide) rfl rfl ?_
  refine zk_aload_n C kd_Pl_addStandard_22 rfl 1 rfl rfl ?_
  refine zs_get (v := .ref (S.1 31)) C 20 10 rfl rfl rfl rfl ki_Pl (by decide) kw265 kd_Pl_addStandard_23 rfl ?_
  refine zk_iload_n C kd_Pl_addStandard_26 rfl 0 rfl rfl ?_
  refine ze_gets (j := 1) C rfl kw1012 kd_Pl_addStandard_27 rfl ?_
  refine zk_iload_n C kd_Pl_addStandard_30 rfl 2 rfl rfl ?_
  refine zk_iconst (v := 3) C kd_Pl_addStandard_31 (by decide) rfl ?_
  refine zk_iadd C kd_Pl_addStandard_32 rfl ?_
  refine zk_stk (r' := [.int 128, .ref (P.2.2 1), .int (nI v1), .ref (S.1 31)]) (by rw [show (125 : Int32) + 3 = 128 by decide]) ?_
  refine ze_ti C rfl (zp_dec rfl) kd_Pl_addStandard_33 rfl ?_
  refine zk_stk (r' := [.int 0, .int (nI v1), .ref (S.1 31)]) rfl ?_
  refine zs_iast C 31 rfl (vp_in_nI (by omega) (by decide)) kd_Pl_addStandard_34 rfl ?_
  refine zk_aload_n C kd_Pl_addStandard_35 rfl 1 rfl rfl ?_
  refine zs_get (v := .ref (S.1 32)) C 20 11 rfl rfl rfl rfl ki_Pl (by decide) kw268 kd_Pl_addStandard_36 rfl ?_
  refine zk_iload_n C kd_Pl_addStandard_39 rfl 0 rfl rfl ?_
  refine ze_gets (j := 1) C rfl kw1012 kd_Pl_addStandard_40 rfl ?_
  refine zk_iload_n C kd_Pl_addStandard_43 rfl 2 rfl rfl ?_
  refine zk_iconst (v := 4) C kd_Pl_addStandard_44 (by decide) rfl ?_
  refine zk_iadd C kd_Pl_addStandard_45 rfl ?_
  refine zk_stk (r' := [.int 129, .ref (P.2.2 1), .int (nI v1), .ref (S.1 32)]) (by rw [show (125 : Int32) + 4 = 129 by decide]) ?_
  refine ze_ti C rfl (zp_dec rfl) kd_Pl_addStandard_46 rfl ?_
  refine zk_stk (r' := [.int 1, .int (nI v1), .ref (S.1 32)]) rfl ?_
  refine zs_iast C 32 rfl (vp_in_nI (by omega) (by decide)) kd_Pl_addStandard_47 rfl ?_
  exact zk_vret C hR kd_Pl_addStandard_48 rfl rfl ⟨_, rfl, rfl, hP2, ((ha2).uM (⟨by decide, by decide⟩)).uM (⟨by decide, by decide⟩)⟩
set_option maxHeartbeats 4000000 in
set_option maxRecDepth 100000 in
theorem zl_as130 {l : Launch} {D : va_G} {sz0 : Nat} {S : zs_T} {P : ze_T} (h : zs_H) (b v1 : Nat) (hP : zl_P h b v1) (hb0 : 0 < b) (hb : b < 600) (hv : v1 < 5999) : zk_Sp (zs_G S l D sz0) (ze_E P) km_Pl_addStandard { frames := 2, cells := 0, slots := 0, locals := 44 } [.ref (S.1 20), .int 130] (zs_W S h) (fun v w => ∃ h2 : zs_H, v = none ∧ w = zs_W S h2 ∧ zl_P h2 b (v1 + 1) ∧ zp_ag zl_A h h2) := by
  refine zk_met ku_Pl_addStandard (Nat.le_of_ble_eq_true rfl) (ze_Em P) ?_
  intro X C hR
  refine zk_lvs (lv' := [(0, .ref (S.1 20)), (1, .int 130)]) [0, 1] rfl ?_
  refine zk_aload_n C kd_Pl_addStandard_0 rfl 0 rfl rfl ?_
  refine zk_bipush (v := 60) C kd_Pl_addStandard_1 (by decide) rfl ?_
  refine ze_gets (j := 1) C rfl kw1012 kd_Pl_addStandard_3 rfl ?_
  refine zk_iload_n C kd_Pl_addStandard_6 rfl 1 rfl rfl ?_
  refine zk_iconst (v := 1) C kd_Pl_addStandard_7 (by decide) rfl ?_
  refine zk_iadd C kd_Pl_addStandard_8 rfl ?_
  refine zk_stk (r' := [.int 131, .ref (P.2.2 1), .int 60, .ref (S.1 20)]) (by rw [show (130 : Int32) + 1 = 131 by decide]) ?_
  refine ze_ti C rfl (zp_dec rfl) kd_Pl_addStandard_9 rfl ?_
  refine zk_stk (r' := [.int 11, .int 60, .ref (S.1 20)]) rfl ?_
  refine zk_iadd C kd_Pl_addStandard_10 rfl ?_
  refine zk_stk (r' := [.int 71, .ref (S.1 20)]) (by rw [show (60 : Int32) + 11 = 71 by decide]) ?_
  refine ze_gets (j := 1) C rfl kw1012 kd_Pl_addStandard_11 rfl ?_
  refine zk_iload_n C kd_Pl_addStandard_14 rfl 1 rfl rfl ?_
  refine zk_iconst (v := 2) C kd_Pl_addStandard_15 (by decide) rfl ?_
  refine zk_iadd C kd_Pl_addStandard_16 rfl ?_
  refine zk_stk (r' := [.int 132, .ref (P.2.2 1), .int 71, .ref (S.1 20)]) (by rw [show (130 : Int32) + 2 = 132 by decide]) ?_
  refine ze_ti C rfl (zp_dec rfl) kd_Pl_addStandard_17 rfl ?_
  refine zk_stk (r' := [.int 1, .int 71, .ref (S.1 20)]) rfl ?_
  refine zs_callV (k := 20) (rn := { frames := 1, cells := 0, slots := 0, locals := 21 }) (As := [.int 71, .int 1]) (rest := []) C (zl_add h b v1 71 1 hP hb0 hb hv (by decide)) ku_Pl_add kw1018 kv_Pl_add rfl ⟨by decide, by decide⟩ ⟨by decide, by decide⟩ rfl rfl rfl (Nat.le_of_ble_eq_true rfl) kd_Pl_addStandard_18 rfl (c1 := 0) (s1 := 0) rfl rfl (fun v w hp => ?_)
  obtain ⟨h2, rfl, rfl, hP2, ha2⟩ := hp
  refine zk_stk (r' := [.int (nI v1)]) rfl ?_
  refine zk_istore_n (lv' := [(2, _), (0, _), (1, _)]) C kd_Pl_addStandard_21 rfl (by decide) rfl rfl ?_
  refine zk_aload_n C kd_Pl_addStandard_22 rfl 1 rfl rfl ?_
  refine zs_get (v := .ref (S.1 31)) C 20 10 rfl rfl rfl rfl ki_Pl (by decide) kw265 kd_Pl_addStandard_23 rfl ?_
  refine zk_iload_n C kd_Pl_addStandard_26 rfl 0 rfl rfl ?_
  refine ze_gets (j := 1) C rfl kw1012 kd_Pl_addStandard_27 rfl ?_
  refine zk_iload_n C kd_Pl_addStandard_30 rfl 2 rfl rfl ?_
  refine zk_iconst (v := 3) C kd_Pl_addStandard_31 (by decide) rfl ?_
  refine zk_iadd C kd_Pl_addStandard_32 rfl ?_
  refine zk_stk (r' := [.int 133, .ref (P.2.2 1), .int (nI v1), .ref (S.1 31)]) (by rw [show (130 : Int32) + 3 = 133 by decide]) ?_
  refine ze_ti C rfl (zp_dec rfl) kd_Pl_addStandard_33 rfl ?_
  refine zk_stk (r' := [.int 0, .int (nI v1), .ref (S.1 31)]) rfl ?_
  refine zs_iast C 31 rfl (vp_in_nI (by omega) (by decide)) kd_Pl_addStandard_34 rfl ?_
  refine zk_aload_n C kd_Pl_addStandard_35 rfl 1 rfl rfl ?_
  refine zs_get (v := .ref (S.1 32)) C 20 11 rfl rfl rfl rfl ki_Pl (by decide) kw268 kd_Pl_addStandard_36 rfl ?_
  refine zk_iload_n C kd_Pl_addStandard_39 rfl 0 rfl rfl ?_
  refine ze_gets (j := 1) C rfl kw1012 kd_Pl_addStandard_40 rfl ?_
  refine zk_iload_n C kd_Pl_addStandard_43 rfl 2 rfl rfl ?_
  refine zk_iconst (v := 4) C kd_Pl_addStandard_44 (by decide) rfl ?_
  refine zk_iadd C kd_Pl_addStandard_45 rfl ?_
  refine zk_stk (r' := [.int 134, .ref (P.2.2 1), .int (nI v1), .ref (S.1 32)]) (by rw [show (130 : Int32) + 4 = 134 by decide]) ?_
  refine ze_ti C rfl (zp_dec rfl) kd_Pl_addStandard_46 rfl ?_
  refine zk_stk (r' := [.int 0, .int (nI v1), .ref (S.1 32)]) rfl ?_
  refine zs_iast C 32 rfl (vp_in_nI (by omega) (by decide)) kd_Pl_addStandard_47 rfl ?_
  exact zk_vret C hR kd_Pl_addStandard_48 rfl rfl ⟨_, rfl, rfl, hP2, ((ha2).uM (⟨by decide, by decide⟩)).uM (⟨by decide, by decide⟩)⟩
set_option maxHeartbeats 4000000 in
set_option maxRecDepth 100000 in
theorem zl_as135 {l : Launch} {D : va_G} {sz0 : Nat} {S : zs_T} {P : ze_T} (h : zs_H) (b v1 : Nat) (hP : zl_P h b v1) (hb0 : 0 < b) (hb : b < 600) (hv : v1 < 5999) : zk_Sp (zs_G S l D sz0) (ze_E P) km_Pl_addStandard { frames := 2, cells := 0, slots := 0, locals := 44 } [.ref (S.1 20), .int 135] (zs_W S h) (fun v w => ∃ h2 : zs_H, v = none ∧ w = zs_W S h2 ∧ zl_P h2 b (v1 + 1) ∧ zp_ag zl_A h h2) := by
  refine zk_met ku_Pl_addStandard (Nat.le_of_ble_eq_true rfl) (ze_Em P) ?_
  intro X C hR
  refine zk_lvs (lv' := [(0, .ref (S.1 20)), (1, .int 135)]) [0, 1] rfl ?_
  refine zk_aload_n C kd_Pl_addStandard_0 rfl 0 rfl rfl ?_
  refine zk_bipush (v := 60) C kd_Pl_addStandard_1 (by decide) rfl ?_
  refine ze_gets (j := 1) C rfl kw1012 kd_Pl_addStandard_3 rfl ?_
  refine zk_iload_n C kd_Pl_addStandard_6 rfl 1 rfl rfl ?_
  refine zk_iconst (v := 1) C kd_Pl_addStandard_7 (by decide) rfl ?_
  refine zk_iadd C kd_Pl_addStandard_8 rfl ?_
  refine zk_stk (r' := [.int 136, .ref (P.2.2 1), .int 60, .ref (S.1 20)]) (by rw [show (135 : Int32) + 1 = 136 by decide]) ?_
  refine ze_ti C rfl (zp_dec rfl) kd_Pl_addStandard_9 rfl ?_
  refine zk_stk (r' := [.int 5, .int 60, .ref (S.1 20)]) rfl ?_
  refine zk_iadd C kd_Pl_addStandard_10 rfl ?_
  refine zk_stk (r' := [.int 65, .ref (S.1 20)]) (by rw [show (60 : Int32) + 5 = 65 by decide]) ?_
  refine ze_gets (j := 1) C rfl kw1012 kd_Pl_addStandard_11 rfl ?_
  refine zk_iload_n C kd_Pl_addStandard_14 rfl 1 rfl rfl ?_
  refine zk_iconst (v := 2) C kd_Pl_addStandard_15 (by decide) rfl ?_
  refine zk_iadd C kd_Pl_addStandard_16 rfl ?_
  refine zk_stk (r' := [.int 137, .ref (P.2.2 1), .int 65, .ref (S.1 20)]) (by rw [show (135 : Int32) + 2 = 137 by decide]) ?_
  refine ze_ti C rfl (zp_dec rfl) kd_Pl_addStandard_17 rfl ?_
  refine zk_stk (r' := [.int 1, .int 65, .ref (S.1 20)]) rfl ?_
  refine zs_callV (k := 20) (rn := { frames := 1, cells := 0, slots := 0, locals := 21 }) (As := [.int 65, .int 1]) (rest := []) C (zl_add h b v1 65 1 hP hb0 hb hv (by decide)) ku_Pl_add kw1018 kv_Pl_add rfl ⟨by decide, by decide⟩ ⟨by decide, by decide⟩ rfl rfl rfl (Nat.le_of_ble_eq_true rfl) kd_Pl_addStandard_18 rfl (c1 := 0) (s1 := 0) rfl rfl (fun v w hp => ?_)
  obtain ⟨h2, rfl, rfl, hP2, ha2⟩ := hp
  refine zk_stk (r' := [.int (nI v1)]) rfl ?_
  refine zk_istore_n (lv' := [(2, _), (0, _), (1, _)]) C kd_Pl_addStandard_21 rfl (by decide) rfl rfl ?_
  refine zk_aload_n C kd_Pl_addStandard_22 rfl 1 rfl rfl ?_
  refine zs_get (v := .ref (S.1 31)) C 20 10 rfl rfl rfl rfl ki_Pl (by decide) kw265 kd_Pl_addStandard_23 rfl ?_
  refine zk_iload_n C kd_Pl_addStandard_26 rfl 0 rfl rfl ?_
  refine ze_gets (j := 1) C rfl kw1012 kd_Pl_addStandard_27 rfl ?_
  refine zk_iload_n C kd_Pl_addStandard_30 rfl 2 rfl rfl ?_
  refine zk_iconst (v := 3) C kd_Pl_addStandard_31 (by decide) rfl ?_
  refine zk_iadd C kd_Pl_addStandard_32 rfl ?_
  refine zk_stk (r' := [.int 138, .ref (P.2.2 1), .int (nI v1), .ref (S.1 31)]) (by rw [show (135 : Int32) + 3 = 138 by decide]) ?_
  refine ze_ti C rfl (zp_dec rfl) kd_Pl_addStandard_33 rfl ?_
  refine zk_stk (r' := [.int 0, .int (nI v1), .ref (S.1 31)]) rfl ?_
  refine zs_iast C 31 rfl (vp_in_nI (by omega) (by decide)) kd_Pl_addStandard_34 rfl ?_
  refine zk_aload_n C kd_Pl_addStandard_35 rfl 1 rfl rfl ?_
  refine zs_get (v := .ref (S.1 32)) C 20 11 rfl rfl rfl rfl ki_Pl (by decide) kw268 kd_Pl_addStandard_36 rfl ?_
  refine zk_iload_n C kd_Pl_addStandard_39 rfl 0 rfl rfl ?_
  refine ze_gets (j := 1) C rfl kw1012 kd_Pl_addStandard_40 rfl ?_
  refine zk_iload_n C kd_Pl_addStandard_43 rfl 2 rfl rfl ?_
  refine zk_iconst (v := 4) C kd_Pl_addStandard_44 (by decide) rfl ?_
  refine zk_iadd C kd_Pl_addStandard_45 rfl ?_
  refine zk_stk (r' := [.int 139, .ref (P.2.2 1), .int (nI v1), .ref (S.1 32)]) (by rw [show (135 : Int32) + 4 = 139 by decide]) ?_
  refine ze_ti C rfl (zp_dec rfl) kd_Pl_addStandard_46 rfl ?_
  refine zk_stk (r' := [.int 1, .int (nI v1), .ref (S.1 32)]) rfl ?_
  refine zs_iast C 32 rfl (vp_in_nI (by omega) (by decide)) kd_Pl_addStandard_47 rfl ?_
  exact zk_vret C hR kd_Pl_addStandard_48 rfl rfl ⟨_, rfl, rfl, hP2, ((ha2).uM (⟨by decide, by decide⟩)).uM (⟨by decide, by decide⟩)⟩
set_option maxHeartbeats 4000000 in
set_option maxRecDepth 100000 in
theorem zl_as140 {l : Launch} {D : va_G} {sz0 : Nat} {S : zs_T} {P : ze_T} (h : zs_H) (b v1 : Nat) (hP : zl_P h b v1) (hb0 : 0 < b) (hb : b < 600) (hv : v1 < 5999) : zk_Sp (zs_G S l D sz0) (ze_E P) km_Pl_addStandard { frames := 2, cells := 0, slots := 0, locals := 44 } [.ref (S.1 20), .int 140] (zs_W S h) (fun v w => ∃ h2 : zs_H, v = none ∧ w = zs_W S h2 ∧ zl_P h2 b (v1 + 1) ∧ zp_ag zl_A h h2) := by
  refine zk_met ku_Pl_addStandard (Nat.le_of_ble_eq_true rfl) (ze_Em P) ?_
  intro X C hR
  refine zk_lvs (lv' := [(0, .ref (S.1 20)), (1, .int 140)]) [0, 1] rfl ?_
  refine zk_aload_n C kd_Pl_addStandard_0 rfl 0 rfl rfl ?_
  refine zk_bipush (v := 60) C kd_Pl_addStandard_1 (by decide) rfl ?_
  refine ze_gets (j := 1) C rfl kw1012 kd_Pl_addStandard_3 rfl ?_
  refine zk_iload_n C kd_Pl_addStandard_6 rfl 1 rfl rfl ?_
  refine zk_iconst (v := 1) C kd_Pl_addStandard_7 (by decide) rfl ?_
  refine zk_iadd C kd_Pl_addStandard_8 rfl ?_
  refine zk_stk (r' := [.int 141, .ref (P.2.2 1), .int 60, .ref (S.1 20)]) (by rw [show (140 : Int32) + 1 = 141 by decide]) ?_
  refine ze_ti C rfl (zp_dec rfl) kd_Pl_addStandard_9 rfl ?_
  refine zk_stk (r' := [.int 12, .int 60, .ref (S.1 20)]) rfl ?_
  refine zk_iadd C kd_Pl_addStandard_10 rfl ?_
  refine zk_stk (r' := [.int 72, .ref (S.1 20)]) (by rw [show (60 : Int32) + 12 = 72 by decide]) ?_
  refine ze_gets (j := 1) C rfl kw1012 kd_Pl_addStandard_11 rfl ?_
  refine zk_iload_n C kd_Pl_addStandard_14 rfl 1 rfl rfl ?_
  refine zk_iconst (v := 2) C kd_Pl_addStandard_15 (by decide) rfl ?_
  refine zk_iadd C kd_Pl_addStandard_16 rfl ?_
  refine zk_stk (r' := [.int 142, .ref (P.2.2 1), .int 72, .ref (S.1 20)]) (by rw [show (140 : Int32) + 2 = 142 by decide]) ?_
  refine ze_ti C rfl (zp_dec rfl) kd_Pl_addStandard_17 rfl ?_
  refine zk_stk (r' := [.int 2, .int 72, .ref (S.1 20)]) rfl ?_
  refine zs_callV (k := 20) (rn := { frames := 1, cells := 0, slots := 0, locals := 21 }) (As := [.int 72, .int 2]) (rest := []) C (zl_add h b v1 72 2 hP hb0 hb hv (by decide)) ku_Pl_add kw1018 kv_Pl_add rfl ⟨by decide, by decide⟩ ⟨by decide, by decide⟩ rfl rfl rfl (Nat.le_of_ble_eq_true rfl) kd_Pl_addStandard_18 rfl (c1 := 0) (s1 := 0) rfl rfl (fun v w hp => ?_)
  obtain ⟨h2, rfl, rfl, hP2, ha2⟩ := hp
  refine zk_stk (r' := [.int (nI v1)]) rfl ?_
  refine zk_istore_n (lv' := [(2, _), (0, _), (1, _)]) C kd_Pl_addStandard_21 rfl (by decide) rfl rfl ?_
  refine zk_aload_n C kd_Pl_addStandard_22 rfl 1 rfl rfl ?_
  refine zs_get (v := .ref (S.1 31)) C 20 10 rfl rfl rfl rfl ki_Pl (by decide) kw265 kd_Pl_addStandard_23 rfl ?_
  refine zk_iload_n C kd_Pl_addStandard_26 rfl 0 rfl rfl ?_
  refine ze_gets (j := 1) C rfl kw1012 kd_Pl_addStandard_27 rfl ?_
  refine zk_iload_n C kd_Pl_addStandard_30 rfl 2 rfl rfl ?_
  refine zk_iconst (v := 3) C kd_Pl_addStandard_31 (by decide) rfl ?_
  refine zk_iadd C kd_Pl_addStandard_32 rfl ?_
  refine zk_stk (r' := [.int 143, .ref (P.2.2 1), .int (nI v1), .ref (S.1 31)]) (by rw [show (140 : Int32) + 3 = 143 by decide]) ?_
  refine ze_ti C rfl (zp_dec rfl) kd_Pl_addStandard_33 rfl ?_
  refine zk_stk (r' := [.int 0, .int (nI v1), .ref (S.1 31)]) rfl ?_
  refine zs_iast C 31 rfl (vp_in_nI (by omega) (by decide)) kd_Pl_addStandard_34 rfl ?_
  refine zk_aload_n C kd_Pl_addStandard_35 rfl 1 rfl rfl ?_
  refine zs_get (v := .ref (S.1 32)) C 20 11 rfl rfl rfl rfl ki_Pl (by decide) kw268 kd_Pl_addStandard_36 rfl ?_
  refine zk_iload_n C kd_Pl_addStandard_39 rfl 0 rfl rfl ?_
  refine ze_gets (j := 1) C rfl kw1012 kd_Pl_addStandard_40 rfl ?_
  refine zk_iload_n C kd_Pl_addStandard_43 rfl 2 rfl rfl ?_
  refine zk_iconst (v := 4) C kd_Pl_addStandard_44 (by decide) rfl ?_
  refine zk_iadd C kd_Pl_addStandard_45 rfl ?_
  refine zk_stk (r' := [.int 144, .ref (P.2.2 1), .int (nI v1), .ref (S.1 32)]) (by rw [show (140 : Int32) + 4 = 144 by decide]) ?_
  refine ze_ti C rfl (zp_dec rfl) kd_Pl_addStandard_46 rfl ?_
  refine zk_stk (r' := [.int 2, .int (nI v1), .ref (S.1 32)]) rfl ?_
  refine zs_iast C 32 rfl (vp_in_nI (by omega) (by decide)) kd_Pl_addStandard_47 rfl ?_
  exact zk_vret C hR kd_Pl_addStandard_48 rfl rfl ⟨_, rfl, rfl, hP2, ((ha2).uM (⟨by decide, by decide⟩)).uM (⟨by decide, by decide⟩)⟩
set_option maxHeartbeats 4000000 in
set_option maxRecDepth 100000 in
theorem zl_as145 {l : Launch} {D : va_G} {sz0 : Nat} {S : zs_T} {P : ze_T} (h : zs_H) (b v1 : Nat) (hP : zl_P h b v1) (hb0 : 0 < b) (hb : b < 600) (hv : v1 < 5999) : zk_Sp (zs_G S l D sz0) (ze_E P) km_Pl_addStandard { frames := 2, cells := 0, slots := 0, locals := 44 } [.ref (S.1 20), .int 145] (zs_W S h) (fun v w => ∃ h2 : zs_H, v = none ∧ w = zs_W S h2 ∧ zl_P h2 b (v1 + 1) ∧ zp_ag zl_A h h2) := by
  refine zk_met ku_Pl_addStandard (Nat.le_of_ble_eq_true rfl) (ze_Em P) ?_
  intro X C hR
  refine zk_lvs (lv' := [(0, .ref (S.1 20)), (1, .int 145)]) [0, 1] rfl ?_
  refine zk_aload_n C kd_Pl_addStandard_0 rfl 0 rfl rfl ?_
  refine zk_bipush (v := 60) C kd_Pl_addStandard_1 (by decide) rfl ?_
  refine ze_gets (j := 1) C rfl kw1012 kd_Pl_addStandard_3 rfl ?_
  refine zk_iload_n C kd_Pl_addStandard_6 rfl 1 rfl rfl ?_
  refine zk_iconst (v := 1) C kd_Pl_addStandard_7 (by decide) rfl ?_
  refine zk_iadd C kd_Pl_addStandard_8 rfl ?_
  refine zk_stk (r' := [.int 146, .ref (P.2.2 1), .int 60, .ref (S.1 20)]) (by rw [show (145 : Int32) + 1 = 146 by decide]) ?_
  refine ze_ti C rfl (zp_dec rfl) kd_Pl_addStandard_9 rfl ?_
  refine zk_stk (r' := [.int 13, .int 60, .ref (S.1 20)]) rfl ?_
  refine zk_iadd C kd_Pl_addStandard_10 rfl ?_
  refine zk_stk (r' := [.int 73, .ref (S.1 20)]) (by rw [show (60 : Int32) + 13 = 73 by decide]) ?_
  refine ze_gets (j := 1) C rfl kw1012 kd_Pl_addStandard_11 rfl ?_
  refine zk_iload_n C kd_Pl_addStandard_14 rfl 1 rfl rfl ?_
  refine zk_iconst (v := 2) C kd_Pl_addStandard_15 (by decide) rfl ?_
  refine zk_iadd C kd_Pl_addStandard_16 rfl ?_
  refine zk_stk (r' := [.int 147, .ref (P.2.2 1), .int 73, .ref (S.1 20)]) (by rw [show (145 : Int32) + 2 = 147 by decide]) ?_
  refine ze_ti C rfl (zp_dec rfl) kd_Pl_addStandard_17 rfl ?_
  refine zk_stk (r' := [.int 1, .int 73, .ref (S.1 20)]) rfl ?_
  refine zs_callV (k := 20) (rn := { frames := 1, cells := 0, slots := 0, locals := 21 }) (As := [.int 73, .int 1]) (rest := []) C (zl_add h b v1 73 1 hP hb0 hb hv (by decide)) ku_Pl_add kw1018 kv_Pl_add rfl ⟨by decide, by decide⟩ ⟨by decide, by decide⟩ rfl rfl rfl (Nat.le_of_ble_eq_true rfl) kd_Pl_addStandard_18 rfl (c1 := 0) (s1 := 0) rfl rfl (fun v w hp => ?_)
  obtain ⟨h2, rfl, rfl, hP2, ha2⟩ := hp
  refine zk_stk (r' := [.int (nI v1)]) rfl ?_
  refine zk_istore_n (lv' := [(2, _), (0, _), (1, _)]) C kd_Pl_addStandard_21 rfl (by decide) rfl rfl ?_
  refine zk_aload_n C kd_Pl_addStandard_22 rfl 1 rfl rfl ?_
  refine zs_get (v := .ref (S.1 31)) C 20 10 rfl rfl rfl rfl ki_Pl (by decide) kw265 kd_Pl_addStandard_23 rfl ?_
  refine zk_iload_n C kd_Pl_addStandard_26 rfl 0 rfl rfl ?_
  refine ze_gets (j := 1) C rfl kw1012 kd_Pl_addStandard_27 rfl ?_
  refine zk_iload_n C kd_Pl_addStandard_30 rfl 2 rfl rfl ?_
  refine zk_iconst (v := 3) C kd_Pl_addStandard_31 (by decide) rfl ?_
  refine zk_iadd C kd_Pl_addStandard_32 rfl ?_
  refine zk_stk (r' := [.int 148, .ref (P.2.2 1), .int (nI v1), .ref (S.1 31)]) (by rw [show (145 : Int32) + 3 = 148 by decide]) ?_
  refine ze_ti C rfl (zp_dec rfl) kd_Pl_addStandard_33 rfl ?_
  refine zk_stk (r' := [.int 0, .int (nI v1), .ref (S.1 31)]) rfl ?_
  refine zs_iast C 31 rfl (vp_in_nI (by omega) (by decide)) kd_Pl_addStandard_34 rfl ?_
  refine zk_aload_n C kd_Pl_addStandard_35 rfl 1 rfl rfl ?_
  refine zs_get (v := .ref (S.1 32)) C 20 11 rfl rfl rfl rfl ki_Pl (by decide) kw268 kd_Pl_addStandard_36 rfl ?_
  refine zk_iload_n C kd_Pl_addStandard_39 rfl 0 rfl rfl ?_
  refine ze_gets (j := 1) C rfl kw1012 kd_Pl_addStandard_40 rfl ?_
  refine zk_iload_n C kd_Pl_addStandard_43 rfl 2 rfl rfl ?_
  refine zk_iconst (v := 4) C kd_Pl_addStandard_44 (by decide) rfl ?_
  refine zk_iadd C kd_Pl_addStandard_45 rfl ?_
  refine zk_stk (r' := [.int 149, .ref (P.2.2 1), .int (nI v1), .ref (S.1 32)]) (by rw [show (145 : Int32) + 4 = 149 by decide]) ?_
  refine ze_ti C rfl (zp_dec rfl) kd_Pl_addStandard_46 rfl ?_
  refine zk_stk (r' := [.int 0, .int (nI v1), .ref (S.1 32)]) rfl ?_
  refine zs_iast C 32 rfl (vp_in_nI (by omega) (by decide)) kd_Pl_addStandard_47 rfl ?_
  exact zk_vret C hR kd_Pl_addStandard_48 rfl rfl ⟨_, rfl, rfl, hP2, ((ha2).uM (⟨by decide, by decide⟩)).uM (⟨by decide, by decide⟩)⟩
set_option maxHeartbeats 4000000 in
set_option maxRecDepth 100000 in
theorem zl_as150 {l : Launch} {D : va_G} {sz0 : Nat} {S : zs_T} {P : ze_T} (h : zs_H) (b v1 : Nat) (hP : zl_P h b v1) (hb0 : 0 < b) (hb : b < 600) (hv : v1 < 5999) : zk_Sp (zs_G S l D sz0) (ze_E P) km_Pl_addStandard { frames := 2, cells := 0, slots := 0, locals := 44 } [.ref (S.1 20), .int 150] (zs_W S h) (fun v w => ∃ h2 : zs_H, v = none ∧ w = zs_W S h2 ∧ zl_P h2 b (v1 + 1) ∧ zp_ag zl_A h h2) := by
  refine zk_met ku_Pl_addStandard (Nat.le_of_ble_eq_true rfl) (ze_Em P) ?_
  intro X C hR
  refine zk_lvs (lv' := [(0, .ref (S.1 20)), (1, .int 150)]) [0, 1] rfl ?_
  refine zk_aload_n C kd_Pl_addStandard_0 rfl 0 rfl rfl ?_
  refine zk_bipush (v := 60) C kd_Pl_addStandard_1 (by decide) rfl ?_
  refine ze_gets (j := 1) C rfl kw1012 kd_Pl_addStandard_3 rfl ?_
  refine zk_iload_n C kd_Pl_addStandard_6 rfl 1 rfl rfl ?_
  refine zk_iconst (v := 1) C kd_Pl_addStandard_7 (by decide) rfl ?_
  refine zk_iadd C kd_Pl_addStandard_8 rfl ?_
  refine zk_stk (r' := [.int 151, .ref (P.2.2 1), .int 60, .ref (S.1 20)]) (by rw [show (150 : Int32) + 1 = 151 by decide]) ?_
  refine ze_ti C rfl (zp_dec rfl) kd_Pl_addStandard_9 rfl ?_
  refine zk_stk (r' := [.int 14, .int 60, .ref (S.1 20)]) rfl ?_
  refine zk_iadd C kd_Pl_addStandard_10 rfl ?_
  refine zk_stk (r' := [.int 74, .ref (S.1 20)]) (by rw [show (60 : Int32) + 14 = 74 by decide]) ?_
  refine ze_gets (j := 1) C rfl kw1012 kd_Pl_addStandard_11 rfl ?_
  refine zk_iload_n C kd_Pl_addStandard_14 rfl 1 rfl rfl ?_
  refine zk_iconst (v := 2) C kd_Pl_addStandard_15 (by decide) rfl ?_
  refine zk_iadd C kd_Pl_addStandard_16 rfl ?_
  refine zk_stk (r' := [.int 152, .ref (P.2.2 1), .int 74, .ref (S.1 20)]) (by rw [show (150 : Int32) + 2 = 152 by decide]) ?_
  refine ze_ti C rfl (zp_dec rfl) kd_Pl_addStandard_17 rfl ?_
  refine zk_stk (r' := [.int 1, .int 74, .ref (S.1 20)]) rfl ?_
  refine zs_callV (k := 20) (rn := { frames := 1, cells := 0, slots := 0, locals := 21 }) (As := [.int 74, .int 1]) (rest := []) C (zl_add h b v1 74 1 hP hb0 hb hv (by decide)) ku_Pl_add kw1018 kv_Pl_add rfl ⟨by decide, by decide⟩ ⟨by decide, by decide⟩ rfl rfl rfl (Nat.le_of_ble_eq_true rfl) kd_Pl_addStandard_18 rfl (c1 := 0) (s1 := 0) rfl rfl (fun v w hp => ?_)
  obtain ⟨h2, rfl, rfl, hP2, ha2⟩ := hp
  refine zk_stk (r' := [.int (nI v1)]) rfl ?_
  refine zk_istore_n (lv' := [(2, _), (0, _), (1, _)]) C kd_Pl_addStandard_21 rfl (by decide) rfl rfl ?_
  refine zk_aload_n C kd_Pl_addStandard_22 rfl 1 rfl rfl ?_
  refine zs_get (v := .ref (S.1 31)) C 20 10 rfl rfl rfl rfl ki_Pl (by decide) kw265 kd_Pl_addStandard_23 rfl ?_
  refine zk_iload_n C kd_Pl_addStandard_26 rfl 0 rfl rfl ?_
  refine ze_gets (j := 1) C rfl kw1012 kd_Pl_addStandard_27 rfl ?_
  refine zk_iload_n C kd_Pl_addStandard_30 rfl 2 rfl rfl ?_
  refine zk_iconst (v := 3) C kd_Pl_addStandard_31 (by decide) rfl ?_
  refine zk_iadd C kd_Pl_addStandard_32 rfl ?_
  refine zk_stk (r' := [.int 153, .ref (P.2.2 1), .int (nI v1), .ref (S.1 31)]) (by rw [show (150 : Int32) + 3 = 153 by decide]) ?_
  refine ze_ti C rfl (zp_dec rfl) kd_Pl_addStandard_33 rfl ?_
  refine zk_stk (r' := [.int 0, .int (nI v1), .ref (S.1 31)]) rfl ?_
  refine zs_iast C 31 rfl (vp_in_nI (by omega) (by decide)) kd_Pl_addStandard_34 rfl ?_
  refine zk_aload_n C kd_Pl_addStandard_35 rfl 1 rfl rfl ?_
  refine zs_get (v := .ref (S.1 32)) C 20 11 rfl rfl rfl rfl ki_Pl (by decide) kw268 kd_Pl_addStandard_36 rfl ?_
  refine zk_iload_n C kd_Pl_addStandard_39 rfl 0 rfl rfl ?_
  refine ze_gets (j := 1) C rfl kw1012 kd_Pl_addStandard_40 rfl ?_
  refine zk_iload_n C kd_Pl_addStandard_43 rfl 2 rfl rfl ?_
  refine zk_iconst (v := 4) C kd_Pl_addStandard_44 (by decide) rfl ?_
  refine zk_iadd C kd_Pl_addStandard_45 rfl ?_
  refine zk_stk (r' := [.int 154, .ref (P.2.2 1), .int (nI v1), .ref (S.1 32)]) (by rw [show (150 : Int32) + 4 = 154 by decide]) ?_
  refine ze_ti C rfl (zp_dec rfl) kd_Pl_addStandard_46 rfl ?_
  refine zk_stk (r' := [.int 1, .int (nI v1), .ref (S.1 32)]) rfl ?_
  refine zs_iast C 32 rfl (vp_in_nI (by omega) (by decide)) kd_Pl_addStandard_47 rfl ?_
  exact zk_vret C hR kd_Pl_addStandard_48 rfl rfl ⟨_, rfl, rfl, hP2, ((ha2).uM (⟨by decide, by decide⟩)).uM (⟨by decide, by decide⟩)⟩
set_option maxHeartbeats 4000000 in
set_option maxRecDepth 100000 in
theorem zl_as155 {l : Launch} {D : va_G} {sz0 : Nat} {S : zs_T} {P : ze_T} (h : zs_H) (b v1 : Nat) (hP : zl_P h b v1) (hb0 : 0 < b) (hb : b < 600) (hv : v1 < 5999) : zk_Sp (zs_G S l D sz0) (ze_E P) km_Pl_addStandard { frames := 2, cells := 0, slots := 0, locals := 44 } [.ref (S.1 20), .int 155] (zs_W S h) (fun v w => ∃ h2 : zs_H, v = none ∧ w = zs_W S h2 ∧ zl_P h2 b (v1 + 1) ∧ zp_ag zl_A h h2) := by
  refine zk_met ku_Pl_addStandard (Nat.le_of_ble_eq_true rfl) (ze_Em P) ?_
  intro X C hR
  refine zk_lvs (lv' := [(0, .ref (S.1 20)), (1, .int 155)]) [0, 1] rfl ?_
  refine zk_aload_n C kd_Pl_addStandard_0 rfl 0 rfl rfl ?_
  refine zk_bipush (v := 60) C kd_Pl_addStandard_1 (by decide) rfl ?_
  refine ze_gets (j := 1) C rfl kw1012 kd_Pl_addStandard_3 rfl ?_
  refine zk_iload_n C kd_Pl_addStandard_6 rfl 1 rfl rfl ?_
  refine zk_iconst (v := 1) C kd_Pl_addStandard_7 (by decide) rfl ?_
  refine zk_iadd C kd_Pl_addStandard_8 rfl ?_
  refine zk_stk (r' := [.int 156, .ref (P.2.2 1), .int 60, .ref (S.1 20)]) (by rw [show (155 : Int32) + 1 = 156 by decide]) ?_
  refine ze_ti C rfl (zp_dec rfl) kd_Pl_addStandard_9 rfl ?_
  refine zk_stk (r' := [.int 12, .int 60, .ref (S.1 20)]) rfl ?_
  refine zk_iadd C kd_Pl_addStandard_10 rfl ?_
  refine zk_stk (r' := [.int 72, .ref (S.1 20)]) (by rw [show (60 : Int32) + 12 = 72 by decide]) ?_
  refine ze_gets (j := 1) C rfl kw1012 kd_Pl_addStandard_11 rfl ?_
  refine zk_iload_n C kd_Pl_addStandard_14 rfl 1 rfl rfl ?_
  refine zk_iconst (v := 2) C kd_Pl_addStandard_15 (by decide) rfl ?_
  refine zk_iadd C kd_Pl_addStandard_16 rfl ?_
  refine zk_stk (r' := [.int 157, .ref (P.2.2 1), .int 72, .ref (S.1 20)]) (by rw [show (155 : Int32) + 2 = 157 by decide]) ?_
  refine ze_ti C rfl (zp_dec rfl) kd_Pl_addStandard_17 rfl ?_
  refine zk_stk (r' := [.int 2, .int 72, .ref (S.1 20)]) rfl ?_
  refine zs_callV (k := 20) (rn := { frames := 1, cells := 0, slots := 0, locals := 21 }) (As := [.int 72, .int 2]) (rest := []) C (zl_add h b v1 72 2 hP hb0 hb hv (by decide)) ku_Pl_add kw1018 kv_Pl_add rfl ⟨by decide, by decide⟩ ⟨by decide, by decide⟩ rfl rfl rfl (Nat.le_of_ble_eq_true rfl) kd_Pl_addStandard_18 rfl (c1 := 0) (s1 := 0) rfl rfl (fun v w hp => ?_)
  obtain ⟨h2, rfl, rfl, hP2, ha2⟩ := hp
  refine zk_stk (r' := [.int (nI v1)]) rfl ?_
  refine zk_istore_n (lv' := [(2, _), (0, _), (1, _)]) C kd_Pl_addStandard_21 rfl (by decide) rfl rfl ?_
  refine zk_aload_n C kd_Pl_addStandard_22 rfl 1 rfl rfl ?_
  refine zs_get (v := .ref (S.1 31)) C 20 10 rfl rfl rfl rfl ki_Pl (by decide) kw265 kd_Pl_addStandard_23 rfl ?_
  refine zk_iload_n C kd_Pl_addStandard_26 rfl 0 rfl rfl ?_
  refine ze_gets (j := 1) C rfl kw1012 kd_Pl_addStandard_27 rfl ?_
  refine zk_iload_n C kd_Pl_addStandard_30 rfl 2 rfl rfl ?_
  refine zk_iconst (v := 3) C kd_Pl_addStandard_31 (by decide) rfl ?_
  refine zk_iadd C kd_Pl_addStandard_32 rfl ?_
  refine zk_stk (r' := [.int 158, .ref (P.2.2 1), .int (nI v1), .ref (S.1 31)]) (by rw [show (155 : Int32) + 3 = 158 by decide]) ?_
  refine ze_ti C rfl (zp_dec rfl) kd_Pl_addStandard_33 rfl ?_
  refine zk_stk (r' := [.int 0, .int (nI v1), .ref (S.1 31)]) rfl ?_
  refine zs_iast C 31 rfl (vp_in_nI (by omega) (by decide)) kd_Pl_addStandard_34 rfl ?_
  refine zk_aload_n C kd_Pl_addStandard_35 rfl 1 rfl rfl ?_
  refine zs_get (v := .ref (S.1 32)) C 20 11 rfl rfl rfl rfl ki_Pl (by decide) kw268 kd_Pl_addStandard_36 rfl ?_
  refine zk_iload_n C kd_Pl_addStandard_39 rfl 0 rfl rfl ?_
  refine ze_gets (j := 1) C rfl kw1012 kd_Pl_addStandard_40 rfl ?_
  refine zk_iload_n C kd_Pl_addStandard_43 rfl 2 rfl rfl ?_
  refine zk_iconst (v := 4) C kd_Pl_addStandard_44 (by decide) rfl ?_
  refine zk_iadd C kd_Pl_addStandard_45 rfl ?_
  refine zk_stk (r' := [.int 159, .ref (P.2.2 1), .int (nI v1), .ref (S.1 32)]) (by rw [show (155 : Int32) + 4 = 159 by decide]) ?_
  refine ze_ti C rfl (zp_dec rfl) kd_Pl_addStandard_46 rfl ?_
  refine zk_stk (r' := [.int 2, .int (nI v1), .ref (S.1 32)]) rfl ?_
  refine zs_iast C 32 rfl (vp_in_nI (by omega) (by decide)) kd_Pl_addStandard_47 rfl ?_
  exact zk_vret C hR kd_Pl_addStandard_48 rfl rfl ⟨_, rfl, rfl, hP2, ((ha2).uM (⟨by decide, by decide⟩)).uM (⟨by decide, by decide⟩)⟩
set_option maxHeartbeats 4000000 in
set_option maxRecDepth 100000 in
theorem zl_forget {l : Launch} {D : va_G} {sz0 : Nat} {S : zs_T} {P : ze_T} (h : zs_H) : zk_Sp (zs_G S l D sz0) (ze_E P) km_Pl_forget { frames := 3, cells := 0, slots := 0, locals := 66 } [.ref (S.1 20)] (zs_W S h) (fun v w => ∃ h2 : zs_H, v = none ∧ w = zs_W S h2 ∧ zl_P h2 9 32 ∧ zp_ag zl_A h h2) := by
  refine zk_met ku_Pl_forget (Nat.le_of_ble_eq_true rfl) (ze_Em P) ?_
  intro X C hR
  refine zk_lvs (lv' := [(0, .ref (S.1 20))]) [0] rfl ?_
  refine zk_aload_n C kd_Pl_forget_0 rfl 0 rfl rfl ?_
  refine zs_get (v := .ref (S.1 36)) C 20 15 rfl rfl rfl rfl ki_Pl (by decide) kw286 kd_Pl_forget_1 rfl ?_
  refine zk_iconst (v := (-1)) C kd_Pl_forget_4 (by decide) rfl ?_
  refine zk_callS (rn := { frames := 0, cells := 0, slots := 0, locals := 0 }) (As := [.ref (S.1 36), .int (-1)]) (rest := []) C (zn_fill h 36 6000 rfl (by decide) (-1)) ku_Ar_fill kw1006 ks_Ar_fill rfl ⟨by decide, by decide⟩ ⟨by decide, by decide⟩ rfl (Nat.le_of_ble_eq_true rfl) kd_Pl_forget_5 rfl (c1 := 0) (s1 := 0) rfl rfl (fun v w hp => ?_)
  obtain ⟨f1, rfl, rfl, l_f1, -⟩ := hp
  refine zk_stk (r' := []) rfl ?_
  refine zk_aload_n C kd_Pl_forget_8 rfl 0 rfl rfl ?_
  refine zs_get (v := .ref (S.1 37)) C 20 16 rfl rfl rfl rfl ki_Pl (by decide) kw288 kd_Pl_forget_9 rfl ?_
  refine zk_iconst (v := (-1)) C kd_Pl_forget_12 (by decide) rfl ?_
  refine zk_callS (rn := { frames := 0, cells := 0, slots := 0, locals := 0 }) (As := [.ref (S.1 37), .int (-1)]) (rest := []) C (zn_fill f1 37 6000 rfl (by decide) (-1)) ku_Ar_fill kw1006 ks_Ar_fill rfl ⟨by decide, by decide⟩ ⟨by decide, by decide⟩ rfl (Nat.le_of_ble_eq_true rfl) kd_Pl_forget_13 rfl (c1 := 0) (s1 := 0) rfl rfl (fun v w hp => ?_)
  obtain ⟨f2, rfl, rfl, l_f2, -⟩ := hp
  refine zk_stk (r' := []) rfl ?_
  refine zk_aload_n C kd_Pl_forget_16 rfl 0 rfl rfl ?_
  refine zk_iconst (v := 0) C kd_Pl_forget_17 (by decide) rfl ?_
  refine zs_put (ty := .int) C 20 17 0 rfl rfl rfl rfl ki_Pl ky_Pl ko_Pl kn_Pl (by decide) kw290 rfl rfl rfl rfl (by decide) kd_Pl_forget_18 rfl ?_
  refine zk_aload_n C kd_Pl_forget_21 rfl 0 rfl rfl ?_
  refine zk_iconst (v := 0) C kd_Pl_forget_22 (by decide) rfl ?_
  refine zs_put (ty := .int) C 20 18 0 rfl rfl rfl rfl ki_Pl ky_Pl ko_Pl kn_Pl (by decide) kw292 rfl rfl rfl rfl (by decide) kd_Pl_forget_23 rfl ?_
  refine zk_aload_n C kd_Pl_forget_26 rfl 0 rfl rfl ?_
  refine zk_iconst (v := (-1)) C kd_Pl_forget_27 (by decide) rfl ?_
  refine zs_put (ty := .int) C 20 19 (-1) rfl rfl rfl rfl ki_Pl ky_Pl ko_Pl kn_Pl (by decide) kw294 rfl rfl rfl rfl (by decide) kd_Pl_forget_28 rfl ?_
  refine zk_aload_n C kd_Pl_forget_31 rfl 0 rfl rfl ?_
  refine zk_iconst (v := 0) C kd_Pl_forget_32 (by decide) rfl ?_
  refine zs_put (ty := .int) C 20 20 0 rfl rfl rfl rfl ki_Pl ky_Pl ko_Pl kn_Pl (by decide) kw298 rfl rfl rfl rfl (by decide) kd_Pl_forget_33 rfl ?_
  refine zk_iconst (v := 0) C kd_Pl_forget_36 (by decide) rfl ?_
  refine zk_istore_n (lv' := [(1, _), (0, _)]) C kd_Pl_forget_37 rfl (by decide) rfl rfl ?_
  refine zk_iconst (v := 0) C kd_Pl_forget_38 (by decide) rfl ?_
  refine zk_istore_n (lv' := [(2, _), (1, _), (0, _)]) C kd_Pl_forget_39 rfl (by decide) rfl rfl ?_
  refine zk_iload_n C kd_Pl_forget_40 rfl 0 rfl rfl ?_
  refine zk_bipush (v := 9) C kd_Pl_forget_41 (by decide) rfl ?_
  refine zk_icmp_ge (tgt := 115) C kd_Pl_forget_43 (by decide) rfl (fun h_1 => absurd h_1 (by decide)) (fun h_1 => ?_)
  refine zk_aload_n C kd_Pl_forget_46 rfl 2 rfl rfl ?_
  refine zk_iconst (v := 0) C kd_Pl_forget_47 (by decide) rfl ?_
  refine zk_bipush (v := 41) C kd_Pl_forget_48 (by decide) rfl ?_
  refine zk_iload_n C kd_Pl_forget_50 rfl 0 rfl rfl ?_
  refine zk_iadd C kd_Pl_forget_51 rfl ?_
  refine zk_stk (r' := [.int 41, .int 0, .ref (S.1 20)]) (by rw [show (41 : Int32) + 0 = 41 by decide]) ?_
  refine zk_iconst (v := (-1)) C kd_Pl_forget_52 (by decide) rfl ?_
  refine zs_callV (k := 20) (rn := { frames := 1, cells := 0, slots := 0, locals := 21 }) (As := [.int 0, .int 41, .int (-1)]) (rest := []) C (zl_open (zs_uF (zs_uF (zs_uF (zs_uF f2 20 17 0) 20 18 0) 20 19 (-1)) 20 20 0) 0 0 41 (⟨rfl, rfl, rfl, rfl⟩ : zl_P _ 0 0) (by decide) (by decide)) ku_Pl_open kw1007 kv_Pl_open rfl ⟨by decide, by decide⟩ ⟨by decide, by decide⟩ rfl rfl rfl (Nat.le_of_ble_eq_true rfl) kd_Pl_forget_53 rfl (c1 := 0) (s1 := 0) rfl rfl (fun v w hp => ?_)
  obtain ⟨k1, rfl, rfl, p1, g1⟩ := hp
  have a1 := (((((((l_f1.ag (A := zl_A) ⟨by decide, by decide⟩).tr (l_f2.ag (A := zl_A) ⟨by decide, by decide⟩))).uF (⟨by decide, by decide⟩)).uF (⟨by decide, by decide⟩)).uF (⟨by decide, by decide⟩)).uF (⟨by decide, by decide⟩)).tr g1
  refine zk_stk (r' := [.int (nI 0)]) rfl ?_
  refine zk_pop C kd_Pl_forget_56 rfl rfl ?_
  refine zk_iload_n C kd_Pl_forget_57 rfl 1 rfl rfl ?_
  refine zk_iconst (v := 4) C kd_Pl_forget_58 (by decide) rfl ?_
  refine zk_iadd C kd_Pl_forget_59 rfl ?_
  refine zk_stk (r' := [.int 4]) (by rw [show (0 : Int32) + 4 = 4 by decide]) ?_
  refine ze_gets (j := 1) C rfl kw1012 kd_Pl_forget_60 rfl ?_
  refine ze_tlen C rfl kd_Pl_forget_63 rfl ?_
  refine zk_stk (r' := [.int 160, .int 4]) rfl ?_
  refine zk_icmp_ge (tgt := 87) C kd_Pl_forget_64 (by decide) rfl (fun h_2 => absurd h_2 (by decide)) (fun h_2 => ?_)
  refine ze_gets (j := 1) C rfl kw1012 kd_Pl_forget_67 rfl ?_
  refine zk_iload_n C kd_Pl_forget_70 rfl 1 rfl rfl ?_
  refine ze_ti C rfl (zp_dec rfl) kd_Pl_forget_71 rfl ?_
  refine zk_stk (r' := [.int 0]) rfl ?_
  refine zk_iload_n C kd_Pl_forget_72 rfl 0 rfl rfl ?_
  refine zk_icmp_ne (tgt := 87) C kd_Pl_forget_73 (by decide) rfl (fun h_3 => absurd (by decide) h_3) (fun h_3 => ?_)
  refine zk_aload_n C kd_Pl_forget_76 rfl 2 rfl rfl ?_
  refine zk_iload_n C kd_Pl_forget_77 rfl 1 rfl rfl ?_
  refine zs_callV (k := 20) (rn := { frames := 2, cells := 0, slots := 0, locals := 44 }) (As := [.int 0]) (rest := []) C (zl_as0 k1 1 0 p1 (by decide) (by decide) (by decide)) ku_Pl_addStandard kw1014 kv_Pl_addStandard rfl ⟨by decide, by decide⟩ ⟨by decide, by decide⟩ rfl rfl rfl (Nat.le_of_ble_eq_true rfl) kd_Pl_forget_78 rfl (c1 := 0) (s1 := 0) rfl rfl (fun v w hp => ?_)
  obtain ⟨k2, rfl, rfl, p2, g2⟩ := hp
  have a2 := (a1).tr g2
  refine zk_stk (r' := []) rfl ?_
  refine zk_iinc (v := 5) (lv' := [(1, _), (2, _), (0, _)]) C kd_Pl_forget_81 1 rfl (by decide) (by decide) rfl rfl ?_
  refine zk_goto (tgt := 57) C kd_Pl_forget_84 (by decide) ?_
  refine zk_iload_n C kd_Pl_forget_57 rfl 0 rfl rfl ?_
  refine zk_iconst (v := 4) C kd_Pl_forget_58 (by decide) rfl ?_
  refine zk_iadd C kd_Pl_forget_59 rfl ?_
  refine zk_stk (r' := [.int 9]) (by rw [show (5 : Int32) + 4 = 9 by decide]) ?_
  refine ze_gets (j := 1) C rfl kw1012 kd_Pl_forget_60 rfl ?_
  refine ze_tlen C rfl kd_Pl_forget_63 rfl ?_
  refine zk_stk (r' := [.int 160, .int 9]) rfl ?_
  refine zk_icmp_ge (tgt := 87) C kd_Pl_forget_64 (by decide) rfl (fun h_4 => absurd h_4 (by decide)) (fun h_4 => ?_)
  refine ze_gets (j := 1) C rfl kw1012 kd_Pl_forget_67 rfl ?_
  refine zk_iload_n C kd_Pl_forget_70 rfl 0 rfl rfl ?_
  refine ze_ti C rfl (zp_dec rfl) kd_Pl_forget_71 rfl ?_
  refine zk_stk (r' := [.int 0]) rfl ?_
  refine zk_iload_n C kd_Pl_forget_72 rfl 1 rfl rfl ?_
  refine zk_icmp_ne (tgt := 87) C kd_Pl_forget_73 (by decide) rfl (fun h_5 => absurd (by decide) h_5) (fun h_5 => ?_)
  refine zk_aload_n C kd_Pl_forget_76 rfl 2 rfl rfl ?_
  refine zk_iload_n C kd_Pl_forget_77 rfl 0 rfl rfl ?_
  refine zs_callV (k := 20) (rn := { frames := 2, cells := 0, slots := 0, locals := 44 }) (As := [.int 5]) (rest := []) C (zl_as5 k2 1 1 p2 (by decide) (by decide) (by decide)) ku_Pl_addStandard kw1014 kv_Pl_addStandard rfl ⟨by decide, by decide⟩ ⟨by decide, by decide⟩ rfl rfl rfl (Nat.le_of_ble_eq_true rfl) kd_Pl_forget_78 rfl (c1 := 0) (s1 := 0) rfl rfl (fun v w hp => ?_)
  obtain ⟨k3, rfl, rfl, p3, g3⟩ := hp
  have a3 := (a2).tr g3
  refine zk_stk (r' := []) rfl ?_
  refine zk_iinc (v := 10) (lv' := [(1, _), (2, _), (0, _)]) C kd_Pl_forget_81 0 rfl (by decide) (by decide) rfl rfl ?_
  refine zk_goto (tgt := 57) C kd_Pl_forget_84 (by decide) ?_
  refine zk_iload_n C kd_Pl_forget_57 rfl 0 rfl rfl ?_
  refine zk_iconst (v := 4) C kd_Pl_forget_58 (by decide) rfl ?_
  refine zk_iadd C kd_Pl_forget_59 rfl ?_
  refine zk_stk (r' := [.int 14]) (by rw [show (10 : Int32) + 4 = 14 by decide]) ?_
  refine ze_gets (j := 1) C rfl kw1012 kd_Pl_forget_60 rfl ?_
  refine ze_tlen C rfl kd_Pl_forget_63 rfl ?_
  refine zk_stk (r' := [.int 160, .int 14]) rfl ?_
  refine zk_icmp_ge (tgt := 87) C kd_Pl_forget_64 (by decide) rfl (fun h_6 => absurd h_6 (by decide)) (fun h_6 => ?_)
  refine ze_gets (j := 1) C rfl kw1012 kd_Pl_forget_67 rfl ?_
  refine zk_iload_n C kd_Pl_forget_70 rfl 0 rfl rfl ?_
  refine ze_ti C rfl (zp_dec rfl) kd_Pl_forget_71 rfl ?_
  refine zk_stk (r' := [.int 0]) rfl ?_
  refine zk_iload_n C kd_Pl_forget_72 rfl 1 rfl rfl ?_
  refine zk_icmp_ne (tgt := 87) C kd_Pl_forget_73 (by decide) rfl (fun h_7 => absurd (by decide) h_7) (fun h_7 => ?_)
  refine zk_aload_n C kd_Pl_forget_76 rfl 2 rfl rfl ?_
  refine zk_iload_n C kd_Pl_forget_77 rfl 0 rfl rfl ?_
  refine zs_callV (k := 20) (rn := { frames := 2, cells := 0, slots := 0, locals := 44 }) (As := [.int 10]) (rest := []) C (zl_as10 k3 1 2 p3 (by decide) (by decide) (by decide)) ku_Pl_addStandard kw1014 kv_Pl_addStandard rfl ⟨by decide, by decide⟩ ⟨by decide, by decide⟩ rfl rfl rfl (Nat.le_of_ble_eq_true rfl) kd_Pl_forget_78 rfl (c1 := 0) (s1 := 0) rfl rfl (fun v w hp => ?_)
  obtain ⟨k4, rfl, rfl, p4, g4⟩ := hp
  have a4 := (a3).tr g4
  refine zk_stk (r' := []) rfl ?_
  refine zk_iinc (v := 15) (lv' := [(1, _), (2, _), (0, _)]) C kd_Pl_forget_81 0 rfl (by decide) (by decide) rfl rfl ?_
  refine zk_goto (tgt := 57) C kd_Pl_forget_84 (by decide) ?_
  refine zk_iload_n C kd_Pl_forget_57 rfl 0 rfl rfl ?_
  refine zk_iconst (v := 4) C kd_Pl_forget_58 (by decide) rfl ?_
  refine zk_iadd C kd_Pl_forget_59 rfl ?_
  refine zk_stk (r' := [.int 19]) (by rw [show (15 : Int32) + 4 = 19 by decide]) ?_
  refine ze_gets (j := 1) C rfl kw1012 kd_Pl_forget_60 rfl ?_
  refine ze_tlen C rfl kd_Pl_forget_63 rfl ?_
  refine zk_stk (r' := [.int 160, .int 19]) rfl ?_
  refine zk_icmp_ge (tgt := 87) C kd_Pl_forget_64 (by decide) rfl (fun h_8 => absurd h_8 (by decide)) (fun h_8 => ?_)
  refine ze_gets (j := 1) C rfl kw1012 kd_Pl_forget_67 rfl ?_
  refine zk_iload_n C kd_Pl_forget_70 rfl 0 rfl rfl ?_
  refine ze_ti C rfl (zp_dec rfl) kd_Pl_forget_71 rfl ?_
  refine zk_stk (r' := [.int 0]) rfl ?_
  refine zk_iload_n C kd_Pl_forget_72 rfl 1 rfl rfl ?_
  refine zk_icmp_ne (tgt := 87) C kd_Pl_forget_73 (by decide) rfl (fun h_9 => absurd (by decide) h_9) (fun h_9 => ?_)
  refine zk_aload_n C kd_Pl_forget_76 rfl 2 rfl rfl ?_
  refine zk_iload_n C kd_Pl_forget_77 rfl 0 rfl rfl ?_
  refine zs_callV (k := 20) (rn := { frames := 2, cells := 0, slots := 0, locals := 44 }) (As := [.int 15]) (rest := []) C (zl_as15 k4 1 3 p4 (by decide) (by decide) (by decide)) ku_Pl_addStandard kw1014 kv_Pl_addStandard rfl ⟨by decide, by decide⟩ ⟨by decide, by decide⟩ rfl rfl rfl (Nat.le_of_ble_eq_true rfl) kd_Pl_forget_78 rfl (c1 := 0) (s1 := 0) rfl rfl (fun v w hp => ?_)
  obtain ⟨k5, rfl, rfl, p5, g5⟩ := hp
  have a5 := (a4).tr g5
  refine zk_stk (r' := []) rfl ?_
  refine zk_iinc (v := 20) (lv' := [(1, _), (2, _), (0, _)]) C kd_Pl_forget_81 0 rfl (by decide) (by decide) rfl rfl ?_
  refine zk_goto (tgt := 57) C kd_Pl_forget_84 (by decide) ?_
  refine zk_iload_n C kd_Pl_forget_57 rfl 0 rfl rfl ?_
  refine zk_iconst (v := 4) C kd_Pl_forget_58 (by decide) rfl ?_
  refine zk_iadd C kd_Pl_forget_59 rfl ?_
  refine zk_stk (r' := [.int 24]) (by rw [show (20 : Int32) + 4 = 24 by decide]) ?_
  refine ze_gets (j := 1) C rfl kw1012 kd_Pl_forget_60 rfl ?_
  refine ze_tlen C rfl kd_Pl_forget_63 rfl ?_
  refine zk_stk (r' := [.int 160, .int 24]) rfl ?_
  refine zk_icmp_ge (tgt := 87) C kd_Pl_forget_64 (by decide) rfl (fun h_10 => absurd h_10 (by decide)) (fun h_10 => ?_)
  refine ze_gets (j := 1) C rfl kw1012 kd_Pl_forget_67 rfl ?_
  refine zk_iload_n C kd_Pl_forget_70 rfl 0 rfl rfl ?_
  refine ze_ti C rfl (zp_dec rfl) kd_Pl_forget_71 rfl ?_
  refine zk_stk (r' := [.int 1]) rfl ?_
  refine zk_iload_n C kd_Pl_forget_72 rfl 1 rfl rfl ?_
  refine zk_icmp_ne (tgt := 87) C kd_Pl_forget_73 (by decide) rfl (fun h_11 => ?_) (fun h_11 => absurd h_11 (by decide))
  refine zk_aload_n C kd_Pl_forget_87 rfl 2 rfl rfl ?_
  refine zs_get (v := .ref (S.1 25)) C 20 4 rfl rfl rfl rfl ki_Pl (by decide) kw246 kd_Pl_forget_88 rfl ?_
  refine zk_iload_n C kd_Pl_forget_91 rfl 1 rfl rfl ?_
  refine ze_gets (j := 2) C rfl kw1022 kd_Pl_forget_92 rfl ?_
  refine zk_iload_n C kd_Pl_forget_95 rfl 1 rfl rfl ?_
  refine ze_ti C rfl (zp_dec rfl) kd_Pl_forget_96 rfl ?_
  refine zk_stk (r' := [.int 6, .int 0, .ref (S.1 25)]) rfl ?_
  refine zs_iast C 25 rfl (zp_dec rfl) kd_Pl_forget_97 rfl ?_
  refine zk_aload_n C kd_Pl_forget_98 rfl 2 rfl rfl ?_
  refine zs_get (v := .ref (S.1 26)) C 20 5 rfl rfl rfl rfl ki_Pl (by decide) kw249 kd_Pl_forget_99 rfl ?_
  refine zk_iload_n C kd_Pl_forget_102 rfl 1 rfl rfl ?_
  refine ze_gets (j := 2) C rfl kw1022 kd_Pl_forget_103 rfl ?_
  refine zk_iload_n C kd_Pl_forget_106 rfl 1 rfl rfl ?_
  refine ze_ti C rfl (zp_dec rfl) kd_Pl_forget_107 rfl ?_
  refine zk_stk (r' := [.int 6, .int 0, .ref (S.1 26)]) rfl ?_
  refine zs_iast C 26 rfl (zp_dec rfl) kd_Pl_forget_108 rfl ?_
  refine zk_iinc (v := 1) (lv' := [(2, _), (1, _), (0, _)]) C kd_Pl_forget_109 1 rfl (by decide) (by decide) rfl rfl ?_
  refine zk_goto (tgt := 40) C kd_Pl_forget_112 (by decide) ?_
  refine zk_iload_n C kd_Pl_forget_40 rfl 0 rfl rfl ?_
  refine zk_bipush (v := 9) C kd_Pl_forget_41 (by decide) rfl ?_
  refine zk_icmp_ge (tgt := 115) C kd_Pl_forget_43 (by decide) rfl (fun h_12 => absurd h_12 (by decide)) (fun h_12 => ?_)
  refine zk_aload_n C kd_Pl_forget_46 rfl 2 rfl rfl ?_
  refine zk_iconst (v := 0) C kd_Pl_forget_47 (by decide) rfl ?_
  refine zk_bipush (v := 41) C kd_Pl_forget_48 (by decide) rfl ?_
  refine zk_iload_n C kd_Pl_forget_50 rfl 0 rfl rfl ?_
  refine zk_iadd C kd_Pl_forget_51 rfl ?_
  refine zk_stk (r' := [.int 42, .int 0, .ref (S.1 20)]) (by rw [show (41 : Int32) + 1 = 42 by decide]) ?_
  refine zk_iconst (v := (-1)) C kd_Pl_forget_52 (by decide) rfl ?_
  refine zs_callV (k := 20) (rn := { frames := 1, cells := 0, slots := 0, locals := 21 }) (As := [.int 0, .int 42, .int (-1)]) (rest := []) C (zl_open (zs_uM (zs_uM k5 25 ((0 : Int32)).toNatClampNeg 6) 26 ((0 : Int32)).toNatClampNeg 6) 1 4 42 p5 (by decide) (by decide)) ku_Pl_open kw1007 kv_Pl_open rfl ⟨by decide, by decide⟩ ⟨by decide, by decide⟩ rfl rfl rfl (Nat.le_of_ble_eq_true rfl) kd_Pl_forget_53 rfl (c1 := 0) (s1 := 0) rfl rfl (fun v w hp => ?_)
  obtain ⟨k6, rfl, rfl, p6, g6⟩ := hp
  have a6 := (((a5).uM (⟨by decide, by decide⟩)).uM (⟨by decide, by decide⟩)).tr g6
  refine zk_stk (r' := [.int (nI 1)]) rfl ?_
  refine zk_pop C kd_Pl_forget_56 rfl rfl ?_
  refine zk_iload_n C kd_Pl_forget_57 rfl 1 rfl rfl ?_
  refine zk_iconst (v := 4) C kd_Pl_forget_58 (by decide) rfl ?_
  refine zk_iadd C kd_Pl_forget_59 rfl ?_
  refine zk_stk (r' := [.int 24]) (by rw [show (20 : Int32) + 4 = 24 by decide]) ?_
  refine ze_gets (j := 1) C rfl kw1012 kd_Pl_forget_60 rfl ?_
  refine ze_tlen C rfl kd_Pl_forget_63 rfl ?_
  refine zk_stk (r' := [.int 160, .int 24]) rfl ?_
  refine zk_icmp_ge (tgt := 87) C kd_Pl_forget_64 (by decide) rfl (fun h_13 => absurd h_13 (by decide)) (fun h_13 => ?_)
  refine ze_gets (j := 1) C rfl kw1012 kd_Pl_forget_67 rfl ?_
  refine zk_iload_n C kd_Pl_forget_70 rfl 1 rfl rfl ?_
  refine ze_ti C rfl (zp_dec rfl) kd_Pl_forget_71 rfl ?_
  refine zk_stk (r' := [.int 1]) rfl ?_
  refine zk_iload_n C kd_Pl_forget_72 rfl 0 rfl rfl ?_
  refine zk_icmp_ne (tgt := 87) C kd_Pl_forget_73 (by decide) rfl (fun h_14 => absurd (by decide) h_14) (fun h_14 => ?_)
  refine zk_aload_n C kd_Pl_forget_76 rfl 2 rfl rfl ?_
  refine zk_iload_n C kd_Pl_forget_77 rfl 1 rfl rfl ?_
  refine zs_callV (k := 20) (rn := { frames := 2, cells := 0, slots := 0, locals := 44 }) (As := [.int 20]) (rest := []) C (zl_as20 k6 2 4 p6 (by decide) (by decide) (by decide)) ku_Pl_addStandard kw1014 kv_Pl_addStandard rfl ⟨by decide, by decide⟩ ⟨by decide, by decide⟩ rfl rfl rfl (Nat.le_of_ble_eq_true rfl) kd_Pl_forget_78 rfl (c1 := 0) (s1 := 0) rfl rfl (fun v w hp => ?_)
  obtain ⟨k7, rfl, rfl, p7, g7⟩ := hp
  have a7 := (a6).tr g7
  refine zk_stk (r' := []) rfl ?_
  refine zk_iinc (v := 25) (lv' := [(1, _), (2, _), (0, _)]) C kd_Pl_forget_81 1 rfl (by decide) (by decide) rfl rfl ?_
  refine zk_goto (tgt := 57) C kd_Pl_forget_84 (by decide) ?_
  refine zk_iload_n C kd_Pl_forget_57 rfl 0 rfl rfl ?_
  refine zk_iconst (v := 4) C kd_Pl_forget_58 (by decide) rfl ?_
  refine zk_iadd C kd_Pl_forget_59 rfl ?_
  refine zk_stk (r' := [.int 29]) (by rw [show (25 : Int32) + 4 = 29 by decide]) ?_
  refine ze_gets (j := 1) C rfl kw1012 kd_Pl_forget_60 rfl ?_
  refine ze_tlen C rfl kd_Pl_forget_63 rfl ?_
  refine zk_stk (r' := [.int 160, .int 29]) rfl ?_
  refine zk_icmp_ge (tgt := 87) C kd_Pl_forget_64 (by decide) rfl (fun h_15 => absurd h_15 (by decide)) (fun h_15 => ?_)
  refine ze_gets (j := 1) C rfl kw1012 kd_Pl_forget_67 rfl ?_
  refine zk_iload_n C kd_Pl_forget_70 rfl 0 rfl rfl ?_
  refine ze_ti C rfl (zp_dec rfl) kd_Pl_forget_71 rfl ?_
  refine zk_stk (r' := [.int 1]) rfl ?_
  refine zk_iload_n C kd_Pl_forget_72 rfl 1 rfl rfl ?_
  refine zk_icmp_ne (tgt := 87) C kd_Pl_forget_73 (by decide) rfl (fun h_16 => absurd (by decide) h_16) (fun h_16 => ?_)
  refine zk_aload_n C kd_Pl_forget_76 rfl 2 rfl rfl ?_
  refine zk_iload_n C kd_Pl_forget_77 rfl 0 rfl rfl ?_
  refine zs_callV (k := 20) (rn := { frames := 2, cells := 0, slots := 0, locals := 44 }) (As := [.int 25]) (rest := []) C (zl_as25 k7 2 5 p7 (by decide) (by decide) (by decide)) ku_Pl_addStandard kw1014 kv_Pl_addStandard rfl ⟨by decide, by decide⟩ ⟨by decide, by decide⟩ rfl rfl rfl (Nat.le_of_ble_eq_true rfl) kd_Pl_forget_78 rfl (c1 := 0) (s1 := 0) rfl rfl (fun v w hp => ?_)
  obtain ⟨k8, rfl, rfl, p8, g8⟩ := hp
  have a8 := (a7).tr g8
  refine zk_stk (r' := []) rfl ?_
  refine zk_iinc (v := 30) (lv' := [(1, _), (2, _), (0, _)]) C kd_Pl_forget_81 0 rfl (by decide) (by decide) rfl rfl ?_
  refine zk_goto (tgt := 57) C kd_Pl_forget_84 (by decide) ?_
  refine zk_iload_n C kd_Pl_forget_57 rfl 0 rfl rfl ?_
  refine zk_iconst (v := 4) C kd_Pl_forget_58 (by decide) rfl ?_
  refine zk_iadd C kd_Pl_forget_59 rfl ?_
  refine zk_stk (r' := [.int 34]) (by rw [show (30 : Int32) + 4 = 34 by decide]) ?_
  refine ze_gets (j := 1) C rfl kw1012 kd_Pl_forget_60 rfl ?_
  refine ze_tlen C rfl kd_Pl_forget_63 rfl ?_
  refine zk_stk (r' := [.int 160, .int 34]) rfl ?_
  refine zk_icmp_ge (tgt := 87) C kd_Pl_forget_64 (by decide) rfl (fun h_17 => absurd h_17 (by decide)) (fun h_17 => ?_)
  refine ze_gets (j := 1) C rfl kw1012 kd_Pl_forget_67 rfl ?_
  refine zk_iload_n C kd_Pl_forget_70 rfl 0 rfl rfl ?_
  refine ze_ti C rfl (zp_dec rfl) kd_Pl_forget_71 rfl ?_
  refine zk_stk (r' := [.int 1]) rfl ?_
  refine zk_iload_n C kd_Pl_forget_72 rfl 1 rfl rfl ?_
  refine zk_icmp_ne (tgt := 87) C kd_Pl_forget_73 (by decide) rfl (fun h_18 => absurd (by decide) h_18) (fun h_18 => ?_)
  refine zk_aload_n C kd_Pl_forget_76 rfl 2 rfl rfl ?_
  refine zk_iload_n C kd_Pl_forget_77 rfl 0 rfl rfl ?_
  refine zs_callV (k := 20) (rn := { frames := 2, cells := 0, slots := 0, locals := 44 }) (As := [.int 30]) (rest := []) C (zl_as30 k8 2 6 p8 (by decide) (by decide) (by decide)) ku_Pl_addStandard kw1014 kv_Pl_addStandard rfl ⟨by decide, by decide⟩ ⟨by decide, by decide⟩ rfl rfl rfl (Nat.le_of_ble_eq_true rfl) kd_Pl_forget_78 rfl (c1 := 0) (s1 := 0) rfl rfl (fun v w hp => ?_)
  obtain ⟨k9, rfl, rfl, p9, g9⟩ := hp
  have a9 := (a8).tr g9
  refine zk_stk (r' := []) rfl ?_
  refine zk_iinc (v := 35) (lv' := [(1, _), (2, _), (0, _)]) C kd_Pl_forget_81 0 rfl (by decide) (by decide) rfl rfl ?_
  refine zk_goto (tgt := 57) C kd_Pl_forget_84 (by decide) ?_
  refine zk_iload_n C kd_Pl_forget_57 rfl 0 rfl rfl ?_
  refine zk_iconst (v := 4) C kd_Pl_forget_58 (by decide) rfl ?_
  refine zk_iadd C kd_Pl_forget_59 rfl ?_
  refine zk_stk (r' := [.int 39]) (by rw [show (35 : Int32) + 4 = 39 by decide]) ?_
  refine ze_gets (j := 1) C rfl kw1012 kd_Pl_forget_60 rfl ?_
  refine ze_tlen C rfl kd_Pl_forget_63 rfl ?_
  refine zk_stk (r' := [.int 160, .int 39]) rfl ?_
  refine zk_icmp_ge (tgt := 87) C kd_Pl_forget_64 (by decide) rfl (fun h_19 => absurd h_19 (by decide)) (fun h_19 => ?_)
  refine ze_gets (j := 1) C rfl kw1012 kd_Pl_forget_67 rfl ?_
  refine zk_iload_n C kd_Pl_forget_70 rfl 0 rfl rfl ?_
  refine ze_ti C rfl (zp_dec rfl) kd_Pl_forget_71 rfl ?_
  refine zk_stk (r' := [.int 1]) rfl ?_
  refine zk_iload_n C kd_Pl_forget_72 rfl 1 rfl rfl ?_
  refine zk_icmp_ne (tgt := 87) C kd_Pl_forget_73 (by decide) rfl (fun h_20 => absurd (by decide) h_20) (fun h_20 => ?_)
  refine zk_aload_n C kd_Pl_forget_76 rfl 2 rfl rfl ?_
  refine zk_iload_n C kd_Pl_forget_77 rfl 0 rfl rfl ?_
  refine zs_callV (k := 20) (rn := { frames := 2, cells := 0, slots := 0, locals := 44 }) (As := [.int 35]) (rest := []) C (zl_as35 k9 2 7 p9 (by decide) (by decide) (by decide)) ku_Pl_addStandard kw1014 kv_Pl_addStandard rfl ⟨by decide, by decide⟩ ⟨by decide, by decide⟩ rfl rfl rfl (Nat.le_of_ble_eq_true rfl) kd_Pl_forget_78 rfl (c1 := 0) (s1 := 0) rfl rfl (fun v w hp => ?_)
  obtain ⟨k10, rfl, rfl, p10, g10⟩ := hp
  have a10 := (a9).tr g10
  refine zk_stk (r' := []) rfl ?_
  refine zk_iinc (v := 40) (lv' := [(1, _), (2, _), (0, _)]) C kd_Pl_forget_81 0 rfl (by decide) (by decide) rfl rfl ?_
  refine zk_goto (tgt := 57) C kd_Pl_forget_84 (by decide) ?_
  refine zk_iload_n C kd_Pl_forget_57 rfl 0 rfl rfl ?_
  refine zk_iconst (v := 4) C kd_Pl_forget_58 (by decide) rfl ?_
  refine zk_iadd C kd_Pl_forget_59 rfl ?_
  refine zk_stk (r' := [.int 44]) (by rw [show (40 : Int32) + 4 = 44 by decide]) ?_
  refine ze_gets (j := 1) C rfl kw1012 kd_Pl_forget_60 rfl ?_
  refine ze_tlen C rfl kd_Pl_forget_63 rfl ?_
  refine zk_stk (r' := [.int 160, .int 44]) rfl ?_
  refine zk_icmp_ge (tgt := 87) C kd_Pl_forget_64 (by decide) rfl (fun h_21 => absurd h_21 (by decide)) (fun h_21 => ?_)
  refine ze_gets (j := 1) C rfl kw1012 kd_Pl_forget_67 rfl ?_
  refine zk_iload_n C kd_Pl_forget_70 rfl 0 rfl rfl ?_
  refine ze_ti C rfl (zp_dec rfl) kd_Pl_forget_71 rfl ?_
  refine zk_stk (r' := [.int 2]) rfl ?_
  refine zk_iload_n C kd_Pl_forget_72 rfl 1 rfl rfl ?_
  refine zk_icmp_ne (tgt := 87) C kd_Pl_forget_73 (by decide) rfl (fun h_22 => ?_) (fun h_22 => absurd h_22 (by decide))
  refine zk_aload_n C kd_Pl_forget_87 rfl 2 rfl rfl ?_
  refine zs_get (v := .ref (S.1 25)) C 20 4 rfl rfl rfl rfl ki_Pl (by decide) kw246 kd_Pl_forget_88 rfl ?_
  refine zk_iload_n C kd_Pl_forget_91 rfl 1 rfl rfl ?_
  refine ze_gets (j := 2) C rfl kw1022 kd_Pl_forget_92 rfl ?_
  refine zk_iload_n C kd_Pl_forget_95 rfl 1 rfl rfl ?_
  refine ze_ti C rfl (zp_dec rfl) kd_Pl_forget_96 rfl ?_
  refine zk_stk (r' := [.int 6, .int 1, .ref (S.1 25)]) rfl ?_
  refine zs_iast C 25 rfl (zp_dec rfl) kd_Pl_forget_97 rfl ?_
  refine zk_aload_n C kd_Pl_forget_98 rfl 2 rfl rfl ?_
  refine zs_get (v := .ref (S.1 26)) C 20 5 rfl rfl rfl rfl ki_Pl (by decide) kw249 kd_Pl_forget_99 rfl ?_
  refine zk_iload_n C kd_Pl_forget_102 rfl 1 rfl rfl ?_
  refine ze_gets (j := 2) C rfl kw1022 kd_Pl_forget_103 rfl ?_
  refine zk_iload_n C kd_Pl_forget_106 rfl 1 rfl rfl ?_
  refine ze_ti C rfl (zp_dec rfl) kd_Pl_forget_107 rfl ?_
  refine zk_stk (r' := [.int 6, .int 1, .ref (S.1 26)]) rfl ?_
  refine zs_iast C 26 rfl (zp_dec rfl) kd_Pl_forget_108 rfl ?_
  refine zk_iinc (v := 2) (lv' := [(2, _), (1, _), (0, _)]) C kd_Pl_forget_109 1 rfl (by decide) (by decide) rfl rfl ?_
  refine zk_goto (tgt := 40) C kd_Pl_forget_112 (by decide) ?_
  refine zk_iload_n C kd_Pl_forget_40 rfl 0 rfl rfl ?_
  refine zk_bipush (v := 9) C kd_Pl_forget_41 (by decide) rfl ?_
  refine zk_icmp_ge (tgt := 115) C kd_Pl_forget_43 (by decide) rfl (fun h_23 => absurd h_23 (by decide)) (fun h_23 => ?_)
  refine zk_aload_n C kd_Pl_forget_46 rfl 2 rfl rfl ?_
  refine zk_iconst (v := 0) C kd_Pl_forget_47 (by decide) rfl ?_
  refine zk_bipush (v := 41) C kd_Pl_forget_48 (by decide) rfl ?_
  refine zk_iload_n C kd_Pl_forget_50 rfl 0 rfl rfl ?_
  refine zk_iadd C kd_Pl_forget_51 rfl ?_
  refine zk_stk (r' := [.int 43, .int 0, .ref (S.1 20)]) (by rw [show (41 : Int32) + 2 = 43 by decide]) ?_
  refine zk_iconst (v := (-1)) C kd_Pl_forget_52 (by decide) rfl ?_
  refine zs_callV (k := 20) (rn := { frames := 1, cells := 0, slots := 0, locals := 21 }) (As := [.int 0, .int 43, .int (-1)]) (rest := []) C (zl_open (zs_uM (zs_uM k10 25 ((1 : Int32)).toNatClampNeg 6) 26 ((1 : Int32)).toNatClampNeg 6) 2 8 43 p10 (by decide) (by decide)) ku_Pl_open kw1007 kv_Pl_open rfl ⟨by decide, by decide⟩ ⟨by decide, by decide⟩ rfl rfl rfl (Nat.le_of_ble_eq_true rfl) kd_Pl_forget_53 rfl (c1 := 0) (s1 := 0) rfl rfl (fun v w hp => ?_)
  obtain ⟨k11, rfl, rfl, p11, g11⟩ := hp
  have a11 := (((a10).uM (⟨by decide, by decide⟩)).uM (⟨by decide, by decide⟩)).tr g11
  refine zk_stk (r' := [.int (nI 2)]) rfl ?_
  refine zk_pop C kd_Pl_forget_56 rfl rfl ?_
  refine zk_iload_n C kd_Pl_forget_57 rfl 1 rfl rfl ?_
  refine zk_iconst (v := 4) C kd_Pl_forget_58 (by decide) rfl ?_
  refine zk_iadd C kd_Pl_forget_59 rfl ?_
  refine zk_stk (r' := [.int 44]) (by rw [show (40 : Int32) + 4 = 44 by decide]) ?_
  refine ze_gets (j := 1) C rfl kw1012 kd_Pl_forget_60 rfl ?_
  refine ze_tlen C rfl kd_Pl_forget_63 rfl ?_
  refine zk_stk (r' := [.int 160, .int 44]) rfl ?_
  refine zk_icmp_ge (tgt := 87) C kd_Pl_forget_64 (by decide) rfl (fun h_24 => absurd h_24 (by decide)) (fun h_24 => ?_)
  refine ze_gets (j := 1) C rfl kw1012 kd_Pl_forget_67 rfl ?_
  refine zk_iload_n C kd_Pl_forget_70 rfl 1 rfl rfl ?_
  refine ze_ti C rfl (zp_dec rfl) kd_Pl_forget_71 rfl ?_
  refine zk_stk (r' := [.int 2]) rfl ?_
  refine zk_iload_n C kd_Pl_forget_72 rfl 0 rfl rfl ?_
  refine zk_icmp_ne (tgt := 87) C kd_Pl_forget_73 (by decide) rfl (fun h_25 => absurd (by decide) h_25) (fun h_25 => ?_)
  refine zk_aload_n C kd_Pl_forget_76 rfl 2 rfl rfl ?_
  refine zk_iload_n C kd_Pl_forget_77 rfl 1 rfl rfl ?_
  refine zs_callV (k := 20) (rn := { frames := 2, cells := 0, slots := 0, locals := 44 }) (As := [.int 40]) (rest := []) C (zl_as40 k11 3 8 p11 (by decide) (by decide) (by decide)) ku_Pl_addStandard kw1014 kv_Pl_addStandard rfl ⟨by decide, by decide⟩ ⟨by decide, by decide⟩ rfl rfl rfl (Nat.le_of_ble_eq_true rfl) kd_Pl_forget_78 rfl (c1 := 0) (s1 := 0) rfl rfl (fun v w hp => ?_)
  obtain ⟨k12, rfl, rfl, p12, g12⟩ := hp
  have a12 := (a11).tr g12
  refine zk_stk (r' := []) rfl ?_
  refine zk_iinc (v := 45) (lv' := [(1, _), (2, _), (0, _)]) C kd_Pl_forget_81 1 rfl (by decide) (by decide) rfl rfl ?_
  refine zk_goto (tgt := 57) C kd_Pl_forget_84 (by decide) ?_
  refine zk_iload_n C kd_Pl_forget_57 rfl 0 rfl rfl ?_
  refine zk_iconst (v := 4) C kd_Pl_forget_58 (by decide) rfl ?_
  refine zk_iadd C kd_Pl_forget_59 rfl ?_
  refine zk_stk (r' := [.int 49]) (by rw [show (45 : Int32) + 4 = 49 by decide]) ?_
  refine ze_gets (j := 1) C rfl kw1012 kd_Pl_forget_60 rfl ?_
  refine ze_tlen C rfl kd_Pl_forget_63 rfl ?_
  refine zk_stk (r' := [.int 160, .int 49]) rfl ?_
  refine zk_icmp_ge (tgt := 87) C kd_Pl_forget_64 (by decide) rfl (fun h_26 => absurd h_26 (by decide)) (fun h_26 => ?_)
  refine ze_gets (j := 1) C rfl kw1012 kd_Pl_forget_67 rfl ?_
  refine zk_iload_n C kd_Pl_forget_70 rfl 0 rfl rfl ?_
  refine ze_ti C rfl (zp_dec rfl) kd_Pl_forget_71 rfl ?_
  refine zk_stk (r' := [.int 2]) rfl ?_
  refine zk_iload_n C kd_Pl_forget_72 rfl 1 rfl rfl ?_
  refine zk_icmp_ne (tgt := 87) C kd_Pl_forget_73 (by decide) rfl (fun h_27 => absurd (by decide) h_27) (fun h_27 => ?_)
  refine zk_aload_n C kd_Pl_forget_76 rfl 2 rfl rfl ?_
  refine zk_iload_n C kd_Pl_forget_77 rfl 0 rfl rfl ?_
  refine zs_callV (k := 20) (rn := { frames := 2, cells := 0, slots := 0, locals := 44 }) (As := [.int 45]) (rest := []) C (zl_as45 k12 3 9 p12 (by decide) (by decide) (by decide)) ku_Pl_addStandard kw1014 kv_Pl_addStandard rfl ⟨by decide, by decide⟩ ⟨by decide, by decide⟩ rfl rfl rfl (Nat.le_of_ble_eq_true rfl) kd_Pl_forget_78 rfl (c1 := 0) (s1 := 0) rfl rfl (fun v w hp => ?_)
  obtain ⟨k13, rfl, rfl, p13, g13⟩ := hp
  have a13 := (a12).tr g13
  refine zk_stk (r' := []) rfl ?_
  refine zk_iinc (v := 50) (lv' := [(1, _), (2, _), (0, _)]) C kd_Pl_forget_81 0 rfl (by decide) (by decide) rfl rfl ?_
  refine zk_goto (tgt := 57) C kd_Pl_forget_84 (by decide) ?_
  refine zk_iload_n C kd_Pl_forget_57 rfl 0 rfl rfl ?_
  refine zk_iconst (v := 4) C kd_Pl_forget_58 (by decide) rfl ?_
  refine zk_iadd C kd_Pl_forget_59 rfl ?_
  refine zk_stk (r' := [.int 54]) (by rw [show (50 : Int32) + 4 = 54 by decide]) ?_
  refine ze_gets (j := 1) C rfl kw1012 kd_Pl_forget_60 rfl ?_
  refine ze_tlen C rfl kd_Pl_forget_63 rfl ?_
  refine zk_stk (r' := [.int 160, .int 54]) rfl ?_
  refine zk_icmp_ge (tgt := 87) C kd_Pl_forget_64 (by decide) rfl (fun h_28 => absurd h_28 (by decide)) (fun h_28 => ?_)
  refine ze_gets (j := 1) C rfl kw1012 kd_Pl_forget_67 rfl ?_
  refine zk_iload_n C kd_Pl_forget_70 rfl 0 rfl rfl ?_
  refine ze_ti C rfl (zp_dec rfl) kd_Pl_forget_71 rfl ?_
  refine zk_stk (r' := [.int 2]) rfl ?_
  refine zk_iload_n C kd_Pl_forget_72 rfl 1 rfl rfl ?_
  refine zk_icmp_ne (tgt := 87) C kd_Pl_forget_73 (by decide) rfl (fun h_29 => absurd (by decide) h_29) (fun h_29 => ?_)
  refine zk_aload_n C kd_Pl_forget_76 rfl 2 rfl rfl ?_
  refine zk_iload_n C kd_Pl_forget_77 rfl 0 rfl rfl ?_
  refine zs_callV (k := 20) (rn := { frames := 2, cells := 0, slots := 0, locals := 44 }) (As := [.int 50]) (rest := []) C (zl_as50 k13 3 10 p13 (by decide) (by decide) (by decide)) ku_Pl_addStandard kw1014 kv_Pl_addStandard rfl ⟨by decide, by decide⟩ ⟨by decide, by decide⟩ rfl rfl rfl (Nat.le_of_ble_eq_true rfl) kd_Pl_forget_78 rfl (c1 := 0) (s1 := 0) rfl rfl (fun v w hp => ?_)
  obtain ⟨k14, rfl, rfl, p14, g14⟩ := hp
  have a14 := (a13).tr g14
  refine zk_stk (r' := []) rfl ?_
  refine zk_iinc (v := 55) (lv' := [(1, _), (2, _), (0, _)]) C kd_Pl_forget_81 0 rfl (by decide) (by decide) rfl rfl ?_
  refine zk_goto (tgt := 57) C kd_Pl_forget_84 (by decide) ?_
  refine zk_iload_n C kd_Pl_forget_57 rfl 0 rfl rfl ?_
  refine zk_iconst (v := 4) C kd_Pl_forget_58 (by decide) rfl ?_
  refine zk_iadd C kd_Pl_forget_59 rfl ?_
  refine zk_stk (r' := [.int 59]) (by rw [show (55 : Int32) + 4 = 59 by decide]) ?_
  refine ze_gets (j := 1) C rfl kw1012 kd_Pl_forget_60 rfl ?_
  refine ze_tlen C rfl kd_Pl_forget_63 rfl ?_
  refine zk_stk (r' := [.int 160, .int 59]) rfl ?_
  refine zk_icmp_ge (tgt := 87) C kd_Pl_forget_64 (by decide) rfl (fun h_30 => absurd h_30 (by decide)) (fun h_30 => ?_)
  refine ze_gets (j := 1) C rfl kw1012 kd_Pl_forget_67 rfl ?_
  refine zk_iload_n C kd_Pl_forget_70 rfl 0 rfl rfl ?_
  refine ze_ti C rfl (zp_dec rfl) kd_Pl_forget_71 rfl ?_
  refine zk_stk (r' := [.int 2]) rfl ?_
  refine zk_iload_n C kd_Pl_forget_72 rfl 1 rfl rfl ?_
  refine zk_icmp_ne (tgt := 87) C kd_Pl_forget_73 (by decide) rfl (fun h_31 => absurd (by decide) h_31) (fun h_31 => ?_)
  refine zk_aload_n C kd_Pl_forget_76 rfl 2 rfl rfl ?_
  refine zk_iload_n C kd_Pl_forget_77 rfl 0 rfl rfl ?_
  refine zs_callV (k := 20) (rn := { frames := 2, cells := 0, slots := 0, locals := 44 }) (As := [.int 55]) (rest := []) C (zl_as55 k14 3 11 p14 (by decide) (by decide) (by decide)) ku_Pl_addStandard kw1014 kv_Pl_addStandard rfl ⟨by decide, by decide⟩ ⟨by decide, by decide⟩ rfl rfl rfl (Nat.le_of_ble_eq_true rfl) kd_Pl_forget_78 rfl (c1 := 0) (s1 := 0) rfl rfl (fun v w hp => ?_)
  obtain ⟨k15, rfl, rfl, p15, g15⟩ := hp
  have a15 := (a14).tr g15
  refine zk_stk (r' := []) rfl ?_
  refine zk_iinc (v := 60) (lv' := [(1, _), (2, _), (0, _)]) C kd_Pl_forget_81 0 rfl (by decide) (by decide) rfl rfl ?_
  refine zk_goto (tgt := 57) C kd_Pl_forget_84 (by decide) ?_
  refine zk_iload_n C kd_Pl_forget_57 rfl 0 rfl rfl ?_
  refine zk_iconst (v := 4) C kd_Pl_forget_58 (by decide) rfl ?_
  refine zk_iadd C kd_Pl_forget_59 rfl ?_
  refine zk_stk (r' := [.int 64]) (by rw [show (60 : Int32) + 4 = 64 by decide]) ?_
  refine ze_gets (j := 1) C rfl kw1012 kd_Pl_forget_60 rfl ?_
  refine ze_tlen C rfl kd_Pl_forget_63 rfl ?_
  refine zk_stk (r' := [.int 160, .int 64]) rfl ?_
  refine zk_icmp_ge (tgt := 87) C kd_Pl_forget_64 (by decide) rfl (fun h_32 => absurd h_32 (by decide)) (fun h_32 => ?_)
  refine ze_gets (j := 1) C rfl kw1012 kd_Pl_forget_67 rfl ?_
  refine zk_iload_n C kd_Pl_forget_70 rfl 0 rfl rfl ?_
  refine ze_ti C rfl (zp_dec rfl) kd_Pl_forget_71 rfl ?_
  refine zk_stk (r' := [.int 3]) rfl ?_
  refine zk_iload_n C kd_Pl_forget_72 rfl 1 rfl rfl ?_
  refine zk_icmp_ne (tgt := 87) C kd_Pl_forget_73 (by decide) rfl (fun h_33 => ?_) (fun h_33 => absurd h_33 (by decide))
  refine zk_aload_n C kd_Pl_forget_87 rfl 2 rfl rfl ?_
  refine zs_get (v := .ref (S.1 25)) C 20 4 rfl rfl rfl rfl ki_Pl (by decide) kw246 kd_Pl_forget_88 rfl ?_
  refine zk_iload_n C kd_Pl_forget_91 rfl 1 rfl rfl ?_
  refine ze_gets (j := 2) C rfl kw1022 kd_Pl_forget_92 rfl ?_
  refine zk_iload_n C kd_Pl_forget_95 rfl 1 rfl rfl ?_
  refine ze_ti C rfl (zp_dec rfl) kd_Pl_forget_96 rfl ?_
  refine zk_stk (r' := [.int 6, .int 2, .ref (S.1 25)]) rfl ?_
  refine zs_iast C 25 rfl (zp_dec rfl) kd_Pl_forget_97 rfl ?_
  refine zk_aload_n C kd_Pl_forget_98 rfl 2 rfl rfl ?_
  refine zs_get (v := .ref (S.1 26)) C 20 5 rfl rfl rfl rfl ki_Pl (by decide) kw249 kd_Pl_forget_99 rfl ?_
  refine zk_iload_n C kd_Pl_forget_102 rfl 1 rfl rfl ?_
  refine ze_gets (j := 2) C rfl kw1022 kd_Pl_forget_103 rfl ?_
  refine zk_iload_n C kd_Pl_forget_106 rfl 1 rfl rfl ?_
  refine ze_ti C rfl (zp_dec rfl) kd_Pl_forget_107 rfl ?_
  refine zk_stk (r' := [.int 6, .int 2, .ref (S.1 26)]) rfl ?_
  refine zs_iast C 26 rfl (zp_dec rfl) kd_Pl_forget_108 rfl ?_
  refine zk_iinc (v := 3) (lv' := [(2, _), (1, _), (0, _)]) C kd_Pl_forget_109 1 rfl (by decide) (by decide) rfl rfl ?_
  refine zk_goto (tgt := 40) C kd_Pl_forget_112 (by decide) ?_
  refine zk_iload_n C kd_Pl_forget_40 rfl 0 rfl rfl ?_
  refine zk_bipush (v := 9) C kd_Pl_forget_41 (by decide) rfl ?_
  refine zk_icmp_ge (tgt := 115) C kd_Pl_forget_43 (by decide) rfl (fun h_34 => absurd h_34 (by decide)) (fun h_34 => ?_)
  refine zk_aload_n C kd_Pl_forget_46 rfl 2 rfl rfl ?_
  refine zk_iconst (v := 0) C kd_Pl_forget_47 (by decide) rfl ?_
  refine zk_bipush (v := 41) C kd_Pl_forget_48 (by decide) rfl ?_
  refine zk_iload_n C kd_Pl_forget_50 rfl 0 rfl rfl ?_
  refine zk_iadd C kd_Pl_forget_51 rfl ?_
  refine zk_stk (r' := [.int 44, .int 0, .ref (S.1 20)]) (by rw [show (41 : Int32) + 3 = 44 by decide]) ?_
  refine zk_iconst (v := (-1)) C kd_Pl_forget_52 (by decide) rfl ?_
  refine zs_callV (k := 20) (rn := { frames := 1, cells := 0, slots := 0, locals := 21 }) (As := [.int 0, .int 44, .int (-1)]) (rest := []) C (zl_open (zs_uM (zs_uM k15 25 ((2 : Int32)).toNatClampNeg 6) 26 ((2 : Int32)).toNatClampNeg 6) 3 12 44 p15 (by decide) (by decide)) ku_Pl_open kw1007 kv_Pl_open rfl ⟨by decide, by decide⟩ ⟨by decide, by decide⟩ rfl rfl rfl (Nat.le_of_ble_eq_true rfl) kd_Pl_forget_53 rfl (c1 := 0) (s1 := 0) rfl rfl (fun v w hp => ?_)
  obtain ⟨k16, rfl, rfl, p16, g16⟩ := hp
  have a16 := (((a15).uM (⟨by decide, by decide⟩)).uM (⟨by decide, by decide⟩)).tr g16
  refine zk_stk (r' := [.int (nI 3)]) rfl ?_
  refine zk_pop C kd_Pl_forget_56 rfl rfl ?_
  refine zk_iload_n C kd_Pl_forget_57 rfl 1 rfl rfl ?_
  refine zk_iconst (v := 4) C kd_Pl_forget_58 (by decide) rfl ?_
  refine zk_iadd C kd_Pl_forget_59 rfl ?_
  refine zk_stk (r' := [.int 64]) (by rw [show (60 : Int32) + 4 = 64 by decide]) ?_
  refine ze_gets (j := 1) C rfl kw1012 kd_Pl_forget_60 rfl ?_
  refine ze_tlen C rfl kd_Pl_forget_63 rfl ?_
  refine zk_stk (r' := [.int 160, .int 64]) rfl ?_
  refine zk_icmp_ge (tgt := 87) C kd_Pl_forget_64 (by decide) rfl (fun h_35 => absurd h_35 (by decide)) (fun h_35 => ?_)
  refine ze_gets (j := 1) C rfl kw1012 kd_Pl_forget_67 rfl ?_
  refine zk_iload_n C kd_Pl_forget_70 rfl 1 rfl rfl ?_
  refine ze_ti C rfl (zp_dec rfl) kd_Pl_forget_71 rfl ?_
  refine zk_stk (r' := [.int 3]) rfl ?_
  refine zk_iload_n C kd_Pl_forget_72 rfl 0 rfl rfl ?_
  refine zk_icmp_ne (tgt := 87) C kd_Pl_forget_73 (by decide) rfl (fun h_36 => absurd (by decide) h_36) (fun h_36 => ?_)
  refine zk_aload_n C kd_Pl_forget_76 rfl 2 rfl rfl ?_
  refine zk_iload_n C kd_Pl_forget_77 rfl 1 rfl rfl ?_
  refine zs_callV (k := 20) (rn := { frames := 2, cells := 0, slots := 0, locals := 44 }) (As := [.int 60]) (rest := []) C (zl_as60 k16 4 12 p16 (by decide) (by decide) (by decide)) ku_Pl_addStandard kw1014 kv_Pl_addStandard rfl ⟨by decide, by decide⟩ ⟨by decide, by decide⟩ rfl rfl rfl (Nat.le_of_ble_eq_true rfl) kd_Pl_forget_78 rfl (c1 := 0) (s1 := 0) rfl rfl (fun v w hp => ?_)
  obtain ⟨k17, rfl, rfl, p17, g17⟩ := hp
  have a17 := (a16).tr g17
  refine zk_stk (r' := []) rfl ?_
  refine zk_iinc (v := 65) (lv' := [(1, _), (2, _), (0, _)]) C kd_Pl_forget_81 1 rfl (by decide) (by decide) rfl rfl ?_
  refine zk_goto (tgt := 57) C kd_Pl_forget_84 (by decide) ?_
  refine zk_iload_n C kd_Pl_forget_57 rfl 0 rfl rfl ?_
  refine zk_iconst (v := 4) C kd_Pl_forget_58 (by decide) rfl ?_
  refine zk_iadd C kd_Pl_forget_59 rfl ?_
  refine zk_stk (r' := [.int 69]) (by rw [show (65 : Int32) + 4 = 69 by decide]) ?_
  refine ze_gets (j := 1) C rfl kw1012 kd_Pl_forget_60 rfl ?_
  refine ze_tlen C rfl kd_Pl_forget_63 rfl ?_
  refine zk_stk (r' := [.int 160, .int 69]) rfl ?_
  refine zk_icmp_ge (tgt := 87) C kd_Pl_forget_64 (by decide) rfl (fun h_37 => absurd h_37 (by decide)) (fun h_37 => ?_)
  refine ze_gets (j := 1) C rfl kw1012 kd_Pl_forget_67 rfl ?_
  refine zk_iload_n C kd_Pl_forget_70 rfl 0 rfl rfl ?_
  refine ze_ti C rfl (zp_dec rfl) kd_Pl_forget_71 rfl ?_
  refine zk_stk (r' := [.int 3]) rfl ?_
  refine zk_iload_n C kd_Pl_forget_72 rfl 1 rfl rfl ?_
  refine zk_icmp_ne (tgt := 87) C kd_Pl_forget_73 (by decide) rfl (fun h_38 => absurd (by decide) h_38) (fun h_38 => ?_)
  refine zk_aload_n C kd_Pl_forget_76 rfl 2 rfl rfl ?_
  refine zk_iload_n C kd_Pl_forget_77 rfl 0 rfl rfl ?_
  refine zs_callV (k := 20) (rn := { frames := 2, cells := 0, slots := 0, locals := 44 }) (As := [.int 65]) (rest := []) C (zl_as65 k17 4 13 p17 (by decide) (by decide) (by decide)) ku_Pl_addStandard kw1014 kv_Pl_addStandard rfl ⟨by decide, by decide⟩ ⟨by decide, by decide⟩ rfl rfl rfl (Nat.le_of_ble_eq_true rfl) kd_Pl_forget_78 rfl (c1 := 0) (s1 := 0) rfl rfl (fun v w hp => ?_)
  obtain ⟨k18, rfl, rfl, p18, g18⟩ := hp
  have a18 := (a17).tr g18
  refine zk_stk (r' := []) rfl ?_
  refine zk_iinc (v := 70) (lv' := [(1, _), (2, _), (0, _)]) C kd_Pl_forget_81 0 rfl (by decide) (by decide) rfl rfl ?_
  refine zk_goto (tgt := 57) C kd_Pl_forget_84 (by decide) ?_
  refine zk_iload_n C kd_Pl_forget_57 rfl 0 rfl rfl ?_
  refine zk_iconst (v := 4) C kd_Pl_forget_58 (by decide) rfl ?_
  refine zk_iadd C kd_Pl_forget_59 rfl ?_
  refine zk_stk (r' := [.int 74]) (by rw [show (70 : Int32) + 4 = 74 by decide]) ?_
  refine ze_gets (j := 1) C rfl kw1012 kd_Pl_forget_60 rfl ?_
  refine ze_tlen C rfl kd_Pl_forget_63 rfl ?_
  refine zk_stk (r' := [.int 160, .int 74]) rfl ?_
  refine zk_icmp_ge (tgt := 87) C kd_Pl_forget_64 (by decide) rfl (fun h_39 => absurd h_39 (by decide)) (fun h_39 => ?_)
  refine ze_gets (j := 1) C rfl kw1012 kd_Pl_forget_67 rfl ?_
  refine zk_iload_n C kd_Pl_forget_70 rfl 0 rfl rfl ?_
  refine ze_ti C rfl (zp_dec rfl) kd_Pl_forget_71 rfl ?_
  refine zk_stk (r' := [.int 3]) rfl ?_
  refine zk_iload_n C kd_Pl_forget_72 rfl 1 rfl rfl ?_
  refine zk_icmp_ne (tgt := 87) C kd_Pl_forget_73 (by decide) rfl (fun h_40 => absurd (by decide) h_40) (fun h_40 => ?_)
  refine zk_aload_n C kd_Pl_forget_76 rfl 2 rfl rfl ?_
  refine zk_iload_n C kd_Pl_forget_77 rfl 0 rfl rfl ?_
  refine zs_callV (k := 20) (rn := { frames := 2, cells := 0, slots := 0, locals := 44 }) (As := [.int 70]) (rest := []) C (zl_as70 k18 4 14 p18 (by decide) (by decide) (by decide)) ku_Pl_addStandard kw1014 kv_Pl_addStandard rfl ⟨by decide, by decide⟩ ⟨by decide, by decide⟩ rfl rfl rfl (Nat.le_of_ble_eq_true rfl) kd_Pl_forget_78 rfl (c1 := 0) (s1 := 0) rfl rfl (fun v w hp => ?_)
  obtain ⟨k19, rfl, rfl, p19, g19⟩ := hp
  have a19 := (a18).tr g19
  refine zk_stk (r' := []) rfl ?_
  refine zk_iinc (v := 75) (lv' := [(1, _), (2, _), (0, _)]) C kd_Pl_forget_81 0 rfl (by decide) (by decide) rfl rfl ?_
  refine zk_goto (tgt := 57) C kd_Pl_forget_84 (by decide) ?_
  refine zk_iload_n C kd_Pl_forget_57 rfl 0 rfl rfl ?_
  refine zk_iconst (v := 4) C kd_Pl_forget_58 (by decide) rfl ?_
  refine zk_iadd C kd_Pl_forget_59 rfl ?_
  refine zk_stk (r' := [.int 79]) (by rw [show (75 : Int32) + 4 = 79 by decide]) ?_
  refine ze_gets (j := 1) C rfl kw1012 kd_Pl_forget_60 rfl ?_
  refine ze_tlen C rfl kd_Pl_forget_63 rfl ?_
  refine zk_stk (r' := [.int 160, .int 79]) rfl ?_
  refine zk_icmp_ge (tgt := 87) C kd_Pl_forget_64 (by decide) rfl (fun h_41 => absurd h_41 (by decide)) (fun h_41 => ?_)
  refine ze_gets (j := 1) C rfl kw1012 kd_Pl_forget_67 rfl ?_
  refine zk_iload_n C kd_Pl_forget_70 rfl 0 rfl rfl ?_
  refine ze_ti C rfl (zp_dec rfl) kd_Pl_forget_71 rfl ?_
  refine zk_stk (r' := [.int 3]) rfl ?_
  refine zk_iload_n C kd_Pl_forget_72 rfl 1 rfl rfl ?_
  refine zk_icmp_ne (tgt := 87) C kd_Pl_forget_73 (by decide) rfl (fun h_42 => absurd (by decide) h_42) (fun h_42 => ?_)
  refine zk_aload_n C kd_Pl_forget_76 rfl 2 rfl rfl ?_
  refine zk_iload_n C kd_Pl_forget_77 rfl 0 rfl rfl ?_
  refine zs_callV (k := 20) (rn := { frames := 2, cells := 0, slots := 0, locals := 44 }) (As := [.int 75]) (rest := []) C (zl_as75 k19 4 15 p19 (by decide) (by decide) (by decide)) ku_Pl_addStandard kw1014 kv_Pl_addStandard rfl ⟨by decide, by decide⟩ ⟨by decide, by decide⟩ rfl rfl rfl (Nat.le_of_ble_eq_true rfl) kd_Pl_forget_78 rfl (c1 := 0) (s1 := 0) rfl rfl (fun v w hp => ?_)
  obtain ⟨k20, rfl, rfl, p20, g20⟩ := hp
  have a20 := (a19).tr g20
  refine zk_stk (r' := []) rfl ?_
  refine zk_iinc (v := 80) (lv' := [(1, _), (2, _), (0, _)]) C kd_Pl_forget_81 0 rfl (by decide) (by decide) rfl rfl ?_
  refine zk_goto (tgt := 57) C kd_Pl_forget_84 (by decide) ?_
  refine zk_iload_n C kd_Pl_forget_57 rfl 0 rfl rfl ?_
  refine zk_iconst (v := 4) C kd_Pl_forget_58 (by decide) rfl ?_
  refine zk_iadd C kd_Pl_forget_59 rfl ?_
  refine zk_stk (r' := [.int 84]) (by rw [show (80 : Int32) + 4 = 84 by decide]) ?_
  refine ze_gets (j := 1) C rfl kw1012 kd_Pl_forget_60 rfl ?_
  refine ze_tlen C rfl kd_Pl_forget_63 rfl ?_
  refine zk_stk (r' := [.int 160, .int 84]) rfl ?_
  refine zk_icmp_ge (tgt := 87) C kd_Pl_forget_64 (by decide) rfl (fun h_43 => absurd h_43 (by decide)) (fun h_43 => ?_)
  refine ze_gets (j := 1) C rfl kw1012 kd_Pl_forget_67 rfl ?_
  refine zk_iload_n C kd_Pl_forget_70 rfl 0 rfl rfl ?_
  refine ze_ti C rfl (zp_dec rfl) kd_Pl_forget_71 rfl ?_
  refine zk_stk (r' := [.int 3]) rfl ?_
  refine zk_iload_n C kd_Pl_forget_72 rfl 1 rfl rfl ?_
  refine zk_icmp_ne (tgt := 87) C kd_Pl_forget_73 (by decide) rfl (fun h_44 => absurd (by decide) h_44) (fun h_44 => ?_)
  refine zk_aload_n C kd_Pl_forget_76 rfl 2 rfl rfl ?_
  refine zk_iload_n C kd_Pl_forget_77 rfl 0 rfl rfl ?_
  refine zs_callV (k := 20) (rn := { frames := 2, cells := 0, slots := 0, locals := 44 }) (As := [.int 80]) (rest := []) C (zl_as80 k20 4 16 p20 (by decide) (by decide) (by decide)) ku_Pl_addStandard kw1014 kv_Pl_addStandard rfl ⟨by decide, by decide⟩ ⟨by decide, by decide⟩ rfl rfl rfl (Nat.le_of_ble_eq_true rfl) kd_Pl_forget_78 rfl (c1 := 0) (s1 := 0) rfl rfl (fun v w hp => ?_)
  obtain ⟨k21, rfl, rfl, p21, g21⟩ := hp
  have a21 := (a20).tr g21
  refine zk_stk (r' := []) rfl ?_
  refine zk_iinc (v := 85) (lv' := [(1, _), (2, _), (0, _)]) C kd_Pl_forget_81 0 rfl (by decide) (by decide) rfl rfl ?_
  refine zk_goto (tgt := 57) C kd_Pl_forget_84 (by decide) ?_
  refine zk_iload_n C kd_Pl_forget_57 rfl 0 rfl rfl ?_
  refine zk_iconst (v := 4) C kd_Pl_forget_58 (by decide) rfl ?_
  refine zk_iadd C kd_Pl_forget_59 rfl ?_
  refine zk_stk (r' := [.int 89]) (by rw [show (85 : Int32) + 4 = 89 by decide]) ?_
  refine ze_gets (j := 1) C rfl kw1012 kd_Pl_forget_60 rfl ?_
  refine ze_tlen C rfl kd_Pl_forget_63 rfl ?_
  refine zk_stk (r' := [.int 160, .int 89]) rfl ?_
  refine zk_icmp_ge (tgt := 87) C kd_Pl_forget_64 (by decide) rfl (fun h_45 => absurd h_45 (by decide)) (fun h_45 => ?_)
  refine ze_gets (j := 1) C rfl kw1012 kd_Pl_forget_67 rfl ?_
  refine zk_iload_n C kd_Pl_forget_70 rfl 0 rfl rfl ?_
  refine ze_ti C rfl (zp_dec rfl) kd_Pl_forget_71 rfl ?_
  refine zk_stk (r' := [.int 4]) rfl ?_
  refine zk_iload_n C kd_Pl_forget_72 rfl 1 rfl rfl ?_
  refine zk_icmp_ne (tgt := 87) C kd_Pl_forget_73 (by decide) rfl (fun h_46 => ?_) (fun h_46 => absurd h_46 (by decide))
  refine zk_aload_n C kd_Pl_forget_87 rfl 2 rfl rfl ?_
  refine zs_get (v := .ref (S.1 25)) C 20 4 rfl rfl rfl rfl ki_Pl (by decide) kw246 kd_Pl_forget_88 rfl ?_
  refine zk_iload_n C kd_Pl_forget_91 rfl 1 rfl rfl ?_
  refine ze_gets (j := 2) C rfl kw1022 kd_Pl_forget_92 rfl ?_
  refine zk_iload_n C kd_Pl_forget_95 rfl 1 rfl rfl ?_
  refine ze_ti C rfl (zp_dec rfl) kd_Pl_forget_96 rfl ?_
  refine zk_stk (r' := [.int 6, .int 3, .ref (S.1 25)]) rfl ?_
  refine zs_iast C 25 rfl (zp_dec rfl) kd_Pl_forget_97 rfl ?_
  refine zk_aload_n C kd_Pl_forget_98 rfl 2 rfl rfl ?_
  refine zs_get (v := .ref (S.1 26)) C 20 5 rfl rfl rfl rfl ki_Pl (by decide) kw249 kd_Pl_forget_99 rfl ?_
  refine zk_iload_n C kd_Pl_forget_102 rfl 1 rfl rfl ?_
  refine ze_gets (j := 2) C rfl kw1022 kd_Pl_forget_103 rfl ?_
  refine zk_iload_n C kd_Pl_forget_106 rfl 1 rfl rfl ?_
  refine ze_ti C rfl (zp_dec rfl) kd_Pl_forget_107 rfl ?_
  refine zk_stk (r' := [.int 6, .int 3, .ref (S.1 26)]) rfl ?_
  refine zs_iast C 26 rfl (zp_dec rfl) kd_Pl_forget_108 rfl ?_
  refine zk_iinc (v := 4) (lv' := [(2, _), (1, _), (0, _)]) C kd_Pl_forget_109 1 rfl (by decide) (by decide) rfl rfl ?_
  refine zk_goto (tgt := 40) C kd_Pl_forget_112 (by decide) ?_
  refine zk_iload_n C kd_Pl_forget_40 rfl 0 rfl rfl ?_
  refine zk_bipush (v := 9) C kd_Pl_forget_41 (by decide) rfl ?_
  refine zk_icmp_ge (tgt := 115) C kd_Pl_forget_43 (by decide) rfl (fun h_47 => absurd h_47 (by decide)) (fun h_47 => ?_)
  refine zk_aload_n C kd_Pl_forget_46 rfl 2 rfl rfl ?_
  refine zk_iconst (v := 0) C kd_Pl_forget_47 (by decide) rfl ?_
  refine zk_bipush (v := 41) C kd_Pl_forget_48 (by decide) rfl ?_
  refine zk_iload_n C kd_Pl_forget_50 rfl 0 rfl rfl ?_
  refine zk_iadd C kd_Pl_forget_51 rfl ?_
  refine zk_stk (r' := [.int 45, .int 0, .ref (S.1 20)]) (by rw [show (41 : Int32) + 4 = 45 by decide]) ?_
  refine zk_iconst (v := (-1)) C kd_Pl_forget_52 (by decide) rfl ?_
  refine zs_callV (k := 20) (rn := { frames := 1, cells := 0, slots := 0, locals := 21 }) (As := [.int 0, .int 45, .int (-1)]) (rest := []) C (zl_open (zs_uM (zs_uM k21 25 ((3 : Int32)).toNatClampNeg 6) 26 ((3 : Int32)).toNatClampNeg 6) 4 17 45 p21 (by decide) (by decide)) ku_Pl_open kw1007 kv_Pl_open rfl ⟨by decide, by decide⟩ ⟨by decide, by decide⟩ rfl rfl rfl (Nat.le_of_ble_eq_true rfl) kd_Pl_forget_53 rfl (c1 := 0) (s1 := 0) rfl rfl (fun v w hp => ?_)
  obtain ⟨k22, rfl, rfl, p22, g22⟩ := hp
  have a22 := (((a21).uM (⟨by decide, by decide⟩)).uM (⟨by decide, by decide⟩)).tr g22
  refine zk_stk (r' := [.int (nI 4)]) rfl ?_
  refine zk_pop C kd_Pl_forget_56 rfl rfl ?_
  refine zk_iload_n C kd_Pl_forget_57 rfl 1 rfl rfl ?_
  refine zk_iconst (v := 4) C kd_Pl_forget_58 (by decide) rfl ?_
  refine zk_iadd C kd_Pl_forget_59 rfl ?_
  refine zk_stk (r' := [.int 89]) (by rw [show (85 : Int32) + 4 = 89 by decide]) ?_
  refine ze_gets (j := 1) C rfl kw1012 kd_Pl_forget_60 rfl ?_
  refine ze_tlen C rfl kd_Pl_forget_63 rfl ?_
  refine zk_stk (r' := [.int 160, .int 89]) rfl ?_
  refine zk_icmp_ge (tgt := 87) C kd_Pl_forget_64 (by decide) rfl (fun h_48 => absurd h_48 (by decide)) (fun h_48 => ?_)
  refine ze_gets (j := 1) C rfl kw1012 kd_Pl_forget_67 rfl ?_
  refine zk_iload_n C kd_Pl_forget_70 rfl 1 rfl rfl ?_
  refine ze_ti C rfl (zp_dec rfl) kd_Pl_forget_71 rfl ?_
  refine zk_stk (r' := [.int 4]) rfl ?_
  refine zk_iload_n C kd_Pl_forget_72 rfl 0 rfl rfl ?_
  refine zk_icmp_ne (tgt := 87) C kd_Pl_forget_73 (by decide) rfl (fun h_49 => absurd (by decide) h_49) (fun h_49 => ?_)
  refine zk_aload_n C kd_Pl_forget_76 rfl 2 rfl rfl ?_
  refine zk_iload_n C kd_Pl_forget_77 rfl 1 rfl rfl ?_
  refine zs_callV (k := 20) (rn := { frames := 2, cells := 0, slots := 0, locals := 44 }) (As := [.int 85]) (rest := []) C (zl_as85 k22 5 17 p22 (by decide) (by decide) (by decide)) ku_Pl_addStandard kw1014 kv_Pl_addStandard rfl ⟨by decide, by decide⟩ ⟨by decide, by decide⟩ rfl rfl rfl (Nat.le_of_ble_eq_true rfl) kd_Pl_forget_78 rfl (c1 := 0) (s1 := 0) rfl rfl (fun v w hp => ?_)
  obtain ⟨k23, rfl, rfl, p23, g23⟩ := hp
  have a23 := (a22).tr g23
  refine zk_stk (r' := []) rfl ?_
  refine zk_iinc (v := 90) (lv' := [(1, _), (2, _), (0, _)]) C kd_Pl_forget_81 1 rfl (by decide) (by decide) rfl rfl ?_
  refine zk_goto (tgt := 57) C kd_Pl_forget_84 (by decide) ?_
  refine zk_iload_n C kd_Pl_forget_57 rfl 0 rfl rfl ?_
  refine zk_iconst (v := 4) C kd_Pl_forget_58 (by decide) rfl ?_
  refine zk_iadd C kd_Pl_forget_59 rfl ?_
  refine zk_stk (r' := [.int 94]) (by rw [show (90 : Int32) + 4 = 94 by decide]) ?_
  refine ze_gets (j := 1) C rfl kw1012 kd_Pl_forget_60 rfl ?_
  refine ze_tlen C rfl kd_Pl_forget_63 rfl ?_
  refine zk_stk (r' := [.int 160, .int 94]) rfl ?_
  refine zk_icmp_ge (tgt := 87) C kd_Pl_forget_64 (by decide) rfl (fun h_50 => absurd h_50 (by decide)) (fun h_50 => ?_)
  refine ze_gets (j := 1) C rfl kw1012 kd_Pl_forget_67 rfl ?_
  refine zk_iload_n C kd_Pl_forget_70 rfl 0 rfl rfl ?_
  refine ze_ti C rfl (zp_dec rfl) kd_Pl_forget_71 rfl ?_
  refine zk_stk (r' := [.int 4]) rfl ?_
  refine zk_iload_n C kd_Pl_forget_72 rfl 1 rfl rfl ?_
  refine zk_icmp_ne (tgt := 87) C kd_Pl_forget_73 (by decide) rfl (fun h_51 => absurd (by decide) h_51) (fun h_51 => ?_)
  refine zk_aload_n C kd_Pl_forget_76 rfl 2 rfl rfl ?_
  refine zk_iload_n C kd_Pl_forget_77 rfl 0 rfl rfl ?_
  refine zs_callV (k := 20) (rn := { frames := 2, cells := 0, slots := 0, locals := 44 }) (As := [.int 90]) (rest := []) C (zl_as90 k23 5 18 p23 (by decide) (by decide) (by decide)) ku_Pl_addStandard kw1014 kv_Pl_addStandard rfl ⟨by decide, by decide⟩ ⟨by decide, by decide⟩ rfl rfl rfl (Nat.le_of_ble_eq_true rfl) kd_Pl_forget_78 rfl (c1 := 0) (s1 := 0) rfl rfl (fun v w hp => ?_)
  obtain ⟨k24, rfl, rfl, p24, g24⟩ := hp
  have a24 := (a23).tr g24
  refine zk_stk (r' := []) rfl ?_
  refine zk_iinc (v := 95) (lv' := [(1, _), (2, _), (0, _)]) C kd_Pl_forget_81 0 rfl (by decide) (by decide) rfl rfl ?_
  refine zk_goto (tgt := 57) C kd_Pl_forget_84 (by decide) ?_
  refine zk_iload_n C kd_Pl_forget_57 rfl 0 rfl rfl ?_
  refine zk_iconst (v := 4) C kd_Pl_forget_58 (by decide) rfl ?_
  refine zk_iadd C kd_Pl_forget_59 rfl ?_
  refine zk_stk (r' := [.int 99]) (by rw [show (95 : Int32) + 4 = 99 by decide]) ?_
  refine ze_gets (j := 1) C rfl kw1012 kd_Pl_forget_60 rfl ?_
  refine ze_tlen C rfl kd_Pl_forget_63 rfl ?_
  refine zk_stk (r' := [.int 160, .int 99]) rfl ?_
  refine zk_icmp_ge (tgt := 87) C kd_Pl_forget_64 (by decide) rfl (fun h_52 => absurd h_52 (by decide)) (fun h_52 => ?_)
  refine ze_gets (j := 1) C rfl kw1012 kd_Pl_forget_67 rfl ?_
  refine zk_iload_n C kd_Pl_forget_70 rfl 0 rfl rfl ?_
  refine ze_ti C rfl (zp_dec rfl) kd_Pl_forget_71 rfl ?_
  refine zk_stk (r' := [.int 4]) rfl ?_
  refine zk_iload_n C kd_Pl_forget_72 rfl 1 rfl rfl ?_
  refine zk_icmp_ne (tgt := 87) C kd_Pl_forget_73 (by decide) rfl (fun h_53 => absurd (by decide) h_53) (fun h_53 => ?_)
  refine zk_aload_n C kd_Pl_forget_76 rfl 2 rfl rfl ?_
  refine zk_iload_n C kd_Pl_forget_77 rfl 0 rfl rfl ?_
  refine zs_callV (k := 20) (rn := { frames := 2, cells := 0, slots := 0, locals := 44 }) (As := [.int 95]) (rest := []) C (zl_as95 k24 5 19 p24 (by decide) (by decide) (by decide)) ku_Pl_addStandard kw1014 kv_Pl_addStandard rfl ⟨by decide, by decide⟩ ⟨by decide, by decide⟩ rfl rfl rfl (Nat.le_of_ble_eq_true rfl) kd_Pl_forget_78 rfl (c1 := 0) (s1 := 0) rfl rfl (fun v w hp => ?_)
  obtain ⟨k25, rfl, rfl, p25, g25⟩ := hp
  have a25 := (a24).tr g25
  refine zk_stk (r' := []) rfl ?_
  refine zk_iinc (v := 100) (lv' := [(1, _), (2, _), (0, _)]) C kd_Pl_forget_81 0 rfl (by decide) (by decide) rfl rfl ?_
  refine zk_goto (tgt := 57) C kd_Pl_forget_84 (by decide) ?_
  refine zk_iload_n C kd_Pl_forget_57 rfl 0 rfl rfl ?_
  refine zk_iconst (v := 4) C kd_Pl_forget_58 (by decide) rfl ?_
  refine zk_iadd C kd_Pl_forget_59 rfl ?_
  refine zk_stk (r' := [.int 104]) (by rw [show (100 : Int32) + 4 = 104 by decide]) ?_
  refine ze_gets (j := 1) C rfl kw1012 kd_Pl_forget_60 rfl ?_
  refine ze_tlen C rfl kd_Pl_forget_63 rfl ?_
  refine zk_stk (r' := [.int 160, .int 104]) rfl ?_
  refine zk_icmp_ge (tgt := 87) C kd_Pl_forget_64 (by decide) rfl (fun h_54 => absurd h_54 (by decide)) (fun h_54 => ?_)
  refine ze_gets (j := 1) C rfl kw1012 kd_Pl_forget_67 rfl ?_
  refine zk_iload_n C kd_Pl_forget_70 rfl 0 rfl rfl ?_
  refine ze_ti C rfl (zp_dec rfl) kd_Pl_forget_71 rfl ?_
  refine zk_stk (r' := [.int 4]) rfl ?_
  refine zk_iload_n C kd_Pl_forget_72 rfl 1 rfl rfl ?_
  refine zk_icmp_ne (tgt := 87) C kd_Pl_forget_73 (by decide) rfl (fun h_55 => absurd (by decide) h_55) (fun h_55 => ?_)
  refine zk_aload_n C kd_Pl_forget_76 rfl 2 rfl rfl ?_
  refine zk_iload_n C kd_Pl_forget_77 rfl 0 rfl rfl ?_
  refine zs_callV (k := 20) (rn := { frames := 2, cells := 0, slots := 0, locals := 44 }) (As := [.int 100]) (rest := []) C (zl_as100 k25 5 20 p25 (by decide) (by decide) (by decide)) ku_Pl_addStandard kw1014 kv_Pl_addStandard rfl ⟨by decide, by decide⟩ ⟨by decide, by decide⟩ rfl rfl rfl (Nat.le_of_ble_eq_true rfl) kd_Pl_forget_78 rfl (c1 := 0) (s1 := 0) rfl rfl (fun v w hp => ?_)
  obtain ⟨k26, rfl, rfl, p26, g26⟩ := hp
  have a26 := (a25).tr g26
  refine zk_stk (r' := []) rfl ?_
  refine zk_iinc (v := 105) (lv' := [(1, _), (2, _), (0, _)]) C kd_Pl_forget_81 0 rfl (by decide) (by decide) rfl rfl ?_
  refine zk_goto (tgt := 57) C kd_Pl_forget_84 (by decide) ?_
  refine zk_iload_n C kd_Pl_forget_57 rfl 0 rfl rfl ?_
  refine zk_iconst (v := 4) C kd_Pl_forget_58 (by decide) rfl ?_
  refine zk_iadd C kd_Pl_forget_59 rfl ?_
  refine zk_stk (r' := [.int 109]) (by rw [show (105 : Int32) + 4 = 109 by decide]) ?_
  refine ze_gets (j := 1) C rfl kw1012 kd_Pl_forget_60 rfl ?_
  refine ze_tlen C rfl kd_Pl_forget_63 rfl ?_
  refine zk_stk (r' := [.int 160, .int 109]) rfl ?_
  refine zk_icmp_ge (tgt := 87) C kd_Pl_forget_64 (by decide) rfl (fun h_56 => absurd h_56 (by decide)) (fun h_56 => ?_)
  refine ze_gets (j := 1) C rfl kw1012 kd_Pl_forget_67 rfl ?_
  refine zk_iload_n C kd_Pl_forget_70 rfl 0 rfl rfl ?_
  refine ze_ti C rfl (zp_dec rfl) kd_Pl_forget_71 rfl ?_
  refine zk_stk (r' := [.int 4]) rfl ?_
  refine zk_iload_n C kd_Pl_forget_72 rfl 1 rfl rfl ?_
  refine zk_icmp_ne (tgt := 87) C kd_Pl_forget_73 (by decide) rfl (fun h_57 => absurd (by decide) h_57) (fun h_57 => ?_)
  refine zk_aload_n C kd_Pl_forget_76 rfl 2 rfl rfl ?_
  refine zk_iload_n C kd_Pl_forget_77 rfl 0 rfl rfl ?_
  refine zs_callV (k := 20) (rn := { frames := 2, cells := 0, slots := 0, locals := 44 }) (As := [.int 105]) (rest := []) C (zl_as105 k26 5 21 p26 (by decide) (by decide) (by decide)) ku_Pl_addStandard kw1014 kv_Pl_addStandard rfl ⟨by decide, by decide⟩ ⟨by decide, by decide⟩ rfl rfl rfl (Nat.le_of_ble_eq_true rfl) kd_Pl_forget_78 rfl (c1 := 0) (s1 := 0) rfl rfl (fun v w hp => ?_)
  obtain ⟨k27, rfl, rfl, p27, g27⟩ := hp
  have a27 := (a26).tr g27
  refine zk_stk (r' := []) rfl ?_
  refine zk_iinc (v := 110) (lv' := [(1, _), (2, _), (0, _)]) C kd_Pl_forget_81 0 rfl (by decide) (by decide) rfl rfl ?_
  refine zk_goto (tgt := 57) C kd_Pl_forget_84 (by decide) ?_
  refine zk_iload_n C kd_Pl_forget_57 rfl 0 rfl rfl ?_
  refine zk_iconst (v := 4) C kd_Pl_forget_58 (by decide) rfl ?_
  refine zk_iadd C kd_Pl_forget_59 rfl ?_
  refine zk_stk (r' := [.int 114]) (by rw [show (110 : Int32) + 4 = 114 by decide]) ?_
  refine ze_gets (j := 1) C rfl kw1012 kd_Pl_forget_60 rfl ?_
  refine ze_tlen C rfl kd_Pl_forget_63 rfl ?_
  refine zk_stk (r' := [.int 160, .int 114]) rfl ?_
  refine zk_icmp_ge (tgt := 87) C kd_Pl_forget_64 (by decide) rfl (fun h_58 => absurd h_58 (by decide)) (fun h_58 => ?_)
  refine ze_gets (j := 1) C rfl kw1012 kd_Pl_forget_67 rfl ?_
  refine zk_iload_n C kd_Pl_forget_70 rfl 0 rfl rfl ?_
  refine ze_ti C rfl (zp_dec rfl) kd_Pl_forget_71 rfl ?_
  refine zk_stk (r' := [.int 5]) rfl ?_
  refine zk_iload_n C kd_Pl_forget_72 rfl 1 rfl rfl ?_
  refine zk_icmp_ne (tgt := 87) C kd_Pl_forget_73 (by decide) rfl (fun h_59 => ?_) (fun h_59 => absurd h_59 (by decide))
  refine zk_aload_n C kd_Pl_forget_87 rfl 2 rfl rfl ?_
  refine zs_get (v := .ref (S.1 25)) C 20 4 rfl rfl rfl rfl ki_Pl (by decide) kw246 kd_Pl_forget_88 rfl ?_
  refine zk_iload_n C kd_Pl_forget_91 rfl 1 rfl rfl ?_
  refine ze_gets (j := 2) C rfl kw1022 kd_Pl_forget_92 rfl ?_
  refine zk_iload_n C kd_Pl_forget_95 rfl 1 rfl rfl ?_
  refine ze_ti C rfl (zp_dec rfl) kd_Pl_forget_96 rfl ?_
  refine zk_stk (r' := [.int 6, .int 4, .ref (S.1 25)]) rfl ?_
  refine zs_iast C 25 rfl (zp_dec rfl) kd_Pl_forget_97 rfl ?_
  refine zk_aload_n C kd_Pl_forget_98 rfl 2 rfl rfl ?_
  refine zs_get (v := .ref (S.1 26)) C 20 5 rfl rfl rfl rfl ki_Pl (by decide) kw249 kd_Pl_forget_99 rfl ?_
  refine zk_iload_n C kd_Pl_forget_102 rfl 1 rfl rfl ?_
  refine ze_gets (j := 2) C rfl kw1022 kd_Pl_forget_103 rfl ?_
  refine zk_iload_n C kd_Pl_forget_106 rfl 1 rfl rfl ?_
  refine ze_ti C rfl (zp_dec rfl) kd_Pl_forget_107 rfl ?_
  refine zk_stk (r' := [.int 6, .int 4, .ref (S.1 26)]) rfl ?_
  refine zs_iast C 26 rfl (zp_dec rfl) kd_Pl_forget_108 rfl ?_
  refine zk_iinc (v := 5) (lv' := [(2, _), (1, _), (0, _)]) C kd_Pl_forget_109 1 rfl (by decide) (by decide) rfl rfl ?_
  refine zk_goto (tgt := 40) C kd_Pl_forget_112 (by decide) ?_
  refine zk_iload_n C kd_Pl_forget_40 rfl 0 rfl rfl ?_
  refine zk_bipush (v := 9) C kd_Pl_forget_41 (by decide) rfl ?_
  refine zk_icmp_ge (tgt := 115) C kd_Pl_forget_43 (by decide) rfl (fun h_60 => absurd h_60 (by decide)) (fun h_60 => ?_)
  refine zk_aload_n C kd_Pl_forget_46 rfl 2 rfl rfl ?_
  refine zk_iconst (v := 0) C kd_Pl_forget_47 (by decide) rfl ?_
  refine zk_bipush (v := 41) C kd_Pl_forget_48 (by decide) rfl ?_
  refine zk_iload_n C kd_Pl_forget_50 rfl 0 rfl rfl ?_
  refine zk_iadd C kd_Pl_forget_51 rfl ?_
  refine zk_stk (r' := [.int 46, .int 0, .ref (S.1 20)]) (by rw [show (41 : Int32) + 5 = 46 by decide]) ?_
  refine zk_iconst (v := (-1)) C kd_Pl_forget_52 (by decide) rfl ?_
  refine zs_callV (k := 20) (rn := { frames := 1, cells := 0, slots := 0, locals := 21 }) (As := [.int 0, .int 46, .int (-1)]) (rest := []) C (zl_open (zs_uM (zs_uM k27 25 ((4 : Int32)).toNatClampNeg 6) 26 ((4 : Int32)).toNatClampNeg 6) 5 22 46 p27 (by decide) (by decide)) ku_Pl_open kw1007 kv_Pl_open rfl ⟨by decide, by decide⟩ ⟨by decide, by decide⟩ rfl rfl rfl (Nat.le_of_ble_eq_true rfl) kd_Pl_forget_53 rfl (c1 := 0) (s1 := 0) rfl rfl (fun v w hp => ?_)
  obtain ⟨k28, rfl, rfl, p28, g28⟩ := hp
  have a28 := (((a27).uM (⟨by decide, by decide⟩)).uM (⟨by decide, by decide⟩)).tr g28
  refine zk_stk (r' := [.int (nI 5)]) rfl ?_
  refine zk_pop C kd_Pl_forget_56 rfl rfl ?_
  refine zk_iload_n C kd_Pl_forget_57 rfl 1 rfl rfl ?_
  refine zk_iconst (v := 4) C kd_Pl_forget_58 (by decide) rfl ?_
  refine zk_iadd C kd_Pl_forget_59 rfl ?_
  refine zk_stk (r' := [.int 114]) (by rw [show (110 : Int32) + 4 = 114 by decide]) ?_
  refine ze_gets (j := 1) C rfl kw1012 kd_Pl_forget_60 rfl ?_
  refine ze_tlen C rfl kd_Pl_forget_63 rfl ?_
  refine zk_stk (r' := [.int 160, .int 114]) rfl ?_
  refine zk_icmp_ge (tgt := 87) C kd_Pl_forget_64 (by decide) rfl (fun h_61 => absurd h_61 (by decide)) (fun h_61 => ?_)
  refine ze_gets (j := 1) C rfl kw1012 kd_Pl_forget_67 rfl ?_
  refine zk_iload_n C kd_Pl_forget_70 rfl 1 rfl rfl ?_
  refine ze_ti C rfl (zp_dec rfl) kd_Pl_forget_71 rfl ?_
  refine zk_stk (r' := [.int 5]) rfl ?_
  refine zk_iload_n C kd_Pl_forget_72 rfl 0 rfl rfl ?_
  refine zk_icmp_ne (tgt := 87) C kd_Pl_forget_73 (by decide) rfl (fun h_62 => absurd (by decide) h_62) (fun h_62 => ?_)
  refine zk_aload_n C kd_Pl_forget_76 rfl 2 rfl rfl ?_
  refine zk_iload_n C kd_Pl_forget_77 rfl 1 rfl rfl ?_
  refine zs_callV (k := 20) (rn := { frames := 2, cells := 0, slots := 0, locals := 44 }) (As := [.int 110]) (rest := []) C (zl_as110 k28 6 22 p28 (by decide) (by decide) (by decide)) ku_Pl_addStandard kw1014 kv_Pl_addStandard rfl ⟨by decide, by decide⟩ ⟨by decide, by decide⟩ rfl rfl rfl (Nat.le_of_ble_eq_true rfl) kd_Pl_forget_78 rfl (c1 := 0) (s1 := 0) rfl rfl (fun v w hp => ?_)
  obtain ⟨k29, rfl, rfl, p29, g29⟩ := hp
  have a29 := (a28).tr g29
  refine zk_stk (r' := []) rfl ?_
  refine zk_iinc (v := 115) (lv' := [(1, _), (2, _), (0, _)]) C kd_Pl_forget_81 1 rfl (by decide) (by decide) rfl rfl ?_
  refine zk_goto (tgt := 57) C kd_Pl_forget_84 (by decide) ?_
  refine zk_iload_n C kd_Pl_forget_57 rfl 0 rfl rfl ?_
  refine zk_iconst (v := 4) C kd_Pl_forget_58 (by decide) rfl ?_
  refine zk_iadd C kd_Pl_forget_59 rfl ?_
  refine zk_stk (r' := [.int 119]) (by rw [show (115 : Int32) + 4 = 119 by decide]) ?_
  refine ze_gets (j := 1) C rfl kw1012 kd_Pl_forget_60 rfl ?_
  refine ze_tlen C rfl kd_Pl_forget_63 rfl ?_
  refine zk_stk (r' := [.int 160, .int 119]) rfl ?_
  refine zk_icmp_ge (tgt := 87) C kd_Pl_forget_64 (by decide) rfl (fun h_63 => absurd h_63 (by decide)) (fun h_63 => ?_)
  refine ze_gets (j := 1) C rfl kw1012 kd_Pl_forget_67 rfl ?_
  refine zk_iload_n C kd_Pl_forget_70 rfl 0 rfl rfl ?_
  refine ze_ti C rfl (zp_dec rfl) kd_Pl_forget_71 rfl ?_
  refine zk_stk (r' := [.int 5]) rfl ?_
  refine zk_iload_n C kd_Pl_forget_72 rfl 1 rfl rfl ?_
  refine zk_icmp_ne (tgt := 87) C kd_Pl_forget_73 (by decide) rfl (fun h_64 => absurd (by decide) h_64) (fun h_64 => ?_)
  refine zk_aload_n C kd_Pl_forget_76 rfl 2 rfl rfl ?_
  refine zk_iload_n C kd_Pl_forget_77 rfl 0 rfl rfl ?_
  refine zs_callV (k := 20) (rn := { frames := 2, cells := 0, slots := 0, locals := 44 }) (As := [.int 115]) (rest := []) C (zl_as115 k29 6 23 p29 (by decide) (by decide) (by decide)) ku_Pl_addStandard kw1014 kv_Pl_addStandard rfl ⟨by decide, by decide⟩ ⟨by decide, by decide⟩ rfl rfl rfl (Nat.le_of_ble_eq_true rfl) kd_Pl_forget_78 rfl (c1 := 0) (s1 := 0) rfl rfl (fun v w hp => ?_)
  obtain ⟨k30, rfl, rfl, p30, g30⟩ := hp
  have a30 := (a29).tr g30
  refine zk_stk (r' := []) rfl ?_
  refine zk_iinc (v := 120) (lv' := [(1, _), (2, _), (0, _)]) C kd_Pl_forget_81 0 rfl (by decide) (by decide) rfl rfl ?_
  refine zk_goto (tgt := 57) C kd_Pl_forget_84 (by decide) ?_
  refine zk_iload_n C kd_Pl_forget_57 rfl 0 rfl rfl ?_
  refine zk_iconst (v := 4) C kd_Pl_forget_58 (by decide) rfl ?_
  refine zk_iadd C kd_Pl_forget_59 rfl ?_
  refine zk_stk (r' := [.int 124]) (by rw [show (120 : Int32) + 4 = 124 by decide]) ?_
  refine ze_gets (j := 1) C rfl kw1012 kd_Pl_forget_60 rfl ?_
  refine ze_tlen C rfl kd_Pl_forget_63 rfl ?_
  refine zk_stk (r' := [.int 160, .int 124]) rfl ?_
  refine zk_icmp_ge (tgt := 87) C kd_Pl_forget_64 (by decide) rfl (fun h_65 => absurd h_65 (by decide)) (fun h_65 => ?_)
  refine ze_gets (j := 1) C rfl kw1012 kd_Pl_forget_67 rfl ?_
  refine zk_iload_n C kd_Pl_forget_70 rfl 0 rfl rfl ?_
  refine ze_ti C rfl (zp_dec rfl) kd_Pl_forget_71 rfl ?_
  refine zk_stk (r' := [.int 6]) rfl ?_
  refine zk_iload_n C kd_Pl_forget_72 rfl 1 rfl rfl ?_
  refine zk_icmp_ne (tgt := 87) C kd_Pl_forget_73 (by decide) rfl (fun h_66 => ?_) (fun h_66 => absurd h_66 (by decide))
  refine zk_aload_n C kd_Pl_forget_87 rfl 2 rfl rfl ?_
  refine zs_get (v := .ref (S.1 25)) C 20 4 rfl rfl rfl rfl ki_Pl (by decide) kw246 kd_Pl_forget_88 rfl ?_
  refine zk_iload_n C kd_Pl_forget_91 rfl 1 rfl rfl ?_
  refine ze_gets (j := 2) C rfl kw1022 kd_Pl_forget_92 rfl ?_
  refine zk_iload_n C kd_Pl_forget_95 rfl 1 rfl rfl ?_
  refine ze_ti C rfl (zp_dec rfl) kd_Pl_forget_96 rfl ?_
  refine zk_stk (r' := [.int 3, .int 5, .ref (S.1 25)]) rfl ?_
  refine zs_iast C 25 rfl (zp_dec rfl) kd_Pl_forget_97 rfl ?_
  refine zk_aload_n C kd_Pl_forget_98 rfl 2 rfl rfl ?_
  refine zs_get (v := .ref (S.1 26)) C 20 5 rfl rfl rfl rfl ki_Pl (by decide) kw249 kd_Pl_forget_99 rfl ?_
  refine zk_iload_n C kd_Pl_forget_102 rfl 1 rfl rfl ?_
  refine ze_gets (j := 2) C rfl kw1022 kd_Pl_forget_103 rfl ?_
  refine zk_iload_n C kd_Pl_forget_106 rfl 1 rfl rfl ?_
  refine ze_ti C rfl (zp_dec rfl) kd_Pl_forget_107 rfl ?_
  refine zk_stk (r' := [.int 3, .int 5, .ref (S.1 26)]) rfl ?_
  refine zs_iast C 26 rfl (zp_dec rfl) kd_Pl_forget_108 rfl ?_
  refine zk_iinc (v := 6) (lv' := [(2, _), (1, _), (0, _)]) C kd_Pl_forget_109 1 rfl (by decide) (by decide) rfl rfl ?_
  refine zk_goto (tgt := 40) C kd_Pl_forget_112 (by decide) ?_
  refine zk_iload_n C kd_Pl_forget_40 rfl 0 rfl rfl ?_
  refine zk_bipush (v := 9) C kd_Pl_forget_41 (by decide) rfl ?_
  refine zk_icmp_ge (tgt := 115) C kd_Pl_forget_43 (by decide) rfl (fun h_67 => absurd h_67 (by decide)) (fun h_67 => ?_)
  refine zk_aload_n C kd_Pl_forget_46 rfl 2 rfl rfl ?_
  refine zk_iconst (v := 0) C kd_Pl_forget_47 (by decide) rfl ?_
  refine zk_bipush (v := 41) C kd_Pl_forget_48 (by decide) rfl ?_
  refine zk_iload_n C kd_Pl_forget_50 rfl 0 rfl rfl ?_
  refine zk_iadd C kd_Pl_forget_51 rfl ?_
  refine zk_stk (r' := [.int 47, .int 0, .ref (S.1 20)]) (by rw [show (41 : Int32) + 6 = 47 by decide]) ?_
  refine zk_iconst (v := (-1)) C kd_Pl_forget_52 (by decide) rfl ?_
  refine zs_callV (k := 20) (rn := { frames := 1, cells := 0, slots := 0, locals := 21 }) (As := [.int 0, .int 47, .int (-1)]) (rest := []) C (zl_open (zs_uM (zs_uM k30 25 ((5 : Int32)).toNatClampNeg 3) 26 ((5 : Int32)).toNatClampNeg 3) 6 24 47 p30 (by decide) (by decide)) ku_Pl_open kw1007 kv_Pl_open rfl ⟨by decide, by decide⟩ ⟨by decide, by decide⟩ rfl rfl rfl (Nat.le_of_ble_eq_true rfl) kd_Pl_forget_53 rfl (c1 := 0) (s1 := 0) rfl rfl (fun v w hp => ?_)
  obtain ⟨k31, rfl, rfl, p31, g31⟩ := hp
  have a31 := (((a30).uM (⟨by decide, by decide⟩)).uM (⟨by decide, by decide⟩)).tr g31
  refine zk_stk (r' := [.int (nI 6)]) rfl ?_
  refine zk_pop C kd_Pl_forget_56 rfl rfl ?_
  refine zk_iload_n C kd_Pl_forget_57 rfl 1 rfl rfl ?_
  refine zk_iconst (v := 4) C kd_Pl_forget_58 (by decide) rfl ?_
  refine zk_iadd C kd_Pl_forget_59 rfl ?_
  refine zk_stk (r' := [.int 124]) (by rw [show (120 : Int32) + 4 = 124 by decide]) ?_
  refine ze_gets (j := 1) C rfl kw1012 kd_Pl_forget_60 rfl ?_
  refine ze_tlen C rfl kd_Pl_forget_63 rfl ?_
  refine zk_stk (r' := [.int 160, .int 124]) rfl ?_
  refine zk_icmp_ge (tgt := 87) C kd_Pl_forget_64 (by decide) rfl (fun h_68 => absurd h_68 (by decide)) (fun h_68 => ?_)
  refine ze_gets (j := 1) C rfl kw1012 kd_Pl_forget_67 rfl ?_
  refine zk_iload_n C kd_Pl_forget_70 rfl 1 rfl rfl ?_
  refine ze_ti C rfl (zp_dec rfl) kd_Pl_forget_71 rfl ?_
  refine zk_stk (r' := [.int 6]) rfl ?_
  refine zk_iload_n C kd_Pl_forget_72 rfl 0 rfl rfl ?_
  refine zk_icmp_ne (tgt := 87) C kd_Pl_forget_73 (by decide) rfl (fun h_69 => absurd (by decide) h_69) (fun h_69 => ?_)
  refine zk_aload_n C kd_Pl_forget_76 rfl 2 rfl rfl ?_
  refine zk_iload_n C kd_Pl_forget_77 rfl 1 rfl rfl ?_
  refine zs_callV (k := 20) (rn := { frames := 2, cells := 0, slots := 0, locals := 44 }) (As := [.int 120]) (rest := []) C (zl_as120 k31 7 24 p31 (by decide) (by decide) (by decide)) ku_Pl_addStandard kw1014 kv_Pl_addStandard rfl ⟨by decide, by decide⟩ ⟨by decide, by decide⟩ rfl rfl rfl (Nat.le_of_ble_eq_true rfl) kd_Pl_forget_78 rfl (c1 := 0) (s1 := 0) rfl rfl (fun v w hp => ?_)
  obtain ⟨k32, rfl, rfl, p32, g32⟩ := hp
  have a32 := (a31).tr g32
  refine zk_stk (r' := []) rfl ?_
  refine zk_iinc (v := 125) (lv' := [(1, _), (2, _), (0, _)]) C kd_Pl_forget_81 1 rfl (by decide) (by decide) rfl rfl ?_
  refine zk_goto (tgt := 57) C kd_Pl_forget_84 (by decide) ?_
  refine zk_iload_n C kd_Pl_forget_57 rfl 0 rfl rfl ?_
  refine zk_iconst (v := 4) C kd_Pl_forget_58 (by decide) rfl ?_
  refine zk_iadd C kd_Pl_forget_59 rfl ?_
  refine zk_stk (r' := [.int 129]) (by rw [show (125 : Int32) + 4 = 129 by decide]) ?_
  refine ze_gets (j := 1) C rfl kw1012 kd_Pl_forget_60 rfl ?_
  refine ze_tlen C rfl kd_Pl_forget_63 rfl ?_
  refine zk_stk (r' := [.int 160, .int 129]) rfl ?_
  refine zk_icmp_ge (tgt := 87) C kd_Pl_forget_64 (by decide) rfl (fun h_70 => absurd h_70 (by decide)) (fun h_70 => ?_)
  refine ze_gets (j := 1) C rfl kw1012 kd_Pl_forget_67 rfl ?_
  refine zk_iload_n C kd_Pl_forget_70 rfl 0 rfl rfl ?_
  refine ze_ti C rfl (zp_dec rfl) kd_Pl_forget_71 rfl ?_
  refine zk_stk (r' := [.int 6]) rfl ?_
  refine zk_iload_n C kd_Pl_forget_72 rfl 1 rfl rfl ?_
  refine zk_icmp_ne (tgt := 87) C kd_Pl_forget_73 (by decide) rfl (fun h_71 => absurd (by decide) h_71) (fun h_71 => ?_)
  refine zk_aload_n C kd_Pl_forget_76 rfl 2 rfl rfl ?_
  refine zk_iload_n C kd_Pl_forget_77 rfl 0 rfl rfl ?_
  refine zs_callV (k := 20) (rn := { frames := 2, cells := 0, slots := 0, locals := 44 }) (As := [.int 125]) (rest := []) C (zl_as125 k32 7 25 p32 (by decide) (by decide) (by decide)) ku_Pl_addStandard kw1014 kv_Pl_addStandard rfl ⟨by decide, by decide⟩ ⟨by decide, by decide⟩ rfl rfl rfl (Nat.le_of_ble_eq_true rfl) kd_Pl_forget_78 rfl (c1 := 0) (s1 := 0) rfl rfl (fun v w hp => ?_)
  obtain ⟨k33, rfl, rfl, p33, g33⟩ := hp
  have a33 := (a32).tr g33
  refine zk_stk (r' := []) rfl ?_
  refine zk_iinc (v := 130) (lv' := [(1, _), (2, _), (0, _)]) C kd_Pl_forget_81 0 rfl (by decide) (by decide) rfl rfl ?_
  refine zk_goto (tgt := 57) C kd_Pl_forget_84 (by decide) ?_
  refine zk_iload_n C kd_Pl_forget_57 rfl 0 rfl rfl ?_
  refine zk_iconst (v := 4) C kd_Pl_forget_58 (by decide) rfl ?_
  refine zk_iadd C kd_Pl_forget_59 rfl ?_
  refine zk_stk (r' := [.int 134]) (by rw [show (130 : Int32) + 4 = 134 by decide]) ?_
  refine ze_gets (j := 1) C rfl kw1012 kd_Pl_forget_60 rfl ?_
  refine ze_tlen C rfl kd_Pl_forget_63 rfl ?_
  refine zk_stk (r' := [.int 160, .int 134]) rfl ?_
  refine zk_icmp_ge (tgt := 87) C kd_Pl_forget_64 (by decide) rfl (fun h_72 => absurd h_72 (by decide)) (fun h_72 => ?_)
  refine ze_gets (j := 1) C rfl kw1012 kd_Pl_forget_67 rfl ?_
  refine zk_iload_n C kd_Pl_forget_70 rfl 0 rfl rfl ?_
  refine ze_ti C rfl (zp_dec rfl) kd_Pl_forget_71 rfl ?_
  refine zk_stk (r' := [.int 7]) rfl ?_
  refine zk_iload_n C kd_Pl_forget_72 rfl 1 rfl rfl ?_
  refine zk_icmp_ne (tgt := 87) C kd_Pl_forget_73 (by decide) rfl (fun h_73 => ?_) (fun h_73 => absurd h_73 (by decide))
  refine zk_aload_n C kd_Pl_forget_87 rfl 2 rfl rfl ?_
  refine zs_get (v := .ref (S.1 25)) C 20 4 rfl rfl rfl rfl ki_Pl (by decide) kw246 kd_Pl_forget_88 rfl ?_
  refine zk_iload_n C kd_Pl_forget_91 rfl 1 rfl rfl ?_
  refine ze_gets (j := 2) C rfl kw1022 kd_Pl_forget_92 rfl ?_
  refine zk_iload_n C kd_Pl_forget_95 rfl 1 rfl rfl ?_
  refine ze_ti C rfl (zp_dec rfl) kd_Pl_forget_96 rfl ?_
  refine zk_stk (r' := [.int 3, .int 6, .ref (S.1 25)]) rfl ?_
  refine zs_iast C 25 rfl (zp_dec rfl) kd_Pl_forget_97 rfl ?_
  refine zk_aload_n C kd_Pl_forget_98 rfl 2 rfl rfl ?_
  refine zs_get (v := .ref (S.1 26)) C 20 5 rfl rfl rfl rfl ki_Pl (by decide) kw249 kd_Pl_forget_99 rfl ?_
  refine zk_iload_n C kd_Pl_forget_102 rfl 1 rfl rfl ?_
  refine ze_gets (j := 2) C rfl kw1022 kd_Pl_forget_103 rfl ?_
  refine zk_iload_n C kd_Pl_forget_106 rfl 1 rfl rfl ?_
  refine ze_ti C rfl (zp_dec rfl) kd_Pl_forget_107 rfl ?_
  refine zk_stk (r' := [.int 3, .int 6, .ref (S.1 26)]) rfl ?_
  refine zs_iast C 26 rfl (zp_dec rfl) kd_Pl_forget_108 rfl ?_
  refine zk_iinc (v := 7) (lv' := [(2, _), (1, _), (0, _)]) C kd_Pl_forget_109 1 rfl (by decide) (by decide) rfl rfl ?_
  refine zk_goto (tgt := 40) C kd_Pl_forget_112 (by decide) ?_
  refine zk_iload_n C kd_Pl_forget_40 rfl 0 rfl rfl ?_
  refine zk_bipush (v := 9) C kd_Pl_forget_41 (by decide) rfl ?_
  refine zk_icmp_ge (tgt := 115) C kd_Pl_forget_43 (by decide) rfl (fun h_74 => absurd h_74 (by decide)) (fun h_74 => ?_)
  refine zk_aload_n C kd_Pl_forget_46 rfl 2 rfl rfl ?_
  refine zk_iconst (v := 0) C kd_Pl_forget_47 (by decide) rfl ?_
  refine zk_bipush (v := 41) C kd_Pl_forget_48 (by decide) rfl ?_
  refine zk_iload_n C kd_Pl_forget_50 rfl 0 rfl rfl ?_
  refine zk_iadd C kd_Pl_forget_51 rfl ?_
  refine zk_stk (r' := [.int 48, .int 0, .ref (S.1 20)]) (by rw [show (41 : Int32) + 7 = 48 by decide]) ?_
  refine zk_iconst (v := (-1)) C kd_Pl_forget_52 (by decide) rfl ?_
  refine zs_callV (k := 20) (rn := { frames := 1, cells := 0, slots := 0, locals := 21 }) (As := [.int 0, .int 48, .int (-1)]) (rest := []) C (zl_open (zs_uM (zs_uM k33 25 ((6 : Int32)).toNatClampNeg 3) 26 ((6 : Int32)).toNatClampNeg 3) 7 26 48 p33 (by decide) (by decide)) ku_Pl_open kw1007 kv_Pl_open rfl ⟨by decide, by decide⟩ ⟨by decide, by decide⟩ rfl rfl rfl (Nat.le_of_ble_eq_true rfl) kd_Pl_forget_53 rfl (c1 := 0) (s1 := 0) rfl rfl (fun v w hp => ?_)
  obtain ⟨k34, rfl, rfl, p34, g34⟩ := hp
  have a34 := (((a33).uM (⟨by decide, by decide⟩)).uM (⟨by decide, by decide⟩)).tr g34
  refine zk_stk (r' := [.int (nI 7)]) rfl ?_
  refine zk_pop C kd_Pl_forget_56 rfl rfl ?_
  refine zk_iload_n C kd_Pl_forget_57 rfl 1 rfl rfl ?_
  refine zk_iconst (v := 4) C kd_Pl_forget_58 (by decide) rfl ?_
  refine zk_iadd C kd_Pl_forget_59 rfl ?_
  refine zk_stk (r' := [.int 134]) (by rw [show (130 : Int32) + 4 = 134 by decide]) ?_
  refine ze_gets (j := 1) C rfl kw1012 kd_Pl_forget_60 rfl ?_
  refine ze_tlen C rfl kd_Pl_forget_63 rfl ?_
  refine zk_stk (r' := [.int 160, .int 134]) rfl ?_
  refine zk_icmp_ge (tgt := 87) C kd_Pl_forget_64 (by decide) rfl (fun h_75 => absurd h_75 (by decide)) (fun h_75 => ?_)
  refine ze_gets (j := 1) C rfl kw1012 kd_Pl_forget_67 rfl ?_
  refine zk_iload_n C kd_Pl_forget_70 rfl 1 rfl rfl ?_
  refine ze_ti C rfl (zp_dec rfl) kd_Pl_forget_71 rfl ?_
  refine zk_stk (r' := [.int 7]) rfl ?_
  refine zk_iload_n C kd_Pl_forget_72 rfl 0 rfl rfl ?_
  refine zk_icmp_ne (tgt := 87) C kd_Pl_forget_73 (by decide) rfl (fun h_76 => absurd (by decide) h_76) (fun h_76 => ?_)
  refine zk_aload_n C kd_Pl_forget_76 rfl 2 rfl rfl ?_
  refine zk_iload_n C kd_Pl_forget_77 rfl 1 rfl rfl ?_
  refine zs_callV (k := 20) (rn := { frames := 2, cells := 0, slots := 0, locals := 44 }) (As := [.int 130]) (rest := []) C (zl_as130 k34 8 26 p34 (by decide) (by decide) (by decide)) ku_Pl_addStandard kw1014 kv_Pl_addStandard rfl ⟨by decide, by decide⟩ ⟨by decide, by decide⟩ rfl rfl rfl (Nat.le_of_ble_eq_true rfl) kd_Pl_forget_78 rfl (c1 := 0) (s1 := 0) rfl rfl (fun v w hp => ?_)
  obtain ⟨k35, rfl, rfl, p35, g35⟩ := hp
  have a35 := (a34).tr g35
  refine zk_stk (r' := []) rfl ?_
  refine zk_iinc (v := 135) (lv' := [(1, _), (2, _), (0, _)]) C kd_Pl_forget_81 1 rfl (by decide) (by decide) rfl rfl ?_
  refine zk_goto (tgt := 57) C kd_Pl_forget_84 (by decide) ?_
  refine zk_iload_n C kd_Pl_forget_57 rfl 0 rfl rfl ?_
  refine zk_iconst (v := 4) C kd_Pl_forget_58 (by decide) rfl ?_
  refine zk_iadd C kd_Pl_forget_59 rfl ?_
  refine zk_stk (r' := [.int 139]) (by rw [show (135 : Int32) + 4 = 139 by decide]) ?_
  refine ze_gets (j := 1) C rfl kw1012 kd_Pl_forget_60 rfl ?_
  refine ze_tlen C rfl kd_Pl_forget_63 rfl ?_
  refine zk_stk (r' := [.int 160, .int 139]) rfl ?_
  refine zk_icmp_ge (tgt := 87) C kd_Pl_forget_64 (by decide) rfl (fun h_77 => absurd h_77 (by decide)) (fun h_77 => ?_)
  refine ze_gets (j := 1) C rfl kw1012 kd_Pl_forget_67 rfl ?_
  refine zk_iload_n C kd_Pl_forget_70 rfl 0 rfl rfl ?_
  refine ze_ti C rfl (zp_dec rfl) kd_Pl_forget_71 rfl ?_
  refine zk_stk (r' := [.int 7]) rfl ?_
  refine zk_iload_n C kd_Pl_forget_72 rfl 1 rfl rfl ?_
  refine zk_icmp_ne (tgt := 87) C kd_Pl_forget_73 (by decide) rfl (fun h_78 => absurd (by decide) h_78) (fun h_78 => ?_)
  refine zk_aload_n C kd_Pl_forget_76 rfl 2 rfl rfl ?_
  refine zk_iload_n C kd_Pl_forget_77 rfl 0 rfl rfl ?_
  refine zs_callV (k := 20) (rn := { frames := 2, cells := 0, slots := 0, locals := 44 }) (As := [.int 135]) (rest := []) C (zl_as135 k35 8 27 p35 (by decide) (by decide) (by decide)) ku_Pl_addStandard kw1014 kv_Pl_addStandard rfl ⟨by decide, by decide⟩ ⟨by decide, by decide⟩ rfl rfl rfl (Nat.le_of_ble_eq_true rfl) kd_Pl_forget_78 rfl (c1 := 0) (s1 := 0) rfl rfl (fun v w hp => ?_)
  obtain ⟨k36, rfl, rfl, p36, g36⟩ := hp
  have a36 := (a35).tr g36
  refine zk_stk (r' := []) rfl ?_
  refine zk_iinc (v := 140) (lv' := [(1, _), (2, _), (0, _)]) C kd_Pl_forget_81 0 rfl (by decide) (by decide) rfl rfl ?_
  refine zk_goto (tgt := 57) C kd_Pl_forget_84 (by decide) ?_
  refine zk_iload_n C kd_Pl_forget_57 rfl 0 rfl rfl ?_
  refine zk_iconst (v := 4) C kd_Pl_forget_58 (by decide) rfl ?_
  refine zk_iadd C kd_Pl_forget_59 rfl ?_
  refine zk_stk (r' := [.int 144]) (by rw [show (140 : Int32) + 4 = 144 by decide]) ?_
  refine ze_gets (j := 1) C rfl kw1012 kd_Pl_forget_60 rfl ?_
  refine ze_tlen C rfl kd_Pl_forget_63 rfl ?_
  refine zk_stk (r' := [.int 160, .int 144]) rfl ?_
  refine zk_icmp_ge (tgt := 87) C kd_Pl_forget_64 (by decide) rfl (fun h_79 => absurd h_79 (by decide)) (fun h_79 => ?_)
  refine ze_gets (j := 1) C rfl kw1012 kd_Pl_forget_67 rfl ?_
  refine zk_iload_n C kd_Pl_forget_70 rfl 0 rfl rfl ?_
  refine ze_ti C rfl (zp_dec rfl) kd_Pl_forget_71 rfl ?_
  refine zk_stk (r' := [.int 7]) rfl ?_
  refine zk_iload_n C kd_Pl_forget_72 rfl 1 rfl rfl ?_
  refine zk_icmp_ne (tgt := 87) C kd_Pl_forget_73 (by decide) rfl (fun h_80 => absurd (by decide) h_80) (fun h_80 => ?_)
  refine zk_aload_n C kd_Pl_forget_76 rfl 2 rfl rfl ?_
  refine zk_iload_n C kd_Pl_forget_77 rfl 0 rfl rfl ?_
  refine zs_callV (k := 20) (rn := { frames := 2, cells := 0, slots := 0, locals := 44 }) (As := [.int 140]) (rest := []) C (zl_as140 k36 8 28 p36 (by decide) (by decide) (by decide)) ku_Pl_addStandard kw1014 kv_Pl_addStandard rfl ⟨by decide, by decide⟩ ⟨by decide, by decide⟩ rfl rfl rfl (Nat.le_of_ble_eq_true rfl) kd_Pl_forget_78 rfl (c1 := 0) (s1 := 0) rfl rfl (fun v w hp => ?_)
  obtain ⟨k37, rfl, rfl, p37, g37⟩ := hp
  have a37 := (a36).tr g37
  refine zk_stk (r' := []) rfl ?_
  refine zk_iinc (v := 145) (lv' := [(1, _), (2, _), (0, _)]) C kd_Pl_forget_81 0 rfl (by decide) (by decide) rfl rfl ?_
  refine zk_goto (tgt := 57) C kd_Pl_forget_84 (by decide) ?_
  refine zk_iload_n C kd_Pl_forget_57 rfl 0 rfl rfl ?_
  refine zk_iconst (v := 4) C kd_Pl_forget_58 (by decide) rfl ?_
  refine zk_iadd C kd_Pl_forget_59 rfl ?_
  refine zk_stk (r' := [.int 149]) (by rw [show (145 : Int32) + 4 = 149 by decide]) ?_
  refine ze_gets (j := 1) C rfl kw1012 kd_Pl_forget_60 rfl ?_
  refine ze_tlen C rfl kd_Pl_forget_63 rfl ?_
  refine zk_stk (r' := [.int 160, .int 149]) rfl ?_
  refine zk_icmp_ge (tgt := 87) C kd_Pl_forget_64 (by decide) rfl (fun h_81 => absurd h_81 (by decide)) (fun h_81 => ?_)
  refine ze_gets (j := 1) C rfl kw1012 kd_Pl_forget_67 rfl ?_
  refine zk_iload_n C kd_Pl_forget_70 rfl 0 rfl rfl ?_
  refine ze_ti C rfl (zp_dec rfl) kd_Pl_forget_71 rfl ?_
  refine zk_stk (r' := [.int 8]) rfl ?_
  refine zk_iload_n C kd_Pl_forget_72 rfl 1 rfl rfl ?_
  refine zk_icmp_ne (tgt := 87) C kd_Pl_forget_73 (by decide) rfl (fun h_82 => ?_) (fun h_82 => absurd h_82 (by decide))
  refine zk_aload_n C kd_Pl_forget_87 rfl 2 rfl rfl ?_
  refine zs_get (v := .ref (S.1 25)) C 20 4 rfl rfl rfl rfl ki_Pl (by decide) kw246 kd_Pl_forget_88 rfl ?_
  refine zk_iload_n C kd_Pl_forget_91 rfl 1 rfl rfl ?_
  refine ze_gets (j := 2) C rfl kw1022 kd_Pl_forget_92 rfl ?_
  refine zk_iload_n C kd_Pl_forget_95 rfl 1 rfl rfl ?_
  refine ze_ti C rfl (zp_dec rfl) kd_Pl_forget_96 rfl ?_
  refine zk_stk (r' := [.int 3, .int 7, .ref (S.1 25)]) rfl ?_
  refine zs_iast C 25 rfl (zp_dec rfl) kd_Pl_forget_97 rfl ?_
  refine zk_aload_n C kd_Pl_forget_98 rfl 2 rfl rfl ?_
  refine zs_get (v := .ref (S.1 26)) C 20 5 rfl rfl rfl rfl ki_Pl (by decide) kw249 kd_Pl_forget_99 rfl ?_
  refine zk_iload_n C kd_Pl_forget_102 rfl 1 rfl rfl ?_
  refine ze_gets (j := 2) C rfl kw1022 kd_Pl_forget_103 rfl ?_
  refine zk_iload_n C kd_Pl_forget_106 rfl 1 rfl rfl ?_
  refine ze_ti C rfl (zp_dec rfl) kd_Pl_forget_107 rfl ?_
  refine zk_stk (r' := [.int 3, .int 7, .ref (S.1 26)]) rfl ?_
  refine zs_iast C 26 rfl (zp_dec rfl) kd_Pl_forget_108 rfl ?_
  refine zk_iinc (v := 8) (lv' := [(2, _), (1, _), (0, _)]) C kd_Pl_forget_109 1 rfl (by decide) (by decide) rfl rfl ?_
  refine zk_goto (tgt := 40) C kd_Pl_forget_112 (by decide) ?_
  refine zk_iload_n C kd_Pl_forget_40 rfl 0 rfl rfl ?_
  refine zk_bipush (v := 9) C kd_Pl_forget_41 (by decide) rfl ?_
  refine zk_icmp_ge (tgt := 115) C kd_Pl_forget_43 (by decide) rfl (fun h_83 => absurd h_83 (by decide)) (fun h_83 => ?_)
  refine zk_aload_n C kd_Pl_forget_46 rfl 2 rfl rfl ?_
  refine zk_iconst (v := 0) C kd_Pl_forget_47 (by decide) rfl ?_
  refine zk_bipush (v := 41) C kd_Pl_forget_48 (by decide) rfl ?_
  refine zk_iload_n C kd_Pl_forget_50 rfl 0 rfl rfl ?_
  refine zk_iadd C kd_Pl_forget_51 rfl ?_
  refine zk_stk (r' := [.int 49, .int 0, .ref (S.1 20)]) (by rw [show (41 : Int32) + 8 = 49 by decide]) ?_
  refine zk_iconst (v := (-1)) C kd_Pl_forget_52 (by decide) rfl ?_
  refine zs_callV (k := 20) (rn := { frames := 1, cells := 0, slots := 0, locals := 21 }) (As := [.int 0, .int 49, .int (-1)]) (rest := []) C (zl_open (zs_uM (zs_uM k37 25 ((7 : Int32)).toNatClampNeg 3) 26 ((7 : Int32)).toNatClampNeg 3) 8 29 49 p37 (by decide) (by decide)) ku_Pl_open kw1007 kv_Pl_open rfl ⟨by decide, by decide⟩ ⟨by decide, by decide⟩ rfl rfl rfl (Nat.le_of_ble_eq_true rfl) kd_Pl_forget_53 rfl (c1 := 0) (s1 := 0) rfl rfl (fun v w hp => ?_)
  obtain ⟨k38, rfl, rfl, p38, g38⟩ := hp
  have a38 := (((a37).uM (⟨by decide, by decide⟩)).uM (⟨by decide, by decide⟩)).tr g38
  refine zk_stk (r' := [.int (nI 8)]) rfl ?_
  refine zk_pop C kd_Pl_forget_56 rfl rfl ?_
  refine zk_iload_n C kd_Pl_forget_57 rfl 1 rfl rfl ?_
  refine zk_iconst (v := 4) C kd_Pl_forget_58 (by decide) rfl ?_
  refine zk_iadd C kd_Pl_forget_59 rfl ?_
  refine zk_stk (r' := [.int 149]) (by rw [show (145 : Int32) + 4 = 149 by decide]) ?_
  refine ze_gets (j := 1) C rfl kw1012 kd_Pl_forget_60 rfl ?_
  refine ze_tlen C rfl kd_Pl_forget_63 rfl ?_
  refine zk_stk (r' := [.int 160, .int 149]) rfl ?_
  refine zk_icmp_ge (tgt := 87) C kd_Pl_forget_64 (by decide) rfl (fun h_84 => absurd h_84 (by decide)) (fun h_84 => ?_)
  refine ze_gets (j := 1) C rfl kw1012 kd_Pl_forget_67 rfl ?_
  refine zk_iload_n C kd_Pl_forget_70 rfl 1 rfl rfl ?_
  refine ze_ti C rfl (zp_dec rfl) kd_Pl_forget_71 rfl ?_
  refine zk_stk (r' := [.int 8]) rfl ?_
  refine zk_iload_n C kd_Pl_forget_72 rfl 0 rfl rfl ?_
  refine zk_icmp_ne (tgt := 87) C kd_Pl_forget_73 (by decide) rfl (fun h_85 => absurd (by decide) h_85) (fun h_85 => ?_)
  refine zk_aload_n C kd_Pl_forget_76 rfl 2 rfl rfl ?_
  refine zk_iload_n C kd_Pl_forget_77 rfl 1 rfl rfl ?_
  refine zs_callV (k := 20) (rn := { frames := 2, cells := 0, slots := 0, locals := 44 }) (As := [.int 145]) (rest := []) C (zl_as145 k38 9 29 p38 (by decide) (by decide) (by decide)) ku_Pl_addStandard kw1014 kv_Pl_addStandard rfl ⟨by decide, by decide⟩ ⟨by decide, by decide⟩ rfl rfl rfl (Nat.le_of_ble_eq_true rfl) kd_Pl_forget_78 rfl (c1 := 0) (s1 := 0) rfl rfl (fun v w hp => ?_)
  obtain ⟨k39, rfl, rfl, p39, g39⟩ := hp
  have a39 := (a38).tr g39
  refine zk_stk (r' := []) rfl ?_
  refine zk_iinc (v := 150) (lv' := [(1, _), (2, _), (0, _)]) C kd_Pl_forget_81 1 rfl (by decide) (by decide) rfl rfl ?_
  refine zk_goto (tgt := 57) C kd_Pl_forget_84 (by decide) ?_
  refine zk_iload_n C kd_Pl_forget_57 rfl 0 rfl rfl ?_
  refine zk_iconst (v := 4) C kd_Pl_forget_58 (by decide) rfl ?_
  refine zk_iadd C kd_Pl_forget_59 rfl ?_
  refine zk_stk (r' := [.int 154]) (by rw [show (150 : Int32) + 4 = 154 by decide]) ?_
  refine ze_gets (j := 1) C rfl kw1012 kd_Pl_forget_60 rfl ?_
  refine ze_tlen C rfl kd_Pl_forget_63 rfl ?_
  refine zk_stk (r' := [.int 160, .int 154]) rfl ?_
  refine zk_icmp_ge (tgt := 87) C kd_Pl_forget_64 (by decide) rfl (fun h_86 => absurd h_86 (by decide)) (fun h_86 => ?_)
  refine ze_gets (j := 1) C rfl kw1012 kd_Pl_forget_67 rfl ?_
  refine zk_iload_n C kd_Pl_forget_70 rfl 0 rfl rfl ?_
  refine ze_ti C rfl (zp_dec rfl) kd_Pl_forget_71 rfl ?_
  refine zk_stk (r' := [.int 8]) rfl ?_
  refine zk_iload_n C kd_Pl_forget_72 rfl 1 rfl rfl ?_
  refine zk_icmp_ne (tgt := 87) C kd_Pl_forget_73 (by decide) rfl (fun h_87 => absurd (by decide) h_87) (fun h_87 => ?_)
  refine zk_aload_n C kd_Pl_forget_76 rfl 2 rfl rfl ?_
  refine zk_iload_n C kd_Pl_forget_77 rfl 0 rfl rfl ?_
  refine zs_callV (k := 20) (rn := { frames := 2, cells := 0, slots := 0, locals := 44 }) (As := [.int 150]) (rest := []) C (zl_as150 k39 9 30 p39 (by decide) (by decide) (by decide)) ku_Pl_addStandard kw1014 kv_Pl_addStandard rfl ⟨by decide, by decide⟩ ⟨by decide, by decide⟩ rfl rfl rfl (Nat.le_of_ble_eq_true rfl) kd_Pl_forget_78 rfl (c1 := 0) (s1 := 0) rfl rfl (fun v w hp => ?_)
  obtain ⟨k40, rfl, rfl, p40, g40⟩ := hp
  have a40 := (a39).tr g40
  refine zk_stk (r' := []) rfl ?_
  refine zk_iinc (v := 155) (lv' := [(1, _), (2, _), (0, _)]) C kd_Pl_forget_81 0 rfl (by decide) (by decide) rfl rfl ?_
  refine zk_goto (tgt := 57) C kd_Pl_forget_84 (by decide) ?_
  refine zk_iload_n C kd_Pl_forget_57 rfl 0 rfl rfl ?_
  refine zk_iconst (v := 4) C kd_Pl_forget_58 (by decide) rfl ?_
  refine zk_iadd C kd_Pl_forget_59 rfl ?_
  refine zk_stk (r' := [.int 159]) (by rw [show (155 : Int32) + 4 = 159 by decide]) ?_
  refine ze_gets (j := 1) C rfl kw1012 kd_Pl_forget_60 rfl ?_
  refine ze_tlen C rfl kd_Pl_forget_63 rfl ?_
  refine zk_stk (r' := [.int 160, .int 159]) rfl ?_
  refine zk_icmp_ge (tgt := 87) C kd_Pl_forget_64 (by decide) rfl (fun h_88 => absurd h_88 (by decide)) (fun h_88 => ?_)
  refine ze_gets (j := 1) C rfl kw1012 kd_Pl_forget_67 rfl ?_
  refine zk_iload_n C kd_Pl_forget_70 rfl 0 rfl rfl ?_
  refine ze_ti C rfl (zp_dec rfl) kd_Pl_forget_71 rfl ?_
  refine zk_stk (r' := [.int 8]) rfl ?_
  refine zk_iload_n C kd_Pl_forget_72 rfl 1 rfl rfl ?_
  refine zk_icmp_ne (tgt := 87) C kd_Pl_forget_73 (by decide) rfl (fun h_89 => absurd (by decide) h_89) (fun h_89 => ?_)
  refine zk_aload_n C kd_Pl_forget_76 rfl 2 rfl rfl ?_
  refine zk_iload_n C kd_Pl_forget_77 rfl 0 rfl rfl ?_
  refine zs_callV (k := 20) (rn := { frames := 2, cells := 0, slots := 0, locals := 44 }) (As := [.int 155]) (rest := []) C (zl_as155 k40 9 31 p40 (by decide) (by decide) (by decide)) ku_Pl_addStandard kw1014 kv_Pl_addStandard rfl ⟨by decide, by decide⟩ ⟨by decide, by decide⟩ rfl rfl rfl (Nat.le_of_ble_eq_true rfl) kd_Pl_forget_78 rfl (c1 := 0) (s1 := 0) rfl rfl (fun v w hp => ?_)
  obtain ⟨k41, rfl, rfl, p41, g41⟩ := hp
  have a41 := (a40).tr g41
  refine zk_stk (r' := []) rfl ?_
  refine zk_iinc (v := 160) (lv' := [(1, _), (2, _), (0, _)]) C kd_Pl_forget_81 0 rfl (by decide) (by decide) rfl rfl ?_
  refine zk_goto (tgt := 57) C kd_Pl_forget_84 (by decide) ?_
  refine zk_iload_n C kd_Pl_forget_57 rfl 0 rfl rfl ?_
  refine zk_iconst (v := 4) C kd_Pl_forget_58 (by decide) rfl ?_
  refine zk_iadd C kd_Pl_forget_59 rfl ?_
  refine zk_stk (r' := [.int 164]) (by rw [show (160 : Int32) + 4 = 164 by decide]) ?_
  refine ze_gets (j := 1) C rfl kw1012 kd_Pl_forget_60 rfl ?_
  refine ze_tlen C rfl kd_Pl_forget_63 rfl ?_
  refine zk_stk (r' := [.int 160, .int 164]) rfl ?_
  refine zk_icmp_ge (tgt := 87) C kd_Pl_forget_64 (by decide) rfl (fun h_90 => ?_) (fun h_90 => absurd (by decide) h_90)
  refine zk_aload_n C kd_Pl_forget_87 rfl 2 rfl rfl ?_
  refine zs_get (v := .ref (S.1 25)) C 20 4 rfl rfl rfl rfl ki_Pl (by decide) kw246 kd_Pl_forget_88 rfl ?_
  refine zk_iload_n C kd_Pl_forget_91 rfl 1 rfl rfl ?_
  refine ze_gets (j := 2) C rfl kw1022 kd_Pl_forget_92 rfl ?_
  refine zk_iload_n C kd_Pl_forget_95 rfl 1 rfl rfl ?_
  refine ze_ti C rfl (zp_dec rfl) kd_Pl_forget_96 rfl ?_
  refine zk_stk (r' := [.int 3, .int 8, .ref (S.1 25)]) rfl ?_
  refine zs_iast C 25 rfl (zp_dec rfl) kd_Pl_forget_97 rfl ?_
  refine zk_aload_n C kd_Pl_forget_98 rfl 2 rfl rfl ?_
  refine zs_get (v := .ref (S.1 26)) C 20 5 rfl rfl rfl rfl ki_Pl (by decide) kw249 kd_Pl_forget_99 rfl ?_
  refine zk_iload_n C kd_Pl_forget_102 rfl 1 rfl rfl ?_
  refine ze_gets (j := 2) C rfl kw1022 kd_Pl_forget_103 rfl ?_
  refine zk_iload_n C kd_Pl_forget_106 rfl 1 rfl rfl ?_
  refine ze_ti C rfl (zp_dec rfl) kd_Pl_forget_107 rfl ?_
  refine zk_stk (r' := [.int 3, .int 8, .ref (S.1 26)]) rfl ?_
  refine zs_iast C 26 rfl (zp_dec rfl) kd_Pl_forget_108 rfl ?_
  refine zk_iinc (v := 9) (lv' := [(2, _), (1, _), (0, _)]) C kd_Pl_forget_109 1 rfl (by decide) (by decide) rfl rfl ?_
  refine zk_goto (tgt := 40) C kd_Pl_forget_112 (by decide) ?_
  refine zk_iload_n C kd_Pl_forget_40 rfl 0 rfl rfl ?_
  refine zk_bipush (v := 9) C kd_Pl_forget_41 (by decide) rfl ?_
  refine zk_icmp_ge (tgt := 115) C kd_Pl_forget_43 (by decide) rfl (fun h_91 => ?_) (fun h_91 => absurd (by decide) h_91)
  exact zk_vret C hR kd_Pl_forget_115 rfl rfl ⟨_, rfl, rfl, p41, ((a41).uM (⟨by decide, by decide⟩)).uM (⟨by decide, by decide⟩)⟩
