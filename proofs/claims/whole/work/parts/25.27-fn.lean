theorem kw176 : Jvm.Cond.fieldLink "PlantKeeper$Parser" (44 : Nat) "PlantKeeper$Tree" "size" "I" ∈ zk_BW := zk_inT 176 (by decide +kernel) rfl
theorem kw290 : Jvm.Cond.fieldLink "PlantKeeper$Plan" (71 : Nat) "PlantKeeper$Plan" "blocks" "I" ∈ zk_BW := zk_inT 290 (by decide +kernel) rfl
theorem kw292 : Jvm.Cond.fieldLink "PlantKeeper$Plan" (75 : Nat) "PlantKeeper$Plan" "variables" "I" ∈ zk_BW := zk_inT 292 (by decide +kernel) rfl
theorem kw294 : Jvm.Cond.fieldLink "PlantKeeper$Plan" (78 : Nat) "PlantKeeper$Plan" "program" "I" ∈ zk_BW := zk_inT 294 (by decide +kernel) rfl
theorem kw863 : Jvm.Cond.instanceMethod ({ cls := "PlantKeeper$Parser", name := "parse", desc := "()I" } : Jvm.MethodName) ∈ zk_BW := zk_inT 863 (by decide +kernel) rfl
theorem kw864 : Jvm.Cond.selects "PlantKeeper$Parser" ({ cls := "PlantKeeper$Parser", name := "parse", desc := "()I" } : Jvm.MethodName) ({ cls := "PlantKeeper$Parser", name := "parse", desc := "()I" } : Jvm.MethodName) ∈ zk_BW := zk_inT 864 (by decide +kernel) rfl
theorem kw865 : Jvm.Cond.code ({ cls := "PlantKeeper$Parser", name := "parse", desc := "()I" } : Jvm.MethodName) prog_8_method_2_code (4 : Nat) (Option.some FieldType.int) ∈ zk_BW := zk_inT 865 (by decide +kernel) rfl
theorem kw872 : Jvm.Cond.methodLink "PlantKeeper$Parser" (53 : Nat) ({ cls := "PlantKeeper$Parser", name := "block", desc := "()I" } : Jvm.MethodName) ∈ zk_BW := zk_inT 872 (by decide +kernel) rfl
theorem kw874 : Jvm.Cond.instanceMethod ({ cls := "PlantKeeper$Parser", name := "block", desc := "()I" } : Jvm.MethodName) ∈ zk_BW := zk_inT 874 (by decide +kernel) rfl
theorem kw875 : Jvm.Cond.code ({ cls := "PlantKeeper$Parser", name := "block", desc := "()I" } : Jvm.MethodName) prog_8_method_5_code (6 : Nat) (Option.some FieldType.int) ∈ zk_BW := zk_inT 875 (by decide +kernel) rfl
theorem kw888 : Jvm.Cond.methodLink "PlantKeeper$Parser" (76 : Nat) ({ cls := "PlantKeeper$Parser", name := "isSection", desc := "()Z" } : Jvm.MethodName) ∈ zk_BW := zk_inT 888 (by decide +kernel) rfl
theorem kw892 : Jvm.Cond.methodLink "PlantKeeper$Parser" (80 : Nat) ({ cls := "PlantKeeper$Parser", name := "section", desc := "()I" } : Jvm.MethodName) ∈ zk_BW := zk_inT 892 (by decide +kernel) rfl
theorem kw908 : Jvm.Cond.methodLink "PlantKeeper$Parser" (83 : Nat) ({ cls := "PlantKeeper$Parser", name := "ladder", desc := "()I" } : Jvm.MethodName) ∈ zk_BW := zk_inT 908 (by decide +kernel) rfl
theorem kw928 : Jvm.Cond.methodLink "PlantKeeper$Parser" (86 : Nat) ({ cls := "PlantKeeper$Parser", name := "statements", desc := "()I" } : Jvm.MethodName) ∈ zk_BW := zk_inT 928 (by decide +kernel) rfl
theorem kw930 : Jvm.Cond.instanceMethod ({ cls := "PlantKeeper$Parser", name := "statements", desc := "()I" } : Jvm.MethodName) ∈ zk_BW := zk_inT 930 (by decide +kernel) rfl
theorem kw931 : Jvm.Cond.code ({ cls := "PlantKeeper$Parser", name := "statements", desc := "()I" } : Jvm.MethodName) prog_8_method_13_code (4 : Nat) (Option.some FieldType.int) ∈ zk_BW := zk_inT 931 (by decide +kernel) rfl
theorem kw932 : Jvm.Cond.methodLink "PlantKeeper$Parser" (98 : Nat) ({ cls := "PlantKeeper$Parser", name := "isStatement", desc := "()Z" } : Jvm.MethodName) ∈ zk_BW := zk_inT 932 (by decide +kernel) rfl
theorem kw936 : Jvm.Cond.methodLink "PlantKeeper$Parser" (101 : Nat) ({ cls := "PlantKeeper$Parser", name := "statement", desc := "()I" } : Jvm.MethodName) ∈ zk_BW := zk_inT 936 (by decide +kernel) rfl
theorem kw938 : Jvm.Cond.instanceMethod ({ cls := "PlantKeeper$Parser", name := "statement", desc := "()I" } : Jvm.MethodName) ∈ zk_BW := zk_inT 938 (by decide +kernel) rfl
theorem kw939 : Jvm.Cond.code ({ cls := "PlantKeeper$Parser", name := "statement", desc := "()I" } : Jvm.MethodName) prog_8_method_14_code (3 : Nat) (Option.some FieldType.int) ∈ zk_BW := zk_inT 939 (by decide +kernel) rfl
theorem kw940 : Jvm.Cond.methodLink "PlantKeeper$Parser" (104 : Nat) ({ cls := "PlantKeeper$Parser", name := "ifStatement", desc := "()I" } : Jvm.MethodName) ∈ zk_BW := zk_inT 940 (by decide +kernel) rfl
theorem kw942 : Jvm.Cond.instanceMethod ({ cls := "PlantKeeper$Parser", name := "ifStatement", desc := "()I" } : Jvm.MethodName) ∈ zk_BW := zk_inT 942 (by decide +kernel) rfl
theorem kw943 : Jvm.Cond.code ({ cls := "PlantKeeper$Parser", name := "ifStatement", desc := "()I" } : Jvm.MethodName) prog_8_method_15_code (5 : Nat) (Option.some FieldType.int) ∈ zk_BW := zk_inT 943 (by decide +kernel) rfl
theorem kw970 : Jvm.Cond.methodLink "PlantKeeper$Parser" (107 : Nat) ({ cls := "PlantKeeper$Parser", name := "caseStatement", desc := "()I" } : Jvm.MethodName) ∈ zk_BW := zk_inT 970 (by decide +kernel) rfl
theorem kw972 : Jvm.Cond.instanceMethod ({ cls := "PlantKeeper$Parser", name := "caseStatement", desc := "()I" } : Jvm.MethodName) ∈ zk_BW := zk_inT 972 (by decide +kernel) rfl
theorem kw973 : Jvm.Cond.code ({ cls := "PlantKeeper$Parser", name := "caseStatement", desc := "()I" } : Jvm.MethodName) prog_8_method_17_code (6 : Nat) (Option.some FieldType.int) ∈ zk_BW := zk_inT 973 (by decide +kernel) rfl
theorem kw974 : Jvm.Cond.methodLink "PlantKeeper$Parser" (125 : Nat) ({ cls := "PlantKeeper$Parser", name := "isConstant", desc := "()Z" } : Jvm.MethodName) ∈ zk_BW := zk_inT 974 (by decide +kernel) rfl
theorem kw978 : Jvm.Cond.methodLink "PlantKeeper$Parser" (128 : Nat) ({ cls := "PlantKeeper$Parser", name := "ranges", desc := "(I)I" } : Jvm.MethodName) ∈ zk_BW := zk_inT 978 (by decide +kernel) rfl
theorem kw982 : Jvm.Cond.methodLink "PlantKeeper$Parser" (110 : Nat) ({ cls := "PlantKeeper$Parser", name := "forStatement", desc := "()I" } : Jvm.MethodName) ∈ zk_BW := zk_inT 982 (by decide +kernel) rfl
theorem kw984 : Jvm.Cond.instanceMethod ({ cls := "PlantKeeper$Parser", name := "forStatement", desc := "()I" } : Jvm.MethodName) ∈ zk_BW := zk_inT 984 (by decide +kernel) rfl
theorem kw985 : Jvm.Cond.code ({ cls := "PlantKeeper$Parser", name := "forStatement", desc := "()I" } : Jvm.MethodName) prog_8_method_19_code (3 : Nat) (Option.some FieldType.int) ∈ zk_BW := zk_inT 985 (by decide +kernel) rfl
theorem kw986 : Jvm.Cond.methodLink "PlantKeeper$Parser" (113 : Nat) ({ cls := "PlantKeeper$Parser", name := "invocation", desc := "()I" } : Jvm.MethodName) ∈ zk_BW := zk_inT 986 (by decide +kernel) rfl
theorem kw990 : Jvm.Cond.methodLink "PlantKeeper$Parser" (116 : Nat) ({ cls := "PlantKeeper$Parser", name := "assignment", desc := "()I" } : Jvm.MethodName) ∈ zk_BW := zk_inT 990 (by decide +kernel) rfl
theorem kw996 : Jvm.Cond.instanceMethod ({ cls := "PlantKeeper", name := "note", desc := "(II)V" } : Jvm.MethodName) ∈ zk_BW := zk_inT 996 (by decide +kernel) rfl
theorem kw997 : Jvm.Cond.code ({ cls := "PlantKeeper", name := "note", desc := "(II)V" } : Jvm.MethodName) prog_1_method_6_code (3 : Nat) (Option.none : Option FieldType) ∈ zk_BW := zk_inT 997 (by decide +kernel) rfl
theorem kw1008 : Jvm.Cond.instanceMethod ({ cls := "PlantKeeper$Plan", name := "open", desc := "(III)I" } : Jvm.MethodName) ∈ zk_BW := zk_inT 1008 (by decide +kernel) rfl
theorem kw1009 : Jvm.Cond.selects "PlantKeeper$Plan" ({ cls := "PlantKeeper$Plan", name := "open", desc := "(III)I" } : Jvm.MethodName) ({ cls := "PlantKeeper$Plan", name := "open", desc := "(III)I" } : Jvm.MethodName) ∈ zk_BW := zk_inT 1009 (by decide +kernel) rfl
theorem kw1010 : Jvm.Cond.code ({ cls := "PlantKeeper$Plan", name := "open", desc := "(III)I" } : Jvm.MethodName) prog_9_method_4_code (5 : Nat) (Option.some FieldType.int) ∈ zk_BW := zk_inT 1010 (by decide +kernel) rfl
theorem kw1011 : Jvm.Cond.methodLink "PlantKeeper$Plan" (102 : Nat) ({ cls := "java/lang/Math", name := "min", desc := "(II)I" } : Jvm.MethodName) ∈ zk_BW := zk_inT 1011 (by decide +kernel) rfl
theorem kw1012 : Jvm.Cond.fieldLink "PlantKeeper$Plan" (88 : Nat) "PlantKeeper$Plan" "STANDARD_VARIABLES" "[I" ∈ zk_BW := zk_inT 1012 (by decide +kernel) rfl
theorem kw1016 : Jvm.Cond.instanceMethod ({ cls := "PlantKeeper$Plan", name := "addStandard", desc := "(I)V" } : Jvm.MethodName) ∈ zk_BW := zk_inT 1016 (by decide +kernel) rfl
theorem kw1017 : Jvm.Cond.code ({ cls := "PlantKeeper$Plan", name := "addStandard", desc := "(I)V" } : Jvm.MethodName) prog_9_method_3_code (3 : Nat) (Option.none : Option FieldType) ∈ zk_BW := zk_inT 1017 (by decide +kernel) rfl
theorem kw1018 : Jvm.Cond.methodLink "PlantKeeper$Plan" (98 : Nat) ({ cls := "PlantKeeper$Plan", name := "add", desc := "(II)I" } : Jvm.MethodName) ∈ zk_BW := zk_inT 1018 (by decide +kernel) rfl
theorem kw1019 : Jvm.Cond.instanceMethod ({ cls := "PlantKeeper$Plan", name := "add", desc := "(II)I" } : Jvm.MethodName) ∈ zk_BW := zk_inT 1019 (by decide +kernel) rfl
theorem kw1020 : Jvm.Cond.selects "PlantKeeper$Plan" ({ cls := "PlantKeeper$Plan", name := "add", desc := "(II)I" } : Jvm.MethodName) ({ cls := "PlantKeeper$Plan", name := "add", desc := "(II)I" } : Jvm.MethodName) ∈ zk_BW := zk_inT 1020 (by decide +kernel) rfl
theorem kw1021 : Jvm.Cond.code ({ cls := "PlantKeeper$Plan", name := "add", desc := "(II)I" } : Jvm.MethodName) prog_9_method_5_code (4 : Nat) (Option.some FieldType.int) ∈ zk_BW := zk_inT 1021 (by decide +kernel) rfl
abbrev kc_Pk_note : ByteArray := prog_1_method_6_code
def km_Pk_note : zk_MT := (⟨"PlantKeeper", "note", "(II)V"⟩, kc_Pk_note, 3, none, 2)
theorem ku_Pk_note : zk_My km_Pk_note := ⟨kw997, kw1, by decide, by decide, by decide, by decide +kernel⟩
theorem kv_Pk_note : zk_Mv km_Pk_note := ⟨kw996, zk_inS 46 (q := (⟨"PlantKeeper", "note", "(II)V"⟩, 16)) (by decide +kernel)⟩
abbrev kc_Pl_add : ByteArray := prog_9_method_5_code
def km_Pl_add : zk_MT := (⟨"PlantKeeper$Plan", "add", "(II)I"⟩, kc_Pl_add, 4, some .int, 2)
theorem ku_Pl_add : zk_My km_Pl_add := ⟨kw1021, kw10, by decide, by decide, by decide, by decide +kernel⟩
theorem kv_Pl_add : zk_Mv km_Pl_add := ⟨kw1019, kw1020⟩
abbrev kc_Pl_addStandard : ByteArray := prog_9_method_3_code
def km_Pl_addStandard : zk_MT := (⟨"PlantKeeper$Plan", "addStandard", "(I)V"⟩, kc_Pl_addStandard, 3, none, 1)
theorem ku_Pl_addStandard : zk_My km_Pl_addStandard := ⟨kw1017, kw10, by decide, by decide, by decide, by decide +kernel⟩
theorem kv_Pl_addStandard : zk_Mv km_Pl_addStandard := ⟨kw1016, zk_inS 47 (q := (⟨"PlantKeeper$Plan", "addStandard", "(I)V"⟩, 21)) (by decide +kernel)⟩
abbrev kc_Pl_open : ByteArray := prog_9_method_4_code
def km_Pl_open : zk_MT := (⟨"PlantKeeper$Plan", "open", "(III)I"⟩, kc_Pl_open, 5, some .int, 3)
theorem ku_Pl_open : zk_My km_Pl_open := ⟨kw1010, kw10, by decide, by decide, by decide, by decide +kernel⟩
theorem kv_Pl_open : zk_Mv km_Pl_open := ⟨kw1008, kw1009⟩
abbrev kc_Ps_block : ByteArray := prog_8_method_5_code
def km_Ps_block : zk_MT := (⟨"PlantKeeper$Parser", "block", "()I"⟩, kc_Ps_block, 6, some .int, 0)
theorem ku_Ps_block : zk_My km_Ps_block := ⟨kw875, kw9, by decide, by decide, by decide, by decide +kernel⟩
theorem kv_Ps_block : zk_Mv km_Ps_block := ⟨kw874, zk_inS 17 (q := (⟨"PlantKeeper$Parser", "block", "()I"⟩, 8)) (by decide +kernel)⟩
abbrev kc_Ps_caseStatement : ByteArray := prog_8_method_17_code
def km_Ps_caseStatement : zk_MT := (⟨"PlantKeeper$Parser", "caseStatement", "()I"⟩, kc_Ps_caseStatement, 6, some .int, 0)
theorem ku_Ps_caseStatement : zk_My km_Ps_caseStatement := ⟨kw973, kw9, by decide, by decide, by decide, by decide +kernel⟩
theorem kv_Ps_caseStatement : zk_Mv km_Ps_caseStatement := ⟨kw972, zk_inS 40 (q := (⟨"PlantKeeper$Parser", "caseStatement", "()I"⟩, 8)) (by decide +kernel)⟩
abbrev kc_Ps_forStatement : ByteArray := prog_8_method_19_code
def km_Ps_forStatement : zk_MT := (⟨"PlantKeeper$Parser", "forStatement", "()I"⟩, kc_Ps_forStatement, 3, some .int, 0)
theorem ku_Ps_forStatement : zk_My km_Ps_forStatement := ⟨kw985, kw9, by decide, by decide, by decide, by decide +kernel⟩
theorem kv_Ps_forStatement : zk_Mv km_Ps_forStatement := ⟨kw984, zk_inS 43 (q := (⟨"PlantKeeper$Parser", "forStatement", "()I"⟩, 8)) (by decide +kernel)⟩
abbrev kc_Ps_ifStatement : ByteArray := prog_8_method_15_code
def km_Ps_ifStatement : zk_MT := (⟨"PlantKeeper$Parser", "ifStatement", "()I"⟩, kc_Ps_ifStatement, 5, some .int, 0)
theorem ku_Ps_ifStatement : zk_My km_Ps_ifStatement := ⟨kw943, kw9, by decide, by decide, by decide, by decide +kernel⟩
theorem kv_Ps_ifStatement : zk_Mv km_Ps_ifStatement := ⟨kw942, zk_inS 33 (q := (⟨"PlantKeeper$Parser", "ifStatement", "()I"⟩, 8)) (by decide +kernel)⟩
abbrev kc_Ps_parse : ByteArray := prog_8_method_2_code
def km_Ps_parse : zk_MT := (⟨"PlantKeeper$Parser", "parse", "()I"⟩, kc_Ps_parse, 4, some .int, 0)
theorem ku_Ps_parse : zk_My km_Ps_parse := ⟨kw865, kw9, by decide, by decide, by decide, by decide +kernel⟩
theorem kv_Ps_parse : zk_Mv km_Ps_parse := ⟨kw863, kw864⟩
abbrev kc_Ps_statement : ByteArray := prog_8_method_14_code
def km_Ps_statement : zk_MT := (⟨"PlantKeeper$Parser", "statement", "()I"⟩, kc_Ps_statement, 3, some .int, 0)
theorem ku_Ps_statement : zk_My km_Ps_statement := ⟨kw939, kw9, by decide, by decide, by decide, by decide +kernel⟩
theorem kv_Ps_statement : zk_Mv km_Ps_statement := ⟨kw938, zk_inS 32 (q := (⟨"PlantKeeper$Parser", "statement", "()I"⟩, 8)) (by decide +kernel)⟩
abbrev kc_Ps_statements : ByteArray := prog_8_method_13_code
def km_Ps_statements : zk_MT := (⟨"PlantKeeper$Parser", "statements", "()I"⟩, kc_Ps_statements, 4, some .int, 0)
theorem ku_Ps_statements : zk_My km_Ps_statements := ⟨kw931, kw9, by decide, by decide, by decide, by decide +kernel⟩
theorem kv_Ps_statements : zk_Mv km_Ps_statements := ⟨kw930, zk_inS 30 (q := (⟨"PlantKeeper$Parser", "statements", "()I"⟩, 8)) (by decide +kernel)⟩
theorem kd_Pk_note_0 : decode kc_Pk_note 0 = .ok (.iload_n 1, 1) := by decide +kernel
theorem kd_Pk_note_1 : decode kc_Pk_note 1 = .ok (.ifCond .eq 13, 3) := by decide +kernel
theorem kd_Pk_note_4 : decode kc_Pk_note 4 = .ok (.aload_n 0, 1) := by decide +kernel
theorem kd_Pk_note_5 : decode kc_Pk_note 5 = .ok (.iload_n 1, 1) := by decide +kernel
theorem kd_Pk_note_6 : decode kc_Pk_note 6 = .ok (.putfield 119, 3) := by decide +kernel
theorem kd_Pk_note_9 : decode kc_Pk_note 9 = .ok (.aload_n 0, 1) := by decide +kernel
theorem kd_Pk_note_10 : decode kc_Pk_note 10 = .ok (.iload_n 2, 1) := by decide +kernel
theorem kd_Pk_note_11 : decode kc_Pk_note 11 = .ok (.putfield 13, 3) := by decide +kernel
theorem kd_Pk_note_14 : decode kc_Pk_note 14 = .ok (.return_, 1) := by decide +kernel
theorem kd_Pl_add_0 : decode kc_Pl_add 0 = .ok (.aload_n 0, 1) := by decide +kernel
theorem kd_Pl_add_1 : decode kc_Pl_add 1 = .ok (.getfield 75, 3) := by decide +kernel
theorem kd_Pl_add_4 : decode kc_Pl_add 4 = .ok (.sipush 5999, 3) := by decide +kernel
theorem kd_Pl_add_7 : decode kc_Pl_add 7 = .ok (.invokestatic 102, 3) := by decide +kernel
theorem kd_Pl_add_10 : decode kc_Pl_add 10 = .ok (.istore_n 3, 1) := by decide +kernel
theorem kd_Pl_add_11 : decode kc_Pl_add 11 = .ok (.aload_n 0, 1) := by decide +kernel
theorem kd_Pl_add_12 : decode kc_Pl_add 12 = .ok (.getfield 33, 3) := by decide +kernel
theorem kd_Pl_add_15 : decode kc_Pl_add 15 = .ok (.iload_n 3, 1) := by decide +kernel
theorem kd_Pl_add_16 : decode kc_Pl_add 16 = .ok (.iload_n 1, 1) := by decide +kernel
theorem kd_Pl_add_17 : decode kc_Pl_add 17 = .ok (.iastore, 1) := by decide +kernel
theorem kd_Pl_add_18 : decode kc_Pl_add 18 = .ok (.aload_n 0, 1) := by decide +kernel
theorem kd_Pl_add_19 : decode kc_Pl_add 19 = .ok (.getfield 36, 3) := by decide +kernel
theorem kd_Pl_add_22 : decode kc_Pl_add 22 = .ok (.iload_n 3, 1) := by decide +kernel
theorem kd_Pl_add_23 : decode kc_Pl_add 23 = .ok (.iload_n 2, 1) := by decide +kernel
theorem kd_Pl_add_24 : decode kc_Pl_add 24 = .ok (.iastore, 1) := by decide +kernel
theorem kd_Pl_add_25 : decode kc_Pl_add 25 = .ok (.aload_n 0, 1) := by decide +kernel
theorem kd_Pl_add_26 : decode kc_Pl_add 26 = .ok (.getfield 39, 3) := by decide +kernel
theorem kd_Pl_add_29 : decode kc_Pl_add 29 = .ok (.iload_n 3, 1) := by decide +kernel
theorem kd_Pl_add_30 : decode kc_Pl_add 30 = .ok (.iconst (-1), 1) := by decide +kernel
theorem kd_Pl_add_31 : decode kc_Pl_add 31 = .ok (.iastore, 1) := by decide +kernel
theorem kd_Pl_add_32 : decode kc_Pl_add 32 = .ok (.aload_n 0, 1) := by decide +kernel
theorem kd_Pl_add_33 : decode kc_Pl_add 33 = .ok (.getfield 42, 3) := by decide +kernel
theorem kd_Pl_add_36 : decode kc_Pl_add 36 = .ok (.iload_n 3, 1) := by decide +kernel
theorem kd_Pl_add_37 : decode kc_Pl_add 37 = .ok (.iconst 0, 1) := by decide +kernel
theorem kd_Pl_add_38 : decode kc_Pl_add 38 = .ok (.iastore, 1) := by decide +kernel
theorem kd_Pl_add_39 : decode kc_Pl_add 39 = .ok (.aload_n 0, 1) := by decide +kernel
theorem kd_Pl_add_40 : decode kc_Pl_add 40 = .ok (.getfield 45, 3) := by decide +kernel
theorem kd_Pl_add_43 : decode kc_Pl_add 43 = .ok (.iload_n 3, 1) := by decide +kernel
theorem kd_Pl_add_44 : decode kc_Pl_add 44 = .ok (.iconst 0, 1) := by decide +kernel
theorem kd_Pl_add_45 : decode kc_Pl_add 45 = .ok (.iastore, 1) := by decide +kernel
theorem kd_Pl_add_46 : decode kc_Pl_add 46 = .ok (.aload_n 0, 1) := by decide +kernel
theorem kd_Pl_add_47 : decode kc_Pl_add 47 = .ok (.getfield 48, 3) := by decide +kernel
theorem kd_Pl_add_50 : decode kc_Pl_add 50 = .ok (.iload_n 3, 1) := by decide +kernel
theorem kd_Pl_add_51 : decode kc_Pl_add 51 = .ok (.iconst 0, 1) := by decide +kernel
theorem kd_Pl_add_52 : decode kc_Pl_add 52 = .ok (.iastore, 1) := by decide +kernel
theorem kd_Pl_add_53 : decode kc_Pl_add 53 = .ok (.aload_n 0, 1) := by decide +kernel
theorem kd_Pl_add_54 : decode kc_Pl_add 54 = .ok (.getfield 51, 3) := by decide +kernel
theorem kd_Pl_add_57 : decode kc_Pl_add 57 = .ok (.iload_n 3, 1) := by decide +kernel
theorem kd_Pl_add_58 : decode kc_Pl_add 58 = .ok (.iconst 1, 1) := by decide +kernel
theorem kd_Pl_add_59 : decode kc_Pl_add 59 = .ok (.iastore, 1) := by decide +kernel
theorem kd_Pl_add_60 : decode kc_Pl_add 60 = .ok (.aload_n 0, 1) := by decide +kernel
theorem kd_Pl_add_61 : decode kc_Pl_add 61 = .ok (.getfield 54, 3) := by decide +kernel
theorem kd_Pl_add_64 : decode kc_Pl_add 64 = .ok (.iload_n 3, 1) := by decide +kernel
theorem kd_Pl_add_65 : decode kc_Pl_add 65 = .ok (.iconst 0, 1) := by decide +kernel
theorem kd_Pl_add_66 : decode kc_Pl_add 66 = .ok (.iastore, 1) := by decide +kernel
theorem kd_Pl_add_67 : decode kc_Pl_add 67 = .ok (.aload_n 0, 1) := by decide +kernel
theorem kd_Pl_add_68 : decode kc_Pl_add 68 = .ok (.getfield 62, 3) := by decide +kernel
theorem kd_Pl_add_71 : decode kc_Pl_add 71 = .ok (.iload_n 1, 1) := by decide +kernel
theorem kd_Pl_add_72 : decode kc_Pl_add 72 = .ok (.iload_n 3, 1) := by decide +kernel
theorem kd_Pl_add_73 : decode kc_Pl_add 73 = .ok (.iastore, 1) := by decide +kernel
theorem kd_Pl_add_74 : decode kc_Pl_add 74 = .ok (.aload_n 0, 1) := by decide +kernel
theorem kd_Pl_add_75 : decode kc_Pl_add 75 = .ok (.iload_n 3, 1) := by decide +kernel
theorem kd_Pl_add_76 : decode kc_Pl_add 76 = .ok (.iconst 1, 1) := by decide +kernel
theorem kd_Pl_add_77 : decode kc_Pl_add 77 = .ok (.iadd, 1) := by decide +kernel
theorem kd_Pl_add_78 : decode kc_Pl_add 78 = .ok (.putfield 75, 3) := by decide +kernel
theorem kd_Pl_add_81 : decode kc_Pl_add 81 = .ok (.aload_n 0, 1) := by decide +kernel
theorem kd_Pl_add_82 : decode kc_Pl_add 82 = .ok (.getfield 71, 3) := by decide +kernel
theorem kd_Pl_add_85 : decode kc_Pl_add 85 = .ok (.ifCond .le 18, 3) := by decide +kernel
theorem kd_Pl_add_88 : decode kc_Pl_add 88 = .ok (.aload_n 0, 1) := by decide +kernel
theorem kd_Pl_add_89 : decode kc_Pl_add 89 = .ok (.getfield 21, 3) := by decide +kernel
theorem kd_Pl_add_92 : decode kc_Pl_add 92 = .ok (.aload_n 0, 1) := by decide +kernel
theorem kd_Pl_add_93 : decode kc_Pl_add 93 = .ok (.getfield 71, 3) := by decide +kernel
theorem kd_Pl_add_96 : decode kc_Pl_add 96 = .ok (.iconst 1, 1) := by decide +kernel
theorem kd_Pl_add_97 : decode kc_Pl_add 97 = .ok (.isub, 1) := by decide +kernel
theorem kd_Pl_add_98 : decode kc_Pl_add 98 = .ok (.aload_n 0, 1) := by decide +kernel
theorem kd_Pl_add_99 : decode kc_Pl_add 99 = .ok (.getfield 75, 3) := by decide +kernel
theorem kd_Pl_add_102 : decode kc_Pl_add 102 = .ok (.iastore, 1) := by decide +kernel
theorem kd_Pl_add_103 : decode kc_Pl_add 103 = .ok (.iload_n 3, 1) := by decide +kernel
theorem kd_Pl_add_104 : decode kc_Pl_add 104 = .ok (.ireturn, 1) := by decide +kernel
theorem kd_Pl_addStandard_0 : decode kc_Pl_addStandard 0 = .ok (.aload_n 0, 1) := by decide +kernel
theorem kd_Pl_addStandard_1 : decode kc_Pl_addStandard 1 = .ok (.bipush 60, 2) := by decide +kernel
theorem kd_Pl_addStandard_3 : decode kc_Pl_addStandard 3 = .ok (.getstatic 88, 3) := by decide +kernel
theorem kd_Pl_addStandard_6 : decode kc_Pl_addStandard 6 = .ok (.iload_n 1, 1) := by decide +kernel
theorem kd_Pl_addStandard_7 : decode kc_Pl_addStandard 7 = .ok (.iconst 1, 1) := by decide +kernel
theorem kd_Pl_addStandard_8 : decode kc_Pl_addStandard 8 = .ok (.iadd, 1) := by decide +kernel
theorem kd_Pl_addStandard_9 : decode kc_Pl_addStandard 9 = .ok (.iaload, 1) := by decide +kernel
theorem kd_Pl_addStandard_10 : decode kc_Pl_addStandard 10 = .ok (.iadd, 1) := by decide +kernel
theorem kd_Pl_addStandard_11 : decode kc_Pl_addStandard 11 = .ok (.getstatic 88, 3) := by decide +kernel
theorem kd_Pl_addStandard_14 : decode kc_Pl_addStandard 14 = .ok (.iload_n 1, 1) := by decide +kernel
theorem kd_Pl_addStandard_15 : decode kc_Pl_addStandard 15 = .ok (.iconst 2, 1) := by decide +kernel
theorem kd_Pl_addStandard_16 : decode kc_Pl_addStandard 16 = .ok (.iadd, 1) := by decide +kernel
theorem kd_Pl_addStandard_17 : decode kc_Pl_addStandard 17 = .ok (.iaload, 1) := by decide +kernel
theorem kd_Pl_addStandard_18 : decode kc_Pl_addStandard 18 = .ok (.invokevirtual 98, 3) := by decide +kernel
theorem kd_Pl_addStandard_21 : decode kc_Pl_addStandard 21 = .ok (.istore_n 2, 1) := by decide +kernel
theorem kd_Pl_addStandard_22 : decode kc_Pl_addStandard 22 = .ok (.aload_n 0, 1) := by decide +kernel
theorem kd_Pl_addStandard_23 : decode kc_Pl_addStandard 23 = .ok (.getfield 42, 3) := by decide +kernel
theorem kd_Pl_addStandard_26 : decode kc_Pl_addStandard 26 = .ok (.iload_n 2, 1) := by decide +kernel
theorem kd_Pl_addStandard_27 : decode kc_Pl_addStandard 27 = .ok (.getstatic 88, 3) := by decide +kernel
theorem kd_Pl_addStandard_30 : decode kc_Pl_addStandard 30 = .ok (.iload_n 1, 1) := by decide +kernel
theorem kd_Pl_addStandard_31 : decode kc_Pl_addStandard 31 = .ok (.iconst 3, 1) := by decide +kernel
theorem kd_Pl_addStandard_32 : decode kc_Pl_addStandard 32 = .ok (.iadd, 1) := by decide +kernel
theorem kd_Pl_addStandard_33 : decode kc_Pl_addStandard 33 = .ok (.iaload, 1) := by decide +kernel
theorem kd_Pl_addStandard_34 : decode kc_Pl_addStandard 34 = .ok (.iastore, 1) := by decide +kernel
theorem kd_Pl_addStandard_35 : decode kc_Pl_addStandard 35 = .ok (.aload_n 0, 1) := by decide +kernel
theorem kd_Pl_addStandard_36 : decode kc_Pl_addStandard 36 = .ok (.getfield 45, 3) := by decide +kernel
theorem kd_Pl_addStandard_39 : decode kc_Pl_addStandard 39 = .ok (.iload_n 2, 1) := by decide +kernel
theorem kd_Pl_addStandard_40 : decode kc_Pl_addStandard 40 = .ok (.getstatic 88, 3) := by decide +kernel
theorem kd_Pl_addStandard_43 : decode kc_Pl_addStandard 43 = .ok (.iload_n 1, 1) := by decide +kernel
theorem kd_Pl_addStandard_44 : decode kc_Pl_addStandard 44 = .ok (.iconst 4, 1) := by decide +kernel
theorem kd_Pl_addStandard_45 : decode kc_Pl_addStandard 45 = .ok (.iadd, 1) := by decide +kernel
theorem kd_Pl_addStandard_46 : decode kc_Pl_addStandard 46 = .ok (.iaload, 1) := by decide +kernel
theorem kd_Pl_addStandard_47 : decode kc_Pl_addStandard 47 = .ok (.iastore, 1) := by decide +kernel
theorem kd_Pl_addStandard_48 : decode kc_Pl_addStandard 48 = .ok (.return_, 1) := by decide +kernel
theorem kd_Pl_open_0 : decode kc_Pl_open 0 = .ok (.aload_n 0, 1) := by decide +kernel
theorem kd_Pl_open_1 : decode kc_Pl_open 1 = .ok (.getfield 71, 3) := by decide +kernel
theorem kd_Pl_open_4 : decode kc_Pl_open 4 = .ok (.sipush 628, 3) := by decide +kernel
theorem kd_Pl_open_7 : decode kc_Pl_open 7 = .ok (.invokestatic 102, 3) := by decide +kernel
theorem kd_Pl_open_10 : decode kc_Pl_open 10 = .ok (.istore 4, 2) := by decide +kernel
theorem kd_Pl_open_12 : decode kc_Pl_open 12 = .ok (.aload_n 0, 1) := by decide +kernel
theorem kd_Pl_open_13 : decode kc_Pl_open 13 = .ok (.getfield 11, 3) := by decide +kernel
theorem kd_Pl_open_16 : decode kc_Pl_open 16 = .ok (.iload 4, 2) := by decide +kernel
theorem kd_Pl_open_18 : decode kc_Pl_open 18 = .ok (.iload_n 1, 1) := by decide +kernel
theorem kd_Pl_open_19 : decode kc_Pl_open 19 = .ok (.iastore, 1) := by decide +kernel
theorem kd_Pl_open_20 : decode kc_Pl_open 20 = .ok (.aload_n 0, 1) := by decide +kernel
theorem kd_Pl_open_21 : decode kc_Pl_open 21 = .ok (.getfield 15, 3) := by decide +kernel
theorem kd_Pl_open_24 : decode kc_Pl_open 24 = .ok (.iload 4, 2) := by decide +kernel
theorem kd_Pl_open_26 : decode kc_Pl_open 26 = .ok (.iload_n 3, 1) := by decide +kernel
theorem kd_Pl_open_27 : decode kc_Pl_open 27 = .ok (.iastore, 1) := by decide +kernel
theorem kd_Pl_open_28 : decode kc_Pl_open 28 = .ok (.aload_n 0, 1) := by decide +kernel
theorem kd_Pl_open_29 : decode kc_Pl_open 29 = .ok (.getfield 18, 3) := by decide +kernel
theorem kd_Pl_open_32 : decode kc_Pl_open 32 = .ok (.iload 4, 2) := by decide +kernel
theorem kd_Pl_open_34 : decode kc_Pl_open 34 = .ok (.aload_n 0, 1) := by decide +kernel
theorem kd_Pl_open_35 : decode kc_Pl_open 35 = .ok (.getfield 75, 3) := by decide +kernel
theorem kd_Pl_open_38 : decode kc_Pl_open 38 = .ok (.iastore, 1) := by decide +kernel
theorem kd_Pl_open_39 : decode kc_Pl_open 39 = .ok (.aload_n 0, 1) := by decide +kernel
theorem kd_Pl_open_40 : decode kc_Pl_open 40 = .ok (.getfield 21, 3) := by decide +kernel
theorem kd_Pl_open_43 : decode kc_Pl_open 43 = .ok (.iload 4, 2) := by decide +kernel
theorem kd_Pl_open_45 : decode kc_Pl_open 45 = .ok (.aload_n 0, 1) := by decide +kernel
theorem kd_Pl_open_46 : decode kc_Pl_open 46 = .ok (.getfield 75, 3) := by decide +kernel
theorem kd_Pl_open_49 : decode kc_Pl_open 49 = .ok (.iastore, 1) := by decide +kernel
theorem kd_Pl_open_50 : decode kc_Pl_open 50 = .ok (.aload_n 0, 1) := by decide +kernel
theorem kd_Pl_open_51 : decode kc_Pl_open 51 = .ok (.getfield 24, 3) := by decide +kernel
theorem kd_Pl_open_54 : decode kc_Pl_open 54 = .ok (.iload 4, 2) := by decide +kernel
theorem kd_Pl_open_56 : decode kc_Pl_open 56 = .ok (.iload_n 1, 1) := by decide +kernel
theorem kd_Pl_open_57 : decode kc_Pl_open 57 = .ok (.iconst 3, 1) := by decide +kernel
theorem kd_Pl_open_58 : decode kc_Pl_open 58 = .ok (.if_icmp .ne 9, 3) := by decide +kernel
theorem kd_Pl_open_61 : decode kc_Pl_open 61 = .ok (.sipush 960, 3) := by decide +kernel
theorem kd_Pl_open_64 : decode kc_Pl_open 64 = .ok (.goto 4, 3) := by decide +kernel
theorem kd_Pl_open_67 : decode kc_Pl_open 67 = .ok (.iconst 0, 1) := by decide +kernel
theorem kd_Pl_open_68 : decode kc_Pl_open 68 = .ok (.iastore, 1) := by decide +kernel
theorem kd_Pl_open_69 : decode kc_Pl_open 69 = .ok (.aload_n 0, 1) := by decide +kernel
theorem kd_Pl_open_70 : decode kc_Pl_open 70 = .ok (.getfield 27, 3) := by decide +kernel
theorem kd_Pl_open_73 : decode kc_Pl_open 73 = .ok (.iload 4, 2) := by decide +kernel
theorem kd_Pl_open_75 : decode kc_Pl_open 75 = .ok (.aload_n 0, 1) := by decide +kernel
theorem kd_Pl_open_76 : decode kc_Pl_open 76 = .ok (.getfield 24, 3) := by decide +kernel
theorem kd_Pl_open_79 : decode kc_Pl_open 79 = .ok (.iload 4, 2) := by decide +kernel
theorem kd_Pl_open_81 : decode kc_Pl_open 81 = .ok (.iaload, 1) := by decide +kernel
theorem kd_Pl_open_82 : decode kc_Pl_open 82 = .ok (.iastore, 1) := by decide +kernel
theorem kd_Pl_open_83 : decode kc_Pl_open 83 = .ok (.aload_n 0, 1) := by decide +kernel
theorem kd_Pl_open_84 : decode kc_Pl_open 84 = .ok (.getfield 30, 3) := by decide +kernel
theorem kd_Pl_open_87 : decode kc_Pl_open 87 = .ok (.iload 4, 2) := by decide +kernel
theorem kd_Pl_open_89 : decode kc_Pl_open 89 = .ok (.iconst 0, 1) := by decide +kernel
theorem kd_Pl_open_90 : decode kc_Pl_open 90 = .ok (.iastore, 1) := by decide +kernel
theorem kd_Pl_open_91 : decode kc_Pl_open 91 = .ok (.aload_n 0, 1) := by decide +kernel
theorem kd_Pl_open_92 : decode kc_Pl_open 92 = .ok (.getfield 59, 3) := by decide +kernel
theorem kd_Pl_open_95 : decode kc_Pl_open 95 = .ok (.iload_n 2, 1) := by decide +kernel
theorem kd_Pl_open_96 : decode kc_Pl_open 96 = .ok (.iload 4, 2) := by decide +kernel
theorem kd_Pl_open_98 : decode kc_Pl_open 98 = .ok (.iastore, 1) := by decide +kernel
theorem kd_Pl_open_99 : decode kc_Pl_open 99 = .ok (.aload_n 0, 1) := by decide +kernel
theorem kd_Pl_open_100 : decode kc_Pl_open 100 = .ok (.iload 4, 2) := by decide +kernel
theorem kd_Pl_open_102 : decode kc_Pl_open 102 = .ok (.iconst 1, 1) := by decide +kernel
theorem kd_Pl_open_103 : decode kc_Pl_open 103 = .ok (.iadd, 1) := by decide +kernel
theorem kd_Pl_open_104 : decode kc_Pl_open 104 = .ok (.putfield 71, 3) := by decide +kernel
theorem kd_Pl_open_107 : decode kc_Pl_open 107 = .ok (.iload_n 1, 1) := by decide +kernel
theorem kd_Pl_open_108 : decode kc_Pl_open 108 = .ok (.iconst 3, 1) := by decide +kernel
theorem kd_Pl_open_109 : decode kc_Pl_open 109 = .ok (.if_icmp .ne 9, 3) := by decide +kernel
theorem kd_Pl_open_112 : decode kc_Pl_open 112 = .ok (.aload_n 0, 1) := by decide +kernel
theorem kd_Pl_open_113 : decode kc_Pl_open 113 = .ok (.iload 4, 2) := by decide +kernel
theorem kd_Pl_open_115 : decode kc_Pl_open 115 = .ok (.putfield 78, 3) := by decide +kernel
theorem kd_Pl_open_118 : decode kc_Pl_open 118 = .ok (.iload 4, 2) := by decide +kernel
theorem kd_Pl_open_120 : decode kc_Pl_open 120 = .ok (.ireturn, 1) := by decide +kernel
theorem kd_Ps_block_0 : decode kc_Ps_block 0 = .ok (.aload_n 0, 1) := by decide +kernel
theorem kd_Ps_block_1 : decode kc_Ps_block 1 = .ok (.getfield 32, 3) := by decide +kernel
theorem kd_Ps_block_4 : decode kc_Ps_block 4 = .ok (.istore_n 1, 1) := by decide +kernel
theorem kd_Ps_block_5 : decode kc_Ps_block 5 = .ok (.iload_n 1, 1) := by decide +kernel
theorem kd_Ps_block_6 : decode kc_Ps_block 6 = .ok (.sipush 128, 3) := by decide +kernel
theorem kd_Ps_block_9 : decode kc_Ps_block 9 = .ok (.if_icmp .ne 7, 3) := by decide +kernel
theorem kd_Ps_block_12 : decode kc_Ps_block 12 = .ok (.iconst 1, 1) := by decide +kernel
theorem kd_Ps_block_13 : decode kc_Ps_block 13 = .ok (.goto 15, 3) := by decide +kernel
theorem kd_Ps_block_16 : decode kc_Ps_block 16 = .ok (.iload_n 1, 1) := by decide +kernel
theorem kd_Ps_block_17 : decode kc_Ps_block 17 = .ok (.sipush 130, 3) := by decide +kernel
theorem kd_Ps_block_20 : decode kc_Ps_block 20 = .ok (.if_icmp .ne 7, 3) := by decide +kernel
theorem kd_Ps_block_23 : decode kc_Ps_block 23 = .ok (.iconst 2, 1) := by decide +kernel
theorem kd_Ps_block_24 : decode kc_Ps_block 24 = .ok (.goto 4, 3) := by decide +kernel
theorem kd_Ps_block_27 : decode kc_Ps_block 27 = .ok (.iconst 3, 1) := by decide +kernel
theorem kd_Ps_block_28 : decode kc_Ps_block 28 = .ok (.istore_n 2, 1) := by decide +kernel
theorem kd_Ps_block_29 : decode kc_Ps_block 29 = .ok (.aload_n 0, 1) := by decide +kernel
theorem kd_Ps_block_30 : decode kc_Ps_block 30 = .ok (.getfield 15, 3) := by decide +kernel
theorem kd_Ps_block_33 : decode kc_Ps_block 33 = .ok (.iload_n 2, 1) := by decide +kernel
theorem kd_Ps_block_34 : decode kc_Ps_block 34 = .ok (.aload_n 0, 1) := by decide +kernel
theorem kd_Ps_block_35 : decode kc_Ps_block 35 = .ok (.getfield 38, 3) := by decide +kernel
theorem kd_Ps_block_38 : decode kc_Ps_block 38 = .ok (.iconst 0, 1) := by decide +kernel
theorem kd_Ps_block_39 : decode kc_Ps_block 39 = .ok (.invokevirtual 49, 3) := by decide +kernel
theorem kd_Ps_block_42 : decode kc_Ps_block 42 = .ok (.istore_n 3, 1) := by decide +kernel
theorem kd_Ps_block_43 : decode kc_Ps_block 43 = .ok (.aload_n 0, 1) := by decide +kernel
theorem kd_Ps_block_44 : decode kc_Ps_block 44 = .ok (.iload_n 2, 1) := by decide +kernel
theorem kd_Ps_block_45 : decode kc_Ps_block 45 = .ok (.iconst 3, 1) := by decide +kernel
theorem kd_Ps_block_46 : decode kc_Ps_block 46 = .ok (.if_icmp .ne 9, 3) := by decide +kernel
theorem kd_Ps_block_49 : decode kc_Ps_block 49 = .ok (.sipush 132, 3) := by decide +kernel
theorem kd_Ps_block_52 : decode kc_Ps_block 52 = .ok (.goto 4, 3) := by decide +kernel
theorem kd_Ps_block_55 : decode kc_Ps_block 55 = .ok (.iload_n 1, 1) := by decide +kernel
theorem kd_Ps_block_56 : decode kc_Ps_block 56 = .ok (.invokevirtual 68, 3) := by decide +kernel
theorem kd_Ps_block_59 : decode kc_Ps_block 59 = .ok (.aload_n 0, 1) := by decide +kernel
theorem kd_Ps_block_60 : decode kc_Ps_block 60 = .ok (.getfield 15, 3) := by decide +kernel
theorem kd_Ps_block_63 : decode kc_Ps_block 63 = .ok (.getfield 72, 3) := by decide +kernel
theorem kd_Ps_block_66 : decode kc_Ps_block 66 = .ok (.iload_n 3, 1) := by decide +kernel
theorem kd_Ps_block_67 : decode kc_Ps_block 67 = .ok (.aload_n 0, 1) := by decide +kernel
theorem kd_Ps_block_68 : decode kc_Ps_block 68 = .ok (.getfield 9, 3) := by decide +kernel
theorem kd_Ps_block_71 : decode kc_Ps_block 71 = .ok (.getfield 61, 3) := by decide +kernel
theorem kd_Ps_block_74 : decode kc_Ps_block 74 = .ok (.aload_n 0, 1) := by decide +kernel
theorem kd_Ps_block_75 : decode kc_Ps_block 75 = .ok (.getfield 23, 3) := by decide +kernel
theorem kd_Ps_block_78 : decode kc_Ps_block 78 = .ok (.iaload, 1) := by decide +kernel
theorem kd_Ps_block_79 : decode kc_Ps_block 79 = .ok (.iastore, 1) := by decide +kernel
theorem kd_Ps_block_80 : decode kc_Ps_block 80 = .ok (.aload_n 0, 1) := by decide +kernel
theorem kd_Ps_block_81 : decode kc_Ps_block 81 = .ok (.bipush 8, 2) := by decide +kernel
theorem kd_Ps_block_83 : decode kc_Ps_block 83 = .ok (.invokevirtual 68, 3) := by decide +kernel
theorem kd_Ps_block_86 : decode kc_Ps_block 86 = .ok (.iconst (-1), 1) := by decide +kernel
theorem kd_Ps_block_87 : decode kc_Ps_block 87 = .ok (.istore 4, 2) := by decide +kernel
theorem kd_Ps_block_89 : decode kc_Ps_block 89 = .ok (.iload_n 2, 1) := by decide +kernel
theorem kd_Ps_block_90 : decode kc_Ps_block 90 = .ok (.iconst 1, 1) := by decide +kernel
theorem kd_Ps_block_91 : decode kc_Ps_block 91 = .ok (.if_icmp .ne 25, 3) := by decide +kernel
theorem kd_Ps_block_94 : decode kc_Ps_block 94 = .ok (.aload_n 0, 1) := by decide +kernel
theorem kd_Ps_block_95 : decode kc_Ps_block 95 = .ok (.bipush 58, 2) := by decide +kernel
theorem kd_Ps_block_97 : decode kc_Ps_block 97 = .ok (.invokevirtual 68, 3) := by decide +kernel
theorem kd_Ps_block_100 : decode kc_Ps_block 100 = .ok (.aload_n 0, 1) := by decide +kernel
theorem kd_Ps_block_101 : decode kc_Ps_block 101 = .ok (.getfield 15, 3) := by decide +kernel
theorem kd_Ps_block_104 : decode kc_Ps_block 104 = .ok (.iload_n 3, 1) := by decide +kernel
theorem kd_Ps_block_105 : decode kc_Ps_block 105 = .ok (.iload 4, 2) := by decide +kernel
theorem kd_Ps_block_107 : decode kc_Ps_block 107 = .ok (.aload_n 0, 1) := by decide +kernel
theorem kd_Ps_block_108 : decode kc_Ps_block 108 = .ok (.invokevirtual 73, 3) := by decide +kernel
theorem kd_Ps_block_111 : decode kc_Ps_block 111 = .ok (.invokevirtual 57, 3) := by decide +kernel
theorem kd_Ps_block_114 : decode kc_Ps_block 114 = .ok (.istore 4, 2) := by decide +kernel
theorem kd_Ps_block_116 : decode kc_Ps_block 116 = .ok (.iconst 0, 1) := by decide +kernel
theorem kd_Ps_block_117 : decode kc_Ps_block 117 = .ok (.istore 5, 2) := by decide +kernel
theorem kd_Ps_block_119 : decode kc_Ps_block 119 = .ok (.iload 5, 2) := by decide +kernel
theorem kd_Ps_block_121 : decode kc_Ps_block 121 = .ok (.sipush 16384, 3) := by decide +kernel
theorem kd_Ps_block_124 : decode kc_Ps_block 124 = .ok (.if_icmp .ge 32, 3) := by decide +kernel
theorem kd_Ps_block_127 : decode kc_Ps_block 127 = .ok (.aload_n 0, 1) := by decide +kernel
theorem kd_Ps_block_128 : decode kc_Ps_block 128 = .ok (.invokevirtual 76, 3) := by decide +kernel
theorem kd_Ps_block_131 : decode kc_Ps_block 131 = .ok (.ifCond .eq 25, 3) := by decide +kernel
theorem kd_Ps_block_134 : decode kc_Ps_block 134 = .ok (.aload_n 0, 1) := by decide +kernel
theorem kd_Ps_block_135 : decode kc_Ps_block 135 = .ok (.getfield 15, 3) := by decide +kernel
theorem kd_Ps_block_138 : decode kc_Ps_block 138 = .ok (.iload_n 3, 1) := by decide +kernel
theorem kd_Ps_block_139 : decode kc_Ps_block 139 = .ok (.iload 4, 2) := by decide +kernel
theorem kd_Ps_block_141 : decode kc_Ps_block 141 = .ok (.aload_n 0, 1) := by decide +kernel
theorem kd_Ps_block_142 : decode kc_Ps_block 142 = .ok (.invokevirtual 80, 3) := by decide +kernel
theorem kd_Ps_block_145 : decode kc_Ps_block 145 = .ok (.invokevirtual 57, 3) := by decide +kernel
theorem kd_Ps_block_148 : decode kc_Ps_block 148 = .ok (.istore 4, 2) := by decide +kernel
theorem kd_Ps_block_150 : decode kc_Ps_block 150 = .ok (.iinc 5 1, 3) := by decide +kernel
theorem kd_Ps_block_153 : decode kc_Ps_block 153 = .ok (.goto (-34), 3) := by decide +kernel
theorem kd_Ps_block_156 : decode kc_Ps_block 156 = .ok (.aload_n 0, 1) := by decide +kernel
theorem kd_Ps_block_157 : decode kc_Ps_block 157 = .ok (.getfield 15, 3) := by decide +kernel
theorem kd_Ps_block_160 : decode kc_Ps_block 160 = .ok (.iload_n 3, 1) := by decide +kernel
theorem kd_Ps_block_161 : decode kc_Ps_block 161 = .ok (.iload 4, 2) := by decide +kernel
theorem kd_Ps_block_163 : decode kc_Ps_block 163 = .ok (.aload_n 0, 1) := by decide +kernel
theorem kd_Ps_block_164 : decode kc_Ps_block 164 = .ok (.getfield 32, 3) := by decide +kernel
theorem kd_Ps_block_167 : decode kc_Ps_block 167 = .ok (.sipush 165, 3) := by decide +kernel
theorem kd_Ps_block_170 : decode kc_Ps_block 170 = .ok (.if_icmp .ne 10, 3) := by decide +kernel
theorem kd_Ps_block_173 : decode kc_Ps_block 173 = .ok (.aload_n 0, 1) := by decide +kernel
theorem kd_Ps_block_174 : decode kc_Ps_block 174 = .ok (.invokevirtual 83, 3) := by decide +kernel
theorem kd_Ps_block_177 : decode kc_Ps_block 177 = .ok (.goto 7, 3) := by decide +kernel
theorem kd_Ps_block_180 : decode kc_Ps_block 180 = .ok (.aload_n 0, 1) := by decide +kernel
theorem kd_Ps_block_181 : decode kc_Ps_block 181 = .ok (.invokevirtual 86, 3) := by decide +kernel
theorem kd_Ps_block_184 : decode kc_Ps_block 184 = .ok (.invokevirtual 57, 3) := by decide +kernel
theorem kd_Ps_block_187 : decode kc_Ps_block 187 = .ok (.pop, 1) := by decide +kernel
theorem kd_Ps_block_188 : decode kc_Ps_block 188 = .ok (.aload_n 0, 1) := by decide +kernel
theorem kd_Ps_block_189 : decode kc_Ps_block 189 = .ok (.iload_n 1, 1) := by decide +kernel
theorem kd_Ps_block_190 : decode kc_Ps_block 190 = .ok (.iconst 1, 1) := by decide +kernel
theorem kd_Ps_block_191 : decode kc_Ps_block 191 = .ok (.iadd, 1) := by decide +kernel
theorem kd_Ps_block_192 : decode kc_Ps_block 192 = .ok (.invokevirtual 68, 3) := by decide +kernel
theorem kd_Ps_block_195 : decode kc_Ps_block 195 = .ok (.iload_n 3, 1) := by decide +kernel
theorem kd_Ps_block_196 : decode kc_Ps_block 196 = .ok (.ireturn, 1) := by decide +kernel
theorem kd_Ps_caseStatement_0 : decode kc_Ps_caseStatement 0 = .ok (.aload_n 0, 1) := by decide +kernel
theorem kd_Ps_caseStatement_1 : decode kc_Ps_caseStatement 1 = .ok (.getfield 15, 3) := by decide +kernel
theorem kd_Ps_caseStatement_4 : decode kc_Ps_caseStatement 4 = .ok (.bipush 16, 2) := by decide +kernel
theorem kd_Ps_caseStatement_6 : decode kc_Ps_caseStatement 6 = .ok (.aload_n 0, 1) := by decide +kernel
theorem kd_Ps_caseStatement_7 : decode kc_Ps_caseStatement 7 = .ok (.getfield 38, 3) := by decide +kernel
theorem kd_Ps_caseStatement_10 : decode kc_Ps_caseStatement 10 = .ok (.iconst 0, 1) := by decide +kernel
theorem kd_Ps_caseStatement_11 : decode kc_Ps_caseStatement 11 = .ok (.invokevirtual 49, 3) := by decide +kernel
theorem kd_Ps_caseStatement_14 : decode kc_Ps_caseStatement 14 = .ok (.istore_n 1, 1) := by decide +kernel
theorem kd_Ps_caseStatement_15 : decode kc_Ps_caseStatement 15 = .ok (.aload_n 0, 1) := by decide +kernel
theorem kd_Ps_caseStatement_16 : decode kc_Ps_caseStatement 16 = .ok (.invokevirtual 119, 3) := by decide +kernel
theorem kd_Ps_caseStatement_19 : decode kc_Ps_caseStatement 19 = .ok (.aload_n 0, 1) := by decide +kernel
theorem kd_Ps_caseStatement_20 : decode kc_Ps_caseStatement 20 = .ok (.sipush 149, 3) := by decide +kernel
theorem kd_Ps_caseStatement_23 : decode kc_Ps_caseStatement 23 = .ok (.invokevirtual 68, 3) := by decide +kernel
theorem kd_Ps_caseStatement_26 : decode kc_Ps_caseStatement 26 = .ok (.aload_n 0, 1) := by decide +kernel
theorem kd_Ps_caseStatement_27 : decode kc_Ps_caseStatement 27 = .ok (.getfield 15, 3) := by decide +kernel
theorem kd_Ps_caseStatement_30 : decode kc_Ps_caseStatement 30 = .ok (.iload_n 1, 1) := by decide +kernel
theorem kd_Ps_caseStatement_31 : decode kc_Ps_caseStatement 31 = .ok (.iconst (-1), 1) := by decide +kernel
theorem kd_Ps_caseStatement_32 : decode kc_Ps_caseStatement 32 = .ok (.aload_n 0, 1) := by decide +kernel
theorem kd_Ps_caseStatement_33 : decode kc_Ps_caseStatement 33 = .ok (.invokevirtual 122, 3) := by decide +kernel
theorem kd_Ps_caseStatement_36 : decode kc_Ps_caseStatement 36 = .ok (.invokevirtual 57, 3) := by decide +kernel
theorem kd_Ps_caseStatement_39 : decode kc_Ps_caseStatement 39 = .ok (.istore_n 2, 1) := by decide +kernel
theorem kd_Ps_caseStatement_40 : decode kc_Ps_caseStatement 40 = .ok (.aload_n 0, 1) := by decide +kernel
theorem kd_Ps_caseStatement_41 : decode kc_Ps_caseStatement 41 = .ok (.sipush 143, 3) := by decide +kernel
theorem kd_Ps_caseStatement_44 : decode kc_Ps_caseStatement 44 = .ok (.invokevirtual 68, 3) := by decide +kernel
theorem kd_Ps_caseStatement_47 : decode kc_Ps_caseStatement 47 = .ok (.iconst 0, 1) := by decide +kernel
theorem kd_Ps_caseStatement_48 : decode kc_Ps_caseStatement 48 = .ok (.istore_n 3, 1) := by decide +kernel
theorem kd_Ps_caseStatement_49 : decode kc_Ps_caseStatement 49 = .ok (.iload_n 3, 1) := by decide +kernel
theorem kd_Ps_caseStatement_50 : decode kc_Ps_caseStatement 50 = .ok (.sipush 16384, 3) := by decide +kernel
theorem kd_Ps_caseStatement_53 : decode kc_Ps_caseStatement 53 = .ok (.if_icmp .ge 68, 3) := by decide +kernel
theorem kd_Ps_caseStatement_56 : decode kc_Ps_caseStatement 56 = .ok (.aload_n 0, 1) := by decide +kernel
theorem kd_Ps_caseStatement_57 : decode kc_Ps_caseStatement 57 = .ok (.invokevirtual 125, 3) := by decide +kernel
theorem kd_Ps_caseStatement_60 : decode kc_Ps_caseStatement 60 = .ok (.ifCond .eq 61, 3) := by decide +kernel
theorem kd_Ps_caseStatement_63 : decode kc_Ps_caseStatement 63 = .ok (.aload_n 0, 1) := by decide +kernel
theorem kd_Ps_caseStatement_64 : decode kc_Ps_caseStatement 64 = .ok (.getfield 15, 3) := by decide +kernel
theorem kd_Ps_caseStatement_67 : decode kc_Ps_caseStatement 67 = .ok (.bipush 17, 2) := by decide +kernel
theorem kd_Ps_caseStatement_69 : decode kc_Ps_caseStatement 69 = .ok (.aload_n 0, 1) := by decide +kernel
theorem kd_Ps_caseStatement_70 : decode kc_Ps_caseStatement 70 = .ok (.getfield 38, 3) := by decide +kernel
theorem kd_Ps_caseStatement_73 : decode kc_Ps_caseStatement 73 = .ok (.iconst 0, 1) := by decide +kernel
theorem kd_Ps_caseStatement_74 : decode kc_Ps_caseStatement 74 = .ok (.invokevirtual 49, 3) := by decide +kernel
theorem kd_Ps_caseStatement_77 : decode kc_Ps_caseStatement 77 = .ok (.istore 4, 2) := by decide +kernel
theorem kd_Ps_caseStatement_79 : decode kc_Ps_caseStatement 79 = .ok (.aload_n 0, 1) := by decide +kernel
theorem kd_Ps_caseStatement_80 : decode kc_Ps_caseStatement 80 = .ok (.getfield 15, 3) := by decide +kernel
theorem kd_Ps_caseStatement_83 : decode kc_Ps_caseStatement 83 = .ok (.iload_n 1, 1) := by decide +kernel
theorem kd_Ps_caseStatement_84 : decode kc_Ps_caseStatement 84 = .ok (.iload_n 2, 1) := by decide +kernel
theorem kd_Ps_caseStatement_85 : decode kc_Ps_caseStatement 85 = .ok (.iload 4, 2) := by decide +kernel
theorem kd_Ps_caseStatement_87 : decode kc_Ps_caseStatement 87 = .ok (.invokevirtual 57, 3) := by decide +kernel
theorem kd_Ps_caseStatement_90 : decode kc_Ps_caseStatement 90 = .ok (.istore_n 2, 1) := by decide +kernel
theorem kd_Ps_caseStatement_91 : decode kc_Ps_caseStatement 91 = .ok (.aload_n 0, 1) := by decide +kernel
theorem kd_Ps_caseStatement_92 : decode kc_Ps_caseStatement 92 = .ok (.iload 4, 2) := by decide +kernel
theorem kd_Ps_caseStatement_94 : decode kc_Ps_caseStatement 94 = .ok (.invokevirtual 128, 3) := by decide +kernel
theorem kd_Ps_caseStatement_97 : decode kc_Ps_caseStatement 97 = .ok (.istore 5, 2) := by decide +kernel
theorem kd_Ps_caseStatement_99 : decode kc_Ps_caseStatement 99 = .ok (.aload_n 0, 1) := by decide +kernel
theorem kd_Ps_caseStatement_100 : decode kc_Ps_caseStatement 100 = .ok (.getfield 15, 3) := by decide +kernel
theorem kd_Ps_caseStatement_103 : decode kc_Ps_caseStatement 103 = .ok (.iload 4, 2) := by decide +kernel
theorem kd_Ps_caseStatement_105 : decode kc_Ps_caseStatement 105 = .ok (.iload 5, 2) := by decide +kernel
theorem kd_Ps_caseStatement_107 : decode kc_Ps_caseStatement 107 = .ok (.aload_n 0, 1) := by decide +kernel
theorem kd_Ps_caseStatement_108 : decode kc_Ps_caseStatement 108 = .ok (.invokevirtual 86, 3) := by decide +kernel
theorem kd_Ps_caseStatement_111 : decode kc_Ps_caseStatement 111 = .ok (.invokevirtual 57, 3) := by decide +kernel
theorem kd_Ps_caseStatement_114 : decode kc_Ps_caseStatement 114 = .ok (.pop, 1) := by decide +kernel
theorem kd_Ps_caseStatement_115 : decode kc_Ps_caseStatement 115 = .ok (.iinc 3 1, 3) := by decide +kernel
theorem kd_Ps_caseStatement_118 : decode kc_Ps_caseStatement 118 = .ok (.goto (-69), 3) := by decide +kernel
theorem kd_Ps_caseStatement_121 : decode kc_Ps_caseStatement 121 = .ok (.aload_n 0, 1) := by decide +kernel
theorem kd_Ps_caseStatement_122 : decode kc_Ps_caseStatement 122 = .ok (.getfield 32, 3) := by decide +kernel
theorem kd_Ps_caseStatement_125 : decode kc_Ps_caseStatement 125 = .ok (.sipush 147, 3) := by decide +kernel
theorem kd_Ps_caseStatement_128 : decode kc_Ps_caseStatement 128 = .ok (.if_icmp .ne 24, 3) := by decide +kernel
theorem kd_Ps_caseStatement_131 : decode kc_Ps_caseStatement 131 = .ok (.aload_n 0, 1) := by decide +kernel
theorem kd_Ps_caseStatement_132 : decode kc_Ps_caseStatement 132 = .ok (.sipush 147, 3) := by decide +kernel
theorem kd_Ps_caseStatement_135 : decode kc_Ps_caseStatement 135 = .ok (.invokevirtual 68, 3) := by decide +kernel
theorem kd_Ps_caseStatement_138 : decode kc_Ps_caseStatement 138 = .ok (.aload_n 0, 1) := by decide +kernel
theorem kd_Ps_caseStatement_139 : decode kc_Ps_caseStatement 139 = .ok (.getfield 15, 3) := by decide +kernel
theorem kd_Ps_caseStatement_142 : decode kc_Ps_caseStatement 142 = .ok (.iload_n 1, 1) := by decide +kernel
theorem kd_Ps_caseStatement_143 : decode kc_Ps_caseStatement 143 = .ok (.iload_n 2, 1) := by decide +kernel
theorem kd_Ps_caseStatement_144 : decode kc_Ps_caseStatement 144 = .ok (.aload_n 0, 1) := by decide +kernel
theorem kd_Ps_caseStatement_145 : decode kc_Ps_caseStatement 145 = .ok (.invokevirtual 86, 3) := by decide +kernel
theorem kd_Ps_caseStatement_148 : decode kc_Ps_caseStatement 148 = .ok (.invokevirtual 57, 3) := by decide +kernel
theorem kd_Ps_caseStatement_151 : decode kc_Ps_caseStatement 151 = .ok (.pop, 1) := by decide +kernel
theorem kd_Ps_caseStatement_152 : decode kc_Ps_caseStatement 152 = .ok (.aload_n 0, 1) := by decide +kernel
theorem kd_Ps_caseStatement_153 : decode kc_Ps_caseStatement 153 = .ok (.sipush 150, 3) := by decide +kernel
theorem kd_Ps_caseStatement_156 : decode kc_Ps_caseStatement 156 = .ok (.invokevirtual 68, 3) := by decide +kernel
theorem kd_Ps_caseStatement_159 : decode kc_Ps_caseStatement 159 = .ok (.aload_n 0, 1) := by decide +kernel
theorem kd_Ps_caseStatement_160 : decode kc_Ps_caseStatement 160 = .ok (.dup, 1) := by decide +kernel
theorem kd_Ps_caseStatement_161 : decode kc_Ps_caseStatement 161 = .ok (.getfield 41, 3) := by decide +kernel
theorem kd_Ps_caseStatement_164 : decode kc_Ps_caseStatement 164 = .ok (.iconst 1, 1) := by decide +kernel
theorem kd_Ps_caseStatement_165 : decode kc_Ps_caseStatement 165 = .ok (.isub, 1) := by decide +kernel
theorem kd_Ps_caseStatement_166 : decode kc_Ps_caseStatement 166 = .ok (.putfield 41, 3) := by decide +kernel
theorem kd_Ps_caseStatement_169 : decode kc_Ps_caseStatement 169 = .ok (.iload_n 1, 1) := by decide +kernel
theorem kd_Ps_caseStatement_170 : decode kc_Ps_caseStatement 170 = .ok (.ireturn, 1) := by decide +kernel
theorem kd_Ps_forStatement_0 : decode kc_Ps_forStatement 0 = .ok (.aload_n 0, 1) := by decide +kernel
theorem kd_Ps_forStatement_1 : decode kc_Ps_forStatement 1 = .ok (.getfield 15, 3) := by decide +kernel
theorem kd_Ps_forStatement_4 : decode kc_Ps_forStatement 4 = .ok (.bipush 19, 2) := by decide +kernel
theorem kd_Ps_forStatement_6 : decode kc_Ps_forStatement 6 = .ok (.aload_n 0, 1) := by decide +kernel
theorem kd_Ps_forStatement_7 : decode kc_Ps_forStatement 7 = .ok (.getfield 38, 3) := by decide +kernel
theorem kd_Ps_forStatement_10 : decode kc_Ps_forStatement 10 = .ok (.iconst 0, 1) := by decide +kernel
theorem kd_Ps_forStatement_11 : decode kc_Ps_forStatement 11 = .ok (.invokevirtual 49, 3) := by decide +kernel
theorem kd_Ps_forStatement_14 : decode kc_Ps_forStatement 14 = .ok (.istore_n 1, 1) := by decide +kernel
theorem kd_Ps_forStatement_15 : decode kc_Ps_forStatement 15 = .ok (.aload_n 0, 1) := by decide +kernel
theorem kd_Ps_forStatement_16 : decode kc_Ps_forStatement 16 = .ok (.invokevirtual 119, 3) := by decide +kernel
theorem kd_Ps_forStatement_19 : decode kc_Ps_forStatement 19 = .ok (.aload_n 0, 1) := by decide +kernel
theorem kd_Ps_forStatement_20 : decode kc_Ps_forStatement 20 = .ok (.sipush 151, 3) := by decide +kernel
theorem kd_Ps_forStatement_23 : decode kc_Ps_forStatement 23 = .ok (.invokevirtual 68, 3) := by decide +kernel
theorem kd_Ps_forStatement_26 : decode kc_Ps_forStatement 26 = .ok (.aload_n 0, 1) := by decide +kernel
theorem kd_Ps_forStatement_27 : decode kc_Ps_forStatement 27 = .ok (.getfield 15, 3) := by decide +kernel
theorem kd_Ps_forStatement_30 : decode kc_Ps_forStatement 30 = .ok (.getfield 72, 3) := by decide +kernel
theorem kd_Ps_forStatement_33 : decode kc_Ps_forStatement 33 = .ok (.iload_n 1, 1) := by decide +kernel
theorem kd_Ps_forStatement_34 : decode kc_Ps_forStatement 34 = .ok (.aload_n 0, 1) := by decide +kernel
theorem kd_Ps_forStatement_35 : decode kc_Ps_forStatement 35 = .ok (.getfield 9, 3) := by decide +kernel
theorem kd_Ps_forStatement_38 : decode kc_Ps_forStatement 38 = .ok (.getfield 61, 3) := by decide +kernel
theorem kd_Ps_forStatement_41 : decode kc_Ps_forStatement 41 = .ok (.aload_n 0, 1) := by decide +kernel
theorem kd_Ps_forStatement_42 : decode kc_Ps_forStatement 42 = .ok (.getfield 23, 3) := by decide +kernel
theorem kd_Ps_forStatement_45 : decode kc_Ps_forStatement 45 = .ok (.iaload, 1) := by decide +kernel
theorem kd_Ps_forStatement_46 : decode kc_Ps_forStatement 46 = .ok (.iastore, 1) := by decide +kernel
theorem kd_Ps_forStatement_47 : decode kc_Ps_forStatement 47 = .ok (.aload_n 0, 1) := by decide +kernel
theorem kd_Ps_forStatement_48 : decode kc_Ps_forStatement 48 = .ok (.bipush 8, 2) := by decide +kernel
theorem kd_Ps_forStatement_50 : decode kc_Ps_forStatement 50 = .ok (.invokevirtual 68, 3) := by decide +kernel
theorem kd_Ps_forStatement_53 : decode kc_Ps_forStatement 53 = .ok (.aload_n 0, 1) := by decide +kernel
theorem kd_Ps_forStatement_54 : decode kc_Ps_forStatement 54 = .ok (.iconst 1, 1) := by decide +kernel
theorem kd_Ps_forStatement_55 : decode kc_Ps_forStatement 55 = .ok (.invokevirtual 68, 3) := by decide +kernel
theorem kd_Ps_forStatement_58 : decode kc_Ps_forStatement 58 = .ok (.aload_n 0, 1) := by decide +kernel
theorem kd_Ps_forStatement_59 : decode kc_Ps_forStatement 59 = .ok (.getfield 15, 3) := by decide +kernel
theorem kd_Ps_forStatement_62 : decode kc_Ps_forStatement 62 = .ok (.iload_n 1, 1) := by decide +kernel
theorem kd_Ps_forStatement_63 : decode kc_Ps_forStatement 63 = .ok (.iconst (-1), 1) := by decide +kernel
theorem kd_Ps_forStatement_64 : decode kc_Ps_forStatement 64 = .ok (.aload_n 0, 1) := by decide +kernel
theorem kd_Ps_forStatement_65 : decode kc_Ps_forStatement 65 = .ok (.invokevirtual 95, 3) := by decide +kernel
theorem kd_Ps_forStatement_68 : decode kc_Ps_forStatement 68 = .ok (.invokevirtual 57, 3) := by decide +kernel
theorem kd_Ps_forStatement_71 : decode kc_Ps_forStatement 71 = .ok (.istore_n 2, 1) := by decide +kernel
theorem kd_Ps_forStatement_72 : decode kc_Ps_forStatement 72 = .ok (.aload_n 0, 1) := by decide +kernel
theorem kd_Ps_forStatement_73 : decode kc_Ps_forStatement 73 = .ok (.sipush 152, 3) := by decide +kernel
theorem kd_Ps_forStatement_76 : decode kc_Ps_forStatement 76 = .ok (.invokevirtual 68, 3) := by decide +kernel
theorem kd_Ps_forStatement_79 : decode kc_Ps_forStatement 79 = .ok (.aload_n 0, 1) := by decide +kernel
theorem kd_Ps_forStatement_80 : decode kc_Ps_forStatement 80 = .ok (.getfield 15, 3) := by decide +kernel
theorem kd_Ps_forStatement_83 : decode kc_Ps_forStatement 83 = .ok (.iload_n 1, 1) := by decide +kernel
theorem kd_Ps_forStatement_84 : decode kc_Ps_forStatement 84 = .ok (.iload_n 2, 1) := by decide +kernel
theorem kd_Ps_forStatement_85 : decode kc_Ps_forStatement 85 = .ok (.aload_n 0, 1) := by decide +kernel
theorem kd_Ps_forStatement_86 : decode kc_Ps_forStatement 86 = .ok (.invokevirtual 95, 3) := by decide +kernel
theorem kd_Ps_forStatement_89 : decode kc_Ps_forStatement 89 = .ok (.invokevirtual 57, 3) := by decide +kernel
theorem kd_Ps_forStatement_92 : decode kc_Ps_forStatement 92 = .ok (.istore_n 2, 1) := by decide +kernel
theorem kd_Ps_forStatement_93 : decode kc_Ps_forStatement 93 = .ok (.aload_n 0, 1) := by decide +kernel
theorem kd_Ps_forStatement_94 : decode kc_Ps_forStatement 94 = .ok (.getfield 32, 3) := by decide +kernel
theorem kd_Ps_forStatement_97 : decode kc_Ps_forStatement 97 = .ok (.sipush 153, 3) := by decide +kernel
theorem kd_Ps_forStatement_100 : decode kc_Ps_forStatement 100 = .ok (.if_icmp .ne 24, 3) := by decide +kernel
theorem kd_Ps_forStatement_103 : decode kc_Ps_forStatement 103 = .ok (.aload_n 0, 1) := by decide +kernel
theorem kd_Ps_forStatement_104 : decode kc_Ps_forStatement 104 = .ok (.sipush 153, 3) := by decide +kernel
theorem kd_Ps_forStatement_107 : decode kc_Ps_forStatement 107 = .ok (.invokevirtual 68, 3) := by decide +kernel
theorem kd_Ps_forStatement_110 : decode kc_Ps_forStatement 110 = .ok (.aload_n 0, 1) := by decide +kernel
theorem kd_Ps_forStatement_111 : decode kc_Ps_forStatement 111 = .ok (.getfield 15, 3) := by decide +kernel
theorem kd_Ps_forStatement_114 : decode kc_Ps_forStatement 114 = .ok (.iload_n 1, 1) := by decide +kernel
theorem kd_Ps_forStatement_115 : decode kc_Ps_forStatement 115 = .ok (.iload_n 2, 1) := by decide +kernel
theorem kd_Ps_forStatement_116 : decode kc_Ps_forStatement 116 = .ok (.aload_n 0, 1) := by decide +kernel
theorem kd_Ps_forStatement_117 : decode kc_Ps_forStatement 117 = .ok (.invokevirtual 95, 3) := by decide +kernel
theorem kd_Ps_forStatement_120 : decode kc_Ps_forStatement 120 = .ok (.invokevirtual 57, 3) := by decide +kernel
theorem kd_Ps_forStatement_123 : decode kc_Ps_forStatement 123 = .ok (.istore_n 2, 1) := by decide +kernel
theorem kd_Ps_forStatement_124 : decode kc_Ps_forStatement 124 = .ok (.aload_n 0, 1) := by decide +kernel
theorem kd_Ps_forStatement_125 : decode kc_Ps_forStatement 125 = .ok (.sipush 154, 3) := by decide +kernel
theorem kd_Ps_forStatement_128 : decode kc_Ps_forStatement 128 = .ok (.invokevirtual 68, 3) := by decide +kernel
theorem kd_Ps_forStatement_131 : decode kc_Ps_forStatement 131 = .ok (.aload_n 0, 1) := by decide +kernel
theorem kd_Ps_forStatement_132 : decode kc_Ps_forStatement 132 = .ok (.getfield 15, 3) := by decide +kernel
theorem kd_Ps_forStatement_135 : decode kc_Ps_forStatement 135 = .ok (.iload_n 1, 1) := by decide +kernel
theorem kd_Ps_forStatement_136 : decode kc_Ps_forStatement 136 = .ok (.iload_n 2, 1) := by decide +kernel
theorem kd_Ps_forStatement_137 : decode kc_Ps_forStatement 137 = .ok (.aload_n 0, 1) := by decide +kernel
theorem kd_Ps_forStatement_138 : decode kc_Ps_forStatement 138 = .ok (.invokevirtual 86, 3) := by decide +kernel
theorem kd_Ps_forStatement_141 : decode kc_Ps_forStatement 141 = .ok (.invokevirtual 57, 3) := by decide +kernel
theorem kd_Ps_forStatement_144 : decode kc_Ps_forStatement 144 = .ok (.pop, 1) := by decide +kernel
theorem kd_Ps_forStatement_145 : decode kc_Ps_forStatement 145 = .ok (.aload_n 0, 1) := by decide +kernel
theorem kd_Ps_forStatement_146 : decode kc_Ps_forStatement 146 = .ok (.sipush 155, 3) := by decide +kernel
theorem kd_Ps_forStatement_149 : decode kc_Ps_forStatement 149 = .ok (.invokevirtual 68, 3) := by decide +kernel
theorem kd_Ps_forStatement_152 : decode kc_Ps_forStatement 152 = .ok (.aload_n 0, 1) := by decide +kernel
theorem kd_Ps_forStatement_153 : decode kc_Ps_forStatement 153 = .ok (.dup, 1) := by decide +kernel
theorem kd_Ps_forStatement_154 : decode kc_Ps_forStatement 154 = .ok (.getfield 41, 3) := by decide +kernel
theorem kd_Ps_forStatement_157 : decode kc_Ps_forStatement 157 = .ok (.iconst 1, 1) := by decide +kernel
theorem kd_Ps_forStatement_158 : decode kc_Ps_forStatement 158 = .ok (.isub, 1) := by decide +kernel
theorem kd_Ps_forStatement_159 : decode kc_Ps_forStatement 159 = .ok (.putfield 41, 3) := by decide +kernel
theorem kd_Ps_forStatement_162 : decode kc_Ps_forStatement 162 = .ok (.iload_n 1, 1) := by decide +kernel
theorem kd_Ps_forStatement_163 : decode kc_Ps_forStatement 163 = .ok (.ireturn, 1) := by decide +kernel
theorem kd_Ps_ifStatement_0 : decode kc_Ps_ifStatement 0 = .ok (.aload_n 0, 1) := by decide +kernel
theorem kd_Ps_ifStatement_1 : decode kc_Ps_ifStatement 1 = .ok (.getfield 15, 3) := by decide +kernel
theorem kd_Ps_ifStatement_4 : decode kc_Ps_ifStatement 4 = .ok (.bipush 15, 2) := by decide +kernel
theorem kd_Ps_ifStatement_6 : decode kc_Ps_ifStatement 6 = .ok (.aload_n 0, 1) := by decide +kernel
theorem kd_Ps_ifStatement_7 : decode kc_Ps_ifStatement 7 = .ok (.getfield 38, 3) := by decide +kernel
theorem kd_Ps_ifStatement_10 : decode kc_Ps_ifStatement 10 = .ok (.iconst 0, 1) := by decide +kernel
theorem kd_Ps_ifStatement_11 : decode kc_Ps_ifStatement 11 = .ok (.invokevirtual 49, 3) := by decide +kernel
theorem kd_Ps_ifStatement_14 : decode kc_Ps_ifStatement 14 = .ok (.istore_n 1, 1) := by decide +kernel
theorem kd_Ps_ifStatement_15 : decode kc_Ps_ifStatement 15 = .ok (.aload_n 0, 1) := by decide +kernel
theorem kd_Ps_ifStatement_16 : decode kc_Ps_ifStatement 16 = .ok (.invokevirtual 119, 3) := by decide +kernel
theorem kd_Ps_ifStatement_19 : decode kc_Ps_ifStatement 19 = .ok (.iconst (-1), 1) := by decide +kernel
theorem kd_Ps_ifStatement_20 : decode kc_Ps_ifStatement 20 = .ok (.istore_n 2, 1) := by decide +kernel
theorem kd_Ps_ifStatement_21 : decode kc_Ps_ifStatement 21 = .ok (.sipush 144, 3) := by decide +kernel
theorem kd_Ps_ifStatement_24 : decode kc_Ps_ifStatement 24 = .ok (.istore_n 3, 1) := by decide +kernel
theorem kd_Ps_ifStatement_25 : decode kc_Ps_ifStatement 25 = .ok (.iconst 0, 1) := by decide +kernel
theorem kd_Ps_ifStatement_26 : decode kc_Ps_ifStatement 26 = .ok (.istore 4, 2) := by decide +kernel
theorem kd_Ps_ifStatement_28 : decode kc_Ps_ifStatement 28 = .ok (.iload 4, 2) := by decide +kernel
theorem kd_Ps_ifStatement_30 : decode kc_Ps_ifStatement 30 = .ok (.sipush 16384, 3) := by decide +kernel
theorem kd_Ps_ifStatement_33 : decode kc_Ps_ifStatement 33 = .ok (.if_icmp .ge 61, 3) := by decide +kernel
theorem kd_Ps_ifStatement_36 : decode kc_Ps_ifStatement 36 = .ok (.aload_n 0, 1) := by decide +kernel
theorem kd_Ps_ifStatement_37 : decode kc_Ps_ifStatement 37 = .ok (.getfield 32, 3) := by decide +kernel
theorem kd_Ps_ifStatement_40 : decode kc_Ps_ifStatement 40 = .ok (.iload_n 3, 1) := by decide +kernel
theorem kd_Ps_ifStatement_41 : decode kc_Ps_ifStatement 41 = .ok (.if_icmp .ne 53, 3) := by decide +kernel
theorem kd_Ps_ifStatement_44 : decode kc_Ps_ifStatement 44 = .ok (.aload_n 0, 1) := by decide +kernel
theorem kd_Ps_ifStatement_45 : decode kc_Ps_ifStatement 45 = .ok (.iload_n 3, 1) := by decide +kernel
theorem kd_Ps_ifStatement_46 : decode kc_Ps_ifStatement 46 = .ok (.invokevirtual 68, 3) := by decide +kernel
theorem kd_Ps_ifStatement_49 : decode kc_Ps_ifStatement 49 = .ok (.aload_n 0, 1) := by decide +kernel
theorem kd_Ps_ifStatement_50 : decode kc_Ps_ifStatement 50 = .ok (.getfield 15, 3) := by decide +kernel
theorem kd_Ps_ifStatement_53 : decode kc_Ps_ifStatement 53 = .ok (.iload_n 1, 1) := by decide +kernel
theorem kd_Ps_ifStatement_54 : decode kc_Ps_ifStatement 54 = .ok (.iload_n 2, 1) := by decide +kernel
theorem kd_Ps_ifStatement_55 : decode kc_Ps_ifStatement 55 = .ok (.aload_n 0, 1) := by decide +kernel
theorem kd_Ps_ifStatement_56 : decode kc_Ps_ifStatement 56 = .ok (.invokevirtual 122, 3) := by decide +kernel
theorem kd_Ps_ifStatement_59 : decode kc_Ps_ifStatement 59 = .ok (.invokevirtual 57, 3) := by decide +kernel
theorem kd_Ps_ifStatement_62 : decode kc_Ps_ifStatement 62 = .ok (.istore_n 2, 1) := by decide +kernel
theorem kd_Ps_ifStatement_63 : decode kc_Ps_ifStatement 63 = .ok (.aload_n 0, 1) := by decide +kernel
theorem kd_Ps_ifStatement_64 : decode kc_Ps_ifStatement 64 = .ok (.sipush 145, 3) := by decide +kernel
theorem kd_Ps_ifStatement_67 : decode kc_Ps_ifStatement 67 = .ok (.invokevirtual 68, 3) := by decide +kernel
theorem kd_Ps_ifStatement_70 : decode kc_Ps_ifStatement 70 = .ok (.aload_n 0, 1) := by decide +kernel
theorem kd_Ps_ifStatement_71 : decode kc_Ps_ifStatement 71 = .ok (.getfield 15, 3) := by decide +kernel
theorem kd_Ps_ifStatement_74 : decode kc_Ps_ifStatement 74 = .ok (.iload_n 1, 1) := by decide +kernel
theorem kd_Ps_ifStatement_75 : decode kc_Ps_ifStatement 75 = .ok (.iload_n 2, 1) := by decide +kernel
theorem kd_Ps_ifStatement_76 : decode kc_Ps_ifStatement 76 = .ok (.aload_n 0, 1) := by decide +kernel
theorem kd_Ps_ifStatement_77 : decode kc_Ps_ifStatement 77 = .ok (.invokevirtual 86, 3) := by decide +kernel
theorem kd_Ps_ifStatement_80 : decode kc_Ps_ifStatement 80 = .ok (.invokevirtual 57, 3) := by decide +kernel
theorem kd_Ps_ifStatement_83 : decode kc_Ps_ifStatement 83 = .ok (.istore_n 2, 1) := by decide +kernel
theorem kd_Ps_ifStatement_84 : decode kc_Ps_ifStatement 84 = .ok (.sipush 146, 3) := by decide +kernel
theorem kd_Ps_ifStatement_87 : decode kc_Ps_ifStatement 87 = .ok (.istore_n 3, 1) := by decide +kernel
theorem kd_Ps_ifStatement_88 : decode kc_Ps_ifStatement 88 = .ok (.iinc 4 1, 3) := by decide +kernel
theorem kd_Ps_ifStatement_91 : decode kc_Ps_ifStatement 91 = .ok (.goto (-63), 3) := by decide +kernel
theorem kd_Ps_ifStatement_94 : decode kc_Ps_ifStatement 94 = .ok (.aload_n 0, 1) := by decide +kernel
theorem kd_Ps_ifStatement_95 : decode kc_Ps_ifStatement 95 = .ok (.getfield 32, 3) := by decide +kernel
theorem kd_Ps_ifStatement_98 : decode kc_Ps_ifStatement 98 = .ok (.sipush 147, 3) := by decide +kernel
theorem kd_Ps_ifStatement_101 : decode kc_Ps_ifStatement 101 = .ok (.if_icmp .ne 24, 3) := by decide +kernel
theorem kd_Ps_ifStatement_104 : decode kc_Ps_ifStatement 104 = .ok (.aload_n 0, 1) := by decide +kernel
theorem kd_Ps_ifStatement_105 : decode kc_Ps_ifStatement 105 = .ok (.sipush 147, 3) := by decide +kernel
theorem kd_Ps_ifStatement_108 : decode kc_Ps_ifStatement 108 = .ok (.invokevirtual 68, 3) := by decide +kernel
theorem kd_Ps_ifStatement_111 : decode kc_Ps_ifStatement 111 = .ok (.aload_n 0, 1) := by decide +kernel
theorem kd_Ps_ifStatement_112 : decode kc_Ps_ifStatement 112 = .ok (.getfield 15, 3) := by decide +kernel
theorem kd_Ps_ifStatement_115 : decode kc_Ps_ifStatement 115 = .ok (.iload_n 1, 1) := by decide +kernel
theorem kd_Ps_ifStatement_116 : decode kc_Ps_ifStatement 116 = .ok (.iload_n 2, 1) := by decide +kernel
theorem kd_Ps_ifStatement_117 : decode kc_Ps_ifStatement 117 = .ok (.aload_n 0, 1) := by decide +kernel
theorem kd_Ps_ifStatement_118 : decode kc_Ps_ifStatement 118 = .ok (.invokevirtual 86, 3) := by decide +kernel
theorem kd_Ps_ifStatement_121 : decode kc_Ps_ifStatement 121 = .ok (.invokevirtual 57, 3) := by decide +kernel
theorem kd_Ps_ifStatement_124 : decode kc_Ps_ifStatement 124 = .ok (.pop, 1) := by decide +kernel
theorem kd_Ps_ifStatement_125 : decode kc_Ps_ifStatement 125 = .ok (.aload_n 0, 1) := by decide +kernel
theorem kd_Ps_ifStatement_126 : decode kc_Ps_ifStatement 126 = .ok (.sipush 148, 3) := by decide +kernel
theorem kd_Ps_ifStatement_129 : decode kc_Ps_ifStatement 129 = .ok (.invokevirtual 68, 3) := by decide +kernel
theorem kd_Ps_ifStatement_132 : decode kc_Ps_ifStatement 132 = .ok (.aload_n 0, 1) := by decide +kernel
theorem kd_Ps_ifStatement_133 : decode kc_Ps_ifStatement 133 = .ok (.dup, 1) := by decide +kernel
theorem kd_Ps_ifStatement_134 : decode kc_Ps_ifStatement 134 = .ok (.getfield 41, 3) := by decide +kernel
theorem kd_Ps_ifStatement_137 : decode kc_Ps_ifStatement 137 = .ok (.iconst 1, 1) := by decide +kernel
theorem kd_Ps_ifStatement_138 : decode kc_Ps_ifStatement 138 = .ok (.isub, 1) := by decide +kernel
theorem kd_Ps_ifStatement_139 : decode kc_Ps_ifStatement 139 = .ok (.putfield 41, 3) := by decide +kernel
theorem kd_Ps_ifStatement_142 : decode kc_Ps_ifStatement 142 = .ok (.iload_n 1, 1) := by decide +kernel
theorem kd_Ps_ifStatement_143 : decode kc_Ps_ifStatement 143 = .ok (.ireturn, 1) := by decide +kernel
theorem kd_Ps_parse_0 : decode kc_Ps_parse 0 = .ok (.aload_n 0, 1) := by decide +kernel
theorem kd_Ps_parse_1 : decode kc_Ps_parse 1 = .ok (.iconst 0, 1) := by decide +kernel
theorem kd_Ps_parse_2 : decode kc_Ps_parse 2 = .ok (.putfield 19, 3) := by decide +kernel
theorem kd_Ps_parse_5 : decode kc_Ps_parse 5 = .ok (.aload_n 0, 1) := by decide +kernel
theorem kd_Ps_parse_6 : decode kc_Ps_parse 6 = .ok (.iconst 0, 1) := by decide +kernel
theorem kd_Ps_parse_7 : decode kc_Ps_parse 7 = .ok (.putfield 23, 3) := by decide +kernel
theorem kd_Ps_parse_10 : decode kc_Ps_parse 10 = .ok (.aload_n 0, 1) := by decide +kernel
theorem kd_Ps_parse_11 : decode kc_Ps_parse 11 = .ok (.aload_n 0, 1) := by decide +kernel
theorem kd_Ps_parse_12 : decode kc_Ps_parse 12 = .ok (.getfield 9, 3) := by decide +kernel
theorem kd_Ps_parse_15 : decode kc_Ps_parse 15 = .ok (.getfield 26, 3) := by decide +kernel
theorem kd_Ps_parse_18 : decode kc_Ps_parse 18 = .ok (.iconst 0, 1) := by decide +kernel
theorem kd_Ps_parse_19 : decode kc_Ps_parse 19 = .ok (.caload, 1) := by decide +kernel
theorem kd_Ps_parse_20 : decode kc_Ps_parse 20 = .ok (.putfield 32, 3) := by decide +kernel
theorem kd_Ps_parse_23 : decode kc_Ps_parse 23 = .ok (.aload_n 0, 1) := by decide +kernel
theorem kd_Ps_parse_24 : decode kc_Ps_parse 24 = .ok (.aload_n 0, 1) := by decide +kernel
theorem kd_Ps_parse_25 : decode kc_Ps_parse 25 = .ok (.getfield 9, 3) := by decide +kernel
theorem kd_Ps_parse_28 : decode kc_Ps_parse 28 = .ok (.getfield 35, 3) := by decide +kernel
theorem kd_Ps_parse_31 : decode kc_Ps_parse 31 = .ok (.iconst 0, 1) := by decide +kernel
theorem kd_Ps_parse_32 : decode kc_Ps_parse 32 = .ok (.caload, 1) := by decide +kernel
theorem kd_Ps_parse_33 : decode kc_Ps_parse 33 = .ok (.putfield 38, 3) := by decide +kernel
theorem kd_Ps_parse_36 : decode kc_Ps_parse 36 = .ok (.aload_n 0, 1) := by decide +kernel
theorem kd_Ps_parse_37 : decode kc_Ps_parse 37 = .ok (.iconst 0, 1) := by decide +kernel
theorem kd_Ps_parse_38 : decode kc_Ps_parse 38 = .ok (.putfield 41, 3) := by decide +kernel
theorem kd_Ps_parse_41 : decode kc_Ps_parse 41 = .ok (.aload_n 0, 1) := by decide +kernel
theorem kd_Ps_parse_42 : decode kc_Ps_parse 42 = .ok (.getfield 15, 3) := by decide +kernel
theorem kd_Ps_parse_45 : decode kc_Ps_parse 45 = .ok (.iconst 0, 1) := by decide +kernel
theorem kd_Ps_parse_46 : decode kc_Ps_parse 46 = .ok (.putfield 44, 3) := by decide +kernel
theorem kd_Ps_parse_49 : decode kc_Ps_parse 49 = .ok (.aload_n 0, 1) := by decide +kernel
theorem kd_Ps_parse_50 : decode kc_Ps_parse 50 = .ok (.getfield 15, 3) := by decide +kernel
theorem kd_Ps_parse_53 : decode kc_Ps_parse 53 = .ok (.iconst 0, 1) := by decide +kernel
theorem kd_Ps_parse_54 : decode kc_Ps_parse 54 = .ok (.iconst 0, 1) := by decide +kernel
theorem kd_Ps_parse_55 : decode kc_Ps_parse 55 = .ok (.iconst 0, 1) := by decide +kernel
theorem kd_Ps_parse_56 : decode kc_Ps_parse 56 = .ok (.invokevirtual 49, 3) := by decide +kernel
theorem kd_Ps_parse_59 : decode kc_Ps_parse 59 = .ok (.istore_n 1, 1) := by decide +kernel
theorem kd_Ps_parse_60 : decode kc_Ps_parse 60 = .ok (.iconst (-1), 1) := by decide +kernel
theorem kd_Ps_parse_61 : decode kc_Ps_parse 61 = .ok (.istore_n 2, 1) := by decide +kernel
theorem kd_Ps_parse_62 : decode kc_Ps_parse 62 = .ok (.iconst 0, 1) := by decide +kernel
theorem kd_Ps_parse_63 : decode kc_Ps_parse 63 = .ok (.istore_n 3, 1) := by decide +kernel
theorem kd_Ps_parse_64 : decode kc_Ps_parse 64 = .ok (.iload_n 3, 1) := by decide +kernel
theorem kd_Ps_parse_65 : decode kc_Ps_parse 65 = .ok (.sipush 16384, 3) := by decide +kernel
theorem kd_Ps_parse_68 : decode kc_Ps_parse 68 = .ok (.if_icmp .ge 39, 3) := by decide +kernel
theorem kd_Ps_parse_71 : decode kc_Ps_parse 71 = .ok (.aload_n 0, 1) := by decide +kernel
theorem kd_Ps_parse_72 : decode kc_Ps_parse 72 = .ok (.getfield 32, 3) := by decide +kernel
theorem kd_Ps_parse_75 : decode kc_Ps_parse 75 = .ok (.bipush 6, 2) := by decide +kernel
theorem kd_Ps_parse_77 : decode kc_Ps_parse 77 = .ok (.if_icmp .eq 30, 3) := by decide +kernel
theorem kd_Ps_parse_80 : decode kc_Ps_parse 80 = .ok (.aload_n 0, 1) := by decide +kernel
theorem kd_Ps_parse_81 : decode kc_Ps_parse 81 = .ok (.getfield 19, 3) := by decide +kernel
theorem kd_Ps_parse_84 : decode kc_Ps_parse 84 = .ok (.ifCond .ne 23, 3) := by decide +kernel
theorem kd_Ps_parse_87 : decode kc_Ps_parse 87 = .ok (.aload_n 0, 1) := by decide +kernel
theorem kd_Ps_parse_88 : decode kc_Ps_parse 88 = .ok (.getfield 15, 3) := by decide +kernel
theorem kd_Ps_parse_91 : decode kc_Ps_parse 91 = .ok (.iload_n 1, 1) := by decide +kernel
theorem kd_Ps_parse_92 : decode kc_Ps_parse 92 = .ok (.iload_n 2, 1) := by decide +kernel
theorem kd_Ps_parse_93 : decode kc_Ps_parse 93 = .ok (.aload_n 0, 1) := by decide +kernel
theorem kd_Ps_parse_94 : decode kc_Ps_parse 94 = .ok (.invokevirtual 53, 3) := by decide +kernel
theorem kd_Ps_parse_97 : decode kc_Ps_parse 97 = .ok (.invokevirtual 57, 3) := by decide +kernel
theorem kd_Ps_parse_100 : decode kc_Ps_parse 100 = .ok (.istore_n 2, 1) := by decide +kernel
theorem kd_Ps_parse_101 : decode kc_Ps_parse 101 = .ok (.iinc 3 1, 3) := by decide +kernel
theorem kd_Ps_parse_104 : decode kc_Ps_parse 104 = .ok (.goto (-40), 3) := by decide +kernel
theorem kd_Ps_parse_107 : decode kc_Ps_parse 107 = .ok (.aload_n 0, 1) := by decide +kernel
theorem kd_Ps_parse_108 : decode kc_Ps_parse 108 = .ok (.getfield 19, 3) := by decide +kernel
theorem kd_Ps_parse_111 : decode kc_Ps_parse 111 = .ok (.ireturn, 1) := by decide +kernel
theorem kd_Ps_statement_0 : decode kc_Ps_statement 0 = .ok (.aload_n 0, 1) := by decide +kernel
theorem kd_Ps_statement_1 : decode kc_Ps_statement 1 = .ok (.getfield 32, 3) := by decide +kernel
theorem kd_Ps_statement_4 : decode kc_Ps_statement 4 = .ok (.lookupswitch 116 #[(8, 59), (144, 44), (149, 49), (151, 54)], 44) := by decide +kernel
theorem kd_Ps_statement_48 : decode kc_Ps_statement 48 = .ok (.aload_n 0, 1) := by decide +kernel
theorem kd_Ps_statement_49 : decode kc_Ps_statement 49 = .ok (.invokevirtual 104, 3) := by decide +kernel
theorem kd_Ps_statement_52 : decode kc_Ps_statement 52 = .ok (.ireturn, 1) := by decide +kernel
theorem kd_Ps_statement_53 : decode kc_Ps_statement 53 = .ok (.aload_n 0, 1) := by decide +kernel
theorem kd_Ps_statement_54 : decode kc_Ps_statement 54 = .ok (.invokevirtual 107, 3) := by decide +kernel
theorem kd_Ps_statement_57 : decode kc_Ps_statement 57 = .ok (.ireturn, 1) := by decide +kernel
theorem kd_Ps_statement_58 : decode kc_Ps_statement 58 = .ok (.aload_n 0, 1) := by decide +kernel
theorem kd_Ps_statement_59 : decode kc_Ps_statement 59 = .ok (.invokevirtual 110, 3) := by decide +kernel
theorem kd_Ps_statement_62 : decode kc_Ps_statement 62 = .ok (.ireturn, 1) := by decide +kernel
theorem kd_Ps_statement_63 : decode kc_Ps_statement 63 = .ok (.aload_n 0, 1) := by decide +kernel
theorem kd_Ps_statement_64 : decode kc_Ps_statement 64 = .ok (.getfield 23, 3) := by decide +kernel
theorem kd_Ps_statement_67 : decode kc_Ps_statement 67 = .ok (.iconst 1, 1) := by decide +kernel
theorem kd_Ps_statement_68 : decode kc_Ps_statement 68 = .ok (.iadd, 1) := by decide +kernel
theorem kd_Ps_statement_69 : decode kc_Ps_statement 69 = .ok (.aload_n 0, 1) := by decide +kernel
theorem kd_Ps_statement_70 : decode kc_Ps_statement 70 = .ok (.getfield 9, 3) := by decide +kernel
theorem kd_Ps_statement_73 : decode kc_Ps_statement 73 = .ok (.getfield 60, 3) := by decide +kernel
theorem kd_Ps_statement_76 : decode kc_Ps_statement 76 = .ok (.if_icmp .ge 26, 3) := by decide +kernel
theorem kd_Ps_statement_79 : decode kc_Ps_statement 79 = .ok (.aload_n 0, 1) := by decide +kernel
theorem kd_Ps_statement_80 : decode kc_Ps_statement 80 = .ok (.getfield 9, 3) := by decide +kernel
theorem kd_Ps_statement_83 : decode kc_Ps_statement 83 = .ok (.getfield 26, 3) := by decide +kernel
theorem kd_Ps_statement_86 : decode kc_Ps_statement 86 = .ok (.aload_n 0, 1) := by decide +kernel
theorem kd_Ps_statement_87 : decode kc_Ps_statement 87 = .ok (.getfield 23, 3) := by decide +kernel
theorem kd_Ps_statement_90 : decode kc_Ps_statement 90 = .ok (.iconst 1, 1) := by decide +kernel
theorem kd_Ps_statement_91 : decode kc_Ps_statement 91 = .ok (.iadd, 1) := by decide +kernel
theorem kd_Ps_statement_92 : decode kc_Ps_statement 92 = .ok (.caload, 1) := by decide +kernel
theorem kd_Ps_statement_93 : decode kc_Ps_statement 93 = .ok (.bipush 40, 2) := by decide +kernel
theorem kd_Ps_statement_95 : decode kc_Ps_statement 95 = .ok (.if_icmp .ne 7, 3) := by decide +kernel
theorem kd_Ps_statement_98 : decode kc_Ps_statement 98 = .ok (.iconst 1, 1) := by decide +kernel
theorem kd_Ps_statement_99 : decode kc_Ps_statement 99 = .ok (.goto 4, 3) := by decide +kernel
theorem kd_Ps_statement_102 : decode kc_Ps_statement 102 = .ok (.iconst 0, 1) := by decide +kernel
theorem kd_Ps_statement_103 : decode kc_Ps_statement 103 = .ok (.istore_n 1, 1) := by decide +kernel
theorem kd_Ps_statement_104 : decode kc_Ps_statement 104 = .ok (.iload_n 1, 1) := by decide +kernel
theorem kd_Ps_statement_105 : decode kc_Ps_statement 105 = .ok (.ifCond .eq 10, 3) := by decide +kernel
theorem kd_Ps_statement_108 : decode kc_Ps_statement 108 = .ok (.aload_n 0, 1) := by decide +kernel
theorem kd_Ps_statement_109 : decode kc_Ps_statement 109 = .ok (.invokevirtual 113, 3) := by decide +kernel
theorem kd_Ps_statement_112 : decode kc_Ps_statement 112 = .ok (.goto 7, 3) := by decide +kernel
theorem kd_Ps_statement_115 : decode kc_Ps_statement 115 = .ok (.aload_n 0, 1) := by decide +kernel
theorem kd_Ps_statement_116 : decode kc_Ps_statement 116 = .ok (.invokevirtual 116, 3) := by decide +kernel
theorem kd_Ps_statement_119 : decode kc_Ps_statement 119 = .ok (.ireturn, 1) := by decide +kernel
theorem kd_Ps_statement_120 : decode kc_Ps_statement 120 = .ok (.aload_n 0, 1) := by decide +kernel
theorem kd_Ps_statement_121 : decode kc_Ps_statement 121 = .ok (.getfield 15, 3) := by decide +kernel
theorem kd_Ps_statement_124 : decode kc_Ps_statement 124 = .ok (.aload_n 0, 1) := by decide +kernel
theorem kd_Ps_statement_125 : decode kc_Ps_statement 125 = .ok (.getfield 32, 3) := by decide +kernel
theorem kd_Ps_statement_128 : decode kc_Ps_statement 128 = .ok (.sipush 156, 3) := by decide +kernel
theorem kd_Ps_statement_131 : decode kc_Ps_statement 131 = .ok (.if_icmp .ne 8, 3) := by decide +kernel
theorem kd_Ps_statement_134 : decode kc_Ps_statement 134 = .ok (.bipush 20, 2) := by decide +kernel
theorem kd_Ps_statement_136 : decode kc_Ps_statement 136 = .ok (.goto 5, 3) := by decide +kernel
theorem kd_Ps_statement_139 : decode kc_Ps_statement 139 = .ok (.bipush 21, 2) := by decide +kernel
theorem kd_Ps_statement_141 : decode kc_Ps_statement 141 = .ok (.aload_n 0, 1) := by decide +kernel
theorem kd_Ps_statement_142 : decode kc_Ps_statement 142 = .ok (.getfield 38, 3) := by decide +kernel
theorem kd_Ps_statement_145 : decode kc_Ps_statement 145 = .ok (.iconst 0, 1) := by decide +kernel
theorem kd_Ps_statement_146 : decode kc_Ps_statement 146 = .ok (.invokevirtual 49, 3) := by decide +kernel
theorem kd_Ps_statement_149 : decode kc_Ps_statement 149 = .ok (.istore_n 2, 1) := by decide +kernel
theorem kd_Ps_statement_150 : decode kc_Ps_statement 150 = .ok (.aload_n 0, 1) := by decide +kernel
theorem kd_Ps_statement_151 : decode kc_Ps_statement 151 = .ok (.aload_n 0, 1) := by decide +kernel
theorem kd_Ps_statement_152 : decode kc_Ps_statement 152 = .ok (.getfield 32, 3) := by decide +kernel
theorem kd_Ps_statement_155 : decode kc_Ps_statement 155 = .ok (.invokevirtual 68, 3) := by decide +kernel
theorem kd_Ps_statement_158 : decode kc_Ps_statement 158 = .ok (.iload_n 2, 1) := by decide +kernel
theorem kd_Ps_statement_159 : decode kc_Ps_statement 159 = .ok (.ireturn, 1) := by decide +kernel
theorem kd_Ps_statements_0 : decode kc_Ps_statements 0 = .ok (.aload_n 0, 1) := by decide +kernel
theorem kd_Ps_statements_1 : decode kc_Ps_statements 1 = .ok (.getfield 15, 3) := by decide +kernel
theorem kd_Ps_statements_4 : decode kc_Ps_statements 4 = .ok (.bipush 11, 2) := by decide +kernel
theorem kd_Ps_statements_6 : decode kc_Ps_statements 6 = .ok (.aload_n 0, 1) := by decide +kernel
theorem kd_Ps_statements_7 : decode kc_Ps_statements 7 = .ok (.getfield 38, 3) := by decide +kernel
theorem kd_Ps_statements_10 : decode kc_Ps_statements 10 = .ok (.iconst 0, 1) := by decide +kernel
theorem kd_Ps_statements_11 : decode kc_Ps_statements 11 = .ok (.invokevirtual 49, 3) := by decide +kernel
theorem kd_Ps_statements_14 : decode kc_Ps_statements 14 = .ok (.istore_n 1, 1) := by decide +kernel
theorem kd_Ps_statements_15 : decode kc_Ps_statements 15 = .ok (.iconst (-1), 1) := by decide +kernel
theorem kd_Ps_statements_16 : decode kc_Ps_statements 16 = .ok (.istore_n 2, 1) := by decide +kernel
theorem kd_Ps_statements_17 : decode kc_Ps_statements 17 = .ok (.iconst 0, 1) := by decide +kernel
theorem kd_Ps_statements_18 : decode kc_Ps_statements 18 = .ok (.istore_n 3, 1) := by decide +kernel
theorem kd_Ps_statements_19 : decode kc_Ps_statements 19 = .ok (.iload_n 3, 1) := by decide +kernel
theorem kd_Ps_statements_20 : decode kc_Ps_statements 20 = .ok (.sipush 16384, 3) := by decide +kernel
theorem kd_Ps_statements_23 : decode kc_Ps_statements 23 = .ok (.if_icmp .ge 45, 3) := by decide +kernel
theorem kd_Ps_statements_26 : decode kc_Ps_statements 26 = .ok (.aload_n 0, 1) := by decide +kernel
theorem kd_Ps_statements_27 : decode kc_Ps_statements 27 = .ok (.invokevirtual 98, 3) := by decide +kernel
theorem kd_Ps_statements_30 : decode kc_Ps_statements 30 = .ok (.ifCond .eq 38, 3) := by decide +kernel
theorem kd_Ps_statements_33 : decode kc_Ps_statements 33 = .ok (.aload_n 0, 1) := by decide +kernel
theorem kd_Ps_statements_34 : decode kc_Ps_statements 34 = .ok (.getfield 32, 3) := by decide +kernel
theorem kd_Ps_statements_37 : decode kc_Ps_statements 37 = .ok (.bipush 59, 2) := by decide +kernel
theorem kd_Ps_statements_39 : decode kc_Ps_statements 39 = .ok (.if_icmp .eq 17, 3) := by decide +kernel
theorem kd_Ps_statements_42 : decode kc_Ps_statements 42 = .ok (.aload_n 0, 1) := by decide +kernel
theorem kd_Ps_statements_43 : decode kc_Ps_statements 43 = .ok (.getfield 15, 3) := by decide +kernel
theorem kd_Ps_statements_46 : decode kc_Ps_statements 46 = .ok (.iload_n 1, 1) := by decide +kernel
theorem kd_Ps_statements_47 : decode kc_Ps_statements 47 = .ok (.iload_n 2, 1) := by decide +kernel
theorem kd_Ps_statements_48 : decode kc_Ps_statements 48 = .ok (.aload_n 0, 1) := by decide +kernel
theorem kd_Ps_statements_49 : decode kc_Ps_statements 49 = .ok (.invokevirtual 101, 3) := by decide +kernel
theorem kd_Ps_statements_52 : decode kc_Ps_statements 52 = .ok (.invokevirtual 57, 3) := by decide +kernel
theorem kd_Ps_statements_55 : decode kc_Ps_statements 55 = .ok (.istore_n 2, 1) := by decide +kernel
theorem kd_Ps_statements_56 : decode kc_Ps_statements 56 = .ok (.aload_n 0, 1) := by decide +kernel
theorem kd_Ps_statements_57 : decode kc_Ps_statements 57 = .ok (.bipush 59, 2) := by decide +kernel
theorem kd_Ps_statements_59 : decode kc_Ps_statements 59 = .ok (.invokevirtual 68, 3) := by decide +kernel
theorem kd_Ps_statements_62 : decode kc_Ps_statements 62 = .ok (.iinc 3 1, 3) := by decide +kernel
theorem kd_Ps_statements_65 : decode kc_Ps_statements 65 = .ok (.goto (-46), 3) := by decide +kernel
theorem kd_Ps_statements_68 : decode kc_Ps_statements 68 = .ok (.iload_n 1, 1) := by decide +kernel
theorem kd_Ps_statements_69 : decode kc_Ps_statements 69 = .ok (.ireturn, 1) := by decide +kernel
set_option maxHeartbeats 4000000 in
set_option maxRecDepth 100000 in
theorem zb_Ps_caseStatement_152 {X : zkj_T} {S : zs_T} {P : ze_T} {l : Launch} {D : va_G} {sz0 : Nat} {d : Nat} {rv : Int32} {rh : zs_H} (C : zk_C X km_Ps_caseStatement (zs_G S l D sz0) { frames := 405 + (d + 1), cells := 0, slots := 0, locals := 10119 + 25 * (d + 1) } (ze_E P)) (hR : zkj_R X (zd_PI S rv rh) (some .int)) (h : zs_H) (x1 : Int32) (e : f_Ps_caseStatement_152 h x1 = some (rv, rh)) : zk_Ab X (zs_W S h) 0 0 152 [(0, .ref (S.1 19)), (1, .int x1)] [] := by
  unfold f_Ps_caseStatement_152 at e
  refine zk_aload_n C kd_Ps_caseStatement_152 rfl 0 rfl rfl ?_
  refine zk_sipush (v := 150) C kd_Ps_caseStatement_153 (by decide) rfl ?_
  obtain ⟨h2, c1, e⟩ := zd_b e
  refine zs_callV (k := 19) (rn := { frames := 0, cells := 0, slots := 0, locals := 0 }) (As := [.int 150]) (rest := []) C (zc_Ps_take h 150 c1) ku_Ps_take kw876 kv_Ps_take rfl (zd_rmO (by decide) (by decide)) ⟨Nat.le_refl _, Nat.le_refl _⟩ rfl rfl rfl (Nat.le_of_ble_eq_true rfl) kd_Ps_caseStatement_156 rfl (c1 := 0) (s1 := 0) rfl rfl (fun v w hp => ?_)
  obtain ⟨rfl, rfl⟩ := hp
  refine zk_stk (r' := []) rfl ?_
  refine zk_aload_n C kd_Ps_caseStatement_159 rfl 0 rfl rfl ?_
  refine zk_dup C kd_Ps_caseStatement_160 rfl rfl ?_
  refine zs_get (v := .int (h2.1 19 7)) C 19 7 rfl rfl rfl rfl ki_Ps (by decide) kw208 kd_Ps_caseStatement_161 rfl ?_
  refine zk_iconst (v := 1) C kd_Ps_caseStatement_164 (by decide) rfl ?_
  refine zk_isub C kd_Ps_caseStatement_165 rfl ?_
  refine zs_put (ty := .int) C 19 7 ((h2.1 19 7) - 1) rfl rfl rfl rfl ki_Ps ky_Ps ko_Ps kn_Ps (by decide) kw208 rfl rfl rfl rfl (by decide) kd_Ps_caseStatement_166 rfl ?_
  refine zk_iload_n C kd_Ps_caseStatement_169 rfl 1 rfl rfl ?_
  exact zk_iret C hR kd_Ps_caseStatement_170 rfl rfl (zd_rIS e)
set_option maxHeartbeats 4000000 in
set_option maxRecDepth 100000 in
theorem zb_Ps_caseStatement_121 {X : zkj_T} {S : zs_T} {P : ze_T} {l : Launch} {D : va_G} {sz0 : Nat} {d : Nat} {rv : Int32} {rh : zs_H} (C : zk_C X km_Ps_caseStatement (zs_G S l D sz0) { frames := 405 + (d + 1), cells := 0, slots := 0, locals := 10119 + 25 * (d + 1) } (ze_E P)) (hR : zkj_R X (zd_PI S rv rh) (some .int)) {r_Ps_statements : zs_H → (Option (Int32 × zs_H))} (hr_Ps_statements : ∀ (h : zs_H) {rv : Int32} {rh : zs_H}, r_Ps_statements h = some (rv, rh) → zk_Sp (zs_G S l D sz0) (ze_E P) km_Ps_statements { frames := 405 + d, cells := 0, slots := 0, locals := 10119 + 25 * d } [.ref (S.1 19)] (zs_W S h) (zd_PI S rv rh)) (h : zs_H) (x1 : Int32) (x2 : Int32) (e : f_Ps_caseStatement_121 r_Ps_statements h x1 x2 = some (rv, rh)) : zk_Ab X (zs_W S h) 0 0 121 [(0, .ref (S.1 19)), (1, .int x1), (2, .int x2)] [] := by
  unfold f_Ps_caseStatement_121 at e
  refine zk_aload_n C kd_Ps_caseStatement_121 rfl 0 rfl rfl ?_
  refine zs_get (v := .int (h.1 19 5)) C 19 5 rfl rfl rfl rfl ki_Ps (by decide) kw206 kd_Ps_caseStatement_122 rfl ?_
  refine zk_sipush (v := 147) C kd_Ps_caseStatement_125 (by decide) rfl ?_
  refine zk_icmp_ne (tgt := 152) C kd_Ps_caseStatement_128 (by decide) rfl (fun b1 => ?_) (fun b1 => ?_)
  · replace e := zd_neg b1 e
    refine zk_lvs (lv' := [(0, .ref (S.1 19)), (1, .int x1)]) [0, 1] rfl ?_
    exact zb_Ps_caseStatement_152 C hR h x1 e
  · replace e := zd_pos b1 e
    refine zk_aload_n C kd_Ps_caseStatement_131 rfl 0 rfl rfl ?_
    refine zk_sipush (v := 147) C kd_Ps_caseStatement_132 (by decide) rfl ?_
    obtain ⟨h3, c2, e⟩ := zd_b e
    refine zs_callV (k := 19) (rn := { frames := 0, cells := 0, slots := 0, locals := 0 }) (As := [.int 147]) (rest := []) C (zc_Ps_take h 147 c2) ku_Ps_take kw876 kv_Ps_take rfl (zd_rmO (by decide) (by decide)) ⟨Nat.le_refl _, Nat.le_refl _⟩ rfl rfl rfl (Nat.le_of_ble_eq_true rfl) kd_Ps_caseStatement_135 rfl (c1 := 0) (s1 := 0) rfl rfl (fun v w hp => ?_)
    obtain ⟨rfl, rfl⟩ := hp
    refine zk_stk (r' := []) rfl ?_
    refine zk_aload_n C kd_Ps_caseStatement_138 rfl 0 rfl rfl ?_
    refine zs_get (v := .ref (S.1 12)) C 19 2 rfl rfl rfl rfl ki_Ps (by decide) kw203 kd_Ps_caseStatement_139 rfl ?_
    refine zk_iload_n C kd_Ps_caseStatement_142 rfl 1 rfl rfl ?_
    refine zk_iload_n C kd_Ps_caseStatement_143 rfl 2 rfl rfl ?_
    refine zk_aload_n C kd_Ps_caseStatement_144 rfl 0 rfl rfl ?_
    obtain ⟨v5, h6, c4, e⟩ := zd_Be e
    refine zs_callV (k := 19) (rn := { frames := 405 + d, cells := 0, slots := 0, locals := 10119 + 25 * d }) (As := []) (rest := [.int x2, .int x1, .ref (S.1 12)]) C (hr_Ps_statements h3 c4) ku_Ps_statements kw928 kv_Ps_statements rfl (zd_rmI (by decide)) ⟨Nat.le_refl _, Nat.le_refl _⟩ rfl rfl rfl (Nat.le_of_ble_eq_true rfl) kd_Ps_caseStatement_145 rfl (c1 := 0) (s1 := 0) rfl rfl (fun v w hp => ?_)
    obtain ⟨rfl, rfl⟩ := hp
    refine zk_stk (r' := [.int v5, .int x2, .int x1, .ref (S.1 12)]) rfl ?_
    obtain ⟨v8, h9, c7, e⟩ := zd_Be e
    refine zs_callV (k := 12) (rn := { frames := 0, cells := 0, slots := 0, locals := 0 }) (As := [.int x1, .int x2, .int v5]) (rest := []) C (zc_Tr_hang h6 x1 x2 v5 c7) ku_Tr_hang kw884 kv_Tr_hang rfl (zd_rmO (by decide) (by decide)) ⟨Nat.le_refl _, Nat.le_refl _⟩ rfl rfl rfl (Nat.le_of_ble_eq_true rfl) kd_Ps_caseStatement_148 rfl (c1 := 0) (s1 := 0) rfl rfl (fun v w hp => ?_)
    obtain ⟨rfl, rfl⟩ := hp
    refine zk_stk (r' := [.int v8]) rfl ?_
    refine zk_pop C kd_Ps_caseStatement_151 rfl rfl ?_
    refine zk_lvs (lv' := [(0, .ref (S.1 19)), (1, .int x1)]) [0, 1] rfl ?_
    exact zb_Ps_caseStatement_152 C hR h9 x1 e
set_option maxHeartbeats 4000000 in
set_option maxRecDepth 100000 in
theorem zb_Ps_caseStatement_49 {X : zkj_T} {S : zs_T} {P : ze_T} {l : Launch} {D : va_G} {sz0 : Nat} {d : Nat} {rv : Int32} {rh : zs_H} (C : zk_C X km_Ps_caseStatement (zs_G S l D sz0) { frames := 405 + (d + 1), cells := 0, slots := 0, locals := 10119 + 25 * (d + 1) } (ze_E P)) (hR : zkj_R X (zd_PI S rv rh) (some .int)) {r_Ps_statements : zs_H → (Option (Int32 × zs_H))} (hr_Ps_statements : ∀ (h : zs_H) {rv : Int32} {rh : zs_H}, r_Ps_statements h = some (rv, rh) → zk_Sp (zs_G S l D sz0) (ze_E P) km_Ps_statements { frames := 405 + d, cells := 0, slots := 0, locals := 10119 + 25 * d } [.ref (S.1 19)] (zs_W S h) (zd_PI S rv rh)) {k49 : zs_H → Int32 → Int32 → Int32 → (Option (Int32 × zs_H))} (hk49 : ∀ (h : zs_H) (x1 : Int32) (x2 : Int32) (x3 : Int32), k49 h x1 x2 x3 = some (rv, rh) → zk_Ab X (zs_W S h) 0 0 49 [(0, .ref (S.1 19)), (1, .int x1), (2, .int x2), (3, .int x3)] []) (h : zs_H) (x1 : Int32) (x2 : Int32) (x3 : Int32) (e : f_Ps_caseStatement_49 r_Ps_statements k49 h x1 x2 x3 = some (rv, rh)) : zk_Ab X (zs_W S h) 0 0 49 [(0, .ref (S.1 19)), (1, .int x1), (2, .int x2), (3, .int x3)] [] := by
  unfold f_Ps_caseStatement_49 at e
  refine zk_iload_n C kd_Ps_caseStatement_49 rfl 3 rfl rfl ?_
  refine zk_sipush (v := 16384) C kd_Ps_caseStatement_50 (by decide) rfl ?_
  refine zk_icmp_ge (tgt := 121) C kd_Ps_caseStatement_53 (by decide) rfl (fun b1 => ?_) (fun b1 => ?_)
  · replace e := zd_pos b1 e
    refine zk_lvs (lv' := [(0, .ref (S.1 19)), (1, .int x1), (2, .int x2)]) [0, 1, 2] rfl ?_
    exact zb_Ps_caseStatement_121 C hR hr_Ps_statements h x1 x2 e
  · replace e := zd_neg b1 e
    refine zk_aload_n C kd_Ps_caseStatement_56 rfl 0 rfl rfl ?_
    refine zs_callV (k := 19) (rn := { frames := 0, cells := 0, slots := 0, locals := 0 }) (As := []) (rest := []) C (zc_Ps_isConstant h) ku_Ps_isConstant kw974 kv_Ps_isConstant rfl (zd_rmO (by decide) (by decide)) ⟨Nat.le_refl _, Nat.le_refl _⟩ rfl rfl rfl (Nat.le_of_ble_eq_true rfl) kd_Ps_caseStatement_57 rfl (c1 := 0) (s1 := 0) rfl rfl (fun v w hp => ?_)
    obtain ⟨rfl, rfl, z2⟩ := hp
    refine zk_stk (r' := [.int (f_Ps_isConstant h)]) rfl ?_
    refine zk_if_eq (tgt := 121) C kd_Ps_caseStatement_60 (by decide) rfl (fun b3 => ?_) (fun b3 => ?_)
    · replace e := zd_pos b3 e
      refine zk_lvs (lv' := [(0, .ref (S.1 19)), (1, .int x1), (2, .int x2)]) [0, 1, 2] rfl ?_
      exact zb_Ps_caseStatement_121 C hR hr_Ps_statements h x1 x2 e
    · replace e := zd_neg b3 e
      refine zk_aload_n C kd_Ps_caseStatement_63 rfl 0 rfl rfl ?_
      refine zs_get (v := .ref (S.1 12)) C 19 2 rfl rfl rfl rfl ki_Ps (by decide) kw203 kd_Ps_caseStatement_64 rfl ?_
      refine zk_bipush (v := 17) C kd_Ps_caseStatement_67 (by decide) rfl ?_
      refine zk_aload_n C kd_Ps_caseStatement_69 rfl 0 rfl rfl ?_
      refine zs_get (v := .int (h.1 19 6)) C 19 6 rfl rfl rfl rfl ki_Ps (by decide) kw207 kd_Ps_caseStatement_70 rfl ?_
      refine zk_iconst (v := 0) C kd_Ps_caseStatement_73 (by decide) rfl ?_
      obtain ⟨v5, h6, c4, e⟩ := zd_Be e
      refine zs_callV (k := 12) (rn := { frames := 1, cells := 0, slots := 0, locals := 23 }) (As := [.int 17, .int (h.1 19 6), .int 0]) (rest := []) C (zc_Tr_add h 17 (h.1 19 6) 0 c4) ku_Tr_add kw866 kv_Tr_add rfl (zd_rmO (by decide) (by decide)) ⟨Nat.le_refl _, Nat.le_refl _⟩ rfl rfl rfl (Nat.le_of_ble_eq_true rfl) kd_Ps_caseStatement_74 rfl (c1 := 0) (s1 := 0) rfl rfl (fun v w hp => ?_)
      obtain ⟨rfl, rfl⟩ := hp
      refine zk_stk (r' := [.int v5]) rfl ?_
      refine zk_istore (lv' := [(4, _), (0, _), (1, _), (2, _), (3, _)]) C kd_Ps_caseStatement_77 (by decide) rfl rfl ?_
      refine zk_aload_n C kd_Ps_caseStatement_79 rfl 1 rfl rfl ?_
      refine zs_get (v := .ref (S.1 12)) C 19 2 rfl rfl rfl rfl ki_Ps (by decide) kw203 kd_Ps_caseStatement_80 rfl ?_
      refine zk_iload_n C kd_Ps_caseStatement_83 rfl 2 rfl rfl ?_
      refine zk_iload_n C kd_Ps_caseStatement_84 rfl 3 rfl rfl ?_
      refine zk_iload C kd_Ps_caseStatement_85 0 rfl rfl ?_
      obtain ⟨v8, h9, c7, e⟩ := zd_Be e
      refine zs_callV (k := 12) (rn := { frames := 0, cells := 0, slots := 0, locals := 0 }) (As := [.int x1, .int x2, .int v5]) (rest := []) C (zc_Tr_hang h6 x1 x2 v5 c7) ku_Tr_hang kw884 kv_Tr_hang rfl (zd_rmO (by decide) (by decide)) ⟨Nat.le_refl _, Nat.le_refl _⟩ rfl rfl rfl (Nat.le_of_ble_eq_true rfl) kd_Ps_caseStatement_87 rfl (c1 := 0) (s1 := 0) rfl rfl (fun v w hp => ?_)
      obtain ⟨rfl, rfl⟩ := hp
      refine zk_stk (r' := [.int v8]) rfl ?_
      refine zk_istore_n (lv' := [(2, _), (4, _), (0, _), (1, _), (3, _)]) C kd_Ps_caseStatement_90 rfl (by decide) rfl rfl ?_
      refine zk_aload_n C kd_Ps_caseStatement_91 rfl 2 rfl rfl ?_
      refine zk_iload C kd_Ps_caseStatement_92 1 rfl rfl ?_
      obtain ⟨v11, h12, c10, e⟩ := zd_Be e
      refine zs_callV (k := 19) (rn := { frames := 3, cells := 0, slots := 0, locals := 69 }) (As := [.int v5]) (rest := []) C (zc_Ps_ranges h9 v5 c10) ku_Ps_ranges kw978 kv_Ps_ranges rfl (zd_rmO (by decide) (by decide)) ⟨Nat.le_refl _, Nat.le_refl _⟩ rfl rfl rfl (Nat.le_of_ble_eq_true rfl) kd_Ps_caseStatement_94 rfl (c1 := 0) (s1 := 0) rfl rfl (fun v w hp => ?_)
      obtain ⟨rfl, rfl⟩ := hp
      refine zk_stk (r' := [.int v11]) rfl ?_
      refine zk_istore (lv' := [(5, _), (2, _), (4, _), (0, _), (1, _), (3, _)]) C kd_Ps_caseStatement_97 (by decide) rfl rfl ?_
      refine zk_aload_n C kd_Ps_caseStatement_99 rfl 3 rfl rfl ?_
      refine zs_get (v := .ref (S.1 12)) C 19 2 rfl rfl rfl rfl ki_Ps (by decide) kw203 kd_Ps_caseStatement_100 rfl ?_
      refine zk_iload C kd_Ps_caseStatement_103 2 rfl rfl ?_
      refine zk_iload C kd_Ps_caseStatement_105 0 rfl rfl ?_
      refine zk_aload_n C kd_Ps_caseStatement_107 rfl 3 rfl rfl ?_
      obtain ⟨v14, h15, c13, e⟩ := zd_Be e
      refine zs_callV (k := 19) (rn := { frames := 405 + d, cells := 0, slots := 0, locals := 10119 + 25 * d }) (As := []) (rest := [.int v11, .int v5, .ref (S.1 12)]) C (hr_Ps_statements h12 c13) ku_Ps_statements kw928 kv_Ps_statements rfl (zd_rmI (by decide)) ⟨Nat.le_refl _, Nat.le_refl _⟩ rfl rfl rfl (Nat.le_of_ble_eq_true rfl) kd_Ps_caseStatement_108 rfl (c1 := 0) (s1 := 0) rfl rfl (fun v w hp => ?_)
      obtain ⟨rfl, rfl⟩ := hp
      refine zk_stk (r' := [.int v14, .int v11, .int v5, .ref (S.1 12)]) rfl ?_
      obtain ⟨v17, h18, c16, e⟩ := zd_Be e
      refine zs_callV (k := 12) (rn := { frames := 0, cells := 0, slots := 0, locals := 0 }) (As := [.int v5, .int v11, .int v14]) (rest := []) C (zc_Tr_hang h15 v5 v11 v14 c16) ku_Tr_hang kw884 kv_Tr_hang rfl (zd_rmO (by decide) (by decide)) ⟨Nat.le_refl _, Nat.le_refl _⟩ rfl rfl rfl (Nat.le_of_ble_eq_true rfl) kd_Ps_caseStatement_111 rfl (c1 := 0) (s1 := 0) rfl rfl (fun v w hp => ?_)
      obtain ⟨rfl, rfl⟩ := hp
      refine zk_stk (r' := [.int v17]) rfl ?_
      refine zk_pop C kd_Ps_caseStatement_114 rfl rfl ?_
      refine zk_iinc (v := (x3 + 1)) (lv' := [(3, _), (5, _), (2, _), (4, _), (0, _), (1, _)]) C kd_Ps_caseStatement_115 5 rfl rfl (by decide) rfl rfl ?_
      refine zk_goto (tgt := 49) C kd_Ps_caseStatement_118 (by decide) ?_
      refine zk_lvs (lv' := [(0, .ref (S.1 19)), (1, .int x1), (2, .int v8), (3, .int (x3 + 1))]) [4, 5, 2, 0] rfl ?_
      exact hk49 h18 x1 v8 (x3 + 1) e
theorem zl_Ps_caseStatement_49 {X : zkj_T} {S : zs_T} {P : ze_T} {l : Launch} {D : va_G} {sz0 : Nat} {d : Nat} {rv : Int32} {rh : zs_H} (C : zk_C X km_Ps_caseStatement (zs_G S l D sz0) { frames := 405 + (d + 1), cells := 0, slots := 0, locals := 10119 + 25 * (d + 1) } (ze_E P)) (hR : zkj_R X (zd_PI S rv rh) (some .int)) {r_Ps_statements : zs_H → (Option (Int32 × zs_H))} (hr_Ps_statements : ∀ (h : zs_H) {rv : Int32} {rh : zs_H}, r_Ps_statements h = some (rv, rh) → zk_Sp (zs_G S l D sz0) (ze_E P) km_Ps_statements { frames := 405 + d, cells := 0, slots := 0, locals := 10119 + 25 * d } [.ref (S.1 19)] (zs_W S h) (zd_PI S rv rh)) (n : Nat) : ∀ (h : zs_H) (x1 : Int32) (x2 : Int32) (x3 : Int32), f_Ps_caseStatement_L49 r_Ps_statements n h x1 x2 x3 = some (rv, rh) → zk_Ab X (zs_W S h) 0 0 49 [(0, .ref (S.1 19)), (1, .int x1), (2, .int x2), (3, .int x3)] [] := by
  induction n with
  | zero => intro h x1 x2 x3 e; exact zd_no e
  | succ n ih => intro h x1 x2 x3 e; exact zb_Ps_caseStatement_49 (k49 := f_Ps_caseStatement_L49 r_Ps_statements n) C hR hr_Ps_statements ih h x1 x2 x3 e
set_option maxHeartbeats 4000000 in
set_option maxRecDepth 100000 in
theorem zg_Ps_caseStatement {l : Launch} {D : va_G} {sz0 : Nat} {S : zs_T} {P : ze_T} {d : Nat} {r_Ps_statements : zs_H → (Option (Int32 × zs_H))} (hr_Ps_statements : ∀ (h : zs_H) {rv : Int32} {rh : zs_H}, r_Ps_statements h = some (rv, rh) → zk_Sp (zs_G S l D sz0) (ze_E P) km_Ps_statements { frames := 405 + d, cells := 0, slots := 0, locals := 10119 + 25 * d } [.ref (S.1 19)] (zs_W S h) (zd_PI S rv rh)) (h : zs_H) {rv : Int32} {rh : zs_H} (e : g_Ps_caseStatement r_Ps_statements h = some (rv, rh)) : zk_Sp (zs_G S l D sz0) (ze_E P) km_Ps_caseStatement { frames := 405 + (d + 1), cells := 0, slots := 0, locals := 10119 + 25 * (d + 1) } [.ref (S.1 19)] (zs_W S h) (zd_PI S rv rh) := by
  refine zk_met ku_Ps_caseStatement (Nat.le_of_ble_eq_true rfl) (ze_Em P) ?_
  intro X C hR
  refine zk_lvs (lv' := [(0, .ref (S.1 19))]) [0] rfl ?_
  unfold g_Ps_caseStatement at e
  refine zk_aload_n C kd_Ps_caseStatement_0 rfl 0 rfl rfl ?_
  refine zs_get (v := .ref (S.1 12)) C 19 2 rfl rfl rfl rfl ki_Ps (by decide) kw203 kd_Ps_caseStatement_1 rfl ?_
  refine zk_bipush (v := 16) C kd_Ps_caseStatement_4 (by decide) rfl ?_
  refine zk_aload_n C kd_Ps_caseStatement_6 rfl 0 rfl rfl ?_
  refine zs_get (v := .int (h.1 19 6)) C 19 6 rfl rfl rfl rfl ki_Ps (by decide) kw207 kd_Ps_caseStatement_7 rfl ?_
  refine zk_iconst (v := 0) C kd_Ps_caseStatement_10 (by decide) rfl ?_
  obtain ⟨v2, h3, c1, e⟩ := zd_Be e
  refine zs_callV (k := 12) (rn := { frames := 1, cells := 0, slots := 0, locals := 23 }) (As := [.int 16, .int (h.1 19 6), .int 0]) (rest := []) C (zc_Tr_add h 16 (h.1 19 6) 0 c1) ku_Tr_add kw866 kv_Tr_add rfl (zd_rmO (by decide) (by decide)) ⟨Nat.le_refl _, Nat.le_refl _⟩ rfl rfl rfl (Nat.le_of_ble_eq_true rfl) kd_Ps_caseStatement_11 rfl (c1 := 0) (s1 := 0) rfl rfl (fun v w hp => ?_)
  obtain ⟨rfl, rfl⟩ := hp
  refine zk_stk (r' := [.int v2]) rfl ?_
  refine zk_istore_n (lv' := [(1, _), (0, _)]) C kd_Ps_caseStatement_14 rfl (by decide) rfl rfl ?_
  refine zk_aload_n C kd_Ps_caseStatement_15 rfl 1 rfl rfl ?_
  obtain ⟨h5, c4, e⟩ := zd_b e
  refine zs_callV (k := 19) (rn := { frames := 0, cells := 0, slots := 0, locals := 0 }) (As := []) (rest := []) C (zc_Ps_deepen h3 c4) ku_Ps_deepen kw944 kv_Ps_deepen rfl (zd_rmO (by decide) (by decide)) ⟨Nat.le_refl _, Nat.le_refl _⟩ rfl rfl rfl (Nat.le_of_ble_eq_true rfl) kd_Ps_caseStatement_16 rfl (c1 := 0) (s1 := 0) rfl rfl (fun v w hp => ?_)
  obtain ⟨rfl, rfl⟩ := hp
  refine zk_stk (r' := []) rfl ?_
  refine zk_aload_n C kd_Ps_caseStatement_19 rfl 1 rfl rfl ?_
  refine zk_sipush (v := 149) C kd_Ps_caseStatement_20 (by decide) rfl ?_
  obtain ⟨h7, c6, e⟩ := zd_b e
  refine zs_callV (k := 19) (rn := { frames := 0, cells := 0, slots := 0, locals := 0 }) (As := [.int 149]) (rest := []) C (zc_Ps_take h5 149 c6) ku_Ps_take kw876 kv_Ps_take rfl (zd_rmO (by decide) (by decide)) ⟨Nat.le_refl _, Nat.le_refl _⟩ rfl rfl rfl (Nat.le_of_ble_eq_true rfl) kd_Ps_caseStatement_23 rfl (c1 := 0) (s1 := 0) rfl rfl (fun v w hp => ?_)
  obtain ⟨rfl, rfl⟩ := hp
  refine zk_stk (r' := []) rfl ?_
  refine zk_aload_n C kd_Ps_caseStatement_26 rfl 1 rfl rfl ?_
  refine zs_get (v := .ref (S.1 12)) C 19 2 rfl rfl rfl rfl ki_Ps (by decide) kw203 kd_Ps_caseStatement_27 rfl ?_
  refine zk_iload_n C kd_Ps_caseStatement_30 rfl 0 rfl rfl ?_
  refine zk_iconst (v := (-1)) C kd_Ps_caseStatement_31 (by decide) rfl ?_
  refine zk_aload_n C kd_Ps_caseStatement_32 rfl 1 rfl rfl ?_
  obtain ⟨v9, h10, c8, e⟩ := zd_Be e
  refine zs_callV (k := 19) (rn := { frames := 403, cells := 0, slots := 0, locals := 10072 }) (As := []) (rest := [.int (-1), .int v2, .ref (S.1 12)]) C (zc_Ps_wholeExpression h7 c8) ku_Ps_wholeExpression kw948 kv_Ps_wholeExpression rfl (zd_rmO (by decide) (by decide)) ⟨Nat.le_refl _, Nat.le_refl _⟩ rfl rfl rfl (Nat.le_of_ble_eq_true rfl) kd_Ps_caseStatement_33 rfl (c1 := 0) (s1 := 0) rfl rfl (fun v w hp => ?_)
  obtain ⟨rfl, rfl⟩ := hp
  refine zk_stk (r' := [.int v9, .int (-1), .int v2, .ref (S.1 12)]) rfl ?_
  obtain ⟨v12, h13, c11, e⟩ := zd_Be e
  refine zs_callV (k := 12) (rn := { frames := 0, cells := 0, slots := 0, locals := 0 }) (As := [.int v2, .int (-1), .int v9]) (rest := []) C (zc_Tr_hang h10 v2 (-1) v9 c11) ku_Tr_hang kw884 kv_Tr_hang rfl (zd_rmO (by decide) (by decide)) ⟨Nat.le_refl _, Nat.le_refl _⟩ rfl rfl rfl (Nat.le_of_ble_eq_true rfl) kd_Ps_caseStatement_36 rfl (c1 := 0) (s1 := 0) rfl rfl (fun v w hp => ?_)
  obtain ⟨rfl, rfl⟩ := hp
  refine zk_stk (r' := [.int v12]) rfl ?_
  refine zk_istore_n (lv' := [(2, _), (1, _), (0, _)]) C kd_Ps_caseStatement_39 rfl (by decide) rfl rfl ?_
  refine zk_aload_n C kd_Ps_caseStatement_40 rfl 2 rfl rfl ?_
  refine zk_sipush (v := 143) C kd_Ps_caseStatement_41 (by decide) rfl ?_
  obtain ⟨h15, c14, e⟩ := zd_b e
  refine zs_callV (k := 19) (rn := { frames := 0, cells := 0, slots := 0, locals := 0 }) (As := [.int 143]) (rest := []) C (zc_Ps_take h13 143 c14) ku_Ps_take kw876 kv_Ps_take rfl (zd_rmO (by decide) (by decide)) ⟨Nat.le_refl _, Nat.le_refl _⟩ rfl rfl rfl (Nat.le_of_ble_eq_true rfl) kd_Ps_caseStatement_44 rfl (c1 := 0) (s1 := 0) rfl rfl (fun v w hp => ?_)
  obtain ⟨rfl, rfl⟩ := hp
  refine zk_stk (r' := []) rfl ?_
  refine zk_iconst (v := 0) C kd_Ps_caseStatement_47 (by decide) rfl ?_
  refine zk_istore_n (lv' := [(3, _), (2, _), (1, _), (0, _)]) C kd_Ps_caseStatement_48 rfl (by decide) rfl rfl ?_
  refine zk_lvs (lv' := [(0, .ref (S.1 19)), (1, .int v2), (2, .int v12), (3, .int 0)]) [3, 2, 1, 0] rfl ?_
  exact zl_Ps_caseStatement_49 C hR hr_Ps_statements zF h15 v2 v12 0 e
set_option maxHeartbeats 4000000 in
set_option maxRecDepth 100000 in
theorem zb_Ps_forStatement_124 {X : zkj_T} {S : zs_T} {P : ze_T} {l : Launch} {D : va_G} {sz0 : Nat} {d : Nat} {rv : Int32} {rh : zs_H} (C : zk_C X km_Ps_forStatement (zs_G S l D sz0) { frames := 405 + (d + 1), cells := 0, slots := 0, locals := 10119 + 25 * (d + 1) } (ze_E P)) (hR : zkj_R X (zd_PI S rv rh) (some .int)) {r_Ps_statements : zs_H → (Option (Int32 × zs_H))} (hr_Ps_statements : ∀ (h : zs_H) {rv : Int32} {rh : zs_H}, r_Ps_statements h = some (rv, rh) → zk_Sp (zs_G S l D sz0) (ze_E P) km_Ps_statements { frames := 405 + d, cells := 0, slots := 0, locals := 10119 + 25 * d } [.ref (S.1 19)] (zs_W S h) (zd_PI S rv rh)) (h : zs_H) (x1 : Int32) (x2 : Int32) (e : f_Ps_forStatement_124 r_Ps_statements h x1 x2 = some (rv, rh)) : zk_Ab X (zs_W S h) 0 0 124 [(0, .ref (S.1 19)), (1, .int x1), (2, .int x2)] [] := by
  unfold f_Ps_forStatement_124 at e
  refine zk_aload_n C kd_Ps_forStatement_124 rfl 0 rfl rfl ?_
  refine zk_sipush (v := 154) C kd_Ps_forStatement_125 (by decide) rfl ?_
  obtain ⟨h2, c1, e⟩ := zd_b e
  refine zs_callV (k := 19) (rn := { frames := 0, cells := 0, slots := 0, locals := 0 }) (As := [.int 154]) (rest := []) C (zc_Ps_take h 154 c1) ku_Ps_take kw876 kv_Ps_take rfl (zd_rmO (by decide) (by decide)) ⟨Nat.le_refl _, Nat.le_refl _⟩ rfl rfl rfl (Nat.le_of_ble_eq_true rfl) kd_Ps_forStatement_128 rfl (c1 := 0) (s1 := 0) rfl rfl (fun v w hp => ?_)
  obtain ⟨rfl, rfl⟩ := hp
  refine zk_stk (r' := []) rfl ?_
  refine zk_aload_n C kd_Ps_forStatement_131 rfl 0 rfl rfl ?_
  refine zs_get (v := .ref (S.1 12)) C 19 2 rfl rfl rfl rfl ki_Ps (by decide) kw203 kd_Ps_forStatement_132 rfl ?_
  refine zk_iload_n C kd_Ps_forStatement_135 rfl 1 rfl rfl ?_
  refine zk_iload_n C kd_Ps_forStatement_136 rfl 2 rfl rfl ?_
  refine zk_aload_n C kd_Ps_forStatement_137 rfl 0 rfl rfl ?_
  obtain ⟨v4, h5, c3, e⟩ := zd_Be e
  refine zs_callV (k := 19) (rn := { frames := 405 + d, cells := 0, slots := 0, locals := 10119 + 25 * d }) (As := []) (rest := [.int x2, .int x1, .ref (S.1 12)]) C (hr_Ps_statements h2 c3) ku_Ps_statements kw928 kv_Ps_statements rfl (zd_rmI (by decide)) ⟨Nat.le_refl _, Nat.le_refl _⟩ rfl rfl rfl (Nat.le_of_ble_eq_true rfl) kd_Ps_forStatement_138 rfl (c1 := 0) (s1 := 0) rfl rfl (fun v w hp => ?_)
  obtain ⟨rfl, rfl⟩ := hp
  refine zk_stk (r' := [.int v4, .int x2, .int x1, .ref (S.1 12)]) rfl ?_
  obtain ⟨v7, h8, c6, e⟩ := zd_Be e
  refine zs_callV (k := 12) (rn := { frames := 0, cells := 0, slots := 0, locals := 0 }) (As := [.int x1, .int x2, .int v4]) (rest := []) C (zc_Tr_hang h5 x1 x2 v4 c6) ku_Tr_hang kw884 kv_Tr_hang rfl (zd_rmO (by decide) (by decide)) ⟨Nat.le_refl _, Nat.le_refl _⟩ rfl rfl rfl (Nat.le_of_ble_eq_true rfl) kd_Ps_forStatement_141 rfl (c1 := 0) (s1 := 0) rfl rfl (fun v w hp => ?_)
  obtain ⟨rfl, rfl⟩ := hp
  refine zk_stk (r' := [.int v7]) rfl ?_
  refine zk_pop C kd_Ps_forStatement_144 rfl rfl ?_
  refine zk_aload_n C kd_Ps_forStatement_145 rfl 0 rfl rfl ?_
  refine zk_sipush (v := 155) C kd_Ps_forStatement_146 (by decide) rfl ?_
  obtain ⟨h10, c9, e⟩ := zd_b e
  refine zs_callV (k := 19) (rn := { frames := 0, cells := 0, slots := 0, locals := 0 }) (As := [.int 155]) (rest := []) C (zc_Ps_take h8 155 c9) ku_Ps_take kw876 kv_Ps_take rfl (zd_rmO (by decide) (by decide)) ⟨Nat.le_refl _, Nat.le_refl _⟩ rfl rfl rfl (Nat.le_of_ble_eq_true rfl) kd_Ps_forStatement_149 rfl (c1 := 0) (s1 := 0) rfl rfl (fun v w hp => ?_)
  obtain ⟨rfl, rfl⟩ := hp
  refine zk_stk (r' := []) rfl ?_
  refine zk_aload_n C kd_Ps_forStatement_152 rfl 0 rfl rfl ?_
  refine zk_dup C kd_Ps_forStatement_153 rfl rfl ?_
  refine zs_get (v := .int (h10.1 19 7)) C 19 7 rfl rfl rfl rfl ki_Ps (by decide) kw208 kd_Ps_forStatement_154 rfl ?_
  refine zk_iconst (v := 1) C kd_Ps_forStatement_157 (by decide) rfl ?_
  refine zk_isub C kd_Ps_forStatement_158 rfl ?_
  refine zs_put (ty := .int) C 19 7 ((h10.1 19 7) - 1) rfl rfl rfl rfl ki_Ps ky_Ps ko_Ps kn_Ps (by decide) kw208 rfl rfl rfl rfl (by decide) kd_Ps_forStatement_159 rfl ?_
  refine zk_iload_n C kd_Ps_forStatement_162 rfl 1 rfl rfl ?_
  exact zk_iret C hR kd_Ps_forStatement_163 rfl rfl (zd_rIS e)
set_option maxHeartbeats 4000000 in
set_option maxRecDepth 100000 in
theorem zg_Ps_forStatement {l : Launch} {D : va_G} {sz0 : Nat} {S : zs_T} {P : ze_T} {d : Nat} {r_Ps_statements : zs_H → (Option (Int32 × zs_H))} (hr_Ps_statements : ∀ (h : zs_H) {rv : Int32} {rh : zs_H}, r_Ps_statements h = some (rv, rh) → zk_Sp (zs_G S l D sz0) (ze_E P) km_Ps_statements { frames := 405 + d, cells := 0, slots := 0, locals := 10119 + 25 * d } [.ref (S.1 19)] (zs_W S h) (zd_PI S rv rh)) (h : zs_H) {rv : Int32} {rh : zs_H} (e : g_Ps_forStatement r_Ps_statements h = some (rv, rh)) : zk_Sp (zs_G S l D sz0) (ze_E P) km_Ps_forStatement { frames := 405 + (d + 1), cells := 0, slots := 0, locals := 10119 + 25 * (d + 1) } [.ref (S.1 19)] (zs_W S h) (zd_PI S rv rh) := by
  refine zk_met ku_Ps_forStatement (Nat.le_of_ble_eq_true rfl) (ze_Em P) ?_
  intro X C hR
  refine zk_lvs (lv' := [(0, .ref (S.1 19))]) [0] rfl ?_
  unfold g_Ps_forStatement at e
  refine zk_aload_n C kd_Ps_forStatement_0 rfl 0 rfl rfl ?_
  refine zs_get (v := .ref (S.1 12)) C 19 2 rfl rfl rfl rfl ki_Ps (by decide) kw203 kd_Ps_forStatement_1 rfl ?_
  refine zk_bipush (v := 19) C kd_Ps_forStatement_4 (by decide) rfl ?_
  refine zk_aload_n C kd_Ps_forStatement_6 rfl 0 rfl rfl ?_
  refine zs_get (v := .int (h.1 19 6)) C 19 6 rfl rfl rfl rfl ki_Ps (by decide) kw207 kd_Ps_forStatement_7 rfl ?_
  refine zk_iconst (v := 0) C kd_Ps_forStatement_10 (by decide) rfl ?_
  obtain ⟨v2, h3, c1, e⟩ := zd_Be e
  refine zs_callV (k := 12) (rn := { frames := 1, cells := 0, slots := 0, locals := 23 }) (As := [.int 19, .int (h.1 19 6), .int 0]) (rest := []) C (zc_Tr_add h 19 (h.1 19 6) 0 c1) ku_Tr_add kw866 kv_Tr_add rfl (zd_rmO (by decide) (by decide)) ⟨Nat.le_refl _, Nat.le_refl _⟩ rfl rfl rfl (Nat.le_of_ble_eq_true rfl) kd_Ps_forStatement_11 rfl (c1 := 0) (s1 := 0) rfl rfl (fun v w hp => ?_)
  obtain ⟨rfl, rfl⟩ := hp
  refine zk_stk (r' := [.int v2]) rfl ?_
  refine zk_istore_n (lv' := [(1, _), (0, _)]) C kd_Ps_forStatement_14 rfl (by decide) rfl rfl ?_
  refine zk_aload_n C kd_Ps_forStatement_15 rfl 1 rfl rfl ?_
  obtain ⟨h5, c4, e⟩ := zd_b e
  refine zs_callV (k := 19) (rn := { frames := 0, cells := 0, slots := 0, locals := 0 }) (As := []) (rest := []) C (zc_Ps_deepen h3 c4) ku_Ps_deepen kw944 kv_Ps_deepen rfl (zd_rmO (by decide) (by decide)) ⟨Nat.le_refl _, Nat.le_refl _⟩ rfl rfl rfl (Nat.le_of_ble_eq_true rfl) kd_Ps_forStatement_16 rfl (c1 := 0) (s1 := 0) rfl rfl (fun v w hp => ?_)
  obtain ⟨rfl, rfl⟩ := hp
  refine zk_stk (r' := []) rfl ?_
  refine zk_aload_n C kd_Ps_forStatement_19 rfl 1 rfl rfl ?_
  refine zk_sipush (v := 151) C kd_Ps_forStatement_20 (by decide) rfl ?_
  obtain ⟨h7, c6, e⟩ := zd_b e
  refine zs_callV (k := 19) (rn := { frames := 0, cells := 0, slots := 0, locals := 0 }) (As := [.int 151]) (rest := []) C (zc_Ps_take h5 151 c6) ku_Ps_take kw876 kv_Ps_take rfl (zd_rmO (by decide) (by decide)) ⟨Nat.le_refl _, Nat.le_refl _⟩ rfl rfl rfl (Nat.le_of_ble_eq_true rfl) kd_Ps_forStatement_23 rfl (c1 := 0) (s1 := 0) rfl rfl (fun v w hp => ?_)
  obtain ⟨rfl, rfl⟩ := hp
  refine zk_stk (r' := []) rfl ?_
  refine zk_aload_n C kd_Ps_forStatement_26 rfl 1 rfl rfl ?_
  refine zs_get (v := .ref (S.1 12)) C 19 2 rfl rfl rfl rfl ki_Ps (by decide) kw203 kd_Ps_forStatement_27 rfl ?_
  refine zs_get (v := .ref (S.1 16)) C 12 3 rfl rfl rfl rfl ki_Tr (by decide) kw166 kd_Ps_forStatement_30 rfl ?_
  refine zk_iload_n C kd_Ps_forStatement_33 rfl 0 rfl rfl ?_
  refine zk_aload_n C kd_Ps_forStatement_34 rfl 1 rfl rfl ?_
  refine zs_get (v := .ref (S.1 8)) C 19 1 rfl rfl rfl rfl ki_Ps (by decide) kw202 kd_Ps_forStatement_35 rfl ?_
  refine zs_get (v := .ref (S.1 11)) C 8 2 rfl rfl rfl rfl ki_Tk (by decide) kw123 kd_Ps_forStatement_38 rfl ?_
  refine zk_aload_n C kd_Ps_forStatement_41 rfl 1 rfl rfl ?_
  refine zs_get (v := .int (h7.1 19 4)) C 19 4 rfl rfl rfl rfl ki_Ps (by decide) kw205 kd_Ps_forStatement_42 rfl ?_
  obtain ⟨q8, e⟩ := zd_g e
  refine zs_iald C 11 rfl (zd_vp q8) kd_Ps_forStatement_45 rfl ?_
  obtain ⟨q9, e⟩ := zd_g e
  refine zs_iast C 16 rfl (zd_vp q9) kd_Ps_forStatement_46 rfl ?_
  refine zk_aload_n C kd_Ps_forStatement_47 rfl 1 rfl rfl ?_
  refine zk_bipush (v := 8) C kd_Ps_forStatement_48 (by decide) rfl ?_
  obtain ⟨h11, c10, e⟩ := zd_b e
  refine zs_callV (k := 19) (rn := { frames := 0, cells := 0, slots := 0, locals := 0 }) (As := [.int 8]) (rest := []) C (zc_Ps_take (zs_uM h7 16 v2.toNatClampNeg (h7.2.1 11 (h7.1 19 4).toNatClampNeg)) 8 c10) ku_Ps_take kw876 kv_Ps_take rfl (zd_rmO (by decide) (by decide)) ⟨Nat.le_refl _, Nat.le_refl _⟩ rfl rfl rfl (Nat.le_of_ble_eq_true rfl) kd_Ps_forStatement_50 rfl (c1 := 0) (s1 := 0) rfl rfl (fun v w hp => ?_)
  obtain ⟨rfl, rfl⟩ := hp
  refine zk_stk (r' := []) rfl ?_
  refine zk_aload_n C kd_Ps_forStatement_53 rfl 1 rfl rfl ?_
  refine zk_iconst (v := 1) C kd_Ps_forStatement_54 (by decide) rfl ?_
  obtain ⟨h13, c12, e⟩ := zd_b e
  refine zs_callV (k := 19) (rn := { frames := 0, cells := 0, slots := 0, locals := 0 }) (As := [.int 1]) (rest := []) C (zc_Ps_take h11 1 c12) ku_Ps_take kw876 kv_Ps_take rfl (zd_rmO (by decide) (by decide)) ⟨Nat.le_refl _, Nat.le_refl _⟩ rfl rfl rfl (Nat.le_of_ble_eq_true rfl) kd_Ps_forStatement_55 rfl (c1 := 0) (s1 := 0) rfl rfl (fun v w hp => ?_)
  obtain ⟨rfl, rfl⟩ := hp
  refine zk_stk (r' := []) rfl ?_
  refine zk_aload_n C kd_Ps_forStatement_58 rfl 1 rfl rfl ?_
  refine zs_get (v := .ref (S.1 12)) C 19 2 rfl rfl rfl rfl ki_Ps (by decide) kw203 kd_Ps_forStatement_59 rfl ?_
  refine zk_iload_n C kd_Ps_forStatement_62 rfl 0 rfl rfl ?_
  refine zk_iconst (v := (-1)) C kd_Ps_forStatement_63 (by decide) rfl ?_
  refine zk_aload_n C kd_Ps_forStatement_64 rfl 1 rfl rfl ?_
  obtain ⟨v15, h16, c14, e⟩ := zd_Be e
  refine zs_callV (k := 19) (rn := { frames := 2, cells := 0, slots := 0, locals := 47 }) (As := []) (rest := [.int (-1), .int v2, .ref (S.1 12)]) C (zc_Ps_constant h13 c14) ku_Ps_constant kw904 kv_Ps_constant rfl (zd_rmO (by decide) (by decide)) ⟨Nat.le_refl _, Nat.le_refl _⟩ rfl rfl rfl (Nat.le_of_ble_eq_true rfl) kd_Ps_forStatement_65 rfl (c1 := 0) (s1 := 0) rfl rfl (fun v w hp => ?_)
  obtain ⟨rfl, rfl⟩ := hp
  refine zk_stk (r' := [.int v15, .int (-1), .int v2, .ref (S.1 12)]) rfl ?_
  obtain ⟨v18, h19, c17, e⟩ := zd_Be e
  refine zs_callV (k := 12) (rn := { frames := 0, cells := 0, slots := 0, locals := 0 }) (As := [.int v2, .int (-1), .int v15]) (rest := []) C (zc_Tr_hang h16 v2 (-1) v15 c17) ku_Tr_hang kw884 kv_Tr_hang rfl (zd_rmO (by decide) (by decide)) ⟨Nat.le_refl _, Nat.le_refl _⟩ rfl rfl rfl (Nat.le_of_ble_eq_true rfl) kd_Ps_forStatement_68 rfl (c1 := 0) (s1 := 0) rfl rfl (fun v w hp => ?_)
  obtain ⟨rfl, rfl⟩ := hp
  refine zk_stk (r' := [.int v18]) rfl ?_
  refine zk_istore_n (lv' := [(2, _), (1, _), (0, _)]) C kd_Ps_forStatement_71 rfl (by decide) rfl rfl ?_
  refine zk_aload_n C kd_Ps_forStatement_72 rfl 2 rfl rfl ?_
  refine zk_sipush (v := 152) C kd_Ps_forStatement_73 (by decide) rfl ?_
  obtain ⟨h21, c20, e⟩ := zd_b e
  refine zs_callV (k := 19) (rn := { frames := 0, cells := 0, slots := 0, locals := 0 }) (As := [.int 152]) (rest := []) C (zc_Ps_take h19 152 c20) ku_Ps_take kw876 kv_Ps_take rfl (zd_rmO (by decide) (by decide)) ⟨Nat.le_refl _, Nat.le_refl _⟩ rfl rfl rfl (Nat.le_of_ble_eq_true rfl) kd_Ps_forStatement_76 rfl (c1 := 0) (s1 := 0) rfl rfl (fun v w hp => ?_)
  obtain ⟨rfl, rfl⟩ := hp
  refine zk_stk (r' := []) rfl ?_
  refine zk_aload_n C kd_Ps_forStatement_79 rfl 2 rfl rfl ?_
  refine zs_get (v := .ref (S.1 12)) C 19 2 rfl rfl rfl rfl ki_Ps (by decide) kw203 kd_Ps_forStatement_80 rfl ?_
  refine zk_iload_n C kd_Ps_forStatement_83 rfl 1 rfl rfl ?_
  refine zk_iload_n C kd_Ps_forStatement_84 rfl 0 rfl rfl ?_
  refine zk_aload_n C kd_Ps_forStatement_85 rfl 2 rfl rfl ?_
  obtain ⟨v23, h24, c22, e⟩ := zd_Be e
  refine zs_callV (k := 19) (rn := { frames := 2, cells := 0, slots := 0, locals := 47 }) (As := []) (rest := [.int v18, .int v2, .ref (S.1 12)]) C (zc_Ps_constant h21 c22) ku_Ps_constant kw904 kv_Ps_constant rfl (zd_rmO (by decide) (by decide)) ⟨Nat.le_refl _, Nat.le_refl _⟩ rfl rfl rfl (Nat.le_of_ble_eq_true rfl) kd_Ps_forStatement_86 rfl (c1 := 0) (s1 := 0) rfl rfl (fun v w hp => ?_)
  obtain ⟨rfl, rfl⟩ := hp
  refine zk_stk (r' := [.int v23, .int v18, .int v2, .ref (S.1 12)]) rfl ?_
  obtain ⟨v26, h27, c25, e⟩ := zd_Be e
  refine zs_callV (k := 12) (rn := { frames := 0, cells := 0, slots := 0, locals := 0 }) (As := [.int v2, .int v18, .int v23]) (rest := []) C (zc_Tr_hang h24 v2 v18 v23 c25) ku_Tr_hang kw884 kv_Tr_hang rfl (zd_rmO (by decide) (by decide)) ⟨Nat.le_refl _, Nat.le_refl _⟩ rfl rfl rfl (Nat.le_of_ble_eq_true rfl) kd_Ps_forStatement_89 rfl (c1 := 0) (s1 := 0) rfl rfl (fun v w hp => ?_)
  obtain ⟨rfl, rfl⟩ := hp
  refine zk_stk (r' := [.int v26]) rfl ?_
  refine zk_istore_n (lv' := [(2, _), (1, _), (0, _)]) C kd_Ps_forStatement_92 rfl (by decide) rfl rfl ?_
  refine zk_aload_n C kd_Ps_forStatement_93 rfl 2 rfl rfl ?_
  refine zs_get (v := .int (h27.1 19 5)) C 19 5 rfl rfl rfl rfl ki_Ps (by decide) kw206 kd_Ps_forStatement_94 rfl ?_
  refine zk_sipush (v := 153) C kd_Ps_forStatement_97 (by decide) rfl ?_
  refine zk_icmp_ne (tgt := 124) C kd_Ps_forStatement_100 (by decide) rfl (fun b28 => ?_) (fun b28 => ?_)
  · replace e := zd_neg b28 e
    refine zk_lvs (lv' := [(0, .ref (S.1 19)), (1, .int v2), (2, .int v26)]) [2, 1, 0] rfl ?_
    exact zb_Ps_forStatement_124 C hR hr_Ps_statements h27 v2 v26 e
  · replace e := zd_pos b28 e
    refine zk_aload_n C kd_Ps_forStatement_103 rfl 2 rfl rfl ?_
    refine zk_sipush (v := 153) C kd_Ps_forStatement_104 (by decide) rfl ?_
    obtain ⟨h30, c29, e⟩ := zd_b e
    refine zs_callV (k := 19) (rn := { frames := 0, cells := 0, slots := 0, locals := 0 }) (As := [.int 153]) (rest := []) C (zc_Ps_take h27 153 c29) ku_Ps_take kw876 kv_Ps_take rfl (zd_rmO (by decide) (by decide)) ⟨Nat.le_refl _, Nat.le_refl _⟩ rfl rfl rfl (Nat.le_of_ble_eq_true rfl) kd_Ps_forStatement_107 rfl (c1 := 0) (s1 := 0) rfl rfl (fun v w hp => ?_)
    obtain ⟨rfl, rfl⟩ := hp
    refine zk_stk (r' := []) rfl ?_
    refine zk_aload_n C kd_Ps_forStatement_110 rfl 2 rfl rfl ?_
    refine zs_get (v := .ref (S.1 12)) C 19 2 rfl rfl rfl rfl ki_Ps (by decide) kw203 kd_Ps_forStatement_111 rfl ?_
    refine zk_iload_n C kd_Ps_forStatement_114 rfl 1 rfl rfl ?_
    refine zk_iload_n C kd_Ps_forStatement_115 rfl 0 rfl rfl ?_
    refine zk_aload_n C kd_Ps_forStatement_116 rfl 2 rfl rfl ?_
    obtain ⟨v32, h33, c31, e⟩ := zd_Be e
    refine zs_callV (k := 19) (rn := { frames := 2, cells := 0, slots := 0, locals := 47 }) (As := []) (rest := [.int v26, .int v2, .ref (S.1 12)]) C (zc_Ps_constant h30 c31) ku_Ps_constant kw904 kv_Ps_constant rfl (zd_rmO (by decide) (by decide)) ⟨Nat.le_refl _, Nat.le_refl _⟩ rfl rfl rfl (Nat.le_of_ble_eq_true rfl) kd_Ps_forStatement_117 rfl (c1 := 0) (s1 := 0) rfl rfl (fun v w hp => ?_)
    obtain ⟨rfl, rfl⟩ := hp
    refine zk_stk (r' := [.int v32, .int v26, .int v2, .ref (S.1 12)]) rfl ?_
    obtain ⟨v35, h36, c34, e⟩ := zd_Be e
    refine zs_callV (k := 12) (rn := { frames := 0, cells := 0, slots := 0, locals := 0 }) (As := [.int v2, .int v26, .int v32]) (rest := []) C (zc_Tr_hang h33 v2 v26 v32 c34) ku_Tr_hang kw884 kv_Tr_hang rfl (zd_rmO (by decide) (by decide)) ⟨Nat.le_refl _, Nat.le_refl _⟩ rfl rfl rfl (Nat.le_of_ble_eq_true rfl) kd_Ps_forStatement_120 rfl (c1 := 0) (s1 := 0) rfl rfl (fun v w hp => ?_)
    obtain ⟨rfl, rfl⟩ := hp
    refine zk_stk (r' := [.int v35]) rfl ?_
    refine zk_istore_n (lv' := [(2, _), (1, _), (0, _)]) C kd_Ps_forStatement_123 rfl (by decide) rfl rfl ?_
    refine zk_lvs (lv' := [(0, .ref (S.1 19)), (1, .int v2), (2, .int v35)]) [2, 1, 0] rfl ?_
    exact zb_Ps_forStatement_124 C hR hr_Ps_statements h36 v2 v35 e
set_option maxHeartbeats 4000000 in
set_option maxRecDepth 100000 in
theorem zb_Ps_ifStatement_125 {X : zkj_T} {S : zs_T} {P : ze_T} {l : Launch} {D : va_G} {sz0 : Nat} {d : Nat} {rv : Int32} {rh : zs_H} (C : zk_C X km_Ps_ifStatement (zs_G S l D sz0) { frames := 405 + (d + 1), cells := 0, slots := 0, locals := 10119 + 25 * (d + 1) } (ze_E P)) (hR : zkj_R X (zd_PI S rv rh) (some .int)) (h : zs_H) (x1 : Int32) (e : f_Ps_ifStatement_125 h x1 = some (rv, rh)) : zk_Ab X (zs_W S h) 0 0 125 [(0, .ref (S.1 19)), (1, .int x1)] [] := by
  unfold f_Ps_ifStatement_125 at e
  refine zk_aload_n C kd_Ps_ifStatement_125 rfl 0 rfl rfl ?_
  refine zk_sipush (v := 148) C kd_Ps_ifStatement_126 (by decide) rfl ?_
  obtain ⟨h2, c1, e⟩ := zd_b e
  refine zs_callV (k := 19) (rn := { frames := 0, cells := 0, slots := 0, locals := 0 }) (As := [.int 148]) (rest := []) C (zc_Ps_take h 148 c1) ku_Ps_take kw876 kv_Ps_take rfl (zd_rmO (by decide) (by decide)) ⟨Nat.le_refl _, Nat.le_refl _⟩ rfl rfl rfl (Nat.le_of_ble_eq_true rfl) kd_Ps_ifStatement_129 rfl (c1 := 0) (s1 := 0) rfl rfl (fun v w hp => ?_)
  obtain ⟨rfl, rfl⟩ := hp
  refine zk_stk (r' := []) rfl ?_
  refine zk_aload_n C kd_Ps_ifStatement_132 rfl 0 rfl rfl ?_
  refine zk_dup C kd_Ps_ifStatement_133 rfl rfl ?_
  refine zs_get (v := .int (h2.1 19 7)) C 19 7 rfl rfl rfl rfl ki_Ps (by decide) kw208 kd_Ps_ifStatement_134 rfl ?_
  refine zk_iconst (v := 1) C kd_Ps_ifStatement_137 (by decide) rfl ?_
  refine zk_isub C kd_Ps_ifStatement_138 rfl ?_
  refine zs_put (ty := .int) C 19 7 ((h2.1 19 7) - 1) rfl rfl rfl rfl ki_Ps ky_Ps ko_Ps kn_Ps (by decide) kw208 rfl rfl rfl rfl (by decide) kd_Ps_ifStatement_139 rfl ?_
  refine zk_iload_n C kd_Ps_ifStatement_142 rfl 1 rfl rfl ?_
  exact zk_iret C hR kd_Ps_ifStatement_143 rfl rfl (zd_rIS e)
set_option maxHeartbeats 4000000 in
set_option maxRecDepth 100000 in
theorem zb_Ps_ifStatement_94 {X : zkj_T} {S : zs_T} {P : ze_T} {l : Launch} {D : va_G} {sz0 : Nat} {d : Nat} {rv : Int32} {rh : zs_H} (C : zk_C X km_Ps_ifStatement (zs_G S l D sz0) { frames := 405 + (d + 1), cells := 0, slots := 0, locals := 10119 + 25 * (d + 1) } (ze_E P)) (hR : zkj_R X (zd_PI S rv rh) (some .int)) {r_Ps_statements : zs_H → (Option (Int32 × zs_H))} (hr_Ps_statements : ∀ (h : zs_H) {rv : Int32} {rh : zs_H}, r_Ps_statements h = some (rv, rh) → zk_Sp (zs_G S l D sz0) (ze_E P) km_Ps_statements { frames := 405 + d, cells := 0, slots := 0, locals := 10119 + 25 * d } [.ref (S.1 19)] (zs_W S h) (zd_PI S rv rh)) (h : zs_H) (x1 : Int32) (x2 : Int32) (e : f_Ps_ifStatement_94 r_Ps_statements h x1 x2 = some (rv, rh)) : zk_Ab X (zs_W S h) 0 0 94 [(0, .ref (S.1 19)), (1, .int x1), (2, .int x2)] [] := by
  unfold f_Ps_ifStatement_94 at e
  refine zk_aload_n C kd_Ps_ifStatement_94 rfl 0 rfl rfl ?_
  refine zs_get (v := .int (h.1 19 5)) C 19 5 rfl rfl rfl rfl ki_Ps (by decide) kw206 kd_Ps_ifStatement_95 rfl ?_
  refine zk_sipush (v := 147) C kd_Ps_ifStatement_98 (by decide) rfl ?_
  refine zk_icmp_ne (tgt := 125) C kd_Ps_ifStatement_101 (by decide) rfl (fun b1 => ?_) (fun b1 => ?_)
  · replace e := zd_neg b1 e
    refine zk_lvs (lv' := [(0, .ref (S.1 19)), (1, .int x1)]) [0, 1] rfl ?_
    exact zb_Ps_ifStatement_125 C hR h x1 e
  · replace e := zd_pos b1 e
    refine zk_aload_n C kd_Ps_ifStatement_104 rfl 0 rfl rfl ?_
    refine zk_sipush (v := 147) C kd_Ps_ifStatement_105 (by decide) rfl ?_
    obtain ⟨h3, c2, e⟩ := zd_b e
    refine zs_callV (k := 19) (rn := { frames := 0, cells := 0, slots := 0, locals := 0 }) (As := [.int 147]) (rest := []) C (zc_Ps_take h 147 c2) ku_Ps_take kw876 kv_Ps_take rfl (zd_rmO (by decide) (by decide)) ⟨Nat.le_refl _, Nat.le_refl _⟩ rfl rfl rfl (Nat.le_of_ble_eq_true rfl) kd_Ps_ifStatement_108 rfl (c1 := 0) (s1 := 0) rfl rfl (fun v w hp => ?_)
    obtain ⟨rfl, rfl⟩ := hp
    refine zk_stk (r' := []) rfl ?_
    refine zk_aload_n C kd_Ps_ifStatement_111 rfl 0 rfl rfl ?_
    refine zs_get (v := .ref (S.1 12)) C 19 2 rfl rfl rfl rfl ki_Ps (by decide) kw203 kd_Ps_ifStatement_112 rfl ?_
    refine zk_iload_n C kd_Ps_ifStatement_115 rfl 1 rfl rfl ?_
    refine zk_iload_n C kd_Ps_ifStatement_116 rfl 2 rfl rfl ?_
    refine zk_aload_n C kd_Ps_ifStatement_117 rfl 0 rfl rfl ?_
    obtain ⟨v5, h6, c4, e⟩ := zd_Be e
    refine zs_callV (k := 19) (rn := { frames := 405 + d, cells := 0, slots := 0, locals := 10119 + 25 * d }) (As := []) (rest := [.int x2, .int x1, .ref (S.1 12)]) C (hr_Ps_statements h3 c4) ku_Ps_statements kw928 kv_Ps_statements rfl (zd_rmI (by decide)) ⟨Nat.le_refl _, Nat.le_refl _⟩ rfl rfl rfl (Nat.le_of_ble_eq_true rfl) kd_Ps_ifStatement_118 rfl (c1 := 0) (s1 := 0) rfl rfl (fun v w hp => ?_)
    obtain ⟨rfl, rfl⟩ := hp
    refine zk_stk (r' := [.int v5, .int x2, .int x1, .ref (S.1 12)]) rfl ?_
    obtain ⟨v8, h9, c7, e⟩ := zd_Be e
    refine zs_callV (k := 12) (rn := { frames := 0, cells := 0, slots := 0, locals := 0 }) (As := [.int x1, .int x2, .int v5]) (rest := []) C (zc_Tr_hang h6 x1 x2 v5 c7) ku_Tr_hang kw884 kv_Tr_hang rfl (zd_rmO (by decide) (by decide)) ⟨Nat.le_refl _, Nat.le_refl _⟩ rfl rfl rfl (Nat.le_of_ble_eq_true rfl) kd_Ps_ifStatement_121 rfl (c1 := 0) (s1 := 0) rfl rfl (fun v w hp => ?_)
    obtain ⟨rfl, rfl⟩ := hp
    refine zk_stk (r' := [.int v8]) rfl ?_
    refine zk_pop C kd_Ps_ifStatement_124 rfl rfl ?_
    refine zk_lvs (lv' := [(0, .ref (S.1 19)), (1, .int x1)]) [0, 1] rfl ?_
    exact zb_Ps_ifStatement_125 C hR h9 x1 e
set_option maxHeartbeats 4000000 in
set_option maxRecDepth 100000 in
theorem zb_Ps_ifStatement_28 {X : zkj_T} {S : zs_T} {P : ze_T} {l : Launch} {D : va_G} {sz0 : Nat} {d : Nat} {rv : Int32} {rh : zs_H} (C : zk_C X km_Ps_ifStatement (zs_G S l D sz0) { frames := 405 + (d + 1), cells := 0, slots := 0, locals := 10119 + 25 * (d + 1) } (ze_E P)) (hR : zkj_R X (zd_PI S rv rh) (some .int)) {r_Ps_statements : zs_H → (Option (Int32 × zs_H))} (hr_Ps_statements : ∀ (h : zs_H) {rv : Int32} {rh : zs_H}, r_Ps_statements h = some (rv, rh) → zk_Sp (zs_G S l D sz0) (ze_E P) km_Ps_statements { frames := 405 + d, cells := 0, slots := 0, locals := 10119 + 25 * d } [.ref (S.1 19)] (zs_W S h) (zd_PI S rv rh)) {k28 : zs_H → Int32 → Int32 → Int32 → Int32 → (Option (Int32 × zs_H))} (hk28 : ∀ (h : zs_H) (x1 : Int32) (x2 : Int32) (x3 : Int32) (x4 : Int32), k28 h x1 x2 x3 x4 = some (rv, rh) → zk_Ab X (zs_W S h) 0 0 28 [(0, .ref (S.1 19)), (1, .int x1), (2, .int x2), (3, .int x3), (4, .int x4)] []) (h : zs_H) (x1 : Int32) (x2 : Int32) (x3 : Int32) (x4 : Int32) (e : f_Ps_ifStatement_28 r_Ps_statements k28 h x1 x2 x3 x4 = some (rv, rh)) : zk_Ab X (zs_W S h) 0 0 28 [(0, .ref (S.1 19)), (1, .int x1), (2, .int x2), (3, .int x3), (4, .int x4)] [] := by
  unfold f_Ps_ifStatement_28 at e
  refine zk_iload C kd_Ps_ifStatement_28 4 rfl rfl ?_
  refine zk_sipush (v := 16384) C kd_Ps_ifStatement_30 (by decide) rfl ?_
  refine zk_icmp_ge (tgt := 94) C kd_Ps_ifStatement_33 (by decide) rfl (fun b1 => ?_) (fun b1 => ?_)
  · replace e := zd_pos b1 e
    refine zk_lvs (lv' := [(0, .ref (S.1 19)), (1, .int x1), (2, .int x2)]) [0, 1, 2] rfl ?_
    exact zb_Ps_ifStatement_94 C hR hr_Ps_statements h x1 x2 e
  · replace e := zd_neg b1 e
    refine zk_aload_n C kd_Ps_ifStatement_36 rfl 0 rfl rfl ?_
    refine zs_get (v := .int (h.1 19 5)) C 19 5 rfl rfl rfl rfl ki_Ps (by decide) kw206 kd_Ps_ifStatement_37 rfl ?_
    refine zk_iload_n C kd_Ps_ifStatement_40 rfl 3 rfl rfl ?_
    refine zk_icmp_ne (tgt := 94) C kd_Ps_ifStatement_41 (by decide) rfl (fun b2 => ?_) (fun b2 => ?_)
    · replace e := zd_neg b2 e
      refine zk_lvs (lv' := [(0, .ref (S.1 19)), (1, .int x1), (2, .int x2)]) [0, 1, 2] rfl ?_
      exact zb_Ps_ifStatement_94 C hR hr_Ps_statements h x1 x2 e
    · replace e := zd_pos b2 e
      refine zk_aload_n C kd_Ps_ifStatement_44 rfl 0 rfl rfl ?_
      refine zk_iload_n C kd_Ps_ifStatement_45 rfl 3 rfl rfl ?_
      obtain ⟨h4, c3, e⟩ := zd_b e
      refine zs_callV (k := 19) (rn := { frames := 0, cells := 0, slots := 0, locals := 0 }) (As := [.int x3]) (rest := []) C (zc_Ps_take h x3 c3) ku_Ps_take kw876 kv_Ps_take rfl (zd_rmO (by decide) (by decide)) ⟨Nat.le_refl _, Nat.le_refl _⟩ rfl rfl rfl (Nat.le_of_ble_eq_true rfl) kd_Ps_ifStatement_46 rfl (c1 := 0) (s1 := 0) rfl rfl (fun v w hp => ?_)
      obtain ⟨rfl, rfl⟩ := hp
      refine zk_stk (r' := []) rfl ?_
      refine zk_aload_n C kd_Ps_ifStatement_49 rfl 0 rfl rfl ?_
      refine zs_get (v := .ref (S.1 12)) C 19 2 rfl rfl rfl rfl ki_Ps (by decide) kw203 kd_Ps_ifStatement_50 rfl ?_
      refine zk_iload_n C kd_Ps_ifStatement_53 rfl 1 rfl rfl ?_
      refine zk_iload_n C kd_Ps_ifStatement_54 rfl 2 rfl rfl ?_
      refine zk_aload_n C kd_Ps_ifStatement_55 rfl 0 rfl rfl ?_
      obtain ⟨v6, h7, c5, e⟩ := zd_Be e
      refine zs_callV (k := 19) (rn := { frames := 403, cells := 0, slots := 0, locals := 10072 }) (As := []) (rest := [.int x2, .int x1, .ref (S.1 12)]) C (zc_Ps_wholeExpression h4 c5) ku_Ps_wholeExpression kw948 kv_Ps_wholeExpression rfl (zd_rmO (by decide) (by decide)) ⟨Nat.le_refl _, Nat.le_refl _⟩ rfl rfl rfl (Nat.le_of_ble_eq_true rfl) kd_Ps_ifStatement_56 rfl (c1 := 0) (s1 := 0) rfl rfl (fun v w hp => ?_)
      obtain ⟨rfl, rfl⟩ := hp
      refine zk_stk (r' := [.int v6, .int x2, .int x1, .ref (S.1 12)]) rfl ?_
      obtain ⟨v9, h10, c8, e⟩ := zd_Be e
      refine zs_callV (k := 12) (rn := { frames := 0, cells := 0, slots := 0, locals := 0 }) (As := [.int x1, .int x2, .int v6]) (rest := []) C (zc_Tr_hang h7 x1 x2 v6 c8) ku_Tr_hang kw884 kv_Tr_hang rfl (zd_rmO (by decide) (by decide)) ⟨Nat.le_refl _, Nat.le_refl _⟩ rfl rfl rfl (Nat.le_of_ble_eq_true rfl) kd_Ps_ifStatement_59 rfl (c1 := 0) (s1 := 0) rfl rfl (fun v w hp => ?_)
      obtain ⟨rfl, rfl⟩ := hp
      refine zk_stk (r' := [.int v9]) rfl ?_
      refine zk_istore_n (lv' := [(2, _), (0, _), (1, _), (3, _), (4, _)]) C kd_Ps_ifStatement_62 rfl (by decide) rfl rfl ?_
      refine zk_aload_n C kd_Ps_ifStatement_63 rfl 1 rfl rfl ?_
      refine zk_sipush (v := 145) C kd_Ps_ifStatement_64 (by decide) rfl ?_
      obtain ⟨h12, c11, e⟩ := zd_b e
      refine zs_callV (k := 19) (rn := { frames := 0, cells := 0, slots := 0, locals := 0 }) (As := [.int 145]) (rest := []) C (zc_Ps_take h10 145 c11) ku_Ps_take kw876 kv_Ps_take rfl (zd_rmO (by decide) (by decide)) ⟨Nat.le_refl _, Nat.le_refl _⟩ rfl rfl rfl (Nat.le_of_ble_eq_true rfl) kd_Ps_ifStatement_67 rfl (c1 := 0) (s1 := 0) rfl rfl (fun v w hp => ?_)
      obtain ⟨rfl, rfl⟩ := hp
      refine zk_stk (r' := []) rfl ?_
      refine zk_aload_n C kd_Ps_ifStatement_70 rfl 1 rfl rfl ?_
      refine zs_get (v := .ref (S.1 12)) C 19 2 rfl rfl rfl rfl ki_Ps (by decide) kw203 kd_Ps_ifStatement_71 rfl ?_
      refine zk_iload_n C kd_Ps_ifStatement_74 rfl 2 rfl rfl ?_
      refine zk_iload_n C kd_Ps_ifStatement_75 rfl 0 rfl rfl ?_
      refine zk_aload_n C kd_Ps_ifStatement_76 rfl 1 rfl rfl ?_
      obtain ⟨v14, h15, c13, e⟩ := zd_Be e
      refine zs_callV (k := 19) (rn := { frames := 405 + d, cells := 0, slots := 0, locals := 10119 + 25 * d }) (As := []) (rest := [.int v9, .int x1, .ref (S.1 12)]) C (hr_Ps_statements h12 c13) ku_Ps_statements kw928 kv_Ps_statements rfl (zd_rmI (by decide)) ⟨Nat.le_refl _, Nat.le_refl _⟩ rfl rfl rfl (Nat.le_of_ble_eq_true rfl) kd_Ps_ifStatement_77 rfl (c1 := 0) (s1 := 0) rfl rfl (fun v w hp => ?_)
      obtain ⟨rfl, rfl⟩ := hp
      refine zk_stk (r' := [.int v14, .int v9, .int x1, .ref (S.1 12)]) rfl ?_
      obtain ⟨v17, h18, c16, e⟩ := zd_Be e
      refine zs_callV (k := 12) (rn := { frames := 0, cells := 0, slots := 0, locals := 0 }) (As := [.int x1, .int v9, .int v14]) (rest := []) C (zc_Tr_hang h15 x1 v9 v14 c16) ku_Tr_hang kw884 kv_Tr_hang rfl (zd_rmO (by decide) (by decide)) ⟨Nat.le_refl _, Nat.le_refl _⟩ rfl rfl rfl (Nat.le_of_ble_eq_true rfl) kd_Ps_ifStatement_80 rfl (c1 := 0) (s1 := 0) rfl rfl (fun v w hp => ?_)
      obtain ⟨rfl, rfl⟩ := hp
      refine zk_stk (r' := [.int v17]) rfl ?_
      refine zk_istore_n (lv' := [(2, _), (0, _), (1, _), (3, _), (4, _)]) C kd_Ps_ifStatement_83 rfl (by decide) rfl rfl ?_
      refine zk_sipush (v := 146) C kd_Ps_ifStatement_84 (by decide) rfl ?_
      refine zk_istore_n (lv' := [(3, _), (2, _), (0, _), (1, _), (4, _)]) C kd_Ps_ifStatement_87 rfl (by decide) rfl rfl ?_
      refine zk_iinc (v := (x4 + 1)) (lv' := [(4, _), (3, _), (2, _), (0, _), (1, _)]) C kd_Ps_ifStatement_88 4 rfl rfl (by decide) rfl rfl ?_
      refine zk_goto (tgt := 28) C kd_Ps_ifStatement_91 (by decide) ?_
      refine zk_lvs (lv' := [(0, .ref (S.1 19)), (1, .int x1), (2, .int v17), (3, .int 146), (4, .int (x4 + 1))]) [3, 4, 2, 1, 0] rfl ?_
      exact hk28 h18 x1 v17 146 (x4 + 1) e
theorem zl_Ps_ifStatement_28 {X : zkj_T} {S : zs_T} {P : ze_T} {l : Launch} {D : va_G} {sz0 : Nat} {d : Nat} {rv : Int32} {rh : zs_H} (C : zk_C X km_Ps_ifStatement (zs_G S l D sz0) { frames := 405 + (d + 1), cells := 0, slots := 0, locals := 10119 + 25 * (d + 1) } (ze_E P)) (hR : zkj_R X (zd_PI S rv rh) (some .int)) {r_Ps_statements : zs_H → (Option (Int32 × zs_H))} (hr_Ps_statements : ∀ (h : zs_H) {rv : Int32} {rh : zs_H}, r_Ps_statements h = some (rv, rh) → zk_Sp (zs_G S l D sz0) (ze_E P) km_Ps_statements { frames := 405 + d, cells := 0, slots := 0, locals := 10119 + 25 * d } [.ref (S.1 19)] (zs_W S h) (zd_PI S rv rh)) (n : Nat) : ∀ (h : zs_H) (x1 : Int32) (x2 : Int32) (x3 : Int32) (x4 : Int32), f_Ps_ifStatement_L28 r_Ps_statements n h x1 x2 x3 x4 = some (rv, rh) → zk_Ab X (zs_W S h) 0 0 28 [(0, .ref (S.1 19)), (1, .int x1), (2, .int x2), (3, .int x3), (4, .int x4)] [] := by
  induction n with
  | zero => intro h x1 x2 x3 x4 e; exact zd_no e
  | succ n ih => intro h x1 x2 x3 x4 e; exact zb_Ps_ifStatement_28 (k28 := f_Ps_ifStatement_L28 r_Ps_statements n) C hR hr_Ps_statements ih h x1 x2 x3 x4 e
set_option maxHeartbeats 4000000 in
set_option maxRecDepth 100000 in
theorem zg_Ps_ifStatement {l : Launch} {D : va_G} {sz0 : Nat} {S : zs_T} {P : ze_T} {d : Nat} {r_Ps_statements : zs_H → (Option (Int32 × zs_H))} (hr_Ps_statements : ∀ (h : zs_H) {rv : Int32} {rh : zs_H}, r_Ps_statements h = some (rv, rh) → zk_Sp (zs_G S l D sz0) (ze_E P) km_Ps_statements { frames := 405 + d, cells := 0, slots := 0, locals := 10119 + 25 * d } [.ref (S.1 19)] (zs_W S h) (zd_PI S rv rh)) (h : zs_H) {rv : Int32} {rh : zs_H} (e : g_Ps_ifStatement r_Ps_statements h = some (rv, rh)) : zk_Sp (zs_G S l D sz0) (ze_E P) km_Ps_ifStatement { frames := 405 + (d + 1), cells := 0, slots := 0, locals := 10119 + 25 * (d + 1) } [.ref (S.1 19)] (zs_W S h) (zd_PI S rv rh) := by
  refine zk_met ku_Ps_ifStatement (Nat.le_of_ble_eq_true rfl) (ze_Em P) ?_
  intro X C hR
  refine zk_lvs (lv' := [(0, .ref (S.1 19))]) [0] rfl ?_
  unfold g_Ps_ifStatement at e
  refine zk_aload_n C kd_Ps_ifStatement_0 rfl 0 rfl rfl ?_
  refine zs_get (v := .ref (S.1 12)) C 19 2 rfl rfl rfl rfl ki_Ps (by decide) kw203 kd_Ps_ifStatement_1 rfl ?_
  refine zk_bipush (v := 15) C kd_Ps_ifStatement_4 (by decide) rfl ?_
  refine zk_aload_n C kd_Ps_ifStatement_6 rfl 0 rfl rfl ?_
  refine zs_get (v := .int (h.1 19 6)) C 19 6 rfl rfl rfl rfl ki_Ps (by decide) kw207 kd_Ps_ifStatement_7 rfl ?_
  refine zk_iconst (v := 0) C kd_Ps_ifStatement_10 (by decide) rfl ?_
  obtain ⟨v2, h3, c1, e⟩ := zd_Be e
  refine zs_callV (k := 12) (rn := { frames := 1, cells := 0, slots := 0, locals := 23 }) (As := [.int 15, .int (h.1 19 6), .int 0]) (rest := []) C (zc_Tr_add h 15 (h.1 19 6) 0 c1) ku_Tr_add kw866 kv_Tr_add rfl (zd_rmO (by decide) (by decide)) ⟨Nat.le_refl _, Nat.le_refl _⟩ rfl rfl rfl (Nat.le_of_ble_eq_true rfl) kd_Ps_ifStatement_11 rfl (c1 := 0) (s1 := 0) rfl rfl (fun v w hp => ?_)
  obtain ⟨rfl, rfl⟩ := hp
  refine zk_stk (r' := [.int v2]) rfl ?_
  refine zk_istore_n (lv' := [(1, _), (0, _)]) C kd_Ps_ifStatement_14 rfl (by decide) rfl rfl ?_
  refine zk_aload_n C kd_Ps_ifStatement_15 rfl 1 rfl rfl ?_
  obtain ⟨h5, c4, e⟩ := zd_b e
  refine zs_callV (k := 19) (rn := { frames := 0, cells := 0, slots := 0, locals := 0 }) (As := []) (rest := []) C (zc_Ps_deepen h3 c4) ku_Ps_deepen kw944 kv_Ps_deepen rfl (zd_rmO (by decide) (by decide)) ⟨Nat.le_refl _, Nat.le_refl _⟩ rfl rfl rfl (Nat.le_of_ble_eq_true rfl) kd_Ps_ifStatement_16 rfl (c1 := 0) (s1 := 0) rfl rfl (fun v w hp => ?_)
  obtain ⟨rfl, rfl⟩ := hp
  refine zk_stk (r' := []) rfl ?_
  refine zk_iconst (v := (-1)) C kd_Ps_ifStatement_19 (by decide) rfl ?_
  refine zk_istore_n (lv' := [(2, _), (1, _), (0, _)]) C kd_Ps_ifStatement_20 rfl (by decide) rfl rfl ?_
  refine zk_sipush (v := 144) C kd_Ps_ifStatement_21 (by decide) rfl ?_
  refine zk_istore_n (lv' := [(3, _), (2, _), (1, _), (0, _)]) C kd_Ps_ifStatement_24 rfl (by decide) rfl rfl ?_
  refine zk_iconst (v := 0) C kd_Ps_ifStatement_25 (by decide) rfl ?_
  refine zk_istore (lv' := [(4, _), (3, _), (2, _), (1, _), (0, _)]) C kd_Ps_ifStatement_26 (by decide) rfl rfl ?_
  refine zk_lvs (lv' := [(0, .ref (S.1 19)), (1, .int v2), (2, .int (-1)), (3, .int 144), (4, .int 0)]) [4, 3, 2, 1, 0] rfl ?_
  exact zl_Ps_ifStatement_28 C hR hr_Ps_statements zF h5 v2 (-1) 144 0 e
set_option maxHeartbeats 4000000 in
set_option maxRecDepth 100000 in
theorem zb_Ps_statement_141 {X : zkj_T} {S : zs_T} {P : ze_T} {l : Launch} {D : va_G} {sz0 : Nat} {d : Nat} {rv : Int32} {rh : zs_H} (C : zk_C X km_Ps_statement (zs_G S l D sz0) { frames := 405 + (d + 1), cells := 0, slots := 0, locals := 10119 + 25 * (d + 1) } (ze_E P)) (hR : zkj_R X (zd_PI S rv rh) (some .int)) (h : zs_H) (y0 : Int32) (e : f_Ps_statement_141 h y0 = some (rv, rh)) : zk_Ab X (zs_W S h) 0 0 141 [(0, .ref (S.1 19))] [.int y0, .ref (S.1 12)] := by
  unfold f_Ps_statement_141 at e
  refine zk_aload_n C kd_Ps_statement_141 rfl 0 rfl rfl ?_
  refine zs_get (v := .int (h.1 19 6)) C 19 6 rfl rfl rfl rfl ki_Ps (by decide) kw207 kd_Ps_statement_142 rfl ?_
  refine zk_iconst (v := 0) C kd_Ps_statement_145 (by decide) rfl ?_
  obtain ⟨v2, h3, c1, e⟩ := zd_Be e
  refine zs_callV (k := 12) (rn := { frames := 1, cells := 0, slots := 0, locals := 23 }) (As := [.int y0, .int (h.1 19 6), .int 0]) (rest := []) C (zc_Tr_add h y0 (h.1 19 6) 0 c1) ku_Tr_add kw866 kv_Tr_add rfl (zd_rmO (by decide) (by decide)) ⟨Nat.le_refl _, Nat.le_refl _⟩ rfl rfl rfl (Nat.le_of_ble_eq_true rfl) kd_Ps_statement_146 rfl (c1 := 0) (s1 := 0) rfl rfl (fun v w hp => ?_)
  obtain ⟨rfl, rfl⟩ := hp
  refine zk_stk (r' := [.int v2]) rfl ?_
  refine zk_istore_n (lv' := [(2, _), (0, _)]) C kd_Ps_statement_149 rfl (by decide) rfl rfl ?_
  refine zk_aload_n C kd_Ps_statement_150 rfl 1 rfl rfl ?_
  refine zk_aload_n C kd_Ps_statement_151 rfl 1 rfl rfl ?_
  refine zs_get (v := .int (h3.1 19 5)) C 19 5 rfl rfl rfl rfl ki_Ps (by decide) kw206 kd_Ps_statement_152 rfl ?_
  obtain ⟨h5, c4, e⟩ := zd_b e
  refine zs_callV (k := 19) (rn := { frames := 0, cells := 0, slots := 0, locals := 0 }) (As := [.int (h3.1 19 5)]) (rest := []) C (zc_Ps_take h3 (h3.1 19 5) c4) ku_Ps_take kw876 kv_Ps_take rfl (zd_rmO (by decide) (by decide)) ⟨Nat.le_refl _, Nat.le_refl _⟩ rfl rfl rfl (Nat.le_of_ble_eq_true rfl) kd_Ps_statement_155 rfl (c1 := 0) (s1 := 0) rfl rfl (fun v w hp => ?_)
  obtain ⟨rfl, rfl⟩ := hp
  refine zk_stk (r' := []) rfl ?_
  refine zk_iload_n C kd_Ps_statement_158 rfl 0 rfl rfl ?_
  exact zk_iret C hR kd_Ps_statement_159 rfl rfl (zd_rIS e)
set_option maxHeartbeats 4000000 in
set_option maxRecDepth 100000 in
theorem zb_Ps_statement_103 {X : zkj_T} {S : zs_T} {P : ze_T} {l : Launch} {D : va_G} {sz0 : Nat} {d : Nat} {rv : Int32} {rh : zs_H} (C : zk_C X km_Ps_statement (zs_G S l D sz0) { frames := 405 + (d + 1), cells := 0, slots := 0, locals := 10119 + 25 * (d + 1) } (ze_E P)) (hR : zkj_R X (zd_PI S rv rh) (some .int)) (h : zs_H) (y0 : Int32) (e : f_Ps_statement_103 h y0 = some (rv, rh)) : zk_Ab X (zs_W S h) 0 0 103 [(0, .ref (S.1 19))] [.int y0] := by
  unfold f_Ps_statement_103 at e
  refine zk_istore_n (lv' := [(1, _), (0, _)]) C kd_Ps_statement_103 rfl (by decide) rfl rfl ?_
  refine zk_iload_n C kd_Ps_statement_104 rfl 0 rfl rfl ?_
  refine zk_if_eq (tgt := 115) C kd_Ps_statement_105 (by decide) rfl (fun b1 => ?_) (fun b1 => ?_)
  · replace e := zd_pos b1 e
    refine zk_aload_n C kd_Ps_statement_115 rfl 1 rfl rfl ?_
    obtain ⟨v3, h4, c2, e⟩ := zd_Be e
    refine zs_callV (k := 19) (rn := { frames := 404, cells := 0, slots := 0, locals := 10094 }) (As := []) (rest := []) C (zc_Ps_assignment h c2) ku_Ps_assignment kw990 kv_Ps_assignment rfl (zd_rmO (by decide) (by decide)) ⟨Nat.le_refl _, Nat.le_refl _⟩ rfl rfl rfl (Nat.le_of_ble_eq_true rfl) kd_Ps_statement_116 rfl (c1 := 0) (s1 := 0) rfl rfl (fun v w hp => ?_)
    obtain ⟨rfl, rfl⟩ := hp
    refine zk_stk (r' := [.int v3]) rfl ?_
    exact zk_iret C hR kd_Ps_statement_119 rfl rfl (zd_rIS e)
  · replace e := zd_neg b1 e
    refine zk_aload_n C kd_Ps_statement_108 rfl 1 rfl rfl ?_
    obtain ⟨v6, h7, c5, e⟩ := zd_Be e
    refine zs_callV (k := 19) (rn := { frames := 404, cells := 0, slots := 0, locals := 10094 }) (As := []) (rest := []) C (zc_Ps_invocation h c5) ku_Ps_invocation kw986 kv_Ps_invocation rfl (zd_rmO (by decide) (by decide)) ⟨Nat.le_refl _, Nat.le_refl _⟩ rfl rfl rfl (Nat.le_of_ble_eq_true rfl) kd_Ps_statement_109 rfl (c1 := 0) (s1 := 0) rfl rfl (fun v w hp => ?_)
    obtain ⟨rfl, rfl⟩ := hp
    refine zk_stk (r' := [.int v6]) rfl ?_
    refine zk_goto (tgt := 119) C kd_Ps_statement_112 (by decide) ?_
    exact zk_iret C hR kd_Ps_statement_119 rfl rfl (zd_rIS e)
set_option maxHeartbeats 4000000 in
set_option maxRecDepth 100000 in
theorem zb_Ps_statement_102 {X : zkj_T} {S : zs_T} {P : ze_T} {l : Launch} {D : va_G} {sz0 : Nat} {d : Nat} {rv : Int32} {rh : zs_H} (C : zk_C X km_Ps_statement (zs_G S l D sz0) { frames := 405 + (d + 1), cells := 0, slots := 0, locals := 10119 + 25 * (d + 1) } (ze_E P)) (hR : zkj_R X (zd_PI S rv rh) (some .int)) (h : zs_H) (e : f_Ps_statement_102 h = some (rv, rh)) : zk_Ab X (zs_W S h) 0 0 102 [(0, .ref (S.1 19))] [] := by
  unfold f_Ps_statement_102 at e
  refine zk_iconst (v := 0) C kd_Ps_statement_102 (by decide) rfl ?_
  refine zk_lvs (lv' := [(0, .ref (S.1 19))]) [0] rfl ?_
  exact zb_Ps_statement_103 C hR h 0 e
set_option maxHeartbeats 4000000 in
set_option maxRecDepth 100000 in
theorem zg_Ps_statement {l : Launch} {D : va_G} {sz0 : Nat} {S : zs_T} {P : ze_T} {d : Nat} {r_Ps_caseStatement : zs_H → (Option (Int32 × zs_H))} (hr_Ps_caseStatement : ∀ (h : zs_H) {rv : Int32} {rh : zs_H}, r_Ps_caseStatement h = some (rv, rh) → zk_Sp (zs_G S l D sz0) (ze_E P) km_Ps_caseStatement { frames := 405 + d, cells := 0, slots := 0, locals := 10119 + 25 * d } [.ref (S.1 19)] (zs_W S h) (zd_PI S rv rh)) {r_Ps_forStatement : zs_H → (Option (Int32 × zs_H))} (hr_Ps_forStatement : ∀ (h : zs_H) {rv : Int32} {rh : zs_H}, r_Ps_forStatement h = some (rv, rh) → zk_Sp (zs_G S l D sz0) (ze_E P) km_Ps_forStatement { frames := 405 + d, cells := 0, slots := 0, locals := 10119 + 25 * d } [.ref (S.1 19)] (zs_W S h) (zd_PI S rv rh)) {r_Ps_ifStatement : zs_H → (Option (Int32 × zs_H))} (hr_Ps_ifStatement : ∀ (h : zs_H) {rv : Int32} {rh : zs_H}, r_Ps_ifStatement h = some (rv, rh) → zk_Sp (zs_G S l D sz0) (ze_E P) km_Ps_ifStatement { frames := 405 + d, cells := 0, slots := 0, locals := 10119 + 25 * d } [.ref (S.1 19)] (zs_W S h) (zd_PI S rv rh)) (h : zs_H) {rv : Int32} {rh : zs_H} (e : g_Ps_statement r_Ps_caseStatement r_Ps_forStatement r_Ps_ifStatement h = some (rv, rh)) : zk_Sp (zs_G S l D sz0) (ze_E P) km_Ps_statement { frames := 405 + (d + 1), cells := 0, slots := 0, locals := 10119 + 25 * (d + 1) } [.ref (S.1 19)] (zs_W S h) (zd_PI S rv rh) := by
  refine zk_met ku_Ps_statement (Nat.le_of_ble_eq_true rfl) (ze_Em P) ?_
  intro X C hR
  refine zk_lvs (lv' := [(0, .ref (S.1 19))]) [0] rfl ?_
  unfold g_Ps_statement at e
  refine zk_aload_n C kd_Ps_statement_0 rfl 0 rfl rfl ?_
  refine zs_get (v := .int (h.1 19 5)) C 19 5 rfl rfl rfl rfl ki_Ps (by decide) kw206 kd_Ps_statement_1 rfl ?_
  by_cases b1 : (h.1 19 5) = 8
  · replace e := zd_pos b1 e
    refine zk_lookup (tgt := 63) C kd_Ps_statement_4 (by decide) (by rw [b1]) (by decide) ?_
    refine zk_aload_n C kd_Ps_statement_63 rfl 0 rfl rfl ?_
    refine zs_get (v := .int (h.1 19 4)) C 19 4 rfl rfl rfl rfl ki_Ps (by decide) kw205 kd_Ps_statement_64 rfl ?_
    refine zk_iconst (v := 1) C kd_Ps_statement_67 (by decide) rfl ?_
    refine zk_iadd C kd_Ps_statement_68 rfl ?_
    refine zk_aload_n C kd_Ps_statement_69 rfl 0 rfl rfl ?_
    refine zs_get (v := .ref (S.1 8)) C 19 1 rfl rfl rfl rfl ki_Ps (by decide) kw202 kd_Ps_statement_70 rfl ?_
    refine zs_get (v := .int (h.1 8 3)) C 8 3 rfl rfl rfl rfl ki_Tk (by decide) kw125 kd_Ps_statement_73 rfl ?_
    refine zk_icmp_ge (tgt := 102) C kd_Ps_statement_76 (by decide) rfl (fun b2 => ?_) (fun b2 => ?_)
    · replace e := zd_pos b2 e
      refine zk_lvs (lv' := [(0, .ref (S.1 19))]) [0] rfl ?_
      exact zb_Ps_statement_102 C hR h e
    · replace e := zd_neg b2 e
      refine zk_aload_n C kd_Ps_statement_79 rfl 0 rfl rfl ?_
      refine zs_get (v := .ref (S.1 8)) C 19 1 rfl rfl rfl rfl ki_Ps (by decide) kw202 kd_Ps_statement_80 rfl ?_
      refine zs_get (v := .ref (S.1 9)) C 8 0 rfl rfl rfl rfl ki_Tk (by decide) kw119 kd_Ps_statement_83 rfl ?_
      refine zk_aload_n C kd_Ps_statement_86 rfl 0 rfl rfl ?_
      refine zs_get (v := .int (h.1 19 4)) C 19 4 rfl rfl rfl rfl ki_Ps (by decide) kw205 kd_Ps_statement_87 rfl ?_
      refine zk_iconst (v := 1) C kd_Ps_statement_90 (by decide) rfl ?_
      refine zk_iadd C kd_Ps_statement_91 rfl ?_
      obtain ⟨q3, e⟩ := zd_g e
      refine zs_cald C 9 rfl (zd_vp q3) kd_Ps_statement_92 rfl ?_
      refine zk_bipush (v := 40) C kd_Ps_statement_93 (by decide) rfl ?_
      refine zk_icmp_ne (tgt := 102) C kd_Ps_statement_95 (by decide) rfl (fun b4 => ?_) (fun b4 => ?_)
      · replace e := zd_neg b4 e
        refine zk_lvs (lv' := [(0, .ref (S.1 19))]) [0] rfl ?_
        exact zb_Ps_statement_102 C hR h e
      · replace e := zd_pos b4 e
        refine zk_iconst (v := 1) C kd_Ps_statement_98 (by decide) rfl ?_
        refine zk_goto (tgt := 103) C kd_Ps_statement_99 (by decide) ?_
        refine zk_lvs (lv' := [(0, .ref (S.1 19))]) [0] rfl ?_
        exact zb_Ps_statement_103 C hR h 1 e
  replace e := zd_neg b1 e
  by_cases b5 : (h.1 19 5) = 144
  · replace e := zd_pos b5 e
    refine zk_lookup (tgt := 48) C kd_Ps_statement_4 (by decide) (by rw [b5]) (by decide) ?_
    refine zk_aload_n C kd_Ps_statement_48 rfl 0 rfl rfl ?_
    obtain ⟨v7, h8, c6, e⟩ := zd_Be e
    refine zs_callV (k := 19) (rn := { frames := 405 + d, cells := 0, slots := 0, locals := 10119 + 25 * d }) (As := []) (rest := []) C (hr_Ps_ifStatement h c6) ku_Ps_ifStatement kw940 kv_Ps_ifStatement rfl (zd_rmI (by decide)) ⟨Nat.le_refl _, Nat.le_refl _⟩ rfl rfl rfl (Nat.le_of_ble_eq_true rfl) kd_Ps_statement_49 rfl (c1 := 0) (s1 := 0) rfl rfl (fun v w hp => ?_)
    obtain ⟨rfl, rfl⟩ := hp
    refine zk_stk (r' := [.int v7]) rfl ?_
    exact zk_iret C hR kd_Ps_statement_52 rfl rfl (zd_rIS e)
  replace e := zd_neg b5 e
  by_cases b9 : (h.1 19 5) = 149
  · replace e := zd_pos b9 e
    refine zk_lookup (tgt := 53) C kd_Ps_statement_4 (by decide) (by rw [b9]) (by decide) ?_
    refine zk_aload_n C kd_Ps_statement_53 rfl 0 rfl rfl ?_
    obtain ⟨v11, h12, c10, e⟩ := zd_Be e
    refine zs_callV (k := 19) (rn := { frames := 405 + d, cells := 0, slots := 0, locals := 10119 + 25 * d }) (As := []) (rest := []) C (hr_Ps_caseStatement h c10) ku_Ps_caseStatement kw970 kv_Ps_caseStatement rfl (zd_rmI (by decide)) ⟨Nat.le_refl _, Nat.le_refl _⟩ rfl rfl rfl (Nat.le_of_ble_eq_true rfl) kd_Ps_statement_54 rfl (c1 := 0) (s1 := 0) rfl rfl (fun v w hp => ?_)
    obtain ⟨rfl, rfl⟩ := hp
    refine zk_stk (r' := [.int v11]) rfl ?_
    exact zk_iret C hR kd_Ps_statement_57 rfl rfl (zd_rIS e)
  replace e := zd_neg b9 e
  by_cases b13 : (h.1 19 5) = 151
  · replace e := zd_pos b13 e
    refine zk_lookup (tgt := 58) C kd_Ps_statement_4 (by decide) (by rw [b13]) (by decide) ?_
    refine zk_aload_n C kd_Ps_statement_58 rfl 0 rfl rfl ?_
    obtain ⟨v15, h16, c14, e⟩ := zd_Be e
    refine zs_callV (k := 19) (rn := { frames := 405 + d, cells := 0, slots := 0, locals := 10119 + 25 * d }) (As := []) (rest := []) C (hr_Ps_forStatement h c14) ku_Ps_forStatement kw982 kv_Ps_forStatement rfl (zd_rmI (by decide)) ⟨Nat.le_refl _, Nat.le_refl _⟩ rfl rfl rfl (Nat.le_of_ble_eq_true rfl) kd_Ps_statement_59 rfl (c1 := 0) (s1 := 0) rfl rfl (fun v w hp => ?_)
    obtain ⟨rfl, rfl⟩ := hp
    refine zk_stk (r' := [.int v15]) rfl ?_
    exact zk_iret C hR kd_Ps_statement_62 rfl rfl (zd_rIS e)
  replace e := zd_neg b13 e
  refine zk_lookup (tgt := 120) C kd_Ps_statement_4 (by decide) (zd_lk (by show _ ∉ ([8, 144, 149, 151] : List Int); have n0 := lv_neT b1 (a := 8) (by decide); have n1 := lv_neT b5 (a := 144) (by decide); have n2 := lv_neT b9 (a := 149) (by decide); have n3 := lv_neT b13 (a := 151) (by decide); simp only [List.mem_cons, List.not_mem_nil, or_false, not_or]; exact ⟨n0, n1, n2, n3⟩)) (by decide) ?_
  refine zk_aload_n C kd_Ps_statement_120 rfl 0 rfl rfl ?_
  refine zs_get (v := .ref (S.1 12)) C 19 2 rfl rfl rfl rfl ki_Ps (by decide) kw203 kd_Ps_statement_121 rfl ?_
  refine zk_aload_n C kd_Ps_statement_124 rfl 0 rfl rfl ?_
  refine zs_get (v := .int (h.1 19 5)) C 19 5 rfl rfl rfl rfl ki_Ps (by decide) kw206 kd_Ps_statement_125 rfl ?_
  refine zk_sipush (v := 156) C kd_Ps_statement_128 (by decide) rfl ?_
  refine zk_icmp_ne (tgt := 139) C kd_Ps_statement_131 (by decide) rfl (fun b17 => ?_) (fun b17 => ?_)
  · replace e := zd_neg b17 e
    refine zk_bipush (v := 21) C kd_Ps_statement_139 (by decide) rfl ?_
    refine zk_lvs (lv' := [(0, .ref (S.1 19))]) [0] rfl ?_
    exact zb_Ps_statement_141 C hR h 21 e
  · replace e := zd_pos b17 e
    refine zk_bipush (v := 20) C kd_Ps_statement_134 (by decide) rfl ?_
    refine zk_goto (tgt := 141) C kd_Ps_statement_136 (by decide) ?_
    refine zk_lvs (lv' := [(0, .ref (S.1 19))]) [0] rfl ?_
    exact zb_Ps_statement_141 C hR h 20 e
set_option maxHeartbeats 4000000 in
set_option maxRecDepth 100000 in
theorem zb_Ps_statements_56 {X : zkj_T} {S : zs_T} {P : ze_T} {l : Launch} {D : va_G} {sz0 : Nat} {d : Nat} {rv : Int32} {rh : zs_H} (C : zk_C X km_Ps_statements (zs_G S l D sz0) { frames := 405 + (d + 1), cells := 0, slots := 0, locals := 10119 + 25 * (d + 1) } (ze_E P)) (hR : zkj_R X (zd_PI S rv rh) (some .int)) {r_Ps_statement : zs_H → (Option (Int32 × zs_H))} (hr_Ps_statement : ∀ (h : zs_H) {rv : Int32} {rh : zs_H}, r_Ps_statement h = some (rv, rh) → zk_Sp (zs_G S l D sz0) (ze_E P) km_Ps_statement { frames := 405 + d, cells := 0, slots := 0, locals := 10119 + 25 * d } [.ref (S.1 19)] (zs_W S h) (zd_PI S rv rh)) {k19 : zs_H → Int32 → Int32 → Int32 → (Option (Int32 × zs_H))} (hk19 : ∀ (h : zs_H) (x1 : Int32) (x2 : Int32) (x3 : Int32), k19 h x1 x2 x3 = some (rv, rh) → zk_Ab X (zs_W S h) 0 0 19 [(0, .ref (S.1 19)), (1, .int x1), (2, .int x2), (3, .int x3)] []) (h : zs_H) (x1 : Int32) (x2 : Int32) (x3 : Int32) (e : f_Ps_statements_56 r_Ps_statement k19 h x1 x2 x3 = some (rv, rh)) : zk_Ab X (zs_W S h) 0 0 56 [(0, .ref (S.1 19)), (1, .int x1), (2, .int x2), (3, .int x3)] [] := by
  unfold f_Ps_statements_56 at e
  refine zk_aload_n C kd_Ps_statements_56 rfl 0 rfl rfl ?_
  refine zk_bipush (v := 59) C kd_Ps_statements_57 (by decide) rfl ?_
  obtain ⟨h2, c1, e⟩ := zd_b e
  refine zs_callV (k := 19) (rn := { frames := 0, cells := 0, slots := 0, locals := 0 }) (As := [.int 59]) (rest := []) C (zc_Ps_take h 59 c1) ku_Ps_take kw876 kv_Ps_take rfl (zd_rmO (by decide) (by decide)) ⟨Nat.le_refl _, Nat.le_refl _⟩ rfl rfl rfl (Nat.le_of_ble_eq_true rfl) kd_Ps_statements_59 rfl (c1 := 0) (s1 := 0) rfl rfl (fun v w hp => ?_)
  obtain ⟨rfl, rfl⟩ := hp
  refine zk_stk (r' := []) rfl ?_
  refine zk_iinc (v := (x3 + 1)) (lv' := [(3, _), (0, _), (1, _), (2, _)]) C kd_Ps_statements_62 3 rfl rfl (by decide) rfl rfl ?_
  refine zk_goto (tgt := 19) C kd_Ps_statements_65 (by decide) ?_
  refine zk_lvs (lv' := [(0, .ref (S.1 19)), (1, .int x1), (2, .int x2), (3, .int (x3 + 1))]) [1, 2, 3, 0] rfl ?_
  exact hk19 h2 x1 x2 (x3 + 1) e
set_option maxHeartbeats 4000000 in
set_option maxRecDepth 100000 in
theorem zb_Ps_statements_19 {X : zkj_T} {S : zs_T} {P : ze_T} {l : Launch} {D : va_G} {sz0 : Nat} {d : Nat} {rv : Int32} {rh : zs_H} (C : zk_C X km_Ps_statements (zs_G S l D sz0) { frames := 405 + (d + 1), cells := 0, slots := 0, locals := 10119 + 25 * (d + 1) } (ze_E P)) (hR : zkj_R X (zd_PI S rv rh) (some .int)) {r_Ps_statement : zs_H → (Option (Int32 × zs_H))} (hr_Ps_statement : ∀ (h : zs_H) {rv : Int32} {rh : zs_H}, r_Ps_statement h = some (rv, rh) → zk_Sp (zs_G S l D sz0) (ze_E P) km_Ps_statement { frames := 405 + d, cells := 0, slots := 0, locals := 10119 + 25 * d } [.ref (S.1 19)] (zs_W S h) (zd_PI S rv rh)) {k19 : zs_H → Int32 → Int32 → Int32 → (Option (Int32 × zs_H))} (hk19 : ∀ (h : zs_H) (x1 : Int32) (x2 : Int32) (x3 : Int32), k19 h x1 x2 x3 = some (rv, rh) → zk_Ab X (zs_W S h) 0 0 19 [(0, .ref (S.1 19)), (1, .int x1), (2, .int x2), (3, .int x3)] []) (h : zs_H) (x1 : Int32) (x2 : Int32) (x3 : Int32) (e : f_Ps_statements_19 r_Ps_statement k19 h x1 x2 x3 = some (rv, rh)) : zk_Ab X (zs_W S h) 0 0 19 [(0, .ref (S.1 19)), (1, .int x1), (2, .int x2), (3, .int x3)] [] := by
  unfold f_Ps_statements_19 at e
  refine zk_iload_n C kd_Ps_statements_19 rfl 3 rfl rfl ?_
  refine zk_sipush (v := 16384) C kd_Ps_statements_20 (by decide) rfl ?_
  refine zk_icmp_ge (tgt := 68) C kd_Ps_statements_23 (by decide) rfl (fun b1 => ?_) (fun b1 => ?_)
  · replace e := zd_pos b1 e
    refine zk_iload_n C kd_Ps_statements_68 rfl 1 rfl rfl ?_
    exact zk_iret C hR kd_Ps_statements_69 rfl rfl (zd_rIS e)
  · replace e := zd_neg b1 e
    refine zk_aload_n C kd_Ps_statements_26 rfl 0 rfl rfl ?_
    refine zs_callV (k := 19) (rn := { frames := 0, cells := 0, slots := 0, locals := 0 }) (As := []) (rest := []) C (zc_Ps_isStatement h) ku_Ps_isStatement kw932 kv_Ps_isStatement rfl (zd_rmO (by decide) (by decide)) ⟨Nat.le_refl _, Nat.le_refl _⟩ rfl rfl rfl (Nat.le_of_ble_eq_true rfl) kd_Ps_statements_27 rfl (c1 := 0) (s1 := 0) rfl rfl (fun v w hp => ?_)
    obtain ⟨rfl, rfl, z2⟩ := hp
    refine zk_stk (r' := [.int (f_Ps_isStatement h)]) rfl ?_
    refine zk_if_eq (tgt := 68) C kd_Ps_statements_30 (by decide) rfl (fun b3 => ?_) (fun b3 => ?_)
    · replace e := zd_pos b3 e
      refine zk_iload_n C kd_Ps_statements_68 rfl 1 rfl rfl ?_
      exact zk_iret C hR kd_Ps_statements_69 rfl rfl (zd_rIS e)
    · replace e := zd_neg b3 e
      refine zk_aload_n C kd_Ps_statements_33 rfl 0 rfl rfl ?_
      refine zs_get (v := .int (h.1 19 5)) C 19 5 rfl rfl rfl rfl ki_Ps (by decide) kw206 kd_Ps_statements_34 rfl ?_
      refine zk_bipush (v := 59) C kd_Ps_statements_37 (by decide) rfl ?_
      refine zk_icmp_eq (tgt := 56) C kd_Ps_statements_39 (by decide) rfl (fun b4 => ?_) (fun b4 => ?_)
      · replace e := zd_pos b4 e
        refine zk_lvs (lv' := [(0, .ref (S.1 19)), (1, .int x1), (2, .int x2), (3, .int x3)]) [0, 1, 2, 3] rfl ?_
        exact zb_Ps_statements_56 C hR hr_Ps_statement hk19 h x1 x2 x3 e
      · replace e := zd_neg b4 e
        refine zk_aload_n C kd_Ps_statements_42 rfl 0 rfl rfl ?_
        refine zs_get (v := .ref (S.1 12)) C 19 2 rfl rfl rfl rfl ki_Ps (by decide) kw203 kd_Ps_statements_43 rfl ?_
        refine zk_iload_n C kd_Ps_statements_46 rfl 1 rfl rfl ?_
        refine zk_iload_n C kd_Ps_statements_47 rfl 2 rfl rfl ?_
        refine zk_aload_n C kd_Ps_statements_48 rfl 0 rfl rfl ?_
        obtain ⟨v6, h7, c5, e⟩ := zd_Be e
        refine zs_callV (k := 19) (rn := { frames := 405 + d, cells := 0, slots := 0, locals := 10119 + 25 * d }) (As := []) (rest := [.int x2, .int x1, .ref (S.1 12)]) C (hr_Ps_statement h c5) ku_Ps_statement kw936 kv_Ps_statement rfl (zd_rmI (by decide)) ⟨Nat.le_refl _, Nat.le_refl _⟩ rfl rfl rfl (Nat.le_of_ble_eq_true rfl) kd_Ps_statements_49 rfl (c1 := 0) (s1 := 0) rfl rfl (fun v w hp => ?_)
        obtain ⟨rfl, rfl⟩ := hp
        refine zk_stk (r' := [.int v6, .int x2, .int x1, .ref (S.1 12)]) rfl ?_
        obtain ⟨v9, h10, c8, e⟩ := zd_Be e
        refine zs_callV (k := 12) (rn := { frames := 0, cells := 0, slots := 0, locals := 0 }) (As := [.int x1, .int x2, .int v6]) (rest := []) C (zc_Tr_hang h7 x1 x2 v6 c8) ku_Tr_hang kw884 kv_Tr_hang rfl (zd_rmO (by decide) (by decide)) ⟨Nat.le_refl _, Nat.le_refl _⟩ rfl rfl rfl (Nat.le_of_ble_eq_true rfl) kd_Ps_statements_52 rfl (c1 := 0) (s1 := 0) rfl rfl (fun v w hp => ?_)
        obtain ⟨rfl, rfl⟩ := hp
        refine zk_stk (r' := [.int v9]) rfl ?_
        refine zk_istore_n (lv' := [(2, _), (0, _), (1, _), (3, _)]) C kd_Ps_statements_55 rfl (by decide) rfl rfl ?_
        refine zk_lvs (lv' := [(0, .ref (S.1 19)), (1, .int x1), (2, .int v9), (3, .int x3)]) [1, 2, 0, 3] rfl ?_
        exact zb_Ps_statements_56 C hR hr_Ps_statement hk19 h10 x1 v9 x3 e
theorem zl_Ps_statements_19 {X : zkj_T} {S : zs_T} {P : ze_T} {l : Launch} {D : va_G} {sz0 : Nat} {d : Nat} {rv : Int32} {rh : zs_H} (C : zk_C X km_Ps_statements (zs_G S l D sz0) { frames := 405 + (d + 1), cells := 0, slots := 0, locals := 10119 + 25 * (d + 1) } (ze_E P)) (hR : zkj_R X (zd_PI S rv rh) (some .int)) {r_Ps_statement : zs_H → (Option (Int32 × zs_H))} (hr_Ps_statement : ∀ (h : zs_H) {rv : Int32} {rh : zs_H}, r_Ps_statement h = some (rv, rh) → zk_Sp (zs_G S l D sz0) (ze_E P) km_Ps_statement { frames := 405 + d, cells := 0, slots := 0, locals := 10119 + 25 * d } [.ref (S.1 19)] (zs_W S h) (zd_PI S rv rh)) (n : Nat) : ∀ (h : zs_H) (x1 : Int32) (x2 : Int32) (x3 : Int32), f_Ps_statements_L19 r_Ps_statement n h x1 x2 x3 = some (rv, rh) → zk_Ab X (zs_W S h) 0 0 19 [(0, .ref (S.1 19)), (1, .int x1), (2, .int x2), (3, .int x3)] [] := by
  induction n with
  | zero => intro h x1 x2 x3 e; exact zd_no e
  | succ n ih => intro h x1 x2 x3 e; exact zb_Ps_statements_19 (k19 := f_Ps_statements_L19 r_Ps_statement n) C hR hr_Ps_statement ih h x1 x2 x3 e
set_option maxHeartbeats 4000000 in
set_option maxRecDepth 100000 in
theorem zg_Ps_statements {l : Launch} {D : va_G} {sz0 : Nat} {S : zs_T} {P : ze_T} {d : Nat} {r_Ps_statement : zs_H → (Option (Int32 × zs_H))} (hr_Ps_statement : ∀ (h : zs_H) {rv : Int32} {rh : zs_H}, r_Ps_statement h = some (rv, rh) → zk_Sp (zs_G S l D sz0) (ze_E P) km_Ps_statement { frames := 405 + d, cells := 0, slots := 0, locals := 10119 + 25 * d } [.ref (S.1 19)] (zs_W S h) (zd_PI S rv rh)) (h : zs_H) {rv : Int32} {rh : zs_H} (e : g_Ps_statements r_Ps_statement h = some (rv, rh)) : zk_Sp (zs_G S l D sz0) (ze_E P) km_Ps_statements { frames := 405 + (d + 1), cells := 0, slots := 0, locals := 10119 + 25 * (d + 1) } [.ref (S.1 19)] (zs_W S h) (zd_PI S rv rh) := by
  refine zk_met ku_Ps_statements (Nat.le_of_ble_eq_true rfl) (ze_Em P) ?_
  intro X C hR
  refine zk_lvs (lv' := [(0, .ref (S.1 19))]) [0] rfl ?_
  unfold g_Ps_statements at e
  refine zk_aload_n C kd_Ps_statements_0 rfl 0 rfl rfl ?_
  refine zs_get (v := .ref (S.1 12)) C 19 2 rfl rfl rfl rfl ki_Ps (by decide) kw203 kd_Ps_statements_1 rfl ?_
  refine zk_bipush (v := 11) C kd_Ps_statements_4 (by decide) rfl ?_
  refine zk_aload_n C kd_Ps_statements_6 rfl 0 rfl rfl ?_
  refine zs_get (v := .int (h.1 19 6)) C 19 6 rfl rfl rfl rfl ki_Ps (by decide) kw207 kd_Ps_statements_7 rfl ?_
  refine zk_iconst (v := 0) C kd_Ps_statements_10 (by decide) rfl ?_
  obtain ⟨v2, h3, c1, e⟩ := zd_Be e
  refine zs_callV (k := 12) (rn := { frames := 1, cells := 0, slots := 0, locals := 23 }) (As := [.int 11, .int (h.1 19 6), .int 0]) (rest := []) C (zc_Tr_add h 11 (h.1 19 6) 0 c1) ku_Tr_add kw866 kv_Tr_add rfl (zd_rmO (by decide) (by decide)) ⟨Nat.le_refl _, Nat.le_refl _⟩ rfl rfl rfl (Nat.le_of_ble_eq_true rfl) kd_Ps_statements_11 rfl (c1 := 0) (s1 := 0) rfl rfl (fun v w hp => ?_)
  obtain ⟨rfl, rfl⟩ := hp
  refine zk_stk (r' := [.int v2]) rfl ?_
  refine zk_istore_n (lv' := [(1, _), (0, _)]) C kd_Ps_statements_14 rfl (by decide) rfl rfl ?_
  refine zk_iconst (v := (-1)) C kd_Ps_statements_15 (by decide) rfl ?_
  refine zk_istore_n (lv' := [(2, _), (1, _), (0, _)]) C kd_Ps_statements_16 rfl (by decide) rfl rfl ?_
  refine zk_iconst (v := 0) C kd_Ps_statements_17 (by decide) rfl ?_
  refine zk_istore_n (lv' := [(3, _), (2, _), (1, _), (0, _)]) C kd_Ps_statements_18 rfl (by decide) rfl rfl ?_
  refine zk_lvs (lv' := [(0, .ref (S.1 19)), (1, .int v2), (2, .int (-1)), (3, .int 0)]) [3, 2, 1, 0] rfl ?_
  exact zl_Ps_statements_19 C hR hr_Ps_statement zF h3 v2 (-1) 0 e
theorem zs_Ps_caseStatement {l : Launch} {D : va_G} {sz0 : Nat} {S : zs_T} {P : ze_T} (d : Nat) : (∀ (h : zs_H) {rv : Int32} {rh : zs_H}, f_Ps_caseStatement d h = some (rv, rh) → zk_Sp (zs_G S l D sz0) (ze_E P) km_Ps_caseStatement { frames := 405 + d, cells := 0, slots := 0, locals := 10119 + 25 * d } [.ref (S.1 19)] (zs_W S h) (zd_PI S rv rh)) ∧ (∀ (h : zs_H) {rv : Int32} {rh : zs_H}, f_Ps_forStatement d h = some (rv, rh) → zk_Sp (zs_G S l D sz0) (ze_E P) km_Ps_forStatement { frames := 405 + d, cells := 0, slots := 0, locals := 10119 + 25 * d } [.ref (S.1 19)] (zs_W S h) (zd_PI S rv rh)) ∧ (∀ (h : zs_H) {rv : Int32} {rh : zs_H}, f_Ps_ifStatement d h = some (rv, rh) → zk_Sp (zs_G S l D sz0) (ze_E P) km_Ps_ifStatement { frames := 405 + d, cells := 0, slots := 0, locals := 10119 + 25 * d } [.ref (S.1 19)] (zs_W S h) (zd_PI S rv rh)) ∧ (∀ (h : zs_H) {rv : Int32} {rh : zs_H}, f_Ps_statement d h = some (rv, rh) → zk_Sp (zs_G S l D sz0) (ze_E P) km_Ps_statement { frames := 405 + d, cells := 0, slots := 0, locals := 10119 + 25 * d } [.ref (S.1 19)] (zs_W S h) (zd_PI S rv rh)) ∧ (∀ (h : zs_H) {rv : Int32} {rh : zs_H}, f_Ps_statements d h = some (rv, rh) → zk_Sp (zs_G S l D sz0) (ze_E P) km_Ps_statements { frames := 405 + d, cells := 0, slots := 0, locals := 10119 + 25 * d } [.ref (S.1 19)] (zs_W S h) (zd_PI S rv rh)) := by
  induction d with
  | zero => exact ⟨(fun h _ _ e => zd_no e), (fun h _ _ e => zd_no e), (fun h _ _ e => zd_no e), (fun h _ _ e => zd_no e), (fun h _ _ e => zd_no e)⟩
  | succ d ih =>
    obtain ⟨q0, q1, q2, q3, q4⟩ := ih
    exact ⟨(fun h _ _ e => zg_Ps_caseStatement (r_Ps_statements := f_Ps_statements d) q4 h e), (fun h _ _ e => zg_Ps_forStatement (r_Ps_statements := f_Ps_statements d) q4 h e), (fun h _ _ e => zg_Ps_ifStatement (r_Ps_statements := f_Ps_statements d) q4 h e), (fun h _ _ e => zg_Ps_statement (r_Ps_caseStatement := f_Ps_caseStatement d) q0 (r_Ps_forStatement := f_Ps_forStatement d) q1 (r_Ps_ifStatement := f_Ps_ifStatement d) q2 h e), (fun h _ _ e => zg_Ps_statements (r_Ps_statement := f_Ps_statement d) q3 h e)⟩
theorem zc_Ps_caseStatement {l : Launch} {D : va_G} {sz0 : Nat} {S : zs_T} {P : ze_T} (h : zs_H) {rv : Int32} {rh : zs_H} (e : f_Ps_caseStatement 400 h = some (rv, rh)) : zk_Sp (zs_G S l D sz0) (ze_E P) km_Ps_caseStatement { frames := 405 + 400, cells := 0, slots := 0, locals := 10119 + 25 * 400 } [.ref (S.1 19)] (zs_W S h) (zd_PI S rv rh) := (zs_Ps_caseStatement 400).1 h e
theorem zc_Ps_forStatement {l : Launch} {D : va_G} {sz0 : Nat} {S : zs_T} {P : ze_T} (h : zs_H) {rv : Int32} {rh : zs_H} (e : f_Ps_forStatement 400 h = some (rv, rh)) : zk_Sp (zs_G S l D sz0) (ze_E P) km_Ps_forStatement { frames := 405 + 400, cells := 0, slots := 0, locals := 10119 + 25 * 400 } [.ref (S.1 19)] (zs_W S h) (zd_PI S rv rh) := (zs_Ps_caseStatement 400).2.1 h e
theorem zc_Ps_ifStatement {l : Launch} {D : va_G} {sz0 : Nat} {S : zs_T} {P : ze_T} (h : zs_H) {rv : Int32} {rh : zs_H} (e : f_Ps_ifStatement 400 h = some (rv, rh)) : zk_Sp (zs_G S l D sz0) (ze_E P) km_Ps_ifStatement { frames := 405 + 400, cells := 0, slots := 0, locals := 10119 + 25 * 400 } [.ref (S.1 19)] (zs_W S h) (zd_PI S rv rh) := (zs_Ps_caseStatement 400).2.2.1 h e
theorem zc_Ps_statement {l : Launch} {D : va_G} {sz0 : Nat} {S : zs_T} {P : ze_T} (h : zs_H) {rv : Int32} {rh : zs_H} (e : f_Ps_statement 400 h = some (rv, rh)) : zk_Sp (zs_G S l D sz0) (ze_E P) km_Ps_statement { frames := 405 + 400, cells := 0, slots := 0, locals := 10119 + 25 * 400 } [.ref (S.1 19)] (zs_W S h) (zd_PI S rv rh) := (zs_Ps_caseStatement 400).2.2.2.1 h e
theorem zc_Ps_statements {l : Launch} {D : va_G} {sz0 : Nat} {S : zs_T} {P : ze_T} (h : zs_H) {rv : Int32} {rh : zs_H} (e : f_Ps_statements 400 h = some (rv, rh)) : zk_Sp (zs_G S l D sz0) (ze_E P) km_Ps_statements { frames := 405 + 400, cells := 0, slots := 0, locals := 10119 + 25 * 400 } [.ref (S.1 19)] (zs_W S h) (zd_PI S rv rh) := (zs_Ps_caseStatement 400).2.2.2.2 h e
set_option maxHeartbeats 4000000 in
set_option maxRecDepth 100000 in
theorem zb_Ps_block_184 {X : zkj_T} {S : zs_T} {P : ze_T} {l : Launch} {D : va_G} {sz0 : Nat} {rv : Int32} {rh : zs_H} (C : zk_C X km_Ps_block (zs_G S l D sz0) { frames := 806, cells := 0, slots := 0, locals := 20142 } (ze_E P)) (hR : zkj_R X (zd_PI S rv rh) (some .int)) (h : zs_H) (x1 : Int32) (x3 : Int32) (y0 : Int32) (y1 : Int32) (y2 : Int32) (e : f_Ps_block_184 h x1 x3 y0 y1 y2 = some (rv, rh)) : zk_Ab X (zs_W S h) 0 0 184 [(0, .ref (S.1 19)), (1, .int x1), (3, .int x3)] [.int y0, .int y1, .int y2, .ref (S.1 12)] := by
  unfold f_Ps_block_184 at e
  obtain ⟨v2, h3, c1, e⟩ := zd_Be e
  refine zs_callV (k := 12) (rn := { frames := 0, cells := 0, slots := 0, locals := 0 }) (As := [.int y2, .int y1, .int y0]) (rest := []) C (zc_Tr_hang h y2 y1 y0 c1) ku_Tr_hang kw884 kv_Tr_hang rfl ⟨by decide, by decide⟩ ⟨by decide, by decide⟩ rfl rfl rfl (Nat.le_of_ble_eq_true rfl) kd_Ps_block_184 rfl (c1 := 0) (s1 := 0) rfl rfl (fun v w hp => ?_)
  obtain ⟨rfl, rfl⟩ := hp
  refine zk_stk (r' := [.int v2]) rfl ?_
  refine zk_pop C kd_Ps_block_187 rfl rfl ?_
  refine zk_aload_n C kd_Ps_block_188 rfl 0 rfl rfl ?_
  refine zk_iload_n C kd_Ps_block_189 rfl 1 rfl rfl ?_
  refine zk_iconst (v := 1) C kd_Ps_block_190 (by decide) rfl ?_
  refine zk_iadd C kd_Ps_block_191 rfl ?_
  obtain ⟨h5, c4, e⟩ := zd_b e
  refine zs_callV (k := 19) (rn := { frames := 0, cells := 0, slots := 0, locals := 0 }) (As := [.int (x1 + 1)]) (rest := []) C (zc_Ps_take h3 (x1 + 1) c4) ku_Ps_take kw876 kv_Ps_take rfl ⟨by decide, by decide⟩ ⟨by decide, by decide⟩ rfl rfl rfl (Nat.le_of_ble_eq_true rfl) kd_Ps_block_192 rfl (c1 := 0) (s1 := 0) rfl rfl (fun v w hp => ?_)
  obtain ⟨rfl, rfl⟩ := hp
  refine zk_stk (r' := []) rfl ?_
  refine zk_iload_n C kd_Ps_block_195 rfl 2 rfl rfl ?_
  exact zk_iret C hR kd_Ps_block_196 rfl rfl (zd_rIS e)
set_option maxHeartbeats 4000000 in
set_option maxRecDepth 100000 in
theorem zb_Ps_block_156 {X : zkj_T} {S : zs_T} {P : ze_T} {l : Launch} {D : va_G} {sz0 : Nat} {rv : Int32} {rh : zs_H} (C : zk_C X km_Ps_block (zs_G S l D sz0) { frames := 806, cells := 0, slots := 0, locals := 20142 } (ze_E P)) (hR : zkj_R X (zd_PI S rv rh) (some .int)) (h : zs_H) (x1 : Int32) (x3 : Int32) (x4 : Int32) (e : f_Ps_block_156 h x1 x3 x4 = some (rv, rh)) : zk_Ab X (zs_W S h) 0 0 156 [(0, .ref (S.1 19)), (1, .int x1), (3, .int x3), (4, .int x4)] [] := by
  unfold f_Ps_block_156 at e
  refine zk_aload_n C kd_Ps_block_156 rfl 0 rfl rfl ?_
  refine zs_get (v := .ref (S.1 12)) C 19 2 rfl rfl rfl rfl ki_Ps (by decide) kw203 kd_Ps_block_157 rfl ?_
  refine zk_iload_n C kd_Ps_block_160 rfl 2 rfl rfl ?_
  refine zk_iload C kd_Ps_block_161 3 rfl rfl ?_
  refine zk_aload_n C kd_Ps_block_163 rfl 0 rfl rfl ?_
  refine zs_get (v := .int (h.1 19 5)) C 19 5 rfl rfl rfl rfl ki_Ps (by decide) kw206 kd_Ps_block_164 rfl ?_
  refine zk_sipush (v := 165) C kd_Ps_block_167 (by decide) rfl ?_
  refine zk_icmp_ne (tgt := 180) C kd_Ps_block_170 (by decide) rfl (fun b1 => ?_) (fun b1 => ?_)
  · replace e := zd_neg b1 e
    refine zk_aload_n C kd_Ps_block_180 rfl 0 rfl rfl ?_
    obtain ⟨v3, h4, c2, e⟩ := zd_Be e
    refine zs_callV (k := 19) (rn := { frames := 405 + 400, cells := 0, slots := 0, locals := 10119 + 25 * 400 }) (As := []) (rest := [.int x4, .int x3, .ref (S.1 12)]) C (zc_Ps_statements h c2) ku_Ps_statements kw928 kv_Ps_statements rfl ⟨by decide, by decide⟩ ⟨by decide, by decide⟩ rfl rfl rfl (Nat.le_of_ble_eq_true rfl) kd_Ps_block_181 rfl (c1 := 0) (s1 := 0) rfl rfl (fun v w hp => ?_)
    obtain ⟨rfl, rfl⟩ := hp
    refine zk_stk (r' := [.int v3, .int x4, .int x3, .ref (S.1 12)]) rfl ?_
    refine zk_lvs (lv' := [(0, .ref (S.1 19)), (1, .int x1), (3, .int x3)]) [0, 1, 2] rfl ?_
    exact zb_Ps_block_184 C hR h4 x1 x3 v3 x4 x3 e
  · replace e := zd_pos b1 e
    refine zk_aload_n C kd_Ps_block_173 rfl 0 rfl rfl ?_
    obtain ⟨v6, h7, c5, e⟩ := zd_Be e
    refine zs_callV (k := 19) (rn := { frames := 5, cells := 0, slots := 0, locals := 113 }) (As := []) (rest := [.int x4, .int x3, .ref (S.1 12)]) C (zc_Ps_ladder h c5) ku_Ps_ladder kw908 kv_Ps_ladder rfl ⟨by decide, by decide⟩ ⟨by decide, by decide⟩ rfl rfl rfl (Nat.le_of_ble_eq_true rfl) kd_Ps_block_174 rfl (c1 := 0) (s1 := 0) rfl rfl (fun v w hp => ?_)
    obtain ⟨rfl, rfl⟩ := hp
    refine zk_stk (r' := [.int v6, .int x4, .int x3, .ref (S.1 12)]) rfl ?_
    refine zk_goto (tgt := 184) C kd_Ps_block_177 (by decide) ?_
    refine zk_lvs (lv' := [(0, .ref (S.1 19)), (1, .int x1), (3, .int x3)]) [0, 1, 2] rfl ?_
    exact zb_Ps_block_184 C hR h7 x1 x3 v6 x4 x3 e
set_option maxHeartbeats 4000000 in
set_option maxRecDepth 100000 in
theorem zb_Ps_block_119 {X : zkj_T} {S : zs_T} {P : ze_T} {l : Launch} {D : va_G} {sz0 : Nat} {rv : Int32} {rh : zs_H} (C : zk_C X km_Ps_block (zs_G S l D sz0) { frames := 806, cells := 0, slots := 0, locals := 20142 } (ze_E P)) (hR : zkj_R X (zd_PI S rv rh) (some .int)) {k119 : zs_H → Int32 → Int32 → Int32 → Int32 → (Option (Int32 × zs_H))} (hk119 : ∀ (h : zs_H) (x1 : Int32) (x3 : Int32) (x4 : Int32) (x5 : Int32), k119 h x1 x3 x4 x5 = some (rv, rh) → zk_Ab X (zs_W S h) 0 0 119 [(0, .ref (S.1 19)), (1, .int x1), (3, .int x3), (4, .int x4), (5, .int x5)] []) (h : zs_H) (x1 : Int32) (x3 : Int32) (x4 : Int32) (x5 : Int32) (e : f_Ps_block_119 k119 h x1 x3 x4 x5 = some (rv, rh)) : zk_Ab X (zs_W S h) 0 0 119 [(0, .ref (S.1 19)), (1, .int x1), (3, .int x3), (4, .int x4), (5, .int x5)] [] := by
  unfold f_Ps_block_119 at e
  refine zk_iload C kd_Ps_block_119 4 rfl rfl ?_
  refine zk_sipush (v := 16384) C kd_Ps_block_121 (by decide) rfl ?_
  refine zk_icmp_ge (tgt := 156) C kd_Ps_block_124 (by decide) rfl (fun b1 => ?_) (fun b1 => ?_)
  · replace e := zd_pos b1 e
    refine zk_lvs (lv' := [(0, .ref (S.1 19)), (1, .int x1), (3, .int x3), (4, .int x4)]) [0, 1, 2, 3] rfl ?_
    exact zb_Ps_block_156 C hR h x1 x3 x4 e
  · replace e := zd_neg b1 e
    refine zk_aload_n C kd_Ps_block_127 rfl 0 rfl rfl ?_
    refine zs_callV (k := 19) (rn := { frames := 0, cells := 0, slots := 0, locals := 0 }) (As := []) (rest := []) C (zc_Ps_isSection h) ku_Ps_isSection kw888 kv_Ps_isSection rfl ⟨by decide, by decide⟩ ⟨by decide, by decide⟩ rfl rfl rfl (Nat.le_of_ble_eq_true rfl) kd_Ps_block_128 rfl (c1 := 0) (s1 := 0) rfl rfl (fun v w hp => ?_)
    obtain ⟨rfl, rfl, z2⟩ := hp
    refine zk_stk (r' := [.int (f_Ps_isSection h)]) rfl ?_
    refine zk_if_eq (tgt := 156) C kd_Ps_block_131 (by decide) rfl (fun b3 => ?_) (fun b3 => ?_)
    · replace e := zd_pos b3 e
      refine zk_lvs (lv' := [(0, .ref (S.1 19)), (1, .int x1), (3, .int x3), (4, .int x4)]) [0, 1, 2, 3] rfl ?_
      exact zb_Ps_block_156 C hR h x1 x3 x4 e
    · replace e := zd_neg b3 e
      refine zk_aload_n C kd_Ps_block_134 rfl 0 rfl rfl ?_
      refine zs_get (v := .ref (S.1 12)) C 19 2 rfl rfl rfl rfl ki_Ps (by decide) kw203 kd_Ps_block_135 rfl ?_
      refine zk_iload_n C kd_Ps_block_138 rfl 2 rfl rfl ?_
      refine zk_iload C kd_Ps_block_139 3 rfl rfl ?_
      refine zk_aload_n C kd_Ps_block_141 rfl 0 rfl rfl ?_
      obtain ⟨v5, h6, c4, e⟩ := zd_Be e
      refine zs_callV (k := 19) (rn := { frames := 5, cells := 0, slots := 0, locals := 114 }) (As := []) (rest := [.int x4, .int x3, .ref (S.1 12)]) C (zc_Ps_section h c4) ku_Ps_section kw892 kv_Ps_section rfl ⟨by decide, by decide⟩ ⟨by decide, by decide⟩ rfl rfl rfl (Nat.le_of_ble_eq_true rfl) kd_Ps_block_142 rfl (c1 := 0) (s1 := 0) rfl rfl (fun v w hp => ?_)
      obtain ⟨rfl, rfl⟩ := hp
      refine zk_stk (r' := [.int v5, .int x4, .int x3, .ref (S.1 12)]) rfl ?_
      obtain ⟨v8, h9, c7, e⟩ := zd_Be e
      refine zs_callV (k := 12) (rn := { frames := 0, cells := 0, slots := 0, locals := 0 }) (As := [.int x3, .int x4, .int v5]) (rest := []) C (zc_Tr_hang h6 x3 x4 v5 c7) ku_Tr_hang kw884 kv_Tr_hang rfl ⟨by decide, by decide⟩ ⟨by decide, by decide⟩ rfl rfl rfl (Nat.le_of_ble_eq_true rfl) kd_Ps_block_145 rfl (c1 := 0) (s1 := 0) rfl rfl (fun v w hp => ?_)
      obtain ⟨rfl, rfl⟩ := hp
      refine zk_stk (r' := [.int v8]) rfl ?_
      refine zk_istore (lv' := [(4, _), (0, _), (1, _), (3, _), (5, _)]) C kd_Ps_block_148 (by decide) rfl rfl ?_
      refine zk_iinc (v := (x5 + 1)) (lv' := [(5, _), (4, _), (0, _), (1, _), (3, _)]) C kd_Ps_block_150 4 rfl rfl (by decide) rfl rfl ?_
      refine zk_goto (tgt := 119) C kd_Ps_block_153 (by decide) ?_
      refine zk_lvs (lv' := [(0, .ref (S.1 19)), (1, .int x1), (3, .int x3), (4, .int v8), (5, .int (x5 + 1))]) [2, 3, 4, 1, 0] rfl ?_
      exact hk119 h9 x1 x3 v8 (x5 + 1) e
theorem zl_Ps_block_119 {X : zkj_T} {S : zs_T} {P : ze_T} {l : Launch} {D : va_G} {sz0 : Nat} {rv : Int32} {rh : zs_H} (C : zk_C X km_Ps_block (zs_G S l D sz0) { frames := 806, cells := 0, slots := 0, locals := 20142 } (ze_E P)) (hR : zkj_R X (zd_PI S rv rh) (some .int)) (n : Nat) : ∀ (h : zs_H) (x1 : Int32) (x3 : Int32) (x4 : Int32) (x5 : Int32), f_Ps_block_L119 n h x1 x3 x4 x5 = some (rv, rh) → zk_Ab X (zs_W S h) 0 0 119 [(0, .ref (S.1 19)), (1, .int x1), (3, .int x3), (4, .int x4), (5, .int x5)] [] := by
  induction n with
  | zero => intro h x1 x3 x4 x5 e; exact zd_no e
  | succ n ih => intro h x1 x3 x4 x5 e; exact zb_Ps_block_119 (k119 := f_Ps_block_L119  n) C hR ih h x1 x3 x4 x5 e
set_option maxHeartbeats 4000000 in
set_option maxRecDepth 100000 in
theorem zb_Ps_block_116 {X : zkj_T} {S : zs_T} {P : ze_T} {l : Launch} {D : va_G} {sz0 : Nat} {rv : Int32} {rh : zs_H} (C : zk_C X km_Ps_block (zs_G S l D sz0) { frames := 806, cells := 0, slots := 0, locals := 20142 } (ze_E P)) (hR : zkj_R X (zd_PI S rv rh) (some .int)) (h : zs_H) (x1 : Int32) (x3 : Int32) (x4 : Int32) (e : f_Ps_block_116 h x1 x3 x4 = some (rv, rh)) : zk_Ab X (zs_W S h) 0 0 116 [(0, .ref (S.1 19)), (1, .int x1), (3, .int x3), (4, .int x4)] [] := by
  unfold f_Ps_block_116 at e
  refine zk_iconst (v := 0) C kd_Ps_block_116 (by decide) rfl ?_
  refine zk_istore (lv' := [(5, _), (0, _), (1, _), (3, _), (4, _)]) C kd_Ps_block_117 (by decide) rfl rfl ?_
  refine zk_lvs (lv' := [(0, .ref (S.1 19)), (1, .int x1), (3, .int x3), (4, .int x4), (5, .int 0)]) [1, 2, 3, 4, 0] rfl ?_
  exact zl_Ps_block_119 C hR zF h x1 x3 x4 0 e
set_option maxHeartbeats 4000000 in
set_option maxRecDepth 100000 in
theorem zb_Ps_block_56 {X : zkj_T} {S : zs_T} {P : ze_T} {l : Launch} {D : va_G} {sz0 : Nat} {rv : Int32} {rh : zs_H} (C : zk_C X km_Ps_block (zs_G S l D sz0) { frames := 806, cells := 0, slots := 0, locals := 20142 } (ze_E P)) (hR : zkj_R X (zd_PI S rv rh) (some .int)) (h : zs_H) (x1 : Int32) (x2 : Int32) (x3 : Int32) (y0 : Int32) (e : f_Ps_block_56 h x1 x2 x3 y0 = some (rv, rh)) : zk_Ab X (zs_W S h) 0 0 56 [(0, .ref (S.1 19)), (1, .int x1), (2, .int x2), (3, .int x3)] [.int y0, .ref (S.1 19)] := by
  unfold f_Ps_block_56 at e
  obtain ⟨h2, c1, e⟩ := zd_b e
  refine zs_callV (k := 19) (rn := { frames := 0, cells := 0, slots := 0, locals := 0 }) (As := [.int y0]) (rest := []) C (zc_Ps_take h y0 c1) ku_Ps_take kw876 kv_Ps_take rfl ⟨by decide, by decide⟩ ⟨by decide, by decide⟩ rfl rfl rfl (Nat.le_of_ble_eq_true rfl) kd_Ps_block_56 rfl (c1 := 0) (s1 := 0) rfl rfl (fun v w hp => ?_)
  obtain ⟨rfl, rfl⟩ := hp
  refine zk_stk (r' := []) rfl ?_
  refine zk_aload_n C kd_Ps_block_59 rfl 0 rfl rfl ?_
  refine zs_get (v := .ref (S.1 12)) C 19 2 rfl rfl rfl rfl ki_Ps (by decide) kw203 kd_Ps_block_60 rfl ?_
  refine zs_get (v := .ref (S.1 16)) C 12 3 rfl rfl rfl rfl ki_Tr (by decide) kw166 kd_Ps_block_63 rfl ?_
  refine zk_iload_n C kd_Ps_block_66 rfl 3 rfl rfl ?_
  refine zk_aload_n C kd_Ps_block_67 rfl 0 rfl rfl ?_
  refine zs_get (v := .ref (S.1 8)) C 19 1 rfl rfl rfl rfl ki_Ps (by decide) kw202 kd_Ps_block_68 rfl ?_
  refine zs_get (v := .ref (S.1 11)) C 8 2 rfl rfl rfl rfl ki_Tk (by decide) kw123 kd_Ps_block_71 rfl ?_
  refine zk_aload_n C kd_Ps_block_74 rfl 0 rfl rfl ?_
  refine zs_get (v := .int (h2.1 19 4)) C 19 4 rfl rfl rfl rfl ki_Ps (by decide) kw205 kd_Ps_block_75 rfl ?_
  obtain ⟨q3, e⟩ := zd_g e
  refine zs_iald C 11 rfl (zd_vp q3) kd_Ps_block_78 rfl ?_
  obtain ⟨q4, e⟩ := zd_g e
  refine zs_iast C 16 rfl (zd_vp q4) kd_Ps_block_79 rfl ?_
  refine zk_aload_n C kd_Ps_block_80 rfl 0 rfl rfl ?_
  refine zk_bipush (v := 8) C kd_Ps_block_81 (by decide) rfl ?_
  obtain ⟨h6, c5, e⟩ := zd_b e
  refine zs_callV (k := 19) (rn := { frames := 0, cells := 0, slots := 0, locals := 0 }) (As := [.int 8]) (rest := []) C (zc_Ps_take (zs_uM h2 16 x3.toNatClampNeg (h2.2.1 11 (h2.1 19 4).toNatClampNeg)) 8 c5) ku_Ps_take kw876 kv_Ps_take rfl ⟨by decide, by decide⟩ ⟨by decide, by decide⟩ rfl rfl rfl (Nat.le_of_ble_eq_true rfl) kd_Ps_block_83 rfl (c1 := 0) (s1 := 0) rfl rfl (fun v w hp => ?_)
  obtain ⟨rfl, rfl⟩ := hp
  refine zk_stk (r' := []) rfl ?_
  refine zk_iconst (v := (-1)) C kd_Ps_block_86 (by decide) rfl ?_
  refine zk_istore (lv' := [(4, _), (0, _), (1, _), (2, _), (3, _)]) C kd_Ps_block_87 (by decide) rfl rfl ?_
  refine zk_iload_n C kd_Ps_block_89 rfl 3 rfl rfl ?_
  refine zk_iconst (v := 1) C kd_Ps_block_90 (by decide) rfl ?_
  refine zk_icmp_ne (tgt := 116) C kd_Ps_block_91 (by decide) rfl (fun b7 => ?_) (fun b7 => ?_)
  · replace e := zd_neg b7 e
    refine zk_lvs (lv' := [(0, .ref (S.1 19)), (1, .int x1), (3, .int x3), (4, .int (-1))]) [1, 2, 4, 0] rfl ?_
    exact zb_Ps_block_116 C hR h6 x1 x3 (-1) e
  · replace e := zd_pos b7 e
    refine zk_aload_n C kd_Ps_block_94 rfl 1 rfl rfl ?_
    refine zk_bipush (v := 58) C kd_Ps_block_95 (by decide) rfl ?_
    obtain ⟨h9, c8, e⟩ := zd_b e
    refine zs_callV (k := 19) (rn := { frames := 0, cells := 0, slots := 0, locals := 0 }) (As := [.int 58]) (rest := []) C (zc_Ps_take h6 58 c8) ku_Ps_take kw876 kv_Ps_take rfl ⟨by decide, by decide⟩ ⟨by decide, by decide⟩ rfl rfl rfl (Nat.le_of_ble_eq_true rfl) kd_Ps_block_97 rfl (c1 := 0) (s1 := 0) rfl rfl (fun v w hp => ?_)
    obtain ⟨rfl, rfl⟩ := hp
    refine zk_stk (r' := []) rfl ?_
    refine zk_aload_n C kd_Ps_block_100 rfl 1 rfl rfl ?_
    refine zs_get (v := .ref (S.1 12)) C 19 2 rfl rfl rfl rfl ki_Ps (by decide) kw203 kd_Ps_block_101 rfl ?_
    refine zk_iload_n C kd_Ps_block_104 rfl 4 rfl rfl ?_
    refine zk_iload C kd_Ps_block_105 0 rfl rfl ?_
    refine zk_aload_n C kd_Ps_block_107 rfl 1 rfl rfl ?_
    obtain ⟨v11, h12, c10, e⟩ := zd_Be e
    refine zs_callV (k := 19) (rn := { frames := 2, cells := 0, slots := 0, locals := 47 }) (As := []) (rest := [.int (-1), .int x3, .ref (S.1 12)]) C (zc_Ps_simpleType h9 c10) ku_Ps_simpleType kw880 kv_Ps_simpleType rfl ⟨by decide, by decide⟩ ⟨by decide, by decide⟩ rfl rfl rfl (Nat.le_of_ble_eq_true rfl) kd_Ps_block_108 rfl (c1 := 0) (s1 := 0) rfl rfl (fun v w hp => ?_)
    obtain ⟨rfl, rfl⟩ := hp
    refine zk_stk (r' := [.int v11, .int (-1), .int x3, .ref (S.1 12)]) rfl ?_
    obtain ⟨v14, h15, c13, e⟩ := zd_Be e
    refine zs_callV (k := 12) (rn := { frames := 0, cells := 0, slots := 0, locals := 0 }) (As := [.int x3, .int (-1), .int v11]) (rest := []) C (zc_Tr_hang h12 x3 (-1) v11 c13) ku_Tr_hang kw884 kv_Tr_hang rfl ⟨by decide, by decide⟩ ⟨by decide, by decide⟩ rfl rfl rfl (Nat.le_of_ble_eq_true rfl) kd_Ps_block_111 rfl (c1 := 0) (s1 := 0) rfl rfl (fun v w hp => ?_)
    obtain ⟨rfl, rfl⟩ := hp
    refine zk_stk (r' := [.int v14]) rfl ?_
    refine zk_istore (lv' := [(4, _), (0, _), (1, _), (2, _), (3, _)]) C kd_Ps_block_114 (by decide) rfl rfl ?_
    refine zk_lvs (lv' := [(0, .ref (S.1 19)), (1, .int x1), (3, .int x3), (4, .int v14)]) [1, 2, 4, 0] rfl ?_
    exact zb_Ps_block_116 C hR h15 x1 x3 v14 e
set_option maxHeartbeats 4000000 in
set_option maxRecDepth 100000 in
theorem zb_Ps_block_28 {X : zkj_T} {S : zs_T} {P : ze_T} {l : Launch} {D : va_G} {sz0 : Nat} {rv : Int32} {rh : zs_H} (C : zk_C X km_Ps_block (zs_G S l D sz0) { frames := 806, cells := 0, slots := 0, locals := 20142 } (ze_E P)) (hR : zkj_R X (zd_PI S rv rh) (some .int)) (h : zs_H) (x1 : Int32) (y0 : Int32) (e : f_Ps_block_28 h x1 y0 = some (rv, rh)) : zk_Ab X (zs_W S h) 0 0 28 [(0, .ref (S.1 19)), (1, .int x1)] [.int y0] := by
  unfold f_Ps_block_28 at e
  refine zk_istore_n (lv' := [(2, _), (0, _), (1, _)]) C kd_Ps_block_28 rfl (by decide) rfl rfl ?_
  refine zk_aload_n C kd_Ps_block_29 rfl 1 rfl rfl ?_
  refine zs_get (v := .ref (S.1 12)) C 19 2 rfl rfl rfl rfl ki_Ps (by decide) kw203 kd_Ps_block_30 rfl ?_
  refine zk_iload_n C kd_Ps_block_33 rfl 0 rfl rfl ?_
  refine zk_aload_n C kd_Ps_block_34 rfl 1 rfl rfl ?_
  refine zs_get (v := .int (h.1 19 6)) C 19 6 rfl rfl rfl rfl ki_Ps (by decide) kw207 kd_Ps_block_35 rfl ?_
  refine zk_iconst (v := 0) C kd_Ps_block_38 (by decide) rfl ?_
  obtain ⟨v2, h3, c1, e⟩ := zd_Be e
  refine zs_callV (k := 12) (rn := { frames := 1, cells := 0, slots := 0, locals := 23 }) (As := [.int y0, .int (h.1 19 6), .int 0]) (rest := []) C (zc_Tr_add h y0 (h.1 19 6) 0 c1) ku_Tr_add kw866 kv_Tr_add rfl ⟨by decide, by decide⟩ ⟨by decide, by decide⟩ rfl rfl rfl (Nat.le_of_ble_eq_true rfl) kd_Ps_block_39 rfl (c1 := 0) (s1 := 0) rfl rfl (fun v w hp => ?_)
  obtain ⟨rfl, rfl⟩ := hp
  refine zk_stk (r' := [.int v2]) rfl ?_
  refine zk_istore_n (lv' := [(3, _), (2, _), (0, _), (1, _)]) C kd_Ps_block_42 rfl (by decide) rfl rfl ?_
  refine zk_aload_n C kd_Ps_block_43 rfl 2 rfl rfl ?_
  refine zk_iload_n C kd_Ps_block_44 rfl 1 rfl rfl ?_
  refine zk_iconst (v := 3) C kd_Ps_block_45 (by decide) rfl ?_
  refine zk_icmp_ne (tgt := 55) C kd_Ps_block_46 (by decide) rfl (fun b4 => ?_) (fun b4 => ?_)
  · replace e := zd_neg b4 e
    refine zk_iload_n C kd_Ps_block_55 rfl 3 rfl rfl ?_
    refine zk_lvs (lv' := [(0, .ref (S.1 19)), (1, .int x1), (2, .int y0), (3, .int v2)]) [2, 3, 1, 0] rfl ?_
    exact zb_Ps_block_56 C hR h3 x1 y0 v2 x1 e
  · replace e := zd_pos b4 e
    refine zk_sipush (v := 132) C kd_Ps_block_49 (by decide) rfl ?_
    refine zk_goto (tgt := 56) C kd_Ps_block_52 (by decide) ?_
    refine zk_lvs (lv' := [(0, .ref (S.1 19)), (1, .int x1), (2, .int y0), (3, .int v2)]) [2, 3, 1, 0] rfl ?_
    exact zb_Ps_block_56 C hR h3 x1 y0 v2 132 e
set_option maxHeartbeats 4000000 in
set_option maxRecDepth 100000 in
theorem zc_Ps_block {l : Launch} {D : va_G} {sz0 : Nat} {S : zs_T} {P : ze_T} (h : zs_H) {rv : Int32} {rh : zs_H} (e : f_Ps_block h = some (rv, rh)) : zk_Sp (zs_G S l D sz0) (ze_E P) km_Ps_block { frames := 806, cells := 0, slots := 0, locals := 20142 } [.ref (S.1 19)] (zs_W S h) (zd_PI S rv rh) := by
  refine zk_met ku_Ps_block (Nat.le_of_ble_eq_true rfl) (ze_Em P) ?_
  intro X C hR
  refine zk_lvs (lv' := [(0, .ref (S.1 19))]) [0] rfl ?_
  unfold f_Ps_block at e
  refine zk_aload_n C kd_Ps_block_0 rfl 0 rfl rfl ?_
  refine zs_get (v := .int (h.1 19 5)) C 19 5 rfl rfl rfl rfl ki_Ps (by decide) kw206 kd_Ps_block_1 rfl ?_
  refine zk_istore_n (lv' := [(1, _), (0, _)]) C kd_Ps_block_4 rfl (by decide) rfl rfl ?_
  refine zk_iload_n C kd_Ps_block_5 rfl 0 rfl rfl ?_
  refine zk_sipush (v := 128) C kd_Ps_block_6 (by decide) rfl ?_
  refine zk_icmp_ne (tgt := 16) C kd_Ps_block_9 (by decide) rfl (fun b1 => ?_) (fun b1 => ?_)
  · replace e := zd_neg b1 e
    refine zk_iload_n C kd_Ps_block_16 rfl 0 rfl rfl ?_
    refine zk_sipush (v := 130) C kd_Ps_block_17 (by decide) rfl ?_
    refine zk_icmp_ne (tgt := 27) C kd_Ps_block_20 (by decide) rfl (fun b2 => ?_) (fun b2 => ?_)
    · replace e := zd_neg b2 e
      refine zk_iconst (v := 3) C kd_Ps_block_27 (by decide) rfl ?_
      refine zk_lvs (lv' := [(0, .ref (S.1 19)), (1, .int (h.1 19 5))]) [1, 0] rfl ?_
      exact zb_Ps_block_28 C hR h (h.1 19 5) 3 e
    · replace e := zd_pos b2 e
      refine zk_iconst (v := 2) C kd_Ps_block_23 (by decide) rfl ?_
      refine zk_goto (tgt := 28) C kd_Ps_block_24 (by decide) ?_
      refine zk_lvs (lv' := [(0, .ref (S.1 19)), (1, .int (h.1 19 5))]) [1, 0] rfl ?_
      exact zb_Ps_block_28 C hR h (h.1 19 5) 2 e
  · replace e := zd_pos b1 e
    refine zk_iconst (v := 1) C kd_Ps_block_12 (by decide) rfl ?_
    refine zk_goto (tgt := 28) C kd_Ps_block_13 (by decide) ?_
    refine zk_lvs (lv' := [(0, .ref (S.1 19)), (1, .int (h.1 19 5))]) [1, 0] rfl ?_
    exact zb_Ps_block_28 C hR h (h.1 19 5) 1 e
set_option maxHeartbeats 4000000 in
set_option maxRecDepth 100000 in
theorem zb_Ps_parse_107 {X : zkj_T} {S : zs_T} {P : ze_T} {l : Launch} {D : va_G} {sz0 : Nat} {rv : Int32} {rh : zs_H} (C : zk_C X km_Ps_parse (zs_G S l D sz0) { frames := 807, cells := 0, slots := 0, locals := 20167 } (ze_E P)) (hR : zkj_R X (zd_PI S rv rh) (some .int)) (h : zs_H) (e : f_Ps_parse_107 h = some (rv, rh)) : zk_Ab X (zs_W S h) 0 0 107 [(0, .ref (S.1 19))] [] := by
  unfold f_Ps_parse_107 at e
  refine zk_aload_n C kd_Ps_parse_107 rfl 0 rfl rfl ?_
  refine zs_get (v := .int (h.1 19 3)) C 19 3 rfl rfl rfl rfl ki_Ps (by decide) kw204 kd_Ps_parse_108 rfl ?_
  exact zk_iret C hR kd_Ps_parse_111 rfl rfl (zd_rIS e)
set_option maxHeartbeats 4000000 in
set_option maxRecDepth 100000 in
theorem zb_Ps_parse_64 {X : zkj_T} {S : zs_T} {P : ze_T} {l : Launch} {D : va_G} {sz0 : Nat} {rv : Int32} {rh : zs_H} (C : zk_C X km_Ps_parse (zs_G S l D sz0) { frames := 807, cells := 0, slots := 0, locals := 20167 } (ze_E P)) (hR : zkj_R X (zd_PI S rv rh) (some .int)) {k64 : zs_H → Int32 → Int32 → Int32 → (Option (Int32 × zs_H))} (hk64 : ∀ (h : zs_H) (x1 : Int32) (x2 : Int32) (x3 : Int32), k64 h x1 x2 x3 = some (rv, rh) → zk_Ab X (zs_W S h) 0 0 64 [(0, .ref (S.1 19)), (1, .int x1), (2, .int x2), (3, .int x3)] []) (h : zs_H) (x1 : Int32) (x2 : Int32) (x3 : Int32) (e : f_Ps_parse_64 k64 h x1 x2 x3 = some (rv, rh)) : zk_Ab X (zs_W S h) 0 0 64 [(0, .ref (S.1 19)), (1, .int x1), (2, .int x2), (3, .int x3)] [] := by
  unfold f_Ps_parse_64 at e
  refine zk_iload_n C kd_Ps_parse_64 rfl 3 rfl rfl ?_
  refine zk_sipush (v := 16384) C kd_Ps_parse_65 (by decide) rfl ?_
  refine zk_icmp_ge (tgt := 107) C kd_Ps_parse_68 (by decide) rfl (fun b1 => ?_) (fun b1 => ?_)
  · replace e := zd_pos b1 e
    refine zk_lvs (lv' := [(0, .ref (S.1 19))]) [0] rfl ?_
    exact zb_Ps_parse_107 C hR h e
  · replace e := zd_neg b1 e
    refine zk_aload_n C kd_Ps_parse_71 rfl 0 rfl rfl ?_
    refine zs_get (v := .int (h.1 19 5)) C 19 5 rfl rfl rfl rfl ki_Ps (by decide) kw206 kd_Ps_parse_72 rfl ?_
    refine zk_bipush (v := 6) C kd_Ps_parse_75 (by decide) rfl ?_
    refine zk_icmp_eq (tgt := 107) C kd_Ps_parse_77 (by decide) rfl (fun b2 => ?_) (fun b2 => ?_)
    · replace e := zd_pos b2 e
      refine zk_lvs (lv' := [(0, .ref (S.1 19))]) [0] rfl ?_
      exact zb_Ps_parse_107 C hR h e
    · replace e := zd_neg b2 e
      refine zk_aload_n C kd_Ps_parse_80 rfl 0 rfl rfl ?_
      refine zs_get (v := .int (h.1 19 3)) C 19 3 rfl rfl rfl rfl ki_Ps (by decide) kw204 kd_Ps_parse_81 rfl ?_
      refine zk_if_ne (tgt := 107) C kd_Ps_parse_84 (by decide) rfl (fun b3 => ?_) (fun b3 => ?_)
      · replace e := zd_neg b3 e
        refine zk_lvs (lv' := [(0, .ref (S.1 19))]) [0] rfl ?_
        exact zb_Ps_parse_107 C hR h e
      · replace e := zd_pos b3 e
        refine zk_aload_n C kd_Ps_parse_87 rfl 0 rfl rfl ?_
        refine zs_get (v := .ref (S.1 12)) C 19 2 rfl rfl rfl rfl ki_Ps (by decide) kw203 kd_Ps_parse_88 rfl ?_
        refine zk_iload_n C kd_Ps_parse_91 rfl 1 rfl rfl ?_
        refine zk_iload_n C kd_Ps_parse_92 rfl 2 rfl rfl ?_
        refine zk_aload_n C kd_Ps_parse_93 rfl 0 rfl rfl ?_
        obtain ⟨v5, h6, c4, e⟩ := zd_Be e
        refine zs_callV (k := 19) (rn := { frames := 806, cells := 0, slots := 0, locals := 20142 }) (As := []) (rest := [.int x2, .int x1, .ref (S.1 12)]) C (zc_Ps_block h c4) ku_Ps_block kw872 kv_Ps_block rfl ⟨by decide, by decide⟩ ⟨by decide, by decide⟩ rfl rfl rfl (Nat.le_of_ble_eq_true rfl) kd_Ps_parse_94 rfl (c1 := 0) (s1 := 0) rfl rfl (fun v w hp => ?_)
        obtain ⟨rfl, rfl⟩ := hp
        refine zk_stk (r' := [.int v5, .int x2, .int x1, .ref (S.1 12)]) rfl ?_
        obtain ⟨v8, h9, c7, e⟩ := zd_Be e
        refine zs_callV (k := 12) (rn := { frames := 0, cells := 0, slots := 0, locals := 0 }) (As := [.int x1, .int x2, .int v5]) (rest := []) C (zc_Tr_hang h6 x1 x2 v5 c7) ku_Tr_hang kw884 kv_Tr_hang rfl ⟨by decide, by decide⟩ ⟨by decide, by decide⟩ rfl rfl rfl (Nat.le_of_ble_eq_true rfl) kd_Ps_parse_97 rfl (c1 := 0) (s1 := 0) rfl rfl (fun v w hp => ?_)
        obtain ⟨rfl, rfl⟩ := hp
        refine zk_stk (r' := [.int v8]) rfl ?_
        refine zk_istore_n (lv' := [(2, _), (0, _), (1, _), (3, _)]) C kd_Ps_parse_100 rfl (by decide) rfl rfl ?_
        refine zk_iinc (v := (x3 + 1)) (lv' := [(3, _), (2, _), (0, _), (1, _)]) C kd_Ps_parse_101 3 rfl rfl (by decide) rfl rfl ?_
        refine zk_goto (tgt := 64) C kd_Ps_parse_104 (by decide) ?_
        refine zk_lvs (lv' := [(0, .ref (S.1 19)), (1, .int x1), (2, .int v8), (3, .int (x3 + 1))]) [2, 3, 1, 0] rfl ?_
        exact hk64 h9 x1 v8 (x3 + 1) e
theorem zl_Ps_parse_64 {X : zkj_T} {S : zs_T} {P : ze_T} {l : Launch} {D : va_G} {sz0 : Nat} {rv : Int32} {rh : zs_H} (C : zk_C X km_Ps_parse (zs_G S l D sz0) { frames := 807, cells := 0, slots := 0, locals := 20167 } (ze_E P)) (hR : zkj_R X (zd_PI S rv rh) (some .int)) (n : Nat) : ∀ (h : zs_H) (x1 : Int32) (x2 : Int32) (x3 : Int32), f_Ps_parse_L64 n h x1 x2 x3 = some (rv, rh) → zk_Ab X (zs_W S h) 0 0 64 [(0, .ref (S.1 19)), (1, .int x1), (2, .int x2), (3, .int x3)] [] := by
  induction n with
  | zero => intro h x1 x2 x3 e; exact zd_no e
  | succ n ih => intro h x1 x2 x3 e; exact zb_Ps_parse_64 (k64 := f_Ps_parse_L64  n) C hR ih h x1 x2 x3 e
set_option maxHeartbeats 4000000 in
set_option maxRecDepth 100000 in
theorem zc_Ps_parse {l : Launch} {D : va_G} {sz0 : Nat} {S : zs_T} {P : ze_T} (h : zs_H) {rv : Int32} {rh : zs_H} (e : f_Ps_parse h = some (rv, rh)) : zk_Sp (zs_G S l D sz0) (ze_E P) km_Ps_parse { frames := 807, cells := 0, slots := 0, locals := 20167 } [.ref (S.1 19)] (zs_W S h) (zd_PI S rv rh) := by
  refine zk_met ku_Ps_parse (Nat.le_of_ble_eq_true rfl) (ze_Em P) ?_
  intro X C hR
  refine zk_lvs (lv' := [(0, .ref (S.1 19))]) [0] rfl ?_
  unfold f_Ps_parse at e
  refine zk_aload_n C kd_Ps_parse_0 rfl 0 rfl rfl ?_
  refine zk_iconst (v := 0) C kd_Ps_parse_1 (by decide) rfl ?_
  refine zs_put (ty := .int) C 19 3 0 rfl rfl rfl rfl ki_Ps ky_Ps ko_Ps kn_Ps (by decide) kw204 rfl rfl rfl rfl (by decide) kd_Ps_parse_2 rfl ?_
  refine zk_aload_n C kd_Ps_parse_5 rfl 0 rfl rfl ?_
  refine zk_iconst (v := 0) C kd_Ps_parse_6 (by decide) rfl ?_
  refine zs_put (ty := .int) C 19 4 0 rfl rfl rfl rfl ki_Ps ky_Ps ko_Ps kn_Ps (by decide) kw205 rfl rfl rfl rfl (by decide) kd_Ps_parse_7 rfl ?_
  refine zk_aload_n C kd_Ps_parse_10 rfl 0 rfl rfl ?_
  refine zk_aload_n C kd_Ps_parse_11 rfl 0 rfl rfl ?_
  refine zs_get (v := .ref (S.1 8)) C 19 1 rfl rfl rfl rfl ki_Ps (by decide) kw202 kd_Ps_parse_12 rfl ?_
  refine zs_get (v := .ref (S.1 9)) C 8 0 rfl rfl rfl rfl ki_Tk (by decide) kw119 kd_Ps_parse_15 rfl ?_
  refine zk_iconst (v := 0) C kd_Ps_parse_18 (by decide) rfl ?_
  refine zs_cald C 9 rfl (zp_dec rfl) kd_Ps_parse_19 rfl ?_
  refine zk_stk (r' := [.int (h.2.1 9 0), .ref (S.1 19)]) rfl ?_
  refine zs_put (ty := .int) C 19 5 (h.2.1 9 0) rfl rfl rfl rfl ki_Ps ky_Ps ko_Ps kn_Ps (by decide) kw206 rfl rfl rfl rfl (by decide) kd_Ps_parse_20 rfl ?_
  refine zk_aload_n C kd_Ps_parse_23 rfl 0 rfl rfl ?_
  refine zk_aload_n C kd_Ps_parse_24 rfl 0 rfl rfl ?_
  refine zs_get (v := .ref (S.1 8)) C 19 1 rfl rfl rfl rfl ki_Ps (by decide) kw202 kd_Ps_parse_25 rfl ?_
  refine zs_get (v := .ref (S.1 10)) C 8 1 rfl rfl rfl rfl ki_Tk (by decide) kw121 kd_Ps_parse_28 rfl ?_
  refine zk_iconst (v := 0) C kd_Ps_parse_31 (by decide) rfl ?_
  refine zs_cald C 10 rfl (zp_dec rfl) kd_Ps_parse_32 rfl ?_
  refine zk_stk (r' := [.int (h.2.1 10 0), .ref (S.1 19)]) rfl ?_
  refine zs_put (ty := .int) C 19 6 (h.2.1 10 0) rfl rfl rfl rfl ki_Ps ky_Ps ko_Ps kn_Ps (by decide) kw207 rfl rfl rfl rfl (by decide) kd_Ps_parse_33 rfl ?_
  refine zk_aload_n C kd_Ps_parse_36 rfl 0 rfl rfl ?_
  refine zk_iconst (v := 0) C kd_Ps_parse_37 (by decide) rfl ?_
  refine zs_put (ty := .int) C 19 7 0 rfl rfl rfl rfl ki_Ps ky_Ps ko_Ps kn_Ps (by decide) kw208 rfl rfl rfl rfl (by decide) kd_Ps_parse_38 rfl ?_
  refine zk_aload_n C kd_Ps_parse_41 rfl 0 rfl rfl ?_
  refine zs_get (v := .ref (S.1 12)) C 19 2 rfl rfl rfl rfl ki_Ps (by decide) kw203 kd_Ps_parse_42 rfl ?_
  refine zk_iconst (v := 0) C kd_Ps_parse_45 (by decide) rfl ?_
  refine zs_put (ty := .int) C 12 6 0 rfl rfl rfl rfl ki_Tr ky_Tr ko_Tr kn_Tr (by decide) kw176 rfl rfl rfl rfl (by decide) kd_Ps_parse_46 rfl ?_
  refine zk_aload_n C kd_Ps_parse_49 rfl 0 rfl rfl ?_
  refine zs_get (v := .ref (S.1 12)) C 19 2 rfl rfl rfl rfl ki_Ps (by decide) kw203 kd_Ps_parse_50 rfl ?_
  refine zk_iconst (v := 0) C kd_Ps_parse_53 (by decide) rfl ?_
  refine zk_iconst (v := 0) C kd_Ps_parse_54 (by decide) rfl ?_
  refine zk_iconst (v := 0) C kd_Ps_parse_55 (by decide) rfl ?_
  obtain ⟨v2, h3, c1, e⟩ := zd_Be e
  refine zs_callV (k := 12) (rn := { frames := 1, cells := 0, slots := 0, locals := 23 }) (As := [.int 0, .int 0, .int 0]) (rest := []) C (zc_Tr_add (zs_uF (zs_uF (zs_uF (zs_uF (zs_uF (zs_uF h 19 3 0) 19 4 0) 19 5 (h.2.1 9 0)) 19 6 (h.2.1 10 0)) 19 7 0) 12 6 0) 0 0 0 c1) ku_Tr_add kw866 kv_Tr_add rfl ⟨by decide, by decide⟩ ⟨by decide, by decide⟩ rfl rfl rfl (Nat.le_of_ble_eq_true rfl) kd_Ps_parse_56 rfl (c1 := 0) (s1 := 0) rfl rfl (fun v w hp => ?_)
  obtain ⟨rfl, rfl⟩ := hp
  refine zk_stk (r' := [.int v2]) rfl ?_
  refine zk_istore_n (lv' := [(1, _), (0, _)]) C kd_Ps_parse_59 rfl (by decide) rfl rfl ?_
  refine zk_iconst (v := (-1)) C kd_Ps_parse_60 (by decide) rfl ?_
  refine zk_istore_n (lv' := [(2, _), (1, _), (0, _)]) C kd_Ps_parse_61 rfl (by decide) rfl rfl ?_
  refine zk_iconst (v := 0) C kd_Ps_parse_62 (by decide) rfl ?_
  refine zk_istore_n (lv' := [(3, _), (2, _), (1, _), (0, _)]) C kd_Ps_parse_63 rfl (by decide) rfl rfl ?_
  refine zk_lvs (lv' := [(0, .ref (S.1 19)), (1, .int v2), (2, .int (-1)), (3, .int 0)]) [3, 2, 1, 0] rfl ?_
  exact zl_Ps_parse_64 C hR zF h3 v2 (-1) 0 e
set_option maxHeartbeats 4000000 in
set_option maxRecDepth 100000 in
theorem zc_Pk_note {l : Launch} {D : va_G} {sz0 : Nat} {S : zs_T} {P : ze_T} (h : zs_H) (x1 : Int32) (x2 : Int32) {rh : zs_H} (e : f_Pk_note h x1 x2 = some rh) : zk_Sp (zs_G S l D sz0) (ze_E P) km_Pk_note { frames := 0, cells := 0, slots := 0, locals := 0 } [.ref (S.1 0), .int x1, .int x2] (zs_W S h) (zd_PV S rh) := by
  refine zk_met ku_Pk_note (Nat.le_of_ble_eq_true rfl) (ze_Em P) ?_
  intro X C hR
  refine zk_lvs (lv' := [(0, .ref (S.1 0)), (1, .int x1), (2, .int x2)]) [0, 1, 2] rfl ?_
  unfold f_Pk_note at e
  refine zk_iload_n C kd_Pk_note_0 rfl 1 rfl rfl ?_
  refine zk_if_eq (tgt := 14) C kd_Pk_note_1 (by decide) rfl (fun b1 => ?_) (fun b1 => ?_)
  · replace e := zd_pos b1 e
    exact zk_vret C hR kd_Pk_note_14 rfl rfl (zd_rV e)
  · replace e := zd_neg b1 e
    refine zk_aload_n C kd_Pk_note_4 rfl 0 rfl rfl ?_
    refine zk_iload_n C kd_Pk_note_5 rfl 1 rfl rfl ?_
    refine zs_put (ty := .int) C 0 2 x1 rfl rfl rfl rfl ki_Pk ky_Pk ko_Pk kn_Pk (by decide) kw621 rfl rfl rfl rfl (by decide) kd_Pk_note_6 rfl ?_
    refine zk_aload_n C kd_Pk_note_9 rfl 0 rfl rfl ?_
    refine zk_iload_n C kd_Pk_note_10 rfl 2 rfl rfl ?_
    refine zs_put (ty := .int) C 0 3 x2 rfl rfl rfl rfl ki_Pk ky_Pk ko_Pk kn_Pk (by decide) kw622 rfl rfl rfl rfl (by decide) kd_Pk_note_11 rfl ?_
    exact zk_vret C hR kd_Pk_note_14 rfl rfl (zd_rV e)
set_option maxHeartbeats 4000000 in
set_option maxRecDepth 100000 in
theorem zb_Pl_open_68 {X : zkj_T} {S : zs_T} {P : ze_T} {l : Launch} {D : va_G} {sz0 : Nat} {rv : Int32} {rh : zs_H} (C : zk_C X km_Pl_open (zs_G S l D sz0) { frames := 1, cells := 0, slots := 0, locals := 23 } (ze_E P)) (hR : zkj_R X (zd_PI S rv rh) (some .int)) (h : zs_H) (x1 : Int32) (x2 : Int32) (x4 : Int32) (y0 : Int32) (y1 : Int32) (e : f_Pl_open_68 h x1 x2 x4 y0 y1 = some (rv, rh)) : zk_Ab X (zs_W S h) 0 0 68 [(0, .ref (S.1 20)), (1, .int x1), (2, .int x2), (4, .int x4)] [.int y0, .int y1, .ref (S.1 25)] := by
  unfold f_Pl_open_68 at e
  obtain ⟨q1, e⟩ := zd_g e
  refine zs_iast C 25 rfl (zd_vp q1) kd_Pl_open_68 rfl ?_
  refine zk_aload_n C kd_Pl_open_69 rfl 0 rfl rfl ?_
  refine zs_get (v := .ref (S.1 26)) C 20 5 rfl rfl rfl rfl ki_Pl (by decide) kw249 kd_Pl_open_70 rfl ?_
  refine zk_iload C kd_Pl_open_73 3 rfl rfl ?_
  refine zk_aload_n C kd_Pl_open_75 rfl 0 rfl rfl ?_
  refine zs_get (v := .ref (S.1 25)) C 20 4 rfl rfl rfl rfl ki_Pl (by decide) kw246 kd_Pl_open_76 rfl ?_
  refine zk_iload C kd_Pl_open_79 3 rfl rfl ?_
  obtain ⟨q2, e⟩ := zd_g e
  refine zs_iald C 25 rfl (zd_vp q2) kd_Pl_open_81 rfl ?_
  refine zk_stk (r' := [.int ((zs_uM h 25 y1.toNatClampNeg y0).2.1 25 x4.toNatClampNeg), .int x4, .ref (S.1 26)]) rfl ?_
  refine zs_iast C 26 rfl (zd_vp q2) kd_Pl_open_82 rfl ?_
  refine zk_aload_n C kd_Pl_open_83 rfl 0 rfl rfl ?_
  refine zs_get (v := .ref (S.1 27)) C 20 6 rfl rfl rfl rfl ki_Pl (by decide) kw253 kd_Pl_open_84 rfl ?_
  refine zk_iload C kd_Pl_open_87 3 rfl rfl ?_
  refine zk_iconst (v := 0) C kd_Pl_open_89 (by decide) rfl ?_
  refine zs_iast C 27 rfl (zd_vp q2) kd_Pl_open_90 rfl ?_
  refine zk_aload_n C kd_Pl_open_91 rfl 0 rfl rfl ?_
  refine zs_get (v := .ref (S.1 36)) C 20 15 rfl rfl rfl rfl ki_Pl (by decide) kw286 kd_Pl_open_92 rfl ?_
  refine zk_iload_n C kd_Pl_open_95 rfl 2 rfl rfl ?_
  refine zk_iload C kd_Pl_open_96 3 rfl rfl ?_
  obtain ⟨q3, e⟩ := zd_g e
  refine zs_iast C 36 rfl (zd_vp q3) kd_Pl_open_98 rfl ?_
  refine zk_aload_n C kd_Pl_open_99 rfl 0 rfl rfl ?_
  refine zk_iload C kd_Pl_open_100 3 rfl rfl ?_
  refine zk_iconst (v := 1) C kd_Pl_open_102 (by decide) rfl ?_
  refine zk_iadd C kd_Pl_open_103 rfl ?_
  refine zs_put (ty := .int) C 20 17 (x4 + 1) rfl rfl rfl rfl ki_Pl ky_Pl ko_Pl kn_Pl (by decide) kw290 rfl rfl rfl rfl (by decide) kd_Pl_open_104 rfl ?_
  refine zk_iload_n C kd_Pl_open_107 rfl 1 rfl rfl ?_
  refine zk_iconst (v := 3) C kd_Pl_open_108 (by decide) rfl ?_
  refine zk_icmp_ne (tgt := 118) C kd_Pl_open_109 (by decide) rfl (fun b4 => ?_) (fun b4 => ?_)
  · replace e := zd_neg b4 e
    refine zk_iload C kd_Pl_open_118 3 rfl rfl ?_
    exact zk_iret C hR kd_Pl_open_120 rfl rfl (zd_rIS e)
  · replace e := zd_pos b4 e
    refine zk_aload_n C kd_Pl_open_112 rfl 0 rfl rfl ?_
    refine zk_iload C kd_Pl_open_113 3 rfl rfl ?_
    refine zs_put (ty := .int) C 20 19 x4 rfl rfl rfl rfl ki_Pl ky_Pl ko_Pl kn_Pl (by decide) kw294 rfl rfl rfl rfl (by decide) kd_Pl_open_115 rfl ?_
    refine zk_iload C kd_Pl_open_118 3 rfl rfl ?_
    exact zk_iret C hR kd_Pl_open_120 rfl rfl (zd_rIS e)
set_option maxHeartbeats 4000000 in
set_option maxRecDepth 100000 in
theorem zc_Pl_open {l : Launch} {D : va_G} {sz0 : Nat} {S : zs_T} {P : ze_T} (h : zs_H) (x1 : Int32) (x2 : Int32) (x3 : Int32) {rv : Int32} {rh : zs_H} (e : f_Pl_open h x1 x2 x3 = some (rv, rh)) : zk_Sp (zs_G S l D sz0) (ze_E P) km_Pl_open { frames := 1, cells := 0, slots := 0, locals := 23 } [.ref (S.1 20), .int x1, .int x2, .int x3] (zs_W S h) (zd_PI S rv rh) := by
  refine zk_met ku_Pl_open (Nat.le_of_ble_eq_true rfl) (ze_Em P) ?_
  intro X C hR
  refine zk_lvs (lv' := [(0, .ref (S.1 20)), (1, .int x1), (2, .int x2), (3, .int x3)]) [0, 1, 2, 3] rfl ?_
  unfold f_Pl_open at e
  refine zk_aload_n C kd_Pl_open_0 rfl 0 rfl rfl ?_
  refine zs_get (v := .int (h.1 20 17)) C 20 17 rfl rfl rfl rfl ki_Pl (by decide) kw290 kd_Pl_open_1 rfl ?_
  refine zk_sipush (v := 628) C kd_Pl_open_4 (by decide) rfl ?_
  refine zk_mmin C kw1011 kw816 kw19 (by decide) (Nat.le_of_ble_eq_true rfl) (Nat.le_refl _) (Nat.le_refl _) kd_Pl_open_7 rfl ?_
  refine zk_istore (lv' := [(4, _), (0, _), (1, _), (2, _), (3, _)]) C kd_Pl_open_10 (by decide) rfl rfl ?_
  refine zk_aload_n C kd_Pl_open_12 rfl 1 rfl rfl ?_
  refine zs_get (v := .ref (S.1 21)) C 20 0 rfl rfl rfl rfl ki_Pl (by decide) kw232 kd_Pl_open_13 rfl ?_
  refine zk_iload C kd_Pl_open_16 0 rfl rfl ?_
  refine zk_iload_n C kd_Pl_open_18 rfl 2 rfl rfl ?_
  obtain ⟨q1, e⟩ := zd_g e
  refine zs_iast C 21 rfl (zd_vp q1) kd_Pl_open_19 rfl ?_
  refine zk_aload_n C kd_Pl_open_20 rfl 1 rfl rfl ?_
  refine zs_get (v := .ref (S.1 22)) C 20 1 rfl rfl rfl rfl ki_Pl (by decide) kw236 kd_Pl_open_21 rfl ?_
  refine zk_iload C kd_Pl_open_24 0 rfl rfl ?_
  refine zk_iload_n C kd_Pl_open_26 rfl 4 rfl rfl ?_
  refine zs_iast C 22 rfl (zd_vp q1) kd_Pl_open_27 rfl ?_
  refine zk_aload_n C kd_Pl_open_28 rfl 1 rfl rfl ?_
  refine zs_get (v := .ref (S.1 23)) C 20 2 rfl rfl rfl rfl ki_Pl (by decide) kw239 kd_Pl_open_29 rfl ?_
  refine zk_iload C kd_Pl_open_32 0 rfl rfl ?_
  refine zk_aload_n C kd_Pl_open_34 rfl 1 rfl rfl ?_
  refine zs_get (v := .int (h.1 20 18)) C 20 18 rfl rfl rfl rfl ki_Pl (by decide) kw292 kd_Pl_open_35 rfl ?_
  refine zs_iast C 23 rfl (zd_vp q1) kd_Pl_open_38 rfl ?_
  refine zk_aload_n C kd_Pl_open_39 rfl 1 rfl rfl ?_
  refine zs_get (v := .ref (S.1 24)) C 20 3 rfl rfl rfl rfl ki_Pl (by decide) kw243 kd_Pl_open_40 rfl ?_
  refine zk_iload C kd_Pl_open_43 0 rfl rfl ?_
  refine zk_aload_n C kd_Pl_open_45 rfl 1 rfl rfl ?_
  refine zs_get (v := .int (h.1 20 18)) C 20 18 rfl rfl rfl rfl ki_Pl (by decide) kw292 kd_Pl_open_46 rfl ?_
  refine zs_iast C 24 rfl (zd_vp q1) kd_Pl_open_49 rfl ?_
  refine zk_aload_n C kd_Pl_open_50 rfl 1 rfl rfl ?_
  refine zs_get (v := .ref (S.1 25)) C 20 4 rfl rfl rfl rfl ki_Pl (by decide) kw246 kd_Pl_open_51 rfl ?_
  refine zk_iload C kd_Pl_open_54 0 rfl rfl ?_
  refine zk_iload_n C kd_Pl_open_56 rfl 2 rfl rfl ?_
  refine zk_iconst (v := 3) C kd_Pl_open_57 (by decide) rfl ?_
  refine zk_icmp_ne (tgt := 67) C kd_Pl_open_58 (by decide) rfl (fun b2 => ?_) (fun b2 => ?_)
  · replace e := zd_neg b2 e
    refine zk_iconst (v := 0) C kd_Pl_open_67 (by decide) rfl ?_
    refine zk_lvs (lv' := [(0, .ref (S.1 20)), (1, .int x1), (2, .int x2), (4, .int (zd_min (h.1 20 17) 628))]) [1, 2, 3, 0] rfl ?_
    exact zb_Pl_open_68 C hR (zs_uM (zs_uM (zs_uM (zs_uM h 21 (zd_min (h.1 20 17) 628).toNatClampNeg x1) 22 (zd_min (h.1 20 17) 628).toNatClampNeg x3) 23 (zd_min (h.1 20 17) 628).toNatClampNeg (h.1 20 18)) 24 (zd_min (h.1 20 17) 628).toNatClampNeg (h.1 20 18)) x1 x2 (zd_min (h.1 20 17) 628) 0 (zd_min (h.1 20 17) 628) e
  · replace e := zd_pos b2 e
    refine zk_sipush (v := 960) C kd_Pl_open_61 (by decide) rfl ?_
    refine zk_goto (tgt := 68) C kd_Pl_open_64 (by decide) ?_
    refine zk_lvs (lv' := [(0, .ref (S.1 20)), (1, .int x1), (2, .int x2), (4, .int (zd_min (h.1 20 17) 628))]) [1, 2, 3, 0] rfl ?_
    exact zb_Pl_open_68 C hR (zs_uM (zs_uM (zs_uM (zs_uM h 21 (zd_min (h.1 20 17) 628).toNatClampNeg x1) 22 (zd_min (h.1 20 17) 628).toNatClampNeg x3) 23 (zd_min (h.1 20 17) 628).toNatClampNeg (h.1 20 18)) 24 (zd_min (h.1 20 17) 628).toNatClampNeg (h.1 20 18)) x1 x2 (zd_min (h.1 20 17) 628) 960 (zd_min (h.1 20 17) 628) e
set_option maxHeartbeats 4000000 in
set_option maxRecDepth 100000 in
theorem zc_Pl_add {l : Launch} {D : va_G} {sz0 : Nat} {S : zs_T} {P : ze_T} (h : zs_H) (x1 : Int32) (x2 : Int32) {rv : Int32} {rh : zs_H} (e : f_Pl_add h x1 x2 = some (rv, rh)) : zk_Sp (zs_G S l D sz0) (ze_E P) km_Pl_add { frames := 1, cells := 0, slots := 0, locals := 23 } [.ref (S.1 20), .int x1, .int x2] (zs_W S h) (zd_PI S rv rh) := by
  refine zk_met ku_Pl_add (Nat.le_of_ble_eq_true rfl) (ze_Em P) ?_
  intro X C hR
  refine zk_lvs (lv' := [(0, .ref (S.1 20)), (1, .int x1), (2, .int x2)]) [0, 1, 2] rfl ?_
  unfold f_Pl_add at e
  refine zk_aload_n C kd_Pl_add_0 rfl 0 rfl rfl ?_
  refine zs_get (v := .int (h.1 20 18)) C 20 18 rfl rfl rfl rfl ki_Pl (by decide) kw292 kd_Pl_add_1 rfl ?_
  refine zk_sipush (v := 5999) C kd_Pl_add_4 (by decide) rfl ?_
  refine zk_mmin C kw1011 kw816 kw19 (by decide) (Nat.le_of_ble_eq_true rfl) (Nat.le_refl _) (Nat.le_refl _) kd_Pl_add_7 rfl ?_
  refine zk_istore_n (lv' := [(3, _), (0, _), (1, _), (2, _)]) C kd_Pl_add_10 rfl (by decide) rfl rfl ?_
  refine zk_aload_n C kd_Pl_add_11 rfl 1 rfl rfl ?_
  refine zs_get (v := .ref (S.1 28)) C 20 7 rfl rfl rfl rfl ki_Pl (by decide) kw255 kd_Pl_add_12 rfl ?_
  refine zk_iload_n C kd_Pl_add_15 rfl 0 rfl rfl ?_
  refine zk_iload_n C kd_Pl_add_16 rfl 2 rfl rfl ?_
  obtain ⟨q1, e⟩ := zd_g e
  refine zs_iast C 28 rfl (zd_vp q1) kd_Pl_add_17 rfl ?_
  refine zk_aload_n C kd_Pl_add_18 rfl 1 rfl rfl ?_
  refine zs_get (v := .ref (S.1 29)) C 20 8 rfl rfl rfl rfl ki_Pl (by decide) kw257 kd_Pl_add_19 rfl ?_
  refine zk_iload_n C kd_Pl_add_22 rfl 0 rfl rfl ?_
  refine zk_iload_n C kd_Pl_add_23 rfl 3 rfl rfl ?_
  refine zs_iast C 29 rfl (zd_vp q1) kd_Pl_add_24 rfl ?_
  refine zk_aload_n C kd_Pl_add_25 rfl 1 rfl rfl ?_
  refine zs_get (v := .ref (S.1 30)) C 20 9 rfl rfl rfl rfl ki_Pl (by decide) kw260 kd_Pl_add_26 rfl ?_
  refine zk_iload_n C kd_Pl_add_29 rfl 0 rfl rfl ?_
  refine zk_iconst (v := (-1)) C kd_Pl_add_30 (by decide) rfl ?_
  refine zs_iast C 30 rfl (zd_vp q1) kd_Pl_add_31 rfl ?_
  refine zk_aload_n C kd_Pl_add_32 rfl 1 rfl rfl ?_
  refine zs_get (v := .ref (S.1 31)) C 20 10 rfl rfl rfl rfl ki_Pl (by decide) kw265 kd_Pl_add_33 rfl ?_
  refine zk_iload_n C kd_Pl_add_36 rfl 0 rfl rfl ?_
  refine zk_iconst (v := 0) C kd_Pl_add_37 (by decide) rfl ?_
  refine zs_iast C 31 rfl (zd_vp q1) kd_Pl_add_38 rfl ?_
  refine zk_aload_n C kd_Pl_add_39 rfl 1 rfl rfl ?_
  refine zs_get (v := .ref (S.1 32)) C 20 11 rfl rfl rfl rfl ki_Pl (by decide) kw268 kd_Pl_add_40 rfl ?_
  refine zk_iload_n C kd_Pl_add_43 rfl 0 rfl rfl ?_
  refine zk_iconst (v := 0) C kd_Pl_add_44 (by decide) rfl ?_
  refine zs_iast C 32 rfl (zd_vp q1) kd_Pl_add_45 rfl ?_
  refine zk_aload_n C kd_Pl_add_46 rfl 1 rfl rfl ?_
  refine zs_get (v := .ref (S.1 33)) C 20 12 rfl rfl rfl rfl ki_Pl (by decide) kw273 kd_Pl_add_47 rfl ?_
  refine zk_iload_n C kd_Pl_add_50 rfl 0 rfl rfl ?_
  refine zk_iconst (v := 0) C kd_Pl_add_51 (by decide) rfl ?_
  refine zs_iast C 33 rfl (zd_vp q1) kd_Pl_add_52 rfl ?_
  refine zk_aload_n C kd_Pl_add_53 rfl 1 rfl rfl ?_
  refine zs_get (v := .ref (S.1 34)) C 20 13 rfl rfl rfl rfl ki_Pl (by decide) kw277 kd_Pl_add_54 rfl ?_
  refine zk_iload_n C kd_Pl_add_57 rfl 0 rfl rfl ?_
  refine zk_iconst (v := 1) C kd_Pl_add_58 (by decide) rfl ?_
  refine zs_iast C 34 rfl (zd_vp q1) kd_Pl_add_59 rfl ?_
  refine zk_aload_n C kd_Pl_add_60 rfl 1 rfl rfl ?_
  refine zs_get (v := .ref (S.1 35)) C 20 14 rfl rfl rfl rfl ki_Pl (by decide) kw282 kd_Pl_add_61 rfl ?_
  refine zk_iload_n C kd_Pl_add_64 rfl 0 rfl rfl ?_
  refine zk_iconst (v := 0) C kd_Pl_add_65 (by decide) rfl ?_
  refine zs_iast C 35 rfl (zd_vp q1) kd_Pl_add_66 rfl ?_
  refine zk_aload_n C kd_Pl_add_67 rfl 1 rfl rfl ?_
  refine zs_get (v := .ref (S.1 37)) C 20 16 rfl rfl rfl rfl ki_Pl (by decide) kw288 kd_Pl_add_68 rfl ?_
  refine zk_iload_n C kd_Pl_add_71 rfl 2 rfl rfl ?_
  refine zk_iload_n C kd_Pl_add_72 rfl 0 rfl rfl ?_
  obtain ⟨q2, e⟩ := zd_g e
  refine zs_iast C 37 rfl (zd_vp q2) kd_Pl_add_73 rfl ?_
  refine zk_aload_n C kd_Pl_add_74 rfl 1 rfl rfl ?_
  refine zk_iload_n C kd_Pl_add_75 rfl 0 rfl rfl ?_
  refine zk_iconst (v := 1) C kd_Pl_add_76 (by decide) rfl ?_
  refine zk_iadd C kd_Pl_add_77 rfl ?_
  refine zs_put (ty := .int) C 20 18 ((zd_min (h.1 20 18) 5999) + 1) rfl rfl rfl rfl ki_Pl ky_Pl ko_Pl kn_Pl (by decide) kw292 rfl rfl rfl rfl (by decide) kd_Pl_add_78 rfl ?_
  refine zk_aload_n C kd_Pl_add_81 rfl 1 rfl rfl ?_
  refine zs_get (v := .int (h.1 20 17)) C 20 17 rfl rfl rfl rfl ki_Pl (by decide) kw290 kd_Pl_add_82 rfl ?_
  refine zk_if_le (tgt := 103) C kd_Pl_add_85 (by decide) rfl (fun b3 => ?_) (fun b3 => ?_)
  · replace e := zd_pos b3 e
    refine zk_iload_n C kd_Pl_add_103 rfl 0 rfl rfl ?_
    exact zk_iret C hR kd_Pl_add_104 rfl rfl (zd_rIS e)
  · replace e := zd_neg b3 e
    refine zk_aload_n C kd_Pl_add_88 rfl 1 rfl rfl ?_
    refine zs_get (v := .ref (S.1 24)) C 20 3 rfl rfl rfl rfl ki_Pl (by decide) kw243 kd_Pl_add_89 rfl ?_
    refine zk_aload_n C kd_Pl_add_92 rfl 1 rfl rfl ?_
    refine zs_get (v := .int (h.1 20 17)) C 20 17 rfl rfl rfl rfl ki_Pl (by decide) kw290 kd_Pl_add_93 rfl ?_
    refine zk_iconst (v := 1) C kd_Pl_add_96 (by decide) rfl ?_
    refine zk_isub C kd_Pl_add_97 rfl ?_
    refine zk_aload_n C kd_Pl_add_98 rfl 1 rfl rfl ?_
    refine zs_get (v := .int ((zd_min (h.1 20 18) 5999) + 1)) C 20 18 rfl rfl rfl rfl ki_Pl (by decide) kw292 kd_Pl_add_99 rfl ?_
    obtain ⟨q4, e⟩ := zd_g e
    refine zs_iast C 24 rfl (zd_vp q4) kd_Pl_add_102 rfl ?_
    refine zk_iload_n C kd_Pl_add_103 rfl 0 rfl rfl ?_
    exact zk_iret C hR kd_Pl_add_104 rfl rfl (zd_rIS e)
set_option maxHeartbeats 4000000 in
set_option maxRecDepth 100000 in
theorem zc_Pl_addStandard {l : Launch} {D : va_G} {sz0 : Nat} {S : zs_T} {P : ze_T} (h : zs_H) (x1 : Int32) {rh : zs_H} (e : f_Pl_addStandard h x1 = some rh) : zk_Sp (zs_G S l D sz0) (ze_E P) km_Pl_addStandard { frames := 2, cells := 0, slots := 0, locals := 46 } [.ref (S.1 20), .int x1] (zs_W S h) (zd_PV S rh) := by
  refine zk_met ku_Pl_addStandard (Nat.le_of_ble_eq_true rfl) (ze_Em P) ?_
  intro X C hR
  refine zk_lvs (lv' := [(0, .ref (S.1 20)), (1, .int x1)]) [0, 1] rfl ?_
  unfold f_Pl_addStandard at e
  refine zk_aload_n C kd_Pl_addStandard_0 rfl 0 rfl rfl ?_
  refine zk_bipush (v := 60) C kd_Pl_addStandard_1 (by decide) rfl ?_
  refine ze_gets (j := 1) C rfl kw1012 kd_Pl_addStandard_3 rfl ?_
  refine zk_iload_n C kd_Pl_addStandard_6 rfl 1 rfl rfl ?_
  refine zk_iconst (v := 1) C kd_Pl_addStandard_7 (by decide) rfl ?_
  refine zk_iadd C kd_Pl_addStandard_8 rfl ?_
  obtain ⟨q1, e⟩ := zd_g e
  refine ze_ti C rfl (zd_vp q1) kd_Pl_addStandard_9 rfl ?_
  refine zk_stk (r' := [.int (zt_1.getD (x1 + 1).toNatClampNeg 0), .int 60, .ref (S.1 20)]) rfl ?_
  refine zk_iadd C kd_Pl_addStandard_10 rfl ?_
  refine ze_gets (j := 1) C rfl kw1012 kd_Pl_addStandard_11 rfl ?_
  refine zk_iload_n C kd_Pl_addStandard_14 rfl 1 rfl rfl ?_
  refine zk_iconst (v := 2) C kd_Pl_addStandard_15 (by decide) rfl ?_
  refine zk_iadd C kd_Pl_addStandard_16 rfl ?_
  obtain ⟨q2, e⟩ := zd_g e
  refine ze_ti C rfl (zd_vp q2) kd_Pl_addStandard_17 rfl ?_
  refine zk_stk (r' := [.int (zt_1.getD (x1 + 2).toNatClampNeg 0), .int (60 + (zt_1.getD (x1 + 1).toNatClampNeg 0)), .ref (S.1 20)]) rfl ?_
  obtain ⟨v4, h5, c3, e⟩ := zd_Be e
  refine zs_callV (k := 20) (rn := { frames := 1, cells := 0, slots := 0, locals := 23 }) (As := [.int (60 + (zt_1.getD (x1 + 1).toNatClampNeg 0)), .int (zt_1.getD (x1 + 2).toNatClampNeg 0)]) (rest := []) C (zc_Pl_add h (60 + (zt_1.getD (x1 + 1).toNatClampNeg 0)) (zt_1.getD (x1 + 2).toNatClampNeg 0) c3) ku_Pl_add kw1018 kv_Pl_add rfl ⟨by decide, by decide⟩ ⟨by decide, by decide⟩ rfl rfl rfl (Nat.le_of_ble_eq_true rfl) kd_Pl_addStandard_18 rfl (c1 := 0) (s1 := 0) rfl rfl (fun v w hp => ?_)
  obtain ⟨rfl, rfl⟩ := hp
  refine zk_stk (r' := [.int v4]) rfl ?_
  refine zk_istore_n (lv' := [(2, _), (0, _), (1, _)]) C kd_Pl_addStandard_21 rfl (by decide) rfl rfl ?_
  refine zk_aload_n C kd_Pl_addStandard_22 rfl 1 rfl rfl ?_
  refine zs_get (v := .ref (S.1 31)) C 20 10 rfl rfl rfl rfl ki_Pl (by decide) kw265 kd_Pl_addStandard_23 rfl ?_
  refine zk_iload_n C kd_Pl_addStandard_26 rfl 0 rfl rfl ?_
  refine ze_gets (j := 1) C rfl kw1012 kd_Pl_addStandard_27 rfl ?_
  refine zk_iload_n C kd_Pl_addStandard_30 rfl 2 rfl rfl ?_
  refine zk_iconst (v := 3) C kd_Pl_addStandard_31 (by decide) rfl ?_
  refine zk_iadd C kd_Pl_addStandard_32 rfl ?_
  obtain ⟨q6, e⟩ := zd_g e
  refine ze_ti C rfl (zd_vp q6) kd_Pl_addStandard_33 rfl ?_
  refine zk_stk (r' := [.int (zt_1.getD (x1 + 3).toNatClampNeg 0), .int v4, .ref (S.1 31)]) rfl ?_
  obtain ⟨q7, e⟩ := zd_g e
  refine zs_iast C 31 rfl (zd_vp q7) kd_Pl_addStandard_34 rfl ?_
  refine zk_aload_n C kd_Pl_addStandard_35 rfl 1 rfl rfl ?_
  refine zs_get (v := .ref (S.1 32)) C 20 11 rfl rfl rfl rfl ki_Pl (by decide) kw268 kd_Pl_addStandard_36 rfl ?_
  refine zk_iload_n C kd_Pl_addStandard_39 rfl 0 rfl rfl ?_
  refine ze_gets (j := 1) C rfl kw1012 kd_Pl_addStandard_40 rfl ?_
  refine zk_iload_n C kd_Pl_addStandard_43 rfl 2 rfl rfl ?_
  refine zk_iconst (v := 4) C kd_Pl_addStandard_44 (by decide) rfl ?_
  refine zk_iadd C kd_Pl_addStandard_45 rfl ?_
  obtain ⟨q8, e⟩ := zd_g e
  refine ze_ti C rfl (zd_vp q8) kd_Pl_addStandard_46 rfl ?_
  refine zk_stk (r' := [.int (zt_1.getD (x1 + 4).toNatClampNeg 0), .int v4, .ref (S.1 32)]) rfl ?_
  refine zs_iast C 32 rfl (zd_vp q7) kd_Pl_addStandard_47 rfl ?_
  exact zk_vret C hR kd_Pl_addStandard_48 rfl rfl (zd_rV e)
