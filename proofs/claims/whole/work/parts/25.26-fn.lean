theorem kw944 : Jvm.Cond.methodLink "PlantKeeper$Parser" (119 : Nat) ({ cls := "PlantKeeper$Parser", name := "deepen", desc := "()V" } : Jvm.MethodName) ∈ zk_BW := zk_inT 944 (by decide +kernel) rfl
theorem kw948 : Jvm.Cond.methodLink "PlantKeeper$Parser" (122 : Nat) ({ cls := "PlantKeeper$Parser", name := "wholeExpression", desc := "()I" } : Jvm.MethodName) ∈ zk_BW := zk_inT 948 (by decide +kernel) rfl
theorem kw950 : Jvm.Cond.instanceMethod ({ cls := "PlantKeeper$Parser", name := "wholeExpression", desc := "()I" } : Jvm.MethodName) ∈ zk_BW := zk_inT 950 (by decide +kernel) rfl
theorem kw951 : Jvm.Cond.code ({ cls := "PlantKeeper$Parser", name := "wholeExpression", desc := "()I" } : Jvm.MethodName) prog_8_method_22_code (3 : Nat) (Option.some FieldType.int) ∈ zk_BW := zk_inT 951 (by decide +kernel) rfl
theorem kw952 : Jvm.Cond.methodLink "PlantKeeper$Parser" (135 : Nat) ({ cls := "PlantKeeper$Parser", name := "expression", desc := "(I)I" } : Jvm.MethodName) ∈ zk_BW := zk_inT 952 (by decide +kernel) rfl
theorem kw954 : Jvm.Cond.instanceMethod ({ cls := "PlantKeeper$Parser", name := "expression", desc := "(I)I" } : Jvm.MethodName) ∈ zk_BW := zk_inT 954 (by decide +kernel) rfl
theorem kw955 : Jvm.Cond.code ({ cls := "PlantKeeper$Parser", name := "expression", desc := "(I)I" } : Jvm.MethodName) prog_8_method_24_code (6 : Nat) (Option.some FieldType.int) ∈ zk_BW := zk_inT 955 (by decide +kernel) rfl
theorem kw956 : Jvm.Cond.methodLink "PlantKeeper$Parser" (138 : Nat) ({ cls := "PlantKeeper$Parser", name := "operand", desc := "()I" } : Jvm.MethodName) ∈ zk_BW := zk_inT 956 (by decide +kernel) rfl
theorem kw958 : Jvm.Cond.instanceMethod ({ cls := "PlantKeeper$Parser", name := "operand", desc := "()I" } : Jvm.MethodName) ∈ zk_BW := zk_inT 958 (by decide +kernel) rfl
theorem kw959 : Jvm.Cond.code ({ cls := "PlantKeeper$Parser", name := "operand", desc := "()I" } : Jvm.MethodName) prog_8_method_25_code (2 : Nat) (Option.some FieldType.int) ∈ zk_BW := zk_inT 959 (by decide +kernel) rfl
theorem kw960 : Jvm.Cond.methodLink "PlantKeeper$Parser" (147 : Nat) ({ cls := "PlantKeeper$Parser", name := "namedOperand", desc := "()I" } : Jvm.MethodName) ∈ zk_BW := zk_inT 960 (by decide +kernel) rfl
theorem kw962 : Jvm.Cond.instanceMethod ({ cls := "PlantKeeper$Parser", name := "namedOperand", desc := "()I" } : Jvm.MethodName) ∈ zk_BW := zk_inT 962 (by decide +kernel) rfl
theorem kw963 : Jvm.Cond.code ({ cls := "PlantKeeper$Parser", name := "namedOperand", desc := "()I" } : Jvm.MethodName) prog_8_method_26_code (5 : Nat) (Option.some FieldType.int) ∈ zk_BW := zk_inT 963 (by decide +kernel) rfl
theorem kw964 : Jvm.Cond.methodLink "PlantKeeper$Parser" (141 : Nat) ({ cls := "PlantKeeper$Parser", name := "operator", desc := "()I" } : Jvm.MethodName) ∈ zk_BW := zk_inT 964 (by decide +kernel) rfl
theorem kw968 : Jvm.Cond.fieldLink "PlantKeeper$Parser" (144 : Nat) "PlantKeeper$Parser" "LEVEL" "[I" ∈ zk_BW := zk_inT 968 (by decide +kernel) rfl
theorem kw976 : Jvm.Cond.instanceMethod ({ cls := "PlantKeeper$Parser", name := "isConstant", desc := "()Z" } : Jvm.MethodName) ∈ zk_BW := zk_inT 976 (by decide +kernel) rfl
theorem kw977 : Jvm.Cond.code ({ cls := "PlantKeeper$Parser", name := "isConstant", desc := "()Z" } : Jvm.MethodName) prog_8_method_16_code (1 : Nat) (Option.some FieldType.boolean) ∈ zk_BW := zk_inT 977 (by decide +kernel) rfl
theorem kw980 : Jvm.Cond.instanceMethod ({ cls := "PlantKeeper$Parser", name := "ranges", desc := "(I)I" } : Jvm.MethodName) ∈ zk_BW := zk_inT 980 (by decide +kernel) rfl
theorem kw981 : Jvm.Cond.code ({ cls := "PlantKeeper$Parser", name := "ranges", desc := "(I)I" } : Jvm.MethodName) prog_8_method_18_code (7 : Nat) (Option.some FieldType.int) ∈ zk_BW := zk_inT 981 (by decide +kernel) rfl
theorem kw988 : Jvm.Cond.instanceMethod ({ cls := "PlantKeeper$Parser", name := "invocation", desc := "()I" } : Jvm.MethodName) ∈ zk_BW := zk_inT 988 (by decide +kernel) rfl
theorem kw989 : Jvm.Cond.code ({ cls := "PlantKeeper$Parser", name := "invocation", desc := "()I" } : Jvm.MethodName) prog_8_method_21_code (6 : Nat) (Option.some FieldType.int) ∈ zk_BW := zk_inT 989 (by decide +kernel) rfl
theorem kw992 : Jvm.Cond.instanceMethod ({ cls := "PlantKeeper$Parser", name := "assignment", desc := "()I" } : Jvm.MethodName) ∈ zk_BW := zk_inT 992 (by decide +kernel) rfl
theorem kw993 : Jvm.Cond.code ({ cls := "PlantKeeper$Parser", name := "assignment", desc := "()I" } : Jvm.MethodName) prog_8_method_20_code (3 : Nat) (Option.some FieldType.int) ∈ zk_BW := zk_inT 993 (by decide +kernel) rfl
abbrev kc_Ps_assignment : ByteArray := prog_8_method_20_code
def km_Ps_assignment : zk_MT := (⟨"PlantKeeper$Parser", "assignment", "()I"⟩, kc_Ps_assignment, 3, some .int, 0)
theorem ku_Ps_assignment : zk_My km_Ps_assignment := ⟨kw993, kw9, by decide, by decide, by decide, by decide +kernel⟩
theorem kv_Ps_assignment : zk_Mv km_Ps_assignment := ⟨kw992, zk_inS 45 (q := (⟨"PlantKeeper$Parser", "assignment", "()I"⟩, 8)) (by decide +kernel)⟩
abbrev kc_Ps_expression : ByteArray := prog_8_method_24_code
def km_Ps_expression : zk_MT := (⟨"PlantKeeper$Parser", "expression", "(I)I"⟩, kc_Ps_expression, 6, some .int, 1)
theorem ku_Ps_expression : zk_My km_Ps_expression := ⟨kw955, kw9, by decide, by decide, by decide, by decide +kernel⟩
theorem kv_Ps_expression : zk_Mv km_Ps_expression := ⟨kw954, zk_inS 36 (q := (⟨"PlantKeeper$Parser", "expression", "(I)I"⟩, 8)) (by decide +kernel)⟩
abbrev kc_Ps_invocation : ByteArray := prog_8_method_21_code
def km_Ps_invocation : zk_MT := (⟨"PlantKeeper$Parser", "invocation", "()I"⟩, kc_Ps_invocation, 6, some .int, 0)
theorem ku_Ps_invocation : zk_My km_Ps_invocation := ⟨kw989, kw9, by decide, by decide, by decide, by decide +kernel⟩
theorem kv_Ps_invocation : zk_Mv km_Ps_invocation := ⟨kw988, zk_inS 44 (q := (⟨"PlantKeeper$Parser", "invocation", "()I"⟩, 8)) (by decide +kernel)⟩
abbrev kc_Ps_isConstant : ByteArray := prog_8_method_16_code
def km_Ps_isConstant : zk_MT := (⟨"PlantKeeper$Parser", "isConstant", "()Z"⟩, kc_Ps_isConstant, 1, some .boolean, 0)
theorem ku_Ps_isConstant : zk_My km_Ps_isConstant := ⟨kw977, kw9, by decide, by decide, by decide, by decide +kernel⟩
theorem kv_Ps_isConstant : zk_Mv km_Ps_isConstant := ⟨kw976, zk_inS 41 (q := (⟨"PlantKeeper$Parser", "isConstant", "()Z"⟩, 8)) (by decide +kernel)⟩
abbrev kc_Ps_namedOperand : ByteArray := prog_8_method_26_code
def km_Ps_namedOperand : zk_MT := (⟨"PlantKeeper$Parser", "namedOperand", "()I"⟩, kc_Ps_namedOperand, 5, some .int, 0)
theorem ku_Ps_namedOperand : zk_My km_Ps_namedOperand := ⟨kw963, kw9, by decide, by decide, by decide, by decide +kernel⟩
theorem kv_Ps_namedOperand : zk_Mv km_Ps_namedOperand := ⟨kw962, zk_inS 38 (q := (⟨"PlantKeeper$Parser", "namedOperand", "()I"⟩, 8)) (by decide +kernel)⟩
abbrev kc_Ps_operand : ByteArray := prog_8_method_25_code
def km_Ps_operand : zk_MT := (⟨"PlantKeeper$Parser", "operand", "()I"⟩, kc_Ps_operand, 2, some .int, 0)
theorem ku_Ps_operand : zk_My km_Ps_operand := ⟨kw959, kw9, by decide, by decide, by decide, by decide +kernel⟩
theorem kv_Ps_operand : zk_Mv km_Ps_operand := ⟨kw958, zk_inS 37 (q := (⟨"PlantKeeper$Parser", "operand", "()I"⟩, 8)) (by decide +kernel)⟩
abbrev kc_Ps_ranges : ByteArray := prog_8_method_18_code
def km_Ps_ranges : zk_MT := (⟨"PlantKeeper$Parser", "ranges", "(I)I"⟩, kc_Ps_ranges, 7, some .int, 1)
theorem ku_Ps_ranges : zk_My km_Ps_ranges := ⟨kw981, kw9, by decide, by decide, by decide, by decide +kernel⟩
theorem kv_Ps_ranges : zk_Mv km_Ps_ranges := ⟨kw980, zk_inS 42 (q := (⟨"PlantKeeper$Parser", "ranges", "(I)I"⟩, 8)) (by decide +kernel)⟩
abbrev kc_Ps_wholeExpression : ByteArray := prog_8_method_22_code
def km_Ps_wholeExpression : zk_MT := (⟨"PlantKeeper$Parser", "wholeExpression", "()I"⟩, kc_Ps_wholeExpression, 3, some .int, 0)
theorem ku_Ps_wholeExpression : zk_My km_Ps_wholeExpression := ⟨kw951, kw9, by decide, by decide, by decide, by decide +kernel⟩
theorem kv_Ps_wholeExpression : zk_Mv km_Ps_wholeExpression := ⟨kw950, zk_inS 35 (q := (⟨"PlantKeeper$Parser", "wholeExpression", "()I"⟩, 8)) (by decide +kernel)⟩
theorem kd_Ps_assignment_0 : decode kc_Ps_assignment 0 = .ok (.aload_n 0, 1) := by decide +kernel
theorem kd_Ps_assignment_1 : decode kc_Ps_assignment 1 = .ok (.getfield 15, 3) := by decide +kernel
theorem kd_Ps_assignment_4 : decode kc_Ps_assignment 4 = .ok (.bipush 6, 2) := by decide +kernel
theorem kd_Ps_assignment_6 : decode kc_Ps_assignment 6 = .ok (.aload_n 0, 1) := by decide +kernel
theorem kd_Ps_assignment_7 : decode kc_Ps_assignment 7 = .ok (.getfield 38, 3) := by decide +kernel
theorem kd_Ps_assignment_10 : decode kc_Ps_assignment 10 = .ok (.aload_n 0, 1) := by decide +kernel
theorem kd_Ps_assignment_11 : decode kc_Ps_assignment 11 = .ok (.getfield 9, 3) := by decide +kernel
theorem kd_Ps_assignment_14 : decode kc_Ps_assignment 14 = .ok (.getfield 61, 3) := by decide +kernel
theorem kd_Ps_assignment_17 : decode kc_Ps_assignment 17 = .ok (.aload_n 0, 1) := by decide +kernel
theorem kd_Ps_assignment_18 : decode kc_Ps_assignment 18 = .ok (.getfield 23, 3) := by decide +kernel
theorem kd_Ps_assignment_21 : decode kc_Ps_assignment 21 = .ok (.iaload, 1) := by decide +kernel
theorem kd_Ps_assignment_22 : decode kc_Ps_assignment 22 = .ok (.invokevirtual 49, 3) := by decide +kernel
theorem kd_Ps_assignment_25 : decode kc_Ps_assignment 25 = .ok (.istore_n 1, 1) := by decide +kernel
theorem kd_Ps_assignment_26 : decode kc_Ps_assignment 26 = .ok (.aload_n 0, 1) := by decide +kernel
theorem kd_Ps_assignment_27 : decode kc_Ps_assignment 27 = .ok (.bipush 8, 2) := by decide +kernel
theorem kd_Ps_assignment_29 : decode kc_Ps_assignment 29 = .ok (.invokevirtual 68, 3) := by decide +kernel
theorem kd_Ps_assignment_32 : decode kc_Ps_assignment 32 = .ok (.aload_n 0, 1) := by decide +kernel
theorem kd_Ps_assignment_33 : decode kc_Ps_assignment 33 = .ok (.getfield 32, 3) := by decide +kernel
theorem kd_Ps_assignment_36 : decode kc_Ps_assignment 36 = .ok (.bipush 91, 2) := by decide +kernel
theorem kd_Ps_assignment_38 : decode kc_Ps_assignment 38 = .ok (.if_icmp .ne 54, 3) := by decide +kernel
theorem kd_Ps_assignment_41 : decode kc_Ps_assignment 41 = .ok (.aload_n 0, 1) := by decide +kernel
theorem kd_Ps_assignment_42 : decode kc_Ps_assignment 42 = .ok (.getfield 15, 3) := by decide +kernel
theorem kd_Ps_assignment_45 : decode kc_Ps_assignment 45 = .ok (.getfield 132, 3) := by decide +kernel
theorem kd_Ps_assignment_48 : decode kc_Ps_assignment 48 = .ok (.iload_n 1, 1) := by decide +kernel
theorem kd_Ps_assignment_49 : decode kc_Ps_assignment 49 = .ok (.bipush 32, 2) := by decide +kernel
theorem kd_Ps_assignment_51 : decode kc_Ps_assignment 51 = .ok (.bastore, 1) := by decide +kernel
theorem kd_Ps_assignment_52 : decode kc_Ps_assignment 52 = .ok (.aload_n 0, 1) := by decide +kernel
theorem kd_Ps_assignment_53 : decode kc_Ps_assignment 53 = .ok (.invokevirtual 119, 3) := by decide +kernel
theorem kd_Ps_assignment_56 : decode kc_Ps_assignment 56 = .ok (.aload_n 0, 1) := by decide +kernel
theorem kd_Ps_assignment_57 : decode kc_Ps_assignment 57 = .ok (.bipush 91, 2) := by decide +kernel
theorem kd_Ps_assignment_59 : decode kc_Ps_assignment 59 = .ok (.invokevirtual 68, 3) := by decide +kernel
theorem kd_Ps_assignment_62 : decode kc_Ps_assignment 62 = .ok (.aload_n 0, 1) := by decide +kernel
theorem kd_Ps_assignment_63 : decode kc_Ps_assignment 63 = .ok (.getfield 15, 3) := by decide +kernel
theorem kd_Ps_assignment_66 : decode kc_Ps_assignment 66 = .ok (.iload_n 1, 1) := by decide +kernel
theorem kd_Ps_assignment_67 : decode kc_Ps_assignment 67 = .ok (.iconst (-1), 1) := by decide +kernel
theorem kd_Ps_assignment_68 : decode kc_Ps_assignment 68 = .ok (.aload_n 0, 1) := by decide +kernel
theorem kd_Ps_assignment_69 : decode kc_Ps_assignment 69 = .ok (.invokevirtual 122, 3) := by decide +kernel
theorem kd_Ps_assignment_72 : decode kc_Ps_assignment 72 = .ok (.invokevirtual 57, 3) := by decide +kernel
theorem kd_Ps_assignment_75 : decode kc_Ps_assignment 75 = .ok (.pop, 1) := by decide +kernel
theorem kd_Ps_assignment_76 : decode kc_Ps_assignment 76 = .ok (.aload_n 0, 1) := by decide +kernel
theorem kd_Ps_assignment_77 : decode kc_Ps_assignment 77 = .ok (.bipush 93, 2) := by decide +kernel
theorem kd_Ps_assignment_79 : decode kc_Ps_assignment 79 = .ok (.invokevirtual 68, 3) := by decide +kernel
theorem kd_Ps_assignment_82 : decode kc_Ps_assignment 82 = .ok (.aload_n 0, 1) := by decide +kernel
theorem kd_Ps_assignment_83 : decode kc_Ps_assignment 83 = .ok (.dup, 1) := by decide +kernel
theorem kd_Ps_assignment_84 : decode kc_Ps_assignment 84 = .ok (.getfield 41, 3) := by decide +kernel
theorem kd_Ps_assignment_87 : decode kc_Ps_assignment 87 = .ok (.iconst 1, 1) := by decide +kernel
theorem kd_Ps_assignment_88 : decode kc_Ps_assignment 88 = .ok (.isub, 1) := by decide +kernel
theorem kd_Ps_assignment_89 : decode kc_Ps_assignment 89 = .ok (.putfield 41, 3) := by decide +kernel
theorem kd_Ps_assignment_92 : decode kc_Ps_assignment 92 = .ok (.aload_n 0, 1) := by decide +kernel
theorem kd_Ps_assignment_93 : decode kc_Ps_assignment 93 = .ok (.getfield 15, 3) := by decide +kernel
theorem kd_Ps_assignment_96 : decode kc_Ps_assignment 96 = .ok (.bipush 12, 2) := by decide +kernel
theorem kd_Ps_assignment_98 : decode kc_Ps_assignment 98 = .ok (.aload_n 0, 1) := by decide +kernel
theorem kd_Ps_assignment_99 : decode kc_Ps_assignment 99 = .ok (.getfield 38, 3) := by decide +kernel
theorem kd_Ps_assignment_102 : decode kc_Ps_assignment 102 = .ok (.iconst 0, 1) := by decide +kernel
theorem kd_Ps_assignment_103 : decode kc_Ps_assignment 103 = .ok (.invokevirtual 49, 3) := by decide +kernel
theorem kd_Ps_assignment_106 : decode kc_Ps_assignment 106 = .ok (.istore_n 2, 1) := by decide +kernel
theorem kd_Ps_assignment_107 : decode kc_Ps_assignment 107 = .ok (.aload_n 0, 1) := by decide +kernel
theorem kd_Ps_assignment_108 : decode kc_Ps_assignment 108 = .ok (.iconst 1, 1) := by decide +kernel
theorem kd_Ps_assignment_109 : decode kc_Ps_assignment 109 = .ok (.invokevirtual 68, 3) := by decide +kernel
theorem kd_Ps_assignment_112 : decode kc_Ps_assignment 112 = .ok (.aload_n 0, 1) := by decide +kernel
theorem kd_Ps_assignment_113 : decode kc_Ps_assignment 113 = .ok (.getfield 15, 3) := by decide +kernel
theorem kd_Ps_assignment_116 : decode kc_Ps_assignment 116 = .ok (.iload_n 2, 1) := by decide +kernel
theorem kd_Ps_assignment_117 : decode kc_Ps_assignment 117 = .ok (.iconst (-1), 1) := by decide +kernel
theorem kd_Ps_assignment_118 : decode kc_Ps_assignment 118 = .ok (.iload_n 1, 1) := by decide +kernel
theorem kd_Ps_assignment_119 : decode kc_Ps_assignment 119 = .ok (.invokevirtual 57, 3) := by decide +kernel
theorem kd_Ps_assignment_122 : decode kc_Ps_assignment 122 = .ok (.pop, 1) := by decide +kernel
theorem kd_Ps_assignment_123 : decode kc_Ps_assignment 123 = .ok (.aload_n 0, 1) := by decide +kernel
theorem kd_Ps_assignment_124 : decode kc_Ps_assignment 124 = .ok (.getfield 15, 3) := by decide +kernel
theorem kd_Ps_assignment_127 : decode kc_Ps_assignment 127 = .ok (.iload_n 2, 1) := by decide +kernel
theorem kd_Ps_assignment_128 : decode kc_Ps_assignment 128 = .ok (.iload_n 1, 1) := by decide +kernel
theorem kd_Ps_assignment_129 : decode kc_Ps_assignment 129 = .ok (.aload_n 0, 1) := by decide +kernel
theorem kd_Ps_assignment_130 : decode kc_Ps_assignment 130 = .ok (.invokevirtual 122, 3) := by decide +kernel
theorem kd_Ps_assignment_133 : decode kc_Ps_assignment 133 = .ok (.invokevirtual 57, 3) := by decide +kernel
theorem kd_Ps_assignment_136 : decode kc_Ps_assignment 136 = .ok (.pop, 1) := by decide +kernel
theorem kd_Ps_assignment_137 : decode kc_Ps_assignment 137 = .ok (.iload_n 2, 1) := by decide +kernel
theorem kd_Ps_assignment_138 : decode kc_Ps_assignment 138 = .ok (.ireturn, 1) := by decide +kernel
theorem kd_Ps_expression_0 : decode kc_Ps_expression 0 = .ok (.aload_n 0, 1) := by decide +kernel
theorem kd_Ps_expression_1 : decode kc_Ps_expression 1 = .ok (.invokevirtual 138, 3) := by decide +kernel
theorem kd_Ps_expression_4 : decode kc_Ps_expression 4 = .ok (.istore_n 2, 1) := by decide +kernel
theorem kd_Ps_expression_5 : decode kc_Ps_expression 5 = .ok (.aload_n 0, 1) := by decide +kernel
theorem kd_Ps_expression_6 : decode kc_Ps_expression 6 = .ok (.invokevirtual 141, 3) := by decide +kernel
theorem kd_Ps_expression_9 : decode kc_Ps_expression 9 = .ok (.istore_n 3, 1) := by decide +kernel
theorem kd_Ps_expression_10 : decode kc_Ps_expression 10 = .ok (.iconst 0, 1) := by decide +kernel
theorem kd_Ps_expression_11 : decode kc_Ps_expression 11 = .ok (.istore 4, 2) := by decide +kernel
theorem kd_Ps_expression_13 : decode kc_Ps_expression 13 = .ok (.iload 4, 2) := by decide +kernel
theorem kd_Ps_expression_15 : decode kc_Ps_expression 15 = .ok (.sipush 16384, 3) := by decide +kernel
theorem kd_Ps_expression_18 : decode kc_Ps_expression 18 = .ok (.if_icmp .ge 92, 3) := by decide +kernel
theorem kd_Ps_expression_21 : decode kc_Ps_expression 21 = .ok (.iload_n 3, 1) := by decide +kernel
theorem kd_Ps_expression_22 : decode kc_Ps_expression 22 = .ok (.ifCond .lt 88, 3) := by decide +kernel
theorem kd_Ps_expression_25 : decode kc_Ps_expression 25 = .ok (.getstatic 144, 3) := by decide +kernel
theorem kd_Ps_expression_28 : decode kc_Ps_expression 28 = .ok (.iload_n 3, 1) := by decide +kernel
theorem kd_Ps_expression_29 : decode kc_Ps_expression 29 = .ok (.iaload, 1) := by decide +kernel
theorem kd_Ps_expression_30 : decode kc_Ps_expression 30 = .ok (.iload_n 1, 1) := by decide +kernel
theorem kd_Ps_expression_31 : decode kc_Ps_expression 31 = .ok (.if_icmp .lt 79, 3) := by decide +kernel
theorem kd_Ps_expression_34 : decode kc_Ps_expression 34 = .ok (.aload_n 0, 1) := by decide +kernel
theorem kd_Ps_expression_35 : decode kc_Ps_expression 35 = .ok (.getfield 15, 3) := by decide +kernel
theorem kd_Ps_expression_38 : decode kc_Ps_expression 38 = .ok (.bipush 35, 2) := by decide +kernel
theorem kd_Ps_expression_40 : decode kc_Ps_expression 40 = .ok (.aload_n 0, 1) := by decide +kernel
theorem kd_Ps_expression_41 : decode kc_Ps_expression 41 = .ok (.getfield 38, 3) := by decide +kernel
theorem kd_Ps_expression_44 : decode kc_Ps_expression 44 = .ok (.iload_n 3, 1) := by decide +kernel
theorem kd_Ps_expression_45 : decode kc_Ps_expression 45 = .ok (.invokevirtual 49, 3) := by decide +kernel
theorem kd_Ps_expression_48 : decode kc_Ps_expression 48 = .ok (.istore 5, 2) := by decide +kernel
theorem kd_Ps_expression_50 : decode kc_Ps_expression 50 = .ok (.aload_n 0, 1) := by decide +kernel
theorem kd_Ps_expression_51 : decode kc_Ps_expression 51 = .ok (.invokevirtual 119, 3) := by decide +kernel
theorem kd_Ps_expression_54 : decode kc_Ps_expression 54 = .ok (.aload_n 0, 1) := by decide +kernel
theorem kd_Ps_expression_55 : decode kc_Ps_expression 55 = .ok (.aload_n 0, 1) := by decide +kernel
theorem kd_Ps_expression_56 : decode kc_Ps_expression 56 = .ok (.getfield 32, 3) := by decide +kernel
theorem kd_Ps_expression_59 : decode kc_Ps_expression 59 = .ok (.invokevirtual 68, 3) := by decide +kernel
theorem kd_Ps_expression_62 : decode kc_Ps_expression 62 = .ok (.aload_n 0, 1) := by decide +kernel
theorem kd_Ps_expression_63 : decode kc_Ps_expression 63 = .ok (.getfield 15, 3) := by decide +kernel
theorem kd_Ps_expression_66 : decode kc_Ps_expression 66 = .ok (.iload 5, 2) := by decide +kernel
theorem kd_Ps_expression_68 : decode kc_Ps_expression 68 = .ok (.iconst (-1), 1) := by decide +kernel
theorem kd_Ps_expression_69 : decode kc_Ps_expression 69 = .ok (.iload_n 2, 1) := by decide +kernel
theorem kd_Ps_expression_70 : decode kc_Ps_expression 70 = .ok (.invokevirtual 57, 3) := by decide +kernel
theorem kd_Ps_expression_73 : decode kc_Ps_expression 73 = .ok (.pop, 1) := by decide +kernel
theorem kd_Ps_expression_74 : decode kc_Ps_expression 74 = .ok (.aload_n 0, 1) := by decide +kernel
theorem kd_Ps_expression_75 : decode kc_Ps_expression 75 = .ok (.getfield 15, 3) := by decide +kernel
theorem kd_Ps_expression_78 : decode kc_Ps_expression 78 = .ok (.iload 5, 2) := by decide +kernel
theorem kd_Ps_expression_80 : decode kc_Ps_expression 80 = .ok (.iload_n 2, 1) := by decide +kernel
theorem kd_Ps_expression_81 : decode kc_Ps_expression 81 = .ok (.aload_n 0, 1) := by decide +kernel
theorem kd_Ps_expression_82 : decode kc_Ps_expression 82 = .ok (.getstatic 144, 3) := by decide +kernel
theorem kd_Ps_expression_85 : decode kc_Ps_expression 85 = .ok (.iload_n 3, 1) := by decide +kernel
theorem kd_Ps_expression_86 : decode kc_Ps_expression 86 = .ok (.iaload, 1) := by decide +kernel
theorem kd_Ps_expression_87 : decode kc_Ps_expression 87 = .ok (.iconst 1, 1) := by decide +kernel
theorem kd_Ps_expression_88 : decode kc_Ps_expression 88 = .ok (.iadd, 1) := by decide +kernel
theorem kd_Ps_expression_89 : decode kc_Ps_expression 89 = .ok (.invokevirtual 135, 3) := by decide +kernel
theorem kd_Ps_expression_92 : decode kc_Ps_expression 92 = .ok (.invokevirtual 57, 3) := by decide +kernel
theorem kd_Ps_expression_95 : decode kc_Ps_expression 95 = .ok (.pop, 1) := by decide +kernel
theorem kd_Ps_expression_96 : decode kc_Ps_expression 96 = .ok (.iload 5, 2) := by decide +kernel
theorem kd_Ps_expression_98 : decode kc_Ps_expression 98 = .ok (.istore_n 2, 1) := by decide +kernel
theorem kd_Ps_expression_99 : decode kc_Ps_expression 99 = .ok (.aload_n 0, 1) := by decide +kernel
theorem kd_Ps_expression_100 : decode kc_Ps_expression 100 = .ok (.invokevirtual 141, 3) := by decide +kernel
theorem kd_Ps_expression_103 : decode kc_Ps_expression 103 = .ok (.istore_n 3, 1) := by decide +kernel
theorem kd_Ps_expression_104 : decode kc_Ps_expression 104 = .ok (.iinc 4 1, 3) := by decide +kernel
theorem kd_Ps_expression_107 : decode kc_Ps_expression 107 = .ok (.goto (-94), 3) := by decide +kernel
theorem kd_Ps_expression_110 : decode kc_Ps_expression 110 = .ok (.iload_n 2, 1) := by decide +kernel
theorem kd_Ps_expression_111 : decode kc_Ps_expression 111 = .ok (.ireturn, 1) := by decide +kernel
theorem kd_Ps_invocation_0 : decode kc_Ps_invocation 0 = .ok (.aload_n 0, 1) := by decide +kernel
theorem kd_Ps_invocation_1 : decode kc_Ps_invocation 1 = .ok (.getfield 15, 3) := by decide +kernel
theorem kd_Ps_invocation_4 : decode kc_Ps_invocation 4 = .ok (.bipush 13, 2) := by decide +kernel
theorem kd_Ps_invocation_6 : decode kc_Ps_invocation 6 = .ok (.aload_n 0, 1) := by decide +kernel
theorem kd_Ps_invocation_7 : decode kc_Ps_invocation 7 = .ok (.getfield 38, 3) := by decide +kernel
theorem kd_Ps_invocation_10 : decode kc_Ps_invocation 10 = .ok (.aload_n 0, 1) := by decide +kernel
theorem kd_Ps_invocation_11 : decode kc_Ps_invocation 11 = .ok (.getfield 9, 3) := by decide +kernel
theorem kd_Ps_invocation_14 : decode kc_Ps_invocation 14 = .ok (.getfield 61, 3) := by decide +kernel
theorem kd_Ps_invocation_17 : decode kc_Ps_invocation 17 = .ok (.aload_n 0, 1) := by decide +kernel
theorem kd_Ps_invocation_18 : decode kc_Ps_invocation 18 = .ok (.getfield 23, 3) := by decide +kernel
theorem kd_Ps_invocation_21 : decode kc_Ps_invocation 21 = .ok (.iaload, 1) := by decide +kernel
theorem kd_Ps_invocation_22 : decode kc_Ps_invocation 22 = .ok (.invokevirtual 49, 3) := by decide +kernel
theorem kd_Ps_invocation_25 : decode kc_Ps_invocation 25 = .ok (.istore_n 1, 1) := by decide +kernel
theorem kd_Ps_invocation_26 : decode kc_Ps_invocation 26 = .ok (.aload_n 0, 1) := by decide +kernel
theorem kd_Ps_invocation_27 : decode kc_Ps_invocation 27 = .ok (.bipush 8, 2) := by decide +kernel
theorem kd_Ps_invocation_29 : decode kc_Ps_invocation 29 = .ok (.invokevirtual 68, 3) := by decide +kernel
theorem kd_Ps_invocation_32 : decode kc_Ps_invocation 32 = .ok (.aload_n 0, 1) := by decide +kernel
theorem kd_Ps_invocation_33 : decode kc_Ps_invocation 33 = .ok (.invokevirtual 119, 3) := by decide +kernel
theorem kd_Ps_invocation_36 : decode kc_Ps_invocation 36 = .ok (.aload_n 0, 1) := by decide +kernel
theorem kd_Ps_invocation_37 : decode kc_Ps_invocation 37 = .ok (.bipush 40, 2) := by decide +kernel
theorem kd_Ps_invocation_39 : decode kc_Ps_invocation 39 = .ok (.invokevirtual 68, 3) := by decide +kernel
theorem kd_Ps_invocation_42 : decode kc_Ps_invocation 42 = .ok (.iconst (-1), 1) := by decide +kernel
theorem kd_Ps_invocation_43 : decode kc_Ps_invocation 43 = .ok (.istore_n 2, 1) := by decide +kernel
theorem kd_Ps_invocation_44 : decode kc_Ps_invocation 44 = .ok (.aload_n 0, 1) := by decide +kernel
theorem kd_Ps_invocation_45 : decode kc_Ps_invocation 45 = .ok (.getfield 32, 3) := by decide +kernel
theorem kd_Ps_invocation_48 : decode kc_Ps_invocation 48 = .ok (.bipush 41, 2) := by decide +kernel
theorem kd_Ps_invocation_50 : decode kc_Ps_invocation 50 = .ok (.if_icmp .eq 7, 3) := by decide +kernel
theorem kd_Ps_invocation_53 : decode kc_Ps_invocation 53 = .ok (.iconst 1, 1) := by decide +kernel
theorem kd_Ps_invocation_54 : decode kc_Ps_invocation 54 = .ok (.goto 4, 3) := by decide +kernel
theorem kd_Ps_invocation_57 : decode kc_Ps_invocation 57 = .ok (.iconst 0, 1) := by decide +kernel
theorem kd_Ps_invocation_58 : decode kc_Ps_invocation 58 = .ok (.istore_n 3, 1) := by decide +kernel
theorem kd_Ps_invocation_59 : decode kc_Ps_invocation 59 = .ok (.iconst 0, 1) := by decide +kernel
theorem kd_Ps_invocation_60 : decode kc_Ps_invocation 60 = .ok (.istore 4, 2) := by decide +kernel
theorem kd_Ps_invocation_62 : decode kc_Ps_invocation 62 = .ok (.iload 4, 2) := by decide +kernel
theorem kd_Ps_invocation_64 : decode kc_Ps_invocation 64 = .ok (.sipush 16384, 3) := by decide +kernel
theorem kd_Ps_invocation_67 : decode kc_Ps_invocation 67 = .ok (.if_icmp .ge 103, 3) := by decide +kernel
theorem kd_Ps_invocation_70 : decode kc_Ps_invocation 70 = .ok (.iload_n 3, 1) := by decide +kernel
theorem kd_Ps_invocation_71 : decode kc_Ps_invocation 71 = .ok (.ifCond .eq 99, 3) := by decide +kernel
theorem kd_Ps_invocation_74 : decode kc_Ps_invocation 74 = .ok (.aload_n 0, 1) := by decide +kernel
theorem kd_Ps_invocation_75 : decode kc_Ps_invocation 75 = .ok (.getfield 15, 3) := by decide +kernel
theorem kd_Ps_invocation_78 : decode kc_Ps_invocation 78 = .ok (.bipush 14, 2) := by decide +kernel
theorem kd_Ps_invocation_80 : decode kc_Ps_invocation 80 = .ok (.aload_n 0, 1) := by decide +kernel
theorem kd_Ps_invocation_81 : decode kc_Ps_invocation 81 = .ok (.getfield 38, 3) := by decide +kernel
theorem kd_Ps_invocation_84 : decode kc_Ps_invocation 84 = .ok (.aload_n 0, 1) := by decide +kernel
theorem kd_Ps_invocation_85 : decode kc_Ps_invocation 85 = .ok (.getfield 9, 3) := by decide +kernel
theorem kd_Ps_invocation_88 : decode kc_Ps_invocation 88 = .ok (.getfield 61, 3) := by decide +kernel
theorem kd_Ps_invocation_91 : decode kc_Ps_invocation 91 = .ok (.aload_n 0, 1) := by decide +kernel
theorem kd_Ps_invocation_92 : decode kc_Ps_invocation 92 = .ok (.getfield 23, 3) := by decide +kernel
theorem kd_Ps_invocation_95 : decode kc_Ps_invocation 95 = .ok (.iaload, 1) := by decide +kernel
theorem kd_Ps_invocation_96 : decode kc_Ps_invocation 96 = .ok (.invokevirtual 49, 3) := by decide +kernel
theorem kd_Ps_invocation_99 : decode kc_Ps_invocation 99 = .ok (.istore 5, 2) := by decide +kernel
theorem kd_Ps_invocation_101 : decode kc_Ps_invocation 101 = .ok (.aload_n 0, 1) := by decide +kernel
theorem kd_Ps_invocation_102 : decode kc_Ps_invocation 102 = .ok (.bipush 8, 2) := by decide +kernel
theorem kd_Ps_invocation_104 : decode kc_Ps_invocation 104 = .ok (.invokevirtual 68, 3) := by decide +kernel
theorem kd_Ps_invocation_107 : decode kc_Ps_invocation 107 = .ok (.aload_n 0, 1) := by decide +kernel
theorem kd_Ps_invocation_108 : decode kc_Ps_invocation 108 = .ok (.iconst 1, 1) := by decide +kernel
theorem kd_Ps_invocation_109 : decode kc_Ps_invocation 109 = .ok (.invokevirtual 68, 3) := by decide +kernel
theorem kd_Ps_invocation_112 : decode kc_Ps_invocation 112 = .ok (.aload_n 0, 1) := by decide +kernel
theorem kd_Ps_invocation_113 : decode kc_Ps_invocation 113 = .ok (.getfield 15, 3) := by decide +kernel
theorem kd_Ps_invocation_116 : decode kc_Ps_invocation 116 = .ok (.iload 5, 2) := by decide +kernel
theorem kd_Ps_invocation_118 : decode kc_Ps_invocation 118 = .ok (.iconst (-1), 1) := by decide +kernel
theorem kd_Ps_invocation_119 : decode kc_Ps_invocation 119 = .ok (.aload_n 0, 1) := by decide +kernel
theorem kd_Ps_invocation_120 : decode kc_Ps_invocation 120 = .ok (.invokevirtual 122, 3) := by decide +kernel
theorem kd_Ps_invocation_123 : decode kc_Ps_invocation 123 = .ok (.invokevirtual 57, 3) := by decide +kernel
theorem kd_Ps_invocation_126 : decode kc_Ps_invocation 126 = .ok (.pop, 1) := by decide +kernel
theorem kd_Ps_invocation_127 : decode kc_Ps_invocation 127 = .ok (.aload_n 0, 1) := by decide +kernel
theorem kd_Ps_invocation_128 : decode kc_Ps_invocation 128 = .ok (.getfield 15, 3) := by decide +kernel
theorem kd_Ps_invocation_131 : decode kc_Ps_invocation 131 = .ok (.iload_n 1, 1) := by decide +kernel
theorem kd_Ps_invocation_132 : decode kc_Ps_invocation 132 = .ok (.iload_n 2, 1) := by decide +kernel
theorem kd_Ps_invocation_133 : decode kc_Ps_invocation 133 = .ok (.iload 5, 2) := by decide +kernel
theorem kd_Ps_invocation_135 : decode kc_Ps_invocation 135 = .ok (.invokevirtual 57, 3) := by decide +kernel
theorem kd_Ps_invocation_138 : decode kc_Ps_invocation 138 = .ok (.istore_n 2, 1) := by decide +kernel
theorem kd_Ps_invocation_139 : decode kc_Ps_invocation 139 = .ok (.aload_n 0, 1) := by decide +kernel
theorem kd_Ps_invocation_140 : decode kc_Ps_invocation 140 = .ok (.getfield 32, 3) := by decide +kernel
theorem kd_Ps_invocation_143 : decode kc_Ps_invocation 143 = .ok (.bipush 44, 2) := by decide +kernel
theorem kd_Ps_invocation_145 : decode kc_Ps_invocation 145 = .ok (.if_icmp .ne 7, 3) := by decide +kernel
theorem kd_Ps_invocation_148 : decode kc_Ps_invocation 148 = .ok (.iconst 1, 1) := by decide +kernel
theorem kd_Ps_invocation_149 : decode kc_Ps_invocation 149 = .ok (.goto 4, 3) := by decide +kernel
theorem kd_Ps_invocation_152 : decode kc_Ps_invocation 152 = .ok (.iconst 0, 1) := by decide +kernel
theorem kd_Ps_invocation_153 : decode kc_Ps_invocation 153 = .ok (.istore_n 3, 1) := by decide +kernel
theorem kd_Ps_invocation_154 : decode kc_Ps_invocation 154 = .ok (.iload_n 3, 1) := by decide +kernel
theorem kd_Ps_invocation_155 : decode kc_Ps_invocation 155 = .ok (.ifCond .eq 9, 3) := by decide +kernel
theorem kd_Ps_invocation_158 : decode kc_Ps_invocation 158 = .ok (.aload_n 0, 1) := by decide +kernel
theorem kd_Ps_invocation_159 : decode kc_Ps_invocation 159 = .ok (.bipush 44, 2) := by decide +kernel
theorem kd_Ps_invocation_161 : decode kc_Ps_invocation 161 = .ok (.invokevirtual 68, 3) := by decide +kernel
theorem kd_Ps_invocation_164 : decode kc_Ps_invocation 164 = .ok (.iinc 4 1, 3) := by decide +kernel
theorem kd_Ps_invocation_167 : decode kc_Ps_invocation 167 = .ok (.goto (-105), 3) := by decide +kernel
theorem kd_Ps_invocation_170 : decode kc_Ps_invocation 170 = .ok (.aload_n 0, 1) := by decide +kernel
theorem kd_Ps_invocation_171 : decode kc_Ps_invocation 171 = .ok (.bipush 41, 2) := by decide +kernel
theorem kd_Ps_invocation_173 : decode kc_Ps_invocation 173 = .ok (.invokevirtual 68, 3) := by decide +kernel
theorem kd_Ps_invocation_176 : decode kc_Ps_invocation 176 = .ok (.aload_n 0, 1) := by decide +kernel
theorem kd_Ps_invocation_177 : decode kc_Ps_invocation 177 = .ok (.dup, 1) := by decide +kernel
theorem kd_Ps_invocation_178 : decode kc_Ps_invocation 178 = .ok (.getfield 41, 3) := by decide +kernel
theorem kd_Ps_invocation_181 : decode kc_Ps_invocation 181 = .ok (.iconst 1, 1) := by decide +kernel
theorem kd_Ps_invocation_182 : decode kc_Ps_invocation 182 = .ok (.isub, 1) := by decide +kernel
theorem kd_Ps_invocation_183 : decode kc_Ps_invocation 183 = .ok (.putfield 41, 3) := by decide +kernel
theorem kd_Ps_invocation_186 : decode kc_Ps_invocation 186 = .ok (.iload_n 1, 1) := by decide +kernel
theorem kd_Ps_invocation_187 : decode kc_Ps_invocation 187 = .ok (.ireturn, 1) := by decide +kernel
theorem kd_Ps_isConstant_0 : decode kc_Ps_isConstant 0 = .ok (.aload_n 0, 1) := by decide +kernel
theorem kd_Ps_isConstant_1 : decode kc_Ps_isConstant 1 = .ok (.getfield 32, 3) := by decide +kernel
theorem kd_Ps_isConstant_4 : decode kc_Ps_isConstant 4 = .ok (.bipush 45, 2) := by decide +kernel
theorem kd_Ps_isConstant_6 : decode kc_Ps_isConstant 6 = .ok (.if_icmp .eq 32, 3) := by decide +kernel
theorem kd_Ps_isConstant_9 : decode kc_Ps_isConstant 9 = .ok (.aload_n 0, 1) := by decide +kernel
theorem kd_Ps_isConstant_10 : decode kc_Ps_isConstant 10 = .ok (.getfield 32, 3) := by decide +kernel
theorem kd_Ps_isConstant_13 : decode kc_Ps_isConstant 13 = .ok (.bipush 9, 2) := by decide +kernel
theorem kd_Ps_isConstant_15 : decode kc_Ps_isConstant 15 = .ok (.if_icmp .eq 23, 3) := by decide +kernel
theorem kd_Ps_isConstant_18 : decode kc_Ps_isConstant 18 = .ok (.aload_n 0, 1) := by decide +kernel
theorem kd_Ps_isConstant_19 : decode kc_Ps_isConstant 19 = .ok (.getfield 32, 3) := by decide +kernel
theorem kd_Ps_isConstant_22 : decode kc_Ps_isConstant 22 = .ok (.sipush 163, 3) := by decide +kernel
theorem kd_Ps_isConstant_25 : decode kc_Ps_isConstant 25 = .ok (.if_icmp .eq 13, 3) := by decide +kernel
theorem kd_Ps_isConstant_28 : decode kc_Ps_isConstant 28 = .ok (.aload_n 0, 1) := by decide +kernel
theorem kd_Ps_isConstant_29 : decode kc_Ps_isConstant 29 = .ok (.getfield 32, 3) := by decide +kernel
theorem kd_Ps_isConstant_32 : decode kc_Ps_isConstant 32 = .ok (.sipush 164, 3) := by decide +kernel
theorem kd_Ps_isConstant_35 : decode kc_Ps_isConstant 35 = .ok (.if_icmp .ne 7, 3) := by decide +kernel
theorem kd_Ps_isConstant_38 : decode kc_Ps_isConstant 38 = .ok (.iconst 1, 1) := by decide +kernel
theorem kd_Ps_isConstant_39 : decode kc_Ps_isConstant 39 = .ok (.goto 4, 3) := by decide +kernel
theorem kd_Ps_isConstant_42 : decode kc_Ps_isConstant 42 = .ok (.iconst 0, 1) := by decide +kernel
theorem kd_Ps_isConstant_43 : decode kc_Ps_isConstant 43 = .ok (.ireturn, 1) := by decide +kernel
theorem kd_Ps_namedOperand_0 : decode kc_Ps_namedOperand 0 = .ok (.aload_n 0, 1) := by decide +kernel
theorem kd_Ps_namedOperand_1 : decode kc_Ps_namedOperand 1 = .ok (.getfield 15, 3) := by decide +kernel
theorem kd_Ps_namedOperand_4 : decode kc_Ps_namedOperand 4 = .ok (.bipush 6, 2) := by decide +kernel
theorem kd_Ps_namedOperand_6 : decode kc_Ps_namedOperand 6 = .ok (.aload_n 0, 1) := by decide +kernel
theorem kd_Ps_namedOperand_7 : decode kc_Ps_namedOperand 7 = .ok (.getfield 38, 3) := by decide +kernel
theorem kd_Ps_namedOperand_10 : decode kc_Ps_namedOperand 10 = .ok (.aload_n 0, 1) := by decide +kernel
theorem kd_Ps_namedOperand_11 : decode kc_Ps_namedOperand 11 = .ok (.getfield 9, 3) := by decide +kernel
theorem kd_Ps_namedOperand_14 : decode kc_Ps_namedOperand 14 = .ok (.getfield 61, 3) := by decide +kernel
theorem kd_Ps_namedOperand_17 : decode kc_Ps_namedOperand 17 = .ok (.aload_n 0, 1) := by decide +kernel
theorem kd_Ps_namedOperand_18 : decode kc_Ps_namedOperand 18 = .ok (.getfield 23, 3) := by decide +kernel
theorem kd_Ps_namedOperand_21 : decode kc_Ps_namedOperand 21 = .ok (.iaload, 1) := by decide +kernel
theorem kd_Ps_namedOperand_22 : decode kc_Ps_namedOperand 22 = .ok (.invokevirtual 49, 3) := by decide +kernel
theorem kd_Ps_namedOperand_25 : decode kc_Ps_namedOperand 25 = .ok (.istore_n 1, 1) := by decide +kernel
theorem kd_Ps_namedOperand_26 : decode kc_Ps_namedOperand 26 = .ok (.aload_n 0, 1) := by decide +kernel
theorem kd_Ps_namedOperand_27 : decode kc_Ps_namedOperand 27 = .ok (.bipush 8, 2) := by decide +kernel
theorem kd_Ps_namedOperand_29 : decode kc_Ps_namedOperand 29 = .ok (.invokevirtual 68, 3) := by decide +kernel
theorem kd_Ps_namedOperand_32 : decode kc_Ps_namedOperand 32 = .ok (.aload_n 0, 1) := by decide +kernel
theorem kd_Ps_namedOperand_33 : decode kc_Ps_namedOperand 33 = .ok (.getfield 32, 3) := by decide +kernel
theorem kd_Ps_namedOperand_36 : decode kc_Ps_namedOperand 36 = .ok (.bipush 46, 2) := by decide +kernel
theorem kd_Ps_namedOperand_38 : decode kc_Ps_namedOperand 38 = .ok (.if_icmp .ne 64, 3) := by decide +kernel
theorem kd_Ps_namedOperand_41 : decode kc_Ps_namedOperand 41 = .ok (.aload_n 0, 1) := by decide +kernel
theorem kd_Ps_namedOperand_42 : decode kc_Ps_namedOperand 42 = .ok (.getfield 15, 3) := by decide +kernel
theorem kd_Ps_namedOperand_45 : decode kc_Ps_namedOperand 45 = .ok (.getfield 132, 3) := by decide +kernel
theorem kd_Ps_namedOperand_48 : decode kc_Ps_namedOperand 48 = .ok (.iload_n 1, 1) := by decide +kernel
theorem kd_Ps_namedOperand_49 : decode kc_Ps_namedOperand 49 = .ok (.bipush 33, 2) := by decide +kernel
theorem kd_Ps_namedOperand_51 : decode kc_Ps_namedOperand 51 = .ok (.bastore, 1) := by decide +kernel
theorem kd_Ps_namedOperand_52 : decode kc_Ps_namedOperand 52 = .ok (.aload_n 0, 1) := by decide +kernel
theorem kd_Ps_namedOperand_53 : decode kc_Ps_namedOperand 53 = .ok (.bipush 46, 2) := by decide +kernel
theorem kd_Ps_namedOperand_55 : decode kc_Ps_namedOperand 55 = .ok (.invokevirtual 68, 3) := by decide +kernel
theorem kd_Ps_namedOperand_58 : decode kc_Ps_namedOperand 58 = .ok (.aload_n 0, 1) := by decide +kernel
theorem kd_Ps_namedOperand_59 : decode kc_Ps_namedOperand 59 = .ok (.getfield 15, 3) := by decide +kernel
theorem kd_Ps_namedOperand_62 : decode kc_Ps_namedOperand 62 = .ok (.iload_n 1, 1) := by decide +kernel
theorem kd_Ps_namedOperand_63 : decode kc_Ps_namedOperand 63 = .ok (.iconst (-1), 1) := by decide +kernel
theorem kd_Ps_namedOperand_64 : decode kc_Ps_namedOperand 64 = .ok (.aload_n 0, 1) := by decide +kernel
theorem kd_Ps_namedOperand_65 : decode kc_Ps_namedOperand 65 = .ok (.getfield 15, 3) := by decide +kernel
theorem kd_Ps_namedOperand_68 : decode kc_Ps_namedOperand 68 = .ok (.bipush 38, 2) := by decide +kernel
theorem kd_Ps_namedOperand_70 : decode kc_Ps_namedOperand 70 = .ok (.aload_n 0, 1) := by decide +kernel
theorem kd_Ps_namedOperand_71 : decode kc_Ps_namedOperand 71 = .ok (.getfield 38, 3) := by decide +kernel
theorem kd_Ps_namedOperand_74 : decode kc_Ps_namedOperand 74 = .ok (.aload_n 0, 1) := by decide +kernel
theorem kd_Ps_namedOperand_75 : decode kc_Ps_namedOperand 75 = .ok (.getfield 9, 3) := by decide +kernel
theorem kd_Ps_namedOperand_78 : decode kc_Ps_namedOperand 78 = .ok (.getfield 61, 3) := by decide +kernel
theorem kd_Ps_namedOperand_81 : decode kc_Ps_namedOperand 81 = .ok (.aload_n 0, 1) := by decide +kernel
theorem kd_Ps_namedOperand_82 : decode kc_Ps_namedOperand 82 = .ok (.getfield 23, 3) := by decide +kernel
theorem kd_Ps_namedOperand_85 : decode kc_Ps_namedOperand 85 = .ok (.iaload, 1) := by decide +kernel
theorem kd_Ps_namedOperand_86 : decode kc_Ps_namedOperand 86 = .ok (.invokevirtual 49, 3) := by decide +kernel
theorem kd_Ps_namedOperand_89 : decode kc_Ps_namedOperand 89 = .ok (.invokevirtual 57, 3) := by decide +kernel
theorem kd_Ps_namedOperand_92 : decode kc_Ps_namedOperand 92 = .ok (.pop, 1) := by decide +kernel
theorem kd_Ps_namedOperand_93 : decode kc_Ps_namedOperand 93 = .ok (.aload_n 0, 1) := by decide +kernel
theorem kd_Ps_namedOperand_94 : decode kc_Ps_namedOperand 94 = .ok (.bipush 8, 2) := by decide +kernel
theorem kd_Ps_namedOperand_96 : decode kc_Ps_namedOperand 96 = .ok (.invokevirtual 68, 3) := by decide +kernel
theorem kd_Ps_namedOperand_99 : decode kc_Ps_namedOperand 99 = .ok (.goto 191, 3) := by decide +kernel
theorem kd_Ps_namedOperand_102 : decode kc_Ps_namedOperand 102 = .ok (.aload_n 0, 1) := by decide +kernel
theorem kd_Ps_namedOperand_103 : decode kc_Ps_namedOperand 103 = .ok (.getfield 32, 3) := by decide +kernel
theorem kd_Ps_namedOperand_106 : decode kc_Ps_namedOperand 106 = .ok (.bipush 91, 2) := by decide +kernel
theorem kd_Ps_namedOperand_108 : decode kc_Ps_namedOperand 108 = .ok (.if_icmp .ne 58, 3) := by decide +kernel
theorem kd_Ps_namedOperand_111 : decode kc_Ps_namedOperand 111 = .ok (.aload_n 0, 1) := by decide +kernel
theorem kd_Ps_namedOperand_112 : decode kc_Ps_namedOperand 112 = .ok (.getfield 15, 3) := by decide +kernel
theorem kd_Ps_namedOperand_115 : decode kc_Ps_namedOperand 115 = .ok (.getfield 132, 3) := by decide +kernel
theorem kd_Ps_namedOperand_118 : decode kc_Ps_namedOperand 118 = .ok (.iload_n 1, 1) := by decide +kernel
theorem kd_Ps_namedOperand_119 : decode kc_Ps_namedOperand 119 = .ok (.bipush 32, 2) := by decide +kernel
theorem kd_Ps_namedOperand_121 : decode kc_Ps_namedOperand 121 = .ok (.bastore, 1) := by decide +kernel
theorem kd_Ps_namedOperand_122 : decode kc_Ps_namedOperand 122 = .ok (.aload_n 0, 1) := by decide +kernel
theorem kd_Ps_namedOperand_123 : decode kc_Ps_namedOperand 123 = .ok (.invokevirtual 119, 3) := by decide +kernel
theorem kd_Ps_namedOperand_126 : decode kc_Ps_namedOperand 126 = .ok (.aload_n 0, 1) := by decide +kernel
theorem kd_Ps_namedOperand_127 : decode kc_Ps_namedOperand 127 = .ok (.bipush 91, 2) := by decide +kernel
theorem kd_Ps_namedOperand_129 : decode kc_Ps_namedOperand 129 = .ok (.invokevirtual 68, 3) := by decide +kernel
theorem kd_Ps_namedOperand_132 : decode kc_Ps_namedOperand 132 = .ok (.aload_n 0, 1) := by decide +kernel
theorem kd_Ps_namedOperand_133 : decode kc_Ps_namedOperand 133 = .ok (.getfield 15, 3) := by decide +kernel
theorem kd_Ps_namedOperand_136 : decode kc_Ps_namedOperand 136 = .ok (.iload_n 1, 1) := by decide +kernel
theorem kd_Ps_namedOperand_137 : decode kc_Ps_namedOperand 137 = .ok (.iconst (-1), 1) := by decide +kernel
theorem kd_Ps_namedOperand_138 : decode kc_Ps_namedOperand 138 = .ok (.aload_n 0, 1) := by decide +kernel
theorem kd_Ps_namedOperand_139 : decode kc_Ps_namedOperand 139 = .ok (.iconst 0, 1) := by decide +kernel
theorem kd_Ps_namedOperand_140 : decode kc_Ps_namedOperand 140 = .ok (.invokevirtual 135, 3) := by decide +kernel
theorem kd_Ps_namedOperand_143 : decode kc_Ps_namedOperand 143 = .ok (.invokevirtual 57, 3) := by decide +kernel
theorem kd_Ps_namedOperand_146 : decode kc_Ps_namedOperand 146 = .ok (.pop, 1) := by decide +kernel
theorem kd_Ps_namedOperand_147 : decode kc_Ps_namedOperand 147 = .ok (.aload_n 0, 1) := by decide +kernel
theorem kd_Ps_namedOperand_148 : decode kc_Ps_namedOperand 148 = .ok (.bipush 93, 2) := by decide +kernel
theorem kd_Ps_namedOperand_150 : decode kc_Ps_namedOperand 150 = .ok (.invokevirtual 68, 3) := by decide +kernel
theorem kd_Ps_namedOperand_153 : decode kc_Ps_namedOperand 153 = .ok (.aload_n 0, 1) := by decide +kernel
theorem kd_Ps_namedOperand_154 : decode kc_Ps_namedOperand 154 = .ok (.dup, 1) := by decide +kernel
theorem kd_Ps_namedOperand_155 : decode kc_Ps_namedOperand 155 = .ok (.getfield 41, 3) := by decide +kernel
theorem kd_Ps_namedOperand_158 : decode kc_Ps_namedOperand 158 = .ok (.iconst 1, 1) := by decide +kernel
theorem kd_Ps_namedOperand_159 : decode kc_Ps_namedOperand 159 = .ok (.isub, 1) := by decide +kernel
theorem kd_Ps_namedOperand_160 : decode kc_Ps_namedOperand 160 = .ok (.putfield 41, 3) := by decide +kernel
theorem kd_Ps_namedOperand_163 : decode kc_Ps_namedOperand 163 = .ok (.goto 127, 3) := by decide +kernel
theorem kd_Ps_namedOperand_166 : decode kc_Ps_namedOperand 166 = .ok (.aload_n 0, 1) := by decide +kernel
theorem kd_Ps_namedOperand_167 : decode kc_Ps_namedOperand 167 = .ok (.getfield 32, 3) := by decide +kernel
theorem kd_Ps_namedOperand_170 : decode kc_Ps_namedOperand 170 = .ok (.bipush 40, 2) := by decide +kernel
theorem kd_Ps_namedOperand_172 : decode kc_Ps_namedOperand 172 = .ok (.if_icmp .ne 118, 3) := by decide +kernel
theorem kd_Ps_namedOperand_175 : decode kc_Ps_namedOperand 175 = .ok (.aload_n 0, 1) := by decide +kernel
theorem kd_Ps_namedOperand_176 : decode kc_Ps_namedOperand 176 = .ok (.getfield 15, 3) := by decide +kernel
theorem kd_Ps_namedOperand_179 : decode kc_Ps_namedOperand 179 = .ok (.getfield 132, 3) := by decide +kernel
theorem kd_Ps_namedOperand_182 : decode kc_Ps_namedOperand 182 = .ok (.iload_n 1, 1) := by decide +kernel
theorem kd_Ps_namedOperand_183 : decode kc_Ps_namedOperand 183 = .ok (.bipush 34, 2) := by decide +kernel
theorem kd_Ps_namedOperand_185 : decode kc_Ps_namedOperand 185 = .ok (.bastore, 1) := by decide +kernel
theorem kd_Ps_namedOperand_186 : decode kc_Ps_namedOperand 186 = .ok (.aload_n 0, 1) := by decide +kernel
theorem kd_Ps_namedOperand_187 : decode kc_Ps_namedOperand 187 = .ok (.invokevirtual 119, 3) := by decide +kernel
theorem kd_Ps_namedOperand_190 : decode kc_Ps_namedOperand 190 = .ok (.aload_n 0, 1) := by decide +kernel
theorem kd_Ps_namedOperand_191 : decode kc_Ps_namedOperand 191 = .ok (.bipush 40, 2) := by decide +kernel
theorem kd_Ps_namedOperand_193 : decode kc_Ps_namedOperand 193 = .ok (.invokevirtual 68, 3) := by decide +kernel
theorem kd_Ps_namedOperand_196 : decode kc_Ps_namedOperand 196 = .ok (.iconst (-1), 1) := by decide +kernel
theorem kd_Ps_namedOperand_197 : decode kc_Ps_namedOperand 197 = .ok (.istore_n 2, 1) := by decide +kernel
theorem kd_Ps_namedOperand_198 : decode kc_Ps_namedOperand 198 = .ok (.aload_n 0, 1) := by decide +kernel
theorem kd_Ps_namedOperand_199 : decode kc_Ps_namedOperand 199 = .ok (.getfield 32, 3) := by decide +kernel
theorem kd_Ps_namedOperand_202 : decode kc_Ps_namedOperand 202 = .ok (.bipush 41, 2) := by decide +kernel
theorem kd_Ps_namedOperand_204 : decode kc_Ps_namedOperand 204 = .ok (.if_icmp .eq 7, 3) := by decide +kernel
theorem kd_Ps_namedOperand_207 : decode kc_Ps_namedOperand 207 = .ok (.iconst 1, 1) := by decide +kernel
theorem kd_Ps_namedOperand_208 : decode kc_Ps_namedOperand 208 = .ok (.goto 4, 3) := by decide +kernel
theorem kd_Ps_namedOperand_211 : decode kc_Ps_namedOperand 211 = .ok (.iconst 0, 1) := by decide +kernel
theorem kd_Ps_namedOperand_212 : decode kc_Ps_namedOperand 212 = .ok (.istore_n 3, 1) := by decide +kernel
theorem kd_Ps_namedOperand_213 : decode kc_Ps_namedOperand 213 = .ok (.iconst 0, 1) := by decide +kernel
theorem kd_Ps_namedOperand_214 : decode kc_Ps_namedOperand 214 = .ok (.istore 4, 2) := by decide +kernel
theorem kd_Ps_namedOperand_216 : decode kc_Ps_namedOperand 216 = .ok (.iload 4, 2) := by decide +kernel
theorem kd_Ps_namedOperand_218 : decode kc_Ps_namedOperand 218 = .ok (.sipush 16384, 3) := by decide +kernel
theorem kd_Ps_namedOperand_221 : decode kc_Ps_namedOperand 221 = .ok (.if_icmp .ge 53, 3) := by decide +kernel
theorem kd_Ps_namedOperand_224 : decode kc_Ps_namedOperand 224 = .ok (.iload_n 3, 1) := by decide +kernel
theorem kd_Ps_namedOperand_225 : decode kc_Ps_namedOperand 225 = .ok (.ifCond .eq 49, 3) := by decide +kernel
theorem kd_Ps_namedOperand_228 : decode kc_Ps_namedOperand 228 = .ok (.aload_n 0, 1) := by decide +kernel
theorem kd_Ps_namedOperand_229 : decode kc_Ps_namedOperand 229 = .ok (.getfield 15, 3) := by decide +kernel
theorem kd_Ps_namedOperand_232 : decode kc_Ps_namedOperand 232 = .ok (.iload_n 1, 1) := by decide +kernel
theorem kd_Ps_namedOperand_233 : decode kc_Ps_namedOperand 233 = .ok (.iload_n 2, 1) := by decide +kernel
theorem kd_Ps_namedOperand_234 : decode kc_Ps_namedOperand 234 = .ok (.aload_n 0, 1) := by decide +kernel
theorem kd_Ps_namedOperand_235 : decode kc_Ps_namedOperand 235 = .ok (.iconst 0, 1) := by decide +kernel
theorem kd_Ps_namedOperand_236 : decode kc_Ps_namedOperand 236 = .ok (.invokevirtual 135, 3) := by decide +kernel
theorem kd_Ps_namedOperand_239 : decode kc_Ps_namedOperand 239 = .ok (.invokevirtual 57, 3) := by decide +kernel
theorem kd_Ps_namedOperand_242 : decode kc_Ps_namedOperand 242 = .ok (.istore_n 2, 1) := by decide +kernel
theorem kd_Ps_namedOperand_243 : decode kc_Ps_namedOperand 243 = .ok (.aload_n 0, 1) := by decide +kernel
theorem kd_Ps_namedOperand_244 : decode kc_Ps_namedOperand 244 = .ok (.getfield 32, 3) := by decide +kernel
theorem kd_Ps_namedOperand_247 : decode kc_Ps_namedOperand 247 = .ok (.bipush 44, 2) := by decide +kernel
theorem kd_Ps_namedOperand_249 : decode kc_Ps_namedOperand 249 = .ok (.if_icmp .ne 7, 3) := by decide +kernel
theorem kd_Ps_namedOperand_252 : decode kc_Ps_namedOperand 252 = .ok (.iconst 1, 1) := by decide +kernel
theorem kd_Ps_namedOperand_253 : decode kc_Ps_namedOperand 253 = .ok (.goto 4, 3) := by decide +kernel
theorem kd_Ps_namedOperand_256 : decode kc_Ps_namedOperand 256 = .ok (.iconst 0, 1) := by decide +kernel
theorem kd_Ps_namedOperand_257 : decode kc_Ps_namedOperand 257 = .ok (.istore_n 3, 1) := by decide +kernel
theorem kd_Ps_namedOperand_258 : decode kc_Ps_namedOperand 258 = .ok (.iload_n 3, 1) := by decide +kernel
theorem kd_Ps_namedOperand_259 : decode kc_Ps_namedOperand 259 = .ok (.ifCond .eq 9, 3) := by decide +kernel
theorem kd_Ps_namedOperand_262 : decode kc_Ps_namedOperand 262 = .ok (.aload_n 0, 1) := by decide +kernel
theorem kd_Ps_namedOperand_263 : decode kc_Ps_namedOperand 263 = .ok (.bipush 44, 2) := by decide +kernel
theorem kd_Ps_namedOperand_265 : decode kc_Ps_namedOperand 265 = .ok (.invokevirtual 68, 3) := by decide +kernel
theorem kd_Ps_namedOperand_268 : decode kc_Ps_namedOperand 268 = .ok (.iinc 4 1, 3) := by decide +kernel
theorem kd_Ps_namedOperand_271 : decode kc_Ps_namedOperand 271 = .ok (.goto (-55), 3) := by decide +kernel
theorem kd_Ps_namedOperand_274 : decode kc_Ps_namedOperand 274 = .ok (.aload_n 0, 1) := by decide +kernel
theorem kd_Ps_namedOperand_275 : decode kc_Ps_namedOperand 275 = .ok (.bipush 41, 2) := by decide +kernel
theorem kd_Ps_namedOperand_277 : decode kc_Ps_namedOperand 277 = .ok (.invokevirtual 68, 3) := by decide +kernel
theorem kd_Ps_namedOperand_280 : decode kc_Ps_namedOperand 280 = .ok (.aload_n 0, 1) := by decide +kernel
theorem kd_Ps_namedOperand_281 : decode kc_Ps_namedOperand 281 = .ok (.dup, 1) := by decide +kernel
theorem kd_Ps_namedOperand_282 : decode kc_Ps_namedOperand 282 = .ok (.getfield 41, 3) := by decide +kernel
theorem kd_Ps_namedOperand_285 : decode kc_Ps_namedOperand 285 = .ok (.iconst 1, 1) := by decide +kernel
theorem kd_Ps_namedOperand_286 : decode kc_Ps_namedOperand 286 = .ok (.isub, 1) := by decide +kernel
theorem kd_Ps_namedOperand_287 : decode kc_Ps_namedOperand 287 = .ok (.putfield 41, 3) := by decide +kernel
theorem kd_Ps_namedOperand_290 : decode kc_Ps_namedOperand 290 = .ok (.iload_n 1, 1) := by decide +kernel
theorem kd_Ps_namedOperand_291 : decode kc_Ps_namedOperand 291 = .ok (.ireturn, 1) := by decide +kernel
theorem kd_Ps_operand_0 : decode kc_Ps_operand 0 = .ok (.aload_n 0, 1) := by decide +kernel
theorem kd_Ps_operand_1 : decode kc_Ps_operand 1 = .ok (.getfield 32, 3) := by decide +kernel
theorem kd_Ps_operand_4 : decode kc_Ps_operand 4 = .ok (.lookupswitch 204 #[(8, 199), (40, 126), (45, 60), (162, 60), (163, 160), (164, 160)], 60) := by decide +kernel
theorem kd_Ps_operand_64 : decode kc_Ps_operand 64 = .ok (.aload_n 0, 1) := by decide +kernel
theorem kd_Ps_operand_65 : decode kc_Ps_operand 65 = .ok (.getfield 15, 3) := by decide +kernel
theorem kd_Ps_operand_68 : decode kc_Ps_operand 68 = .ok (.bipush 36, 2) := by decide +kernel
theorem kd_Ps_operand_70 : decode kc_Ps_operand 70 = .ok (.aload_n 0, 1) := by decide +kernel
theorem kd_Ps_operand_71 : decode kc_Ps_operand 71 = .ok (.getfield 38, 3) := by decide +kernel
theorem kd_Ps_operand_74 : decode kc_Ps_operand 74 = .ok (.aload_n 0, 1) := by decide +kernel
theorem kd_Ps_operand_75 : decode kc_Ps_operand 75 = .ok (.getfield 32, 3) := by decide +kernel
theorem kd_Ps_operand_78 : decode kc_Ps_operand 78 = .ok (.bipush 45, 2) := by decide +kernel
theorem kd_Ps_operand_80 : decode kc_Ps_operand 80 = .ok (.if_icmp .ne 7, 3) := by decide +kernel
theorem kd_Ps_operand_83 : decode kc_Ps_operand 83 = .ok (.iconst 0, 1) := by decide +kernel
theorem kd_Ps_operand_84 : decode kc_Ps_operand 84 = .ok (.goto 4, 3) := by decide +kernel
theorem kd_Ps_operand_87 : decode kc_Ps_operand 87 = .ok (.iconst 1, 1) := by decide +kernel
theorem kd_Ps_operand_88 : decode kc_Ps_operand 88 = .ok (.invokevirtual 49, 3) := by decide +kernel
theorem kd_Ps_operand_91 : decode kc_Ps_operand 91 = .ok (.istore_n 1, 1) := by decide +kernel
theorem kd_Ps_operand_92 : decode kc_Ps_operand 92 = .ok (.aload_n 0, 1) := by decide +kernel
theorem kd_Ps_operand_93 : decode kc_Ps_operand 93 = .ok (.invokevirtual 119, 3) := by decide +kernel
theorem kd_Ps_operand_96 : decode kc_Ps_operand 96 = .ok (.aload_n 0, 1) := by decide +kernel
theorem kd_Ps_operand_97 : decode kc_Ps_operand 97 = .ok (.aload_n 0, 1) := by decide +kernel
theorem kd_Ps_operand_98 : decode kc_Ps_operand 98 = .ok (.getfield 32, 3) := by decide +kernel
theorem kd_Ps_operand_101 : decode kc_Ps_operand 101 = .ok (.invokevirtual 68, 3) := by decide +kernel
theorem kd_Ps_operand_104 : decode kc_Ps_operand 104 = .ok (.aload_n 0, 1) := by decide +kernel
theorem kd_Ps_operand_105 : decode kc_Ps_operand 105 = .ok (.getfield 15, 3) := by decide +kernel
theorem kd_Ps_operand_108 : decode kc_Ps_operand 108 = .ok (.iload_n 1, 1) := by decide +kernel
theorem kd_Ps_operand_109 : decode kc_Ps_operand 109 = .ok (.iconst (-1), 1) := by decide +kernel
theorem kd_Ps_operand_110 : decode kc_Ps_operand 110 = .ok (.aload_n 0, 1) := by decide +kernel
theorem kd_Ps_operand_111 : decode kc_Ps_operand 111 = .ok (.invokevirtual 138, 3) := by decide +kernel
theorem kd_Ps_operand_114 : decode kc_Ps_operand 114 = .ok (.invokevirtual 57, 3) := by decide +kernel
theorem kd_Ps_operand_117 : decode kc_Ps_operand 117 = .ok (.pop, 1) := by decide +kernel
theorem kd_Ps_operand_118 : decode kc_Ps_operand 118 = .ok (.aload_n 0, 1) := by decide +kernel
theorem kd_Ps_operand_119 : decode kc_Ps_operand 119 = .ok (.dup, 1) := by decide +kernel
theorem kd_Ps_operand_120 : decode kc_Ps_operand 120 = .ok (.getfield 41, 3) := by decide +kernel
theorem kd_Ps_operand_123 : decode kc_Ps_operand 123 = .ok (.iconst 1, 1) := by decide +kernel
theorem kd_Ps_operand_124 : decode kc_Ps_operand 124 = .ok (.isub, 1) := by decide +kernel
theorem kd_Ps_operand_125 : decode kc_Ps_operand 125 = .ok (.putfield 41, 3) := by decide +kernel
theorem kd_Ps_operand_128 : decode kc_Ps_operand 128 = .ok (.iload_n 1, 1) := by decide +kernel
theorem kd_Ps_operand_129 : decode kc_Ps_operand 129 = .ok (.ireturn, 1) := by decide +kernel
theorem kd_Ps_operand_130 : decode kc_Ps_operand 130 = .ok (.aload_n 0, 1) := by decide +kernel
theorem kd_Ps_operand_131 : decode kc_Ps_operand 131 = .ok (.invokevirtual 119, 3) := by decide +kernel
theorem kd_Ps_operand_134 : decode kc_Ps_operand 134 = .ok (.aload_n 0, 1) := by decide +kernel
theorem kd_Ps_operand_135 : decode kc_Ps_operand 135 = .ok (.bipush 40, 2) := by decide +kernel
theorem kd_Ps_operand_137 : decode kc_Ps_operand 137 = .ok (.invokevirtual 68, 3) := by decide +kernel
theorem kd_Ps_operand_140 : decode kc_Ps_operand 140 = .ok (.aload_n 0, 1) := by decide +kernel
theorem kd_Ps_operand_141 : decode kc_Ps_operand 141 = .ok (.iconst 0, 1) := by decide +kernel
theorem kd_Ps_operand_142 : decode kc_Ps_operand 142 = .ok (.invokevirtual 135, 3) := by decide +kernel
theorem kd_Ps_operand_145 : decode kc_Ps_operand 145 = .ok (.istore_n 1, 1) := by decide +kernel
theorem kd_Ps_operand_146 : decode kc_Ps_operand 146 = .ok (.aload_n 0, 1) := by decide +kernel
theorem kd_Ps_operand_147 : decode kc_Ps_operand 147 = .ok (.bipush 41, 2) := by decide +kernel
theorem kd_Ps_operand_149 : decode kc_Ps_operand 149 = .ok (.invokevirtual 68, 3) := by decide +kernel
theorem kd_Ps_operand_152 : decode kc_Ps_operand 152 = .ok (.aload_n 0, 1) := by decide +kernel
theorem kd_Ps_operand_153 : decode kc_Ps_operand 153 = .ok (.dup, 1) := by decide +kernel
theorem kd_Ps_operand_154 : decode kc_Ps_operand 154 = .ok (.getfield 41, 3) := by decide +kernel
theorem kd_Ps_operand_157 : decode kc_Ps_operand 157 = .ok (.iconst 1, 1) := by decide +kernel
theorem kd_Ps_operand_158 : decode kc_Ps_operand 158 = .ok (.isub, 1) := by decide +kernel
theorem kd_Ps_operand_159 : decode kc_Ps_operand 159 = .ok (.putfield 41, 3) := by decide +kernel
theorem kd_Ps_operand_162 : decode kc_Ps_operand 162 = .ok (.iload_n 1, 1) := by decide +kernel
theorem kd_Ps_operand_163 : decode kc_Ps_operand 163 = .ok (.ireturn, 1) := by decide +kernel
theorem kd_Ps_operand_164 : decode kc_Ps_operand 164 = .ok (.aload_n 0, 1) := by decide +kernel
theorem kd_Ps_operand_165 : decode kc_Ps_operand 165 = .ok (.getfield 15, 3) := by decide +kernel
theorem kd_Ps_operand_168 : decode kc_Ps_operand 168 = .ok (.bipush 31, 2) := by decide +kernel
theorem kd_Ps_operand_170 : decode kc_Ps_operand 170 = .ok (.aload_n 0, 1) := by decide +kernel
theorem kd_Ps_operand_171 : decode kc_Ps_operand 171 = .ok (.getfield 38, 3) := by decide +kernel
theorem kd_Ps_operand_174 : decode kc_Ps_operand 174 = .ok (.aload_n 0, 1) := by decide +kernel
theorem kd_Ps_operand_175 : decode kc_Ps_operand 175 = .ok (.getfield 32, 3) := by decide +kernel
theorem kd_Ps_operand_178 : decode kc_Ps_operand 178 = .ok (.sipush 163, 3) := by decide +kernel
theorem kd_Ps_operand_181 : decode kc_Ps_operand 181 = .ok (.if_icmp .ne 7, 3) := by decide +kernel
theorem kd_Ps_operand_184 : decode kc_Ps_operand 184 = .ok (.iconst 1, 1) := by decide +kernel
theorem kd_Ps_operand_185 : decode kc_Ps_operand 185 = .ok (.goto 4, 3) := by decide +kernel
theorem kd_Ps_operand_188 : decode kc_Ps_operand 188 = .ok (.iconst 0, 1) := by decide +kernel
theorem kd_Ps_operand_189 : decode kc_Ps_operand 189 = .ok (.invokevirtual 49, 3) := by decide +kernel
theorem kd_Ps_operand_192 : decode kc_Ps_operand 192 = .ok (.istore_n 1, 1) := by decide +kernel
theorem kd_Ps_operand_193 : decode kc_Ps_operand 193 = .ok (.aload_n 0, 1) := by decide +kernel
theorem kd_Ps_operand_194 : decode kc_Ps_operand 194 = .ok (.aload_n 0, 1) := by decide +kernel
theorem kd_Ps_operand_195 : decode kc_Ps_operand 195 = .ok (.getfield 32, 3) := by decide +kernel
theorem kd_Ps_operand_198 : decode kc_Ps_operand 198 = .ok (.invokevirtual 68, 3) := by decide +kernel
theorem kd_Ps_operand_201 : decode kc_Ps_operand 201 = .ok (.iload_n 1, 1) := by decide +kernel
theorem kd_Ps_operand_202 : decode kc_Ps_operand 202 = .ok (.ireturn, 1) := by decide +kernel
theorem kd_Ps_operand_203 : decode kc_Ps_operand 203 = .ok (.aload_n 0, 1) := by decide +kernel
theorem kd_Ps_operand_204 : decode kc_Ps_operand 204 = .ok (.invokevirtual 147, 3) := by decide +kernel
theorem kd_Ps_operand_207 : decode kc_Ps_operand 207 = .ok (.ireturn, 1) := by decide +kernel
theorem kd_Ps_operand_208 : decode kc_Ps_operand 208 = .ok (.aload_n 0, 1) := by decide +kernel
theorem kd_Ps_operand_209 : decode kc_Ps_operand 209 = .ok (.getfield 15, 3) := by decide +kernel
theorem kd_Ps_operand_212 : decode kc_Ps_operand 212 = .ok (.bipush 30, 2) := by decide +kernel
theorem kd_Ps_operand_214 : decode kc_Ps_operand 214 = .ok (.aload_n 0, 1) := by decide +kernel
theorem kd_Ps_operand_215 : decode kc_Ps_operand 215 = .ok (.getfield 38, 3) := by decide +kernel
theorem kd_Ps_operand_218 : decode kc_Ps_operand 218 = .ok (.aload_n 0, 1) := by decide +kernel
theorem kd_Ps_operand_219 : decode kc_Ps_operand 219 = .ok (.getfield 9, 3) := by decide +kernel
theorem kd_Ps_operand_222 : decode kc_Ps_operand 222 = .ok (.getfield 61, 3) := by decide +kernel
theorem kd_Ps_operand_225 : decode kc_Ps_operand 225 = .ok (.aload_n 0, 1) := by decide +kernel
theorem kd_Ps_operand_226 : decode kc_Ps_operand 226 = .ok (.getfield 23, 3) := by decide +kernel
theorem kd_Ps_operand_229 : decode kc_Ps_operand 229 = .ok (.iaload, 1) := by decide +kernel
theorem kd_Ps_operand_230 : decode kc_Ps_operand 230 = .ok (.invokevirtual 49, 3) := by decide +kernel
theorem kd_Ps_operand_233 : decode kc_Ps_operand 233 = .ok (.istore_n 1, 1) := by decide +kernel
theorem kd_Ps_operand_234 : decode kc_Ps_operand 234 = .ok (.aload_n 0, 1) := by decide +kernel
theorem kd_Ps_operand_235 : decode kc_Ps_operand 235 = .ok (.bipush 9, 2) := by decide +kernel
theorem kd_Ps_operand_237 : decode kc_Ps_operand 237 = .ok (.invokevirtual 68, 3) := by decide +kernel
theorem kd_Ps_operand_240 : decode kc_Ps_operand 240 = .ok (.iload_n 1, 1) := by decide +kernel
theorem kd_Ps_operand_241 : decode kc_Ps_operand 241 = .ok (.ireturn, 1) := by decide +kernel
theorem kd_Ps_ranges_0 : decode kc_Ps_ranges 0 = .ok (.iconst (-1), 1) := by decide +kernel
theorem kd_Ps_ranges_1 : decode kc_Ps_ranges 1 = .ok (.istore_n 2, 1) := by decide +kernel
theorem kd_Ps_ranges_2 : decode kc_Ps_ranges 2 = .ok (.iconst 1, 1) := by decide +kernel
theorem kd_Ps_ranges_3 : decode kc_Ps_ranges 3 = .ok (.istore_n 3, 1) := by decide +kernel
theorem kd_Ps_ranges_4 : decode kc_Ps_ranges 4 = .ok (.iconst 0, 1) := by decide +kernel
theorem kd_Ps_ranges_5 : decode kc_Ps_ranges 5 = .ok (.istore 4, 2) := by decide +kernel
theorem kd_Ps_ranges_7 : decode kc_Ps_ranges 7 = .ok (.iload 4, 2) := by decide +kernel
theorem kd_Ps_ranges_9 : decode kc_Ps_ranges 9 = .ok (.sipush 16384, 3) := by decide +kernel
theorem kd_Ps_ranges_12 : decode kc_Ps_ranges 12 = .ok (.if_icmp .ge 116, 3) := by decide +kernel
theorem kd_Ps_ranges_15 : decode kc_Ps_ranges 15 = .ok (.iload_n 3, 1) := by decide +kernel
theorem kd_Ps_ranges_16 : decode kc_Ps_ranges 16 = .ok (.ifCond .eq 112, 3) := by decide +kernel
theorem kd_Ps_ranges_19 : decode kc_Ps_ranges 19 = .ok (.aload_n 0, 1) := by decide +kernel
theorem kd_Ps_ranges_20 : decode kc_Ps_ranges 20 = .ok (.getfield 15, 3) := by decide +kernel
theorem kd_Ps_ranges_23 : decode kc_Ps_ranges 23 = .ok (.bipush 18, 2) := by decide +kernel
theorem kd_Ps_ranges_25 : decode kc_Ps_ranges 25 = .ok (.aload_n 0, 1) := by decide +kernel
theorem kd_Ps_ranges_26 : decode kc_Ps_ranges 26 = .ok (.getfield 38, 3) := by decide +kernel
theorem kd_Ps_ranges_29 : decode kc_Ps_ranges 29 = .ok (.iconst 0, 1) := by decide +kernel
theorem kd_Ps_ranges_30 : decode kc_Ps_ranges 30 = .ok (.invokevirtual 49, 3) := by decide +kernel
theorem kd_Ps_ranges_33 : decode kc_Ps_ranges 33 = .ok (.istore 5, 2) := by decide +kernel
theorem kd_Ps_ranges_35 : decode kc_Ps_ranges 35 = .ok (.aload_n 0, 1) := by decide +kernel
theorem kd_Ps_ranges_36 : decode kc_Ps_ranges 36 = .ok (.getfield 15, 3) := by decide +kernel
theorem kd_Ps_ranges_39 : decode kc_Ps_ranges 39 = .ok (.iload 5, 2) := by decide +kernel
theorem kd_Ps_ranges_41 : decode kc_Ps_ranges 41 = .ok (.iconst (-1), 1) := by decide +kernel
theorem kd_Ps_ranges_42 : decode kc_Ps_ranges 42 = .ok (.aload_n 0, 1) := by decide +kernel
theorem kd_Ps_ranges_43 : decode kc_Ps_ranges 43 = .ok (.invokevirtual 95, 3) := by decide +kernel
theorem kd_Ps_ranges_46 : decode kc_Ps_ranges 46 = .ok (.invokevirtual 57, 3) := by decide +kernel
theorem kd_Ps_ranges_49 : decode kc_Ps_ranges 49 = .ok (.istore 6, 2) := by decide +kernel
theorem kd_Ps_ranges_51 : decode kc_Ps_ranges 51 = .ok (.aload_n 0, 1) := by decide +kernel
theorem kd_Ps_ranges_52 : decode kc_Ps_ranges 52 = .ok (.getfield 32, 3) := by decide +kernel
theorem kd_Ps_ranges_55 : decode kc_Ps_ranges 55 = .ok (.iconst 2, 1) := by decide +kernel
theorem kd_Ps_ranges_56 : decode kc_Ps_ranges 56 = .ok (.if_icmp .ne 24, 3) := by decide +kernel
theorem kd_Ps_ranges_59 : decode kc_Ps_ranges 59 = .ok (.aload_n 0, 1) := by decide +kernel
theorem kd_Ps_ranges_60 : decode kc_Ps_ranges 60 = .ok (.iconst 2, 1) := by decide +kernel
theorem kd_Ps_ranges_61 : decode kc_Ps_ranges 61 = .ok (.invokevirtual 68, 3) := by decide +kernel
theorem kd_Ps_ranges_64 : decode kc_Ps_ranges 64 = .ok (.aload_n 0, 1) := by decide +kernel
theorem kd_Ps_ranges_65 : decode kc_Ps_ranges 65 = .ok (.getfield 15, 3) := by decide +kernel
theorem kd_Ps_ranges_68 : decode kc_Ps_ranges 68 = .ok (.iload 5, 2) := by decide +kernel
theorem kd_Ps_ranges_70 : decode kc_Ps_ranges 70 = .ok (.iload 6, 2) := by decide +kernel
theorem kd_Ps_ranges_72 : decode kc_Ps_ranges 72 = .ok (.aload_n 0, 1) := by decide +kernel
theorem kd_Ps_ranges_73 : decode kc_Ps_ranges 73 = .ok (.invokevirtual 95, 3) := by decide +kernel
theorem kd_Ps_ranges_76 : decode kc_Ps_ranges 76 = .ok (.invokevirtual 57, 3) := by decide +kernel
theorem kd_Ps_ranges_79 : decode kc_Ps_ranges 79 = .ok (.pop, 1) := by decide +kernel
theorem kd_Ps_ranges_80 : decode kc_Ps_ranges 80 = .ok (.aload_n 0, 1) := by decide +kernel
theorem kd_Ps_ranges_81 : decode kc_Ps_ranges 81 = .ok (.getfield 15, 3) := by decide +kernel
theorem kd_Ps_ranges_84 : decode kc_Ps_ranges 84 = .ok (.iload_n 1, 1) := by decide +kernel
theorem kd_Ps_ranges_85 : decode kc_Ps_ranges 85 = .ok (.iload_n 2, 1) := by decide +kernel
theorem kd_Ps_ranges_86 : decode kc_Ps_ranges 86 = .ok (.iload 5, 2) := by decide +kernel
theorem kd_Ps_ranges_88 : decode kc_Ps_ranges 88 = .ok (.invokevirtual 57, 3) := by decide +kernel
theorem kd_Ps_ranges_91 : decode kc_Ps_ranges 91 = .ok (.istore_n 2, 1) := by decide +kernel
theorem kd_Ps_ranges_92 : decode kc_Ps_ranges 92 = .ok (.aload_n 0, 1) := by decide +kernel
theorem kd_Ps_ranges_93 : decode kc_Ps_ranges 93 = .ok (.getfield 32, 3) := by decide +kernel
theorem kd_Ps_ranges_96 : decode kc_Ps_ranges 96 = .ok (.bipush 44, 2) := by decide +kernel
theorem kd_Ps_ranges_98 : decode kc_Ps_ranges 98 = .ok (.if_icmp .ne 7, 3) := by decide +kernel
theorem kd_Ps_ranges_101 : decode kc_Ps_ranges 101 = .ok (.iconst 1, 1) := by decide +kernel
theorem kd_Ps_ranges_102 : decode kc_Ps_ranges 102 = .ok (.goto 4, 3) := by decide +kernel
theorem kd_Ps_ranges_105 : decode kc_Ps_ranges 105 = .ok (.iconst 0, 1) := by decide +kernel
theorem kd_Ps_ranges_106 : decode kc_Ps_ranges 106 = .ok (.istore_n 3, 1) := by decide +kernel
theorem kd_Ps_ranges_107 : decode kc_Ps_ranges 107 = .ok (.aload_n 0, 1) := by decide +kernel
theorem kd_Ps_ranges_108 : decode kc_Ps_ranges 108 = .ok (.iload_n 3, 1) := by decide +kernel
theorem kd_Ps_ranges_109 : decode kc_Ps_ranges 109 = .ok (.ifCond .eq 8, 3) := by decide +kernel
theorem kd_Ps_ranges_112 : decode kc_Ps_ranges 112 = .ok (.bipush 44, 2) := by decide +kernel
theorem kd_Ps_ranges_114 : decode kc_Ps_ranges 114 = .ok (.goto 5, 3) := by decide +kernel
theorem kd_Ps_ranges_117 : decode kc_Ps_ranges 117 = .ok (.bipush 58, 2) := by decide +kernel
theorem kd_Ps_ranges_119 : decode kc_Ps_ranges 119 = .ok (.invokevirtual 68, 3) := by decide +kernel
theorem kd_Ps_ranges_122 : decode kc_Ps_ranges 122 = .ok (.iinc 4 1, 3) := by decide +kernel
theorem kd_Ps_ranges_125 : decode kc_Ps_ranges 125 = .ok (.goto (-118), 3) := by decide +kernel
theorem kd_Ps_ranges_128 : decode kc_Ps_ranges 128 = .ok (.iload_n 2, 1) := by decide +kernel
theorem kd_Ps_ranges_129 : decode kc_Ps_ranges 129 = .ok (.ireturn, 1) := by decide +kernel
theorem kd_Ps_wholeExpression_0 : decode kc_Ps_wholeExpression 0 = .ok (.aload_n 0, 1) := by decide +kernel
theorem kd_Ps_wholeExpression_1 : decode kc_Ps_wholeExpression 1 = .ok (.getfield 41, 3) := by decide +kernel
theorem kd_Ps_wholeExpression_4 : decode kc_Ps_wholeExpression 4 = .ok (.istore_n 1, 1) := by decide +kernel
theorem kd_Ps_wholeExpression_5 : decode kc_Ps_wholeExpression 5 = .ok (.aload_n 0, 1) := by decide +kernel
theorem kd_Ps_wholeExpression_6 : decode kc_Ps_wholeExpression 6 = .ok (.iconst 0, 1) := by decide +kernel
theorem kd_Ps_wholeExpression_7 : decode kc_Ps_wholeExpression 7 = .ok (.invokevirtual 135, 3) := by decide +kernel
theorem kd_Ps_wholeExpression_10 : decode kc_Ps_wholeExpression 10 = .ok (.istore_n 2, 1) := by decide +kernel
theorem kd_Ps_wholeExpression_11 : decode kc_Ps_wholeExpression 11 = .ok (.aload_n 0, 1) := by decide +kernel
theorem kd_Ps_wholeExpression_12 : decode kc_Ps_wholeExpression 12 = .ok (.iload_n 1, 1) := by decide +kernel
theorem kd_Ps_wholeExpression_13 : decode kc_Ps_wholeExpression 13 = .ok (.putfield 41, 3) := by decide +kernel
theorem kd_Ps_wholeExpression_16 : decode kc_Ps_wholeExpression 16 = .ok (.iload_n 2, 1) := by decide +kernel
theorem kd_Ps_wholeExpression_17 : decode kc_Ps_wholeExpression 17 = .ok (.ireturn, 1) := by decide +kernel
set_option maxHeartbeats 4000000 in
set_option maxRecDepth 100000 in
theorem zb_Ps_expression_13 {X : zkj_T} {S : zs_T} {P : ze_T} {l : Launch} {D : va_G} {sz0 : Nat} {d : Nat} {rv : Int32} {rh : zs_H} (C : zk_C X km_Ps_expression (zs_G S l D sz0) { frames := 2 + (d + 1), cells := 0, slots := 0, locals := 47 + 25 * (d + 1) } (ze_E P)) (hR : zkj_R X (zd_PI S rv rh) (some .int)) {r_Ps_expression : zs_H → Int32 → (Option (Int32 × zs_H))} (hr_Ps_expression : ∀ (h : zs_H) (x0 : Int32) {rv : Int32} {rh : zs_H}, r_Ps_expression h x0 = some (rv, rh) → zk_Sp (zs_G S l D sz0) (ze_E P) km_Ps_expression { frames := 2 + d, cells := 0, slots := 0, locals := 47 + 25 * d } [.ref (S.1 19), .int x0] (zs_W S h) (zd_PI S rv rh)) {k13 : zs_H → Int32 → Int32 → Int32 → Int32 → (Option (Int32 × zs_H))} (hk13 : ∀ (h : zs_H) (x1 : Int32) (x2 : Int32) (x3 : Int32) (x4 : Int32), k13 h x1 x2 x3 x4 = some (rv, rh) → zk_Ab X (zs_W S h) 0 0 13 [(0, .ref (S.1 19)), (1, .int x1), (2, .int x2), (3, .int x3), (4, .int x4)] []) (h : zs_H) (x1 : Int32) (x2 : Int32) (x3 : Int32) (x4 : Int32) (e : f_Ps_expression_13 r_Ps_expression k13 h x1 x2 x3 x4 = some (rv, rh)) : zk_Ab X (zs_W S h) 0 0 13 [(0, .ref (S.1 19)), (1, .int x1), (2, .int x2), (3, .int x3), (4, .int x4)] [] := by
  unfold f_Ps_expression_13 at e
  refine zk_iload C kd_Ps_expression_13 4 rfl rfl ?_
  refine zk_sipush (v := 16384) C kd_Ps_expression_15 (by decide) rfl ?_
  refine zk_icmp_ge (tgt := 110) C kd_Ps_expression_18 (by decide) rfl (fun b1 => ?_) (fun b1 => ?_)
  · replace e := zd_pos b1 e
    refine zk_iload_n C kd_Ps_expression_110 rfl 2 rfl rfl ?_
    exact zk_iret C hR kd_Ps_expression_111 rfl rfl (zd_rIS e)
  · replace e := zd_neg b1 e
    refine zk_iload_n C kd_Ps_expression_21 rfl 3 rfl rfl ?_
    refine zk_if_lt (tgt := 110) C kd_Ps_expression_22 (by decide) rfl (fun b2 => ?_) (fun b2 => ?_)
    · replace e := zd_pos b2 e
      refine zk_iload_n C kd_Ps_expression_110 rfl 2 rfl rfl ?_
      exact zk_iret C hR kd_Ps_expression_111 rfl rfl (zd_rIS e)
    · replace e := zd_neg b2 e
      refine ze_gets (j := 0) C rfl kw968 kd_Ps_expression_25 rfl ?_
      refine zk_iload_n C kd_Ps_expression_28 rfl 3 rfl rfl ?_
      obtain ⟨q3, e⟩ := zd_g e
      refine ze_ti C rfl (zd_vp q3) kd_Ps_expression_29 rfl ?_
      refine zk_stk (r' := [.int (zt_0.getD x3.toNatClampNeg 0)]) rfl ?_
      refine zk_iload_n C kd_Ps_expression_30 rfl 1 rfl rfl ?_
      refine zk_icmp_lt (tgt := 110) C kd_Ps_expression_31 (by decide) rfl (fun b4 => ?_) (fun b4 => ?_)
      · replace e := zd_pos b4 e
        refine zk_iload_n C kd_Ps_expression_110 rfl 2 rfl rfl ?_
        exact zk_iret C hR kd_Ps_expression_111 rfl rfl (zd_rIS e)
      · replace e := zd_neg b4 e
        refine zk_aload_n C kd_Ps_expression_34 rfl 0 rfl rfl ?_
        refine zs_get (v := .ref (S.1 12)) C 19 2 rfl rfl rfl rfl ki_Ps (by decide) kw203 kd_Ps_expression_35 rfl ?_
        refine zk_bipush (v := 35) C kd_Ps_expression_38 (by decide) rfl ?_
        refine zk_aload_n C kd_Ps_expression_40 rfl 0 rfl rfl ?_
        refine zs_get (v := .int (h.1 19 6)) C 19 6 rfl rfl rfl rfl ki_Ps (by decide) kw207 kd_Ps_expression_41 rfl ?_
        refine zk_iload_n C kd_Ps_expression_44 rfl 3 rfl rfl ?_
        obtain ⟨v6, h7, c5, e⟩ := zd_Be e
        refine zs_callV (k := 12) (rn := { frames := 1, cells := 0, slots := 0, locals := 23 }) (As := [.int 35, .int (h.1 19 6), .int x3]) (rest := []) C (zc_Tr_add h 35 (h.1 19 6) x3 c5) ku_Tr_add kw866 kv_Tr_add rfl (zd_rmO (by decide) (by decide)) ⟨Nat.le_refl _, Nat.le_refl _⟩ rfl rfl rfl (Nat.le_of_ble_eq_true rfl) kd_Ps_expression_45 rfl (c1 := 0) (s1 := 0) rfl rfl (fun v w hp => ?_)
        obtain ⟨rfl, rfl⟩ := hp
        refine zk_stk (r' := [.int v6]) rfl ?_
        refine zk_istore (lv' := [(5, _), (0, _), (1, _), (2, _), (3, _), (4, _)]) C kd_Ps_expression_48 (by decide) rfl rfl ?_
        refine zk_aload_n C kd_Ps_expression_50 rfl 1 rfl rfl ?_
        obtain ⟨h9, c8, e⟩ := zd_b e
        refine zs_callV (k := 19) (rn := { frames := 0, cells := 0, slots := 0, locals := 0 }) (As := []) (rest := []) C (zc_Ps_deepen h7 c8) ku_Ps_deepen kw944 kv_Ps_deepen rfl (zd_rmO (by decide) (by decide)) ⟨Nat.le_refl _, Nat.le_refl _⟩ rfl rfl rfl (Nat.le_of_ble_eq_true rfl) kd_Ps_expression_51 rfl (c1 := 0) (s1 := 0) rfl rfl (fun v w hp => ?_)
        obtain ⟨rfl, rfl⟩ := hp
        refine zk_stk (r' := []) rfl ?_
        refine zk_aload_n C kd_Ps_expression_54 rfl 1 rfl rfl ?_
        refine zk_aload_n C kd_Ps_expression_55 rfl 1 rfl rfl ?_
        refine zs_get (v := .int (h9.1 19 5)) C 19 5 rfl rfl rfl rfl ki_Ps (by decide) kw206 kd_Ps_expression_56 rfl ?_
        obtain ⟨h11, c10, e⟩ := zd_b e
        refine zs_callV (k := 19) (rn := { frames := 0, cells := 0, slots := 0, locals := 0 }) (As := [.int (h9.1 19 5)]) (rest := []) C (zc_Ps_take h9 (h9.1 19 5) c10) ku_Ps_take kw876 kv_Ps_take rfl (zd_rmO (by decide) (by decide)) ⟨Nat.le_refl _, Nat.le_refl _⟩ rfl rfl rfl (Nat.le_of_ble_eq_true rfl) kd_Ps_expression_59 rfl (c1 := 0) (s1 := 0) rfl rfl (fun v w hp => ?_)
        obtain ⟨rfl, rfl⟩ := hp
        refine zk_stk (r' := []) rfl ?_
        refine zk_aload_n C kd_Ps_expression_62 rfl 1 rfl rfl ?_
        refine zs_get (v := .ref (S.1 12)) C 19 2 rfl rfl rfl rfl ki_Ps (by decide) kw203 kd_Ps_expression_63 rfl ?_
        refine zk_iload C kd_Ps_expression_66 0 rfl rfl ?_
        refine zk_iconst (v := (-1)) C kd_Ps_expression_68 (by decide) rfl ?_
        refine zk_iload_n C kd_Ps_expression_69 rfl 3 rfl rfl ?_
        obtain ⟨v13, h14, c12, e⟩ := zd_Be e
        refine zs_callV (k := 12) (rn := { frames := 0, cells := 0, slots := 0, locals := 0 }) (As := [.int v6, .int (-1), .int x2]) (rest := []) C (zc_Tr_hang h11 v6 (-1) x2 c12) ku_Tr_hang kw884 kv_Tr_hang rfl (zd_rmO (by decide) (by decide)) ⟨Nat.le_refl _, Nat.le_refl _⟩ rfl rfl rfl (Nat.le_of_ble_eq_true rfl) kd_Ps_expression_70 rfl (c1 := 0) (s1 := 0) rfl rfl (fun v w hp => ?_)
        obtain ⟨rfl, rfl⟩ := hp
        refine zk_stk (r' := [.int v13]) rfl ?_
        refine zk_pop C kd_Ps_expression_73 rfl rfl ?_
        refine zk_aload_n C kd_Ps_expression_74 rfl 1 rfl rfl ?_
        refine zs_get (v := .ref (S.1 12)) C 19 2 rfl rfl rfl rfl ki_Ps (by decide) kw203 kd_Ps_expression_75 rfl ?_
        refine zk_iload C kd_Ps_expression_78 0 rfl rfl ?_
        refine zk_iload_n C kd_Ps_expression_80 rfl 3 rfl rfl ?_
        refine zk_aload_n C kd_Ps_expression_81 rfl 1 rfl rfl ?_
        refine ze_gets (j := 0) C rfl kw968 kd_Ps_expression_82 rfl ?_
        refine zk_iload_n C kd_Ps_expression_85 rfl 4 rfl rfl ?_
        obtain ⟨q15, e⟩ := zd_g e
        refine ze_ti C rfl (zd_vp q15) kd_Ps_expression_86 rfl ?_
        refine zk_stk (r' := [.int (zt_0.getD x3.toNatClampNeg 0), .ref (S.1 19), .int x2, .int v6, .ref (S.1 12)]) rfl ?_
        refine zk_iconst (v := 1) C kd_Ps_expression_87 (by decide) rfl ?_
        refine zk_iadd C kd_Ps_expression_88 rfl ?_
        obtain ⟨v17, h18, c16, e⟩ := zd_Be e
        refine zs_callV (k := 19) (rn := { frames := 2 + d, cells := 0, slots := 0, locals := 47 + 25 * d }) (As := [.int ((zt_0.getD x3.toNatClampNeg 0) + 1)]) (rest := [.int x2, .int v6, .ref (S.1 12)]) C (hr_Ps_expression h14 ((zt_0.getD x3.toNatClampNeg 0) + 1) c16) ku_Ps_expression kw952 kv_Ps_expression rfl (zd_rmI (by decide)) ⟨Nat.le_refl _, Nat.le_refl _⟩ rfl rfl rfl (Nat.le_of_ble_eq_true rfl) kd_Ps_expression_89 rfl (c1 := 0) (s1 := 0) rfl rfl (fun v w hp => ?_)
        obtain ⟨rfl, rfl⟩ := hp
        refine zk_stk (r' := [.int v17, .int x2, .int v6, .ref (S.1 12)]) rfl ?_
        obtain ⟨v20, h21, c19, e⟩ := zd_Be e
        refine zs_callV (k := 12) (rn := { frames := 0, cells := 0, slots := 0, locals := 0 }) (As := [.int v6, .int x2, .int v17]) (rest := []) C (zc_Tr_hang h18 v6 x2 v17 c19) ku_Tr_hang kw884 kv_Tr_hang rfl (zd_rmO (by decide) (by decide)) ⟨Nat.le_refl _, Nat.le_refl _⟩ rfl rfl rfl (Nat.le_of_ble_eq_true rfl) kd_Ps_expression_92 rfl (c1 := 0) (s1 := 0) rfl rfl (fun v w hp => ?_)
        obtain ⟨rfl, rfl⟩ := hp
        refine zk_stk (r' := [.int v20]) rfl ?_
        refine zk_pop C kd_Ps_expression_95 rfl rfl ?_
        refine zk_iload C kd_Ps_expression_96 0 rfl rfl ?_
        refine zk_istore_n (lv' := [(2, _), (5, _), (0, _), (1, _), (3, _), (4, _)]) C kd_Ps_expression_98 rfl (by decide) rfl rfl ?_
        refine zk_aload_n C kd_Ps_expression_99 rfl 2 rfl rfl ?_
        refine zs_callV (k := 19) (rn := { frames := 0, cells := 0, slots := 0, locals := 0 }) (As := []) (rest := []) C (zc_Ps_operator h21) ku_Ps_operator kw964 kv_Ps_operator rfl (zd_rmO (by decide) (by decide)) ⟨Nat.le_refl _, Nat.le_refl _⟩ rfl rfl rfl (Nat.le_of_ble_eq_true rfl) kd_Ps_expression_100 rfl (c1 := 0) (s1 := 0) rfl rfl (fun v w hp => ?_)
        obtain ⟨rfl, rfl⟩ := hp
        refine zk_stk (r' := [.int (f_Ps_operator h21)]) rfl ?_
        refine zk_istore_n (lv' := [(3, _), (2, _), (5, _), (0, _), (1, _), (4, _)]) C kd_Ps_expression_103 rfl (by decide) rfl rfl ?_
        refine zk_iinc (v := (x4 + 1)) (lv' := [(4, _), (3, _), (2, _), (5, _), (0, _), (1, _)]) C kd_Ps_expression_104 5 rfl rfl (by decide) rfl rfl ?_
        refine zk_goto (tgt := 13) C kd_Ps_expression_107 (by decide) ?_
        refine zk_lvs (lv' := [(0, .ref (S.1 19)), (1, .int x1), (2, .int v6), (3, .int (f_Ps_operator h21)), (4, .int (x4 + 1))]) [4, 5, 2, 1, 0] rfl ?_
        exact hk13 h21 x1 v6 (f_Ps_operator h21) (x4 + 1) e
theorem zl_Ps_expression_13 {X : zkj_T} {S : zs_T} {P : ze_T} {l : Launch} {D : va_G} {sz0 : Nat} {d : Nat} {rv : Int32} {rh : zs_H} (C : zk_C X km_Ps_expression (zs_G S l D sz0) { frames := 2 + (d + 1), cells := 0, slots := 0, locals := 47 + 25 * (d + 1) } (ze_E P)) (hR : zkj_R X (zd_PI S rv rh) (some .int)) {r_Ps_expression : zs_H → Int32 → (Option (Int32 × zs_H))} (hr_Ps_expression : ∀ (h : zs_H) (x0 : Int32) {rv : Int32} {rh : zs_H}, r_Ps_expression h x0 = some (rv, rh) → zk_Sp (zs_G S l D sz0) (ze_E P) km_Ps_expression { frames := 2 + d, cells := 0, slots := 0, locals := 47 + 25 * d } [.ref (S.1 19), .int x0] (zs_W S h) (zd_PI S rv rh)) (n : Nat) : ∀ (h : zs_H) (x1 : Int32) (x2 : Int32) (x3 : Int32) (x4 : Int32), f_Ps_expression_L13 r_Ps_expression n h x1 x2 x3 x4 = some (rv, rh) → zk_Ab X (zs_W S h) 0 0 13 [(0, .ref (S.1 19)), (1, .int x1), (2, .int x2), (3, .int x3), (4, .int x4)] [] := by
  induction n with
  | zero => intro h x1 x2 x3 x4 e; exact zd_no e
  | succ n ih => intro h x1 x2 x3 x4 e; exact zb_Ps_expression_13 (k13 := f_Ps_expression_L13 r_Ps_expression n) C hR hr_Ps_expression ih h x1 x2 x3 x4 e
set_option maxHeartbeats 4000000 in
set_option maxRecDepth 100000 in
theorem zg_Ps_expression {l : Launch} {D : va_G} {sz0 : Nat} {S : zs_T} {P : ze_T} {d : Nat} {r_Ps_expression : zs_H → Int32 → (Option (Int32 × zs_H))} (hr_Ps_expression : ∀ (h : zs_H) (x0 : Int32) {rv : Int32} {rh : zs_H}, r_Ps_expression h x0 = some (rv, rh) → zk_Sp (zs_G S l D sz0) (ze_E P) km_Ps_expression { frames := 2 + d, cells := 0, slots := 0, locals := 47 + 25 * d } [.ref (S.1 19), .int x0] (zs_W S h) (zd_PI S rv rh)) {r_Ps_operand : zs_H → (Option (Int32 × zs_H))} (hr_Ps_operand : ∀ (h : zs_H) {rv : Int32} {rh : zs_H}, r_Ps_operand h = some (rv, rh) → zk_Sp (zs_G S l D sz0) (ze_E P) km_Ps_operand { frames := 2 + d, cells := 0, slots := 0, locals := 47 + 25 * d } [.ref (S.1 19)] (zs_W S h) (zd_PI S rv rh)) (h : zs_H) (x1 : Int32) {rv : Int32} {rh : zs_H} (e : g_Ps_expression r_Ps_expression r_Ps_operand h x1 = some (rv, rh)) : zk_Sp (zs_G S l D sz0) (ze_E P) km_Ps_expression { frames := 2 + (d + 1), cells := 0, slots := 0, locals := 47 + 25 * (d + 1) } [.ref (S.1 19), .int x1] (zs_W S h) (zd_PI S rv rh) := by
  refine zk_met ku_Ps_expression (Nat.le_of_ble_eq_true rfl) (ze_Em P) ?_
  intro X C hR
  refine zk_lvs (lv' := [(0, .ref (S.1 19)), (1, .int x1)]) [0, 1] rfl ?_
  unfold g_Ps_expression at e
  refine zk_aload_n C kd_Ps_expression_0 rfl 0 rfl rfl ?_
  obtain ⟨v2, h3, c1, e⟩ := zd_Be e
  refine zs_callV (k := 19) (rn := { frames := 2 + d, cells := 0, slots := 0, locals := 47 + 25 * d }) (As := []) (rest := []) C (hr_Ps_operand h c1) ku_Ps_operand kw956 kv_Ps_operand rfl (zd_rmI (by decide)) ⟨Nat.le_refl _, Nat.le_refl _⟩ rfl rfl rfl (Nat.le_of_ble_eq_true rfl) kd_Ps_expression_1 rfl (c1 := 0) (s1 := 0) rfl rfl (fun v w hp => ?_)
  obtain ⟨rfl, rfl⟩ := hp
  refine zk_stk (r' := [.int v2]) rfl ?_
  refine zk_istore_n (lv' := [(2, _), (0, _), (1, _)]) C kd_Ps_expression_4 rfl (by decide) rfl rfl ?_
  refine zk_aload_n C kd_Ps_expression_5 rfl 1 rfl rfl ?_
  refine zs_callV (k := 19) (rn := { frames := 0, cells := 0, slots := 0, locals := 0 }) (As := []) (rest := []) C (zc_Ps_operator h3) ku_Ps_operator kw964 kv_Ps_operator rfl (zd_rmO (by decide) (by decide)) ⟨Nat.le_refl _, Nat.le_refl _⟩ rfl rfl rfl (Nat.le_of_ble_eq_true rfl) kd_Ps_expression_6 rfl (c1 := 0) (s1 := 0) rfl rfl (fun v w hp => ?_)
  obtain ⟨rfl, rfl⟩ := hp
  refine zk_stk (r' := [.int (f_Ps_operator h3)]) rfl ?_
  refine zk_istore_n (lv' := [(3, _), (2, _), (0, _), (1, _)]) C kd_Ps_expression_9 rfl (by decide) rfl rfl ?_
  refine zk_iconst (v := 0) C kd_Ps_expression_10 (by decide) rfl ?_
  refine zk_istore (lv' := [(4, _), (3, _), (2, _), (0, _), (1, _)]) C kd_Ps_expression_11 (by decide) rfl rfl ?_
  refine zk_lvs (lv' := [(0, .ref (S.1 19)), (1, .int x1), (2, .int v2), (3, .int (f_Ps_operator h3)), (4, .int 0)]) [3, 4, 2, 1, 0] rfl ?_
  exact zl_Ps_expression_13 C hR hr_Ps_expression zF h3 x1 v2 (f_Ps_operator h3) 0 e
set_option maxHeartbeats 4000000 in
set_option maxRecDepth 100000 in
theorem zb_Ps_namedOperand_268 {X : zkj_T} {S : zs_T} {P : ze_T} {l : Launch} {D : va_G} {sz0 : Nat} {d : Nat} {rv : Int32} {rh : zs_H} (C : zk_C X km_Ps_namedOperand (zs_G S l D sz0) { frames := 2 + (d + 1), cells := 0, slots := 0, locals := 47 + 25 * (d + 1) } (ze_E P)) (hR : zkj_R X (zd_PI S rv rh) (some .int)) {r_Ps_expression : zs_H → Int32 → (Option (Int32 × zs_H))} (hr_Ps_expression : ∀ (h : zs_H) (x0 : Int32) {rv : Int32} {rh : zs_H}, r_Ps_expression h x0 = some (rv, rh) → zk_Sp (zs_G S l D sz0) (ze_E P) km_Ps_expression { frames := 2 + d, cells := 0, slots := 0, locals := 47 + 25 * d } [.ref (S.1 19), .int x0] (zs_W S h) (zd_PI S rv rh)) {k216 : zs_H → Int32 → Int32 → Int32 → Int32 → (Option (Int32 × zs_H))} (hk216 : ∀ (h : zs_H) (x1 : Int32) (x2 : Int32) (x3 : Int32) (x4 : Int32), k216 h x1 x2 x3 x4 = some (rv, rh) → zk_Ab X (zs_W S h) 0 0 216 [(0, .ref (S.1 19)), (1, .int x1), (2, .int x2), (3, .int x3), (4, .int x4)] []) (h : zs_H) (x1 : Int32) (x2 : Int32) (x3 : Int32) (x4 : Int32) (e : f_Ps_namedOperand_268 r_Ps_expression k216 h x1 x2 x3 x4 = some (rv, rh)) : zk_Ab X (zs_W S h) 0 0 268 [(0, .ref (S.1 19)), (1, .int x1), (2, .int x2), (3, .int x3), (4, .int x4)] [] := by
  unfold f_Ps_namedOperand_268 at e
  refine zk_iinc (v := (x4 + 1)) (lv' := [(4, _), (0, _), (1, _), (2, _), (3, _)]) C kd_Ps_namedOperand_268 4 rfl rfl (by decide) rfl rfl ?_
  refine zk_goto (tgt := 216) C kd_Ps_namedOperand_271 (by decide) ?_
  refine zk_lvs (lv' := [(0, .ref (S.1 19)), (1, .int x1), (2, .int x2), (3, .int x3), (4, .int (x4 + 1))]) [1, 2, 3, 4, 0] rfl ?_
  exact hk216 h x1 x2 x3 (x4 + 1) e
set_option maxHeartbeats 4000000 in
set_option maxRecDepth 100000 in
theorem zb_Ps_namedOperand_257 {X : zkj_T} {S : zs_T} {P : ze_T} {l : Launch} {D : va_G} {sz0 : Nat} {d : Nat} {rv : Int32} {rh : zs_H} (C : zk_C X km_Ps_namedOperand (zs_G S l D sz0) { frames := 2 + (d + 1), cells := 0, slots := 0, locals := 47 + 25 * (d + 1) } (ze_E P)) (hR : zkj_R X (zd_PI S rv rh) (some .int)) {r_Ps_expression : zs_H → Int32 → (Option (Int32 × zs_H))} (hr_Ps_expression : ∀ (h : zs_H) (x0 : Int32) {rv : Int32} {rh : zs_H}, r_Ps_expression h x0 = some (rv, rh) → zk_Sp (zs_G S l D sz0) (ze_E P) km_Ps_expression { frames := 2 + d, cells := 0, slots := 0, locals := 47 + 25 * d } [.ref (S.1 19), .int x0] (zs_W S h) (zd_PI S rv rh)) {k216 : zs_H → Int32 → Int32 → Int32 → Int32 → (Option (Int32 × zs_H))} (hk216 : ∀ (h : zs_H) (x1 : Int32) (x2 : Int32) (x3 : Int32) (x4 : Int32), k216 h x1 x2 x3 x4 = some (rv, rh) → zk_Ab X (zs_W S h) 0 0 216 [(0, .ref (S.1 19)), (1, .int x1), (2, .int x2), (3, .int x3), (4, .int x4)] []) (h : zs_H) (x1 : Int32) (x2 : Int32) (x4 : Int32) (y0 : Int32) (e : f_Ps_namedOperand_257 r_Ps_expression k216 h x1 x2 x4 y0 = some (rv, rh)) : zk_Ab X (zs_W S h) 0 0 257 [(0, .ref (S.1 19)), (1, .int x1), (2, .int x2), (4, .int x4)] [.int y0] := by
  unfold f_Ps_namedOperand_257 at e
  refine zk_istore_n (lv' := [(3, _), (0, _), (1, _), (2, _), (4, _)]) C kd_Ps_namedOperand_257 rfl (by decide) rfl rfl ?_
  refine zk_iload_n C kd_Ps_namedOperand_258 rfl 0 rfl rfl ?_
  refine zk_if_eq (tgt := 268) C kd_Ps_namedOperand_259 (by decide) rfl (fun b1 => ?_) (fun b1 => ?_)
  · replace e := zd_pos b1 e
    refine zk_lvs (lv' := [(0, .ref (S.1 19)), (1, .int x1), (2, .int x2), (3, .int y0), (4, .int x4)]) [1, 2, 3, 0, 4] rfl ?_
    exact zb_Ps_namedOperand_268 C hR hr_Ps_expression hk216 h x1 x2 y0 x4 e
  · replace e := zd_neg b1 e
    refine zk_aload_n C kd_Ps_namedOperand_262 rfl 1 rfl rfl ?_
    refine zk_bipush (v := 44) C kd_Ps_namedOperand_263 (by decide) rfl ?_
    obtain ⟨h3, c2, e⟩ := zd_b e
    refine zs_callV (k := 19) (rn := { frames := 0, cells := 0, slots := 0, locals := 0 }) (As := [.int 44]) (rest := []) C (zc_Ps_take h 44 c2) ku_Ps_take kw876 kv_Ps_take rfl (zd_rmO (by decide) (by decide)) ⟨Nat.le_refl _, Nat.le_refl _⟩ rfl rfl rfl (Nat.le_of_ble_eq_true rfl) kd_Ps_namedOperand_265 rfl (c1 := 0) (s1 := 0) rfl rfl (fun v w hp => ?_)
    obtain ⟨rfl, rfl⟩ := hp
    refine zk_stk (r' := []) rfl ?_
    refine zk_lvs (lv' := [(0, .ref (S.1 19)), (1, .int x1), (2, .int x2), (3, .int y0), (4, .int x4)]) [1, 2, 3, 0, 4] rfl ?_
    exact zb_Ps_namedOperand_268 C hR hr_Ps_expression hk216 h3 x1 x2 y0 x4 e
set_option maxHeartbeats 4000000 in
set_option maxRecDepth 100000 in
theorem zb_Ps_namedOperand_274 {X : zkj_T} {S : zs_T} {P : ze_T} {l : Launch} {D : va_G} {sz0 : Nat} {d : Nat} {rv : Int32} {rh : zs_H} (C : zk_C X km_Ps_namedOperand (zs_G S l D sz0) { frames := 2 + (d + 1), cells := 0, slots := 0, locals := 47 + 25 * (d + 1) } (ze_E P)) (hR : zkj_R X (zd_PI S rv rh) (some .int)) (h : zs_H) (x1 : Int32) (e : f_Ps_namedOperand_274 h x1 = some (rv, rh)) : zk_Ab X (zs_W S h) 0 0 274 [(0, .ref (S.1 19)), (1, .int x1)] [] := by
  unfold f_Ps_namedOperand_274 at e
  refine zk_aload_n C kd_Ps_namedOperand_274 rfl 0 rfl rfl ?_
  refine zk_bipush (v := 41) C kd_Ps_namedOperand_275 (by decide) rfl ?_
  obtain ⟨h2, c1, e⟩ := zd_b e
  refine zs_callV (k := 19) (rn := { frames := 0, cells := 0, slots := 0, locals := 0 }) (As := [.int 41]) (rest := []) C (zc_Ps_take h 41 c1) ku_Ps_take kw876 kv_Ps_take rfl (zd_rmO (by decide) (by decide)) ⟨Nat.le_refl _, Nat.le_refl _⟩ rfl rfl rfl (Nat.le_of_ble_eq_true rfl) kd_Ps_namedOperand_277 rfl (c1 := 0) (s1 := 0) rfl rfl (fun v w hp => ?_)
  obtain ⟨rfl, rfl⟩ := hp
  refine zk_stk (r' := []) rfl ?_
  refine zk_aload_n C kd_Ps_namedOperand_280 rfl 0 rfl rfl ?_
  refine zk_dup C kd_Ps_namedOperand_281 rfl rfl ?_
  refine zs_get (v := .int (h2.1 19 7)) C 19 7 rfl rfl rfl rfl ki_Ps (by decide) kw208 kd_Ps_namedOperand_282 rfl ?_
  refine zk_iconst (v := 1) C kd_Ps_namedOperand_285 (by decide) rfl ?_
  refine zk_isub C kd_Ps_namedOperand_286 rfl ?_
  refine zs_put (ty := .int) C 19 7 ((h2.1 19 7) - 1) rfl rfl rfl rfl ki_Ps ky_Ps ko_Ps kn_Ps (by decide) kw208 rfl rfl rfl rfl (by decide) kd_Ps_namedOperand_287 rfl ?_
  refine zk_iload_n C kd_Ps_namedOperand_290 rfl 1 rfl rfl ?_
  exact zk_iret C hR kd_Ps_namedOperand_291 rfl rfl (zd_rIS e)
set_option maxHeartbeats 4000000 in
set_option maxRecDepth 100000 in
theorem zb_Ps_namedOperand_216 {X : zkj_T} {S : zs_T} {P : ze_T} {l : Launch} {D : va_G} {sz0 : Nat} {d : Nat} {rv : Int32} {rh : zs_H} (C : zk_C X km_Ps_namedOperand (zs_G S l D sz0) { frames := 2 + (d + 1), cells := 0, slots := 0, locals := 47 + 25 * (d + 1) } (ze_E P)) (hR : zkj_R X (zd_PI S rv rh) (some .int)) {r_Ps_expression : zs_H → Int32 → (Option (Int32 × zs_H))} (hr_Ps_expression : ∀ (h : zs_H) (x0 : Int32) {rv : Int32} {rh : zs_H}, r_Ps_expression h x0 = some (rv, rh) → zk_Sp (zs_G S l D sz0) (ze_E P) km_Ps_expression { frames := 2 + d, cells := 0, slots := 0, locals := 47 + 25 * d } [.ref (S.1 19), .int x0] (zs_W S h) (zd_PI S rv rh)) {k216 : zs_H → Int32 → Int32 → Int32 → Int32 → (Option (Int32 × zs_H))} (hk216 : ∀ (h : zs_H) (x1 : Int32) (x2 : Int32) (x3 : Int32) (x4 : Int32), k216 h x1 x2 x3 x4 = some (rv, rh) → zk_Ab X (zs_W S h) 0 0 216 [(0, .ref (S.1 19)), (1, .int x1), (2, .int x2), (3, .int x3), (4, .int x4)] []) (h : zs_H) (x1 : Int32) (x2 : Int32) (x3 : Int32) (x4 : Int32) (e : f_Ps_namedOperand_216 r_Ps_expression k216 h x1 x2 x3 x4 = some (rv, rh)) : zk_Ab X (zs_W S h) 0 0 216 [(0, .ref (S.1 19)), (1, .int x1), (2, .int x2), (3, .int x3), (4, .int x4)] [] := by
  unfold f_Ps_namedOperand_216 at e
  refine zk_iload C kd_Ps_namedOperand_216 4 rfl rfl ?_
  refine zk_sipush (v := 16384) C kd_Ps_namedOperand_218 (by decide) rfl ?_
  refine zk_icmp_ge (tgt := 274) C kd_Ps_namedOperand_221 (by decide) rfl (fun b1 => ?_) (fun b1 => ?_)
  · replace e := zd_pos b1 e
    refine zk_lvs (lv' := [(0, .ref (S.1 19)), (1, .int x1)]) [0, 1] rfl ?_
    exact zb_Ps_namedOperand_274 C hR h x1 e
  · replace e := zd_neg b1 e
    refine zk_iload_n C kd_Ps_namedOperand_224 rfl 3 rfl rfl ?_
    refine zk_if_eq (tgt := 274) C kd_Ps_namedOperand_225 (by decide) rfl (fun b2 => ?_) (fun b2 => ?_)
    · replace e := zd_pos b2 e
      refine zk_lvs (lv' := [(0, .ref (S.1 19)), (1, .int x1)]) [0, 1] rfl ?_
      exact zb_Ps_namedOperand_274 C hR h x1 e
    · replace e := zd_neg b2 e
      refine zk_aload_n C kd_Ps_namedOperand_228 rfl 0 rfl rfl ?_
      refine zs_get (v := .ref (S.1 12)) C 19 2 rfl rfl rfl rfl ki_Ps (by decide) kw203 kd_Ps_namedOperand_229 rfl ?_
      refine zk_iload_n C kd_Ps_namedOperand_232 rfl 1 rfl rfl ?_
      refine zk_iload_n C kd_Ps_namedOperand_233 rfl 2 rfl rfl ?_
      refine zk_aload_n C kd_Ps_namedOperand_234 rfl 0 rfl rfl ?_
      refine zk_iconst (v := 0) C kd_Ps_namedOperand_235 (by decide) rfl ?_
      obtain ⟨v4, h5, c3, e⟩ := zd_Be e
      refine zs_callV (k := 19) (rn := { frames := 2 + d, cells := 0, slots := 0, locals := 47 + 25 * d }) (As := [.int 0]) (rest := [.int x2, .int x1, .ref (S.1 12)]) C (hr_Ps_expression h 0 c3) ku_Ps_expression kw952 kv_Ps_expression rfl (zd_rmI (by decide)) ⟨Nat.le_refl _, Nat.le_refl _⟩ rfl rfl rfl (Nat.le_of_ble_eq_true rfl) kd_Ps_namedOperand_236 rfl (c1 := 0) (s1 := 0) rfl rfl (fun v w hp => ?_)
      obtain ⟨rfl, rfl⟩ := hp
      refine zk_stk (r' := [.int v4, .int x2, .int x1, .ref (S.1 12)]) rfl ?_
      obtain ⟨v7, h8, c6, e⟩ := zd_Be e
      refine zs_callV (k := 12) (rn := { frames := 0, cells := 0, slots := 0, locals := 0 }) (As := [.int x1, .int x2, .int v4]) (rest := []) C (zc_Tr_hang h5 x1 x2 v4 c6) ku_Tr_hang kw884 kv_Tr_hang rfl (zd_rmO (by decide) (by decide)) ⟨Nat.le_refl _, Nat.le_refl _⟩ rfl rfl rfl (Nat.le_of_ble_eq_true rfl) kd_Ps_namedOperand_239 rfl (c1 := 0) (s1 := 0) rfl rfl (fun v w hp => ?_)
      obtain ⟨rfl, rfl⟩ := hp
      refine zk_stk (r' := [.int v7]) rfl ?_
      refine zk_istore_n (lv' := [(2, _), (0, _), (1, _), (3, _), (4, _)]) C kd_Ps_namedOperand_242 rfl (by decide) rfl rfl ?_
      refine zk_aload_n C kd_Ps_namedOperand_243 rfl 1 rfl rfl ?_
      refine zs_get (v := .int (h8.1 19 5)) C 19 5 rfl rfl rfl rfl ki_Ps (by decide) kw206 kd_Ps_namedOperand_244 rfl ?_
      refine zk_bipush (v := 44) C kd_Ps_namedOperand_247 (by decide) rfl ?_
      refine zk_icmp_ne (tgt := 256) C kd_Ps_namedOperand_249 (by decide) rfl (fun b9 => ?_) (fun b9 => ?_)
      · replace e := zd_neg b9 e
        refine zk_iconst (v := 0) C kd_Ps_namedOperand_256 (by decide) rfl ?_
        refine zk_lvs (lv' := [(0, .ref (S.1 19)), (1, .int x1), (2, .int v7), (4, .int x4)]) [1, 2, 0, 4] rfl ?_
        exact zb_Ps_namedOperand_257 C hR hr_Ps_expression hk216 h8 x1 v7 x4 0 e
      · replace e := zd_pos b9 e
        refine zk_iconst (v := 1) C kd_Ps_namedOperand_252 (by decide) rfl ?_
        refine zk_goto (tgt := 257) C kd_Ps_namedOperand_253 (by decide) ?_
        refine zk_lvs (lv' := [(0, .ref (S.1 19)), (1, .int x1), (2, .int v7), (4, .int x4)]) [1, 2, 0, 4] rfl ?_
        exact zb_Ps_namedOperand_257 C hR hr_Ps_expression hk216 h8 x1 v7 x4 1 e
theorem zl_Ps_namedOperand_216 {X : zkj_T} {S : zs_T} {P : ze_T} {l : Launch} {D : va_G} {sz0 : Nat} {d : Nat} {rv : Int32} {rh : zs_H} (C : zk_C X km_Ps_namedOperand (zs_G S l D sz0) { frames := 2 + (d + 1), cells := 0, slots := 0, locals := 47 + 25 * (d + 1) } (ze_E P)) (hR : zkj_R X (zd_PI S rv rh) (some .int)) {r_Ps_expression : zs_H → Int32 → (Option (Int32 × zs_H))} (hr_Ps_expression : ∀ (h : zs_H) (x0 : Int32) {rv : Int32} {rh : zs_H}, r_Ps_expression h x0 = some (rv, rh) → zk_Sp (zs_G S l D sz0) (ze_E P) km_Ps_expression { frames := 2 + d, cells := 0, slots := 0, locals := 47 + 25 * d } [.ref (S.1 19), .int x0] (zs_W S h) (zd_PI S rv rh)) (n : Nat) : ∀ (h : zs_H) (x1 : Int32) (x2 : Int32) (x3 : Int32) (x4 : Int32), f_Ps_namedOperand_L216 r_Ps_expression n h x1 x2 x3 x4 = some (rv, rh) → zk_Ab X (zs_W S h) 0 0 216 [(0, .ref (S.1 19)), (1, .int x1), (2, .int x2), (3, .int x3), (4, .int x4)] [] := by
  induction n with
  | zero => intro h x1 x2 x3 x4 e; exact zd_no e
  | succ n ih => intro h x1 x2 x3 x4 e; exact zb_Ps_namedOperand_216 (k216 := f_Ps_namedOperand_L216 r_Ps_expression n) C hR hr_Ps_expression ih h x1 x2 x3 x4 e
set_option maxHeartbeats 4000000 in
set_option maxRecDepth 100000 in
theorem zb_Ps_namedOperand_212 {X : zkj_T} {S : zs_T} {P : ze_T} {l : Launch} {D : va_G} {sz0 : Nat} {d : Nat} {rv : Int32} {rh : zs_H} (C : zk_C X km_Ps_namedOperand (zs_G S l D sz0) { frames := 2 + (d + 1), cells := 0, slots := 0, locals := 47 + 25 * (d + 1) } (ze_E P)) (hR : zkj_R X (zd_PI S rv rh) (some .int)) {r_Ps_expression : zs_H → Int32 → (Option (Int32 × zs_H))} (hr_Ps_expression : ∀ (h : zs_H) (x0 : Int32) {rv : Int32} {rh : zs_H}, r_Ps_expression h x0 = some (rv, rh) → zk_Sp (zs_G S l D sz0) (ze_E P) km_Ps_expression { frames := 2 + d, cells := 0, slots := 0, locals := 47 + 25 * d } [.ref (S.1 19), .int x0] (zs_W S h) (zd_PI S rv rh)) (h : zs_H) (x1 : Int32) (x2 : Int32) (y0 : Int32) (e : f_Ps_namedOperand_212 r_Ps_expression h x1 x2 y0 = some (rv, rh)) : zk_Ab X (zs_W S h) 0 0 212 [(0, .ref (S.1 19)), (1, .int x1), (2, .int x2)] [.int y0] := by
  unfold f_Ps_namedOperand_212 at e
  refine zk_istore_n (lv' := [(3, _), (0, _), (1, _), (2, _)]) C kd_Ps_namedOperand_212 rfl (by decide) rfl rfl ?_
  refine zk_iconst (v := 0) C kd_Ps_namedOperand_213 (by decide) rfl ?_
  refine zk_istore (lv' := [(4, _), (3, _), (0, _), (1, _), (2, _)]) C kd_Ps_namedOperand_214 (by decide) rfl rfl ?_
  refine zk_lvs (lv' := [(0, .ref (S.1 19)), (1, .int x1), (2, .int x2), (3, .int y0), (4, .int 0)]) [2, 3, 4, 1, 0] rfl ?_
  exact zl_Ps_namedOperand_216 C hR hr_Ps_expression zF h x1 x2 y0 0 e
set_option maxHeartbeats 4000000 in
set_option maxRecDepth 100000 in
theorem zg_Ps_namedOperand {l : Launch} {D : va_G} {sz0 : Nat} {S : zs_T} {P : ze_T} {d : Nat} {r_Ps_expression : zs_H → Int32 → (Option (Int32 × zs_H))} (hr_Ps_expression : ∀ (h : zs_H) (x0 : Int32) {rv : Int32} {rh : zs_H}, r_Ps_expression h x0 = some (rv, rh) → zk_Sp (zs_G S l D sz0) (ze_E P) km_Ps_expression { frames := 2 + d, cells := 0, slots := 0, locals := 47 + 25 * d } [.ref (S.1 19), .int x0] (zs_W S h) (zd_PI S rv rh)) (h : zs_H) {rv : Int32} {rh : zs_H} (e : g_Ps_namedOperand r_Ps_expression h = some (rv, rh)) : zk_Sp (zs_G S l D sz0) (ze_E P) km_Ps_namedOperand { frames := 2 + (d + 1), cells := 0, slots := 0, locals := 47 + 25 * (d + 1) } [.ref (S.1 19)] (zs_W S h) (zd_PI S rv rh) := by
  refine zk_met ku_Ps_namedOperand (Nat.le_of_ble_eq_true rfl) (ze_Em P) ?_
  intro X C hR
  refine zk_lvs (lv' := [(0, .ref (S.1 19))]) [0] rfl ?_
  unfold g_Ps_namedOperand at e
  refine zk_aload_n C kd_Ps_namedOperand_0 rfl 0 rfl rfl ?_
  refine zs_get (v := .ref (S.1 12)) C 19 2 rfl rfl rfl rfl ki_Ps (by decide) kw203 kd_Ps_namedOperand_1 rfl ?_
  refine zk_bipush (v := 6) C kd_Ps_namedOperand_4 (by decide) rfl ?_
  refine zk_aload_n C kd_Ps_namedOperand_6 rfl 0 rfl rfl ?_
  refine zs_get (v := .int (h.1 19 6)) C 19 6 rfl rfl rfl rfl ki_Ps (by decide) kw207 kd_Ps_namedOperand_7 rfl ?_
  refine zk_aload_n C kd_Ps_namedOperand_10 rfl 0 rfl rfl ?_
  refine zs_get (v := .ref (S.1 8)) C 19 1 rfl rfl rfl rfl ki_Ps (by decide) kw202 kd_Ps_namedOperand_11 rfl ?_
  refine zs_get (v := .ref (S.1 11)) C 8 2 rfl rfl rfl rfl ki_Tk (by decide) kw123 kd_Ps_namedOperand_14 rfl ?_
  refine zk_aload_n C kd_Ps_namedOperand_17 rfl 0 rfl rfl ?_
  refine zs_get (v := .int (h.1 19 4)) C 19 4 rfl rfl rfl rfl ki_Ps (by decide) kw205 kd_Ps_namedOperand_18 rfl ?_
  obtain ⟨q1, e⟩ := zd_g e
  refine zs_iald C 11 rfl (zd_vp q1) kd_Ps_namedOperand_21 rfl ?_
  obtain ⟨v3, h4, c2, e⟩ := zd_Be e
  refine zs_callV (k := 12) (rn := { frames := 1, cells := 0, slots := 0, locals := 23 }) (As := [.int 6, .int (h.1 19 6), .int (h.2.1 11 (h.1 19 4).toNatClampNeg)]) (rest := []) C (zc_Tr_add h 6 (h.1 19 6) (h.2.1 11 (h.1 19 4).toNatClampNeg) c2) ku_Tr_add kw866 kv_Tr_add rfl (zd_rmO (by decide) (by decide)) ⟨Nat.le_refl _, Nat.le_refl _⟩ rfl rfl rfl (Nat.le_of_ble_eq_true rfl) kd_Ps_namedOperand_22 rfl (c1 := 0) (s1 := 0) rfl rfl (fun v w hp => ?_)
  obtain ⟨rfl, rfl⟩ := hp
  refine zk_stk (r' := [.int v3]) rfl ?_
  refine zk_istore_n (lv' := [(1, _), (0, _)]) C kd_Ps_namedOperand_25 rfl (by decide) rfl rfl ?_
  refine zk_aload_n C kd_Ps_namedOperand_26 rfl 1 rfl rfl ?_
  refine zk_bipush (v := 8) C kd_Ps_namedOperand_27 (by decide) rfl ?_
  obtain ⟨h6, c5, e⟩ := zd_b e
  refine zs_callV (k := 19) (rn := { frames := 0, cells := 0, slots := 0, locals := 0 }) (As := [.int 8]) (rest := []) C (zc_Ps_take h4 8 c5) ku_Ps_take kw876 kv_Ps_take rfl (zd_rmO (by decide) (by decide)) ⟨Nat.le_refl _, Nat.le_refl _⟩ rfl rfl rfl (Nat.le_of_ble_eq_true rfl) kd_Ps_namedOperand_29 rfl (c1 := 0) (s1 := 0) rfl rfl (fun v w hp => ?_)
  obtain ⟨rfl, rfl⟩ := hp
  refine zk_stk (r' := []) rfl ?_
  refine zk_aload_n C kd_Ps_namedOperand_32 rfl 1 rfl rfl ?_
  refine zs_get (v := .int (h6.1 19 5)) C 19 5 rfl rfl rfl rfl ki_Ps (by decide) kw206 kd_Ps_namedOperand_33 rfl ?_
  refine zk_bipush (v := 46) C kd_Ps_namedOperand_36 (by decide) rfl ?_
  refine zk_icmp_ne (tgt := 102) C kd_Ps_namedOperand_38 (by decide) rfl (fun b7 => ?_) (fun b7 => ?_)
  · replace e := zd_neg b7 e
    refine zk_aload_n C kd_Ps_namedOperand_102 rfl 1 rfl rfl ?_
    refine zs_get (v := .int (h6.1 19 5)) C 19 5 rfl rfl rfl rfl ki_Ps (by decide) kw206 kd_Ps_namedOperand_103 rfl ?_
    refine zk_bipush (v := 91) C kd_Ps_namedOperand_106 (by decide) rfl ?_
    refine zk_icmp_ne (tgt := 166) C kd_Ps_namedOperand_108 (by decide) rfl (fun b8 => ?_) (fun b8 => ?_)
    · replace e := zd_neg b8 e
      refine zk_aload_n C kd_Ps_namedOperand_166 rfl 1 rfl rfl ?_
      refine zs_get (v := .int (h6.1 19 5)) C 19 5 rfl rfl rfl rfl ki_Ps (by decide) kw206 kd_Ps_namedOperand_167 rfl ?_
      refine zk_bipush (v := 40) C kd_Ps_namedOperand_170 (by decide) rfl ?_
      refine zk_icmp_ne (tgt := 290) C kd_Ps_namedOperand_172 (by decide) rfl (fun b9 => ?_) (fun b9 => ?_)
      · replace e := zd_neg b9 e
        refine zk_iload_n C kd_Ps_namedOperand_290 rfl 0 rfl rfl ?_
        exact zk_iret C hR kd_Ps_namedOperand_291 rfl rfl (zd_rIS e)
      · replace e := zd_pos b9 e
        refine zk_aload_n C kd_Ps_namedOperand_175 rfl 1 rfl rfl ?_
        refine zs_get (v := .ref (S.1 12)) C 19 2 rfl rfl rfl rfl ki_Ps (by decide) kw203 kd_Ps_namedOperand_176 rfl ?_
        refine zs_get (v := .ref (S.1 13)) C 12 0 rfl rfl rfl rfl ki_Tr (by decide) kw158 kd_Ps_namedOperand_179 rfl ?_
        refine zk_iload_n C kd_Ps_namedOperand_182 rfl 0 rfl rfl ?_
        refine zk_bipush (v := 34) C kd_Ps_namedOperand_183 (by decide) rfl ?_
        obtain ⟨q10, e⟩ := zd_g e
        refine zs_bast C 13 rfl (zd_vp q10) kd_Ps_namedOperand_185 rfl ?_
        refine zk_aload_n C kd_Ps_namedOperand_186 rfl 1 rfl rfl ?_
        obtain ⟨h12, c11, e⟩ := zd_b e
        refine zs_callV (k := 19) (rn := { frames := 0, cells := 0, slots := 0, locals := 0 }) (As := []) (rest := []) C (zc_Ps_deepen (zs_uM h6 13 v3.toNatClampNeg (vp_nar .byte 34)) c11) ku_Ps_deepen kw944 kv_Ps_deepen rfl (zd_rmO (by decide) (by decide)) ⟨Nat.le_refl _, Nat.le_refl _⟩ rfl rfl rfl (Nat.le_of_ble_eq_true rfl) kd_Ps_namedOperand_187 rfl (c1 := 0) (s1 := 0) rfl rfl (fun v w hp => ?_)
        obtain ⟨rfl, rfl⟩ := hp
        refine zk_stk (r' := []) rfl ?_
        refine zk_aload_n C kd_Ps_namedOperand_190 rfl 1 rfl rfl ?_
        refine zk_bipush (v := 40) C kd_Ps_namedOperand_191 (by decide) rfl ?_
        obtain ⟨h14, c13, e⟩ := zd_b e
        refine zs_callV (k := 19) (rn := { frames := 0, cells := 0, slots := 0, locals := 0 }) (As := [.int 40]) (rest := []) C (zc_Ps_take h12 40 c13) ku_Ps_take kw876 kv_Ps_take rfl (zd_rmO (by decide) (by decide)) ⟨Nat.le_refl _, Nat.le_refl _⟩ rfl rfl rfl (Nat.le_of_ble_eq_true rfl) kd_Ps_namedOperand_193 rfl (c1 := 0) (s1 := 0) rfl rfl (fun v w hp => ?_)
        obtain ⟨rfl, rfl⟩ := hp
        refine zk_stk (r' := []) rfl ?_
        refine zk_iconst (v := (-1)) C kd_Ps_namedOperand_196 (by decide) rfl ?_
        refine zk_istore_n (lv' := [(2, _), (1, _), (0, _)]) C kd_Ps_namedOperand_197 rfl (by decide) rfl rfl ?_
        refine zk_aload_n C kd_Ps_namedOperand_198 rfl 2 rfl rfl ?_
        refine zs_get (v := .int (h14.1 19 5)) C 19 5 rfl rfl rfl rfl ki_Ps (by decide) kw206 kd_Ps_namedOperand_199 rfl ?_
        refine zk_bipush (v := 41) C kd_Ps_namedOperand_202 (by decide) rfl ?_
        refine zk_icmp_eq (tgt := 211) C kd_Ps_namedOperand_204 (by decide) rfl (fun b15 => ?_) (fun b15 => ?_)
        · replace e := zd_pos b15 e
          refine zk_iconst (v := 0) C kd_Ps_namedOperand_211 (by decide) rfl ?_
          refine zk_lvs (lv' := [(0, .ref (S.1 19)), (1, .int v3), (2, .int (-1))]) [2, 1, 0] rfl ?_
          exact zb_Ps_namedOperand_212 C hR hr_Ps_expression h14 v3 (-1) 0 e
        · replace e := zd_neg b15 e
          refine zk_iconst (v := 1) C kd_Ps_namedOperand_207 (by decide) rfl ?_
          refine zk_goto (tgt := 212) C kd_Ps_namedOperand_208 (by decide) ?_
          refine zk_lvs (lv' := [(0, .ref (S.1 19)), (1, .int v3), (2, .int (-1))]) [2, 1, 0] rfl ?_
          exact zb_Ps_namedOperand_212 C hR hr_Ps_expression h14 v3 (-1) 1 e
    · replace e := zd_pos b8 e
      refine zk_aload_n C kd_Ps_namedOperand_111 rfl 1 rfl rfl ?_
      refine zs_get (v := .ref (S.1 12)) C 19 2 rfl rfl rfl rfl ki_Ps (by decide) kw203 kd_Ps_namedOperand_112 rfl ?_
      refine zs_get (v := .ref (S.1 13)) C 12 0 rfl rfl rfl rfl ki_Tr (by decide) kw158 kd_Ps_namedOperand_115 rfl ?_
      refine zk_iload_n C kd_Ps_namedOperand_118 rfl 0 rfl rfl ?_
      refine zk_bipush (v := 32) C kd_Ps_namedOperand_119 (by decide) rfl ?_
      obtain ⟨q16, e⟩ := zd_g e
      refine zs_bast C 13 rfl (zd_vp q16) kd_Ps_namedOperand_121 rfl ?_
      refine zk_aload_n C kd_Ps_namedOperand_122 rfl 1 rfl rfl ?_
      obtain ⟨h18, c17, e⟩ := zd_b e
      refine zs_callV (k := 19) (rn := { frames := 0, cells := 0, slots := 0, locals := 0 }) (As := []) (rest := []) C (zc_Ps_deepen (zs_uM h6 13 v3.toNatClampNeg (vp_nar .byte 32)) c17) ku_Ps_deepen kw944 kv_Ps_deepen rfl (zd_rmO (by decide) (by decide)) ⟨Nat.le_refl _, Nat.le_refl _⟩ rfl rfl rfl (Nat.le_of_ble_eq_true rfl) kd_Ps_namedOperand_123 rfl (c1 := 0) (s1 := 0) rfl rfl (fun v w hp => ?_)
      obtain ⟨rfl, rfl⟩ := hp
      refine zk_stk (r' := []) rfl ?_
      refine zk_aload_n C kd_Ps_namedOperand_126 rfl 1 rfl rfl ?_
      refine zk_bipush (v := 91) C kd_Ps_namedOperand_127 (by decide) rfl ?_
      obtain ⟨h20, c19, e⟩ := zd_b e
      refine zs_callV (k := 19) (rn := { frames := 0, cells := 0, slots := 0, locals := 0 }) (As := [.int 91]) (rest := []) C (zc_Ps_take h18 91 c19) ku_Ps_take kw876 kv_Ps_take rfl (zd_rmO (by decide) (by decide)) ⟨Nat.le_refl _, Nat.le_refl _⟩ rfl rfl rfl (Nat.le_of_ble_eq_true rfl) kd_Ps_namedOperand_129 rfl (c1 := 0) (s1 := 0) rfl rfl (fun v w hp => ?_)
      obtain ⟨rfl, rfl⟩ := hp
      refine zk_stk (r' := []) rfl ?_
      refine zk_aload_n C kd_Ps_namedOperand_132 rfl 1 rfl rfl ?_
      refine zs_get (v := .ref (S.1 12)) C 19 2 rfl rfl rfl rfl ki_Ps (by decide) kw203 kd_Ps_namedOperand_133 rfl ?_
      refine zk_iload_n C kd_Ps_namedOperand_136 rfl 0 rfl rfl ?_
      refine zk_iconst (v := (-1)) C kd_Ps_namedOperand_137 (by decide) rfl ?_
      refine zk_aload_n C kd_Ps_namedOperand_138 rfl 1 rfl rfl ?_
      refine zk_iconst (v := 0) C kd_Ps_namedOperand_139 (by decide) rfl ?_
      obtain ⟨v22, h23, c21, e⟩ := zd_Be e
      refine zs_callV (k := 19) (rn := { frames := 2 + d, cells := 0, slots := 0, locals := 47 + 25 * d }) (As := [.int 0]) (rest := [.int (-1), .int v3, .ref (S.1 12)]) C (hr_Ps_expression h20 0 c21) ku_Ps_expression kw952 kv_Ps_expression rfl (zd_rmI (by decide)) ⟨Nat.le_refl _, Nat.le_refl _⟩ rfl rfl rfl (Nat.le_of_ble_eq_true rfl) kd_Ps_namedOperand_140 rfl (c1 := 0) (s1 := 0) rfl rfl (fun v w hp => ?_)
      obtain ⟨rfl, rfl⟩ := hp
      refine zk_stk (r' := [.int v22, .int (-1), .int v3, .ref (S.1 12)]) rfl ?_
      obtain ⟨v25, h26, c24, e⟩ := zd_Be e
      refine zs_callV (k := 12) (rn := { frames := 0, cells := 0, slots := 0, locals := 0 }) (As := [.int v3, .int (-1), .int v22]) (rest := []) C (zc_Tr_hang h23 v3 (-1) v22 c24) ku_Tr_hang kw884 kv_Tr_hang rfl (zd_rmO (by decide) (by decide)) ⟨Nat.le_refl _, Nat.le_refl _⟩ rfl rfl rfl (Nat.le_of_ble_eq_true rfl) kd_Ps_namedOperand_143 rfl (c1 := 0) (s1 := 0) rfl rfl (fun v w hp => ?_)
      obtain ⟨rfl, rfl⟩ := hp
      refine zk_stk (r' := [.int v25]) rfl ?_
      refine zk_pop C kd_Ps_namedOperand_146 rfl rfl ?_
      refine zk_aload_n C kd_Ps_namedOperand_147 rfl 1 rfl rfl ?_
      refine zk_bipush (v := 93) C kd_Ps_namedOperand_148 (by decide) rfl ?_
      obtain ⟨h28, c27, e⟩ := zd_b e
      refine zs_callV (k := 19) (rn := { frames := 0, cells := 0, slots := 0, locals := 0 }) (As := [.int 93]) (rest := []) C (zc_Ps_take h26 93 c27) ku_Ps_take kw876 kv_Ps_take rfl (zd_rmO (by decide) (by decide)) ⟨Nat.le_refl _, Nat.le_refl _⟩ rfl rfl rfl (Nat.le_of_ble_eq_true rfl) kd_Ps_namedOperand_150 rfl (c1 := 0) (s1 := 0) rfl rfl (fun v w hp => ?_)
      obtain ⟨rfl, rfl⟩ := hp
      refine zk_stk (r' := []) rfl ?_
      refine zk_aload_n C kd_Ps_namedOperand_153 rfl 1 rfl rfl ?_
      refine zk_dup C kd_Ps_namedOperand_154 rfl rfl ?_
      refine zs_get (v := .int (h28.1 19 7)) C 19 7 rfl rfl rfl rfl ki_Ps (by decide) kw208 kd_Ps_namedOperand_155 rfl ?_
      refine zk_iconst (v := 1) C kd_Ps_namedOperand_158 (by decide) rfl ?_
      refine zk_isub C kd_Ps_namedOperand_159 rfl ?_
      refine zs_put (ty := .int) C 19 7 ((h28.1 19 7) - 1) rfl rfl rfl rfl ki_Ps ky_Ps ko_Ps kn_Ps (by decide) kw208 rfl rfl rfl rfl (by decide) kd_Ps_namedOperand_160 rfl ?_
      refine zk_goto (tgt := 290) C kd_Ps_namedOperand_163 (by decide) ?_
      refine zk_iload_n C kd_Ps_namedOperand_290 rfl 0 rfl rfl ?_
      exact zk_iret C hR kd_Ps_namedOperand_291 rfl rfl (zd_rIS e)
  · replace e := zd_pos b7 e
    refine zk_aload_n C kd_Ps_namedOperand_41 rfl 1 rfl rfl ?_
    refine zs_get (v := .ref (S.1 12)) C 19 2 rfl rfl rfl rfl ki_Ps (by decide) kw203 kd_Ps_namedOperand_42 rfl ?_
    refine zs_get (v := .ref (S.1 13)) C 12 0 rfl rfl rfl rfl ki_Tr (by decide) kw158 kd_Ps_namedOperand_45 rfl ?_
    refine zk_iload_n C kd_Ps_namedOperand_48 rfl 0 rfl rfl ?_
    refine zk_bipush (v := 33) C kd_Ps_namedOperand_49 (by decide) rfl ?_
    obtain ⟨q29, e⟩ := zd_g e
    refine zs_bast C 13 rfl (zd_vp q29) kd_Ps_namedOperand_51 rfl ?_
    refine zk_aload_n C kd_Ps_namedOperand_52 rfl 1 rfl rfl ?_
    refine zk_bipush (v := 46) C kd_Ps_namedOperand_53 (by decide) rfl ?_
    obtain ⟨h31, c30, e⟩ := zd_b e
    refine zs_callV (k := 19) (rn := { frames := 0, cells := 0, slots := 0, locals := 0 }) (As := [.int 46]) (rest := []) C (zc_Ps_take (zs_uM h6 13 v3.toNatClampNeg (vp_nar .byte 33)) 46 c30) ku_Ps_take kw876 kv_Ps_take rfl (zd_rmO (by decide) (by decide)) ⟨Nat.le_refl _, Nat.le_refl _⟩ rfl rfl rfl (Nat.le_of_ble_eq_true rfl) kd_Ps_namedOperand_55 rfl (c1 := 0) (s1 := 0) rfl rfl (fun v w hp => ?_)
    obtain ⟨rfl, rfl⟩ := hp
    refine zk_stk (r' := []) rfl ?_
    refine zk_aload_n C kd_Ps_namedOperand_58 rfl 1 rfl rfl ?_
    refine zs_get (v := .ref (S.1 12)) C 19 2 rfl rfl rfl rfl ki_Ps (by decide) kw203 kd_Ps_namedOperand_59 rfl ?_
    refine zk_iload_n C kd_Ps_namedOperand_62 rfl 0 rfl rfl ?_
    refine zk_iconst (v := (-1)) C kd_Ps_namedOperand_63 (by decide) rfl ?_
    refine zk_aload_n C kd_Ps_namedOperand_64 rfl 1 rfl rfl ?_
    refine zs_get (v := .ref (S.1 12)) C 19 2 rfl rfl rfl rfl ki_Ps (by decide) kw203 kd_Ps_namedOperand_65 rfl ?_
    refine zk_bipush (v := 38) C kd_Ps_namedOperand_68 (by decide) rfl ?_
    refine zk_aload_n C kd_Ps_namedOperand_70 rfl 1 rfl rfl ?_
    refine zs_get (v := .int (h31.1 19 6)) C 19 6 rfl rfl rfl rfl ki_Ps (by decide) kw207 kd_Ps_namedOperand_71 rfl ?_
    refine zk_aload_n C kd_Ps_namedOperand_74 rfl 1 rfl rfl ?_
    refine zs_get (v := .ref (S.1 8)) C 19 1 rfl rfl rfl rfl ki_Ps (by decide) kw202 kd_Ps_namedOperand_75 rfl ?_
    refine zs_get (v := .ref (S.1 11)) C 8 2 rfl rfl rfl rfl ki_Tk (by decide) kw123 kd_Ps_namedOperand_78 rfl ?_
    refine zk_aload_n C kd_Ps_namedOperand_81 rfl 1 rfl rfl ?_
    refine zs_get (v := .int (h31.1 19 4)) C 19 4 rfl rfl rfl rfl ki_Ps (by decide) kw205 kd_Ps_namedOperand_82 rfl ?_
    obtain ⟨q32, e⟩ := zd_g e
    refine zs_iald C 11 rfl (zd_vp q32) kd_Ps_namedOperand_85 rfl ?_
    obtain ⟨v34, h35, c33, e⟩ := zd_Be e
    refine zs_callV (k := 12) (rn := { frames := 1, cells := 0, slots := 0, locals := 23 }) (As := [.int 38, .int (h31.1 19 6), .int (h31.2.1 11 (h31.1 19 4).toNatClampNeg)]) (rest := [.int (-1), .int v3, .ref (S.1 12)]) C (zc_Tr_add h31 38 (h31.1 19 6) (h31.2.1 11 (h31.1 19 4).toNatClampNeg) c33) ku_Tr_add kw866 kv_Tr_add rfl (zd_rmO (by decide) (by decide)) ⟨Nat.le_refl _, Nat.le_refl _⟩ rfl rfl rfl (Nat.le_of_ble_eq_true rfl) kd_Ps_namedOperand_86 rfl (c1 := 0) (s1 := 0) rfl rfl (fun v w hp => ?_)
    obtain ⟨rfl, rfl⟩ := hp
    refine zk_stk (r' := [.int v34, .int (-1), .int v3, .ref (S.1 12)]) rfl ?_
    obtain ⟨v37, h38, c36, e⟩ := zd_Be e
    refine zs_callV (k := 12) (rn := { frames := 0, cells := 0, slots := 0, locals := 0 }) (As := [.int v3, .int (-1), .int v34]) (rest := []) C (zc_Tr_hang h35 v3 (-1) v34 c36) ku_Tr_hang kw884 kv_Tr_hang rfl (zd_rmO (by decide) (by decide)) ⟨Nat.le_refl _, Nat.le_refl _⟩ rfl rfl rfl (Nat.le_of_ble_eq_true rfl) kd_Ps_namedOperand_89 rfl (c1 := 0) (s1 := 0) rfl rfl (fun v w hp => ?_)
    obtain ⟨rfl, rfl⟩ := hp
    refine zk_stk (r' := [.int v37]) rfl ?_
    refine zk_pop C kd_Ps_namedOperand_92 rfl rfl ?_
    refine zk_aload_n C kd_Ps_namedOperand_93 rfl 1 rfl rfl ?_
    refine zk_bipush (v := 8) C kd_Ps_namedOperand_94 (by decide) rfl ?_
    obtain ⟨h40, c39, e⟩ := zd_b e
    refine zs_callV (k := 19) (rn := { frames := 0, cells := 0, slots := 0, locals := 0 }) (As := [.int 8]) (rest := []) C (zc_Ps_take h38 8 c39) ku_Ps_take kw876 kv_Ps_take rfl (zd_rmO (by decide) (by decide)) ⟨Nat.le_refl _, Nat.le_refl _⟩ rfl rfl rfl (Nat.le_of_ble_eq_true rfl) kd_Ps_namedOperand_96 rfl (c1 := 0) (s1 := 0) rfl rfl (fun v w hp => ?_)
    obtain ⟨rfl, rfl⟩ := hp
    refine zk_stk (r' := []) rfl ?_
    refine zk_goto (tgt := 290) C kd_Ps_namedOperand_99 (by decide) ?_
    refine zk_iload_n C kd_Ps_namedOperand_290 rfl 0 rfl rfl ?_
    exact zk_iret C hR kd_Ps_namedOperand_291 rfl rfl (zd_rIS e)
set_option maxHeartbeats 4000000 in
set_option maxRecDepth 100000 in
theorem zb_Ps_operand_189 {X : zkj_T} {S : zs_T} {P : ze_T} {l : Launch} {D : va_G} {sz0 : Nat} {d : Nat} {rv : Int32} {rh : zs_H} (C : zk_C X km_Ps_operand (zs_G S l D sz0) { frames := 2 + (d + 1), cells := 0, slots := 0, locals := 47 + 25 * (d + 1) } (ze_E P)) (hR : zkj_R X (zd_PI S rv rh) (some .int)) (h : zs_H) (y0 : Int32) (y1 : Int32) (y2 : Int32) (e : f_Ps_operand_189 h y0 y1 y2 = some (rv, rh)) : zk_Ab X (zs_W S h) 0 0 189 [(0, .ref (S.1 19))] [.int y0, .int y1, .int y2, .ref (S.1 12)] := by
  unfold f_Ps_operand_189 at e
  obtain ⟨v2, h3, c1, e⟩ := zd_Be e
  refine zs_callV (k := 12) (rn := { frames := 1, cells := 0, slots := 0, locals := 23 }) (As := [.int y2, .int y1, .int y0]) (rest := []) C (zc_Tr_add h y2 y1 y0 c1) ku_Tr_add kw866 kv_Tr_add rfl (zd_rmO (by decide) (by decide)) ⟨Nat.le_refl _, Nat.le_refl _⟩ rfl rfl rfl (Nat.le_of_ble_eq_true rfl) kd_Ps_operand_189 rfl (c1 := 0) (s1 := 0) rfl rfl (fun v w hp => ?_)
  obtain ⟨rfl, rfl⟩ := hp
  refine zk_stk (r' := [.int v2]) rfl ?_
  refine zk_istore_n (lv' := [(1, _), (0, _)]) C kd_Ps_operand_192 rfl (by decide) rfl rfl ?_
  refine zk_aload_n C kd_Ps_operand_193 rfl 1 rfl rfl ?_
  refine zk_aload_n C kd_Ps_operand_194 rfl 1 rfl rfl ?_
  refine zs_get (v := .int (h3.1 19 5)) C 19 5 rfl rfl rfl rfl ki_Ps (by decide) kw206 kd_Ps_operand_195 rfl ?_
  obtain ⟨h5, c4, e⟩ := zd_b e
  refine zs_callV (k := 19) (rn := { frames := 0, cells := 0, slots := 0, locals := 0 }) (As := [.int (h3.1 19 5)]) (rest := []) C (zc_Ps_take h3 (h3.1 19 5) c4) ku_Ps_take kw876 kv_Ps_take rfl (zd_rmO (by decide) (by decide)) ⟨Nat.le_refl _, Nat.le_refl _⟩ rfl rfl rfl (Nat.le_of_ble_eq_true rfl) kd_Ps_operand_198 rfl (c1 := 0) (s1 := 0) rfl rfl (fun v w hp => ?_)
  obtain ⟨rfl, rfl⟩ := hp
  refine zk_stk (r' := []) rfl ?_
  refine zk_iload_n C kd_Ps_operand_201 rfl 0 rfl rfl ?_
  exact zk_iret C hR kd_Ps_operand_202 rfl rfl (zd_rIS e)
set_option maxHeartbeats 4000000 in
set_option maxRecDepth 100000 in
theorem zb_Ps_operand_88 {X : zkj_T} {S : zs_T} {P : ze_T} {l : Launch} {D : va_G} {sz0 : Nat} {d : Nat} {rv : Int32} {rh : zs_H} (C : zk_C X km_Ps_operand (zs_G S l D sz0) { frames := 2 + (d + 1), cells := 0, slots := 0, locals := 47 + 25 * (d + 1) } (ze_E P)) (hR : zkj_R X (zd_PI S rv rh) (some .int)) {r_Ps_operand : zs_H → (Option (Int32 × zs_H))} (hr_Ps_operand : ∀ (h : zs_H) {rv : Int32} {rh : zs_H}, r_Ps_operand h = some (rv, rh) → zk_Sp (zs_G S l D sz0) (ze_E P) km_Ps_operand { frames := 2 + d, cells := 0, slots := 0, locals := 47 + 25 * d } [.ref (S.1 19)] (zs_W S h) (zd_PI S rv rh)) (h : zs_H) (y0 : Int32) (y1 : Int32) (y2 : Int32) (e : f_Ps_operand_88 r_Ps_operand h y0 y1 y2 = some (rv, rh)) : zk_Ab X (zs_W S h) 0 0 88 [(0, .ref (S.1 19))] [.int y0, .int y1, .int y2, .ref (S.1 12)] := by
  unfold f_Ps_operand_88 at e
  obtain ⟨v2, h3, c1, e⟩ := zd_Be e
  refine zs_callV (k := 12) (rn := { frames := 1, cells := 0, slots := 0, locals := 23 }) (As := [.int y2, .int y1, .int y0]) (rest := []) C (zc_Tr_add h y2 y1 y0 c1) ku_Tr_add kw866 kv_Tr_add rfl (zd_rmO (by decide) (by decide)) ⟨Nat.le_refl _, Nat.le_refl _⟩ rfl rfl rfl (Nat.le_of_ble_eq_true rfl) kd_Ps_operand_88 rfl (c1 := 0) (s1 := 0) rfl rfl (fun v w hp => ?_)
  obtain ⟨rfl, rfl⟩ := hp
  refine zk_stk (r' := [.int v2]) rfl ?_
  refine zk_istore_n (lv' := [(1, _), (0, _)]) C kd_Ps_operand_91 rfl (by decide) rfl rfl ?_
  refine zk_aload_n C kd_Ps_operand_92 rfl 1 rfl rfl ?_
  obtain ⟨h5, c4, e⟩ := zd_b e
  refine zs_callV (k := 19) (rn := { frames := 0, cells := 0, slots := 0, locals := 0 }) (As := []) (rest := []) C (zc_Ps_deepen h3 c4) ku_Ps_deepen kw944 kv_Ps_deepen rfl (zd_rmO (by decide) (by decide)) ⟨Nat.le_refl _, Nat.le_refl _⟩ rfl rfl rfl (Nat.le_of_ble_eq_true rfl) kd_Ps_operand_93 rfl (c1 := 0) (s1 := 0) rfl rfl (fun v w hp => ?_)
  obtain ⟨rfl, rfl⟩ := hp
  refine zk_stk (r' := []) rfl ?_
  refine zk_aload_n C kd_Ps_operand_96 rfl 1 rfl rfl ?_
  refine zk_aload_n C kd_Ps_operand_97 rfl 1 rfl rfl ?_
  refine zs_get (v := .int (h5.1 19 5)) C 19 5 rfl rfl rfl rfl ki_Ps (by decide) kw206 kd_Ps_operand_98 rfl ?_
  obtain ⟨h7, c6, e⟩ := zd_b e
  refine zs_callV (k := 19) (rn := { frames := 0, cells := 0, slots := 0, locals := 0 }) (As := [.int (h5.1 19 5)]) (rest := []) C (zc_Ps_take h5 (h5.1 19 5) c6) ku_Ps_take kw876 kv_Ps_take rfl (zd_rmO (by decide) (by decide)) ⟨Nat.le_refl _, Nat.le_refl _⟩ rfl rfl rfl (Nat.le_of_ble_eq_true rfl) kd_Ps_operand_101 rfl (c1 := 0) (s1 := 0) rfl rfl (fun v w hp => ?_)
  obtain ⟨rfl, rfl⟩ := hp
  refine zk_stk (r' := []) rfl ?_
  refine zk_aload_n C kd_Ps_operand_104 rfl 1 rfl rfl ?_
  refine zs_get (v := .ref (S.1 12)) C 19 2 rfl rfl rfl rfl ki_Ps (by decide) kw203 kd_Ps_operand_105 rfl ?_
  refine zk_iload_n C kd_Ps_operand_108 rfl 0 rfl rfl ?_
  refine zk_iconst (v := (-1)) C kd_Ps_operand_109 (by decide) rfl ?_
  refine zk_aload_n C kd_Ps_operand_110 rfl 1 rfl rfl ?_
  obtain ⟨v9, h10, c8, e⟩ := zd_Be e
  refine zs_callV (k := 19) (rn := { frames := 2 + d, cells := 0, slots := 0, locals := 47 + 25 * d }) (As := []) (rest := [.int (-1), .int v2, .ref (S.1 12)]) C (hr_Ps_operand h7 c8) ku_Ps_operand kw956 kv_Ps_operand rfl (zd_rmI (by decide)) ⟨Nat.le_refl _, Nat.le_refl _⟩ rfl rfl rfl (Nat.le_of_ble_eq_true rfl) kd_Ps_operand_111 rfl (c1 := 0) (s1 := 0) rfl rfl (fun v w hp => ?_)
  obtain ⟨rfl, rfl⟩ := hp
  refine zk_stk (r' := [.int v9, .int (-1), .int v2, .ref (S.1 12)]) rfl ?_
  obtain ⟨v12, h13, c11, e⟩ := zd_Be e
  refine zs_callV (k := 12) (rn := { frames := 0, cells := 0, slots := 0, locals := 0 }) (As := [.int v2, .int (-1), .int v9]) (rest := []) C (zc_Tr_hang h10 v2 (-1) v9 c11) ku_Tr_hang kw884 kv_Tr_hang rfl (zd_rmO (by decide) (by decide)) ⟨Nat.le_refl _, Nat.le_refl _⟩ rfl rfl rfl (Nat.le_of_ble_eq_true rfl) kd_Ps_operand_114 rfl (c1 := 0) (s1 := 0) rfl rfl (fun v w hp => ?_)
  obtain ⟨rfl, rfl⟩ := hp
  refine zk_stk (r' := [.int v12]) rfl ?_
  refine zk_pop C kd_Ps_operand_117 rfl rfl ?_
  refine zk_aload_n C kd_Ps_operand_118 rfl 1 rfl rfl ?_
  refine zk_dup C kd_Ps_operand_119 rfl rfl ?_
  refine zs_get (v := .int (h13.1 19 7)) C 19 7 rfl rfl rfl rfl ki_Ps (by decide) kw208 kd_Ps_operand_120 rfl ?_
  refine zk_iconst (v := 1) C kd_Ps_operand_123 (by decide) rfl ?_
  refine zk_isub C kd_Ps_operand_124 rfl ?_
  refine zs_put (ty := .int) C 19 7 ((h13.1 19 7) - 1) rfl rfl rfl rfl ki_Ps ky_Ps ko_Ps kn_Ps (by decide) kw208 rfl rfl rfl rfl (by decide) kd_Ps_operand_125 rfl ?_
  refine zk_iload_n C kd_Ps_operand_128 rfl 0 rfl rfl ?_
  exact zk_iret C hR kd_Ps_operand_129 rfl rfl (zd_rIS e)
set_option maxHeartbeats 4000000 in
set_option maxRecDepth 100000 in
theorem zg_Ps_operand {l : Launch} {D : va_G} {sz0 : Nat} {S : zs_T} {P : ze_T} {d : Nat} {r_Ps_expression : zs_H → Int32 → (Option (Int32 × zs_H))} (hr_Ps_expression : ∀ (h : zs_H) (x0 : Int32) {rv : Int32} {rh : zs_H}, r_Ps_expression h x0 = some (rv, rh) → zk_Sp (zs_G S l D sz0) (ze_E P) km_Ps_expression { frames := 2 + d, cells := 0, slots := 0, locals := 47 + 25 * d } [.ref (S.1 19), .int x0] (zs_W S h) (zd_PI S rv rh)) {r_Ps_namedOperand : zs_H → (Option (Int32 × zs_H))} (hr_Ps_namedOperand : ∀ (h : zs_H) {rv : Int32} {rh : zs_H}, r_Ps_namedOperand h = some (rv, rh) → zk_Sp (zs_G S l D sz0) (ze_E P) km_Ps_namedOperand { frames := 2 + d, cells := 0, slots := 0, locals := 47 + 25 * d } [.ref (S.1 19)] (zs_W S h) (zd_PI S rv rh)) {r_Ps_operand : zs_H → (Option (Int32 × zs_H))} (hr_Ps_operand : ∀ (h : zs_H) {rv : Int32} {rh : zs_H}, r_Ps_operand h = some (rv, rh) → zk_Sp (zs_G S l D sz0) (ze_E P) km_Ps_operand { frames := 2 + d, cells := 0, slots := 0, locals := 47 + 25 * d } [.ref (S.1 19)] (zs_W S h) (zd_PI S rv rh)) (h : zs_H) {rv : Int32} {rh : zs_H} (e : g_Ps_operand r_Ps_expression r_Ps_namedOperand r_Ps_operand h = some (rv, rh)) : zk_Sp (zs_G S l D sz0) (ze_E P) km_Ps_operand { frames := 2 + (d + 1), cells := 0, slots := 0, locals := 47 + 25 * (d + 1) } [.ref (S.1 19)] (zs_W S h) (zd_PI S rv rh) := by
  refine zk_met ku_Ps_operand (Nat.le_of_ble_eq_true rfl) (ze_Em P) ?_
  intro X C hR
  refine zk_lvs (lv' := [(0, .ref (S.1 19))]) [0] rfl ?_
  unfold g_Ps_operand at e
  refine zk_aload_n C kd_Ps_operand_0 rfl 0 rfl rfl ?_
  refine zs_get (v := .int (h.1 19 5)) C 19 5 rfl rfl rfl rfl ki_Ps (by decide) kw206 kd_Ps_operand_1 rfl ?_
  by_cases b1 : (h.1 19 5) = 8
  · replace e := zd_pos b1 e
    refine zk_lookup (tgt := 203) C kd_Ps_operand_4 (by decide) (by rw [b1]) (by decide) ?_
    refine zk_aload_n C kd_Ps_operand_203 rfl 0 rfl rfl ?_
    obtain ⟨v3, h4, c2, e⟩ := zd_Be e
    refine zs_callV (k := 19) (rn := { frames := 2 + d, cells := 0, slots := 0, locals := 47 + 25 * d }) (As := []) (rest := []) C (hr_Ps_namedOperand h c2) ku_Ps_namedOperand kw960 kv_Ps_namedOperand rfl (zd_rmI (by decide)) ⟨Nat.le_refl _, Nat.le_refl _⟩ rfl rfl rfl (Nat.le_of_ble_eq_true rfl) kd_Ps_operand_204 rfl (c1 := 0) (s1 := 0) rfl rfl (fun v w hp => ?_)
    obtain ⟨rfl, rfl⟩ := hp
    refine zk_stk (r' := [.int v3]) rfl ?_
    exact zk_iret C hR kd_Ps_operand_207 rfl rfl (zd_rIS e)
  replace e := zd_neg b1 e
  by_cases b5 : (h.1 19 5) = 40
  · replace e := zd_pos b5 e
    refine zk_lookup (tgt := 130) C kd_Ps_operand_4 (by decide) (by rw [b5]) (by decide) ?_
    refine zk_aload_n C kd_Ps_operand_130 rfl 0 rfl rfl ?_
    obtain ⟨h7, c6, e⟩ := zd_b e
    refine zs_callV (k := 19) (rn := { frames := 0, cells := 0, slots := 0, locals := 0 }) (As := []) (rest := []) C (zc_Ps_deepen h c6) ku_Ps_deepen kw944 kv_Ps_deepen rfl (zd_rmO (by decide) (by decide)) ⟨Nat.le_refl _, Nat.le_refl _⟩ rfl rfl rfl (Nat.le_of_ble_eq_true rfl) kd_Ps_operand_131 rfl (c1 := 0) (s1 := 0) rfl rfl (fun v w hp => ?_)
    obtain ⟨rfl, rfl⟩ := hp
    refine zk_stk (r' := []) rfl ?_
    refine zk_aload_n C kd_Ps_operand_134 rfl 0 rfl rfl ?_
    refine zk_bipush (v := 40) C kd_Ps_operand_135 (by decide) rfl ?_
    obtain ⟨h9, c8, e⟩ := zd_b e
    refine zs_callV (k := 19) (rn := { frames := 0, cells := 0, slots := 0, locals := 0 }) (As := [.int 40]) (rest := []) C (zc_Ps_take h7 40 c8) ku_Ps_take kw876 kv_Ps_take rfl (zd_rmO (by decide) (by decide)) ⟨Nat.le_refl _, Nat.le_refl _⟩ rfl rfl rfl (Nat.le_of_ble_eq_true rfl) kd_Ps_operand_137 rfl (c1 := 0) (s1 := 0) rfl rfl (fun v w hp => ?_)
    obtain ⟨rfl, rfl⟩ := hp
    refine zk_stk (r' := []) rfl ?_
    refine zk_aload_n C kd_Ps_operand_140 rfl 0 rfl rfl ?_
    refine zk_iconst (v := 0) C kd_Ps_operand_141 (by decide) rfl ?_
    obtain ⟨v11, h12, c10, e⟩ := zd_Be e
    refine zs_callV (k := 19) (rn := { frames := 2 + d, cells := 0, slots := 0, locals := 47 + 25 * d }) (As := [.int 0]) (rest := []) C (hr_Ps_expression h9 0 c10) ku_Ps_expression kw952 kv_Ps_expression rfl (zd_rmI (by decide)) ⟨Nat.le_refl _, Nat.le_refl _⟩ rfl rfl rfl (Nat.le_of_ble_eq_true rfl) kd_Ps_operand_142 rfl (c1 := 0) (s1 := 0) rfl rfl (fun v w hp => ?_)
    obtain ⟨rfl, rfl⟩ := hp
    refine zk_stk (r' := [.int v11]) rfl ?_
    refine zk_istore_n (lv' := [(1, _), (0, _)]) C kd_Ps_operand_145 rfl (by decide) rfl rfl ?_
    refine zk_aload_n C kd_Ps_operand_146 rfl 1 rfl rfl ?_
    refine zk_bipush (v := 41) C kd_Ps_operand_147 (by decide) rfl ?_
    obtain ⟨h14, c13, e⟩ := zd_b e
    refine zs_callV (k := 19) (rn := { frames := 0, cells := 0, slots := 0, locals := 0 }) (As := [.int 41]) (rest := []) C (zc_Ps_take h12 41 c13) ku_Ps_take kw876 kv_Ps_take rfl (zd_rmO (by decide) (by decide)) ⟨Nat.le_refl _, Nat.le_refl _⟩ rfl rfl rfl (Nat.le_of_ble_eq_true rfl) kd_Ps_operand_149 rfl (c1 := 0) (s1 := 0) rfl rfl (fun v w hp => ?_)
    obtain ⟨rfl, rfl⟩ := hp
    refine zk_stk (r' := []) rfl ?_
    refine zk_aload_n C kd_Ps_operand_152 rfl 1 rfl rfl ?_
    refine zk_dup C kd_Ps_operand_153 rfl rfl ?_
    refine zs_get (v := .int (h14.1 19 7)) C 19 7 rfl rfl rfl rfl ki_Ps (by decide) kw208 kd_Ps_operand_154 rfl ?_
    refine zk_iconst (v := 1) C kd_Ps_operand_157 (by decide) rfl ?_
    refine zk_isub C kd_Ps_operand_158 rfl ?_
    refine zs_put (ty := .int) C 19 7 ((h14.1 19 7) - 1) rfl rfl rfl rfl ki_Ps ky_Ps ko_Ps kn_Ps (by decide) kw208 rfl rfl rfl rfl (by decide) kd_Ps_operand_159 rfl ?_
    refine zk_iload_n C kd_Ps_operand_162 rfl 0 rfl rfl ?_
    exact zk_iret C hR kd_Ps_operand_163 rfl rfl (zd_rIS e)
  replace e := zd_neg b5 e
  by_cases b15 : (h.1 19 5) = 45
  · replace e := zd_pos b15 e
    refine zk_lookup (tgt := 64) C kd_Ps_operand_4 (by decide) (by rw [b15]) (by decide) ?_
    refine zk_aload_n C kd_Ps_operand_64 rfl 0 rfl rfl ?_
    refine zs_get (v := .ref (S.1 12)) C 19 2 rfl rfl rfl rfl ki_Ps (by decide) kw203 kd_Ps_operand_65 rfl ?_
    refine zk_bipush (v := 36) C kd_Ps_operand_68 (by decide) rfl ?_
    refine zk_aload_n C kd_Ps_operand_70 rfl 0 rfl rfl ?_
    refine zs_get (v := .int (h.1 19 6)) C 19 6 rfl rfl rfl rfl ki_Ps (by decide) kw207 kd_Ps_operand_71 rfl ?_
    refine zk_aload_n C kd_Ps_operand_74 rfl 0 rfl rfl ?_
    refine zs_get (v := .int (h.1 19 5)) C 19 5 rfl rfl rfl rfl ki_Ps (by decide) kw206 kd_Ps_operand_75 rfl ?_
    refine zk_bipush (v := 45) C kd_Ps_operand_78 (by decide) rfl ?_
    refine zk_icmp_ne (tgt := 87) C kd_Ps_operand_80 (by decide) rfl (fun b16 => ?_) (fun b16 => ?_)
    · replace e := zd_neg b16 e
      refine zk_iconst (v := 1) C kd_Ps_operand_87 (by decide) rfl ?_
      refine zk_lvs (lv' := [(0, .ref (S.1 19))]) [0] rfl ?_
      exact zb_Ps_operand_88 C hR hr_Ps_operand h 1 (h.1 19 6) 36 e
    · replace e := zd_pos b16 e
      refine zk_iconst (v := 0) C kd_Ps_operand_83 (by decide) rfl ?_
      refine zk_goto (tgt := 88) C kd_Ps_operand_84 (by decide) ?_
      refine zk_lvs (lv' := [(0, .ref (S.1 19))]) [0] rfl ?_
      exact zb_Ps_operand_88 C hR hr_Ps_operand h 0 (h.1 19 6) 36 e
  replace e := zd_neg b15 e
  by_cases b17 : (h.1 19 5) = 162
  · replace e := zd_pos b17 e
    refine zk_lookup (tgt := 64) C kd_Ps_operand_4 (by decide) (by rw [b17]) (by decide) ?_
    refine zk_aload_n C kd_Ps_operand_64 rfl 0 rfl rfl ?_
    refine zs_get (v := .ref (S.1 12)) C 19 2 rfl rfl rfl rfl ki_Ps (by decide) kw203 kd_Ps_operand_65 rfl ?_
    refine zk_bipush (v := 36) C kd_Ps_operand_68 (by decide) rfl ?_
    refine zk_aload_n C kd_Ps_operand_70 rfl 0 rfl rfl ?_
    refine zs_get (v := .int (h.1 19 6)) C 19 6 rfl rfl rfl rfl ki_Ps (by decide) kw207 kd_Ps_operand_71 rfl ?_
    refine zk_aload_n C kd_Ps_operand_74 rfl 0 rfl rfl ?_
    refine zs_get (v := .int (h.1 19 5)) C 19 5 rfl rfl rfl rfl ki_Ps (by decide) kw206 kd_Ps_operand_75 rfl ?_
    refine zk_bipush (v := 45) C kd_Ps_operand_78 (by decide) rfl ?_
    refine zk_icmp_ne (tgt := 87) C kd_Ps_operand_80 (by decide) rfl (fun b18 => ?_) (fun b18 => ?_)
    · replace e := zd_neg b18 e
      refine zk_iconst (v := 1) C kd_Ps_operand_87 (by decide) rfl ?_
      refine zk_lvs (lv' := [(0, .ref (S.1 19))]) [0] rfl ?_
      exact zb_Ps_operand_88 C hR hr_Ps_operand h 1 (h.1 19 6) 36 e
    · replace e := zd_pos b18 e
      refine zk_iconst (v := 0) C kd_Ps_operand_83 (by decide) rfl ?_
      refine zk_goto (tgt := 88) C kd_Ps_operand_84 (by decide) ?_
      refine zk_lvs (lv' := [(0, .ref (S.1 19))]) [0] rfl ?_
      exact zb_Ps_operand_88 C hR hr_Ps_operand h 0 (h.1 19 6) 36 e
  replace e := zd_neg b17 e
  by_cases b19 : (h.1 19 5) = 163
  · replace e := zd_pos b19 e
    refine zk_lookup (tgt := 164) C kd_Ps_operand_4 (by decide) (by rw [b19]) (by decide) ?_
    refine zk_aload_n C kd_Ps_operand_164 rfl 0 rfl rfl ?_
    refine zs_get (v := .ref (S.1 12)) C 19 2 rfl rfl rfl rfl ki_Ps (by decide) kw203 kd_Ps_operand_165 rfl ?_
    refine zk_bipush (v := 31) C kd_Ps_operand_168 (by decide) rfl ?_
    refine zk_aload_n C kd_Ps_operand_170 rfl 0 rfl rfl ?_
    refine zs_get (v := .int (h.1 19 6)) C 19 6 rfl rfl rfl rfl ki_Ps (by decide) kw207 kd_Ps_operand_171 rfl ?_
    refine zk_aload_n C kd_Ps_operand_174 rfl 0 rfl rfl ?_
    refine zs_get (v := .int (h.1 19 5)) C 19 5 rfl rfl rfl rfl ki_Ps (by decide) kw206 kd_Ps_operand_175 rfl ?_
    refine zk_sipush (v := 163) C kd_Ps_operand_178 (by decide) rfl ?_
    refine zk_icmp_ne (tgt := 188) C kd_Ps_operand_181 (by decide) rfl (fun b20 => ?_) (fun b20 => ?_)
    · replace e := zd_neg b20 e
      refine zk_iconst (v := 0) C kd_Ps_operand_188 (by decide) rfl ?_
      refine zk_lvs (lv' := [(0, .ref (S.1 19))]) [0] rfl ?_
      exact zb_Ps_operand_189 C hR h 0 (h.1 19 6) 31 e
    · replace e := zd_pos b20 e
      refine zk_iconst (v := 1) C kd_Ps_operand_184 (by decide) rfl ?_
      refine zk_goto (tgt := 189) C kd_Ps_operand_185 (by decide) ?_
      refine zk_lvs (lv' := [(0, .ref (S.1 19))]) [0] rfl ?_
      exact zb_Ps_operand_189 C hR h 1 (h.1 19 6) 31 e
  replace e := zd_neg b19 e
  by_cases b21 : (h.1 19 5) = 164
  · replace e := zd_pos b21 e
    refine zk_lookup (tgt := 164) C kd_Ps_operand_4 (by decide) (by rw [b21]) (by decide) ?_
    refine zk_aload_n C kd_Ps_operand_164 rfl 0 rfl rfl ?_
    refine zs_get (v := .ref (S.1 12)) C 19 2 rfl rfl rfl rfl ki_Ps (by decide) kw203 kd_Ps_operand_165 rfl ?_
    refine zk_bipush (v := 31) C kd_Ps_operand_168 (by decide) rfl ?_
    refine zk_aload_n C kd_Ps_operand_170 rfl 0 rfl rfl ?_
    refine zs_get (v := .int (h.1 19 6)) C 19 6 rfl rfl rfl rfl ki_Ps (by decide) kw207 kd_Ps_operand_171 rfl ?_
    refine zk_aload_n C kd_Ps_operand_174 rfl 0 rfl rfl ?_
    refine zs_get (v := .int (h.1 19 5)) C 19 5 rfl rfl rfl rfl ki_Ps (by decide) kw206 kd_Ps_operand_175 rfl ?_
    refine zk_sipush (v := 163) C kd_Ps_operand_178 (by decide) rfl ?_
    refine zk_icmp_ne (tgt := 188) C kd_Ps_operand_181 (by decide) rfl (fun b22 => ?_) (fun b22 => ?_)
    · replace e := zd_neg b22 e
      refine zk_iconst (v := 0) C kd_Ps_operand_188 (by decide) rfl ?_
      refine zk_lvs (lv' := [(0, .ref (S.1 19))]) [0] rfl ?_
      exact zb_Ps_operand_189 C hR h 0 (h.1 19 6) 31 e
    · replace e := zd_pos b22 e
      refine zk_iconst (v := 1) C kd_Ps_operand_184 (by decide) rfl ?_
      refine zk_goto (tgt := 189) C kd_Ps_operand_185 (by decide) ?_
      refine zk_lvs (lv' := [(0, .ref (S.1 19))]) [0] rfl ?_
      exact zb_Ps_operand_189 C hR h 1 (h.1 19 6) 31 e
  replace e := zd_neg b21 e
  refine zk_lookup (tgt := 208) C kd_Ps_operand_4 (by decide) (zd_lk (by show _ ∉ ([8, 40, 45, 162, 163, 164] : List Int); have n0 := lv_neT b1 (a := 8) (by decide); have n1 := lv_neT b5 (a := 40) (by decide); have n2 := lv_neT b15 (a := 45) (by decide); have n3 := lv_neT b17 (a := 162) (by decide); have n4 := lv_neT b19 (a := 163) (by decide); have n5 := lv_neT b21 (a := 164) (by decide); simp only [List.mem_cons, List.not_mem_nil, or_false, not_or]; exact ⟨n0, n1, n2, n3, n4, n5⟩)) (by decide) ?_
  refine zk_aload_n C kd_Ps_operand_208 rfl 0 rfl rfl ?_
  refine zs_get (v := .ref (S.1 12)) C 19 2 rfl rfl rfl rfl ki_Ps (by decide) kw203 kd_Ps_operand_209 rfl ?_
  refine zk_bipush (v := 30) C kd_Ps_operand_212 (by decide) rfl ?_
  refine zk_aload_n C kd_Ps_operand_214 rfl 0 rfl rfl ?_
  refine zs_get (v := .int (h.1 19 6)) C 19 6 rfl rfl rfl rfl ki_Ps (by decide) kw207 kd_Ps_operand_215 rfl ?_
  refine zk_aload_n C kd_Ps_operand_218 rfl 0 rfl rfl ?_
  refine zs_get (v := .ref (S.1 8)) C 19 1 rfl rfl rfl rfl ki_Ps (by decide) kw202 kd_Ps_operand_219 rfl ?_
  refine zs_get (v := .ref (S.1 11)) C 8 2 rfl rfl rfl rfl ki_Tk (by decide) kw123 kd_Ps_operand_222 rfl ?_
  refine zk_aload_n C kd_Ps_operand_225 rfl 0 rfl rfl ?_
  refine zs_get (v := .int (h.1 19 4)) C 19 4 rfl rfl rfl rfl ki_Ps (by decide) kw205 kd_Ps_operand_226 rfl ?_
  obtain ⟨q23, e⟩ := zd_g e
  refine zs_iald C 11 rfl (zd_vp q23) kd_Ps_operand_229 rfl ?_
  obtain ⟨v25, h26, c24, e⟩ := zd_Be e
  refine zs_callV (k := 12) (rn := { frames := 1, cells := 0, slots := 0, locals := 23 }) (As := [.int 30, .int (h.1 19 6), .int (h.2.1 11 (h.1 19 4).toNatClampNeg)]) (rest := []) C (zc_Tr_add h 30 (h.1 19 6) (h.2.1 11 (h.1 19 4).toNatClampNeg) c24) ku_Tr_add kw866 kv_Tr_add rfl (zd_rmO (by decide) (by decide)) ⟨Nat.le_refl _, Nat.le_refl _⟩ rfl rfl rfl (Nat.le_of_ble_eq_true rfl) kd_Ps_operand_230 rfl (c1 := 0) (s1 := 0) rfl rfl (fun v w hp => ?_)
  obtain ⟨rfl, rfl⟩ := hp
  refine zk_stk (r' := [.int v25]) rfl ?_
  refine zk_istore_n (lv' := [(1, _), (0, _)]) C kd_Ps_operand_233 rfl (by decide) rfl rfl ?_
  refine zk_aload_n C kd_Ps_operand_234 rfl 1 rfl rfl ?_
  refine zk_bipush (v := 9) C kd_Ps_operand_235 (by decide) rfl ?_
  obtain ⟨h28, c27, e⟩ := zd_b e
  refine zs_callV (k := 19) (rn := { frames := 0, cells := 0, slots := 0, locals := 0 }) (As := [.int 9]) (rest := []) C (zc_Ps_take h26 9 c27) ku_Ps_take kw876 kv_Ps_take rfl (zd_rmO (by decide) (by decide)) ⟨Nat.le_refl _, Nat.le_refl _⟩ rfl rfl rfl (Nat.le_of_ble_eq_true rfl) kd_Ps_operand_237 rfl (c1 := 0) (s1 := 0) rfl rfl (fun v w hp => ?_)
  obtain ⟨rfl, rfl⟩ := hp
  refine zk_stk (r' := []) rfl ?_
  refine zk_iload_n C kd_Ps_operand_240 rfl 0 rfl rfl ?_
  exact zk_iret C hR kd_Ps_operand_241 rfl rfl (zd_rIS e)
theorem zs_Ps_expression {l : Launch} {D : va_G} {sz0 : Nat} {S : zs_T} {P : ze_T} (d : Nat) : (∀ (h : zs_H) (x0 : Int32) {rv : Int32} {rh : zs_H}, f_Ps_expression d h x0 = some (rv, rh) → zk_Sp (zs_G S l D sz0) (ze_E P) km_Ps_expression { frames := 2 + d, cells := 0, slots := 0, locals := 47 + 25 * d } [.ref (S.1 19), .int x0] (zs_W S h) (zd_PI S rv rh)) ∧ (∀ (h : zs_H) {rv : Int32} {rh : zs_H}, f_Ps_namedOperand d h = some (rv, rh) → zk_Sp (zs_G S l D sz0) (ze_E P) km_Ps_namedOperand { frames := 2 + d, cells := 0, slots := 0, locals := 47 + 25 * d } [.ref (S.1 19)] (zs_W S h) (zd_PI S rv rh)) ∧ (∀ (h : zs_H) {rv : Int32} {rh : zs_H}, f_Ps_operand d h = some (rv, rh) → zk_Sp (zs_G S l D sz0) (ze_E P) km_Ps_operand { frames := 2 + d, cells := 0, slots := 0, locals := 47 + 25 * d } [.ref (S.1 19)] (zs_W S h) (zd_PI S rv rh)) := by
  induction d with
  | zero => exact ⟨(fun h x0 _ _ e => zd_no e), (fun h _ _ e => zd_no e), (fun h _ _ e => zd_no e)⟩
  | succ d ih =>
    obtain ⟨q0, q1, q2⟩ := ih
    exact ⟨(fun h x0 _ _ e => zg_Ps_expression (r_Ps_expression := f_Ps_expression d) q0 (r_Ps_operand := f_Ps_operand d) q2 h x0 e), (fun h _ _ e => zg_Ps_namedOperand (r_Ps_expression := f_Ps_expression d) q0 h e), (fun h _ _ e => zg_Ps_operand (r_Ps_expression := f_Ps_expression d) q0 (r_Ps_namedOperand := f_Ps_namedOperand d) q1 (r_Ps_operand := f_Ps_operand d) q2 h e)⟩
theorem zc_Ps_expression {l : Launch} {D : va_G} {sz0 : Nat} {S : zs_T} {P : ze_T} (h : zs_H) (x0 : Int32) {rv : Int32} {rh : zs_H} (e : f_Ps_expression 400 h x0 = some (rv, rh)) : zk_Sp (zs_G S l D sz0) (ze_E P) km_Ps_expression { frames := 2 + 400, cells := 0, slots := 0, locals := 47 + 25 * 400 } [.ref (S.1 19), .int x0] (zs_W S h) (zd_PI S rv rh) := (zs_Ps_expression 400).1 h x0 e
theorem zc_Ps_namedOperand {l : Launch} {D : va_G} {sz0 : Nat} {S : zs_T} {P : ze_T} (h : zs_H) {rv : Int32} {rh : zs_H} (e : f_Ps_namedOperand 400 h = some (rv, rh)) : zk_Sp (zs_G S l D sz0) (ze_E P) km_Ps_namedOperand { frames := 2 + 400, cells := 0, slots := 0, locals := 47 + 25 * 400 } [.ref (S.1 19)] (zs_W S h) (zd_PI S rv rh) := (zs_Ps_expression 400).2.1 h e
theorem zc_Ps_operand {l : Launch} {D : va_G} {sz0 : Nat} {S : zs_T} {P : ze_T} (h : zs_H) {rv : Int32} {rh : zs_H} (e : f_Ps_operand 400 h = some (rv, rh)) : zk_Sp (zs_G S l D sz0) (ze_E P) km_Ps_operand { frames := 2 + 400, cells := 0, slots := 0, locals := 47 + 25 * 400 } [.ref (S.1 19)] (zs_W S h) (zd_PI S rv rh) := (zs_Ps_expression 400).2.2 h e
set_option maxHeartbeats 4000000 in
set_option maxRecDepth 100000 in
theorem zc_Ps_wholeExpression {l : Launch} {D : va_G} {sz0 : Nat} {S : zs_T} {P : ze_T} (h : zs_H) {rv : Int32} {rh : zs_H} (e : f_Ps_wholeExpression h = some (rv, rh)) : zk_Sp (zs_G S l D sz0) (ze_E P) km_Ps_wholeExpression { frames := 403, cells := 0, slots := 0, locals := 10072 } [.ref (S.1 19)] (zs_W S h) (zd_PI S rv rh) := by
  refine zk_met ku_Ps_wholeExpression (Nat.le_of_ble_eq_true rfl) (ze_Em P) ?_
  intro X C hR
  refine zk_lvs (lv' := [(0, .ref (S.1 19))]) [0] rfl ?_
  unfold f_Ps_wholeExpression at e
  refine zk_aload_n C kd_Ps_wholeExpression_0 rfl 0 rfl rfl ?_
  refine zs_get (v := .int (h.1 19 7)) C 19 7 rfl rfl rfl rfl ki_Ps (by decide) kw208 kd_Ps_wholeExpression_1 rfl ?_
  refine zk_istore_n (lv' := [(1, _), (0, _)]) C kd_Ps_wholeExpression_4 rfl (by decide) rfl rfl ?_
  refine zk_aload_n C kd_Ps_wholeExpression_5 rfl 1 rfl rfl ?_
  refine zk_iconst (v := 0) C kd_Ps_wholeExpression_6 (by decide) rfl ?_
  obtain ⟨v2, h3, c1, e⟩ := zd_Be e
  refine zs_callV (k := 19) (rn := { frames := 2 + 400, cells := 0, slots := 0, locals := 47 + 25 * 400 }) (As := [.int 0]) (rest := []) C (zc_Ps_expression h 0 c1) ku_Ps_expression kw952 kv_Ps_expression rfl ⟨by decide, by decide⟩ ⟨by decide, by decide⟩ rfl rfl rfl (Nat.le_of_ble_eq_true rfl) kd_Ps_wholeExpression_7 rfl (c1 := 0) (s1 := 0) rfl rfl (fun v w hp => ?_)
  obtain ⟨rfl, rfl⟩ := hp
  refine zk_stk (r' := [.int v2]) rfl ?_
  refine zk_istore_n (lv' := [(2, _), (1, _), (0, _)]) C kd_Ps_wholeExpression_10 rfl (by decide) rfl rfl ?_
  refine zk_aload_n C kd_Ps_wholeExpression_11 rfl 2 rfl rfl ?_
  refine zk_iload_n C kd_Ps_wholeExpression_12 rfl 1 rfl rfl ?_
  refine zs_put (ty := .int) C 19 7 (h.1 19 7) rfl rfl rfl rfl ki_Ps ky_Ps ko_Ps kn_Ps (by decide) kw208 rfl rfl rfl rfl (by decide) kd_Ps_wholeExpression_13 rfl ?_
  refine zk_iload_n C kd_Ps_wholeExpression_16 rfl 0 rfl rfl ?_
  exact zk_iret C hR kd_Ps_wholeExpression_17 rfl rfl (zd_rIS e)
set_option maxHeartbeats 4000000 in
set_option maxRecDepth 100000 in
theorem zc_Ps_isConstant {l : Launch} {D : va_G} {sz0 : Nat} {S : zs_T} {P : ze_T} (h : zs_H) : zk_Sp (zs_G S l D sz0) (ze_E P) km_Ps_isConstant { frames := 0, cells := 0, slots := 0, locals := 0 } [.ref (S.1 19)] (zs_W S h) (zd_PZ S (f_Ps_isConstant h) h) := by
  obtain ⟨rv, e⟩ : ∃ rv, f_Ps_isConstant h = rv := ⟨_, rfl⟩
  rw [e]
  refine zk_met ku_Ps_isConstant (Nat.le_of_ble_eq_true rfl) (ze_Em P) ?_
  intro X C hR
  refine zk_lvs (lv' := [(0, .ref (S.1 19))]) [0] rfl ?_
  unfold f_Ps_isConstant at e
  refine zk_aload_n C kd_Ps_isConstant_0 rfl 0 rfl rfl ?_
  refine zs_get (v := .int (h.1 19 5)) C 19 5 rfl rfl rfl rfl ki_Ps (by decide) kw206 kd_Ps_isConstant_1 rfl ?_
  refine zk_bipush (v := 45) C kd_Ps_isConstant_4 (by decide) rfl ?_
  refine zk_icmp_eq (tgt := 38) C kd_Ps_isConstant_6 (by decide) rfl (fun b1 => ?_) (fun b1 => ?_)
  · replace e := zd_pos b1 e
    refine zk_iconst (v := 1) C kd_Ps_isConstant_38 (by decide) rfl ?_
    refine zk_goto (tgt := 43) C kd_Ps_isConstant_39 (by decide) ?_
    exact zk_zret C hR (zd_nb (Or.inr rfl)) kd_Ps_isConstant_43 rfl rfl (zd_rZT (Or.inr rfl) e)
  · replace e := zd_neg b1 e
    refine zk_aload_n C kd_Ps_isConstant_9 rfl 0 rfl rfl ?_
    refine zs_get (v := .int (h.1 19 5)) C 19 5 rfl rfl rfl rfl ki_Ps (by decide) kw206 kd_Ps_isConstant_10 rfl ?_
    refine zk_bipush (v := 9) C kd_Ps_isConstant_13 (by decide) rfl ?_
    refine zk_icmp_eq (tgt := 38) C kd_Ps_isConstant_15 (by decide) rfl (fun b2 => ?_) (fun b2 => ?_)
    · replace e := zd_pos b2 e
      refine zk_iconst (v := 1) C kd_Ps_isConstant_38 (by decide) rfl ?_
      refine zk_goto (tgt := 43) C kd_Ps_isConstant_39 (by decide) ?_
      exact zk_zret C hR (zd_nb (Or.inr rfl)) kd_Ps_isConstant_43 rfl rfl (zd_rZT (Or.inr rfl) e)
    · replace e := zd_neg b2 e
      refine zk_aload_n C kd_Ps_isConstant_18 rfl 0 rfl rfl ?_
      refine zs_get (v := .int (h.1 19 5)) C 19 5 rfl rfl rfl rfl ki_Ps (by decide) kw206 kd_Ps_isConstant_19 rfl ?_
      refine zk_sipush (v := 163) C kd_Ps_isConstant_22 (by decide) rfl ?_
      refine zk_icmp_eq (tgt := 38) C kd_Ps_isConstant_25 (by decide) rfl (fun b3 => ?_) (fun b3 => ?_)
      · replace e := zd_pos b3 e
        refine zk_iconst (v := 1) C kd_Ps_isConstant_38 (by decide) rfl ?_
        refine zk_goto (tgt := 43) C kd_Ps_isConstant_39 (by decide) ?_
        exact zk_zret C hR (zd_nb (Or.inr rfl)) kd_Ps_isConstant_43 rfl rfl (zd_rZT (Or.inr rfl) e)
      · replace e := zd_neg b3 e
        refine zk_aload_n C kd_Ps_isConstant_28 rfl 0 rfl rfl ?_
        refine zs_get (v := .int (h.1 19 5)) C 19 5 rfl rfl rfl rfl ki_Ps (by decide) kw206 kd_Ps_isConstant_29 rfl ?_
        refine zk_sipush (v := 164) C kd_Ps_isConstant_32 (by decide) rfl ?_
        refine zk_icmp_ne (tgt := 42) C kd_Ps_isConstant_35 (by decide) rfl (fun b4 => ?_) (fun b4 => ?_)
        · replace e := zd_neg b4 e
          refine zk_iconst (v := 0) C kd_Ps_isConstant_42 (by decide) rfl ?_
          exact zk_zret C hR (zd_nb (Or.inl rfl)) kd_Ps_isConstant_43 rfl rfl (zd_rZT (Or.inl rfl) e)
        · replace e := zd_pos b4 e
          refine zk_iconst (v := 1) C kd_Ps_isConstant_38 (by decide) rfl ?_
          refine zk_goto (tgt := 43) C kd_Ps_isConstant_39 (by decide) ?_
          exact zk_zret C hR (zd_nb (Or.inr rfl)) kd_Ps_isConstant_43 rfl rfl (zd_rZT (Or.inr rfl) e)
set_option maxHeartbeats 4000000 in
set_option maxRecDepth 100000 in
theorem zb_Ps_ranges_119 {X : zkj_T} {S : zs_T} {P : ze_T} {l : Launch} {D : va_G} {sz0 : Nat} {rv : Int32} {rh : zs_H} (C : zk_C X km_Ps_ranges (zs_G S l D sz0) { frames := 3, cells := 0, slots := 0, locals := 69 } (ze_E P)) (hR : zkj_R X (zd_PI S rv rh) (some .int)) {k7 : zs_H → Int32 → Int32 → Int32 → Int32 → (Option (Int32 × zs_H))} (hk7 : ∀ (h : zs_H) (x1 : Int32) (x2 : Int32) (x3 : Int32) (x4 : Int32), k7 h x1 x2 x3 x4 = some (rv, rh) → zk_Ab X (zs_W S h) 0 0 7 [(0, .ref (S.1 19)), (1, .int x1), (2, .int x2), (3, .int x3), (4, .int x4)] []) (h : zs_H) (x1 : Int32) (x2 : Int32) (x3 : Int32) (x4 : Int32) (y0 : Int32) (e : f_Ps_ranges_119 k7 h x1 x2 x3 x4 y0 = some (rv, rh)) : zk_Ab X (zs_W S h) 0 0 119 [(0, .ref (S.1 19)), (1, .int x1), (2, .int x2), (3, .int x3), (4, .int x4)] [.int y0, .ref (S.1 19)] := by
  unfold f_Ps_ranges_119 at e
  obtain ⟨h2, c1, e⟩ := zd_b e
  refine zs_callV (k := 19) (rn := { frames := 0, cells := 0, slots := 0, locals := 0 }) (As := [.int y0]) (rest := []) C (zc_Ps_take h y0 c1) ku_Ps_take kw876 kv_Ps_take rfl ⟨by decide, by decide⟩ ⟨by decide, by decide⟩ rfl rfl rfl (Nat.le_of_ble_eq_true rfl) kd_Ps_ranges_119 rfl (c1 := 0) (s1 := 0) rfl rfl (fun v w hp => ?_)
  obtain ⟨rfl, rfl⟩ := hp
  refine zk_stk (r' := []) rfl ?_
  refine zk_iinc (v := (x4 + 1)) (lv' := [(4, _), (0, _), (1, _), (2, _), (3, _)]) C kd_Ps_ranges_122 4 rfl rfl (by decide) rfl rfl ?_
  refine zk_goto (tgt := 7) C kd_Ps_ranges_125 (by decide) ?_
  refine zk_lvs (lv' := [(0, .ref (S.1 19)), (1, .int x1), (2, .int x2), (3, .int x3), (4, .int (x4 + 1))]) [1, 2, 3, 4, 0] rfl ?_
  exact hk7 h2 x1 x2 x3 (x4 + 1) e
set_option maxHeartbeats 4000000 in
set_option maxRecDepth 100000 in
theorem zb_Ps_ranges_106 {X : zkj_T} {S : zs_T} {P : ze_T} {l : Launch} {D : va_G} {sz0 : Nat} {rv : Int32} {rh : zs_H} (C : zk_C X km_Ps_ranges (zs_G S l D sz0) { frames := 3, cells := 0, slots := 0, locals := 69 } (ze_E P)) (hR : zkj_R X (zd_PI S rv rh) (some .int)) {k7 : zs_H → Int32 → Int32 → Int32 → Int32 → (Option (Int32 × zs_H))} (hk7 : ∀ (h : zs_H) (x1 : Int32) (x2 : Int32) (x3 : Int32) (x4 : Int32), k7 h x1 x2 x3 x4 = some (rv, rh) → zk_Ab X (zs_W S h) 0 0 7 [(0, .ref (S.1 19)), (1, .int x1), (2, .int x2), (3, .int x3), (4, .int x4)] []) (h : zs_H) (x1 : Int32) (x2 : Int32) (x4 : Int32) (y0 : Int32) (e : f_Ps_ranges_106 k7 h x1 x2 x4 y0 = some (rv, rh)) : zk_Ab X (zs_W S h) 0 0 106 [(0, .ref (S.1 19)), (1, .int x1), (2, .int x2), (4, .int x4)] [.int y0] := by
  unfold f_Ps_ranges_106 at e
  refine zk_istore_n (lv' := [(3, _), (0, _), (1, _), (2, _), (4, _)]) C kd_Ps_ranges_106 rfl (by decide) rfl rfl ?_
  refine zk_aload_n C kd_Ps_ranges_107 rfl 1 rfl rfl ?_
  refine zk_iload_n C kd_Ps_ranges_108 rfl 0 rfl rfl ?_
  refine zk_if_eq (tgt := 117) C kd_Ps_ranges_109 (by decide) rfl (fun b1 => ?_) (fun b1 => ?_)
  · replace e := zd_pos b1 e
    refine zk_bipush (v := 58) C kd_Ps_ranges_117 (by decide) rfl ?_
    refine zk_lvs (lv' := [(0, .ref (S.1 19)), (1, .int x1), (2, .int x2), (3, .int y0), (4, .int x4)]) [1, 2, 3, 0, 4] rfl ?_
    exact zb_Ps_ranges_119 C hR hk7 h x1 x2 y0 x4 58 e
  · replace e := zd_neg b1 e
    refine zk_bipush (v := 44) C kd_Ps_ranges_112 (by decide) rfl ?_
    refine zk_goto (tgt := 119) C kd_Ps_ranges_114 (by decide) ?_
    refine zk_lvs (lv' := [(0, .ref (S.1 19)), (1, .int x1), (2, .int x2), (3, .int y0), (4, .int x4)]) [1, 2, 3, 0, 4] rfl ?_
    exact zb_Ps_ranges_119 C hR hk7 h x1 x2 y0 x4 44 e
set_option maxHeartbeats 4000000 in
set_option maxRecDepth 100000 in
theorem zb_Ps_ranges_80 {X : zkj_T} {S : zs_T} {P : ze_T} {l : Launch} {D : va_G} {sz0 : Nat} {rv : Int32} {rh : zs_H} (C : zk_C X km_Ps_ranges (zs_G S l D sz0) { frames := 3, cells := 0, slots := 0, locals := 69 } (ze_E P)) (hR : zkj_R X (zd_PI S rv rh) (some .int)) {k7 : zs_H → Int32 → Int32 → Int32 → Int32 → (Option (Int32 × zs_H))} (hk7 : ∀ (h : zs_H) (x1 : Int32) (x2 : Int32) (x3 : Int32) (x4 : Int32), k7 h x1 x2 x3 x4 = some (rv, rh) → zk_Ab X (zs_W S h) 0 0 7 [(0, .ref (S.1 19)), (1, .int x1), (2, .int x2), (3, .int x3), (4, .int x4)] []) (h : zs_H) (x1 : Int32) (x2 : Int32) (x4 : Int32) (x5 : Int32) (e : f_Ps_ranges_80 k7 h x1 x2 x4 x5 = some (rv, rh)) : zk_Ab X (zs_W S h) 0 0 80 [(0, .ref (S.1 19)), (1, .int x1), (2, .int x2), (4, .int x4), (5, .int x5)] [] := by
  unfold f_Ps_ranges_80 at e
  refine zk_aload_n C kd_Ps_ranges_80 rfl 0 rfl rfl ?_
  refine zs_get (v := .ref (S.1 12)) C 19 2 rfl rfl rfl rfl ki_Ps (by decide) kw203 kd_Ps_ranges_81 rfl ?_
  refine zk_iload_n C kd_Ps_ranges_84 rfl 1 rfl rfl ?_
  refine zk_iload_n C kd_Ps_ranges_85 rfl 2 rfl rfl ?_
  refine zk_iload C kd_Ps_ranges_86 4 rfl rfl ?_
  obtain ⟨v2, h3, c1, e⟩ := zd_Be e
  refine zs_callV (k := 12) (rn := { frames := 0, cells := 0, slots := 0, locals := 0 }) (As := [.int x1, .int x2, .int x5]) (rest := []) C (zc_Tr_hang h x1 x2 x5 c1) ku_Tr_hang kw884 kv_Tr_hang rfl ⟨by decide, by decide⟩ ⟨by decide, by decide⟩ rfl rfl rfl (Nat.le_of_ble_eq_true rfl) kd_Ps_ranges_88 rfl (c1 := 0) (s1 := 0) rfl rfl (fun v w hp => ?_)
  obtain ⟨rfl, rfl⟩ := hp
  refine zk_stk (r' := [.int v2]) rfl ?_
  refine zk_istore_n (lv' := [(2, _), (0, _), (1, _), (4, _), (5, _)]) C kd_Ps_ranges_91 rfl (by decide) rfl rfl ?_
  refine zk_aload_n C kd_Ps_ranges_92 rfl 1 rfl rfl ?_
  refine zs_get (v := .int (h3.1 19 5)) C 19 5 rfl rfl rfl rfl ki_Ps (by decide) kw206 kd_Ps_ranges_93 rfl ?_
  refine zk_bipush (v := 44) C kd_Ps_ranges_96 (by decide) rfl ?_
  refine zk_icmp_ne (tgt := 105) C kd_Ps_ranges_98 (by decide) rfl (fun b4 => ?_) (fun b4 => ?_)
  · replace e := zd_neg b4 e
    refine zk_iconst (v := 0) C kd_Ps_ranges_105 (by decide) rfl ?_
    refine zk_lvs (lv' := [(0, .ref (S.1 19)), (1, .int x1), (2, .int v2), (4, .int x4)]) [1, 2, 0, 3] rfl ?_
    exact zb_Ps_ranges_106 C hR hk7 h3 x1 v2 x4 0 e
  · replace e := zd_pos b4 e
    refine zk_iconst (v := 1) C kd_Ps_ranges_101 (by decide) rfl ?_
    refine zk_goto (tgt := 106) C kd_Ps_ranges_102 (by decide) ?_
    refine zk_lvs (lv' := [(0, .ref (S.1 19)), (1, .int x1), (2, .int v2), (4, .int x4)]) [1, 2, 0, 3] rfl ?_
    exact zb_Ps_ranges_106 C hR hk7 h3 x1 v2 x4 1 e
set_option maxHeartbeats 4000000 in
set_option maxRecDepth 100000 in
theorem zb_Ps_ranges_7 {X : zkj_T} {S : zs_T} {P : ze_T} {l : Launch} {D : va_G} {sz0 : Nat} {rv : Int32} {rh : zs_H} (C : zk_C X km_Ps_ranges (zs_G S l D sz0) { frames := 3, cells := 0, slots := 0, locals := 69 } (ze_E P)) (hR : zkj_R X (zd_PI S rv rh) (some .int)) {k7 : zs_H → Int32 → Int32 → Int32 → Int32 → (Option (Int32 × zs_H))} (hk7 : ∀ (h : zs_H) (x1 : Int32) (x2 : Int32) (x3 : Int32) (x4 : Int32), k7 h x1 x2 x3 x4 = some (rv, rh) → zk_Ab X (zs_W S h) 0 0 7 [(0, .ref (S.1 19)), (1, .int x1), (2, .int x2), (3, .int x3), (4, .int x4)] []) (h : zs_H) (x1 : Int32) (x2 : Int32) (x3 : Int32) (x4 : Int32) (e : f_Ps_ranges_7 k7 h x1 x2 x3 x4 = some (rv, rh)) : zk_Ab X (zs_W S h) 0 0 7 [(0, .ref (S.1 19)), (1, .int x1), (2, .int x2), (3, .int x3), (4, .int x4)] [] := by
  unfold f_Ps_ranges_7 at e
  refine zk_iload C kd_Ps_ranges_7 4 rfl rfl ?_
  refine zk_sipush (v := 16384) C kd_Ps_ranges_9 (by decide) rfl ?_
  refine zk_icmp_ge (tgt := 128) C kd_Ps_ranges_12 (by decide) rfl (fun b1 => ?_) (fun b1 => ?_)
  · replace e := zd_pos b1 e
    refine zk_iload_n C kd_Ps_ranges_128 rfl 2 rfl rfl ?_
    exact zk_iret C hR kd_Ps_ranges_129 rfl rfl (zd_rIS e)
  · replace e := zd_neg b1 e
    refine zk_iload_n C kd_Ps_ranges_15 rfl 3 rfl rfl ?_
    refine zk_if_eq (tgt := 128) C kd_Ps_ranges_16 (by decide) rfl (fun b2 => ?_) (fun b2 => ?_)
    · replace e := zd_pos b2 e
      refine zk_iload_n C kd_Ps_ranges_128 rfl 2 rfl rfl ?_
      exact zk_iret C hR kd_Ps_ranges_129 rfl rfl (zd_rIS e)
    · replace e := zd_neg b2 e
      refine zk_aload_n C kd_Ps_ranges_19 rfl 0 rfl rfl ?_
      refine zs_get (v := .ref (S.1 12)) C 19 2 rfl rfl rfl rfl ki_Ps (by decide) kw203 kd_Ps_ranges_20 rfl ?_
      refine zk_bipush (v := 18) C kd_Ps_ranges_23 (by decide) rfl ?_
      refine zk_aload_n C kd_Ps_ranges_25 rfl 0 rfl rfl ?_
      refine zs_get (v := .int (h.1 19 6)) C 19 6 rfl rfl rfl rfl ki_Ps (by decide) kw207 kd_Ps_ranges_26 rfl ?_
      refine zk_iconst (v := 0) C kd_Ps_ranges_29 (by decide) rfl ?_
      obtain ⟨v4, h5, c3, e⟩ := zd_Be e
      refine zs_callV (k := 12) (rn := { frames := 1, cells := 0, slots := 0, locals := 23 }) (As := [.int 18, .int (h.1 19 6), .int 0]) (rest := []) C (zc_Tr_add h 18 (h.1 19 6) 0 c3) ku_Tr_add kw866 kv_Tr_add rfl ⟨by decide, by decide⟩ ⟨by decide, by decide⟩ rfl rfl rfl (Nat.le_of_ble_eq_true rfl) kd_Ps_ranges_30 rfl (c1 := 0) (s1 := 0) rfl rfl (fun v w hp => ?_)
      obtain ⟨rfl, rfl⟩ := hp
      refine zk_stk (r' := [.int v4]) rfl ?_
      refine zk_istore (lv' := [(5, _), (0, _), (1, _), (2, _), (3, _), (4, _)]) C kd_Ps_ranges_33 (by decide) rfl rfl ?_
      refine zk_aload_n C kd_Ps_ranges_35 rfl 1 rfl rfl ?_
      refine zs_get (v := .ref (S.1 12)) C 19 2 rfl rfl rfl rfl ki_Ps (by decide) kw203 kd_Ps_ranges_36 rfl ?_
      refine zk_iload C kd_Ps_ranges_39 0 rfl rfl ?_
      refine zk_iconst (v := (-1)) C kd_Ps_ranges_41 (by decide) rfl ?_
      refine zk_aload_n C kd_Ps_ranges_42 rfl 1 rfl rfl ?_
      obtain ⟨v7, h8, c6, e⟩ := zd_Be e
      refine zs_callV (k := 19) (rn := { frames := 2, cells := 0, slots := 0, locals := 47 }) (As := []) (rest := [.int (-1), .int v4, .ref (S.1 12)]) C (zc_Ps_constant h5 c6) ku_Ps_constant kw904 kv_Ps_constant rfl ⟨by decide, by decide⟩ ⟨by decide, by decide⟩ rfl rfl rfl (Nat.le_of_ble_eq_true rfl) kd_Ps_ranges_43 rfl (c1 := 0) (s1 := 0) rfl rfl (fun v w hp => ?_)
      obtain ⟨rfl, rfl⟩ := hp
      refine zk_stk (r' := [.int v7, .int (-1), .int v4, .ref (S.1 12)]) rfl ?_
      obtain ⟨v10, h11, c9, e⟩ := zd_Be e
      refine zs_callV (k := 12) (rn := { frames := 0, cells := 0, slots := 0, locals := 0 }) (As := [.int v4, .int (-1), .int v7]) (rest := []) C (zc_Tr_hang h8 v4 (-1) v7 c9) ku_Tr_hang kw884 kv_Tr_hang rfl ⟨by decide, by decide⟩ ⟨by decide, by decide⟩ rfl rfl rfl (Nat.le_of_ble_eq_true rfl) kd_Ps_ranges_46 rfl (c1 := 0) (s1 := 0) rfl rfl (fun v w hp => ?_)
      obtain ⟨rfl, rfl⟩ := hp
      refine zk_stk (r' := [.int v10]) rfl ?_
      refine zk_istore (lv' := [(6, _), (5, _), (0, _), (1, _), (2, _), (3, _), (4, _)]) C kd_Ps_ranges_49 (by decide) rfl rfl ?_
      refine zk_aload_n C kd_Ps_ranges_51 rfl 2 rfl rfl ?_
      refine zs_get (v := .int (h11.1 19 5)) C 19 5 rfl rfl rfl rfl ki_Ps (by decide) kw206 kd_Ps_ranges_52 rfl ?_
      refine zk_iconst (v := 2) C kd_Ps_ranges_55 (by decide) rfl ?_
      refine zk_icmp_ne (tgt := 80) C kd_Ps_ranges_56 (by decide) rfl (fun b12 => ?_) (fun b12 => ?_)
      · replace e := zd_neg b12 e
        refine zk_lvs (lv' := [(0, .ref (S.1 19)), (1, .int x1), (2, .int x2), (4, .int x4), (5, .int v4)]) [2, 3, 4, 6, 1] rfl ?_
        exact zb_Ps_ranges_80 C hR hk7 h11 x1 x2 x4 v4 e
      · replace e := zd_pos b12 e
        refine zk_aload_n C kd_Ps_ranges_59 rfl 2 rfl rfl ?_
        refine zk_iconst (v := 2) C kd_Ps_ranges_60 (by decide) rfl ?_
        obtain ⟨h14, c13, e⟩ := zd_b e
        refine zs_callV (k := 19) (rn := { frames := 0, cells := 0, slots := 0, locals := 0 }) (As := [.int 2]) (rest := []) C (zc_Ps_take h11 2 c13) ku_Ps_take kw876 kv_Ps_take rfl ⟨by decide, by decide⟩ ⟨by decide, by decide⟩ rfl rfl rfl (Nat.le_of_ble_eq_true rfl) kd_Ps_ranges_61 rfl (c1 := 0) (s1 := 0) rfl rfl (fun v w hp => ?_)
        obtain ⟨rfl, rfl⟩ := hp
        refine zk_stk (r' := []) rfl ?_
        refine zk_aload_n C kd_Ps_ranges_64 rfl 2 rfl rfl ?_
        refine zs_get (v := .ref (S.1 12)) C 19 2 rfl rfl rfl rfl ki_Ps (by decide) kw203 kd_Ps_ranges_65 rfl ?_
        refine zk_iload C kd_Ps_ranges_68 1 rfl rfl ?_
        refine zk_iload C kd_Ps_ranges_70 0 rfl rfl ?_
        refine zk_aload_n C kd_Ps_ranges_72 rfl 2 rfl rfl ?_
        obtain ⟨v16, h17, c15, e⟩ := zd_Be e
        refine zs_callV (k := 19) (rn := { frames := 2, cells := 0, slots := 0, locals := 47 }) (As := []) (rest := [.int v10, .int v4, .ref (S.1 12)]) C (zc_Ps_constant h14 c15) ku_Ps_constant kw904 kv_Ps_constant rfl ⟨by decide, by decide⟩ ⟨by decide, by decide⟩ rfl rfl rfl (Nat.le_of_ble_eq_true rfl) kd_Ps_ranges_73 rfl (c1 := 0) (s1 := 0) rfl rfl (fun v w hp => ?_)
        obtain ⟨rfl, rfl⟩ := hp
        refine zk_stk (r' := [.int v16, .int v10, .int v4, .ref (S.1 12)]) rfl ?_
        obtain ⟨v19, h20, c18, e⟩ := zd_Be e
        refine zs_callV (k := 12) (rn := { frames := 0, cells := 0, slots := 0, locals := 0 }) (As := [.int v4, .int v10, .int v16]) (rest := []) C (zc_Tr_hang h17 v4 v10 v16 c18) ku_Tr_hang kw884 kv_Tr_hang rfl ⟨by decide, by decide⟩ ⟨by decide, by decide⟩ rfl rfl rfl (Nat.le_of_ble_eq_true rfl) kd_Ps_ranges_76 rfl (c1 := 0) (s1 := 0) rfl rfl (fun v w hp => ?_)
        obtain ⟨rfl, rfl⟩ := hp
        refine zk_stk (r' := [.int v19]) rfl ?_
        refine zk_pop C kd_Ps_ranges_79 rfl rfl ?_
        refine zk_lvs (lv' := [(0, .ref (S.1 19)), (1, .int x1), (2, .int x2), (4, .int x4), (5, .int v4)]) [2, 3, 4, 6, 1] rfl ?_
        exact zb_Ps_ranges_80 C hR hk7 h20 x1 x2 x4 v4 e
theorem zl_Ps_ranges_7 {X : zkj_T} {S : zs_T} {P : ze_T} {l : Launch} {D : va_G} {sz0 : Nat} {rv : Int32} {rh : zs_H} (C : zk_C X km_Ps_ranges (zs_G S l D sz0) { frames := 3, cells := 0, slots := 0, locals := 69 } (ze_E P)) (hR : zkj_R X (zd_PI S rv rh) (some .int)) (n : Nat) : ∀ (h : zs_H) (x1 : Int32) (x2 : Int32) (x3 : Int32) (x4 : Int32), f_Ps_ranges_L7 n h x1 x2 x3 x4 = some (rv, rh) → zk_Ab X (zs_W S h) 0 0 7 [(0, .ref (S.1 19)), (1, .int x1), (2, .int x2), (3, .int x3), (4, .int x4)] [] := by
  induction n with
  | zero => intro h x1 x2 x3 x4 e; exact zd_no e
  | succ n ih => intro h x1 x2 x3 x4 e; exact zb_Ps_ranges_7 (k7 := f_Ps_ranges_L7  n) C hR ih h x1 x2 x3 x4 e
set_option maxHeartbeats 4000000 in
set_option maxRecDepth 100000 in
theorem zc_Ps_ranges {l : Launch} {D : va_G} {sz0 : Nat} {S : zs_T} {P : ze_T} (h : zs_H) (x1 : Int32) {rv : Int32} {rh : zs_H} (e : f_Ps_ranges h x1 = some (rv, rh)) : zk_Sp (zs_G S l D sz0) (ze_E P) km_Ps_ranges { frames := 3, cells := 0, slots := 0, locals := 69 } [.ref (S.1 19), .int x1] (zs_W S h) (zd_PI S rv rh) := by
  refine zk_met ku_Ps_ranges (Nat.le_of_ble_eq_true rfl) (ze_Em P) ?_
  intro X C hR
  refine zk_lvs (lv' := [(0, .ref (S.1 19)), (1, .int x1)]) [0, 1] rfl ?_
  unfold f_Ps_ranges at e
  refine zk_iconst (v := (-1)) C kd_Ps_ranges_0 (by decide) rfl ?_
  refine zk_istore_n (lv' := [(2, _), (0, _), (1, _)]) C kd_Ps_ranges_1 rfl (by decide) rfl rfl ?_
  refine zk_iconst (v := 1) C kd_Ps_ranges_2 (by decide) rfl ?_
  refine zk_istore_n (lv' := [(3, _), (2, _), (0, _), (1, _)]) C kd_Ps_ranges_3 rfl (by decide) rfl rfl ?_
  refine zk_iconst (v := 0) C kd_Ps_ranges_4 (by decide) rfl ?_
  refine zk_istore (lv' := [(4, _), (3, _), (2, _), (0, _), (1, _)]) C kd_Ps_ranges_5 (by decide) rfl rfl ?_
  refine zk_lvs (lv' := [(0, .ref (S.1 19)), (1, .int x1), (2, .int (-1)), (3, .int 1), (4, .int 0)]) [3, 4, 2, 1, 0] rfl ?_
  exact zl_Ps_ranges_7 C hR zF h x1 (-1) 1 0 e
set_option maxHeartbeats 4000000 in
set_option maxRecDepth 100000 in
theorem zb_Ps_invocation_164 {X : zkj_T} {S : zs_T} {P : ze_T} {l : Launch} {D : va_G} {sz0 : Nat} {rv : Int32} {rh : zs_H} (C : zk_C X km_Ps_invocation (zs_G S l D sz0) { frames := 404, cells := 0, slots := 0, locals := 10094 } (ze_E P)) (hR : zkj_R X (zd_PI S rv rh) (some .int)) {k62 : zs_H → Int32 → Int32 → Int32 → Int32 → (Option (Int32 × zs_H))} (hk62 : ∀ (h : zs_H) (x1 : Int32) (x2 : Int32) (x3 : Int32) (x4 : Int32), k62 h x1 x2 x3 x4 = some (rv, rh) → zk_Ab X (zs_W S h) 0 0 62 [(0, .ref (S.1 19)), (1, .int x1), (2, .int x2), (3, .int x3), (4, .int x4)] []) (h : zs_H) (x1 : Int32) (x2 : Int32) (x3 : Int32) (x4 : Int32) (e : f_Ps_invocation_164 k62 h x1 x2 x3 x4 = some (rv, rh)) : zk_Ab X (zs_W S h) 0 0 164 [(0, .ref (S.1 19)), (1, .int x1), (2, .int x2), (3, .int x3), (4, .int x4)] [] := by
  unfold f_Ps_invocation_164 at e
  refine zk_iinc (v := (x4 + 1)) (lv' := [(4, _), (0, _), (1, _), (2, _), (3, _)]) C kd_Ps_invocation_164 4 rfl rfl (by decide) rfl rfl ?_
  refine zk_goto (tgt := 62) C kd_Ps_invocation_167 (by decide) ?_
  refine zk_lvs (lv' := [(0, .ref (S.1 19)), (1, .int x1), (2, .int x2), (3, .int x3), (4, .int (x4 + 1))]) [1, 2, 3, 4, 0] rfl ?_
  exact hk62 h x1 x2 x3 (x4 + 1) e
set_option maxHeartbeats 4000000 in
set_option maxRecDepth 100000 in
theorem zb_Ps_invocation_153 {X : zkj_T} {S : zs_T} {P : ze_T} {l : Launch} {D : va_G} {sz0 : Nat} {rv : Int32} {rh : zs_H} (C : zk_C X km_Ps_invocation (zs_G S l D sz0) { frames := 404, cells := 0, slots := 0, locals := 10094 } (ze_E P)) (hR : zkj_R X (zd_PI S rv rh) (some .int)) {k62 : zs_H → Int32 → Int32 → Int32 → Int32 → (Option (Int32 × zs_H))} (hk62 : ∀ (h : zs_H) (x1 : Int32) (x2 : Int32) (x3 : Int32) (x4 : Int32), k62 h x1 x2 x3 x4 = some (rv, rh) → zk_Ab X (zs_W S h) 0 0 62 [(0, .ref (S.1 19)), (1, .int x1), (2, .int x2), (3, .int x3), (4, .int x4)] []) (h : zs_H) (x1 : Int32) (x2 : Int32) (x4 : Int32) (y0 : Int32) (e : f_Ps_invocation_153 k62 h x1 x2 x4 y0 = some (rv, rh)) : zk_Ab X (zs_W S h) 0 0 153 [(0, .ref (S.1 19)), (1, .int x1), (2, .int x2), (4, .int x4)] [.int y0] := by
  unfold f_Ps_invocation_153 at e
  refine zk_istore_n (lv' := [(3, _), (0, _), (1, _), (2, _), (4, _)]) C kd_Ps_invocation_153 rfl (by decide) rfl rfl ?_
  refine zk_iload_n C kd_Ps_invocation_154 rfl 0 rfl rfl ?_
  refine zk_if_eq (tgt := 164) C kd_Ps_invocation_155 (by decide) rfl (fun b1 => ?_) (fun b1 => ?_)
  · replace e := zd_pos b1 e
    refine zk_lvs (lv' := [(0, .ref (S.1 19)), (1, .int x1), (2, .int x2), (3, .int y0), (4, .int x4)]) [1, 2, 3, 0, 4] rfl ?_
    exact zb_Ps_invocation_164 C hR hk62 h x1 x2 y0 x4 e
  · replace e := zd_neg b1 e
    refine zk_aload_n C kd_Ps_invocation_158 rfl 1 rfl rfl ?_
    refine zk_bipush (v := 44) C kd_Ps_invocation_159 (by decide) rfl ?_
    obtain ⟨h3, c2, e⟩ := zd_b e
    refine zs_callV (k := 19) (rn := { frames := 0, cells := 0, slots := 0, locals := 0 }) (As := [.int 44]) (rest := []) C (zc_Ps_take h 44 c2) ku_Ps_take kw876 kv_Ps_take rfl ⟨by decide, by decide⟩ ⟨by decide, by decide⟩ rfl rfl rfl (Nat.le_of_ble_eq_true rfl) kd_Ps_invocation_161 rfl (c1 := 0) (s1 := 0) rfl rfl (fun v w hp => ?_)
    obtain ⟨rfl, rfl⟩ := hp
    refine zk_stk (r' := []) rfl ?_
    refine zk_lvs (lv' := [(0, .ref (S.1 19)), (1, .int x1), (2, .int x2), (3, .int y0), (4, .int x4)]) [1, 2, 3, 0, 4] rfl ?_
    exact zb_Ps_invocation_164 C hR hk62 h3 x1 x2 y0 x4 e
set_option maxHeartbeats 4000000 in
set_option maxRecDepth 100000 in
theorem zb_Ps_invocation_170 {X : zkj_T} {S : zs_T} {P : ze_T} {l : Launch} {D : va_G} {sz0 : Nat} {rv : Int32} {rh : zs_H} (C : zk_C X km_Ps_invocation (zs_G S l D sz0) { frames := 404, cells := 0, slots := 0, locals := 10094 } (ze_E P)) (hR : zkj_R X (zd_PI S rv rh) (some .int)) (h : zs_H) (x1 : Int32) (e : f_Ps_invocation_170 h x1 = some (rv, rh)) : zk_Ab X (zs_W S h) 0 0 170 [(0, .ref (S.1 19)), (1, .int x1)] [] := by
  unfold f_Ps_invocation_170 at e
  refine zk_aload_n C kd_Ps_invocation_170 rfl 0 rfl rfl ?_
  refine zk_bipush (v := 41) C kd_Ps_invocation_171 (by decide) rfl ?_
  obtain ⟨h2, c1, e⟩ := zd_b e
  refine zs_callV (k := 19) (rn := { frames := 0, cells := 0, slots := 0, locals := 0 }) (As := [.int 41]) (rest := []) C (zc_Ps_take h 41 c1) ku_Ps_take kw876 kv_Ps_take rfl ⟨by decide, by decide⟩ ⟨by decide, by decide⟩ rfl rfl rfl (Nat.le_of_ble_eq_true rfl) kd_Ps_invocation_173 rfl (c1 := 0) (s1 := 0) rfl rfl (fun v w hp => ?_)
  obtain ⟨rfl, rfl⟩ := hp
  refine zk_stk (r' := []) rfl ?_
  refine zk_aload_n C kd_Ps_invocation_176 rfl 0 rfl rfl ?_
  refine zk_dup C kd_Ps_invocation_177 rfl rfl ?_
  refine zs_get (v := .int (h2.1 19 7)) C 19 7 rfl rfl rfl rfl ki_Ps (by decide) kw208 kd_Ps_invocation_178 rfl ?_
  refine zk_iconst (v := 1) C kd_Ps_invocation_181 (by decide) rfl ?_
  refine zk_isub C kd_Ps_invocation_182 rfl ?_
  refine zs_put (ty := .int) C 19 7 ((h2.1 19 7) - 1) rfl rfl rfl rfl ki_Ps ky_Ps ko_Ps kn_Ps (by decide) kw208 rfl rfl rfl rfl (by decide) kd_Ps_invocation_183 rfl ?_
  refine zk_iload_n C kd_Ps_invocation_186 rfl 1 rfl rfl ?_
  exact zk_iret C hR kd_Ps_invocation_187 rfl rfl (zd_rIS e)
set_option maxHeartbeats 4000000 in
set_option maxRecDepth 100000 in
theorem zb_Ps_invocation_62 {X : zkj_T} {S : zs_T} {P : ze_T} {l : Launch} {D : va_G} {sz0 : Nat} {rv : Int32} {rh : zs_H} (C : zk_C X km_Ps_invocation (zs_G S l D sz0) { frames := 404, cells := 0, slots := 0, locals := 10094 } (ze_E P)) (hR : zkj_R X (zd_PI S rv rh) (some .int)) {k62 : zs_H → Int32 → Int32 → Int32 → Int32 → (Option (Int32 × zs_H))} (hk62 : ∀ (h : zs_H) (x1 : Int32) (x2 : Int32) (x3 : Int32) (x4 : Int32), k62 h x1 x2 x3 x4 = some (rv, rh) → zk_Ab X (zs_W S h) 0 0 62 [(0, .ref (S.1 19)), (1, .int x1), (2, .int x2), (3, .int x3), (4, .int x4)] []) (h : zs_H) (x1 : Int32) (x2 : Int32) (x3 : Int32) (x4 : Int32) (e : f_Ps_invocation_62 k62 h x1 x2 x3 x4 = some (rv, rh)) : zk_Ab X (zs_W S h) 0 0 62 [(0, .ref (S.1 19)), (1, .int x1), (2, .int x2), (3, .int x3), (4, .int x4)] [] := by
  unfold f_Ps_invocation_62 at e
  refine zk_iload C kd_Ps_invocation_62 4 rfl rfl ?_
  refine zk_sipush (v := 16384) C kd_Ps_invocation_64 (by decide) rfl ?_
  refine zk_icmp_ge (tgt := 170) C kd_Ps_invocation_67 (by decide) rfl (fun b1 => ?_) (fun b1 => ?_)
  · replace e := zd_pos b1 e
    refine zk_lvs (lv' := [(0, .ref (S.1 19)), (1, .int x1)]) [0, 1] rfl ?_
    exact zb_Ps_invocation_170 C hR h x1 e
  · replace e := zd_neg b1 e
    refine zk_iload_n C kd_Ps_invocation_70 rfl 3 rfl rfl ?_
    refine zk_if_eq (tgt := 170) C kd_Ps_invocation_71 (by decide) rfl (fun b2 => ?_) (fun b2 => ?_)
    · replace e := zd_pos b2 e
      refine zk_lvs (lv' := [(0, .ref (S.1 19)), (1, .int x1)]) [0, 1] rfl ?_
      exact zb_Ps_invocation_170 C hR h x1 e
    · replace e := zd_neg b2 e
      refine zk_aload_n C kd_Ps_invocation_74 rfl 0 rfl rfl ?_
      refine zs_get (v := .ref (S.1 12)) C 19 2 rfl rfl rfl rfl ki_Ps (by decide) kw203 kd_Ps_invocation_75 rfl ?_
      refine zk_bipush (v := 14) C kd_Ps_invocation_78 (by decide) rfl ?_
      refine zk_aload_n C kd_Ps_invocation_80 rfl 0 rfl rfl ?_
      refine zs_get (v := .int (h.1 19 6)) C 19 6 rfl rfl rfl rfl ki_Ps (by decide) kw207 kd_Ps_invocation_81 rfl ?_
      refine zk_aload_n C kd_Ps_invocation_84 rfl 0 rfl rfl ?_
      refine zs_get (v := .ref (S.1 8)) C 19 1 rfl rfl rfl rfl ki_Ps (by decide) kw202 kd_Ps_invocation_85 rfl ?_
      refine zs_get (v := .ref (S.1 11)) C 8 2 rfl rfl rfl rfl ki_Tk (by decide) kw123 kd_Ps_invocation_88 rfl ?_
      refine zk_aload_n C kd_Ps_invocation_91 rfl 0 rfl rfl ?_
      refine zs_get (v := .int (h.1 19 4)) C 19 4 rfl rfl rfl rfl ki_Ps (by decide) kw205 kd_Ps_invocation_92 rfl ?_
      obtain ⟨q3, e⟩ := zd_g e
      refine zs_iald C 11 rfl (zd_vp q3) kd_Ps_invocation_95 rfl ?_
      obtain ⟨v5, h6, c4, e⟩ := zd_Be e
      refine zs_callV (k := 12) (rn := { frames := 1, cells := 0, slots := 0, locals := 23 }) (As := [.int 14, .int (h.1 19 6), .int (h.2.1 11 (h.1 19 4).toNatClampNeg)]) (rest := []) C (zc_Tr_add h 14 (h.1 19 6) (h.2.1 11 (h.1 19 4).toNatClampNeg) c4) ku_Tr_add kw866 kv_Tr_add rfl ⟨by decide, by decide⟩ ⟨by decide, by decide⟩ rfl rfl rfl (Nat.le_of_ble_eq_true rfl) kd_Ps_invocation_96 rfl (c1 := 0) (s1 := 0) rfl rfl (fun v w hp => ?_)
      obtain ⟨rfl, rfl⟩ := hp
      refine zk_stk (r' := [.int v5]) rfl ?_
      refine zk_istore (lv' := [(5, _), (0, _), (1, _), (2, _), (3, _), (4, _)]) C kd_Ps_invocation_99 (by decide) rfl rfl ?_
      refine zk_aload_n C kd_Ps_invocation_101 rfl 1 rfl rfl ?_
      refine zk_bipush (v := 8) C kd_Ps_invocation_102 (by decide) rfl ?_
      obtain ⟨h8, c7, e⟩ := zd_b e
      refine zs_callV (k := 19) (rn := { frames := 0, cells := 0, slots := 0, locals := 0 }) (As := [.int 8]) (rest := []) C (zc_Ps_take h6 8 c7) ku_Ps_take kw876 kv_Ps_take rfl ⟨by decide, by decide⟩ ⟨by decide, by decide⟩ rfl rfl rfl (Nat.le_of_ble_eq_true rfl) kd_Ps_invocation_104 rfl (c1 := 0) (s1 := 0) rfl rfl (fun v w hp => ?_)
      obtain ⟨rfl, rfl⟩ := hp
      refine zk_stk (r' := []) rfl ?_
      refine zk_aload_n C kd_Ps_invocation_107 rfl 1 rfl rfl ?_
      refine zk_iconst (v := 1) C kd_Ps_invocation_108 (by decide) rfl ?_
      obtain ⟨h10, c9, e⟩ := zd_b e
      refine zs_callV (k := 19) (rn := { frames := 0, cells := 0, slots := 0, locals := 0 }) (As := [.int 1]) (rest := []) C (zc_Ps_take h8 1 c9) ku_Ps_take kw876 kv_Ps_take rfl ⟨by decide, by decide⟩ ⟨by decide, by decide⟩ rfl rfl rfl (Nat.le_of_ble_eq_true rfl) kd_Ps_invocation_109 rfl (c1 := 0) (s1 := 0) rfl rfl (fun v w hp => ?_)
      obtain ⟨rfl, rfl⟩ := hp
      refine zk_stk (r' := []) rfl ?_
      refine zk_aload_n C kd_Ps_invocation_112 rfl 1 rfl rfl ?_
      refine zs_get (v := .ref (S.1 12)) C 19 2 rfl rfl rfl rfl ki_Ps (by decide) kw203 kd_Ps_invocation_113 rfl ?_
      refine zk_iload C kd_Ps_invocation_116 0 rfl rfl ?_
      refine zk_iconst (v := (-1)) C kd_Ps_invocation_118 (by decide) rfl ?_
      refine zk_aload_n C kd_Ps_invocation_119 rfl 1 rfl rfl ?_
      obtain ⟨v12, h13, c11, e⟩ := zd_Be e
      refine zs_callV (k := 19) (rn := { frames := 403, cells := 0, slots := 0, locals := 10072 }) (As := []) (rest := [.int (-1), .int v5, .ref (S.1 12)]) C (zc_Ps_wholeExpression h10 c11) ku_Ps_wholeExpression kw948 kv_Ps_wholeExpression rfl ⟨by decide, by decide⟩ ⟨by decide, by decide⟩ rfl rfl rfl (Nat.le_of_ble_eq_true rfl) kd_Ps_invocation_120 rfl (c1 := 0) (s1 := 0) rfl rfl (fun v w hp => ?_)
      obtain ⟨rfl, rfl⟩ := hp
      refine zk_stk (r' := [.int v12, .int (-1), .int v5, .ref (S.1 12)]) rfl ?_
      obtain ⟨v15, h16, c14, e⟩ := zd_Be e
      refine zs_callV (k := 12) (rn := { frames := 0, cells := 0, slots := 0, locals := 0 }) (As := [.int v5, .int (-1), .int v12]) (rest := []) C (zc_Tr_hang h13 v5 (-1) v12 c14) ku_Tr_hang kw884 kv_Tr_hang rfl ⟨by decide, by decide⟩ ⟨by decide, by decide⟩ rfl rfl rfl (Nat.le_of_ble_eq_true rfl) kd_Ps_invocation_123 rfl (c1 := 0) (s1 := 0) rfl rfl (fun v w hp => ?_)
      obtain ⟨rfl, rfl⟩ := hp
      refine zk_stk (r' := [.int v15]) rfl ?_
      refine zk_pop C kd_Ps_invocation_126 rfl rfl ?_
      refine zk_aload_n C kd_Ps_invocation_127 rfl 1 rfl rfl ?_
      refine zs_get (v := .ref (S.1 12)) C 19 2 rfl rfl rfl rfl ki_Ps (by decide) kw203 kd_Ps_invocation_128 rfl ?_
      refine zk_iload_n C kd_Ps_invocation_131 rfl 2 rfl rfl ?_
      refine zk_iload_n C kd_Ps_invocation_132 rfl 3 rfl rfl ?_
      refine zk_iload C kd_Ps_invocation_133 0 rfl rfl ?_
      obtain ⟨v18, h19, c17, e⟩ := zd_Be e
      refine zs_callV (k := 12) (rn := { frames := 0, cells := 0, slots := 0, locals := 0 }) (As := [.int x1, .int x2, .int v5]) (rest := []) C (zc_Tr_hang h16 x1 x2 v5 c17) ku_Tr_hang kw884 kv_Tr_hang rfl ⟨by decide, by decide⟩ ⟨by decide, by decide⟩ rfl rfl rfl (Nat.le_of_ble_eq_true rfl) kd_Ps_invocation_135 rfl (c1 := 0) (s1 := 0) rfl rfl (fun v w hp => ?_)
      obtain ⟨rfl, rfl⟩ := hp
      refine zk_stk (r' := [.int v18]) rfl ?_
      refine zk_istore_n (lv' := [(2, _), (5, _), (0, _), (1, _), (3, _), (4, _)]) C kd_Ps_invocation_138 rfl (by decide) rfl rfl ?_
      refine zk_aload_n C kd_Ps_invocation_139 rfl 2 rfl rfl ?_
      refine zs_get (v := .int (h19.1 19 5)) C 19 5 rfl rfl rfl rfl ki_Ps (by decide) kw206 kd_Ps_invocation_140 rfl ?_
      refine zk_bipush (v := 44) C kd_Ps_invocation_143 (by decide) rfl ?_
      refine zk_icmp_ne (tgt := 152) C kd_Ps_invocation_145 (by decide) rfl (fun b20 => ?_) (fun b20 => ?_)
      · replace e := zd_neg b20 e
        refine zk_iconst (v := 0) C kd_Ps_invocation_152 (by decide) rfl ?_
        refine zk_lvs (lv' := [(0, .ref (S.1 19)), (1, .int x1), (2, .int v18), (4, .int x4)]) [2, 3, 0, 5] rfl ?_
        exact zb_Ps_invocation_153 C hR hk62 h19 x1 v18 x4 0 e
      · replace e := zd_pos b20 e
        refine zk_iconst (v := 1) C kd_Ps_invocation_148 (by decide) rfl ?_
        refine zk_goto (tgt := 153) C kd_Ps_invocation_149 (by decide) ?_
        refine zk_lvs (lv' := [(0, .ref (S.1 19)), (1, .int x1), (2, .int v18), (4, .int x4)]) [2, 3, 0, 5] rfl ?_
        exact zb_Ps_invocation_153 C hR hk62 h19 x1 v18 x4 1 e
theorem zl_Ps_invocation_62 {X : zkj_T} {S : zs_T} {P : ze_T} {l : Launch} {D : va_G} {sz0 : Nat} {rv : Int32} {rh : zs_H} (C : zk_C X km_Ps_invocation (zs_G S l D sz0) { frames := 404, cells := 0, slots := 0, locals := 10094 } (ze_E P)) (hR : zkj_R X (zd_PI S rv rh) (some .int)) (n : Nat) : ∀ (h : zs_H) (x1 : Int32) (x2 : Int32) (x3 : Int32) (x4 : Int32), f_Ps_invocation_L62 n h x1 x2 x3 x4 = some (rv, rh) → zk_Ab X (zs_W S h) 0 0 62 [(0, .ref (S.1 19)), (1, .int x1), (2, .int x2), (3, .int x3), (4, .int x4)] [] := by
  induction n with
  | zero => intro h x1 x2 x3 x4 e; exact zd_no e
  | succ n ih => intro h x1 x2 x3 x4 e; exact zb_Ps_invocation_62 (k62 := f_Ps_invocation_L62  n) C hR ih h x1 x2 x3 x4 e
set_option maxHeartbeats 4000000 in
set_option maxRecDepth 100000 in
theorem zb_Ps_invocation_58 {X : zkj_T} {S : zs_T} {P : ze_T} {l : Launch} {D : va_G} {sz0 : Nat} {rv : Int32} {rh : zs_H} (C : zk_C X km_Ps_invocation (zs_G S l D sz0) { frames := 404, cells := 0, slots := 0, locals := 10094 } (ze_E P)) (hR : zkj_R X (zd_PI S rv rh) (some .int)) (h : zs_H) (x1 : Int32) (x2 : Int32) (y0 : Int32) (e : f_Ps_invocation_58 h x1 x2 y0 = some (rv, rh)) : zk_Ab X (zs_W S h) 0 0 58 [(0, .ref (S.1 19)), (1, .int x1), (2, .int x2)] [.int y0] := by
  unfold f_Ps_invocation_58 at e
  refine zk_istore_n (lv' := [(3, _), (0, _), (1, _), (2, _)]) C kd_Ps_invocation_58 rfl (by decide) rfl rfl ?_
  refine zk_iconst (v := 0) C kd_Ps_invocation_59 (by decide) rfl ?_
  refine zk_istore (lv' := [(4, _), (3, _), (0, _), (1, _), (2, _)]) C kd_Ps_invocation_60 (by decide) rfl rfl ?_
  refine zk_lvs (lv' := [(0, .ref (S.1 19)), (1, .int x1), (2, .int x2), (3, .int y0), (4, .int 0)]) [2, 3, 4, 1, 0] rfl ?_
  exact zl_Ps_invocation_62 C hR zF h x1 x2 y0 0 e
set_option maxHeartbeats 4000000 in
set_option maxRecDepth 100000 in
theorem zc_Ps_invocation {l : Launch} {D : va_G} {sz0 : Nat} {S : zs_T} {P : ze_T} (h : zs_H) {rv : Int32} {rh : zs_H} (e : f_Ps_invocation h = some (rv, rh)) : zk_Sp (zs_G S l D sz0) (ze_E P) km_Ps_invocation { frames := 404, cells := 0, slots := 0, locals := 10094 } [.ref (S.1 19)] (zs_W S h) (zd_PI S rv rh) := by
  refine zk_met ku_Ps_invocation (Nat.le_of_ble_eq_true rfl) (ze_Em P) ?_
  intro X C hR
  refine zk_lvs (lv' := [(0, .ref (S.1 19))]) [0] rfl ?_
  unfold f_Ps_invocation at e
  refine zk_aload_n C kd_Ps_invocation_0 rfl 0 rfl rfl ?_
  refine zs_get (v := .ref (S.1 12)) C 19 2 rfl rfl rfl rfl ki_Ps (by decide) kw203 kd_Ps_invocation_1 rfl ?_
  refine zk_bipush (v := 13) C kd_Ps_invocation_4 (by decide) rfl ?_
  refine zk_aload_n C kd_Ps_invocation_6 rfl 0 rfl rfl ?_
  refine zs_get (v := .int (h.1 19 6)) C 19 6 rfl rfl rfl rfl ki_Ps (by decide) kw207 kd_Ps_invocation_7 rfl ?_
  refine zk_aload_n C kd_Ps_invocation_10 rfl 0 rfl rfl ?_
  refine zs_get (v := .ref (S.1 8)) C 19 1 rfl rfl rfl rfl ki_Ps (by decide) kw202 kd_Ps_invocation_11 rfl ?_
  refine zs_get (v := .ref (S.1 11)) C 8 2 rfl rfl rfl rfl ki_Tk (by decide) kw123 kd_Ps_invocation_14 rfl ?_
  refine zk_aload_n C kd_Ps_invocation_17 rfl 0 rfl rfl ?_
  refine zs_get (v := .int (h.1 19 4)) C 19 4 rfl rfl rfl rfl ki_Ps (by decide) kw205 kd_Ps_invocation_18 rfl ?_
  obtain ⟨q1, e⟩ := zd_g e
  refine zs_iald C 11 rfl (zd_vp q1) kd_Ps_invocation_21 rfl ?_
  obtain ⟨v3, h4, c2, e⟩ := zd_Be e
  refine zs_callV (k := 12) (rn := { frames := 1, cells := 0, slots := 0, locals := 23 }) (As := [.int 13, .int (h.1 19 6), .int (h.2.1 11 (h.1 19 4).toNatClampNeg)]) (rest := []) C (zc_Tr_add h 13 (h.1 19 6) (h.2.1 11 (h.1 19 4).toNatClampNeg) c2) ku_Tr_add kw866 kv_Tr_add rfl ⟨by decide, by decide⟩ ⟨by decide, by decide⟩ rfl rfl rfl (Nat.le_of_ble_eq_true rfl) kd_Ps_invocation_22 rfl (c1 := 0) (s1 := 0) rfl rfl (fun v w hp => ?_)
  obtain ⟨rfl, rfl⟩ := hp
  refine zk_stk (r' := [.int v3]) rfl ?_
  refine zk_istore_n (lv' := [(1, _), (0, _)]) C kd_Ps_invocation_25 rfl (by decide) rfl rfl ?_
  refine zk_aload_n C kd_Ps_invocation_26 rfl 1 rfl rfl ?_
  refine zk_bipush (v := 8) C kd_Ps_invocation_27 (by decide) rfl ?_
  obtain ⟨h6, c5, e⟩ := zd_b e
  refine zs_callV (k := 19) (rn := { frames := 0, cells := 0, slots := 0, locals := 0 }) (As := [.int 8]) (rest := []) C (zc_Ps_take h4 8 c5) ku_Ps_take kw876 kv_Ps_take rfl ⟨by decide, by decide⟩ ⟨by decide, by decide⟩ rfl rfl rfl (Nat.le_of_ble_eq_true rfl) kd_Ps_invocation_29 rfl (c1 := 0) (s1 := 0) rfl rfl (fun v w hp => ?_)
  obtain ⟨rfl, rfl⟩ := hp
  refine zk_stk (r' := []) rfl ?_
  refine zk_aload_n C kd_Ps_invocation_32 rfl 1 rfl rfl ?_
  obtain ⟨h8, c7, e⟩ := zd_b e
  refine zs_callV (k := 19) (rn := { frames := 0, cells := 0, slots := 0, locals := 0 }) (As := []) (rest := []) C (zc_Ps_deepen h6 c7) ku_Ps_deepen kw944 kv_Ps_deepen rfl ⟨by decide, by decide⟩ ⟨by decide, by decide⟩ rfl rfl rfl (Nat.le_of_ble_eq_true rfl) kd_Ps_invocation_33 rfl (c1 := 0) (s1 := 0) rfl rfl (fun v w hp => ?_)
  obtain ⟨rfl, rfl⟩ := hp
  refine zk_stk (r' := []) rfl ?_
  refine zk_aload_n C kd_Ps_invocation_36 rfl 1 rfl rfl ?_
  refine zk_bipush (v := 40) C kd_Ps_invocation_37 (by decide) rfl ?_
  obtain ⟨h10, c9, e⟩ := zd_b e
  refine zs_callV (k := 19) (rn := { frames := 0, cells := 0, slots := 0, locals := 0 }) (As := [.int 40]) (rest := []) C (zc_Ps_take h8 40 c9) ku_Ps_take kw876 kv_Ps_take rfl ⟨by decide, by decide⟩ ⟨by decide, by decide⟩ rfl rfl rfl (Nat.le_of_ble_eq_true rfl) kd_Ps_invocation_39 rfl (c1 := 0) (s1 := 0) rfl rfl (fun v w hp => ?_)
  obtain ⟨rfl, rfl⟩ := hp
  refine zk_stk (r' := []) rfl ?_
  refine zk_iconst (v := (-1)) C kd_Ps_invocation_42 (by decide) rfl ?_
  refine zk_istore_n (lv' := [(2, _), (1, _), (0, _)]) C kd_Ps_invocation_43 rfl (by decide) rfl rfl ?_
  refine zk_aload_n C kd_Ps_invocation_44 rfl 2 rfl rfl ?_
  refine zs_get (v := .int (h10.1 19 5)) C 19 5 rfl rfl rfl rfl ki_Ps (by decide) kw206 kd_Ps_invocation_45 rfl ?_
  refine zk_bipush (v := 41) C kd_Ps_invocation_48 (by decide) rfl ?_
  refine zk_icmp_eq (tgt := 57) C kd_Ps_invocation_50 (by decide) rfl (fun b11 => ?_) (fun b11 => ?_)
  · replace e := zd_pos b11 e
    refine zk_iconst (v := 0) C kd_Ps_invocation_57 (by decide) rfl ?_
    refine zk_lvs (lv' := [(0, .ref (S.1 19)), (1, .int v3), (2, .int (-1))]) [2, 1, 0] rfl ?_
    exact zb_Ps_invocation_58 C hR h10 v3 (-1) 0 e
  · replace e := zd_neg b11 e
    refine zk_iconst (v := 1) C kd_Ps_invocation_53 (by decide) rfl ?_
    refine zk_goto (tgt := 58) C kd_Ps_invocation_54 (by decide) ?_
    refine zk_lvs (lv' := [(0, .ref (S.1 19)), (1, .int v3), (2, .int (-1))]) [2, 1, 0] rfl ?_
    exact zb_Ps_invocation_58 C hR h10 v3 (-1) 1 e
set_option maxHeartbeats 4000000 in
set_option maxRecDepth 100000 in
theorem zb_Ps_assignment_92 {X : zkj_T} {S : zs_T} {P : ze_T} {l : Launch} {D : va_G} {sz0 : Nat} {rv : Int32} {rh : zs_H} (C : zk_C X km_Ps_assignment (zs_G S l D sz0) { frames := 404, cells := 0, slots := 0, locals := 10094 } (ze_E P)) (hR : zkj_R X (zd_PI S rv rh) (some .int)) (h : zs_H) (x1 : Int32) (e : f_Ps_assignment_92 h x1 = some (rv, rh)) : zk_Ab X (zs_W S h) 0 0 92 [(0, .ref (S.1 19)), (1, .int x1)] [] := by
  unfold f_Ps_assignment_92 at e
  refine zk_aload_n C kd_Ps_assignment_92 rfl 0 rfl rfl ?_
  refine zs_get (v := .ref (S.1 12)) C 19 2 rfl rfl rfl rfl ki_Ps (by decide) kw203 kd_Ps_assignment_93 rfl ?_
  refine zk_bipush (v := 12) C kd_Ps_assignment_96 (by decide) rfl ?_
  refine zk_aload_n C kd_Ps_assignment_98 rfl 0 rfl rfl ?_
  refine zs_get (v := .int (h.1 19 6)) C 19 6 rfl rfl rfl rfl ki_Ps (by decide) kw207 kd_Ps_assignment_99 rfl ?_
  refine zk_iconst (v := 0) C kd_Ps_assignment_102 (by decide) rfl ?_
  obtain ⟨v2, h3, c1, e⟩ := zd_Be e
  refine zs_callV (k := 12) (rn := { frames := 1, cells := 0, slots := 0, locals := 23 }) (As := [.int 12, .int (h.1 19 6), .int 0]) (rest := []) C (zc_Tr_add h 12 (h.1 19 6) 0 c1) ku_Tr_add kw866 kv_Tr_add rfl ⟨by decide, by decide⟩ ⟨by decide, by decide⟩ rfl rfl rfl (Nat.le_of_ble_eq_true rfl) kd_Ps_assignment_103 rfl (c1 := 0) (s1 := 0) rfl rfl (fun v w hp => ?_)
  obtain ⟨rfl, rfl⟩ := hp
  refine zk_stk (r' := [.int v2]) rfl ?_
  refine zk_istore_n (lv' := [(2, _), (0, _), (1, _)]) C kd_Ps_assignment_106 rfl (by decide) rfl rfl ?_
  refine zk_aload_n C kd_Ps_assignment_107 rfl 1 rfl rfl ?_
  refine zk_iconst (v := 1) C kd_Ps_assignment_108 (by decide) rfl ?_
  obtain ⟨h5, c4, e⟩ := zd_b e
  refine zs_callV (k := 19) (rn := { frames := 0, cells := 0, slots := 0, locals := 0 }) (As := [.int 1]) (rest := []) C (zc_Ps_take h3 1 c4) ku_Ps_take kw876 kv_Ps_take rfl ⟨by decide, by decide⟩ ⟨by decide, by decide⟩ rfl rfl rfl (Nat.le_of_ble_eq_true rfl) kd_Ps_assignment_109 rfl (c1 := 0) (s1 := 0) rfl rfl (fun v w hp => ?_)
  obtain ⟨rfl, rfl⟩ := hp
  refine zk_stk (r' := []) rfl ?_
  refine zk_aload_n C kd_Ps_assignment_112 rfl 1 rfl rfl ?_
  refine zs_get (v := .ref (S.1 12)) C 19 2 rfl rfl rfl rfl ki_Ps (by decide) kw203 kd_Ps_assignment_113 rfl ?_
  refine zk_iload_n C kd_Ps_assignment_116 rfl 0 rfl rfl ?_
  refine zk_iconst (v := (-1)) C kd_Ps_assignment_117 (by decide) rfl ?_
  refine zk_iload_n C kd_Ps_assignment_118 rfl 2 rfl rfl ?_
  obtain ⟨v7, h8, c6, e⟩ := zd_Be e
  refine zs_callV (k := 12) (rn := { frames := 0, cells := 0, slots := 0, locals := 0 }) (As := [.int v2, .int (-1), .int x1]) (rest := []) C (zc_Tr_hang h5 v2 (-1) x1 c6) ku_Tr_hang kw884 kv_Tr_hang rfl ⟨by decide, by decide⟩ ⟨by decide, by decide⟩ rfl rfl rfl (Nat.le_of_ble_eq_true rfl) kd_Ps_assignment_119 rfl (c1 := 0) (s1 := 0) rfl rfl (fun v w hp => ?_)
  obtain ⟨rfl, rfl⟩ := hp
  refine zk_stk (r' := [.int v7]) rfl ?_
  refine zk_pop C kd_Ps_assignment_122 rfl rfl ?_
  refine zk_aload_n C kd_Ps_assignment_123 rfl 1 rfl rfl ?_
  refine zs_get (v := .ref (S.1 12)) C 19 2 rfl rfl rfl rfl ki_Ps (by decide) kw203 kd_Ps_assignment_124 rfl ?_
  refine zk_iload_n C kd_Ps_assignment_127 rfl 0 rfl rfl ?_
  refine zk_iload_n C kd_Ps_assignment_128 rfl 2 rfl rfl ?_
  refine zk_aload_n C kd_Ps_assignment_129 rfl 1 rfl rfl ?_
  obtain ⟨v10, h11, c9, e⟩ := zd_Be e
  refine zs_callV (k := 19) (rn := { frames := 403, cells := 0, slots := 0, locals := 10072 }) (As := []) (rest := [.int x1, .int v2, .ref (S.1 12)]) C (zc_Ps_wholeExpression h8 c9) ku_Ps_wholeExpression kw948 kv_Ps_wholeExpression rfl ⟨by decide, by decide⟩ ⟨by decide, by decide⟩ rfl rfl rfl (Nat.le_of_ble_eq_true rfl) kd_Ps_assignment_130 rfl (c1 := 0) (s1 := 0) rfl rfl (fun v w hp => ?_)
  obtain ⟨rfl, rfl⟩ := hp
  refine zk_stk (r' := [.int v10, .int x1, .int v2, .ref (S.1 12)]) rfl ?_
  obtain ⟨v13, h14, c12, e⟩ := zd_Be e
  refine zs_callV (k := 12) (rn := { frames := 0, cells := 0, slots := 0, locals := 0 }) (As := [.int v2, .int x1, .int v10]) (rest := []) C (zc_Tr_hang h11 v2 x1 v10 c12) ku_Tr_hang kw884 kv_Tr_hang rfl ⟨by decide, by decide⟩ ⟨by decide, by decide⟩ rfl rfl rfl (Nat.le_of_ble_eq_true rfl) kd_Ps_assignment_133 rfl (c1 := 0) (s1 := 0) rfl rfl (fun v w hp => ?_)
  obtain ⟨rfl, rfl⟩ := hp
  refine zk_stk (r' := [.int v13]) rfl ?_
  refine zk_pop C kd_Ps_assignment_136 rfl rfl ?_
  refine zk_iload_n C kd_Ps_assignment_137 rfl 0 rfl rfl ?_
  exact zk_iret C hR kd_Ps_assignment_138 rfl rfl (zd_rIS e)
set_option maxHeartbeats 4000000 in
set_option maxRecDepth 100000 in
theorem zc_Ps_assignment {l : Launch} {D : va_G} {sz0 : Nat} {S : zs_T} {P : ze_T} (h : zs_H) {rv : Int32} {rh : zs_H} (e : f_Ps_assignment h = some (rv, rh)) : zk_Sp (zs_G S l D sz0) (ze_E P) km_Ps_assignment { frames := 404, cells := 0, slots := 0, locals := 10094 } [.ref (S.1 19)] (zs_W S h) (zd_PI S rv rh) := by
  refine zk_met ku_Ps_assignment (Nat.le_of_ble_eq_true rfl) (ze_Em P) ?_
  intro X C hR
  refine zk_lvs (lv' := [(0, .ref (S.1 19))]) [0] rfl ?_
  unfold f_Ps_assignment at e
  refine zk_aload_n C kd_Ps_assignment_0 rfl 0 rfl rfl ?_
  refine zs_get (v := .ref (S.1 12)) C 19 2 rfl rfl rfl rfl ki_Ps (by decide) kw203 kd_Ps_assignment_1 rfl ?_
  refine zk_bipush (v := 6) C kd_Ps_assignment_4 (by decide) rfl ?_
  refine zk_aload_n C kd_Ps_assignment_6 rfl 0 rfl rfl ?_
  refine zs_get (v := .int (h.1 19 6)) C 19 6 rfl rfl rfl rfl ki_Ps (by decide) kw207 kd_Ps_assignment_7 rfl ?_
  refine zk_aload_n C kd_Ps_assignment_10 rfl 0 rfl rfl ?_
  refine zs_get (v := .ref (S.1 8)) C 19 1 rfl rfl rfl rfl ki_Ps (by decide) kw202 kd_Ps_assignment_11 rfl ?_
  refine zs_get (v := .ref (S.1 11)) C 8 2 rfl rfl rfl rfl ki_Tk (by decide) kw123 kd_Ps_assignment_14 rfl ?_
  refine zk_aload_n C kd_Ps_assignment_17 rfl 0 rfl rfl ?_
  refine zs_get (v := .int (h.1 19 4)) C 19 4 rfl rfl rfl rfl ki_Ps (by decide) kw205 kd_Ps_assignment_18 rfl ?_
  obtain ⟨q1, e⟩ := zd_g e
  refine zs_iald C 11 rfl (zd_vp q1) kd_Ps_assignment_21 rfl ?_
  obtain ⟨v3, h4, c2, e⟩ := zd_Be e
  refine zs_callV (k := 12) (rn := { frames := 1, cells := 0, slots := 0, locals := 23 }) (As := [.int 6, .int (h.1 19 6), .int (h.2.1 11 (h.1 19 4).toNatClampNeg)]) (rest := []) C (zc_Tr_add h 6 (h.1 19 6) (h.2.1 11 (h.1 19 4).toNatClampNeg) c2) ku_Tr_add kw866 kv_Tr_add rfl ⟨by decide, by decide⟩ ⟨by decide, by decide⟩ rfl rfl rfl (Nat.le_of_ble_eq_true rfl) kd_Ps_assignment_22 rfl (c1 := 0) (s1 := 0) rfl rfl (fun v w hp => ?_)
  obtain ⟨rfl, rfl⟩ := hp
  refine zk_stk (r' := [.int v3]) rfl ?_
  refine zk_istore_n (lv' := [(1, _), (0, _)]) C kd_Ps_assignment_25 rfl (by decide) rfl rfl ?_
  refine zk_aload_n C kd_Ps_assignment_26 rfl 1 rfl rfl ?_
  refine zk_bipush (v := 8) C kd_Ps_assignment_27 (by decide) rfl ?_
  obtain ⟨h6, c5, e⟩ := zd_b e
  refine zs_callV (k := 19) (rn := { frames := 0, cells := 0, slots := 0, locals := 0 }) (As := [.int 8]) (rest := []) C (zc_Ps_take h4 8 c5) ku_Ps_take kw876 kv_Ps_take rfl ⟨by decide, by decide⟩ ⟨by decide, by decide⟩ rfl rfl rfl (Nat.le_of_ble_eq_true rfl) kd_Ps_assignment_29 rfl (c1 := 0) (s1 := 0) rfl rfl (fun v w hp => ?_)
  obtain ⟨rfl, rfl⟩ := hp
  refine zk_stk (r' := []) rfl ?_
  refine zk_aload_n C kd_Ps_assignment_32 rfl 1 rfl rfl ?_
  refine zs_get (v := .int (h6.1 19 5)) C 19 5 rfl rfl rfl rfl ki_Ps (by decide) kw206 kd_Ps_assignment_33 rfl ?_
  refine zk_bipush (v := 91) C kd_Ps_assignment_36 (by decide) rfl ?_
  refine zk_icmp_ne (tgt := 92) C kd_Ps_assignment_38 (by decide) rfl (fun b7 => ?_) (fun b7 => ?_)
  · replace e := zd_neg b7 e
    refine zk_lvs (lv' := [(0, .ref (S.1 19)), (1, .int v3)]) [1, 0] rfl ?_
    exact zb_Ps_assignment_92 C hR h6 v3 e
  · replace e := zd_pos b7 e
    refine zk_aload_n C kd_Ps_assignment_41 rfl 1 rfl rfl ?_
    refine zs_get (v := .ref (S.1 12)) C 19 2 rfl rfl rfl rfl ki_Ps (by decide) kw203 kd_Ps_assignment_42 rfl ?_
    refine zs_get (v := .ref (S.1 13)) C 12 0 rfl rfl rfl rfl ki_Tr (by decide) kw158 kd_Ps_assignment_45 rfl ?_
    refine zk_iload_n C kd_Ps_assignment_48 rfl 0 rfl rfl ?_
    refine zk_bipush (v := 32) C kd_Ps_assignment_49 (by decide) rfl ?_
    obtain ⟨q8, e⟩ := zd_g e
    refine zs_bast C 13 rfl (zd_vp q8) kd_Ps_assignment_51 rfl ?_
    refine zk_aload_n C kd_Ps_assignment_52 rfl 1 rfl rfl ?_
    obtain ⟨h10, c9, e⟩ := zd_b e
    refine zs_callV (k := 19) (rn := { frames := 0, cells := 0, slots := 0, locals := 0 }) (As := []) (rest := []) C (zc_Ps_deepen (zs_uM h6 13 v3.toNatClampNeg (vp_nar .byte 32)) c9) ku_Ps_deepen kw944 kv_Ps_deepen rfl ⟨by decide, by decide⟩ ⟨by decide, by decide⟩ rfl rfl rfl (Nat.le_of_ble_eq_true rfl) kd_Ps_assignment_53 rfl (c1 := 0) (s1 := 0) rfl rfl (fun v w hp => ?_)
    obtain ⟨rfl, rfl⟩ := hp
    refine zk_stk (r' := []) rfl ?_
    refine zk_aload_n C kd_Ps_assignment_56 rfl 1 rfl rfl ?_
    refine zk_bipush (v := 91) C kd_Ps_assignment_57 (by decide) rfl ?_
    obtain ⟨h12, c11, e⟩ := zd_b e
    refine zs_callV (k := 19) (rn := { frames := 0, cells := 0, slots := 0, locals := 0 }) (As := [.int 91]) (rest := []) C (zc_Ps_take h10 91 c11) ku_Ps_take kw876 kv_Ps_take rfl ⟨by decide, by decide⟩ ⟨by decide, by decide⟩ rfl rfl rfl (Nat.le_of_ble_eq_true rfl) kd_Ps_assignment_59 rfl (c1 := 0) (s1 := 0) rfl rfl (fun v w hp => ?_)
    obtain ⟨rfl, rfl⟩ := hp
    refine zk_stk (r' := []) rfl ?_
    refine zk_aload_n C kd_Ps_assignment_62 rfl 1 rfl rfl ?_
    refine zs_get (v := .ref (S.1 12)) C 19 2 rfl rfl rfl rfl ki_Ps (by decide) kw203 kd_Ps_assignment_63 rfl ?_
    refine zk_iload_n C kd_Ps_assignment_66 rfl 0 rfl rfl ?_
    refine zk_iconst (v := (-1)) C kd_Ps_assignment_67 (by decide) rfl ?_
    refine zk_aload_n C kd_Ps_assignment_68 rfl 1 rfl rfl ?_
    obtain ⟨v14, h15, c13, e⟩ := zd_Be e
    refine zs_callV (k := 19) (rn := { frames := 403, cells := 0, slots := 0, locals := 10072 }) (As := []) (rest := [.int (-1), .int v3, .ref (S.1 12)]) C (zc_Ps_wholeExpression h12 c13) ku_Ps_wholeExpression kw948 kv_Ps_wholeExpression rfl ⟨by decide, by decide⟩ ⟨by decide, by decide⟩ rfl rfl rfl (Nat.le_of_ble_eq_true rfl) kd_Ps_assignment_69 rfl (c1 := 0) (s1 := 0) rfl rfl (fun v w hp => ?_)
    obtain ⟨rfl, rfl⟩ := hp
    refine zk_stk (r' := [.int v14, .int (-1), .int v3, .ref (S.1 12)]) rfl ?_
    obtain ⟨v17, h18, c16, e⟩ := zd_Be e
    refine zs_callV (k := 12) (rn := { frames := 0, cells := 0, slots := 0, locals := 0 }) (As := [.int v3, .int (-1), .int v14]) (rest := []) C (zc_Tr_hang h15 v3 (-1) v14 c16) ku_Tr_hang kw884 kv_Tr_hang rfl ⟨by decide, by decide⟩ ⟨by decide, by decide⟩ rfl rfl rfl (Nat.le_of_ble_eq_true rfl) kd_Ps_assignment_72 rfl (c1 := 0) (s1 := 0) rfl rfl (fun v w hp => ?_)
    obtain ⟨rfl, rfl⟩ := hp
    refine zk_stk (r' := [.int v17]) rfl ?_
    refine zk_pop C kd_Ps_assignment_75 rfl rfl ?_
    refine zk_aload_n C kd_Ps_assignment_76 rfl 1 rfl rfl ?_
    refine zk_bipush (v := 93) C kd_Ps_assignment_77 (by decide) rfl ?_
    obtain ⟨h20, c19, e⟩ := zd_b e
    refine zs_callV (k := 19) (rn := { frames := 0, cells := 0, slots := 0, locals := 0 }) (As := [.int 93]) (rest := []) C (zc_Ps_take h18 93 c19) ku_Ps_take kw876 kv_Ps_take rfl ⟨by decide, by decide⟩ ⟨by decide, by decide⟩ rfl rfl rfl (Nat.le_of_ble_eq_true rfl) kd_Ps_assignment_79 rfl (c1 := 0) (s1 := 0) rfl rfl (fun v w hp => ?_)
    obtain ⟨rfl, rfl⟩ := hp
    refine zk_stk (r' := []) rfl ?_
    refine zk_aload_n C kd_Ps_assignment_82 rfl 1 rfl rfl ?_
    refine zk_dup C kd_Ps_assignment_83 rfl rfl ?_
    refine zs_get (v := .int (h20.1 19 7)) C 19 7 rfl rfl rfl rfl ki_Ps (by decide) kw208 kd_Ps_assignment_84 rfl ?_
    refine zk_iconst (v := 1) C kd_Ps_assignment_87 (by decide) rfl ?_
    refine zk_isub C kd_Ps_assignment_88 rfl ?_
    refine zs_put (ty := .int) C 19 7 ((h20.1 19 7) - 1) rfl rfl rfl rfl ki_Ps ky_Ps ko_Ps kn_Ps (by decide) kw208 rfl rfl rfl rfl (by decide) kd_Ps_assignment_89 rfl ?_
    refine zk_lvs (lv' := [(0, .ref (S.1 19)), (1, .int v3)]) [1, 0] rfl ?_
    exact zb_Ps_assignment_92 C hR (zs_uF h20 19 7 ((h20.1 19 7) - 1)) v3 e
