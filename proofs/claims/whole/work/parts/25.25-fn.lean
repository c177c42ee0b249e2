theorem kw158 : Jvm.Cond.fieldLink "PlantKeeper$Parser" (132 : Nat) "PlantKeeper$Tree" "kind" "[B" ∈ zk_BW := zk_inT 158 (by decide +kernel) rfl
theorem kw208 : Jvm.Cond.fieldLink "PlantKeeper$Parser" (41 : Nat) "PlantKeeper$Parser" "open" "I" ∈ zk_BW := zk_inT 208 (by decide +kernel) rfl
theorem kw894 : Jvm.Cond.instanceMethod ({ cls := "PlantKeeper$Parser", name := "section", desc := "()I" } : Jvm.MethodName) ∈ zk_BW := zk_inT 894 (by decide +kernel) rfl
theorem kw895 : Jvm.Cond.code ({ cls := "PlantKeeper$Parser", name := "section", desc := "()I" } : Jvm.MethodName) prog_8_method_7_code (4 : Nat) (Option.some FieldType.int) ∈ zk_BW := zk_inT 895 (by decide +kernel) rfl
theorem kw896 : Jvm.Cond.methodLink "PlantKeeper$Parser" (89 : Nat) ({ cls := "PlantKeeper$Parser", name := "declaration", desc := "()I" } : Jvm.MethodName) ∈ zk_BW := zk_inT 896 (by decide +kernel) rfl
theorem kw898 : Jvm.Cond.instanceMethod ({ cls := "PlantKeeper$Parser", name := "declaration", desc := "()I" } : Jvm.MethodName) ∈ zk_BW := zk_inT 898 (by decide +kernel) rfl
theorem kw899 : Jvm.Cond.code ({ cls := "PlantKeeper$Parser", name := "declaration", desc := "()I" } : Jvm.MethodName) prog_8_method_8_code (4 : Nat) (Option.some FieldType.int) ∈ zk_BW := zk_inT 899 (by decide +kernel) rfl
theorem kw900 : Jvm.Cond.methodLink "PlantKeeper$Parser" (92 : Nat) ({ cls := "PlantKeeper$Parser", name := "type", desc := "()I" } : Jvm.MethodName) ∈ zk_BW := zk_inT 900 (by decide +kernel) rfl
theorem kw910 : Jvm.Cond.instanceMethod ({ cls := "PlantKeeper$Parser", name := "ladder", desc := "()I" } : Jvm.MethodName) ∈ zk_BW := zk_inT 910 (by decide +kernel) rfl
theorem kw911 : Jvm.Cond.code ({ cls := "PlantKeeper$Parser", name := "ladder", desc := "()I" } : Jvm.MethodName) prog_8_method_27_code (7 : Nat) (Option.some FieldType.int) ∈ zk_BW := zk_inT 911 (by decide +kernel) rfl
theorem kw912 : Jvm.Cond.methodLink "PlantKeeper$Parser" (150 : Nat) ({ cls := "PlantKeeper$Parser", name := "row", desc := "()I" } : Jvm.MethodName) ∈ zk_BW := zk_inT 912 (by decide +kernel) rfl
theorem kw914 : Jvm.Cond.instanceMethod ({ cls := "PlantKeeper$Parser", name := "row", desc := "()I" } : Jvm.MethodName) ∈ zk_BW := zk_inT 914 (by decide +kernel) rfl
theorem kw915 : Jvm.Cond.code ({ cls := "PlantKeeper$Parser", name := "row", desc := "()I" } : Jvm.MethodName) prog_8_method_29_code (4 : Nat) (Option.some FieldType.int) ∈ zk_BW := zk_inT 915 (by decide +kernel) rfl
theorem kw916 : Jvm.Cond.methodLink "PlantKeeper$Parser" (156 : Nat) ({ cls := "PlantKeeper$Parser", name := "ladderCell", desc := "()I" } : Jvm.MethodName) ∈ zk_BW := zk_inT 916 (by decide +kernel) rfl
theorem kw918 : Jvm.Cond.instanceMethod ({ cls := "PlantKeeper$Parser", name := "ladderCell", desc := "()I" } : Jvm.MethodName) ∈ zk_BW := zk_inT 918 (by decide +kernel) rfl
theorem kw919 : Jvm.Cond.code ({ cls := "PlantKeeper$Parser", name := "ladderCell", desc := "()I" } : Jvm.MethodName) prog_8_method_30_code (3 : Nat) (Option.some FieldType.int) ∈ zk_BW := zk_inT 919 (by decide +kernel) rfl
theorem kw920 : Jvm.Cond.methodLink "PlantKeeper$Parser" (159 : Nat) ({ cls := "PlantKeeper$Parser", name := "coil", desc := "()I" } : Jvm.MethodName) ∈ zk_BW := zk_inT 920 (by decide +kernel) rfl
theorem kw922 : Jvm.Cond.instanceMethod ({ cls := "PlantKeeper$Parser", name := "coil", desc := "()I" } : Jvm.MethodName) ∈ zk_BW := zk_inT 922 (by decide +kernel) rfl
theorem kw923 : Jvm.Cond.code ({ cls := "PlantKeeper$Parser", name := "coil", desc := "()I" } : Jvm.MethodName) prog_8_method_31_code (2 : Nat) (Option.some FieldType.int) ∈ zk_BW := zk_inT 923 (by decide +kernel) rfl
theorem kw924 : Jvm.Cond.methodLink "PlantKeeper$Parser" (153 : Nat) ({ cls := "PlantKeeper$Parser", name := "isCell", desc := "()Z" } : Jvm.MethodName) ∈ zk_BW := zk_inT 924 (by decide +kernel) rfl
theorem kw926 : Jvm.Cond.instanceMethod ({ cls := "PlantKeeper$Parser", name := "isCell", desc := "()Z" } : Jvm.MethodName) ∈ zk_BW := zk_inT 926 (by decide +kernel) rfl
theorem kw927 : Jvm.Cond.code ({ cls := "PlantKeeper$Parser", name := "isCell", desc := "()Z" } : Jvm.MethodName) prog_8_method_28_code (1 : Nat) (Option.some FieldType.boolean) ∈ zk_BW := zk_inT 927 (by decide +kernel) rfl
theorem kw934 : Jvm.Cond.instanceMethod ({ cls := "PlantKeeper$Parser", name := "isStatement", desc := "()Z" } : Jvm.MethodName) ∈ zk_BW := zk_inT 934 (by decide +kernel) rfl
theorem kw935 : Jvm.Cond.code ({ cls := "PlantKeeper$Parser", name := "isStatement", desc := "()Z" } : Jvm.MethodName) prog_8_method_12_code (1 : Nat) (Option.some FieldType.boolean) ∈ zk_BW := zk_inT 935 (by decide +kernel) rfl
theorem kw946 : Jvm.Cond.instanceMethod ({ cls := "PlantKeeper$Parser", name := "deepen", desc := "()V" } : Jvm.MethodName) ∈ zk_BW := zk_inT 946 (by decide +kernel) rfl
theorem kw947 : Jvm.Cond.code ({ cls := "PlantKeeper$Parser", name := "deepen", desc := "()V" } : Jvm.MethodName) prog_8_method_4_code (1 : Nat) (Option.none : Option FieldType) ∈ zk_BW := zk_inT 947 (by decide +kernel) rfl
theorem kw966 : Jvm.Cond.instanceMethod ({ cls := "PlantKeeper$Parser", name := "operator", desc := "()I" } : Jvm.MethodName) ∈ zk_BW := zk_inT 966 (by decide +kernel) rfl
theorem kw967 : Jvm.Cond.code ({ cls := "PlantKeeper$Parser", name := "operator", desc := "()I" } : Jvm.MethodName) prog_8_method_23_code (1 : Nat) (Option.some FieldType.int) ∈ zk_BW := zk_inT 967 (by decide +kernel) rfl
abbrev kc_Ps_coil : ByteArray := prog_8_method_31_code
def km_Ps_coil : zk_MT := (⟨"PlantKeeper$Parser", "coil", "()I"⟩, kc_Ps_coil, 2, some .int, 0)
theorem ku_Ps_coil : zk_My km_Ps_coil := ⟨kw923, kw9, by decide, by decide, by decide, by decide +kernel⟩
theorem kv_Ps_coil : zk_Mv km_Ps_coil := ⟨kw922, zk_inS 28 (q := (⟨"PlantKeeper$Parser", "coil", "()I"⟩, 8)) (by decide +kernel)⟩
abbrev kc_Ps_declaration : ByteArray := prog_8_method_8_code
def km_Ps_declaration : zk_MT := (⟨"PlantKeeper$Parser", "declaration", "()I"⟩, kc_Ps_declaration, 4, some .int, 0)
theorem ku_Ps_declaration : zk_My km_Ps_declaration := ⟨kw899, kw9, by decide, by decide, by decide, by decide +kernel⟩
theorem kv_Ps_declaration : zk_Mv km_Ps_declaration := ⟨kw898, zk_inS 22 (q := (⟨"PlantKeeper$Parser", "declaration", "()I"⟩, 8)) (by decide +kernel)⟩
abbrev kc_Ps_deepen : ByteArray := prog_8_method_4_code
def km_Ps_deepen : zk_MT := (⟨"PlantKeeper$Parser", "deepen", "()V"⟩, kc_Ps_deepen, 1, none, 0)
theorem ku_Ps_deepen : zk_My km_Ps_deepen := ⟨kw947, kw9, by decide, by decide, by decide, by decide +kernel⟩
theorem kv_Ps_deepen : zk_Mv km_Ps_deepen := ⟨kw946, zk_inS 34 (q := (⟨"PlantKeeper$Parser", "deepen", "()V"⟩, 8)) (by decide +kernel)⟩
abbrev kc_Ps_isCell : ByteArray := prog_8_method_28_code
def km_Ps_isCell : zk_MT := (⟨"PlantKeeper$Parser", "isCell", "()Z"⟩, kc_Ps_isCell, 1, some .boolean, 0)
theorem ku_Ps_isCell : zk_My km_Ps_isCell := ⟨kw927, kw9, by decide, by decide, by decide, by decide +kernel⟩
theorem kv_Ps_isCell : zk_Mv km_Ps_isCell := ⟨kw926, zk_inS 29 (q := (⟨"PlantKeeper$Parser", "isCell", "()Z"⟩, 8)) (by decide +kernel)⟩
abbrev kc_Ps_isStatement : ByteArray := prog_8_method_12_code
def km_Ps_isStatement : zk_MT := (⟨"PlantKeeper$Parser", "isStatement", "()Z"⟩, kc_Ps_isStatement, 1, some .boolean, 0)
theorem ku_Ps_isStatement : zk_My km_Ps_isStatement := ⟨kw935, kw9, by decide, by decide, by decide, by decide +kernel⟩
theorem kv_Ps_isStatement : zk_Mv km_Ps_isStatement := ⟨kw934, zk_inS 31 (q := (⟨"PlantKeeper$Parser", "isStatement", "()Z"⟩, 8)) (by decide +kernel)⟩
abbrev kc_Ps_ladder : ByteArray := prog_8_method_27_code
def km_Ps_ladder : zk_MT := (⟨"PlantKeeper$Parser", "ladder", "()I"⟩, kc_Ps_ladder, 7, some .int, 0)
theorem ku_Ps_ladder : zk_My km_Ps_ladder := ⟨kw911, kw9, by decide, by decide, by decide, by decide +kernel⟩
theorem kv_Ps_ladder : zk_Mv km_Ps_ladder := ⟨kw910, zk_inS 25 (q := (⟨"PlantKeeper$Parser", "ladder", "()I"⟩, 8)) (by decide +kernel)⟩
abbrev kc_Ps_ladderCell : ByteArray := prog_8_method_30_code
def km_Ps_ladderCell : zk_MT := (⟨"PlantKeeper$Parser", "ladderCell", "()I"⟩, kc_Ps_ladderCell, 3, some .int, 0)
theorem ku_Ps_ladderCell : zk_My km_Ps_ladderCell := ⟨kw919, kw9, by decide, by decide, by decide, by decide +kernel⟩
theorem kv_Ps_ladderCell : zk_Mv km_Ps_ladderCell := ⟨kw918, zk_inS 27 (q := (⟨"PlantKeeper$Parser", "ladderCell", "()I"⟩, 8)) (by decide +kernel)⟩
abbrev kc_Ps_operator : ByteArray := prog_8_method_23_code
def km_Ps_operator : zk_MT := (⟨"PlantKeeper$Parser", "operator", "()I"⟩, kc_Ps_operator, 1, some .int, 0)
theorem ku_Ps_operator : zk_My km_Ps_operator := ⟨kw967, kw9, by decide, by decide, by decide, by decide +kernel⟩
theorem kv_Ps_operator : zk_Mv km_Ps_operator := ⟨kw966, zk_inS 39 (q := (⟨"PlantKeeper$Parser", "operator", "()I"⟩, 8)) (by decide +kernel)⟩
abbrev kc_Ps_row : ByteArray := prog_8_method_29_code
def km_Ps_row : zk_MT := (⟨"PlantKeeper$Parser", "row", "()I"⟩, kc_Ps_row, 4, some .int, 0)
theorem ku_Ps_row : zk_My km_Ps_row := ⟨kw915, kw9, by decide, by decide, by decide, by decide +kernel⟩
theorem kv_Ps_row : zk_Mv km_Ps_row := ⟨kw914, zk_inS 26 (q := (⟨"PlantKeeper$Parser", "row", "()I"⟩, 8)) (by decide +kernel)⟩
abbrev kc_Ps_section : ByteArray := prog_8_method_7_code
def km_Ps_section : zk_MT := (⟨"PlantKeeper$Parser", "section", "()I"⟩, kc_Ps_section, 4, some .int, 0)
theorem ku_Ps_section : zk_My km_Ps_section := ⟨kw895, kw9, by decide, by decide, by decide, by decide +kernel⟩
theorem kv_Ps_section : zk_Mv km_Ps_section := ⟨kw894, zk_inS 21 (q := (⟨"PlantKeeper$Parser", "section", "()I"⟩, 8)) (by decide +kernel)⟩
theorem kd_Ps_coil_0 : decode kc_Ps_coil 0 = .ok (.aload_n 0, 1) := by decide +kernel
theorem kd_Ps_coil_1 : decode kc_Ps_coil 1 = .ok (.getfield 15, 3) := by decide +kernel
theorem kd_Ps_coil_4 : decode kc_Ps_coil 4 = .ok (.bipush 28, 2) := by decide +kernel
theorem kd_Ps_coil_6 : decode kc_Ps_coil 6 = .ok (.aload_n 0, 1) := by decide +kernel
theorem kd_Ps_coil_7 : decode kc_Ps_coil 7 = .ok (.getfield 38, 3) := by decide +kernel
theorem kd_Ps_coil_10 : decode kc_Ps_coil 10 = .ok (.iconst 0, 1) := by decide +kernel
theorem kd_Ps_coil_11 : decode kc_Ps_coil 11 = .ok (.invokevirtual 49, 3) := by decide +kernel
theorem kd_Ps_coil_14 : decode kc_Ps_coil 14 = .ok (.istore_n 1, 1) := by decide +kernel
theorem kd_Ps_coil_15 : decode kc_Ps_coil 15 = .ok (.aload_n 0, 1) := by decide +kernel
theorem kd_Ps_coil_16 : decode kc_Ps_coil 16 = .ok (.bipush 40, 2) := by decide +kernel
theorem kd_Ps_coil_18 : decode kc_Ps_coil 18 = .ok (.invokevirtual 68, 3) := by decide +kernel
theorem kd_Ps_coil_21 : decode kc_Ps_coil 21 = .ok (.aload_n 0, 1) := by decide +kernel
theorem kd_Ps_coil_22 : decode kc_Ps_coil 22 = .ok (.getfield 32, 3) := by decide +kernel
theorem kd_Ps_coil_25 : decode kc_Ps_coil 25 = .ok (.bipush 47, 2) := by decide +kernel
theorem kd_Ps_coil_27 : decode kc_Ps_coil 27 = .ok (.if_icmp .eq 21, 3) := by decide +kernel
theorem kd_Ps_coil_30 : decode kc_Ps_coil 30 = .ok (.aload_n 0, 1) := by decide +kernel
theorem kd_Ps_coil_31 : decode kc_Ps_coil 31 = .ok (.getfield 32, 3) := by decide +kernel
theorem kd_Ps_coil_34 : decode kc_Ps_coil 34 = .ok (.bipush 43, 2) := by decide +kernel
theorem kd_Ps_coil_36 : decode kc_Ps_coil 36 = .ok (.if_icmp .eq 12, 3) := by decide +kernel
theorem kd_Ps_coil_39 : decode kc_Ps_coil 39 = .ok (.aload_n 0, 1) := by decide +kernel
theorem kd_Ps_coil_40 : decode kc_Ps_coil 40 = .ok (.getfield 32, 3) := by decide +kernel
theorem kd_Ps_coil_43 : decode kc_Ps_coil 43 = .ok (.bipush 45, 2) := by decide +kernel
theorem kd_Ps_coil_45 : decode kc_Ps_coil 45 = .ok (.if_icmp .ne 47, 3) := by decide +kernel
theorem kd_Ps_coil_48 : decode kc_Ps_coil 48 = .ok (.aload_n 0, 1) := by decide +kernel
theorem kd_Ps_coil_49 : decode kc_Ps_coil 49 = .ok (.getfield 15, 3) := by decide +kernel
theorem kd_Ps_coil_52 : decode kc_Ps_coil 52 = .ok (.getfield 72, 3) := by decide +kernel
theorem kd_Ps_coil_55 : decode kc_Ps_coil 55 = .ok (.iload_n 1, 1) := by decide +kernel
theorem kd_Ps_coil_56 : decode kc_Ps_coil 56 = .ok (.aload_n 0, 1) := by decide +kernel
theorem kd_Ps_coil_57 : decode kc_Ps_coil 57 = .ok (.getfield 32, 3) := by decide +kernel
theorem kd_Ps_coil_60 : decode kc_Ps_coil 60 = .ok (.bipush 47, 2) := by decide +kernel
theorem kd_Ps_coil_62 : decode kc_Ps_coil 62 = .ok (.if_icmp .ne 7, 3) := by decide +kernel
theorem kd_Ps_coil_65 : decode kc_Ps_coil 65 = .ok (.iconst 1, 1) := by decide +kernel
theorem kd_Ps_coil_66 : decode kc_Ps_coil 66 = .ok (.goto 17, 3) := by decide +kernel
theorem kd_Ps_coil_69 : decode kc_Ps_coil 69 = .ok (.aload_n 0, 1) := by decide +kernel
theorem kd_Ps_coil_70 : decode kc_Ps_coil 70 = .ok (.getfield 32, 3) := by decide +kernel
theorem kd_Ps_coil_73 : decode kc_Ps_coil 73 = .ok (.bipush 43, 2) := by decide +kernel
theorem kd_Ps_coil_75 : decode kc_Ps_coil 75 = .ok (.if_icmp .ne 7, 3) := by decide +kernel
theorem kd_Ps_coil_78 : decode kc_Ps_coil 78 = .ok (.iconst 2, 1) := by decide +kernel
theorem kd_Ps_coil_79 : decode kc_Ps_coil 79 = .ok (.goto 4, 3) := by decide +kernel
theorem kd_Ps_coil_82 : decode kc_Ps_coil 82 = .ok (.iconst 3, 1) := by decide +kernel
theorem kd_Ps_coil_83 : decode kc_Ps_coil 83 = .ok (.iastore, 1) := by decide +kernel
theorem kd_Ps_coil_84 : decode kc_Ps_coil 84 = .ok (.aload_n 0, 1) := by decide +kernel
theorem kd_Ps_coil_85 : decode kc_Ps_coil 85 = .ok (.aload_n 0, 1) := by decide +kernel
theorem kd_Ps_coil_86 : decode kc_Ps_coil 86 = .ok (.getfield 32, 3) := by decide +kernel
theorem kd_Ps_coil_89 : decode kc_Ps_coil 89 = .ok (.invokevirtual 68, 3) := by decide +kernel
theorem kd_Ps_coil_92 : decode kc_Ps_coil 92 = .ok (.aload_n 0, 1) := by decide +kernel
theorem kd_Ps_coil_93 : decode kc_Ps_coil 93 = .ok (.getfield 15, 3) := by decide +kernel
theorem kd_Ps_coil_96 : decode kc_Ps_coil 96 = .ok (.iload_n 1, 1) := by decide +kernel
theorem kd_Ps_coil_97 : decode kc_Ps_coil 97 = .ok (.iconst (-1), 1) := by decide +kernel
theorem kd_Ps_coil_98 : decode kc_Ps_coil 98 = .ok (.aload_n 0, 1) := by decide +kernel
theorem kd_Ps_coil_99 : decode kc_Ps_coil 99 = .ok (.getfield 15, 3) := by decide +kernel
theorem kd_Ps_coil_102 : decode kc_Ps_coil 102 = .ok (.bipush 6, 2) := by decide +kernel
theorem kd_Ps_coil_104 : decode kc_Ps_coil 104 = .ok (.aload_n 0, 1) := by decide +kernel
theorem kd_Ps_coil_105 : decode kc_Ps_coil 105 = .ok (.getfield 38, 3) := by decide +kernel
theorem kd_Ps_coil_108 : decode kc_Ps_coil 108 = .ok (.aload_n 0, 1) := by decide +kernel
theorem kd_Ps_coil_109 : decode kc_Ps_coil 109 = .ok (.getfield 9, 3) := by decide +kernel
theorem kd_Ps_coil_112 : decode kc_Ps_coil 112 = .ok (.getfield 61, 3) := by decide +kernel
theorem kd_Ps_coil_115 : decode kc_Ps_coil 115 = .ok (.aload_n 0, 1) := by decide +kernel
theorem kd_Ps_coil_116 : decode kc_Ps_coil 116 = .ok (.getfield 23, 3) := by decide +kernel
theorem kd_Ps_coil_119 : decode kc_Ps_coil 119 = .ok (.iaload, 1) := by decide +kernel
theorem kd_Ps_coil_120 : decode kc_Ps_coil 120 = .ok (.invokevirtual 49, 3) := by decide +kernel
theorem kd_Ps_coil_123 : decode kc_Ps_coil 123 = .ok (.invokevirtual 57, 3) := by decide +kernel
theorem kd_Ps_coil_126 : decode kc_Ps_coil 126 = .ok (.pop, 1) := by decide +kernel
theorem kd_Ps_coil_127 : decode kc_Ps_coil 127 = .ok (.aload_n 0, 1) := by decide +kernel
theorem kd_Ps_coil_128 : decode kc_Ps_coil 128 = .ok (.bipush 8, 2) := by decide +kernel
theorem kd_Ps_coil_130 : decode kc_Ps_coil 130 = .ok (.invokevirtual 68, 3) := by decide +kernel
theorem kd_Ps_coil_133 : decode kc_Ps_coil 133 = .ok (.aload_n 0, 1) := by decide +kernel
theorem kd_Ps_coil_134 : decode kc_Ps_coil 134 = .ok (.bipush 41, 2) := by decide +kernel
theorem kd_Ps_coil_136 : decode kc_Ps_coil 136 = .ok (.invokevirtual 68, 3) := by decide +kernel
theorem kd_Ps_coil_139 : decode kc_Ps_coil 139 = .ok (.iload_n 1, 1) := by decide +kernel
theorem kd_Ps_coil_140 : decode kc_Ps_coil 140 = .ok (.ireturn, 1) := by decide +kernel
theorem kd_Ps_declaration_0 : decode kc_Ps_declaration 0 = .ok (.aload_n 0, 1) := by decide +kernel
theorem kd_Ps_declaration_1 : decode kc_Ps_declaration 1 = .ok (.getfield 15, 3) := by decide +kernel
theorem kd_Ps_declaration_4 : decode kc_Ps_declaration 4 = .ok (.iconst 5, 1) := by decide +kernel
theorem kd_Ps_declaration_5 : decode kc_Ps_declaration 5 = .ok (.aload_n 0, 1) := by decide +kernel
theorem kd_Ps_declaration_6 : decode kc_Ps_declaration 6 = .ok (.getfield 38, 3) := by decide +kernel
theorem kd_Ps_declaration_9 : decode kc_Ps_declaration 9 = .ok (.iconst 0, 1) := by decide +kernel
theorem kd_Ps_declaration_10 : decode kc_Ps_declaration 10 = .ok (.invokevirtual 49, 3) := by decide +kernel
theorem kd_Ps_declaration_13 : decode kc_Ps_declaration 13 = .ok (.istore_n 1, 1) := by decide +kernel
theorem kd_Ps_declaration_14 : decode kc_Ps_declaration 14 = .ok (.aload_n 0, 1) := by decide +kernel
theorem kd_Ps_declaration_15 : decode kc_Ps_declaration 15 = .ok (.getfield 15, 3) := by decide +kernel
theorem kd_Ps_declaration_18 : decode kc_Ps_declaration 18 = .ok (.iload_n 1, 1) := by decide +kernel
theorem kd_Ps_declaration_19 : decode kc_Ps_declaration 19 = .ok (.iconst (-1), 1) := by decide +kernel
theorem kd_Ps_declaration_20 : decode kc_Ps_declaration 20 = .ok (.aload_n 0, 1) := by decide +kernel
theorem kd_Ps_declaration_21 : decode kc_Ps_declaration 21 = .ok (.getfield 15, 3) := by decide +kernel
theorem kd_Ps_declaration_24 : decode kc_Ps_declaration 24 = .ok (.bipush 37, 2) := by decide +kernel
theorem kd_Ps_declaration_26 : decode kc_Ps_declaration 26 = .ok (.aload_n 0, 1) := by decide +kernel
theorem kd_Ps_declaration_27 : decode kc_Ps_declaration 27 = .ok (.getfield 38, 3) := by decide +kernel
theorem kd_Ps_declaration_30 : decode kc_Ps_declaration 30 = .ok (.aload_n 0, 1) := by decide +kernel
theorem kd_Ps_declaration_31 : decode kc_Ps_declaration 31 = .ok (.getfield 9, 3) := by decide +kernel
theorem kd_Ps_declaration_34 : decode kc_Ps_declaration 34 = .ok (.getfield 61, 3) := by decide +kernel
theorem kd_Ps_declaration_37 : decode kc_Ps_declaration 37 = .ok (.aload_n 0, 1) := by decide +kernel
theorem kd_Ps_declaration_38 : decode kc_Ps_declaration 38 = .ok (.getfield 23, 3) := by decide +kernel
theorem kd_Ps_declaration_41 : decode kc_Ps_declaration 41 = .ok (.iaload, 1) := by decide +kernel
theorem kd_Ps_declaration_42 : decode kc_Ps_declaration 42 = .ok (.invokevirtual 49, 3) := by decide +kernel
theorem kd_Ps_declaration_45 : decode kc_Ps_declaration 45 = .ok (.invokevirtual 57, 3) := by decide +kernel
theorem kd_Ps_declaration_48 : decode kc_Ps_declaration 48 = .ok (.istore_n 2, 1) := by decide +kernel
theorem kd_Ps_declaration_49 : decode kc_Ps_declaration 49 = .ok (.aload_n 0, 1) := by decide +kernel
theorem kd_Ps_declaration_50 : decode kc_Ps_declaration 50 = .ok (.bipush 8, 2) := by decide +kernel
theorem kd_Ps_declaration_52 : decode kc_Ps_declaration 52 = .ok (.invokevirtual 68, 3) := by decide +kernel
theorem kd_Ps_declaration_55 : decode kc_Ps_declaration 55 = .ok (.iconst 0, 1) := by decide +kernel
theorem kd_Ps_declaration_56 : decode kc_Ps_declaration 56 = .ok (.istore_n 3, 1) := by decide +kernel
theorem kd_Ps_declaration_57 : decode kc_Ps_declaration 57 = .ok (.iload_n 3, 1) := by decide +kernel
theorem kd_Ps_declaration_58 : decode kc_Ps_declaration 58 = .ok (.sipush 16384, 3) := by decide +kernel
theorem kd_Ps_declaration_61 : decode kc_Ps_declaration 61 = .ok (.if_icmp .ge 65, 3) := by decide +kernel
theorem kd_Ps_declaration_64 : decode kc_Ps_declaration 64 = .ok (.aload_n 0, 1) := by decide +kernel
theorem kd_Ps_declaration_65 : decode kc_Ps_declaration 65 = .ok (.getfield 32, 3) := by decide +kernel
theorem kd_Ps_declaration_68 : decode kc_Ps_declaration 68 = .ok (.bipush 44, 2) := by decide +kernel
theorem kd_Ps_declaration_70 : decode kc_Ps_declaration 70 = .ok (.if_icmp .ne 56, 3) := by decide +kernel
theorem kd_Ps_declaration_73 : decode kc_Ps_declaration 73 = .ok (.aload_n 0, 1) := by decide +kernel
theorem kd_Ps_declaration_74 : decode kc_Ps_declaration 74 = .ok (.bipush 44, 2) := by decide +kernel
theorem kd_Ps_declaration_76 : decode kc_Ps_declaration 76 = .ok (.invokevirtual 68, 3) := by decide +kernel
theorem kd_Ps_declaration_79 : decode kc_Ps_declaration 79 = .ok (.aload_n 0, 1) := by decide +kernel
theorem kd_Ps_declaration_80 : decode kc_Ps_declaration 80 = .ok (.getfield 15, 3) := by decide +kernel
theorem kd_Ps_declaration_83 : decode kc_Ps_declaration 83 = .ok (.iload_n 1, 1) := by decide +kernel
theorem kd_Ps_declaration_84 : decode kc_Ps_declaration 84 = .ok (.iload_n 2, 1) := by decide +kernel
theorem kd_Ps_declaration_85 : decode kc_Ps_declaration 85 = .ok (.aload_n 0, 1) := by decide +kernel
theorem kd_Ps_declaration_86 : decode kc_Ps_declaration 86 = .ok (.getfield 15, 3) := by decide +kernel
theorem kd_Ps_declaration_89 : decode kc_Ps_declaration 89 = .ok (.bipush 37, 2) := by decide +kernel
theorem kd_Ps_declaration_91 : decode kc_Ps_declaration 91 = .ok (.aload_n 0, 1) := by decide +kernel
theorem kd_Ps_declaration_92 : decode kc_Ps_declaration 92 = .ok (.getfield 38, 3) := by decide +kernel
theorem kd_Ps_declaration_95 : decode kc_Ps_declaration 95 = .ok (.aload_n 0, 1) := by decide +kernel
theorem kd_Ps_declaration_96 : decode kc_Ps_declaration 96 = .ok (.getfield 9, 3) := by decide +kernel
theorem kd_Ps_declaration_99 : decode kc_Ps_declaration 99 = .ok (.getfield 61, 3) := by decide +kernel
theorem kd_Ps_declaration_102 : decode kc_Ps_declaration 102 = .ok (.aload_n 0, 1) := by decide +kernel
theorem kd_Ps_declaration_103 : decode kc_Ps_declaration 103 = .ok (.getfield 23, 3) := by decide +kernel
theorem kd_Ps_declaration_106 : decode kc_Ps_declaration 106 = .ok (.iaload, 1) := by decide +kernel
theorem kd_Ps_declaration_107 : decode kc_Ps_declaration 107 = .ok (.invokevirtual 49, 3) := by decide +kernel
theorem kd_Ps_declaration_110 : decode kc_Ps_declaration 110 = .ok (.invokevirtual 57, 3) := by decide +kernel
theorem kd_Ps_declaration_113 : decode kc_Ps_declaration 113 = .ok (.istore_n 2, 1) := by decide +kernel
theorem kd_Ps_declaration_114 : decode kc_Ps_declaration 114 = .ok (.aload_n 0, 1) := by decide +kernel
theorem kd_Ps_declaration_115 : decode kc_Ps_declaration 115 = .ok (.bipush 8, 2) := by decide +kernel
theorem kd_Ps_declaration_117 : decode kc_Ps_declaration 117 = .ok (.invokevirtual 68, 3) := by decide +kernel
theorem kd_Ps_declaration_120 : decode kc_Ps_declaration 120 = .ok (.iinc 3 1, 3) := by decide +kernel
theorem kd_Ps_declaration_123 : decode kc_Ps_declaration 123 = .ok (.goto (-66), 3) := by decide +kernel
theorem kd_Ps_declaration_126 : decode kc_Ps_declaration 126 = .ok (.aload_n 0, 1) := by decide +kernel
theorem kd_Ps_declaration_127 : decode kc_Ps_declaration 127 = .ok (.getfield 32, 3) := by decide +kernel
theorem kd_Ps_declaration_130 : decode kc_Ps_declaration 130 = .ok (.sipush 138, 3) := by decide +kernel
theorem kd_Ps_declaration_133 : decode kc_Ps_declaration 133 = .ok (.if_icmp .ne 51, 3) := by decide +kernel
theorem kd_Ps_declaration_136 : decode kc_Ps_declaration 136 = .ok (.aload_n 0, 1) := by decide +kernel
theorem kd_Ps_declaration_137 : decode kc_Ps_declaration 137 = .ok (.sipush 138, 3) := by decide +kernel
theorem kd_Ps_declaration_140 : decode kc_Ps_declaration 140 = .ok (.invokevirtual 68, 3) := by decide +kernel
theorem kd_Ps_declaration_143 : decode kc_Ps_declaration 143 = .ok (.aload_n 0, 1) := by decide +kernel
theorem kd_Ps_declaration_144 : decode kc_Ps_declaration 144 = .ok (.getfield 15, 3) := by decide +kernel
theorem kd_Ps_declaration_147 : decode kc_Ps_declaration 147 = .ok (.iload_n 1, 1) := by decide +kernel
theorem kd_Ps_declaration_148 : decode kc_Ps_declaration 148 = .ok (.iload_n 2, 1) := by decide +kernel
theorem kd_Ps_declaration_149 : decode kc_Ps_declaration 149 = .ok (.aload_n 0, 1) := by decide +kernel
theorem kd_Ps_declaration_150 : decode kc_Ps_declaration 150 = .ok (.getfield 15, 3) := by decide +kernel
theorem kd_Ps_declaration_153 : decode kc_Ps_declaration 153 = .ok (.bipush 7, 2) := by decide +kernel
theorem kd_Ps_declaration_155 : decode kc_Ps_declaration 155 = .ok (.aload_n 0, 1) := by decide +kernel
theorem kd_Ps_declaration_156 : decode kc_Ps_declaration 156 = .ok (.getfield 38, 3) := by decide +kernel
theorem kd_Ps_declaration_159 : decode kc_Ps_declaration 159 = .ok (.aload_n 0, 1) := by decide +kernel
theorem kd_Ps_declaration_160 : decode kc_Ps_declaration 160 = .ok (.getfield 9, 3) := by decide +kernel
theorem kd_Ps_declaration_163 : decode kc_Ps_declaration 163 = .ok (.getfield 61, 3) := by decide +kernel
theorem kd_Ps_declaration_166 : decode kc_Ps_declaration 166 = .ok (.aload_n 0, 1) := by decide +kernel
theorem kd_Ps_declaration_167 : decode kc_Ps_declaration 167 = .ok (.getfield 23, 3) := by decide +kernel
theorem kd_Ps_declaration_170 : decode kc_Ps_declaration 170 = .ok (.iaload, 1) := by decide +kernel
theorem kd_Ps_declaration_171 : decode kc_Ps_declaration 171 = .ok (.invokevirtual 49, 3) := by decide +kernel
theorem kd_Ps_declaration_174 : decode kc_Ps_declaration 174 = .ok (.invokevirtual 57, 3) := by decide +kernel
theorem kd_Ps_declaration_177 : decode kc_Ps_declaration 177 = .ok (.istore_n 2, 1) := by decide +kernel
theorem kd_Ps_declaration_178 : decode kc_Ps_declaration 178 = .ok (.aload_n 0, 1) := by decide +kernel
theorem kd_Ps_declaration_179 : decode kc_Ps_declaration 179 = .ok (.bipush 10, 2) := by decide +kernel
theorem kd_Ps_declaration_181 : decode kc_Ps_declaration 181 = .ok (.invokevirtual 68, 3) := by decide +kernel
theorem kd_Ps_declaration_184 : decode kc_Ps_declaration 184 = .ok (.aload_n 0, 1) := by decide +kernel
theorem kd_Ps_declaration_185 : decode kc_Ps_declaration 185 = .ok (.bipush 58, 2) := by decide +kernel
theorem kd_Ps_declaration_187 : decode kc_Ps_declaration 187 = .ok (.invokevirtual 68, 3) := by decide +kernel
theorem kd_Ps_declaration_190 : decode kc_Ps_declaration 190 = .ok (.aload_n 0, 1) := by decide +kernel
theorem kd_Ps_declaration_191 : decode kc_Ps_declaration 191 = .ok (.getfield 15, 3) := by decide +kernel
theorem kd_Ps_declaration_194 : decode kc_Ps_declaration 194 = .ok (.iload_n 1, 1) := by decide +kernel
theorem kd_Ps_declaration_195 : decode kc_Ps_declaration 195 = .ok (.iload_n 2, 1) := by decide +kernel
theorem kd_Ps_declaration_196 : decode kc_Ps_declaration 196 = .ok (.aload_n 0, 1) := by decide +kernel
theorem kd_Ps_declaration_197 : decode kc_Ps_declaration 197 = .ok (.invokevirtual 92, 3) := by decide +kernel
theorem kd_Ps_declaration_200 : decode kc_Ps_declaration 200 = .ok (.invokevirtual 57, 3) := by decide +kernel
theorem kd_Ps_declaration_203 : decode kc_Ps_declaration 203 = .ok (.istore_n 2, 1) := by decide +kernel
theorem kd_Ps_declaration_204 : decode kc_Ps_declaration 204 = .ok (.aload_n 0, 1) := by decide +kernel
theorem kd_Ps_declaration_205 : decode kc_Ps_declaration 205 = .ok (.getfield 32, 3) := by decide +kernel
theorem kd_Ps_declaration_208 : decode kc_Ps_declaration 208 = .ok (.iconst 1, 1) := by decide +kernel
theorem kd_Ps_declaration_209 : decode kc_Ps_declaration 209 = .ok (.if_icmp .ne 22, 3) := by decide +kernel
theorem kd_Ps_declaration_212 : decode kc_Ps_declaration 212 = .ok (.aload_n 0, 1) := by decide +kernel
theorem kd_Ps_declaration_213 : decode kc_Ps_declaration 213 = .ok (.iconst 1, 1) := by decide +kernel
theorem kd_Ps_declaration_214 : decode kc_Ps_declaration 214 = .ok (.invokevirtual 68, 3) := by decide +kernel
theorem kd_Ps_declaration_217 : decode kc_Ps_declaration 217 = .ok (.aload_n 0, 1) := by decide +kernel
theorem kd_Ps_declaration_218 : decode kc_Ps_declaration 218 = .ok (.getfield 15, 3) := by decide +kernel
theorem kd_Ps_declaration_221 : decode kc_Ps_declaration 221 = .ok (.iload_n 1, 1) := by decide +kernel
theorem kd_Ps_declaration_222 : decode kc_Ps_declaration 222 = .ok (.iload_n 2, 1) := by decide +kernel
theorem kd_Ps_declaration_223 : decode kc_Ps_declaration 223 = .ok (.aload_n 0, 1) := by decide +kernel
theorem kd_Ps_declaration_224 : decode kc_Ps_declaration 224 = .ok (.invokevirtual 95, 3) := by decide +kernel
theorem kd_Ps_declaration_227 : decode kc_Ps_declaration 227 = .ok (.invokevirtual 57, 3) := by decide +kernel
theorem kd_Ps_declaration_230 : decode kc_Ps_declaration 230 = .ok (.pop, 1) := by decide +kernel
theorem kd_Ps_declaration_231 : decode kc_Ps_declaration 231 = .ok (.aload_n 0, 1) := by decide +kernel
theorem kd_Ps_declaration_232 : decode kc_Ps_declaration 232 = .ok (.bipush 59, 2) := by decide +kernel
theorem kd_Ps_declaration_234 : decode kc_Ps_declaration 234 = .ok (.invokevirtual 68, 3) := by decide +kernel
theorem kd_Ps_declaration_237 : decode kc_Ps_declaration 237 = .ok (.iload_n 1, 1) := by decide +kernel
theorem kd_Ps_declaration_238 : decode kc_Ps_declaration 238 = .ok (.ireturn, 1) := by decide +kernel
theorem kd_Ps_deepen_0 : decode kc_Ps_deepen 0 = .ok (.aload_n 0, 1) := by decide +kernel
theorem kd_Ps_deepen_1 : decode kc_Ps_deepen 1 = .ok (.getfield 41, 3) := by decide +kernel
theorem kd_Ps_deepen_4 : decode kc_Ps_deepen 4 = .ok (.bipush 60, 2) := by decide +kernel
theorem kd_Ps_deepen_6 : decode kc_Ps_deepen 6 = .ok (.if_icmp .lt 29, 3) := by decide +kernel
theorem kd_Ps_deepen_9 : decode kc_Ps_deepen 9 = .ok (.aload_n 0, 1) := by decide +kernel
theorem kd_Ps_deepen_10 : decode kc_Ps_deepen 10 = .ok (.getfield 19, 3) := by decide +kernel
theorem kd_Ps_deepen_13 : decode kc_Ps_deepen 13 = .ok (.ifCond .ne 22, 3) := by decide +kernel
theorem kd_Ps_deepen_16 : decode kc_Ps_deepen 16 = .ok (.aload_n 0, 1) := by decide +kernel
theorem kd_Ps_deepen_17 : decode kc_Ps_deepen 17 = .ok (.bipush 7, 2) := by decide +kernel
theorem kd_Ps_deepen_19 : decode kc_Ps_deepen 19 = .ok (.putfield 19, 3) := by decide +kernel
theorem kd_Ps_deepen_22 : decode kc_Ps_deepen 22 = .ok (.aload_n 0, 1) := by decide +kernel
theorem kd_Ps_deepen_23 : decode kc_Ps_deepen 23 = .ok (.aload_n 0, 1) := by decide +kernel
theorem kd_Ps_deepen_24 : decode kc_Ps_deepen 24 = .ok (.getfield 38, 3) := by decide +kernel
theorem kd_Ps_deepen_27 : decode kc_Ps_deepen 27 = .ok (.putfield 65, 3) := by decide +kernel
theorem kd_Ps_deepen_30 : decode kc_Ps_deepen 30 = .ok (.aload_n 0, 1) := by decide +kernel
theorem kd_Ps_deepen_31 : decode kc_Ps_deepen 31 = .ok (.iconst 0, 1) := by decide +kernel
theorem kd_Ps_deepen_32 : decode kc_Ps_deepen 32 = .ok (.putfield 32, 3) := by decide +kernel
theorem kd_Ps_deepen_35 : decode kc_Ps_deepen 35 = .ok (.aload_n 0, 1) := by decide +kernel
theorem kd_Ps_deepen_36 : decode kc_Ps_deepen 36 = .ok (.dup, 1) := by decide +kernel
theorem kd_Ps_deepen_37 : decode kc_Ps_deepen 37 = .ok (.getfield 41, 3) := by decide +kernel
theorem kd_Ps_deepen_40 : decode kc_Ps_deepen 40 = .ok (.iconst 1, 1) := by decide +kernel
theorem kd_Ps_deepen_41 : decode kc_Ps_deepen 41 = .ok (.iadd, 1) := by decide +kernel
theorem kd_Ps_deepen_42 : decode kc_Ps_deepen 42 = .ok (.putfield 41, 3) := by decide +kernel
theorem kd_Ps_deepen_45 : decode kc_Ps_deepen 45 = .ok (.return_, 1) := by decide +kernel
theorem kd_Ps_isCell_0 : decode kc_Ps_isCell 0 = .ok (.aload_n 0, 1) := by decide +kernel
theorem kd_Ps_isCell_1 : decode kc_Ps_isCell 1 = .ok (.getfield 32, 3) := by decide +kernel
theorem kd_Ps_isCell_4 : decode kc_Ps_isCell 4 = .ok (.bipush 8, 2) := by decide +kernel
theorem kd_Ps_isCell_6 : decode kc_Ps_isCell 6 = .ok (.if_icmp .eq 57, 3) := by decide +kernel
theorem kd_Ps_isCell_9 : decode kc_Ps_isCell 9 = .ok (.aload_n 0, 1) := by decide +kernel
theorem kd_Ps_isCell_10 : decode kc_Ps_isCell 10 = .ok (.getfield 32, 3) := by decide +kernel
theorem kd_Ps_isCell_13 : decode kc_Ps_isCell 13 = .ok (.bipush 47, 2) := by decide +kernel
theorem kd_Ps_isCell_15 : decode kc_Ps_isCell 15 = .ok (.if_icmp .eq 48, 3) := by decide +kernel
theorem kd_Ps_isCell_18 : decode kc_Ps_isCell 18 = .ok (.aload_n 0, 1) := by decide +kernel
theorem kd_Ps_isCell_19 : decode kc_Ps_isCell 19 = .ok (.getfield 32, 3) := by decide +kernel
theorem kd_Ps_isCell_22 : decode kc_Ps_isCell 22 = .ok (.bipush 62, 2) := by decide +kernel
theorem kd_Ps_isCell_24 : decode kc_Ps_isCell 24 = .ok (.if_icmp .eq 39, 3) := by decide +kernel
theorem kd_Ps_isCell_27 : decode kc_Ps_isCell 27 = .ok (.aload_n 0, 1) := by decide +kernel
theorem kd_Ps_isCell_28 : decode kc_Ps_isCell 28 = .ok (.getfield 32, 3) := by decide +kernel
theorem kd_Ps_isCell_31 : decode kc_Ps_isCell 31 = .ok (.bipush 60, 2) := by decide +kernel
theorem kd_Ps_isCell_33 : decode kc_Ps_isCell 33 = .ok (.if_icmp .eq 30, 3) := by decide +kernel
theorem kd_Ps_isCell_36 : decode kc_Ps_isCell 36 = .ok (.aload_n 0, 1) := by decide +kernel
theorem kd_Ps_isCell_37 : decode kc_Ps_isCell 37 = .ok (.getfield 32, 3) := by decide +kernel
theorem kd_Ps_isCell_40 : decode kc_Ps_isCell 40 = .ok (.bipush 45, 2) := by decide +kernel
theorem kd_Ps_isCell_42 : decode kc_Ps_isCell 42 = .ok (.if_icmp .eq 21, 3) := by decide +kernel
theorem kd_Ps_isCell_45 : decode kc_Ps_isCell 45 = .ok (.aload_n 0, 1) := by decide +kernel
theorem kd_Ps_isCell_46 : decode kc_Ps_isCell 46 = .ok (.getfield 32, 3) := by decide +kernel
theorem kd_Ps_isCell_49 : decode kc_Ps_isCell 49 = .ok (.bipush 42, 2) := by decide +kernel
theorem kd_Ps_isCell_51 : decode kc_Ps_isCell 51 = .ok (.if_icmp .eq 12, 3) := by decide +kernel
theorem kd_Ps_isCell_54 : decode kc_Ps_isCell 54 = .ok (.aload_n 0, 1) := by decide +kernel
theorem kd_Ps_isCell_55 : decode kc_Ps_isCell 55 = .ok (.getfield 32, 3) := by decide +kernel
theorem kd_Ps_isCell_58 : decode kc_Ps_isCell 58 = .ok (.bipush 40, 2) := by decide +kernel
theorem kd_Ps_isCell_60 : decode kc_Ps_isCell 60 = .ok (.if_icmp .ne 7, 3) := by decide +kernel
theorem kd_Ps_isCell_63 : decode kc_Ps_isCell 63 = .ok (.iconst 1, 1) := by decide +kernel
theorem kd_Ps_isCell_64 : decode kc_Ps_isCell 64 = .ok (.goto 4, 3) := by decide +kernel
theorem kd_Ps_isCell_67 : decode kc_Ps_isCell 67 = .ok (.iconst 0, 1) := by decide +kernel
theorem kd_Ps_isCell_68 : decode kc_Ps_isCell 68 = .ok (.ireturn, 1) := by decide +kernel
theorem kd_Ps_isStatement_0 : decode kc_Ps_isStatement 0 = .ok (.aload_n 0, 1) := by decide +kernel
theorem kd_Ps_isStatement_1 : decode kc_Ps_isStatement 1 = .ok (.getfield 32, 3) := by decide +kernel
theorem kd_Ps_isStatement_4 : decode kc_Ps_isStatement 4 = .ok (.bipush 59, 2) := by decide +kernel
theorem kd_Ps_isStatement_6 : decode kc_Ps_isStatement 6 = .ok (.if_icmp .eq 62, 3) := by decide +kernel
theorem kd_Ps_isStatement_9 : decode kc_Ps_isStatement 9 = .ok (.aload_n 0, 1) := by decide +kernel
theorem kd_Ps_isStatement_10 : decode kc_Ps_isStatement 10 = .ok (.getfield 32, 3) := by decide +kernel
theorem kd_Ps_isStatement_13 : decode kc_Ps_isStatement 13 = .ok (.bipush 8, 2) := by decide +kernel
theorem kd_Ps_isStatement_15 : decode kc_Ps_isStatement 15 = .ok (.if_icmp .eq 53, 3) := by decide +kernel
theorem kd_Ps_isStatement_18 : decode kc_Ps_isStatement 18 = .ok (.aload_n 0, 1) := by decide +kernel
theorem kd_Ps_isStatement_19 : decode kc_Ps_isStatement 19 = .ok (.getfield 32, 3) := by decide +kernel
theorem kd_Ps_isStatement_22 : decode kc_Ps_isStatement 22 = .ok (.sipush 144, 3) := by decide +kernel
theorem kd_Ps_isStatement_25 : decode kc_Ps_isStatement 25 = .ok (.if_icmp .eq 43, 3) := by decide +kernel
theorem kd_Ps_isStatement_28 : decode kc_Ps_isStatement 28 = .ok (.aload_n 0, 1) := by decide +kernel
theorem kd_Ps_isStatement_29 : decode kc_Ps_isStatement 29 = .ok (.getfield 32, 3) := by decide +kernel
theorem kd_Ps_isStatement_32 : decode kc_Ps_isStatement 32 = .ok (.sipush 149, 3) := by decide +kernel
theorem kd_Ps_isStatement_35 : decode kc_Ps_isStatement 35 = .ok (.if_icmp .eq 33, 3) := by decide +kernel
theorem kd_Ps_isStatement_38 : decode kc_Ps_isStatement 38 = .ok (.aload_n 0, 1) := by decide +kernel
theorem kd_Ps_isStatement_39 : decode kc_Ps_isStatement 39 = .ok (.getfield 32, 3) := by decide +kernel
theorem kd_Ps_isStatement_42 : decode kc_Ps_isStatement 42 = .ok (.sipush 151, 3) := by decide +kernel
theorem kd_Ps_isStatement_45 : decode kc_Ps_isStatement 45 = .ok (.if_icmp .eq 23, 3) := by decide +kernel
theorem kd_Ps_isStatement_48 : decode kc_Ps_isStatement 48 = .ok (.aload_n 0, 1) := by decide +kernel
theorem kd_Ps_isStatement_49 : decode kc_Ps_isStatement 49 = .ok (.getfield 32, 3) := by decide +kernel
theorem kd_Ps_isStatement_52 : decode kc_Ps_isStatement 52 = .ok (.sipush 156, 3) := by decide +kernel
theorem kd_Ps_isStatement_55 : decode kc_Ps_isStatement 55 = .ok (.if_icmp .eq 13, 3) := by decide +kernel
theorem kd_Ps_isStatement_58 : decode kc_Ps_isStatement 58 = .ok (.aload_n 0, 1) := by decide +kernel
theorem kd_Ps_isStatement_59 : decode kc_Ps_isStatement 59 = .ok (.getfield 32, 3) := by decide +kernel
theorem kd_Ps_isStatement_62 : decode kc_Ps_isStatement 62 = .ok (.sipush 157, 3) := by decide +kernel
theorem kd_Ps_isStatement_65 : decode kc_Ps_isStatement 65 = .ok (.if_icmp .ne 7, 3) := by decide +kernel
theorem kd_Ps_isStatement_68 : decode kc_Ps_isStatement 68 = .ok (.iconst 1, 1) := by decide +kernel
theorem kd_Ps_isStatement_69 : decode kc_Ps_isStatement 69 = .ok (.goto 4, 3) := by decide +kernel
theorem kd_Ps_isStatement_72 : decode kc_Ps_isStatement 72 = .ok (.iconst 0, 1) := by decide +kernel
theorem kd_Ps_isStatement_73 : decode kc_Ps_isStatement 73 = .ok (.ireturn, 1) := by decide +kernel
theorem kd_Ps_ladder_0 : decode kc_Ps_ladder 0 = .ok (.aload_n 0, 1) := by decide +kernel
theorem kd_Ps_ladder_1 : decode kc_Ps_ladder 1 = .ok (.getfield 15, 3) := by decide +kernel
theorem kd_Ps_ladder_4 : decode kc_Ps_ladder 4 = .ok (.bipush 22, 2) := by decide +kernel
theorem kd_Ps_ladder_6 : decode kc_Ps_ladder 6 = .ok (.aload_n 0, 1) := by decide +kernel
theorem kd_Ps_ladder_7 : decode kc_Ps_ladder 7 = .ok (.getfield 38, 3) := by decide +kernel
theorem kd_Ps_ladder_10 : decode kc_Ps_ladder 10 = .ok (.iconst 0, 1) := by decide +kernel
theorem kd_Ps_ladder_11 : decode kc_Ps_ladder 11 = .ok (.invokevirtual 49, 3) := by decide +kernel
theorem kd_Ps_ladder_14 : decode kc_Ps_ladder 14 = .ok (.istore_n 1, 1) := by decide +kernel
theorem kd_Ps_ladder_15 : decode kc_Ps_ladder 15 = .ok (.aload_n 0, 1) := by decide +kernel
theorem kd_Ps_ladder_16 : decode kc_Ps_ladder 16 = .ok (.sipush 165, 3) := by decide +kernel
theorem kd_Ps_ladder_19 : decode kc_Ps_ladder 19 = .ok (.invokevirtual 68, 3) := by decide +kernel
theorem kd_Ps_ladder_22 : decode kc_Ps_ladder 22 = .ok (.iconst (-1), 1) := by decide +kernel
theorem kd_Ps_ladder_23 : decode kc_Ps_ladder 23 = .ok (.istore_n 2, 1) := by decide +kernel
theorem kd_Ps_ladder_24 : decode kc_Ps_ladder 24 = .ok (.iconst 0, 1) := by decide +kernel
theorem kd_Ps_ladder_25 : decode kc_Ps_ladder 25 = .ok (.istore_n 3, 1) := by decide +kernel
theorem kd_Ps_ladder_26 : decode kc_Ps_ladder 26 = .ok (.iload_n 3, 1) := by decide +kernel
theorem kd_Ps_ladder_27 : decode kc_Ps_ladder 27 = .ok (.sipush 16384, 3) := by decide +kernel
theorem kd_Ps_ladder_30 : decode kc_Ps_ladder 30 = .ok (.if_icmp .ge 118, 3) := by decide +kernel
theorem kd_Ps_ladder_33 : decode kc_Ps_ladder 33 = .ok (.aload_n 0, 1) := by decide +kernel
theorem kd_Ps_ladder_34 : decode kc_Ps_ladder 34 = .ok (.getfield 32, 3) := by decide +kernel
theorem kd_Ps_ladder_37 : decode kc_Ps_ladder 37 = .ok (.sipush 167, 3) := by decide +kernel
theorem kd_Ps_ladder_40 : decode kc_Ps_ladder 40 = .ok (.if_icmp .ne 108, 3) := by decide +kernel
theorem kd_Ps_ladder_43 : decode kc_Ps_ladder 43 = .ok (.aload_n 0, 1) := by decide +kernel
theorem kd_Ps_ladder_44 : decode kc_Ps_ladder 44 = .ok (.getfield 15, 3) := by decide +kernel
theorem kd_Ps_ladder_47 : decode kc_Ps_ladder 47 = .ok (.bipush 23, 2) := by decide +kernel
theorem kd_Ps_ladder_49 : decode kc_Ps_ladder 49 = .ok (.aload_n 0, 1) := by decide +kernel
theorem kd_Ps_ladder_50 : decode kc_Ps_ladder 50 = .ok (.getfield 38, 3) := by decide +kernel
theorem kd_Ps_ladder_53 : decode kc_Ps_ladder 53 = .ok (.iconst 0, 1) := by decide +kernel
theorem kd_Ps_ladder_54 : decode kc_Ps_ladder 54 = .ok (.invokevirtual 49, 3) := by decide +kernel
theorem kd_Ps_ladder_57 : decode kc_Ps_ladder 57 = .ok (.istore 4, 2) := by decide +kernel
theorem kd_Ps_ladder_59 : decode kc_Ps_ladder 59 = .ok (.aload_n 0, 1) := by decide +kernel
theorem kd_Ps_ladder_60 : decode kc_Ps_ladder 60 = .ok (.sipush 167, 3) := by decide +kernel
theorem kd_Ps_ladder_63 : decode kc_Ps_ladder 63 = .ok (.invokevirtual 68, 3) := by decide +kernel
theorem kd_Ps_ladder_66 : decode kc_Ps_ladder 66 = .ok (.aload_n 0, 1) := by decide +kernel
theorem kd_Ps_ladder_67 : decode kc_Ps_ladder 67 = .ok (.getfield 15, 3) := by decide +kernel
theorem kd_Ps_ladder_70 : decode kc_Ps_ladder 70 = .ok (.iload 4, 2) := by decide +kernel
theorem kd_Ps_ladder_72 : decode kc_Ps_ladder 72 = .ok (.iconst (-1), 1) := by decide +kernel
theorem kd_Ps_ladder_73 : decode kc_Ps_ladder 73 = .ok (.aload_n 0, 1) := by decide +kernel
theorem kd_Ps_ladder_74 : decode kc_Ps_ladder 74 = .ok (.invokevirtual 150, 3) := by decide +kernel
theorem kd_Ps_ladder_77 : decode kc_Ps_ladder 77 = .ok (.invokevirtual 57, 3) := by decide +kernel
theorem kd_Ps_ladder_80 : decode kc_Ps_ladder 80 = .ok (.istore 5, 2) := by decide +kernel
theorem kd_Ps_ladder_82 : decode kc_Ps_ladder 82 = .ok (.iconst 0, 1) := by decide +kernel
theorem kd_Ps_ladder_83 : decode kc_Ps_ladder 83 = .ok (.istore 6, 2) := by decide +kernel
theorem kd_Ps_ladder_85 : decode kc_Ps_ladder 85 = .ok (.iload 6, 2) := by decide +kernel
theorem kd_Ps_ladder_87 : decode kc_Ps_ladder 87 = .ok (.sipush 16384, 3) := by decide +kernel
theorem kd_Ps_ladder_90 : decode kc_Ps_ladder 90 = .ok (.if_icmp .ge 33, 3) := by decide +kernel
theorem kd_Ps_ladder_93 : decode kc_Ps_ladder 93 = .ok (.aload_n 0, 1) := by decide +kernel
theorem kd_Ps_ladder_94 : decode kc_Ps_ladder 94 = .ok (.invokevirtual 153, 3) := by decide +kernel
theorem kd_Ps_ladder_97 : decode kc_Ps_ladder 97 = .ok (.ifCond .eq 26, 3) := by decide +kernel
theorem kd_Ps_ladder_100 : decode kc_Ps_ladder 100 = .ok (.aload_n 0, 1) := by decide +kernel
theorem kd_Ps_ladder_101 : decode kc_Ps_ladder 101 = .ok (.getfield 15, 3) := by decide +kernel
theorem kd_Ps_ladder_104 : decode kc_Ps_ladder 104 = .ok (.iload 4, 2) := by decide +kernel
theorem kd_Ps_ladder_106 : decode kc_Ps_ladder 106 = .ok (.iload 5, 2) := by decide +kernel
theorem kd_Ps_ladder_108 : decode kc_Ps_ladder 108 = .ok (.aload_n 0, 1) := by decide +kernel
theorem kd_Ps_ladder_109 : decode kc_Ps_ladder 109 = .ok (.invokevirtual 150, 3) := by decide +kernel
theorem kd_Ps_ladder_112 : decode kc_Ps_ladder 112 = .ok (.invokevirtual 57, 3) := by decide +kernel
theorem kd_Ps_ladder_115 : decode kc_Ps_ladder 115 = .ok (.istore 5, 2) := by decide +kernel
theorem kd_Ps_ladder_117 : decode kc_Ps_ladder 117 = .ok (.iinc 6 1, 3) := by decide +kernel
theorem kd_Ps_ladder_120 : decode kc_Ps_ladder 120 = .ok (.goto (-35), 3) := by decide +kernel
theorem kd_Ps_ladder_123 : decode kc_Ps_ladder 123 = .ok (.aload_n 0, 1) := by decide +kernel
theorem kd_Ps_ladder_124 : decode kc_Ps_ladder 124 = .ok (.sipush 168, 3) := by decide +kernel
theorem kd_Ps_ladder_127 : decode kc_Ps_ladder 127 = .ok (.invokevirtual 68, 3) := by decide +kernel
theorem kd_Ps_ladder_130 : decode kc_Ps_ladder 130 = .ok (.aload_n 0, 1) := by decide +kernel
theorem kd_Ps_ladder_131 : decode kc_Ps_ladder 131 = .ok (.getfield 15, 3) := by decide +kernel
theorem kd_Ps_ladder_134 : decode kc_Ps_ladder 134 = .ok (.iload_n 1, 1) := by decide +kernel
theorem kd_Ps_ladder_135 : decode kc_Ps_ladder 135 = .ok (.iload_n 2, 1) := by decide +kernel
theorem kd_Ps_ladder_136 : decode kc_Ps_ladder 136 = .ok (.iload 4, 2) := by decide +kernel
theorem kd_Ps_ladder_138 : decode kc_Ps_ladder 138 = .ok (.invokevirtual 57, 3) := by decide +kernel
theorem kd_Ps_ladder_141 : decode kc_Ps_ladder 141 = .ok (.istore_n 2, 1) := by decide +kernel
theorem kd_Ps_ladder_142 : decode kc_Ps_ladder 142 = .ok (.iinc 3 1, 3) := by decide +kernel
theorem kd_Ps_ladder_145 : decode kc_Ps_ladder 145 = .ok (.goto (-119), 3) := by decide +kernel
theorem kd_Ps_ladder_148 : decode kc_Ps_ladder 148 = .ok (.aload_n 0, 1) := by decide +kernel
theorem kd_Ps_ladder_149 : decode kc_Ps_ladder 149 = .ok (.sipush 166, 3) := by decide +kernel
theorem kd_Ps_ladder_152 : decode kc_Ps_ladder 152 = .ok (.invokevirtual 68, 3) := by decide +kernel
theorem kd_Ps_ladder_155 : decode kc_Ps_ladder 155 = .ok (.iload_n 1, 1) := by decide +kernel
theorem kd_Ps_ladder_156 : decode kc_Ps_ladder 156 = .ok (.ireturn, 1) := by decide +kernel
theorem kd_Ps_ladderCell_0 : decode kc_Ps_ladderCell 0 = .ok (.aload_n 0, 1) := by decide +kernel
theorem kd_Ps_ladderCell_1 : decode kc_Ps_ladderCell 1 = .ok (.getfield 32, 3) := by decide +kernel
theorem kd_Ps_ladderCell_4 : decode kc_Ps_ladderCell 4 = .ok (.bipush 40, 2) := by decide +kernel
theorem kd_Ps_ladderCell_6 : decode kc_Ps_ladderCell 6 = .ok (.if_icmp .ne 8, 3) := by decide +kernel
theorem kd_Ps_ladderCell_9 : decode kc_Ps_ladderCell 9 = .ok (.aload_n 0, 1) := by decide +kernel
theorem kd_Ps_ladderCell_10 : decode kc_Ps_ladderCell 10 = .ok (.invokevirtual 159, 3) := by decide +kernel
theorem kd_Ps_ladderCell_13 : decode kc_Ps_ladderCell 13 = .ok (.ireturn, 1) := by decide +kernel
theorem kd_Ps_ladderCell_14 : decode kc_Ps_ladderCell 14 = .ok (.aload_n 0, 1) := by decide +kernel
theorem kd_Ps_ladderCell_15 : decode kc_Ps_ladderCell 15 = .ok (.getfield 32, 3) := by decide +kernel
theorem kd_Ps_ladderCell_18 : decode kc_Ps_ladderCell 18 = .ok (.bipush 45, 2) := by decide +kernel
theorem kd_Ps_ladderCell_20 : decode kc_Ps_ladderCell 20 = .ok (.if_icmp .eq 12, 3) := by decide +kernel
theorem kd_Ps_ladderCell_23 : decode kc_Ps_ladderCell 23 = .ok (.aload_n 0, 1) := by decide +kernel
theorem kd_Ps_ladderCell_24 : decode kc_Ps_ladderCell 24 = .ok (.getfield 32, 3) := by decide +kernel
theorem kd_Ps_ladderCell_27 : decode kc_Ps_ladderCell 27 = .ok (.bipush 42, 2) := by decide +kernel
theorem kd_Ps_ladderCell_29 : decode kc_Ps_ladderCell 29 = .ok (.if_icmp .ne 42, 3) := by decide +kernel
theorem kd_Ps_ladderCell_32 : decode kc_Ps_ladderCell 32 = .ok (.aload_n 0, 1) := by decide +kernel
theorem kd_Ps_ladderCell_33 : decode kc_Ps_ladderCell 33 = .ok (.getfield 15, 3) := by decide +kernel
theorem kd_Ps_ladderCell_36 : decode kc_Ps_ladderCell 36 = .ok (.aload_n 0, 1) := by decide +kernel
theorem kd_Ps_ladderCell_37 : decode kc_Ps_ladderCell 37 = .ok (.getfield 32, 3) := by decide +kernel
theorem kd_Ps_ladderCell_40 : decode kc_Ps_ladderCell 40 = .ok (.bipush 45, 2) := by decide +kernel
theorem kd_Ps_ladderCell_42 : decode kc_Ps_ladderCell 42 = .ok (.if_icmp .ne 8, 3) := by decide +kernel
theorem kd_Ps_ladderCell_45 : decode kc_Ps_ladderCell 45 = .ok (.bipush 26, 2) := by decide +kernel
theorem kd_Ps_ladderCell_47 : decode kc_Ps_ladderCell 47 = .ok (.goto 5, 3) := by decide +kernel
theorem kd_Ps_ladderCell_50 : decode kc_Ps_ladderCell 50 = .ok (.bipush 27, 2) := by decide +kernel
theorem kd_Ps_ladderCell_52 : decode kc_Ps_ladderCell 52 = .ok (.aload_n 0, 1) := by decide +kernel
theorem kd_Ps_ladderCell_53 : decode kc_Ps_ladderCell 53 = .ok (.getfield 38, 3) := by decide +kernel
theorem kd_Ps_ladderCell_56 : decode kc_Ps_ladderCell 56 = .ok (.iconst 0, 1) := by decide +kernel
theorem kd_Ps_ladderCell_57 : decode kc_Ps_ladderCell 57 = .ok (.invokevirtual 49, 3) := by decide +kernel
theorem kd_Ps_ladderCell_60 : decode kc_Ps_ladderCell 60 = .ok (.istore_n 1, 1) := by decide +kernel
theorem kd_Ps_ladderCell_61 : decode kc_Ps_ladderCell 61 = .ok (.aload_n 0, 1) := by decide +kernel
theorem kd_Ps_ladderCell_62 : decode kc_Ps_ladderCell 62 = .ok (.aload_n 0, 1) := by decide +kernel
theorem kd_Ps_ladderCell_63 : decode kc_Ps_ladderCell 63 = .ok (.getfield 32, 3) := by decide +kernel
theorem kd_Ps_ladderCell_66 : decode kc_Ps_ladderCell 66 = .ok (.invokevirtual 68, 3) := by decide +kernel
theorem kd_Ps_ladderCell_69 : decode kc_Ps_ladderCell 69 = .ok (.iload_n 1, 1) := by decide +kernel
theorem kd_Ps_ladderCell_70 : decode kc_Ps_ladderCell 70 = .ok (.ireturn, 1) := by decide +kernel
theorem kd_Ps_ladderCell_71 : decode kc_Ps_ladderCell 71 = .ok (.aload_n 0, 1) := by decide +kernel
theorem kd_Ps_ladderCell_72 : decode kc_Ps_ladderCell 72 = .ok (.getfield 15, 3) := by decide +kernel
theorem kd_Ps_ladderCell_75 : decode kc_Ps_ladderCell 75 = .ok (.bipush 25, 2) := by decide +kernel
theorem kd_Ps_ladderCell_77 : decode kc_Ps_ladderCell 77 = .ok (.aload_n 0, 1) := by decide +kernel
theorem kd_Ps_ladderCell_78 : decode kc_Ps_ladderCell 78 = .ok (.getfield 38, 3) := by decide +kernel
theorem kd_Ps_ladderCell_81 : decode kc_Ps_ladderCell 81 = .ok (.aload_n 0, 1) := by decide +kernel
theorem kd_Ps_ladderCell_82 : decode kc_Ps_ladderCell 82 = .ok (.getfield 32, 3) := by decide +kernel
theorem kd_Ps_ladderCell_85 : decode kc_Ps_ladderCell 85 = .ok (.bipush 47, 2) := by decide +kernel
theorem kd_Ps_ladderCell_87 : decode kc_Ps_ladderCell 87 = .ok (.if_icmp .ne 7, 3) := by decide +kernel
theorem kd_Ps_ladderCell_90 : decode kc_Ps_ladderCell 90 = .ok (.iconst 1, 1) := by decide +kernel
theorem kd_Ps_ladderCell_91 : decode kc_Ps_ladderCell 91 = .ok (.goto 30, 3) := by decide +kernel
theorem kd_Ps_ladderCell_94 : decode kc_Ps_ladderCell 94 = .ok (.aload_n 0, 1) := by decide +kernel
theorem kd_Ps_ladderCell_95 : decode kc_Ps_ladderCell 95 = .ok (.getfield 32, 3) := by decide +kernel
theorem kd_Ps_ladderCell_98 : decode kc_Ps_ladderCell 98 = .ok (.bipush 62, 2) := by decide +kernel
theorem kd_Ps_ladderCell_100 : decode kc_Ps_ladderCell 100 = .ok (.if_icmp .ne 7, 3) := by decide +kernel
theorem kd_Ps_ladderCell_103 : decode kc_Ps_ladderCell 103 = .ok (.iconst 2, 1) := by decide +kernel
theorem kd_Ps_ladderCell_104 : decode kc_Ps_ladderCell 104 = .ok (.goto 17, 3) := by decide +kernel
theorem kd_Ps_ladderCell_107 : decode kc_Ps_ladderCell 107 = .ok (.aload_n 0, 1) := by decide +kernel
theorem kd_Ps_ladderCell_108 : decode kc_Ps_ladderCell 108 = .ok (.getfield 32, 3) := by decide +kernel
theorem kd_Ps_ladderCell_111 : decode kc_Ps_ladderCell 111 = .ok (.bipush 60, 2) := by decide +kernel
theorem kd_Ps_ladderCell_113 : decode kc_Ps_ladderCell 113 = .ok (.if_icmp .ne 7, 3) := by decide +kernel
theorem kd_Ps_ladderCell_116 : decode kc_Ps_ladderCell 116 = .ok (.iconst 3, 1) := by decide +kernel
theorem kd_Ps_ladderCell_117 : decode kc_Ps_ladderCell 117 = .ok (.goto 4, 3) := by decide +kernel
theorem kd_Ps_ladderCell_120 : decode kc_Ps_ladderCell 120 = .ok (.iconst 0, 1) := by decide +kernel
theorem kd_Ps_ladderCell_121 : decode kc_Ps_ladderCell 121 = .ok (.invokevirtual 49, 3) := by decide +kernel
theorem kd_Ps_ladderCell_124 : decode kc_Ps_ladderCell 124 = .ok (.istore_n 1, 1) := by decide +kernel
theorem kd_Ps_ladderCell_125 : decode kc_Ps_ladderCell 125 = .ok (.aload_n 0, 1) := by decide +kernel
theorem kd_Ps_ladderCell_126 : decode kc_Ps_ladderCell 126 = .ok (.getfield 32, 3) := by decide +kernel
theorem kd_Ps_ladderCell_129 : decode kc_Ps_ladderCell 129 = .ok (.bipush 8, 2) := by decide +kernel
theorem kd_Ps_ladderCell_131 : decode kc_Ps_ladderCell 131 = .ok (.if_icmp .eq 22, 3) := by decide +kernel
theorem kd_Ps_ladderCell_134 : decode kc_Ps_ladderCell 134 = .ok (.aload_n 0, 1) := by decide +kernel
theorem kd_Ps_ladderCell_135 : decode kc_Ps_ladderCell 135 = .ok (.aload_n 0, 1) := by decide +kernel
theorem kd_Ps_ladderCell_136 : decode kc_Ps_ladderCell 136 = .ok (.invokevirtual 153, 3) := by decide +kernel
theorem kd_Ps_ladderCell_139 : decode kc_Ps_ladderCell 139 = .ok (.ifCond .eq 10, 3) := by decide +kernel
theorem kd_Ps_ladderCell_142 : decode kc_Ps_ladderCell 142 = .ok (.aload_n 0, 1) := by decide +kernel
theorem kd_Ps_ladderCell_143 : decode kc_Ps_ladderCell 143 = .ok (.getfield 32, 3) := by decide +kernel
theorem kd_Ps_ladderCell_146 : decode kc_Ps_ladderCell 146 = .ok (.goto 4, 3) := by decide +kernel
theorem kd_Ps_ladderCell_149 : decode kc_Ps_ladderCell 149 = .ok (.iconst (-1), 1) := by decide +kernel
theorem kd_Ps_ladderCell_150 : decode kc_Ps_ladderCell 150 = .ok (.invokevirtual 68, 3) := by decide +kernel
theorem kd_Ps_ladderCell_153 : decode kc_Ps_ladderCell 153 = .ok (.aload_n 0, 1) := by decide +kernel
theorem kd_Ps_ladderCell_154 : decode kc_Ps_ladderCell 154 = .ok (.getfield 15, 3) := by decide +kernel
theorem kd_Ps_ladderCell_157 : decode kc_Ps_ladderCell 157 = .ok (.bipush 6, 2) := by decide +kernel
theorem kd_Ps_ladderCell_159 : decode kc_Ps_ladderCell 159 = .ok (.aload_n 0, 1) := by decide +kernel
theorem kd_Ps_ladderCell_160 : decode kc_Ps_ladderCell 160 = .ok (.getfield 38, 3) := by decide +kernel
theorem kd_Ps_ladderCell_163 : decode kc_Ps_ladderCell 163 = .ok (.aload_n 0, 1) := by decide +kernel
theorem kd_Ps_ladderCell_164 : decode kc_Ps_ladderCell 164 = .ok (.getfield 9, 3) := by decide +kernel
theorem kd_Ps_ladderCell_167 : decode kc_Ps_ladderCell 167 = .ok (.getfield 61, 3) := by decide +kernel
theorem kd_Ps_ladderCell_170 : decode kc_Ps_ladderCell 170 = .ok (.aload_n 0, 1) := by decide +kernel
theorem kd_Ps_ladderCell_171 : decode kc_Ps_ladderCell 171 = .ok (.getfield 23, 3) := by decide +kernel
theorem kd_Ps_ladderCell_174 : decode kc_Ps_ladderCell 174 = .ok (.iaload, 1) := by decide +kernel
theorem kd_Ps_ladderCell_175 : decode kc_Ps_ladderCell 175 = .ok (.invokevirtual 49, 3) := by decide +kernel
theorem kd_Ps_ladderCell_178 : decode kc_Ps_ladderCell 178 = .ok (.istore_n 2, 1) := by decide +kernel
theorem kd_Ps_ladderCell_179 : decode kc_Ps_ladderCell 179 = .ok (.aload_n 0, 1) := by decide +kernel
theorem kd_Ps_ladderCell_180 : decode kc_Ps_ladderCell 180 = .ok (.bipush 8, 2) := by decide +kernel
theorem kd_Ps_ladderCell_182 : decode kc_Ps_ladderCell 182 = .ok (.invokevirtual 68, 3) := by decide +kernel
theorem kd_Ps_ladderCell_185 : decode kc_Ps_ladderCell 185 = .ok (.aload_n 0, 1) := by decide +kernel
theorem kd_Ps_ladderCell_186 : decode kc_Ps_ladderCell 186 = .ok (.getfield 15, 3) := by decide +kernel
theorem kd_Ps_ladderCell_189 : decode kc_Ps_ladderCell 189 = .ok (.iload_n 1, 1) := by decide +kernel
theorem kd_Ps_ladderCell_190 : decode kc_Ps_ladderCell 190 = .ok (.iconst (-1), 1) := by decide +kernel
theorem kd_Ps_ladderCell_191 : decode kc_Ps_ladderCell 191 = .ok (.iload_n 2, 1) := by decide +kernel
theorem kd_Ps_ladderCell_192 : decode kc_Ps_ladderCell 192 = .ok (.invokevirtual 57, 3) := by decide +kernel
theorem kd_Ps_ladderCell_195 : decode kc_Ps_ladderCell 195 = .ok (.pop, 1) := by decide +kernel
theorem kd_Ps_ladderCell_196 : decode kc_Ps_ladderCell 196 = .ok (.aload_n 0, 1) := by decide +kernel
theorem kd_Ps_ladderCell_197 : decode kc_Ps_ladderCell 197 = .ok (.getfield 32, 3) := by decide +kernel
theorem kd_Ps_ladderCell_200 : decode kc_Ps_ladderCell 200 = .ok (.bipush 46, 2) := by decide +kernel
theorem kd_Ps_ladderCell_202 : decode kc_Ps_ladderCell 202 = .ok (.if_icmp .ne 61, 3) := by decide +kernel
theorem kd_Ps_ladderCell_205 : decode kc_Ps_ladderCell 205 = .ok (.aload_n 0, 1) := by decide +kernel
theorem kd_Ps_ladderCell_206 : decode kc_Ps_ladderCell 206 = .ok (.getfield 15, 3) := by decide +kernel
theorem kd_Ps_ladderCell_209 : decode kc_Ps_ladderCell 209 = .ok (.getfield 132, 3) := by decide +kernel
theorem kd_Ps_ladderCell_212 : decode kc_Ps_ladderCell 212 = .ok (.iload_n 2, 1) := by decide +kernel
theorem kd_Ps_ladderCell_213 : decode kc_Ps_ladderCell 213 = .ok (.bipush 33, 2) := by decide +kernel
theorem kd_Ps_ladderCell_215 : decode kc_Ps_ladderCell 215 = .ok (.bastore, 1) := by decide +kernel
theorem kd_Ps_ladderCell_216 : decode kc_Ps_ladderCell 216 = .ok (.aload_n 0, 1) := by decide +kernel
theorem kd_Ps_ladderCell_217 : decode kc_Ps_ladderCell 217 = .ok (.bipush 46, 2) := by decide +kernel
theorem kd_Ps_ladderCell_219 : decode kc_Ps_ladderCell 219 = .ok (.invokevirtual 68, 3) := by decide +kernel
theorem kd_Ps_ladderCell_222 : decode kc_Ps_ladderCell 222 = .ok (.aload_n 0, 1) := by decide +kernel
theorem kd_Ps_ladderCell_223 : decode kc_Ps_ladderCell 223 = .ok (.getfield 15, 3) := by decide +kernel
theorem kd_Ps_ladderCell_226 : decode kc_Ps_ladderCell 226 = .ok (.iload_n 2, 1) := by decide +kernel
theorem kd_Ps_ladderCell_227 : decode kc_Ps_ladderCell 227 = .ok (.iconst (-1), 1) := by decide +kernel
theorem kd_Ps_ladderCell_228 : decode kc_Ps_ladderCell 228 = .ok (.aload_n 0, 1) := by decide +kernel
theorem kd_Ps_ladderCell_229 : decode kc_Ps_ladderCell 229 = .ok (.getfield 15, 3) := by decide +kernel
theorem kd_Ps_ladderCell_232 : decode kc_Ps_ladderCell 232 = .ok (.bipush 38, 2) := by decide +kernel
theorem kd_Ps_ladderCell_234 : decode kc_Ps_ladderCell 234 = .ok (.aload_n 0, 1) := by decide +kernel
theorem kd_Ps_ladderCell_235 : decode kc_Ps_ladderCell 235 = .ok (.getfield 38, 3) := by decide +kernel
theorem kd_Ps_ladderCell_238 : decode kc_Ps_ladderCell 238 = .ok (.aload_n 0, 1) := by decide +kernel
theorem kd_Ps_ladderCell_239 : decode kc_Ps_ladderCell 239 = .ok (.getfield 9, 3) := by decide +kernel
theorem kd_Ps_ladderCell_242 : decode kc_Ps_ladderCell 242 = .ok (.getfield 61, 3) := by decide +kernel
theorem kd_Ps_ladderCell_245 : decode kc_Ps_ladderCell 245 = .ok (.aload_n 0, 1) := by decide +kernel
theorem kd_Ps_ladderCell_246 : decode kc_Ps_ladderCell 246 = .ok (.getfield 23, 3) := by decide +kernel
theorem kd_Ps_ladderCell_249 : decode kc_Ps_ladderCell 249 = .ok (.iaload, 1) := by decide +kernel
theorem kd_Ps_ladderCell_250 : decode kc_Ps_ladderCell 250 = .ok (.invokevirtual 49, 3) := by decide +kernel
theorem kd_Ps_ladderCell_253 : decode kc_Ps_ladderCell 253 = .ok (.invokevirtual 57, 3) := by decide +kernel
theorem kd_Ps_ladderCell_256 : decode kc_Ps_ladderCell 256 = .ok (.pop, 1) := by decide +kernel
theorem kd_Ps_ladderCell_257 : decode kc_Ps_ladderCell 257 = .ok (.aload_n 0, 1) := by decide +kernel
theorem kd_Ps_ladderCell_258 : decode kc_Ps_ladderCell 258 = .ok (.bipush 8, 2) := by decide +kernel
theorem kd_Ps_ladderCell_260 : decode kc_Ps_ladderCell 260 = .ok (.invokevirtual 68, 3) := by decide +kernel
theorem kd_Ps_ladderCell_263 : decode kc_Ps_ladderCell 263 = .ok (.iload_n 1, 1) := by decide +kernel
theorem kd_Ps_ladderCell_264 : decode kc_Ps_ladderCell 264 = .ok (.ireturn, 1) := by decide +kernel
theorem kd_Ps_operator_0 : decode kc_Ps_operator 0 = .ok (.aload_n 0, 1) := by decide +kernel
theorem kd_Ps_operator_1 : decode kc_Ps_operator 1 = .ok (.getfield 32, 3) := by decide +kernel
theorem kd_Ps_operator_4 : decode kc_Ps_operator 4 = .ok (.lookupswitch 168 #[(3, 147), (4, 150), (5, 140), (38, 136), (42, 159), (43, 153), (45, 156), (47, 162), (60, 142), (61, 138), (62, 144), (158, 132), (159, 134), (160, 136), (161, 165)], 132) := by decide +kernel
theorem kd_Ps_operator_136 : decode kc_Ps_operator 136 = .ok (.iconst 0, 1) := by decide +kernel
theorem kd_Ps_operator_137 : decode kc_Ps_operator 137 = .ok (.ireturn, 1) := by decide +kernel
theorem kd_Ps_operator_138 : decode kc_Ps_operator 138 = .ok (.iconst 1, 1) := by decide +kernel
theorem kd_Ps_operator_139 : decode kc_Ps_operator 139 = .ok (.ireturn, 1) := by decide +kernel
theorem kd_Ps_operator_140 : decode kc_Ps_operator 140 = .ok (.iconst 2, 1) := by decide +kernel
theorem kd_Ps_operator_141 : decode kc_Ps_operator 141 = .ok (.ireturn, 1) := by decide +kernel
theorem kd_Ps_operator_142 : decode kc_Ps_operator 142 = .ok (.iconst 3, 1) := by decide +kernel
theorem kd_Ps_operator_143 : decode kc_Ps_operator 143 = .ok (.ireturn, 1) := by decide +kernel
theorem kd_Ps_operator_144 : decode kc_Ps_operator 144 = .ok (.iconst 4, 1) := by decide +kernel
theorem kd_Ps_operator_145 : decode kc_Ps_operator 145 = .ok (.ireturn, 1) := by decide +kernel
theorem kd_Ps_operator_146 : decode kc_Ps_operator 146 = .ok (.iconst 5, 1) := by decide +kernel
theorem kd_Ps_operator_147 : decode kc_Ps_operator 147 = .ok (.ireturn, 1) := by decide +kernel
theorem kd_Ps_operator_148 : decode kc_Ps_operator 148 = .ok (.bipush 6, 2) := by decide +kernel
theorem kd_Ps_operator_150 : decode kc_Ps_operator 150 = .ok (.ireturn, 1) := by decide +kernel
theorem kd_Ps_operator_151 : decode kc_Ps_operator 151 = .ok (.bipush 7, 2) := by decide +kernel
theorem kd_Ps_operator_153 : decode kc_Ps_operator 153 = .ok (.ireturn, 1) := by decide +kernel
theorem kd_Ps_operator_154 : decode kc_Ps_operator 154 = .ok (.bipush 8, 2) := by decide +kernel
theorem kd_Ps_operator_156 : decode kc_Ps_operator 156 = .ok (.ireturn, 1) := by decide +kernel
theorem kd_Ps_operator_157 : decode kc_Ps_operator 157 = .ok (.bipush 9, 2) := by decide +kernel
theorem kd_Ps_operator_159 : decode kc_Ps_operator 159 = .ok (.ireturn, 1) := by decide +kernel
theorem kd_Ps_operator_160 : decode kc_Ps_operator 160 = .ok (.bipush 10, 2) := by decide +kernel
theorem kd_Ps_operator_162 : decode kc_Ps_operator 162 = .ok (.ireturn, 1) := by decide +kernel
theorem kd_Ps_operator_163 : decode kc_Ps_operator 163 = .ok (.bipush 11, 2) := by decide +kernel
theorem kd_Ps_operator_165 : decode kc_Ps_operator 165 = .ok (.ireturn, 1) := by decide +kernel
theorem kd_Ps_operator_166 : decode kc_Ps_operator 166 = .ok (.bipush 12, 2) := by decide +kernel
theorem kd_Ps_operator_168 : decode kc_Ps_operator 168 = .ok (.ireturn, 1) := by decide +kernel
theorem kd_Ps_operator_169 : decode kc_Ps_operator 169 = .ok (.bipush 13, 2) := by decide +kernel
theorem kd_Ps_operator_171 : decode kc_Ps_operator 171 = .ok (.ireturn, 1) := by decide +kernel
theorem kd_Ps_operator_172 : decode kc_Ps_operator 172 = .ok (.iconst (-1), 1) := by decide +kernel
theorem kd_Ps_operator_173 : decode kc_Ps_operator 173 = .ok (.ireturn, 1) := by decide +kernel
theorem kd_Ps_row_0 : decode kc_Ps_row 0 = .ok (.aload_n 0, 1) := by decide +kernel
theorem kd_Ps_row_1 : decode kc_Ps_row 1 = .ok (.getfield 15, 3) := by decide +kernel
theorem kd_Ps_row_4 : decode kc_Ps_row 4 = .ok (.bipush 24, 2) := by decide +kernel
theorem kd_Ps_row_6 : decode kc_Ps_row 6 = .ok (.aload_n 0, 1) := by decide +kernel
theorem kd_Ps_row_7 : decode kc_Ps_row 7 = .ok (.getfield 38, 3) := by decide +kernel
theorem kd_Ps_row_10 : decode kc_Ps_row 10 = .ok (.iconst 0, 1) := by decide +kernel
theorem kd_Ps_row_11 : decode kc_Ps_row 11 = .ok (.invokevirtual 49, 3) := by decide +kernel
theorem kd_Ps_row_14 : decode kc_Ps_row 14 = .ok (.istore_n 1, 1) := by decide +kernel
theorem kd_Ps_row_15 : decode kc_Ps_row 15 = .ok (.aload_n 0, 1) := by decide +kernel
theorem kd_Ps_row_16 : decode kc_Ps_row 16 = .ok (.getfield 15, 3) := by decide +kernel
theorem kd_Ps_row_19 : decode kc_Ps_row 19 = .ok (.iload_n 1, 1) := by decide +kernel
theorem kd_Ps_row_20 : decode kc_Ps_row 20 = .ok (.iconst (-1), 1) := by decide +kernel
theorem kd_Ps_row_21 : decode kc_Ps_row 21 = .ok (.aload_n 0, 1) := by decide +kernel
theorem kd_Ps_row_22 : decode kc_Ps_row 22 = .ok (.invokevirtual 156, 3) := by decide +kernel
theorem kd_Ps_row_25 : decode kc_Ps_row 25 = .ok (.invokevirtual 57, 3) := by decide +kernel
theorem kd_Ps_row_28 : decode kc_Ps_row 28 = .ok (.istore_n 2, 1) := by decide +kernel
theorem kd_Ps_row_29 : decode kc_Ps_row 29 = .ok (.iconst 0, 1) := by decide +kernel
theorem kd_Ps_row_30 : decode kc_Ps_row 30 = .ok (.istore_n 3, 1) := by decide +kernel
theorem kd_Ps_row_31 : decode kc_Ps_row 31 = .ok (.iload_n 3, 1) := by decide +kernel
theorem kd_Ps_row_32 : decode kc_Ps_row 32 = .ok (.sipush 16384, 3) := by decide +kernel
theorem kd_Ps_row_35 : decode kc_Ps_row 35 = .ok (.if_icmp .ge 78, 3) := by decide +kernel
theorem kd_Ps_row_38 : decode kc_Ps_row 38 = .ok (.aload_n 0, 1) := by decide +kernel
theorem kd_Ps_row_39 : decode kc_Ps_row 39 = .ok (.getfield 32, 3) := by decide +kernel
theorem kd_Ps_row_42 : decode kc_Ps_row 42 = .ok (.bipush 124, 2) := by decide +kernel
theorem kd_Ps_row_44 : decode kc_Ps_row 44 = .ok (.if_icmp .eq 10, 3) := by decide +kernel
theorem kd_Ps_row_47 : decode kc_Ps_row 47 = .ok (.aload_n 0, 1) := by decide +kernel
theorem kd_Ps_row_48 : decode kc_Ps_row 48 = .ok (.invokevirtual 153, 3) := by decide +kernel
theorem kd_Ps_row_51 : decode kc_Ps_row 51 = .ok (.ifCond .eq 62, 3) := by decide +kernel
theorem kd_Ps_row_54 : decode kc_Ps_row 54 = .ok (.aload_n 0, 1) := by decide +kernel
theorem kd_Ps_row_55 : decode kc_Ps_row 55 = .ok (.getfield 32, 3) := by decide +kernel
theorem kd_Ps_row_58 : decode kc_Ps_row 58 = .ok (.bipush 124, 2) := by decide +kernel
theorem kd_Ps_row_60 : decode kc_Ps_row 60 = .ok (.if_icmp .ne 33, 3) := by decide +kernel
theorem kd_Ps_row_63 : decode kc_Ps_row 63 = .ok (.aload_n 0, 1) := by decide +kernel
theorem kd_Ps_row_64 : decode kc_Ps_row 64 = .ok (.getfield 15, 3) := by decide +kernel
theorem kd_Ps_row_67 : decode kc_Ps_row 67 = .ok (.iload_n 1, 1) := by decide +kernel
theorem kd_Ps_row_68 : decode kc_Ps_row 68 = .ok (.iload_n 2, 1) := by decide +kernel
theorem kd_Ps_row_69 : decode kc_Ps_row 69 = .ok (.aload_n 0, 1) := by decide +kernel
theorem kd_Ps_row_70 : decode kc_Ps_row 70 = .ok (.getfield 15, 3) := by decide +kernel
theorem kd_Ps_row_73 : decode kc_Ps_row 73 = .ok (.bipush 29, 2) := by decide +kernel
theorem kd_Ps_row_75 : decode kc_Ps_row 75 = .ok (.aload_n 0, 1) := by decide +kernel
theorem kd_Ps_row_76 : decode kc_Ps_row 76 = .ok (.getfield 38, 3) := by decide +kernel
theorem kd_Ps_row_79 : decode kc_Ps_row 79 = .ok (.iconst 0, 1) := by decide +kernel
theorem kd_Ps_row_80 : decode kc_Ps_row 80 = .ok (.invokevirtual 49, 3) := by decide +kernel
theorem kd_Ps_row_83 : decode kc_Ps_row 83 = .ok (.invokevirtual 57, 3) := by decide +kernel
theorem kd_Ps_row_86 : decode kc_Ps_row 86 = .ok (.istore_n 2, 1) := by decide +kernel
theorem kd_Ps_row_87 : decode kc_Ps_row 87 = .ok (.aload_n 0, 1) := by decide +kernel
theorem kd_Ps_row_88 : decode kc_Ps_row 88 = .ok (.bipush 124, 2) := by decide +kernel
theorem kd_Ps_row_90 : decode kc_Ps_row 90 = .ok (.invokevirtual 68, 3) := by decide +kernel
theorem kd_Ps_row_93 : decode kc_Ps_row 93 = .ok (.aload_n 0, 1) := by decide +kernel
theorem kd_Ps_row_94 : decode kc_Ps_row 94 = .ok (.getfield 15, 3) := by decide +kernel
theorem kd_Ps_row_97 : decode kc_Ps_row 97 = .ok (.iload_n 1, 1) := by decide +kernel
theorem kd_Ps_row_98 : decode kc_Ps_row 98 = .ok (.iload_n 2, 1) := by decide +kernel
theorem kd_Ps_row_99 : decode kc_Ps_row 99 = .ok (.aload_n 0, 1) := by decide +kernel
theorem kd_Ps_row_100 : decode kc_Ps_row 100 = .ok (.invokevirtual 156, 3) := by decide +kernel
theorem kd_Ps_row_103 : decode kc_Ps_row 103 = .ok (.invokevirtual 57, 3) := by decide +kernel
theorem kd_Ps_row_106 : decode kc_Ps_row 106 = .ok (.istore_n 2, 1) := by decide +kernel
theorem kd_Ps_row_107 : decode kc_Ps_row 107 = .ok (.iinc 3 1, 3) := by decide +kernel
theorem kd_Ps_row_110 : decode kc_Ps_row 110 = .ok (.goto (-79), 3) := by decide +kernel
theorem kd_Ps_row_113 : decode kc_Ps_row 113 = .ok (.aload_n 0, 1) := by decide +kernel
theorem kd_Ps_row_114 : decode kc_Ps_row 114 = .ok (.bipush 59, 2) := by decide +kernel
theorem kd_Ps_row_116 : decode kc_Ps_row 116 = .ok (.invokevirtual 68, 3) := by decide +kernel
theorem kd_Ps_row_119 : decode kc_Ps_row 119 = .ok (.iload_n 1, 1) := by decide +kernel
theorem kd_Ps_row_120 : decode kc_Ps_row 120 = .ok (.ireturn, 1) := by decide +kernel
theorem kd_Ps_section_0 : decode kc_Ps_section 0 = .ok (.aload_n 0, 1) := by decide +kernel
theorem kd_Ps_section_1 : decode kc_Ps_section 1 = .ok (.getfield 15, 3) := by decide +kernel
theorem kd_Ps_section_4 : decode kc_Ps_section 4 = .ok (.iconst 4, 1) := by decide +kernel
theorem kd_Ps_section_5 : decode kc_Ps_section 5 = .ok (.aload_n 0, 1) := by decide +kernel
theorem kd_Ps_section_6 : decode kc_Ps_section 6 = .ok (.getfield 38, 3) := by decide +kernel
theorem kd_Ps_section_9 : decode kc_Ps_section 9 = .ok (.aload_n 0, 1) := by decide +kernel
theorem kd_Ps_section_10 : decode kc_Ps_section 10 = .ok (.getfield 32, 3) := by decide +kernel
theorem kd_Ps_section_13 : decode kc_Ps_section 13 = .ok (.sipush 134, 3) := by decide +kernel
theorem kd_Ps_section_16 : decode kc_Ps_section 16 = .ok (.isub, 1) := by decide +kernel
theorem kd_Ps_section_17 : decode kc_Ps_section 17 = .ok (.invokevirtual 49, 3) := by decide +kernel
theorem kd_Ps_section_20 : decode kc_Ps_section 20 = .ok (.istore_n 1, 1) := by decide +kernel
theorem kd_Ps_section_21 : decode kc_Ps_section 21 = .ok (.aload_n 0, 1) := by decide +kernel
theorem kd_Ps_section_22 : decode kc_Ps_section 22 = .ok (.aload_n 0, 1) := by decide +kernel
theorem kd_Ps_section_23 : decode kc_Ps_section 23 = .ok (.getfield 32, 3) := by decide +kernel
theorem kd_Ps_section_26 : decode kc_Ps_section 26 = .ok (.invokevirtual 68, 3) := by decide +kernel
theorem kd_Ps_section_29 : decode kc_Ps_section 29 = .ok (.iconst (-1), 1) := by decide +kernel
theorem kd_Ps_section_30 : decode kc_Ps_section 30 = .ok (.istore_n 2, 1) := by decide +kernel
theorem kd_Ps_section_31 : decode kc_Ps_section 31 = .ok (.iconst 0, 1) := by decide +kernel
theorem kd_Ps_section_32 : decode kc_Ps_section 32 = .ok (.istore_n 3, 1) := by decide +kernel
theorem kd_Ps_section_33 : decode kc_Ps_section 33 = .ok (.iload_n 3, 1) := by decide +kernel
theorem kd_Ps_section_34 : decode kc_Ps_section 34 = .ok (.sipush 16384, 3) := by decide +kernel
theorem kd_Ps_section_37 : decode kc_Ps_section 37 = .ok (.if_icmp .ge 32, 3) := by decide +kernel
theorem kd_Ps_section_40 : decode kc_Ps_section 40 = .ok (.aload_n 0, 1) := by decide +kernel
theorem kd_Ps_section_41 : decode kc_Ps_section 41 = .ok (.getfield 32, 3) := by decide +kernel
theorem kd_Ps_section_44 : decode kc_Ps_section 44 = .ok (.bipush 8, 2) := by decide +kernel
theorem kd_Ps_section_46 : decode kc_Ps_section 46 = .ok (.if_icmp .ne 23, 3) := by decide +kernel
theorem kd_Ps_section_49 : decode kc_Ps_section 49 = .ok (.aload_n 0, 1) := by decide +kernel
theorem kd_Ps_section_50 : decode kc_Ps_section 50 = .ok (.getfield 15, 3) := by decide +kernel
theorem kd_Ps_section_53 : decode kc_Ps_section 53 = .ok (.iload_n 1, 1) := by decide +kernel
theorem kd_Ps_section_54 : decode kc_Ps_section 54 = .ok (.iload_n 2, 1) := by decide +kernel
theorem kd_Ps_section_55 : decode kc_Ps_section 55 = .ok (.aload_n 0, 1) := by decide +kernel
theorem kd_Ps_section_56 : decode kc_Ps_section 56 = .ok (.invokevirtual 89, 3) := by decide +kernel
theorem kd_Ps_section_59 : decode kc_Ps_section 59 = .ok (.invokevirtual 57, 3) := by decide +kernel
theorem kd_Ps_section_62 : decode kc_Ps_section 62 = .ok (.istore_n 2, 1) := by decide +kernel
theorem kd_Ps_section_63 : decode kc_Ps_section 63 = .ok (.iinc 3 1, 3) := by decide +kernel
theorem kd_Ps_section_66 : decode kc_Ps_section 66 = .ok (.goto (-33), 3) := by decide +kernel
theorem kd_Ps_section_69 : decode kc_Ps_section 69 = .ok (.aload_n 0, 1) := by decide +kernel
theorem kd_Ps_section_70 : decode kc_Ps_section 70 = .ok (.sipush 137, 3) := by decide +kernel
theorem kd_Ps_section_73 : decode kc_Ps_section 73 = .ok (.invokevirtual 68, 3) := by decide +kernel
theorem kd_Ps_section_76 : decode kc_Ps_section 76 = .ok (.iload_n 1, 1) := by decide +kernel
theorem kd_Ps_section_77 : decode kc_Ps_section 77 = .ok (.ireturn, 1) := by decide +kernel
set_option maxHeartbeats 4000000 in
set_option maxRecDepth 100000 in
theorem zb_Ps_declaration_231 {X : zkj_T} {S : zs_T} {P : ze_T} {l : Launch} {D : va_G} {sz0 : Nat} {rv : Int32} {rh : zs_H} (C : zk_C X km_Ps_declaration (zs_G S l D sz0) { frames := 4, cells := 0, slots := 0, locals := 91 } (ze_E P)) (hR : zkj_R X (zd_PI S rv rh) (some .int)) (h : zs_H) (x1 : Int32) (e : f_Ps_declaration_231 h x1 = some (rv, rh)) : zk_Ab X (zs_W S h) 0 0 231 [(0, .ref (S.1 19)), (1, .int x1)] [] := by
  unfold f_Ps_declaration_231 at e
  refine zk_aload_n C kd_Ps_declaration_231 rfl 0 rfl rfl ?_
  refine zk_bipush (v := 59) C kd_Ps_declaration_232 (by decide) rfl ?_
  obtain ⟨h2, c1, e⟩ := zd_b e
  refine zs_callV (k := 19) (rn := { frames := 0, cells := 0, slots := 0, locals := 0 }) (As := [.int 59]) (rest := []) C (zc_Ps_take h 59 c1) ku_Ps_take kw876 kv_Ps_take rfl ⟨by decide, by decide⟩ ⟨by decide, by decide⟩ rfl rfl rfl (Nat.le_of_ble_eq_true rfl) kd_Ps_declaration_234 rfl (c1 := 0) (s1 := 0) rfl rfl (fun v w hp => ?_)
  obtain ⟨rfl, rfl⟩ := hp
  refine zk_stk (r' := []) rfl ?_
  refine zk_iload_n C kd_Ps_declaration_237 rfl 1 rfl rfl ?_
  exact zk_iret C hR kd_Ps_declaration_238 rfl rfl (zd_rIS e)
set_option maxHeartbeats 4000000 in
set_option maxRecDepth 100000 in
theorem zb_Ps_declaration_184 {X : zkj_T} {S : zs_T} {P : ze_T} {l : Launch} {D : va_G} {sz0 : Nat} {rv : Int32} {rh : zs_H} (C : zk_C X km_Ps_declaration (zs_G S l D sz0) { frames := 4, cells := 0, slots := 0, locals := 91 } (ze_E P)) (hR : zkj_R X (zd_PI S rv rh) (some .int)) (h : zs_H) (x1 : Int32) (x2 : Int32) (e : f_Ps_declaration_184 h x1 x2 = some (rv, rh)) : zk_Ab X (zs_W S h) 0 0 184 [(0, .ref (S.1 19)), (1, .int x1), (2, .int x2)] [] := by
  unfold f_Ps_declaration_184 at e
  refine zk_aload_n C kd_Ps_declaration_184 rfl 0 rfl rfl ?_
  refine zk_bipush (v := 58) C kd_Ps_declaration_185 (by decide) rfl ?_
  obtain ⟨h2, c1, e⟩ := zd_b e
  refine zs_callV (k := 19) (rn := { frames := 0, cells := 0, slots := 0, locals := 0 }) (As := [.int 58]) (rest := []) C (zc_Ps_take h 58 c1) ku_Ps_take kw876 kv_Ps_take rfl ⟨by decide, by decide⟩ ⟨by decide, by decide⟩ rfl rfl rfl (Nat.le_of_ble_eq_true rfl) kd_Ps_declaration_187 rfl (c1 := 0) (s1 := 0) rfl rfl (fun v w hp => ?_)
  obtain ⟨rfl, rfl⟩ := hp
  refine zk_stk (r' := []) rfl ?_
  refine zk_aload_n C kd_Ps_declaration_190 rfl 0 rfl rfl ?_
  refine zs_get (v := .ref (S.1 12)) C 19 2 rfl rfl rfl rfl ki_Ps (by decide) kw203 kd_Ps_declaration_191 rfl ?_
  refine zk_iload_n C kd_Ps_declaration_194 rfl 1 rfl rfl ?_
  refine zk_iload_n C kd_Ps_declaration_195 rfl 2 rfl rfl ?_
  refine zk_aload_n C kd_Ps_declaration_196 rfl 0 rfl rfl ?_
  obtain ⟨v4, h5, c3, e⟩ := zd_Be e
  refine zs_callV (k := 19) (rn := { frames := 3, cells := 0, slots := 0, locals := 69 }) (As := []) (rest := [.int x2, .int x1, .ref (S.1 12)]) C (zc_Ps_type h2 c3) ku_Ps_type kw900 kv_Ps_type rfl ⟨by decide, by decide⟩ ⟨by decide, by decide⟩ rfl rfl rfl (Nat.le_of_ble_eq_true rfl) kd_Ps_declaration_197 rfl (c1 := 0) (s1 := 0) rfl rfl (fun v w hp => ?_)
  obtain ⟨rfl, rfl⟩ := hp
  refine zk_stk (r' := [.int v4, .int x2, .int x1, .ref (S.1 12)]) rfl ?_
  obtain ⟨v7, h8, c6, e⟩ := zd_Be e
  refine zs_callV (k := 12) (rn := { frames := 0, cells := 0, slots := 0, locals := 0 }) (As := [.int x1, .int x2, .int v4]) (rest := []) C (zc_Tr_hang h5 x1 x2 v4 c6) ku_Tr_hang kw884 kv_Tr_hang rfl ⟨by decide, by decide⟩ ⟨by decide, by decide⟩ rfl rfl rfl (Nat.le_of_ble_eq_true rfl) kd_Ps_declaration_200 rfl (c1 := 0) (s1 := 0) rfl rfl (fun v w hp => ?_)
  obtain ⟨rfl, rfl⟩ := hp
  refine zk_stk (r' := [.int v7]) rfl ?_
  refine zk_istore_n (lv' := [(2, _), (0, _), (1, _)]) C kd_Ps_declaration_203 rfl (by decide) rfl rfl ?_
  refine zk_aload_n C kd_Ps_declaration_204 rfl 1 rfl rfl ?_
  refine zs_get (v := .int (h8.1 19 5)) C 19 5 rfl rfl rfl rfl ki_Ps (by decide) kw206 kd_Ps_declaration_205 rfl ?_
  refine zk_iconst (v := 1) C kd_Ps_declaration_208 (by decide) rfl ?_
  refine zk_icmp_ne (tgt := 231) C kd_Ps_declaration_209 (by decide) rfl (fun b9 => ?_) (fun b9 => ?_)
  · replace e := zd_neg b9 e
    refine zk_lvs (lv' := [(0, .ref (S.1 19)), (1, .int x1)]) [1, 2] rfl ?_
    exact zb_Ps_declaration_231 C hR h8 x1 e
  · replace e := zd_pos b9 e
    refine zk_aload_n C kd_Ps_declaration_212 rfl 1 rfl rfl ?_
    refine zk_iconst (v := 1) C kd_Ps_declaration_213 (by decide) rfl ?_
    obtain ⟨h11, c10, e⟩ := zd_b e
    refine zs_callV (k := 19) (rn := { frames := 0, cells := 0, slots := 0, locals := 0 }) (As := [.int 1]) (rest := []) C (zc_Ps_take h8 1 c10) ku_Ps_take kw876 kv_Ps_take rfl ⟨by decide, by decide⟩ ⟨by decide, by decide⟩ rfl rfl rfl (Nat.le_of_ble_eq_true rfl) kd_Ps_declaration_214 rfl (c1 := 0) (s1 := 0) rfl rfl (fun v w hp => ?_)
    obtain ⟨rfl, rfl⟩ := hp
    refine zk_stk (r' := []) rfl ?_
    refine zk_aload_n C kd_Ps_declaration_217 rfl 1 rfl rfl ?_
    refine zs_get (v := .ref (S.1 12)) C 19 2 rfl rfl rfl rfl ki_Ps (by decide) kw203 kd_Ps_declaration_218 rfl ?_
    refine zk_iload_n C kd_Ps_declaration_221 rfl 2 rfl rfl ?_
    refine zk_iload_n C kd_Ps_declaration_222 rfl 0 rfl rfl ?_
    refine zk_aload_n C kd_Ps_declaration_223 rfl 1 rfl rfl ?_
    obtain ⟨v13, h14, c12, e⟩ := zd_Be e
    refine zs_callV (k := 19) (rn := { frames := 2, cells := 0, slots := 0, locals := 47 }) (As := []) (rest := [.int v7, .int x1, .ref (S.1 12)]) C (zc_Ps_constant h11 c12) ku_Ps_constant kw904 kv_Ps_constant rfl ⟨by decide, by decide⟩ ⟨by decide, by decide⟩ rfl rfl rfl (Nat.le_of_ble_eq_true rfl) kd_Ps_declaration_224 rfl (c1 := 0) (s1 := 0) rfl rfl (fun v w hp => ?_)
    obtain ⟨rfl, rfl⟩ := hp
    refine zk_stk (r' := [.int v13, .int v7, .int x1, .ref (S.1 12)]) rfl ?_
    obtain ⟨v16, h17, c15, e⟩ := zd_Be e
    refine zs_callV (k := 12) (rn := { frames := 0, cells := 0, slots := 0, locals := 0 }) (As := [.int x1, .int v7, .int v13]) (rest := []) C (zc_Tr_hang h14 x1 v7 v13 c15) ku_Tr_hang kw884 kv_Tr_hang rfl ⟨by decide, by decide⟩ ⟨by decide, by decide⟩ rfl rfl rfl (Nat.le_of_ble_eq_true rfl) kd_Ps_declaration_227 rfl (c1 := 0) (s1 := 0) rfl rfl (fun v w hp => ?_)
    obtain ⟨rfl, rfl⟩ := hp
    refine zk_stk (r' := [.int v16]) rfl ?_
    refine zk_pop C kd_Ps_declaration_230 rfl rfl ?_
    refine zk_lvs (lv' := [(0, .ref (S.1 19)), (1, .int x1)]) [1, 2] rfl ?_
    exact zb_Ps_declaration_231 C hR h17 x1 e
set_option maxHeartbeats 4000000 in
set_option maxRecDepth 100000 in
theorem zb_Ps_declaration_126 {X : zkj_T} {S : zs_T} {P : ze_T} {l : Launch} {D : va_G} {sz0 : Nat} {rv : Int32} {rh : zs_H} (C : zk_C X km_Ps_declaration (zs_G S l D sz0) { frames := 4, cells := 0, slots := 0, locals := 91 } (ze_E P)) (hR : zkj_R X (zd_PI S rv rh) (some .int)) (h : zs_H) (x1 : Int32) (x2 : Int32) (e : f_Ps_declaration_126 h x1 x2 = some (rv, rh)) : zk_Ab X (zs_W S h) 0 0 126 [(0, .ref (S.1 19)), (1, .int x1), (2, .int x2)] [] := by
  unfold f_Ps_declaration_126 at e
  refine zk_aload_n C kd_Ps_declaration_126 rfl 0 rfl rfl ?_
  refine zs_get (v := .int (h.1 19 5)) C 19 5 rfl rfl rfl rfl ki_Ps (by decide) kw206 kd_Ps_declaration_127 rfl ?_
  refine zk_sipush (v := 138) C kd_Ps_declaration_130 (by decide) rfl ?_
  refine zk_icmp_ne (tgt := 184) C kd_Ps_declaration_133 (by decide) rfl (fun b1 => ?_) (fun b1 => ?_)
  · replace e := zd_neg b1 e
    refine zk_lvs (lv' := [(0, .ref (S.1 19)), (1, .int x1), (2, .int x2)]) [0, 1, 2] rfl ?_
    exact zb_Ps_declaration_184 C hR h x1 x2 e
  · replace e := zd_pos b1 e
    refine zk_aload_n C kd_Ps_declaration_136 rfl 0 rfl rfl ?_
    refine zk_sipush (v := 138) C kd_Ps_declaration_137 (by decide) rfl ?_
    obtain ⟨h3, c2, e⟩ := zd_b e
    refine zs_callV (k := 19) (rn := { frames := 0, cells := 0, slots := 0, locals := 0 }) (As := [.int 138]) (rest := []) C (zc_Ps_take h 138 c2) ku_Ps_take kw876 kv_Ps_take rfl ⟨by decide, by decide⟩ ⟨by decide, by decide⟩ rfl rfl rfl (Nat.le_of_ble_eq_true rfl) kd_Ps_declaration_140 rfl (c1 := 0) (s1 := 0) rfl rfl (fun v w hp => ?_)
    obtain ⟨rfl, rfl⟩ := hp
    refine zk_stk (r' := []) rfl ?_
    refine zk_aload_n C kd_Ps_declaration_143 rfl 0 rfl rfl ?_
    refine zs_get (v := .ref (S.1 12)) C 19 2 rfl rfl rfl rfl ki_Ps (by decide) kw203 kd_Ps_declaration_144 rfl ?_
    refine zk_iload_n C kd_Ps_declaration_147 rfl 1 rfl rfl ?_
    refine zk_iload_n C kd_Ps_declaration_148 rfl 2 rfl rfl ?_
    refine zk_aload_n C kd_Ps_declaration_149 rfl 0 rfl rfl ?_
    refine zs_get (v := .ref (S.1 12)) C 19 2 rfl rfl rfl rfl ki_Ps (by decide) kw203 kd_Ps_declaration_150 rfl ?_
    refine zk_bipush (v := 7) C kd_Ps_declaration_153 (by decide) rfl ?_
    refine zk_aload_n C kd_Ps_declaration_155 rfl 0 rfl rfl ?_
    refine zs_get (v := .int (h3.1 19 6)) C 19 6 rfl rfl rfl rfl ki_Ps (by decide) kw207 kd_Ps_declaration_156 rfl ?_
    refine zk_aload_n C kd_Ps_declaration_159 rfl 0 rfl rfl ?_
    refine zs_get (v := .ref (S.1 8)) C 19 1 rfl rfl rfl rfl ki_Ps (by decide) kw202 kd_Ps_declaration_160 rfl ?_
    refine zs_get (v := .ref (S.1 11)) C 8 2 rfl rfl rfl rfl ki_Tk (by decide) kw123 kd_Ps_declaration_163 rfl ?_
    refine zk_aload_n C kd_Ps_declaration_166 rfl 0 rfl rfl ?_
    refine zs_get (v := .int (h3.1 19 4)) C 19 4 rfl rfl rfl rfl ki_Ps (by decide) kw205 kd_Ps_declaration_167 rfl ?_
    obtain ⟨q4, e⟩ := zd_g e
    refine zs_iald C 11 rfl (zd_vp q4) kd_Ps_declaration_170 rfl ?_
    obtain ⟨v6, h7, c5, e⟩ := zd_Be e
    refine zs_callV (k := 12) (rn := { frames := 1, cells := 0, slots := 0, locals := 23 }) (As := [.int 7, .int (h3.1 19 6), .int (h3.2.1 11 (h3.1 19 4).toNatClampNeg)]) (rest := [.int x2, .int x1, .ref (S.1 12)]) C (zc_Tr_add h3 7 (h3.1 19 6) (h3.2.1 11 (h3.1 19 4).toNatClampNeg) c5) ku_Tr_add kw866 kv_Tr_add rfl ⟨by decide, by decide⟩ ⟨by decide, by decide⟩ rfl rfl rfl (Nat.le_of_ble_eq_true rfl) kd_Ps_declaration_171 rfl (c1 := 0) (s1 := 0) rfl rfl (fun v w hp => ?_)
    obtain ⟨rfl, rfl⟩ := hp
    refine zk_stk (r' := [.int v6, .int x2, .int x1, .ref (S.1 12)]) rfl ?_
    obtain ⟨v9, h10, c8, e⟩ := zd_Be e
    refine zs_callV (k := 12) (rn := { frames := 0, cells := 0, slots := 0, locals := 0 }) (As := [.int x1, .int x2, .int v6]) (rest := []) C (zc_Tr_hang h7 x1 x2 v6 c8) ku_Tr_hang kw884 kv_Tr_hang rfl ⟨by decide, by decide⟩ ⟨by decide, by decide⟩ rfl rfl rfl (Nat.le_of_ble_eq_true rfl) kd_Ps_declaration_174 rfl (c1 := 0) (s1 := 0) rfl rfl (fun v w hp => ?_)
    obtain ⟨rfl, rfl⟩ := hp
    refine zk_stk (r' := [.int v9]) rfl ?_
    refine zk_istore_n (lv' := [(2, _), (0, _), (1, _)]) C kd_Ps_declaration_177 rfl (by decide) rfl rfl ?_
    refine zk_aload_n C kd_Ps_declaration_178 rfl 1 rfl rfl ?_
    refine zk_bipush (v := 10) C kd_Ps_declaration_179 (by decide) rfl ?_
    obtain ⟨h12, c11, e⟩ := zd_b e
    refine zs_callV (k := 19) (rn := { frames := 0, cells := 0, slots := 0, locals := 0 }) (As := [.int 10]) (rest := []) C (zc_Ps_take h10 10 c11) ku_Ps_take kw876 kv_Ps_take rfl ⟨by decide, by decide⟩ ⟨by decide, by decide⟩ rfl rfl rfl (Nat.le_of_ble_eq_true rfl) kd_Ps_declaration_181 rfl (c1 := 0) (s1 := 0) rfl rfl (fun v w hp => ?_)
    obtain ⟨rfl, rfl⟩ := hp
    refine zk_stk (r' := []) rfl ?_
    refine zk_lvs (lv' := [(0, .ref (S.1 19)), (1, .int x1), (2, .int v9)]) [1, 2, 0] rfl ?_
    exact zb_Ps_declaration_184 C hR h12 x1 v9 e
set_option maxHeartbeats 4000000 in
set_option maxRecDepth 100000 in
theorem zb_Ps_declaration_57 {X : zkj_T} {S : zs_T} {P : ze_T} {l : Launch} {D : va_G} {sz0 : Nat} {rv : Int32} {rh : zs_H} (C : zk_C X km_Ps_declaration (zs_G S l D sz0) { frames := 4, cells := 0, slots := 0, locals := 91 } (ze_E P)) (hR : zkj_R X (zd_PI S rv rh) (some .int)) {k57 : zs_H → Int32 → Int32 → Int32 → (Option (Int32 × zs_H))} (hk57 : ∀ (h : zs_H) (x1 : Int32) (x2 : Int32) (x3 : Int32), k57 h x1 x2 x3 = some (rv, rh) → zk_Ab X (zs_W S h) 0 0 57 [(0, .ref (S.1 19)), (1, .int x1), (2, .int x2), (3, .int x3)] []) (h : zs_H) (x1 : Int32) (x2 : Int32) (x3 : Int32) (e : f_Ps_declaration_57 k57 h x1 x2 x3 = some (rv, rh)) : zk_Ab X (zs_W S h) 0 0 57 [(0, .ref (S.1 19)), (1, .int x1), (2, .int x2), (3, .int x3)] [] := by
  unfold f_Ps_declaration_57 at e
  refine zk_iload_n C kd_Ps_declaration_57 rfl 3 rfl rfl ?_
  refine zk_sipush (v := 16384) C kd_Ps_declaration_58 (by decide) rfl ?_
  refine zk_icmp_ge (tgt := 126) C kd_Ps_declaration_61 (by decide) rfl (fun b1 => ?_) (fun b1 => ?_)
  · replace e := zd_pos b1 e
    refine zk_lvs (lv' := [(0, .ref (S.1 19)), (1, .int x1), (2, .int x2)]) [0, 1, 2] rfl ?_
    exact zb_Ps_declaration_126 C hR h x1 x2 e
  · replace e := zd_neg b1 e
    refine zk_aload_n C kd_Ps_declaration_64 rfl 0 rfl rfl ?_
    refine zs_get (v := .int (h.1 19 5)) C 19 5 rfl rfl rfl rfl ki_Ps (by decide) kw206 kd_Ps_declaration_65 rfl ?_
    refine zk_bipush (v := 44) C kd_Ps_declaration_68 (by decide) rfl ?_
    refine zk_icmp_ne (tgt := 126) C kd_Ps_declaration_70 (by decide) rfl (fun b2 => ?_) (fun b2 => ?_)
    · replace e := zd_neg b2 e
      refine zk_lvs (lv' := [(0, .ref (S.1 19)), (1, .int x1), (2, .int x2)]) [0, 1, 2] rfl ?_
      exact zb_Ps_declaration_126 C hR h x1 x2 e
    · replace e := zd_pos b2 e
      refine zk_aload_n C kd_Ps_declaration_73 rfl 0 rfl rfl ?_
      refine zk_bipush (v := 44) C kd_Ps_declaration_74 (by decide) rfl ?_
      obtain ⟨h4, c3, e⟩ := zd_b e
      refine zs_callV (k := 19) (rn := { frames := 0, cells := 0, slots := 0, locals := 0 }) (As := [.int 44]) (rest := []) C (zc_Ps_take h 44 c3) ku_Ps_take kw876 kv_Ps_take rfl ⟨by decide, by decide⟩ ⟨by decide, by decide⟩ rfl rfl rfl (Nat.le_of_ble_eq_true rfl) kd_Ps_declaration_76 rfl (c1 := 0) (s1 := 0) rfl rfl (fun v w hp => ?_)
      obtain ⟨rfl, rfl⟩ := hp
      refine zk_stk (r' := []) rfl ?_
      refine zk_aload_n C kd_Ps_declaration_79 rfl 0 rfl rfl ?_
      refine zs_get (v := .ref (S.1 12)) C 19 2 rfl rfl rfl rfl ki_Ps (by decide) kw203 kd_Ps_declaration_80 rfl ?_
      refine zk_iload_n C kd_Ps_declaration_83 rfl 1 rfl rfl ?_
      refine zk_iload_n C kd_Ps_declaration_84 rfl 2 rfl rfl ?_
      refine zk_aload_n C kd_Ps_declaration_85 rfl 0 rfl rfl ?_
      refine zs_get (v := .ref (S.1 12)) C 19 2 rfl rfl rfl rfl ki_Ps (by decide) kw203 kd_Ps_declaration_86 rfl ?_
      refine zk_bipush (v := 37) C kd_Ps_declaration_89 (by decide) rfl ?_
      refine zk_aload_n C kd_Ps_declaration_91 rfl 0 rfl rfl ?_
      refine zs_get (v := .int (h4.1 19 6)) C 19 6 rfl rfl rfl rfl ki_Ps (by decide) kw207 kd_Ps_declaration_92 rfl ?_
      refine zk_aload_n C kd_Ps_declaration_95 rfl 0 rfl rfl ?_
      refine zs_get (v := .ref (S.1 8)) C 19 1 rfl rfl rfl rfl ki_Ps (by decide) kw202 kd_Ps_declaration_96 rfl ?_
      refine zs_get (v := .ref (S.1 11)) C 8 2 rfl rfl rfl rfl ki_Tk (by decide) kw123 kd_Ps_declaration_99 rfl ?_
      refine zk_aload_n C kd_Ps_declaration_102 rfl 0 rfl rfl ?_
      refine zs_get (v := .int (h4.1 19 4)) C 19 4 rfl rfl rfl rfl ki_Ps (by decide) kw205 kd_Ps_declaration_103 rfl ?_
      obtain ⟨q5, e⟩ := zd_g e
      refine zs_iald C 11 rfl (zd_vp q5) kd_Ps_declaration_106 rfl ?_
      obtain ⟨v7, h8, c6, e⟩ := zd_Be e
      refine zs_callV (k := 12) (rn := { frames := 1, cells := 0, slots := 0, locals := 23 }) (As := [.int 37, .int (h4.1 19 6), .int (h4.2.1 11 (h4.1 19 4).toNatClampNeg)]) (rest := [.int x2, .int x1, .ref (S.1 12)]) C (zc_Tr_add h4 37 (h4.1 19 6) (h4.2.1 11 (h4.1 19 4).toNatClampNeg) c6) ku_Tr_add kw866 kv_Tr_add rfl ⟨by decide, by decide⟩ ⟨by decide, by decide⟩ rfl rfl rfl (Nat.le_of_ble_eq_true rfl) kd_Ps_declaration_107 rfl (c1 := 0) (s1 := 0) rfl rfl (fun v w hp => ?_)
      obtain ⟨rfl, rfl⟩ := hp
      refine zk_stk (r' := [.int v7, .int x2, .int x1, .ref (S.1 12)]) rfl ?_
      obtain ⟨v10, h11, c9, e⟩ := zd_Be e
      refine zs_callV (k := 12) (rn := { frames := 0, cells := 0, slots := 0, locals := 0 }) (As := [.int x1, .int x2, .int v7]) (rest := []) C (zc_Tr_hang h8 x1 x2 v7 c9) ku_Tr_hang kw884 kv_Tr_hang rfl ⟨by decide, by decide⟩ ⟨by decide, by decide⟩ rfl rfl rfl (Nat.le_of_ble_eq_true rfl) kd_Ps_declaration_110 rfl (c1 := 0) (s1 := 0) rfl rfl (fun v w hp => ?_)
      obtain ⟨rfl, rfl⟩ := hp
      refine zk_stk (r' := [.int v10]) rfl ?_
      refine zk_istore_n (lv' := [(2, _), (0, _), (1, _), (3, _)]) C kd_Ps_declaration_113 rfl (by decide) rfl rfl ?_
      refine zk_aload_n C kd_Ps_declaration_114 rfl 1 rfl rfl ?_
      refine zk_bipush (v := 8) C kd_Ps_declaration_115 (by decide) rfl ?_
      obtain ⟨h13, c12, e⟩ := zd_b e
      refine zs_callV (k := 19) (rn := { frames := 0, cells := 0, slots := 0, locals := 0 }) (As := [.int 8]) (rest := []) C (zc_Ps_take h11 8 c12) ku_Ps_take kw876 kv_Ps_take rfl ⟨by decide, by decide⟩ ⟨by decide, by decide⟩ rfl rfl rfl (Nat.le_of_ble_eq_true rfl) kd_Ps_declaration_117 rfl (c1 := 0) (s1 := 0) rfl rfl (fun v w hp => ?_)
      obtain ⟨rfl, rfl⟩ := hp
      refine zk_stk (r' := []) rfl ?_
      refine zk_iinc (v := (x3 + 1)) (lv' := [(3, _), (2, _), (0, _), (1, _)]) C kd_Ps_declaration_120 3 rfl rfl (by decide) rfl rfl ?_
      refine zk_goto (tgt := 57) C kd_Ps_declaration_123 (by decide) ?_
      refine zk_lvs (lv' := [(0, .ref (S.1 19)), (1, .int x1), (2, .int v10), (3, .int (x3 + 1))]) [2, 3, 1, 0] rfl ?_
      exact hk57 h13 x1 v10 (x3 + 1) e
theorem zl_Ps_declaration_57 {X : zkj_T} {S : zs_T} {P : ze_T} {l : Launch} {D : va_G} {sz0 : Nat} {rv : Int32} {rh : zs_H} (C : zk_C X km_Ps_declaration (zs_G S l D sz0) { frames := 4, cells := 0, slots := 0, locals := 91 } (ze_E P)) (hR : zkj_R X (zd_PI S rv rh) (some .int)) (n : Nat) : ∀ (h : zs_H) (x1 : Int32) (x2 : Int32) (x3 : Int32), f_Ps_declaration_L57 n h x1 x2 x3 = some (rv, rh) → zk_Ab X (zs_W S h) 0 0 57 [(0, .ref (S.1 19)), (1, .int x1), (2, .int x2), (3, .int x3)] [] := by
  induction n with
  | zero => intro h x1 x2 x3 e; exact zd_no e
  | succ n ih => intro h x1 x2 x3 e; exact zb_Ps_declaration_57 (k57 := f_Ps_declaration_L57  n) C hR ih h x1 x2 x3 e
set_option maxHeartbeats 4000000 in
set_option maxRecDepth 100000 in
theorem zc_Ps_declaration {l : Launch} {D : va_G} {sz0 : Nat} {S : zs_T} {P : ze_T} (h : zs_H) {rv : Int32} {rh : zs_H} (e : f_Ps_declaration h = some (rv, rh)) : zk_Sp (zs_G S l D sz0) (ze_E P) km_Ps_declaration { frames := 4, cells := 0, slots := 0, locals := 91 } [.ref (S.1 19)] (zs_W S h) (zd_PI S rv rh) := by
  refine zk_met ku_Ps_declaration (Nat.le_of_ble_eq_true rfl) (ze_Em P) ?_
  intro X C hR
  refine zk_lvs (lv' := [(0, .ref (S.1 19))]) [0] rfl ?_
  unfold f_Ps_declaration at e
  refine zk_aload_n C kd_Ps_declaration_0 rfl 0 rfl rfl ?_
  refine zs_get (v := .ref (S.1 12)) C 19 2 rfl rfl rfl rfl ki_Ps (by decide) kw203 kd_Ps_declaration_1 rfl ?_
  refine zk_iconst (v := 5) C kd_Ps_declaration_4 (by decide) rfl ?_
  refine zk_aload_n C kd_Ps_declaration_5 rfl 0 rfl rfl ?_
  refine zs_get (v := .int (h.1 19 6)) C 19 6 rfl rfl rfl rfl ki_Ps (by decide) kw207 kd_Ps_declaration_6 rfl ?_
  refine zk_iconst (v := 0) C kd_Ps_declaration_9 (by decide) rfl ?_
  obtain ⟨v2, h3, c1, e⟩ := zd_Be e
  refine zs_callV (k := 12) (rn := { frames := 1, cells := 0, slots := 0, locals := 23 }) (As := [.int 5, .int (h.1 19 6), .int 0]) (rest := []) C (zc_Tr_add h 5 (h.1 19 6) 0 c1) ku_Tr_add kw866 kv_Tr_add rfl ⟨by decide, by decide⟩ ⟨by decide, by decide⟩ rfl rfl rfl (Nat.le_of_ble_eq_true rfl) kd_Ps_declaration_10 rfl (c1 := 0) (s1 := 0) rfl rfl (fun v w hp => ?_)
  obtain ⟨rfl, rfl⟩ := hp
  refine zk_stk (r' := [.int v2]) rfl ?_
  refine zk_istore_n (lv' := [(1, _), (0, _)]) C kd_Ps_declaration_13 rfl (by decide) rfl rfl ?_
  refine zk_aload_n C kd_Ps_declaration_14 rfl 1 rfl rfl ?_
  refine zs_get (v := .ref (S.1 12)) C 19 2 rfl rfl rfl rfl ki_Ps (by decide) kw203 kd_Ps_declaration_15 rfl ?_
  refine zk_iload_n C kd_Ps_declaration_18 rfl 0 rfl rfl ?_
  refine zk_iconst (v := (-1)) C kd_Ps_declaration_19 (by decide) rfl ?_
  refine zk_aload_n C kd_Ps_declaration_20 rfl 1 rfl rfl ?_
  refine zs_get (v := .ref (S.1 12)) C 19 2 rfl rfl rfl rfl ki_Ps (by decide) kw203 kd_Ps_declaration_21 rfl ?_
  refine zk_bipush (v := 37) C kd_Ps_declaration_24 (by decide) rfl ?_
  refine zk_aload_n C kd_Ps_declaration_26 rfl 1 rfl rfl ?_
  refine zs_get (v := .int (h3.1 19 6)) C 19 6 rfl rfl rfl rfl ki_Ps (by decide) kw207 kd_Ps_declaration_27 rfl ?_
  refine zk_aload_n C kd_Ps_declaration_30 rfl 1 rfl rfl ?_
  refine zs_get (v := .ref (S.1 8)) C 19 1 rfl rfl rfl rfl ki_Ps (by decide) kw202 kd_Ps_declaration_31 rfl ?_
  refine zs_get (v := .ref (S.1 11)) C 8 2 rfl rfl rfl rfl ki_Tk (by decide) kw123 kd_Ps_declaration_34 rfl ?_
  refine zk_aload_n C kd_Ps_declaration_37 rfl 1 rfl rfl ?_
  refine zs_get (v := .int (h3.1 19 4)) C 19 4 rfl rfl rfl rfl ki_Ps (by decide) kw205 kd_Ps_declaration_38 rfl ?_
  obtain ⟨q4, e⟩ := zd_g e
  refine zs_iald C 11 rfl (zd_vp q4) kd_Ps_declaration_41 rfl ?_
  obtain ⟨v6, h7, c5, e⟩ := zd_Be e
  refine zs_callV (k := 12) (rn := { frames := 1, cells := 0, slots := 0, locals := 23 }) (As := [.int 37, .int (h3.1 19 6), .int (h3.2.1 11 (h3.1 19 4).toNatClampNeg)]) (rest := [.int (-1), .int v2, .ref (S.1 12)]) C (zc_Tr_add h3 37 (h3.1 19 6) (h3.2.1 11 (h3.1 19 4).toNatClampNeg) c5) ku_Tr_add kw866 kv_Tr_add rfl ⟨by decide, by decide⟩ ⟨by decide, by decide⟩ rfl rfl rfl (Nat.le_of_ble_eq_true rfl) kd_Ps_declaration_42 rfl (c1 := 0) (s1 := 0) rfl rfl (fun v w hp => ?_)
  obtain ⟨rfl, rfl⟩ := hp
  refine zk_stk (r' := [.int v6, .int (-1), .int v2, .ref (S.1 12)]) rfl ?_
  obtain ⟨v9, h10, c8, e⟩ := zd_Be e
  refine zs_callV (k := 12) (rn := { frames := 0, cells := 0, slots := 0, locals := 0 }) (As := [.int v2, .int (-1), .int v6]) (rest := []) C (zc_Tr_hang h7 v2 (-1) v6 c8) ku_Tr_hang kw884 kv_Tr_hang rfl ⟨by decide, by decide⟩ ⟨by decide, by decide⟩ rfl rfl rfl (Nat.le_of_ble_eq_true rfl) kd_Ps_declaration_45 rfl (c1 := 0) (s1 := 0) rfl rfl (fun v w hp => ?_)
  obtain ⟨rfl, rfl⟩ := hp
  refine zk_stk (r' := [.int v9]) rfl ?_
  refine zk_istore_n (lv' := [(2, _), (1, _), (0, _)]) C kd_Ps_declaration_48 rfl (by decide) rfl rfl ?_
  refine zk_aload_n C kd_Ps_declaration_49 rfl 2 rfl rfl ?_
  refine zk_bipush (v := 8) C kd_Ps_declaration_50 (by decide) rfl ?_
  obtain ⟨h12, c11, e⟩ := zd_b e
  refine zs_callV (k := 19) (rn := { frames := 0, cells := 0, slots := 0, locals := 0 }) (As := [.int 8]) (rest := []) C (zc_Ps_take h10 8 c11) ku_Ps_take kw876 kv_Ps_take rfl ⟨by decide, by decide⟩ ⟨by decide, by decide⟩ rfl rfl rfl (Nat.le_of_ble_eq_true rfl) kd_Ps_declaration_52 rfl (c1 := 0) (s1 := 0) rfl rfl (fun v w hp => ?_)
  obtain ⟨rfl, rfl⟩ := hp
  refine zk_stk (r' := []) rfl ?_
  refine zk_iconst (v := 0) C kd_Ps_declaration_55 (by decide) rfl ?_
  refine zk_istore_n (lv' := [(3, _), (2, _), (1, _), (0, _)]) C kd_Ps_declaration_56 rfl (by decide) rfl rfl ?_
  refine zk_lvs (lv' := [(0, .ref (S.1 19)), (1, .int v2), (2, .int v9), (3, .int 0)]) [3, 2, 1, 0] rfl ?_
  exact zl_Ps_declaration_57 C hR zF h12 v2 v9 0 e
set_option maxHeartbeats 4000000 in
set_option maxRecDepth 100000 in
theorem zb_Ps_section_69 {X : zkj_T} {S : zs_T} {P : ze_T} {l : Launch} {D : va_G} {sz0 : Nat} {rv : Int32} {rh : zs_H} (C : zk_C X km_Ps_section (zs_G S l D sz0) { frames := 5, cells := 0, slots := 0, locals := 114 } (ze_E P)) (hR : zkj_R X (zd_PI S rv rh) (some .int)) (h : zs_H) (x1 : Int32) (e : f_Ps_section_69 h x1 = some (rv, rh)) : zk_Ab X (zs_W S h) 0 0 69 [(0, .ref (S.1 19)), (1, .int x1)] [] := by
  unfold f_Ps_section_69 at e
  refine zk_aload_n C kd_Ps_section_69 rfl 0 rfl rfl ?_
  refine zk_sipush (v := 137) C kd_Ps_section_70 (by decide) rfl ?_
  obtain ⟨h2, c1, e⟩ := zd_b e
  refine zs_callV (k := 19) (rn := { frames := 0, cells := 0, slots := 0, locals := 0 }) (As := [.int 137]) (rest := []) C (zc_Ps_take h 137 c1) ku_Ps_take kw876 kv_Ps_take rfl ⟨by decide, by decide⟩ ⟨by decide, by decide⟩ rfl rfl rfl (Nat.le_of_ble_eq_true rfl) kd_Ps_section_73 rfl (c1 := 0) (s1 := 0) rfl rfl (fun v w hp => ?_)
  obtain ⟨rfl, rfl⟩ := hp
  refine zk_stk (r' := []) rfl ?_
  refine zk_iload_n C kd_Ps_section_76 rfl 1 rfl rfl ?_
  exact zk_iret C hR kd_Ps_section_77 rfl rfl (zd_rIS e)
set_option maxHeartbeats 4000000 in
set_option maxRecDepth 100000 in
theorem zb_Ps_section_33 {X : zkj_T} {S : zs_T} {P : ze_T} {l : Launch} {D : va_G} {sz0 : Nat} {rv : Int32} {rh : zs_H} (C : zk_C X km_Ps_section (zs_G S l D sz0) { frames := 5, cells := 0, slots := 0, locals := 114 } (ze_E P)) (hR : zkj_R X (zd_PI S rv rh) (some .int)) {k33 : zs_H → Int32 → Int32 → Int32 → (Option (Int32 × zs_H))} (hk33 : ∀ (h : zs_H) (x1 : Int32) (x2 : Int32) (x3 : Int32), k33 h x1 x2 x3 = some (rv, rh) → zk_Ab X (zs_W S h) 0 0 33 [(0, .ref (S.1 19)), (1, .int x1), (2, .int x2), (3, .int x3)] []) (h : zs_H) (x1 : Int32) (x2 : Int32) (x3 : Int32) (e : f_Ps_section_33 k33 h x1 x2 x3 = some (rv, rh)) : zk_Ab X (zs_W S h) 0 0 33 [(0, .ref (S.1 19)), (1, .int x1), (2, .int x2), (3, .int x3)] [] := by
  unfold f_Ps_section_33 at e
  refine zk_iload_n C kd_Ps_section_33 rfl 3 rfl rfl ?_
  refine zk_sipush (v := 16384) C kd_Ps_section_34 (by decide) rfl ?_
  refine zk_icmp_ge (tgt := 69) C kd_Ps_section_37 (by decide) rfl (fun b1 => ?_) (fun b1 => ?_)
  · replace e := zd_pos b1 e
    refine zk_lvs (lv' := [(0, .ref (S.1 19)), (1, .int x1)]) [0, 1] rfl ?_
    exact zb_Ps_section_69 C hR h x1 e
  · replace e := zd_neg b1 e
    refine zk_aload_n C kd_Ps_section_40 rfl 0 rfl rfl ?_
    refine zs_get (v := .int (h.1 19 5)) C 19 5 rfl rfl rfl rfl ki_Ps (by decide) kw206 kd_Ps_section_41 rfl ?_
    refine zk_bipush (v := 8) C kd_Ps_section_44 (by decide) rfl ?_
    refine zk_icmp_ne (tgt := 69) C kd_Ps_section_46 (by decide) rfl (fun b2 => ?_) (fun b2 => ?_)
    · replace e := zd_neg b2 e
      refine zk_lvs (lv' := [(0, .ref (S.1 19)), (1, .int x1)]) [0, 1] rfl ?_
      exact zb_Ps_section_69 C hR h x1 e
    · replace e := zd_pos b2 e
      refine zk_aload_n C kd_Ps_section_49 rfl 0 rfl rfl ?_
      refine zs_get (v := .ref (S.1 12)) C 19 2 rfl rfl rfl rfl ki_Ps (by decide) kw203 kd_Ps_section_50 rfl ?_
      refine zk_iload_n C kd_Ps_section_53 rfl 1 rfl rfl ?_
      refine zk_iload_n C kd_Ps_section_54 rfl 2 rfl rfl ?_
      refine zk_aload_n C kd_Ps_section_55 rfl 0 rfl rfl ?_
      obtain ⟨v4, h5, c3, e⟩ := zd_Be e
      refine zs_callV (k := 19) (rn := { frames := 4, cells := 0, slots := 0, locals := 91 }) (As := []) (rest := [.int x2, .int x1, .ref (S.1 12)]) C (zc_Ps_declaration h c3) ku_Ps_declaration kw896 kv_Ps_declaration rfl ⟨by decide, by decide⟩ ⟨by decide, by decide⟩ rfl rfl rfl (Nat.le_of_ble_eq_true rfl) kd_Ps_section_56 rfl (c1 := 0) (s1 := 0) rfl rfl (fun v w hp => ?_)
      obtain ⟨rfl, rfl⟩ := hp
      refine zk_stk (r' := [.int v4, .int x2, .int x1, .ref (S.1 12)]) rfl ?_
      obtain ⟨v7, h8, c6, e⟩ := zd_Be e
      refine zs_callV (k := 12) (rn := { frames := 0, cells := 0, slots := 0, locals := 0 }) (As := [.int x1, .int x2, .int v4]) (rest := []) C (zc_Tr_hang h5 x1 x2 v4 c6) ku_Tr_hang kw884 kv_Tr_hang rfl ⟨by decide, by decide⟩ ⟨by decide, by decide⟩ rfl rfl rfl (Nat.le_of_ble_eq_true rfl) kd_Ps_section_59 rfl (c1 := 0) (s1 := 0) rfl rfl (fun v w hp => ?_)
      obtain ⟨rfl, rfl⟩ := hp
      refine zk_stk (r' := [.int v7]) rfl ?_
      refine zk_istore_n (lv' := [(2, _), (0, _), (1, _), (3, _)]) C kd_Ps_section_62 rfl (by decide) rfl rfl ?_
      refine zk_iinc (v := (x3 + 1)) (lv' := [(3, _), (2, _), (0, _), (1, _)]) C kd_Ps_section_63 3 rfl rfl (by decide) rfl rfl ?_
      refine zk_goto (tgt := 33) C kd_Ps_section_66 (by decide) ?_
      refine zk_lvs (lv' := [(0, .ref (S.1 19)), (1, .int x1), (2, .int v7), (3, .int (x3 + 1))]) [2, 3, 1, 0] rfl ?_
      exact hk33 h8 x1 v7 (x3 + 1) e
theorem zl_Ps_section_33 {X : zkj_T} {S : zs_T} {P : ze_T} {l : Launch} {D : va_G} {sz0 : Nat} {rv : Int32} {rh : zs_H} (C : zk_C X km_Ps_section (zs_G S l D sz0) { frames := 5, cells := 0, slots := 0, locals := 114 } (ze_E P)) (hR : zkj_R X (zd_PI S rv rh) (some .int)) (n : Nat) : ∀ (h : zs_H) (x1 : Int32) (x2 : Int32) (x3 : Int32), f_Ps_section_L33 n h x1 x2 x3 = some (rv, rh) → zk_Ab X (zs_W S h) 0 0 33 [(0, .ref (S.1 19)), (1, .int x1), (2, .int x2), (3, .int x3)] [] := by
  induction n with
  | zero => intro h x1 x2 x3 e; exact zd_no e
  | succ n ih => intro h x1 x2 x3 e; exact zb_Ps_section_33 (k33 := f_Ps_section_L33  n) C hR ih h x1 x2 x3 e
set_option maxHeartbeats 4000000 in
set_option maxRecDepth 100000 in
theorem zc_Ps_section {l : Launch} {D : va_G} {sz0 : Nat} {S : zs_T} {P : ze_T} (h : zs_H) {rv : Int32} {rh : zs_H} (e : f_Ps_section h = some (rv, rh)) : zk_Sp (zs_G S l D sz0) (ze_E P) km_Ps_section { frames := 5, cells := 0, slots := 0, locals := 114 } [.ref (S.1 19)] (zs_W S h) (zd_PI S rv rh) := by
  refine zk_met ku_Ps_section (Nat.le_of_ble_eq_true rfl) (ze_Em P) ?_
  intro X C hR
  refine zk_lvs (lv' := [(0, .ref (S.1 19))]) [0] rfl ?_
  unfold f_Ps_section at e
  refine zk_aload_n C kd_Ps_section_0 rfl 0 rfl rfl ?_
  refine zs_get (v := .ref (S.1 12)) C 19 2 rfl rfl rfl rfl ki_Ps (by decide) kw203 kd_Ps_section_1 rfl ?_
  refine zk_iconst (v := 4) C kd_Ps_section_4 (by decide) rfl ?_
  refine zk_aload_n C kd_Ps_section_5 rfl 0 rfl rfl ?_
  refine zs_get (v := .int (h.1 19 6)) C 19 6 rfl rfl rfl rfl ki_Ps (by decide) kw207 kd_Ps_section_6 rfl ?_
  refine zk_aload_n C kd_Ps_section_9 rfl 0 rfl rfl ?_
  refine zs_get (v := .int (h.1 19 5)) C 19 5 rfl rfl rfl rfl ki_Ps (by decide) kw206 kd_Ps_section_10 rfl ?_
  refine zk_sipush (v := 134) C kd_Ps_section_13 (by decide) rfl ?_
  refine zk_isub C kd_Ps_section_16 rfl ?_
  obtain ⟨v2, h3, c1, e⟩ := zd_Be e
  refine zs_callV (k := 12) (rn := { frames := 1, cells := 0, slots := 0, locals := 23 }) (As := [.int 4, .int (h.1 19 6), .int ((h.1 19 5) - 134)]) (rest := []) C (zc_Tr_add h 4 (h.1 19 6) ((h.1 19 5) - 134) c1) ku_Tr_add kw866 kv_Tr_add rfl ⟨by decide, by decide⟩ ⟨by decide, by decide⟩ rfl rfl rfl (Nat.le_of_ble_eq_true rfl) kd_Ps_section_17 rfl (c1 := 0) (s1 := 0) rfl rfl (fun v w hp => ?_)
  obtain ⟨rfl, rfl⟩ := hp
  refine zk_stk (r' := [.int v2]) rfl ?_
  refine zk_istore_n (lv' := [(1, _), (0, _)]) C kd_Ps_section_20 rfl (by decide) rfl rfl ?_
  refine zk_aload_n C kd_Ps_section_21 rfl 1 rfl rfl ?_
  refine zk_aload_n C kd_Ps_section_22 rfl 1 rfl rfl ?_
  refine zs_get (v := .int (h3.1 19 5)) C 19 5 rfl rfl rfl rfl ki_Ps (by decide) kw206 kd_Ps_section_23 rfl ?_
  obtain ⟨h5, c4, e⟩ := zd_b e
  refine zs_callV (k := 19) (rn := { frames := 0, cells := 0, slots := 0, locals := 0 }) (As := [.int (h3.1 19 5)]) (rest := []) C (zc_Ps_take h3 (h3.1 19 5) c4) ku_Ps_take kw876 kv_Ps_take rfl ⟨by decide, by decide⟩ ⟨by decide, by decide⟩ rfl rfl rfl (Nat.le_of_ble_eq_true rfl) kd_Ps_section_26 rfl (c1 := 0) (s1 := 0) rfl rfl (fun v w hp => ?_)
  obtain ⟨rfl, rfl⟩ := hp
  refine zk_stk (r' := []) rfl ?_
  refine zk_iconst (v := (-1)) C kd_Ps_section_29 (by decide) rfl ?_
  refine zk_istore_n (lv' := [(2, _), (1, _), (0, _)]) C kd_Ps_section_30 rfl (by decide) rfl rfl ?_
  refine zk_iconst (v := 0) C kd_Ps_section_31 (by decide) rfl ?_
  refine zk_istore_n (lv' := [(3, _), (2, _), (1, _), (0, _)]) C kd_Ps_section_32 rfl (by decide) rfl rfl ?_
  refine zk_lvs (lv' := [(0, .ref (S.1 19)), (1, .int v2), (2, .int (-1)), (3, .int 0)]) [3, 2, 1, 0] rfl ?_
  exact zl_Ps_section_33 C hR zF h5 v2 (-1) 0 e
set_option maxHeartbeats 4000000 in
set_option maxRecDepth 100000 in
theorem zb_Ps_coil_92 {X : zkj_T} {S : zs_T} {P : ze_T} {l : Launch} {D : va_G} {sz0 : Nat} {rv : Int32} {rh : zs_H} (C : zk_C X km_Ps_coil (zs_G S l D sz0) { frames := 2, cells := 0, slots := 0, locals := 47 } (ze_E P)) (hR : zkj_R X (zd_PI S rv rh) (some .int)) (h : zs_H) (x1 : Int32) (e : f_Ps_coil_92 h x1 = some (rv, rh)) : zk_Ab X (zs_W S h) 0 0 92 [(0, .ref (S.1 19)), (1, .int x1)] [] := by
  unfold f_Ps_coil_92 at e
  refine zk_aload_n C kd_Ps_coil_92 rfl 0 rfl rfl ?_
  refine zs_get (v := .ref (S.1 12)) C 19 2 rfl rfl rfl rfl ki_Ps (by decide) kw203 kd_Ps_coil_93 rfl ?_
  refine zk_iload_n C kd_Ps_coil_96 rfl 1 rfl rfl ?_
  refine zk_iconst (v := (-1)) C kd_Ps_coil_97 (by decide) rfl ?_
  refine zk_aload_n C kd_Ps_coil_98 rfl 0 rfl rfl ?_
  refine zs_get (v := .ref (S.1 12)) C 19 2 rfl rfl rfl rfl ki_Ps (by decide) kw203 kd_Ps_coil_99 rfl ?_
  refine zk_bipush (v := 6) C kd_Ps_coil_102 (by decide) rfl ?_
  refine zk_aload_n C kd_Ps_coil_104 rfl 0 rfl rfl ?_
  refine zs_get (v := .int (h.1 19 6)) C 19 6 rfl rfl rfl rfl ki_Ps (by decide) kw207 kd_Ps_coil_105 rfl ?_
  refine zk_aload_n C kd_Ps_coil_108 rfl 0 rfl rfl ?_
  refine zs_get (v := .ref (S.1 8)) C 19 1 rfl rfl rfl rfl ki_Ps (by decide) kw202 kd_Ps_coil_109 rfl ?_
  refine zs_get (v := .ref (S.1 11)) C 8 2 rfl rfl rfl rfl ki_Tk (by decide) kw123 kd_Ps_coil_112 rfl ?_
  refine zk_aload_n C kd_Ps_coil_115 rfl 0 rfl rfl ?_
  refine zs_get (v := .int (h.1 19 4)) C 19 4 rfl rfl rfl rfl ki_Ps (by decide) kw205 kd_Ps_coil_116 rfl ?_
  obtain ⟨q1, e⟩ := zd_g e
  refine zs_iald C 11 rfl (zd_vp q1) kd_Ps_coil_119 rfl ?_
  obtain ⟨v3, h4, c2, e⟩ := zd_Be e
  refine zs_callV (k := 12) (rn := { frames := 1, cells := 0, slots := 0, locals := 23 }) (As := [.int 6, .int (h.1 19 6), .int (h.2.1 11 (h.1 19 4).toNatClampNeg)]) (rest := [.int (-1), .int x1, .ref (S.1 12)]) C (zc_Tr_add h 6 (h.1 19 6) (h.2.1 11 (h.1 19 4).toNatClampNeg) c2) ku_Tr_add kw866 kv_Tr_add rfl ⟨by decide, by decide⟩ ⟨by decide, by decide⟩ rfl rfl rfl (Nat.le_of_ble_eq_true rfl) kd_Ps_coil_120 rfl (c1 := 0) (s1 := 0) rfl rfl (fun v w hp => ?_)
  obtain ⟨rfl, rfl⟩ := hp
  refine zk_stk (r' := [.int v3, .int (-1), .int x1, .ref (S.1 12)]) rfl ?_
  obtain ⟨v6, h7, c5, e⟩ := zd_Be e
  refine zs_callV (k := 12) (rn := { frames := 0, cells := 0, slots := 0, locals := 0 }) (As := [.int x1, .int (-1), .int v3]) (rest := []) C (zc_Tr_hang h4 x1 (-1) v3 c5) ku_Tr_hang kw884 kv_Tr_hang rfl ⟨by decide, by decide⟩ ⟨by decide, by decide⟩ rfl rfl rfl (Nat.le_of_ble_eq_true rfl) kd_Ps_coil_123 rfl (c1 := 0) (s1 := 0) rfl rfl (fun v w hp => ?_)
  obtain ⟨rfl, rfl⟩ := hp
  refine zk_stk (r' := [.int v6]) rfl ?_
  refine zk_pop C kd_Ps_coil_126 rfl rfl ?_
  refine zk_aload_n C kd_Ps_coil_127 rfl 0 rfl rfl ?_
  refine zk_bipush (v := 8) C kd_Ps_coil_128 (by decide) rfl ?_
  obtain ⟨h9, c8, e⟩ := zd_b e
  refine zs_callV (k := 19) (rn := { frames := 0, cells := 0, slots := 0, locals := 0 }) (As := [.int 8]) (rest := []) C (zc_Ps_take h7 8 c8) ku_Ps_take kw876 kv_Ps_take rfl ⟨by decide, by decide⟩ ⟨by decide, by decide⟩ rfl rfl rfl (Nat.le_of_ble_eq_true rfl) kd_Ps_coil_130 rfl (c1 := 0) (s1 := 0) rfl rfl (fun v w hp => ?_)
  obtain ⟨rfl, rfl⟩ := hp
  refine zk_stk (r' := []) rfl ?_
  refine zk_aload_n C kd_Ps_coil_133 rfl 0 rfl rfl ?_
  refine zk_bipush (v := 41) C kd_Ps_coil_134 (by decide) rfl ?_
  obtain ⟨h11, c10, e⟩ := zd_b e
  refine zs_callV (k := 19) (rn := { frames := 0, cells := 0, slots := 0, locals := 0 }) (As := [.int 41]) (rest := []) C (zc_Ps_take h9 41 c10) ku_Ps_take kw876 kv_Ps_take rfl ⟨by decide, by decide⟩ ⟨by decide, by decide⟩ rfl rfl rfl (Nat.le_of_ble_eq_true rfl) kd_Ps_coil_136 rfl (c1 := 0) (s1 := 0) rfl rfl (fun v w hp => ?_)
  obtain ⟨rfl, rfl⟩ := hp
  refine zk_stk (r' := []) rfl ?_
  refine zk_iload_n C kd_Ps_coil_139 rfl 1 rfl rfl ?_
  exact zk_iret C hR kd_Ps_coil_140 rfl rfl (zd_rIS e)
set_option maxHeartbeats 4000000 in
set_option maxRecDepth 100000 in
theorem zb_Ps_coil_83 {X : zkj_T} {S : zs_T} {P : ze_T} {l : Launch} {D : va_G} {sz0 : Nat} {rv : Int32} {rh : zs_H} (C : zk_C X km_Ps_coil (zs_G S l D sz0) { frames := 2, cells := 0, slots := 0, locals := 47 } (ze_E P)) (hR : zkj_R X (zd_PI S rv rh) (some .int)) (h : zs_H) (x1 : Int32) (y0 : Int32) (y1 : Int32) (e : f_Ps_coil_83 h x1 y0 y1 = some (rv, rh)) : zk_Ab X (zs_W S h) 0 0 83 [(0, .ref (S.1 19)), (1, .int x1)] [.int y0, .int y1, .ref (S.1 16)] := by
  unfold f_Ps_coil_83 at e
  obtain ⟨q1, e⟩ := zd_g e
  refine zs_iast C 16 rfl (zd_vp q1) kd_Ps_coil_83 rfl ?_
  refine zk_aload_n C kd_Ps_coil_84 rfl 0 rfl rfl ?_
  refine zk_aload_n C kd_Ps_coil_85 rfl 0 rfl rfl ?_
  refine zs_get (v := .int (h.1 19 5)) C 19 5 rfl rfl rfl rfl ki_Ps (by decide) kw206 kd_Ps_coil_86 rfl ?_
  obtain ⟨h3, c2, e⟩ := zd_b e
  refine zs_callV (k := 19) (rn := { frames := 0, cells := 0, slots := 0, locals := 0 }) (As := [.int (h.1 19 5)]) (rest := []) C (zc_Ps_take (zs_uM h 16 y1.toNatClampNeg y0) (h.1 19 5) c2) ku_Ps_take kw876 kv_Ps_take rfl ⟨by decide, by decide⟩ ⟨by decide, by decide⟩ rfl rfl rfl (Nat.le_of_ble_eq_true rfl) kd_Ps_coil_89 rfl (c1 := 0) (s1 := 0) rfl rfl (fun v w hp => ?_)
  obtain ⟨rfl, rfl⟩ := hp
  refine zk_stk (r' := []) rfl ?_
  refine zk_lvs (lv' := [(0, .ref (S.1 19)), (1, .int x1)]) [0, 1] rfl ?_
  exact zb_Ps_coil_92 C hR h3 x1 e
set_option maxHeartbeats 4000000 in
set_option maxRecDepth 100000 in
theorem zb_Ps_coil_48 {X : zkj_T} {S : zs_T} {P : ze_T} {l : Launch} {D : va_G} {sz0 : Nat} {rv : Int32} {rh : zs_H} (C : zk_C X km_Ps_coil (zs_G S l D sz0) { frames := 2, cells := 0, slots := 0, locals := 47 } (ze_E P)) (hR : zkj_R X (zd_PI S rv rh) (some .int)) (h : zs_H) (x1 : Int32) (e : f_Ps_coil_48 h x1 = some (rv, rh)) : zk_Ab X (zs_W S h) 0 0 48 [(0, .ref (S.1 19)), (1, .int x1)] [] := by
  unfold f_Ps_coil_48 at e
  refine zk_aload_n C kd_Ps_coil_48 rfl 0 rfl rfl ?_
  refine zs_get (v := .ref (S.1 12)) C 19 2 rfl rfl rfl rfl ki_Ps (by decide) kw203 kd_Ps_coil_49 rfl ?_
  refine zs_get (v := .ref (S.1 16)) C 12 3 rfl rfl rfl rfl ki_Tr (by decide) kw166 kd_Ps_coil_52 rfl ?_
  refine zk_iload_n C kd_Ps_coil_55 rfl 1 rfl rfl ?_
  refine zk_aload_n C kd_Ps_coil_56 rfl 0 rfl rfl ?_
  refine zs_get (v := .int (h.1 19 5)) C 19 5 rfl rfl rfl rfl ki_Ps (by decide) kw206 kd_Ps_coil_57 rfl ?_
  refine zk_bipush (v := 47) C kd_Ps_coil_60 (by decide) rfl ?_
  refine zk_icmp_ne (tgt := 69) C kd_Ps_coil_62 (by decide) rfl (fun b1 => ?_) (fun b1 => ?_)
  · replace e := zd_neg b1 e
    refine zk_aload_n C kd_Ps_coil_69 rfl 0 rfl rfl ?_
    refine zs_get (v := .int (h.1 19 5)) C 19 5 rfl rfl rfl rfl ki_Ps (by decide) kw206 kd_Ps_coil_70 rfl ?_
    refine zk_bipush (v := 43) C kd_Ps_coil_73 (by decide) rfl ?_
    refine zk_icmp_ne (tgt := 82) C kd_Ps_coil_75 (by decide) rfl (fun b2 => ?_) (fun b2 => ?_)
    · replace e := zd_neg b2 e
      refine zk_iconst (v := 3) C kd_Ps_coil_82 (by decide) rfl ?_
      refine zk_lvs (lv' := [(0, .ref (S.1 19)), (1, .int x1)]) [0, 1] rfl ?_
      exact zb_Ps_coil_83 C hR h x1 3 x1 e
    · replace e := zd_pos b2 e
      refine zk_iconst (v := 2) C kd_Ps_coil_78 (by decide) rfl ?_
      refine zk_goto (tgt := 83) C kd_Ps_coil_79 (by decide) ?_
      refine zk_lvs (lv' := [(0, .ref (S.1 19)), (1, .int x1)]) [0, 1] rfl ?_
      exact zb_Ps_coil_83 C hR h x1 2 x1 e
  · replace e := zd_pos b1 e
    refine zk_iconst (v := 1) C kd_Ps_coil_65 (by decide) rfl ?_
    refine zk_goto (tgt := 83) C kd_Ps_coil_66 (by decide) ?_
    refine zk_lvs (lv' := [(0, .ref (S.1 19)), (1, .int x1)]) [0, 1] rfl ?_
    exact zb_Ps_coil_83 C hR h x1 1 x1 e
set_option maxHeartbeats 4000000 in
set_option maxRecDepth 100000 in
theorem zc_Ps_coil {l : Launch} {D : va_G} {sz0 : Nat} {S : zs_T} {P : ze_T} (h : zs_H) {rv : Int32} {rh : zs_H} (e : f_Ps_coil h = some (rv, rh)) : zk_Sp (zs_G S l D sz0) (ze_E P) km_Ps_coil { frames := 2, cells := 0, slots := 0, locals := 47 } [.ref (S.1 19)] (zs_W S h) (zd_PI S rv rh) := by
  refine zk_met ku_Ps_coil (Nat.le_of_ble_eq_true rfl) (ze_Em P) ?_
  intro X C hR
  refine zk_lvs (lv' := [(0, .ref (S.1 19))]) [0] rfl ?_
  unfold f_Ps_coil at e
  refine zk_aload_n C kd_Ps_coil_0 rfl 0 rfl rfl ?_
  refine zs_get (v := .ref (S.1 12)) C 19 2 rfl rfl rfl rfl ki_Ps (by decide) kw203 kd_Ps_coil_1 rfl ?_
  refine zk_bipush (v := 28) C kd_Ps_coil_4 (by decide) rfl ?_
  refine zk_aload_n C kd_Ps_coil_6 rfl 0 rfl rfl ?_
  refine zs_get (v := .int (h.1 19 6)) C 19 6 rfl rfl rfl rfl ki_Ps (by decide) kw207 kd_Ps_coil_7 rfl ?_
  refine zk_iconst (v := 0) C kd_Ps_coil_10 (by decide) rfl ?_
  obtain ⟨v2, h3, c1, e⟩ := zd_Be e
  refine zs_callV (k := 12) (rn := { frames := 1, cells := 0, slots := 0, locals := 23 }) (As := [.int 28, .int (h.1 19 6), .int 0]) (rest := []) C (zc_Tr_add h 28 (h.1 19 6) 0 c1) ku_Tr_add kw866 kv_Tr_add rfl ⟨by decide, by decide⟩ ⟨by decide, by decide⟩ rfl rfl rfl (Nat.le_of_ble_eq_true rfl) kd_Ps_coil_11 rfl (c1 := 0) (s1 := 0) rfl rfl (fun v w hp => ?_)
  obtain ⟨rfl, rfl⟩ := hp
  refine zk_stk (r' := [.int v2]) rfl ?_
  refine zk_istore_n (lv' := [(1, _), (0, _)]) C kd_Ps_coil_14 rfl (by decide) rfl rfl ?_
  refine zk_aload_n C kd_Ps_coil_15 rfl 1 rfl rfl ?_
  refine zk_bipush (v := 40) C kd_Ps_coil_16 (by decide) rfl ?_
  obtain ⟨h5, c4, e⟩ := zd_b e
  refine zs_callV (k := 19) (rn := { frames := 0, cells := 0, slots := 0, locals := 0 }) (As := [.int 40]) (rest := []) C (zc_Ps_take h3 40 c4) ku_Ps_take kw876 kv_Ps_take rfl ⟨by decide, by decide⟩ ⟨by decide, by decide⟩ rfl rfl rfl (Nat.le_of_ble_eq_true rfl) kd_Ps_coil_18 rfl (c1 := 0) (s1 := 0) rfl rfl (fun v w hp => ?_)
  obtain ⟨rfl, rfl⟩ := hp
  refine zk_stk (r' := []) rfl ?_
  refine zk_aload_n C kd_Ps_coil_21 rfl 1 rfl rfl ?_
  refine zs_get (v := .int (h5.1 19 5)) C 19 5 rfl rfl rfl rfl ki_Ps (by decide) kw206 kd_Ps_coil_22 rfl ?_
  refine zk_bipush (v := 47) C kd_Ps_coil_25 (by decide) rfl ?_
  refine zk_icmp_eq (tgt := 48) C kd_Ps_coil_27 (by decide) rfl (fun b6 => ?_) (fun b6 => ?_)
  · replace e := zd_pos b6 e
    refine zk_lvs (lv' := [(0, .ref (S.1 19)), (1, .int v2)]) [1, 0] rfl ?_
    exact zb_Ps_coil_48 C hR h5 v2 e
  · replace e := zd_neg b6 e
    refine zk_aload_n C kd_Ps_coil_30 rfl 1 rfl rfl ?_
    refine zs_get (v := .int (h5.1 19 5)) C 19 5 rfl rfl rfl rfl ki_Ps (by decide) kw206 kd_Ps_coil_31 rfl ?_
    refine zk_bipush (v := 43) C kd_Ps_coil_34 (by decide) rfl ?_
    refine zk_icmp_eq (tgt := 48) C kd_Ps_coil_36 (by decide) rfl (fun b7 => ?_) (fun b7 => ?_)
    · replace e := zd_pos b7 e
      refine zk_lvs (lv' := [(0, .ref (S.1 19)), (1, .int v2)]) [1, 0] rfl ?_
      exact zb_Ps_coil_48 C hR h5 v2 e
    · replace e := zd_neg b7 e
      refine zk_aload_n C kd_Ps_coil_39 rfl 1 rfl rfl ?_
      refine zs_get (v := .int (h5.1 19 5)) C 19 5 rfl rfl rfl rfl ki_Ps (by decide) kw206 kd_Ps_coil_40 rfl ?_
      refine zk_bipush (v := 45) C kd_Ps_coil_43 (by decide) rfl ?_
      refine zk_icmp_ne (tgt := 92) C kd_Ps_coil_45 (by decide) rfl (fun b8 => ?_) (fun b8 => ?_)
      · replace e := zd_neg b8 e
        refine zk_lvs (lv' := [(0, .ref (S.1 19)), (1, .int v2)]) [1, 0] rfl ?_
        exact zb_Ps_coil_92 C hR h5 v2 e
      · replace e := zd_pos b8 e
        refine zk_lvs (lv' := [(0, .ref (S.1 19)), (1, .int v2)]) [1, 0] rfl ?_
        exact zb_Ps_coil_48 C hR h5 v2 e
set_option maxHeartbeats 4000000 in
set_option maxRecDepth 100000 in
theorem zc_Ps_isCell {l : Launch} {D : va_G} {sz0 : Nat} {S : zs_T} {P : ze_T} (h : zs_H) : zk_Sp (zs_G S l D sz0) (ze_E P) km_Ps_isCell { frames := 0, cells := 0, slots := 0, locals := 0 } [.ref (S.1 19)] (zs_W S h) (zd_PZ S (f_Ps_isCell h) h) := by
  obtain ⟨rv, e⟩ : ∃ rv, f_Ps_isCell h = rv := ⟨_, rfl⟩
  rw [e]
  refine zk_met ku_Ps_isCell (Nat.le_of_ble_eq_true rfl) (ze_Em P) ?_
  intro X C hR
  refine zk_lvs (lv' := [(0, .ref (S.1 19))]) [0] rfl ?_
  unfold f_Ps_isCell at e
  refine zk_aload_n C kd_Ps_isCell_0 rfl 0 rfl rfl ?_
  refine zs_get (v := .int (h.1 19 5)) C 19 5 rfl rfl rfl rfl ki_Ps (by decide) kw206 kd_Ps_isCell_1 rfl ?_
  refine zk_bipush (v := 8) C kd_Ps_isCell_4 (by decide) rfl ?_
  refine zk_icmp_eq (tgt := 63) C kd_Ps_isCell_6 (by decide) rfl (fun b1 => ?_) (fun b1 => ?_)
  · replace e := zd_pos b1 e
    refine zk_iconst (v := 1) C kd_Ps_isCell_63 (by decide) rfl ?_
    refine zk_goto (tgt := 68) C kd_Ps_isCell_64 (by decide) ?_
    exact zk_zret C hR (zd_nb (Or.inr rfl)) kd_Ps_isCell_68 rfl rfl (zd_rZT (Or.inr rfl) e)
  · replace e := zd_neg b1 e
    refine zk_aload_n C kd_Ps_isCell_9 rfl 0 rfl rfl ?_
    refine zs_get (v := .int (h.1 19 5)) C 19 5 rfl rfl rfl rfl ki_Ps (by decide) kw206 kd_Ps_isCell_10 rfl ?_
    refine zk_bipush (v := 47) C kd_Ps_isCell_13 (by decide) rfl ?_
    refine zk_icmp_eq (tgt := 63) C kd_Ps_isCell_15 (by decide) rfl (fun b2 => ?_) (fun b2 => ?_)
    · replace e := zd_pos b2 e
      refine zk_iconst (v := 1) C kd_Ps_isCell_63 (by decide) rfl ?_
      refine zk_goto (tgt := 68) C kd_Ps_isCell_64 (by decide) ?_
      exact zk_zret C hR (zd_nb (Or.inr rfl)) kd_Ps_isCell_68 rfl rfl (zd_rZT (Or.inr rfl) e)
    · replace e := zd_neg b2 e
      refine zk_aload_n C kd_Ps_isCell_18 rfl 0 rfl rfl ?_
      refine zs_get (v := .int (h.1 19 5)) C 19 5 rfl rfl rfl rfl ki_Ps (by decide) kw206 kd_Ps_isCell_19 rfl ?_
      refine zk_bipush (v := 62) C kd_Ps_isCell_22 (by decide) rfl ?_
      refine zk_icmp_eq (tgt := 63) C kd_Ps_isCell_24 (by decide) rfl (fun b3 => ?_) (fun b3 => ?_)
      · replace e := zd_pos b3 e
        refine zk_iconst (v := 1) C kd_Ps_isCell_63 (by decide) rfl ?_
        refine zk_goto (tgt := 68) C kd_Ps_isCell_64 (by decide) ?_
        exact zk_zret C hR (zd_nb (Or.inr rfl)) kd_Ps_isCell_68 rfl rfl (zd_rZT (Or.inr rfl) e)
      · replace e := zd_neg b3 e
        refine zk_aload_n C kd_Ps_isCell_27 rfl 0 rfl rfl ?_
        refine zs_get (v := .int (h.1 19 5)) C 19 5 rfl rfl rfl rfl ki_Ps (by decide) kw206 kd_Ps_isCell_28 rfl ?_
        refine zk_bipush (v := 60) C kd_Ps_isCell_31 (by decide) rfl ?_
        refine zk_icmp_eq (tgt := 63) C kd_Ps_isCell_33 (by decide) rfl (fun b4 => ?_) (fun b4 => ?_)
        · replace e := zd_pos b4 e
          refine zk_iconst (v := 1) C kd_Ps_isCell_63 (by decide) rfl ?_
          refine zk_goto (tgt := 68) C kd_Ps_isCell_64 (by decide) ?_
          exact zk_zret C hR (zd_nb (Or.inr rfl)) kd_Ps_isCell_68 rfl rfl (zd_rZT (Or.inr rfl) e)
        · replace e := zd_neg b4 e
          refine zk_aload_n C kd_Ps_isCell_36 rfl 0 rfl rfl ?_
          refine zs_get (v := .int (h.1 19 5)) C 19 5 rfl rfl rfl rfl ki_Ps (by decide) kw206 kd_Ps_isCell_37 rfl ?_
          refine zk_bipush (v := 45) C kd_Ps_isCell_40 (by decide) rfl ?_
          refine zk_icmp_eq (tgt := 63) C kd_Ps_isCell_42 (by decide) rfl (fun b5 => ?_) (fun b5 => ?_)
          · replace e := zd_pos b5 e
            refine zk_iconst (v := 1) C kd_Ps_isCell_63 (by decide) rfl ?_
            refine zk_goto (tgt := 68) C kd_Ps_isCell_64 (by decide) ?_
            exact zk_zret C hR (zd_nb (Or.inr rfl)) kd_Ps_isCell_68 rfl rfl (zd_rZT (Or.inr rfl) e)
          · replace e := zd_neg b5 e
            refine zk_aload_n C kd_Ps_isCell_45 rfl 0 rfl rfl ?_
            refine zs_get (v := .int (h.1 19 5)) C 19 5 rfl rfl rfl rfl ki_Ps (by decide) kw206 kd_Ps_isCell_46 rfl ?_
            refine zk_bipush (v := 42) C kd_Ps_isCell_49 (by decide) rfl ?_
            refine zk_icmp_eq (tgt := 63) C kd_Ps_isCell_51 (by decide) rfl (fun b6 => ?_) (fun b6 => ?_)
            · replace e := zd_pos b6 e
              refine zk_iconst (v := 1) C kd_Ps_isCell_63 (by decide) rfl ?_
              refine zk_goto (tgt := 68) C kd_Ps_isCell_64 (by decide) ?_
              exact zk_zret C hR (zd_nb (Or.inr rfl)) kd_Ps_isCell_68 rfl rfl (zd_rZT (Or.inr rfl) e)
            · replace e := zd_neg b6 e
              refine zk_aload_n C kd_Ps_isCell_54 rfl 0 rfl rfl ?_
              refine zs_get (v := .int (h.1 19 5)) C 19 5 rfl rfl rfl rfl ki_Ps (by decide) kw206 kd_Ps_isCell_55 rfl ?_
              refine zk_bipush (v := 40) C kd_Ps_isCell_58 (by decide) rfl ?_
              refine zk_icmp_ne (tgt := 67) C kd_Ps_isCell_60 (by decide) rfl (fun b7 => ?_) (fun b7 => ?_)
              · replace e := zd_neg b7 e
                refine zk_iconst (v := 0) C kd_Ps_isCell_67 (by decide) rfl ?_
                exact zk_zret C hR (zd_nb (Or.inl rfl)) kd_Ps_isCell_68 rfl rfl (zd_rZT (Or.inl rfl) e)
              · replace e := zd_pos b7 e
                refine zk_iconst (v := 1) C kd_Ps_isCell_63 (by decide) rfl ?_
                refine zk_goto (tgt := 68) C kd_Ps_isCell_64 (by decide) ?_
                exact zk_zret C hR (zd_nb (Or.inr rfl)) kd_Ps_isCell_68 rfl rfl (zd_rZT (Or.inr rfl) e)
set_option maxHeartbeats 4000000 in
set_option maxRecDepth 100000 in
theorem zb_Ps_ladderCell_52 {X : zkj_T} {S : zs_T} {P : ze_T} {l : Launch} {D : va_G} {sz0 : Nat} {rv : Int32} {rh : zs_H} (C : zk_C X km_Ps_ladderCell (zs_G S l D sz0) { frames := 3, cells := 0, slots := 0, locals := 68 } (ze_E P)) (hR : zkj_R X (zd_PI S rv rh) (some .int)) (h : zs_H) (y0 : Int32) (e : f_Ps_ladderCell_52 h y0 = some (rv, rh)) : zk_Ab X (zs_W S h) 0 0 52 [(0, .ref (S.1 19))] [.int y0, .ref (S.1 12)] := by
  unfold f_Ps_ladderCell_52 at e
  refine zk_aload_n C kd_Ps_ladderCell_52 rfl 0 rfl rfl ?_
  refine zs_get (v := .int (h.1 19 6)) C 19 6 rfl rfl rfl rfl ki_Ps (by decide) kw207 kd_Ps_ladderCell_53 rfl ?_
  refine zk_iconst (v := 0) C kd_Ps_ladderCell_56 (by decide) rfl ?_
  obtain ⟨v2, h3, c1, e⟩ := zd_Be e
  refine zs_callV (k := 12) (rn := { frames := 1, cells := 0, slots := 0, locals := 23 }) (As := [.int y0, .int (h.1 19 6), .int 0]) (rest := []) C (zc_Tr_add h y0 (h.1 19 6) 0 c1) ku_Tr_add kw866 kv_Tr_add rfl ⟨by decide, by decide⟩ ⟨by decide, by decide⟩ rfl rfl rfl (Nat.le_of_ble_eq_true rfl) kd_Ps_ladderCell_57 rfl (c1 := 0) (s1 := 0) rfl rfl (fun v w hp => ?_)
  obtain ⟨rfl, rfl⟩ := hp
  refine zk_stk (r' := [.int v2]) rfl ?_
  refine zk_istore_n (lv' := [(1, _), (0, _)]) C kd_Ps_ladderCell_60 rfl (by decide) rfl rfl ?_
  refine zk_aload_n C kd_Ps_ladderCell_61 rfl 1 rfl rfl ?_
  refine zk_aload_n C kd_Ps_ladderCell_62 rfl 1 rfl rfl ?_
  refine zs_get (v := .int (h3.1 19 5)) C 19 5 rfl rfl rfl rfl ki_Ps (by decide) kw206 kd_Ps_ladderCell_63 rfl ?_
  obtain ⟨h5, c4, e⟩ := zd_b e
  refine zs_callV (k := 19) (rn := { frames := 0, cells := 0, slots := 0, locals := 0 }) (As := [.int (h3.1 19 5)]) (rest := []) C (zc_Ps_take h3 (h3.1 19 5) c4) ku_Ps_take kw876 kv_Ps_take rfl ⟨by decide, by decide⟩ ⟨by decide, by decide⟩ rfl rfl rfl (Nat.le_of_ble_eq_true rfl) kd_Ps_ladderCell_66 rfl (c1 := 0) (s1 := 0) rfl rfl (fun v w hp => ?_)
  obtain ⟨rfl, rfl⟩ := hp
  refine zk_stk (r' := []) rfl ?_
  refine zk_iload_n C kd_Ps_ladderCell_69 rfl 0 rfl rfl ?_
  exact zk_iret C hR kd_Ps_ladderCell_70 rfl rfl (zd_rIS e)
set_option maxHeartbeats 4000000 in
set_option maxRecDepth 100000 in
theorem zb_Ps_ladderCell_32 {X : zkj_T} {S : zs_T} {P : ze_T} {l : Launch} {D : va_G} {sz0 : Nat} {rv : Int32} {rh : zs_H} (C : zk_C X km_Ps_ladderCell (zs_G S l D sz0) { frames := 3, cells := 0, slots := 0, locals := 68 } (ze_E P)) (hR : zkj_R X (zd_PI S rv rh) (some .int)) (h : zs_H) (e : f_Ps_ladderCell_32 h = some (rv, rh)) : zk_Ab X (zs_W S h) 0 0 32 [(0, .ref (S.1 19))] [] := by
  unfold f_Ps_ladderCell_32 at e
  refine zk_aload_n C kd_Ps_ladderCell_32 rfl 0 rfl rfl ?_
  refine zs_get (v := .ref (S.1 12)) C 19 2 rfl rfl rfl rfl ki_Ps (by decide) kw203 kd_Ps_ladderCell_33 rfl ?_
  refine zk_aload_n C kd_Ps_ladderCell_36 rfl 0 rfl rfl ?_
  refine zs_get (v := .int (h.1 19 5)) C 19 5 rfl rfl rfl rfl ki_Ps (by decide) kw206 kd_Ps_ladderCell_37 rfl ?_
  refine zk_bipush (v := 45) C kd_Ps_ladderCell_40 (by decide) rfl ?_
  refine zk_icmp_ne (tgt := 50) C kd_Ps_ladderCell_42 (by decide) rfl (fun b1 => ?_) (fun b1 => ?_)
  · replace e := zd_neg b1 e
    refine zk_bipush (v := 27) C kd_Ps_ladderCell_50 (by decide) rfl ?_
    refine zk_lvs (lv' := [(0, .ref (S.1 19))]) [0] rfl ?_
    exact zb_Ps_ladderCell_52 C hR h 27 e
  · replace e := zd_pos b1 e
    refine zk_bipush (v := 26) C kd_Ps_ladderCell_45 (by decide) rfl ?_
    refine zk_goto (tgt := 52) C kd_Ps_ladderCell_47 (by decide) ?_
    refine zk_lvs (lv' := [(0, .ref (S.1 19))]) [0] rfl ?_
    exact zb_Ps_ladderCell_52 C hR h 26 e
set_option maxHeartbeats 4000000 in
set_option maxRecDepth 100000 in
theorem zb_Ps_ladderCell_153 {X : zkj_T} {S : zs_T} {P : ze_T} {l : Launch} {D : va_G} {sz0 : Nat} {rv : Int32} {rh : zs_H} (C : zk_C X km_Ps_ladderCell (zs_G S l D sz0) { frames := 3, cells := 0, slots := 0, locals := 68 } (ze_E P)) (hR : zkj_R X (zd_PI S rv rh) (some .int)) (h : zs_H) (x1 : Int32) (e : f_Ps_ladderCell_153 h x1 = some (rv, rh)) : zk_Ab X (zs_W S h) 0 0 153 [(0, .ref (S.1 19)), (1, .int x1)] [] := by
  unfold f_Ps_ladderCell_153 at e
  refine zk_aload_n C kd_Ps_ladderCell_153 rfl 0 rfl rfl ?_
  refine zs_get (v := .ref (S.1 12)) C 19 2 rfl rfl rfl rfl ki_Ps (by decide) kw203 kd_Ps_ladderCell_154 rfl ?_
  refine zk_bipush (v := 6) C kd_Ps_ladderCell_157 (by decide) rfl ?_
  refine zk_aload_n C kd_Ps_ladderCell_159 rfl 0 rfl rfl ?_
  refine zs_get (v := .int (h.1 19 6)) C 19 6 rfl rfl rfl rfl ki_Ps (by decide) kw207 kd_Ps_ladderCell_160 rfl ?_
  refine zk_aload_n C kd_Ps_ladderCell_163 rfl 0 rfl rfl ?_
  refine zs_get (v := .ref (S.1 8)) C 19 1 rfl rfl rfl rfl ki_Ps (by decide) kw202 kd_Ps_ladderCell_164 rfl ?_
  refine zs_get (v := .ref (S.1 11)) C 8 2 rfl rfl rfl rfl ki_Tk (by decide) kw123 kd_Ps_ladderCell_167 rfl ?_
  refine zk_aload_n C kd_Ps_ladderCell_170 rfl 0 rfl rfl ?_
  refine zs_get (v := .int (h.1 19 4)) C 19 4 rfl rfl rfl rfl ki_Ps (by decide) kw205 kd_Ps_ladderCell_171 rfl ?_
  obtain ⟨q1, e⟩ := zd_g e
  refine zs_iald C 11 rfl (zd_vp q1) kd_Ps_ladderCell_174 rfl ?_
  obtain ⟨v3, h4, c2, e⟩ := zd_Be e
  refine zs_callV (k := 12) (rn := { frames := 1, cells := 0, slots := 0, locals := 23 }) (As := [.int 6, .int (h.1 19 6), .int (h.2.1 11 (h.1 19 4).toNatClampNeg)]) (rest := []) C (zc_Tr_add h 6 (h.1 19 6) (h.2.1 11 (h.1 19 4).toNatClampNeg) c2) ku_Tr_add kw866 kv_Tr_add rfl ⟨by decide, by decide⟩ ⟨by decide, by decide⟩ rfl rfl rfl (Nat.le_of_ble_eq_true rfl) kd_Ps_ladderCell_175 rfl (c1 := 0) (s1 := 0) rfl rfl (fun v w hp => ?_)
  obtain ⟨rfl, rfl⟩ := hp
  refine zk_stk (r' := [.int v3]) rfl ?_
  refine zk_istore_n (lv' := [(2, _), (0, _), (1, _)]) C kd_Ps_ladderCell_178 rfl (by decide) rfl rfl ?_
  refine zk_aload_n C kd_Ps_ladderCell_179 rfl 1 rfl rfl ?_
  refine zk_bipush (v := 8) C kd_Ps_ladderCell_180 (by decide) rfl ?_
  obtain ⟨h6, c5, e⟩ := zd_b e
  refine zs_callV (k := 19) (rn := { frames := 0, cells := 0, slots := 0, locals := 0 }) (As := [.int 8]) (rest := []) C (zc_Ps_take h4 8 c5) ku_Ps_take kw876 kv_Ps_take rfl ⟨by decide, by decide⟩ ⟨by decide, by decide⟩ rfl rfl rfl (Nat.le_of_ble_eq_true rfl) kd_Ps_ladderCell_182 rfl (c1 := 0) (s1 := 0) rfl rfl (fun v w hp => ?_)
  obtain ⟨rfl, rfl⟩ := hp
  refine zk_stk (r' := []) rfl ?_
  refine zk_aload_n C kd_Ps_ladderCell_185 rfl 1 rfl rfl ?_
  refine zs_get (v := .ref (S.1 12)) C 19 2 rfl rfl rfl rfl ki_Ps (by decide) kw203 kd_Ps_ladderCell_186 rfl ?_
  refine zk_iload_n C kd_Ps_ladderCell_189 rfl 2 rfl rfl ?_
  refine zk_iconst (v := (-1)) C kd_Ps_ladderCell_190 (by decide) rfl ?_
  refine zk_iload_n C kd_Ps_ladderCell_191 rfl 0 rfl rfl ?_
  obtain ⟨v8, h9, c7, e⟩ := zd_Be e
  refine zs_callV (k := 12) (rn := { frames := 0, cells := 0, slots := 0, locals := 0 }) (As := [.int x1, .int (-1), .int v3]) (rest := []) C (zc_Tr_hang h6 x1 (-1) v3 c7) ku_Tr_hang kw884 kv_Tr_hang rfl ⟨by decide, by decide⟩ ⟨by decide, by decide⟩ rfl rfl rfl (Nat.le_of_ble_eq_true rfl) kd_Ps_ladderCell_192 rfl (c1 := 0) (s1 := 0) rfl rfl (fun v w hp => ?_)
  obtain ⟨rfl, rfl⟩ := hp
  refine zk_stk (r' := [.int v8]) rfl ?_
  refine zk_pop C kd_Ps_ladderCell_195 rfl rfl ?_
  refine zk_aload_n C kd_Ps_ladderCell_196 rfl 1 rfl rfl ?_
  refine zs_get (v := .int (h9.1 19 5)) C 19 5 rfl rfl rfl rfl ki_Ps (by decide) kw206 kd_Ps_ladderCell_197 rfl ?_
  refine zk_bipush (v := 46) C kd_Ps_ladderCell_200 (by decide) rfl ?_
  refine zk_icmp_ne (tgt := 263) C kd_Ps_ladderCell_202 (by decide) rfl (fun b10 => ?_) (fun b10 => ?_)
  · replace e := zd_neg b10 e
    refine zk_iload_n C kd_Ps_ladderCell_263 rfl 2 rfl rfl ?_
    exact zk_iret C hR kd_Ps_ladderCell_264 rfl rfl (zd_rIS e)
  · replace e := zd_pos b10 e
    refine zk_aload_n C kd_Ps_ladderCell_205 rfl 1 rfl rfl ?_
    refine zs_get (v := .ref (S.1 12)) C 19 2 rfl rfl rfl rfl ki_Ps (by decide) kw203 kd_Ps_ladderCell_206 rfl ?_
    refine zs_get (v := .ref (S.1 13)) C 12 0 rfl rfl rfl rfl ki_Tr (by decide) kw158 kd_Ps_ladderCell_209 rfl ?_
    refine zk_iload_n C kd_Ps_ladderCell_212 rfl 0 rfl rfl ?_
    refine zk_bipush (v := 33) C kd_Ps_ladderCell_213 (by decide) rfl ?_
    obtain ⟨q11, e⟩ := zd_g e
    refine zs_bast C 13 rfl (zd_vp q11) kd_Ps_ladderCell_215 rfl ?_
    refine zk_aload_n C kd_Ps_ladderCell_216 rfl 1 rfl rfl ?_
    refine zk_bipush (v := 46) C kd_Ps_ladderCell_217 (by decide) rfl ?_
    obtain ⟨h13, c12, e⟩ := zd_b e
    refine zs_callV (k := 19) (rn := { frames := 0, cells := 0, slots := 0, locals := 0 }) (As := [.int 46]) (rest := []) C (zc_Ps_take (zs_uM h9 13 v3.toNatClampNeg (vp_nar .byte 33)) 46 c12) ku_Ps_take kw876 kv_Ps_take rfl ⟨by decide, by decide⟩ ⟨by decide, by decide⟩ rfl rfl rfl (Nat.le_of_ble_eq_true rfl) kd_Ps_ladderCell_219 rfl (c1 := 0) (s1 := 0) rfl rfl (fun v w hp => ?_)
    obtain ⟨rfl, rfl⟩ := hp
    refine zk_stk (r' := []) rfl ?_
    refine zk_aload_n C kd_Ps_ladderCell_222 rfl 1 rfl rfl ?_
    refine zs_get (v := .ref (S.1 12)) C 19 2 rfl rfl rfl rfl ki_Ps (by decide) kw203 kd_Ps_ladderCell_223 rfl ?_
    refine zk_iload_n C kd_Ps_ladderCell_226 rfl 0 rfl rfl ?_
    refine zk_iconst (v := (-1)) C kd_Ps_ladderCell_227 (by decide) rfl ?_
    refine zk_aload_n C kd_Ps_ladderCell_228 rfl 1 rfl rfl ?_
    refine zs_get (v := .ref (S.1 12)) C 19 2 rfl rfl rfl rfl ki_Ps (by decide) kw203 kd_Ps_ladderCell_229 rfl ?_
    refine zk_bipush (v := 38) C kd_Ps_ladderCell_232 (by decide) rfl ?_
    refine zk_aload_n C kd_Ps_ladderCell_234 rfl 1 rfl rfl ?_
    refine zs_get (v := .int (h13.1 19 6)) C 19 6 rfl rfl rfl rfl ki_Ps (by decide) kw207 kd_Ps_ladderCell_235 rfl ?_
    refine zk_aload_n C kd_Ps_ladderCell_238 rfl 1 rfl rfl ?_
    refine zs_get (v := .ref (S.1 8)) C 19 1 rfl rfl rfl rfl ki_Ps (by decide) kw202 kd_Ps_ladderCell_239 rfl ?_
    refine zs_get (v := .ref (S.1 11)) C 8 2 rfl rfl rfl rfl ki_Tk (by decide) kw123 kd_Ps_ladderCell_242 rfl ?_
    refine zk_aload_n C kd_Ps_ladderCell_245 rfl 1 rfl rfl ?_
    refine zs_get (v := .int (h13.1 19 4)) C 19 4 rfl rfl rfl rfl ki_Ps (by decide) kw205 kd_Ps_ladderCell_246 rfl ?_
    obtain ⟨q14, e⟩ := zd_g e
    refine zs_iald C 11 rfl (zd_vp q14) kd_Ps_ladderCell_249 rfl ?_
    obtain ⟨v16, h17, c15, e⟩ := zd_Be e
    refine zs_callV (k := 12) (rn := { frames := 1, cells := 0, slots := 0, locals := 23 }) (As := [.int 38, .int (h13.1 19 6), .int (h13.2.1 11 (h13.1 19 4).toNatClampNeg)]) (rest := [.int (-1), .int v3, .ref (S.1 12)]) C (zc_Tr_add h13 38 (h13.1 19 6) (h13.2.1 11 (h13.1 19 4).toNatClampNeg) c15) ku_Tr_add kw866 kv_Tr_add rfl ⟨by decide, by decide⟩ ⟨by decide, by decide⟩ rfl rfl rfl (Nat.le_of_ble_eq_true rfl) kd_Ps_ladderCell_250 rfl (c1 := 0) (s1 := 0) rfl rfl (fun v w hp => ?_)
    obtain ⟨rfl, rfl⟩ := hp
    refine zk_stk (r' := [.int v16, .int (-1), .int v3, .ref (S.1 12)]) rfl ?_
    obtain ⟨v19, h20, c18, e⟩ := zd_Be e
    refine zs_callV (k := 12) (rn := { frames := 0, cells := 0, slots := 0, locals := 0 }) (As := [.int v3, .int (-1), .int v16]) (rest := []) C (zc_Tr_hang h17 v3 (-1) v16 c18) ku_Tr_hang kw884 kv_Tr_hang rfl ⟨by decide, by decide⟩ ⟨by decide, by decide⟩ rfl rfl rfl (Nat.le_of_ble_eq_true rfl) kd_Ps_ladderCell_253 rfl (c1 := 0) (s1 := 0) rfl rfl (fun v w hp => ?_)
    obtain ⟨rfl, rfl⟩ := hp
    refine zk_stk (r' := [.int v19]) rfl ?_
    refine zk_pop C kd_Ps_ladderCell_256 rfl rfl ?_
    refine zk_aload_n C kd_Ps_ladderCell_257 rfl 1 rfl rfl ?_
    refine zk_bipush (v := 8) C kd_Ps_ladderCell_258 (by decide) rfl ?_
    obtain ⟨h22, c21, e⟩ := zd_b e
    refine zs_callV (k := 19) (rn := { frames := 0, cells := 0, slots := 0, locals := 0 }) (As := [.int 8]) (rest := []) C (zc_Ps_take h20 8 c21) ku_Ps_take kw876 kv_Ps_take rfl ⟨by decide, by decide⟩ ⟨by decide, by decide⟩ rfl rfl rfl (Nat.le_of_ble_eq_true rfl) kd_Ps_ladderCell_260 rfl (c1 := 0) (s1 := 0) rfl rfl (fun v w hp => ?_)
    obtain ⟨rfl, rfl⟩ := hp
    refine zk_stk (r' := []) rfl ?_
    refine zk_iload_n C kd_Ps_ladderCell_263 rfl 2 rfl rfl ?_
    exact zk_iret C hR kd_Ps_ladderCell_264 rfl rfl (zd_rIS e)
set_option maxHeartbeats 4000000 in
set_option maxRecDepth 100000 in
theorem zb_Ps_ladderCell_150 {X : zkj_T} {S : zs_T} {P : ze_T} {l : Launch} {D : va_G} {sz0 : Nat} {rv : Int32} {rh : zs_H} (C : zk_C X km_Ps_ladderCell (zs_G S l D sz0) { frames := 3, cells := 0, slots := 0, locals := 68 } (ze_E P)) (hR : zkj_R X (zd_PI S rv rh) (some .int)) (h : zs_H) (x1 : Int32) (y0 : Int32) (e : f_Ps_ladderCell_150 h x1 y0 = some (rv, rh)) : zk_Ab X (zs_W S h) 0 0 150 [(0, .ref (S.1 19)), (1, .int x1)] [.int y0, .ref (S.1 19)] := by
  unfold f_Ps_ladderCell_150 at e
  obtain ⟨h2, c1, e⟩ := zd_b e
  refine zs_callV (k := 19) (rn := { frames := 0, cells := 0, slots := 0, locals := 0 }) (As := [.int y0]) (rest := []) C (zc_Ps_take h y0 c1) ku_Ps_take kw876 kv_Ps_take rfl ⟨by decide, by decide⟩ ⟨by decide, by decide⟩ rfl rfl rfl (Nat.le_of_ble_eq_true rfl) kd_Ps_ladderCell_150 rfl (c1 := 0) (s1 := 0) rfl rfl (fun v w hp => ?_)
  obtain ⟨rfl, rfl⟩ := hp
  refine zk_stk (r' := []) rfl ?_
  refine zk_lvs (lv' := [(0, .ref (S.1 19)), (1, .int x1)]) [0, 1] rfl ?_
  exact zb_Ps_ladderCell_153 C hR h2 x1 e
set_option maxHeartbeats 4000000 in
set_option maxRecDepth 100000 in
theorem zb_Ps_ladderCell_121 {X : zkj_T} {S : zs_T} {P : ze_T} {l : Launch} {D : va_G} {sz0 : Nat} {rv : Int32} {rh : zs_H} (C : zk_C X km_Ps_ladderCell (zs_G S l D sz0) { frames := 3, cells := 0, slots := 0, locals := 68 } (ze_E P)) (hR : zkj_R X (zd_PI S rv rh) (some .int)) (h : zs_H) (y0 : Int32) (y1 : Int32) (y2 : Int32) (e : f_Ps_ladderCell_121 h y0 y1 y2 = some (rv, rh)) : zk_Ab X (zs_W S h) 0 0 121 [(0, .ref (S.1 19))] [.int y0, .int y1, .int y2, .ref (S.1 12)] := by
  unfold f_Ps_ladderCell_121 at e
  obtain ⟨v2, h3, c1, e⟩ := zd_Be e
  refine zs_callV (k := 12) (rn := { frames := 1, cells := 0, slots := 0, locals := 23 }) (As := [.int y2, .int y1, .int y0]) (rest := []) C (zc_Tr_add h y2 y1 y0 c1) ku_Tr_add kw866 kv_Tr_add rfl ⟨by decide, by decide⟩ ⟨by decide, by decide⟩ rfl rfl rfl (Nat.le_of_ble_eq_true rfl) kd_Ps_ladderCell_121 rfl (c1 := 0) (s1 := 0) rfl rfl (fun v w hp => ?_)
  obtain ⟨rfl, rfl⟩ := hp
  refine zk_stk (r' := [.int v2]) rfl ?_
  refine zk_istore_n (lv' := [(1, _), (0, _)]) C kd_Ps_ladderCell_124 rfl (by decide) rfl rfl ?_
  refine zk_aload_n C kd_Ps_ladderCell_125 rfl 1 rfl rfl ?_
  refine zs_get (v := .int (h3.1 19 5)) C 19 5 rfl rfl rfl rfl ki_Ps (by decide) kw206 kd_Ps_ladderCell_126 rfl ?_
  refine zk_bipush (v := 8) C kd_Ps_ladderCell_129 (by decide) rfl ?_
  refine zk_icmp_eq (tgt := 153) C kd_Ps_ladderCell_131 (by decide) rfl (fun b4 => ?_) (fun b4 => ?_)
  · replace e := zd_pos b4 e
    refine zk_lvs (lv' := [(0, .ref (S.1 19)), (1, .int v2)]) [1, 0] rfl ?_
    exact zb_Ps_ladderCell_153 C hR h3 v2 e
  · replace e := zd_neg b4 e
    refine zk_aload_n C kd_Ps_ladderCell_134 rfl 1 rfl rfl ?_
    refine zk_aload_n C kd_Ps_ladderCell_135 rfl 1 rfl rfl ?_
    refine zs_callV (k := 19) (rn := { frames := 0, cells := 0, slots := 0, locals := 0 }) (As := []) (rest := [.ref (S.1 19)]) C (zc_Ps_isCell h3) ku_Ps_isCell kw924 kv_Ps_isCell rfl ⟨by decide, by decide⟩ ⟨by decide, by decide⟩ rfl rfl rfl (Nat.le_of_ble_eq_true rfl) kd_Ps_ladderCell_136 rfl (c1 := 0) (s1 := 0) rfl rfl (fun v w hp => ?_)
    obtain ⟨rfl, rfl, z5⟩ := hp
    refine zk_stk (r' := [.int (f_Ps_isCell h3), .ref (S.1 19)]) rfl ?_
    refine zk_if_eq (tgt := 149) C kd_Ps_ladderCell_139 (by decide) rfl (fun b6 => ?_) (fun b6 => ?_)
    · replace e := zd_pos b6 e
      refine zk_iconst (v := (-1)) C kd_Ps_ladderCell_149 (by decide) rfl ?_
      refine zk_lvs (lv' := [(0, .ref (S.1 19)), (1, .int v2)]) [1, 0] rfl ?_
      exact zb_Ps_ladderCell_150 C hR h3 v2 (-1) e
    · replace e := zd_neg b6 e
      refine zk_aload_n C kd_Ps_ladderCell_142 rfl 1 rfl rfl ?_
      refine zs_get (v := .int (h3.1 19 5)) C 19 5 rfl rfl rfl rfl ki_Ps (by decide) kw206 kd_Ps_ladderCell_143 rfl ?_
      refine zk_goto (tgt := 150) C kd_Ps_ladderCell_146 (by decide) ?_
      refine zk_lvs (lv' := [(0, .ref (S.1 19)), (1, .int v2)]) [1, 0] rfl ?_
      exact zb_Ps_ladderCell_150 C hR h3 v2 (h3.1 19 5) e
set_option maxHeartbeats 4000000 in
set_option maxRecDepth 100000 in
theorem zc_Ps_ladderCell {l : Launch} {D : va_G} {sz0 : Nat} {S : zs_T} {P : ze_T} (h : zs_H) {rv : Int32} {rh : zs_H} (e : f_Ps_ladderCell h = some (rv, rh)) : zk_Sp (zs_G S l D sz0) (ze_E P) km_Ps_ladderCell { frames := 3, cells := 0, slots := 0, locals := 68 } [.ref (S.1 19)] (zs_W S h) (zd_PI S rv rh) := by
  refine zk_met ku_Ps_ladderCell (Nat.le_of_ble_eq_true rfl) (ze_Em P) ?_
  intro X C hR
  refine zk_lvs (lv' := [(0, .ref (S.1 19))]) [0] rfl ?_
  unfold f_Ps_ladderCell at e
  refine zk_aload_n C kd_Ps_ladderCell_0 rfl 0 rfl rfl ?_
  refine zs_get (v := .int (h.1 19 5)) C 19 5 rfl rfl rfl rfl ki_Ps (by decide) kw206 kd_Ps_ladderCell_1 rfl ?_
  refine zk_bipush (v := 40) C kd_Ps_ladderCell_4 (by decide) rfl ?_
  refine zk_icmp_ne (tgt := 14) C kd_Ps_ladderCell_6 (by decide) rfl (fun b1 => ?_) (fun b1 => ?_)
  · replace e := zd_neg b1 e
    refine zk_aload_n C kd_Ps_ladderCell_14 rfl 0 rfl rfl ?_
    refine zs_get (v := .int (h.1 19 5)) C 19 5 rfl rfl rfl rfl ki_Ps (by decide) kw206 kd_Ps_ladderCell_15 rfl ?_
    refine zk_bipush (v := 45) C kd_Ps_ladderCell_18 (by decide) rfl ?_
    refine zk_icmp_eq (tgt := 32) C kd_Ps_ladderCell_20 (by decide) rfl (fun b2 => ?_) (fun b2 => ?_)
    · replace e := zd_pos b2 e
      refine zk_lvs (lv' := [(0, .ref (S.1 19))]) [0] rfl ?_
      exact zb_Ps_ladderCell_32 C hR h e
    · replace e := zd_neg b2 e
      refine zk_aload_n C kd_Ps_ladderCell_23 rfl 0 rfl rfl ?_
      refine zs_get (v := .int (h.1 19 5)) C 19 5 rfl rfl rfl rfl ki_Ps (by decide) kw206 kd_Ps_ladderCell_24 rfl ?_
      refine zk_bipush (v := 42) C kd_Ps_ladderCell_27 (by decide) rfl ?_
      refine zk_icmp_ne (tgt := 71) C kd_Ps_ladderCell_29 (by decide) rfl (fun b3 => ?_) (fun b3 => ?_)
      · replace e := zd_neg b3 e
        refine zk_aload_n C kd_Ps_ladderCell_71 rfl 0 rfl rfl ?_
        refine zs_get (v := .ref (S.1 12)) C 19 2 rfl rfl rfl rfl ki_Ps (by decide) kw203 kd_Ps_ladderCell_72 rfl ?_
        refine zk_bipush (v := 25) C kd_Ps_ladderCell_75 (by decide) rfl ?_
        refine zk_aload_n C kd_Ps_ladderCell_77 rfl 0 rfl rfl ?_
        refine zs_get (v := .int (h.1 19 6)) C 19 6 rfl rfl rfl rfl ki_Ps (by decide) kw207 kd_Ps_ladderCell_78 rfl ?_
        refine zk_aload_n C kd_Ps_ladderCell_81 rfl 0 rfl rfl ?_
        refine zs_get (v := .int (h.1 19 5)) C 19 5 rfl rfl rfl rfl ki_Ps (by decide) kw206 kd_Ps_ladderCell_82 rfl ?_
        refine zk_bipush (v := 47) C kd_Ps_ladderCell_85 (by decide) rfl ?_
        refine zk_icmp_ne (tgt := 94) C kd_Ps_ladderCell_87 (by decide) rfl (fun b4 => ?_) (fun b4 => ?_)
        · replace e := zd_neg b4 e
          refine zk_aload_n C kd_Ps_ladderCell_94 rfl 0 rfl rfl ?_
          refine zs_get (v := .int (h.1 19 5)) C 19 5 rfl rfl rfl rfl ki_Ps (by decide) kw206 kd_Ps_ladderCell_95 rfl ?_
          refine zk_bipush (v := 62) C kd_Ps_ladderCell_98 (by decide) rfl ?_
          refine zk_icmp_ne (tgt := 107) C kd_Ps_ladderCell_100 (by decide) rfl (fun b5 => ?_) (fun b5 => ?_)
          · replace e := zd_neg b5 e
            refine zk_aload_n C kd_Ps_ladderCell_107 rfl 0 rfl rfl ?_
            refine zs_get (v := .int (h.1 19 5)) C 19 5 rfl rfl rfl rfl ki_Ps (by decide) kw206 kd_Ps_ladderCell_108 rfl ?_
            refine zk_bipush (v := 60) C kd_Ps_ladderCell_111 (by decide) rfl ?_
            refine zk_icmp_ne (tgt := 120) C kd_Ps_ladderCell_113 (by decide) rfl (fun b6 => ?_) (fun b6 => ?_)
            · replace e := zd_neg b6 e
              refine zk_iconst (v := 0) C kd_Ps_ladderCell_120 (by decide) rfl ?_
              refine zk_lvs (lv' := [(0, .ref (S.1 19))]) [0] rfl ?_
              exact zb_Ps_ladderCell_121 C hR h 0 (h.1 19 6) 25 e
            · replace e := zd_pos b6 e
              refine zk_iconst (v := 3) C kd_Ps_ladderCell_116 (by decide) rfl ?_
              refine zk_goto (tgt := 121) C kd_Ps_ladderCell_117 (by decide) ?_
              refine zk_lvs (lv' := [(0, .ref (S.1 19))]) [0] rfl ?_
              exact zb_Ps_ladderCell_121 C hR h 3 (h.1 19 6) 25 e
          · replace e := zd_pos b5 e
            refine zk_iconst (v := 2) C kd_Ps_ladderCell_103 (by decide) rfl ?_
            refine zk_goto (tgt := 121) C kd_Ps_ladderCell_104 (by decide) ?_
            refine zk_lvs (lv' := [(0, .ref (S.1 19))]) [0] rfl ?_
            exact zb_Ps_ladderCell_121 C hR h 2 (h.1 19 6) 25 e
        · replace e := zd_pos b4 e
          refine zk_iconst (v := 1) C kd_Ps_ladderCell_90 (by decide) rfl ?_
          refine zk_goto (tgt := 121) C kd_Ps_ladderCell_91 (by decide) ?_
          refine zk_lvs (lv' := [(0, .ref (S.1 19))]) [0] rfl ?_
          exact zb_Ps_ladderCell_121 C hR h 1 (h.1 19 6) 25 e
      · replace e := zd_pos b3 e
        refine zk_lvs (lv' := [(0, .ref (S.1 19))]) [0] rfl ?_
        exact zb_Ps_ladderCell_32 C hR h e
  · replace e := zd_pos b1 e
    refine zk_aload_n C kd_Ps_ladderCell_9 rfl 0 rfl rfl ?_
    obtain ⟨v8, h9, c7, e⟩ := zd_Be e
    refine zs_callV (k := 19) (rn := { frames := 2, cells := 0, slots := 0, locals := 47 }) (As := []) (rest := []) C (zc_Ps_coil h c7) ku_Ps_coil kw920 kv_Ps_coil rfl ⟨by decide, by decide⟩ ⟨by decide, by decide⟩ rfl rfl rfl (Nat.le_of_ble_eq_true rfl) kd_Ps_ladderCell_10 rfl (c1 := 0) (s1 := 0) rfl rfl (fun v w hp => ?_)
    obtain ⟨rfl, rfl⟩ := hp
    refine zk_stk (r' := [.int v8]) rfl ?_
    exact zk_iret C hR kd_Ps_ladderCell_13 rfl rfl (zd_rIS e)
set_option maxHeartbeats 4000000 in
set_option maxRecDepth 100000 in
theorem zb_Ps_row_93 {X : zkj_T} {S : zs_T} {P : ze_T} {l : Launch} {D : va_G} {sz0 : Nat} {rv : Int32} {rh : zs_H} (C : zk_C X km_Ps_row (zs_G S l D sz0) { frames := 4, cells := 0, slots := 0, locals := 90 } (ze_E P)) (hR : zkj_R X (zd_PI S rv rh) (some .int)) {k31 : zs_H → Int32 → Int32 → Int32 → (Option (Int32 × zs_H))} (hk31 : ∀ (h : zs_H) (x1 : Int32) (x2 : Int32) (x3 : Int32), k31 h x1 x2 x3 = some (rv, rh) → zk_Ab X (zs_W S h) 0 0 31 [(0, .ref (S.1 19)), (1, .int x1), (2, .int x2), (3, .int x3)] []) (h : zs_H) (x1 : Int32) (x2 : Int32) (x3 : Int32) (e : f_Ps_row_93 k31 h x1 x2 x3 = some (rv, rh)) : zk_Ab X (zs_W S h) 0 0 93 [(0, .ref (S.1 19)), (1, .int x1), (2, .int x2), (3, .int x3)] [] := by
  unfold f_Ps_row_93 at e
  refine zk_aload_n C kd_Ps_row_93 rfl 0 rfl rfl ?_
  refine zs_get (v := .ref (S.1 12)) C 19 2 rfl rfl rfl rfl ki_Ps (by decide) kw203 kd_Ps_row_94 rfl ?_
  refine zk_iload_n C kd_Ps_row_97 rfl 1 rfl rfl ?_
  refine zk_iload_n C kd_Ps_row_98 rfl 2 rfl rfl ?_
  refine zk_aload_n C kd_Ps_row_99 rfl 0 rfl rfl ?_
  obtain ⟨v2, h3, c1, e⟩ := zd_Be e
  refine zs_callV (k := 19) (rn := { frames := 3, cells := 0, slots := 0, locals := 68 }) (As := []) (rest := [.int x2, .int x1, .ref (S.1 12)]) C (zc_Ps_ladderCell h c1) ku_Ps_ladderCell kw916 kv_Ps_ladderCell rfl ⟨by decide, by decide⟩ ⟨by decide, by decide⟩ rfl rfl rfl (Nat.le_of_ble_eq_true rfl) kd_Ps_row_100 rfl (c1 := 0) (s1 := 0) rfl rfl (fun v w hp => ?_)
  obtain ⟨rfl, rfl⟩ := hp
  refine zk_stk (r' := [.int v2, .int x2, .int x1, .ref (S.1 12)]) rfl ?_
  obtain ⟨v5, h6, c4, e⟩ := zd_Be e
  refine zs_callV (k := 12) (rn := { frames := 0, cells := 0, slots := 0, locals := 0 }) (As := [.int x1, .int x2, .int v2]) (rest := []) C (zc_Tr_hang h3 x1 x2 v2 c4) ku_Tr_hang kw884 kv_Tr_hang rfl ⟨by decide, by decide⟩ ⟨by decide, by decide⟩ rfl rfl rfl (Nat.le_of_ble_eq_true rfl) kd_Ps_row_103 rfl (c1 := 0) (s1 := 0) rfl rfl (fun v w hp => ?_)
  obtain ⟨rfl, rfl⟩ := hp
  refine zk_stk (r' := [.int v5]) rfl ?_
  refine zk_istore_n (lv' := [(2, _), (0, _), (1, _), (3, _)]) C kd_Ps_row_106 rfl (by decide) rfl rfl ?_
  refine zk_iinc (v := (x3 + 1)) (lv' := [(3, _), (2, _), (0, _), (1, _)]) C kd_Ps_row_107 3 rfl rfl (by decide) rfl rfl ?_
  refine zk_goto (tgt := 31) C kd_Ps_row_110 (by decide) ?_
  refine zk_lvs (lv' := [(0, .ref (S.1 19)), (1, .int x1), (2, .int v5), (3, .int (x3 + 1))]) [2, 3, 1, 0] rfl ?_
  exact hk31 h6 x1 v5 (x3 + 1) e
set_option maxHeartbeats 4000000 in
set_option maxRecDepth 100000 in
theorem zb_Ps_row_54 {X : zkj_T} {S : zs_T} {P : ze_T} {l : Launch} {D : va_G} {sz0 : Nat} {rv : Int32} {rh : zs_H} (C : zk_C X km_Ps_row (zs_G S l D sz0) { frames := 4, cells := 0, slots := 0, locals := 90 } (ze_E P)) (hR : zkj_R X (zd_PI S rv rh) (some .int)) {k31 : zs_H → Int32 → Int32 → Int32 → (Option (Int32 × zs_H))} (hk31 : ∀ (h : zs_H) (x1 : Int32) (x2 : Int32) (x3 : Int32), k31 h x1 x2 x3 = some (rv, rh) → zk_Ab X (zs_W S h) 0 0 31 [(0, .ref (S.1 19)), (1, .int x1), (2, .int x2), (3, .int x3)] []) (h : zs_H) (x1 : Int32) (x2 : Int32) (x3 : Int32) (e : f_Ps_row_54 k31 h x1 x2 x3 = some (rv, rh)) : zk_Ab X (zs_W S h) 0 0 54 [(0, .ref (S.1 19)), (1, .int x1), (2, .int x2), (3, .int x3)] [] := by
  unfold f_Ps_row_54 at e
  refine zk_aload_n C kd_Ps_row_54 rfl 0 rfl rfl ?_
  refine zs_get (v := .int (h.1 19 5)) C 19 5 rfl rfl rfl rfl ki_Ps (by decide) kw206 kd_Ps_row_55 rfl ?_
  refine zk_bipush (v := 124) C kd_Ps_row_58 (by decide) rfl ?_
  refine zk_icmp_ne (tgt := 93) C kd_Ps_row_60 (by decide) rfl (fun b1 => ?_) (fun b1 => ?_)
  · replace e := zd_neg b1 e
    refine zk_lvs (lv' := [(0, .ref (S.1 19)), (1, .int x1), (2, .int x2), (3, .int x3)]) [0, 1, 2, 3] rfl ?_
    exact zb_Ps_row_93 C hR hk31 h x1 x2 x3 e
  · replace e := zd_pos b1 e
    refine zk_aload_n C kd_Ps_row_63 rfl 0 rfl rfl ?_
    refine zs_get (v := .ref (S.1 12)) C 19 2 rfl rfl rfl rfl ki_Ps (by decide) kw203 kd_Ps_row_64 rfl ?_
    refine zk_iload_n C kd_Ps_row_67 rfl 1 rfl rfl ?_
    refine zk_iload_n C kd_Ps_row_68 rfl 2 rfl rfl ?_
    refine zk_aload_n C kd_Ps_row_69 rfl 0 rfl rfl ?_
    refine zs_get (v := .ref (S.1 12)) C 19 2 rfl rfl rfl rfl ki_Ps (by decide) kw203 kd_Ps_row_70 rfl ?_
    refine zk_bipush (v := 29) C kd_Ps_row_73 (by decide) rfl ?_
    refine zk_aload_n C kd_Ps_row_75 rfl 0 rfl rfl ?_
    refine zs_get (v := .int (h.1 19 6)) C 19 6 rfl rfl rfl rfl ki_Ps (by decide) kw207 kd_Ps_row_76 rfl ?_
    refine zk_iconst (v := 0) C kd_Ps_row_79 (by decide) rfl ?_
    obtain ⟨v3, h4, c2, e⟩ := zd_Be e
    refine zs_callV (k := 12) (rn := { frames := 1, cells := 0, slots := 0, locals := 23 }) (As := [.int 29, .int (h.1 19 6), .int 0]) (rest := [.int x2, .int x1, .ref (S.1 12)]) C (zc_Tr_add h 29 (h.1 19 6) 0 c2) ku_Tr_add kw866 kv_Tr_add rfl ⟨by decide, by decide⟩ ⟨by decide, by decide⟩ rfl rfl rfl (Nat.le_of_ble_eq_true rfl) kd_Ps_row_80 rfl (c1 := 0) (s1 := 0) rfl rfl (fun v w hp => ?_)
    obtain ⟨rfl, rfl⟩ := hp
    refine zk_stk (r' := [.int v3, .int x2, .int x1, .ref (S.1 12)]) rfl ?_
    obtain ⟨v6, h7, c5, e⟩ := zd_Be e
    refine zs_callV (k := 12) (rn := { frames := 0, cells := 0, slots := 0, locals := 0 }) (As := [.int x1, .int x2, .int v3]) (rest := []) C (zc_Tr_hang h4 x1 x2 v3 c5) ku_Tr_hang kw884 kv_Tr_hang rfl ⟨by decide, by decide⟩ ⟨by decide, by decide⟩ rfl rfl rfl (Nat.le_of_ble_eq_true rfl) kd_Ps_row_83 rfl (c1 := 0) (s1 := 0) rfl rfl (fun v w hp => ?_)
    obtain ⟨rfl, rfl⟩ := hp
    refine zk_stk (r' := [.int v6]) rfl ?_
    refine zk_istore_n (lv' := [(2, _), (0, _), (1, _), (3, _)]) C kd_Ps_row_86 rfl (by decide) rfl rfl ?_
    refine zk_aload_n C kd_Ps_row_87 rfl 1 rfl rfl ?_
    refine zk_bipush (v := 124) C kd_Ps_row_88 (by decide) rfl ?_
    obtain ⟨h9, c8, e⟩ := zd_b e
    refine zs_callV (k := 19) (rn := { frames := 0, cells := 0, slots := 0, locals := 0 }) (As := [.int 124]) (rest := []) C (zc_Ps_take h7 124 c8) ku_Ps_take kw876 kv_Ps_take rfl ⟨by decide, by decide⟩ ⟨by decide, by decide⟩ rfl rfl rfl (Nat.le_of_ble_eq_true rfl) kd_Ps_row_90 rfl (c1 := 0) (s1 := 0) rfl rfl (fun v w hp => ?_)
    obtain ⟨rfl, rfl⟩ := hp
    refine zk_stk (r' := []) rfl ?_
    refine zk_lvs (lv' := [(0, .ref (S.1 19)), (1, .int x1), (2, .int v6), (3, .int x3)]) [1, 2, 0, 3] rfl ?_
    exact zb_Ps_row_93 C hR hk31 h9 x1 v6 x3 e
set_option maxHeartbeats 4000000 in
set_option maxRecDepth 100000 in
theorem zb_Ps_row_113 {X : zkj_T} {S : zs_T} {P : ze_T} {l : Launch} {D : va_G} {sz0 : Nat} {rv : Int32} {rh : zs_H} (C : zk_C X km_Ps_row (zs_G S l D sz0) { frames := 4, cells := 0, slots := 0, locals := 90 } (ze_E P)) (hR : zkj_R X (zd_PI S rv rh) (some .int)) (h : zs_H) (x1 : Int32) (e : f_Ps_row_113 h x1 = some (rv, rh)) : zk_Ab X (zs_W S h) 0 0 113 [(0, .ref (S.1 19)), (1, .int x1)] [] := by
  unfold f_Ps_row_113 at e
  refine zk_aload_n C kd_Ps_row_113 rfl 0 rfl rfl ?_
  refine zk_bipush (v := 59) C kd_Ps_row_114 (by decide) rfl ?_
  obtain ⟨h2, c1, e⟩ := zd_b e
  refine zs_callV (k := 19) (rn := { frames := 0, cells := 0, slots := 0, locals := 0 }) (As := [.int 59]) (rest := []) C (zc_Ps_take h 59 c1) ku_Ps_take kw876 kv_Ps_take rfl ⟨by decide, by decide⟩ ⟨by decide, by decide⟩ rfl rfl rfl (Nat.le_of_ble_eq_true rfl) kd_Ps_row_116 rfl (c1 := 0) (s1 := 0) rfl rfl (fun v w hp => ?_)
  obtain ⟨rfl, rfl⟩ := hp
  refine zk_stk (r' := []) rfl ?_
  refine zk_iload_n C kd_Ps_row_119 rfl 1 rfl rfl ?_
  exact zk_iret C hR kd_Ps_row_120 rfl rfl (zd_rIS e)
set_option maxHeartbeats 4000000 in
set_option maxRecDepth 100000 in
theorem zb_Ps_row_31 {X : zkj_T} {S : zs_T} {P : ze_T} {l : Launch} {D : va_G} {sz0 : Nat} {rv : Int32} {rh : zs_H} (C : zk_C X km_Ps_row (zs_G S l D sz0) { frames := 4, cells := 0, slots := 0, locals := 90 } (ze_E P)) (hR : zkj_R X (zd_PI S rv rh) (some .int)) {k31 : zs_H → Int32 → Int32 → Int32 → (Option (Int32 × zs_H))} (hk31 : ∀ (h : zs_H) (x1 : Int32) (x2 : Int32) (x3 : Int32), k31 h x1 x2 x3 = some (rv, rh) → zk_Ab X (zs_W S h) 0 0 31 [(0, .ref (S.1 19)), (1, .int x1), (2, .int x2), (3, .int x3)] []) (h : zs_H) (x1 : Int32) (x2 : Int32) (x3 : Int32) (e : f_Ps_row_31 k31 h x1 x2 x3 = some (rv, rh)) : zk_Ab X (zs_W S h) 0 0 31 [(0, .ref (S.1 19)), (1, .int x1), (2, .int x2), (3, .int x3)] [] := by
  unfold f_Ps_row_31 at e
  refine zk_iload_n C kd_Ps_row_31 rfl 3 rfl rfl ?_
  refine zk_sipush (v := 16384) C kd_Ps_row_32 (by decide) rfl ?_
  refine zk_icmp_ge (tgt := 113) C kd_Ps_row_35 (by decide) rfl (fun b1 => ?_) (fun b1 => ?_)
  · replace e := zd_pos b1 e
    refine zk_lvs (lv' := [(0, .ref (S.1 19)), (1, .int x1)]) [0, 1] rfl ?_
    exact zb_Ps_row_113 C hR h x1 e
  · replace e := zd_neg b1 e
    refine zk_aload_n C kd_Ps_row_38 rfl 0 rfl rfl ?_
    refine zs_get (v := .int (h.1 19 5)) C 19 5 rfl rfl rfl rfl ki_Ps (by decide) kw206 kd_Ps_row_39 rfl ?_
    refine zk_bipush (v := 124) C kd_Ps_row_42 (by decide) rfl ?_
    refine zk_icmp_eq (tgt := 54) C kd_Ps_row_44 (by decide) rfl (fun b2 => ?_) (fun b2 => ?_)
    · replace e := zd_pos b2 e
      refine zk_lvs (lv' := [(0, .ref (S.1 19)), (1, .int x1), (2, .int x2), (3, .int x3)]) [0, 1, 2, 3] rfl ?_
      exact zb_Ps_row_54 C hR hk31 h x1 x2 x3 e
    · replace e := zd_neg b2 e
      refine zk_aload_n C kd_Ps_row_47 rfl 0 rfl rfl ?_
      refine zs_callV (k := 19) (rn := { frames := 0, cells := 0, slots := 0, locals := 0 }) (As := []) (rest := []) C (zc_Ps_isCell h) ku_Ps_isCell kw924 kv_Ps_isCell rfl ⟨by decide, by decide⟩ ⟨by decide, by decide⟩ rfl rfl rfl (Nat.le_of_ble_eq_true rfl) kd_Ps_row_48 rfl (c1 := 0) (s1 := 0) rfl rfl (fun v w hp => ?_)
      obtain ⟨rfl, rfl, z3⟩ := hp
      refine zk_stk (r' := [.int (f_Ps_isCell h)]) rfl ?_
      refine zk_if_eq (tgt := 113) C kd_Ps_row_51 (by decide) rfl (fun b4 => ?_) (fun b4 => ?_)
      · replace e := zd_pos b4 e
        refine zk_lvs (lv' := [(0, .ref (S.1 19)), (1, .int x1)]) [0, 1] rfl ?_
        exact zb_Ps_row_113 C hR h x1 e
      · replace e := zd_neg b4 e
        refine zk_lvs (lv' := [(0, .ref (S.1 19)), (1, .int x1), (2, .int x2), (3, .int x3)]) [0, 1, 2, 3] rfl ?_
        exact zb_Ps_row_54 C hR hk31 h x1 x2 x3 e
theorem zl_Ps_row_31 {X : zkj_T} {S : zs_T} {P : ze_T} {l : Launch} {D : va_G} {sz0 : Nat} {rv : Int32} {rh : zs_H} (C : zk_C X km_Ps_row (zs_G S l D sz0) { frames := 4, cells := 0, slots := 0, locals := 90 } (ze_E P)) (hR : zkj_R X (zd_PI S rv rh) (some .int)) (n : Nat) : ∀ (h : zs_H) (x1 : Int32) (x2 : Int32) (x3 : Int32), f_Ps_row_L31 n h x1 x2 x3 = some (rv, rh) → zk_Ab X (zs_W S h) 0 0 31 [(0, .ref (S.1 19)), (1, .int x1), (2, .int x2), (3, .int x3)] [] := by
  induction n with
  | zero => intro h x1 x2 x3 e; exact zd_no e
  | succ n ih => intro h x1 x2 x3 e; exact zb_Ps_row_31 (k31 := f_Ps_row_L31  n) C hR ih h x1 x2 x3 e
set_option maxHeartbeats 4000000 in
set_option maxRecDepth 100000 in
theorem zc_Ps_row {l : Launch} {D : va_G} {sz0 : Nat} {S : zs_T} {P : ze_T} (h : zs_H) {rv : Int32} {rh : zs_H} (e : f_Ps_row h = some (rv, rh)) : zk_Sp (zs_G S l D sz0) (ze_E P) km_Ps_row { frames := 4, cells := 0, slots := 0, locals := 90 } [.ref (S.1 19)] (zs_W S h) (zd_PI S rv rh) := by
  refine zk_met ku_Ps_row (Nat.le_of_ble_eq_true rfl) (ze_Em P) ?_
  intro X C hR
  refine zk_lvs (lv' := [(0, .ref (S.1 19))]) [0] rfl ?_
  unfold f_Ps_row at e
  refine zk_aload_n C kd_Ps_row_0 rfl 0 rfl rfl ?_
  refine zs_get (v := .ref (S.1 12)) C 19 2 rfl rfl rfl rfl ki_Ps (by decide) kw203 kd_Ps_row_1 rfl ?_
  refine zk_bipush (v := 24) C kd_Ps_row_4 (by decide) rfl ?_
  refine zk_aload_n C kd_Ps_row_6 rfl 0 rfl rfl ?_
  refine zs_get (v := .int (h.1 19 6)) C 19 6 rfl rfl rfl rfl ki_Ps (by decide) kw207 kd_Ps_row_7 rfl ?_
  refine zk_iconst (v := 0) C kd_Ps_row_10 (by decide) rfl ?_
  obtain ⟨v2, h3, c1, e⟩ := zd_Be e
  refine zs_callV (k := 12) (rn := { frames := 1, cells := 0, slots := 0, locals := 23 }) (As := [.int 24, .int (h.1 19 6), .int 0]) (rest := []) C (zc_Tr_add h 24 (h.1 19 6) 0 c1) ku_Tr_add kw866 kv_Tr_add rfl ⟨by decide, by decide⟩ ⟨by decide, by decide⟩ rfl rfl rfl (Nat.le_of_ble_eq_true rfl) kd_Ps_row_11 rfl (c1 := 0) (s1 := 0) rfl rfl (fun v w hp => ?_)
  obtain ⟨rfl, rfl⟩ := hp
  refine zk_stk (r' := [.int v2]) rfl ?_
  refine zk_istore_n (lv' := [(1, _), (0, _)]) C kd_Ps_row_14 rfl (by decide) rfl rfl ?_
  refine zk_aload_n C kd_Ps_row_15 rfl 1 rfl rfl ?_
  refine zs_get (v := .ref (S.1 12)) C 19 2 rfl rfl rfl rfl ki_Ps (by decide) kw203 kd_Ps_row_16 rfl ?_
  refine zk_iload_n C kd_Ps_row_19 rfl 0 rfl rfl ?_
  refine zk_iconst (v := (-1)) C kd_Ps_row_20 (by decide) rfl ?_
  refine zk_aload_n C kd_Ps_row_21 rfl 1 rfl rfl ?_
  obtain ⟨v5, h6, c4, e⟩ := zd_Be e
  refine zs_callV (k := 19) (rn := { frames := 3, cells := 0, slots := 0, locals := 68 }) (As := []) (rest := [.int (-1), .int v2, .ref (S.1 12)]) C (zc_Ps_ladderCell h3 c4) ku_Ps_ladderCell kw916 kv_Ps_ladderCell rfl ⟨by decide, by decide⟩ ⟨by decide, by decide⟩ rfl rfl rfl (Nat.le_of_ble_eq_true rfl) kd_Ps_row_22 rfl (c1 := 0) (s1 := 0) rfl rfl (fun v w hp => ?_)
  obtain ⟨rfl, rfl⟩ := hp
  refine zk_stk (r' := [.int v5, .int (-1), .int v2, .ref (S.1 12)]) rfl ?_
  obtain ⟨v8, h9, c7, e⟩ := zd_Be e
  refine zs_callV (k := 12) (rn := { frames := 0, cells := 0, slots := 0, locals := 0 }) (As := [.int v2, .int (-1), .int v5]) (rest := []) C (zc_Tr_hang h6 v2 (-1) v5 c7) ku_Tr_hang kw884 kv_Tr_hang rfl ⟨by decide, by decide⟩ ⟨by decide, by decide⟩ rfl rfl rfl (Nat.le_of_ble_eq_true rfl) kd_Ps_row_25 rfl (c1 := 0) (s1 := 0) rfl rfl (fun v w hp => ?_)
  obtain ⟨rfl, rfl⟩ := hp
  refine zk_stk (r' := [.int v8]) rfl ?_
  refine zk_istore_n (lv' := [(2, _), (1, _), (0, _)]) C kd_Ps_row_28 rfl (by decide) rfl rfl ?_
  refine zk_iconst (v := 0) C kd_Ps_row_29 (by decide) rfl ?_
  refine zk_istore_n (lv' := [(3, _), (2, _), (1, _), (0, _)]) C kd_Ps_row_30 rfl (by decide) rfl rfl ?_
  refine zk_lvs (lv' := [(0, .ref (S.1 19)), (1, .int v2), (2, .int v8), (3, .int 0)]) [3, 2, 1, 0] rfl ?_
  exact zl_Ps_row_31 C hR zF h9 v2 v8 0 e
set_option maxHeartbeats 4000000 in
set_option maxRecDepth 100000 in
theorem zb_Ps_ladder_123 {X : zkj_T} {S : zs_T} {P : ze_T} {l : Launch} {D : va_G} {sz0 : Nat} {rv : Int32} {rh : zs_H} (C : zk_C X km_Ps_ladder (zs_G S l D sz0) { frames := 5, cells := 0, slots := 0, locals := 113 } (ze_E P)) (hR : zkj_R X (zd_PI S rv rh) (some .int)) {k26 : zs_H → Int32 → Int32 → Int32 → (Option (Int32 × zs_H))} (hk26 : ∀ (h : zs_H) (x1 : Int32) (x2 : Int32) (x3 : Int32), k26 h x1 x2 x3 = some (rv, rh) → zk_Ab X (zs_W S h) 0 0 26 [(0, .ref (S.1 19)), (1, .int x1), (2, .int x2), (3, .int x3)] []) (h : zs_H) (x1 : Int32) (x2 : Int32) (x3 : Int32) (x4 : Int32) (e : f_Ps_ladder_123 k26 h x1 x2 x3 x4 = some (rv, rh)) : zk_Ab X (zs_W S h) 0 0 123 [(0, .ref (S.1 19)), (1, .int x1), (2, .int x2), (3, .int x3), (4, .int x4)] [] := by
  unfold f_Ps_ladder_123 at e
  refine zk_aload_n C kd_Ps_ladder_123 rfl 0 rfl rfl ?_
  refine zk_sipush (v := 168) C kd_Ps_ladder_124 (by decide) rfl ?_
  obtain ⟨h2, c1, e⟩ := zd_b e
  refine zs_callV (k := 19) (rn := { frames := 0, cells := 0, slots := 0, locals := 0 }) (As := [.int 168]) (rest := []) C (zc_Ps_take h 168 c1) ku_Ps_take kw876 kv_Ps_take rfl ⟨by decide, by decide⟩ ⟨by decide, by decide⟩ rfl rfl rfl (Nat.le_of_ble_eq_true rfl) kd_Ps_ladder_127 rfl (c1 := 0) (s1 := 0) rfl rfl (fun v w hp => ?_)
  obtain ⟨rfl, rfl⟩ := hp
  refine zk_stk (r' := []) rfl ?_
  refine zk_aload_n C kd_Ps_ladder_130 rfl 0 rfl rfl ?_
  refine zs_get (v := .ref (S.1 12)) C 19 2 rfl rfl rfl rfl ki_Ps (by decide) kw203 kd_Ps_ladder_131 rfl ?_
  refine zk_iload_n C kd_Ps_ladder_134 rfl 1 rfl rfl ?_
  refine zk_iload_n C kd_Ps_ladder_135 rfl 2 rfl rfl ?_
  refine zk_iload C kd_Ps_ladder_136 4 rfl rfl ?_
  obtain ⟨v4, h5, c3, e⟩ := zd_Be e
  refine zs_callV (k := 12) (rn := { frames := 0, cells := 0, slots := 0, locals := 0 }) (As := [.int x1, .int x2, .int x4]) (rest := []) C (zc_Tr_hang h2 x1 x2 x4 c3) ku_Tr_hang kw884 kv_Tr_hang rfl ⟨by decide, by decide⟩ ⟨by decide, by decide⟩ rfl rfl rfl (Nat.le_of_ble_eq_true rfl) kd_Ps_ladder_138 rfl (c1 := 0) (s1 := 0) rfl rfl (fun v w hp => ?_)
  obtain ⟨rfl, rfl⟩ := hp
  refine zk_stk (r' := [.int v4]) rfl ?_
  refine zk_istore_n (lv' := [(2, _), (0, _), (1, _), (3, _), (4, _)]) C kd_Ps_ladder_141 rfl (by decide) rfl rfl ?_
  refine zk_iinc (v := (x3 + 1)) (lv' := [(3, _), (2, _), (0, _), (1, _), (4, _)]) C kd_Ps_ladder_142 3 rfl rfl (by decide) rfl rfl ?_
  refine zk_goto (tgt := 26) C kd_Ps_ladder_145 (by decide) ?_
  refine zk_lvs (lv' := [(0, .ref (S.1 19)), (1, .int x1), (2, .int v4), (3, .int (x3 + 1))]) [2, 3, 1, 0] rfl ?_
  exact hk26 h5 x1 v4 (x3 + 1) e
set_option maxHeartbeats 4000000 in
set_option maxRecDepth 100000 in
theorem zb_Ps_ladder_85 {X : zkj_T} {S : zs_T} {P : ze_T} {l : Launch} {D : va_G} {sz0 : Nat} {rv : Int32} {rh : zs_H} (C : zk_C X km_Ps_ladder (zs_G S l D sz0) { frames := 5, cells := 0, slots := 0, locals := 113 } (ze_E P)) (hR : zkj_R X (zd_PI S rv rh) (some .int)) {k26 : zs_H → Int32 → Int32 → Int32 → (Option (Int32 × zs_H))} (hk26 : ∀ (h : zs_H) (x1 : Int32) (x2 : Int32) (x3 : Int32), k26 h x1 x2 x3 = some (rv, rh) → zk_Ab X (zs_W S h) 0 0 26 [(0, .ref (S.1 19)), (1, .int x1), (2, .int x2), (3, .int x3)] []) {k85 : zs_H → Int32 → Int32 → Int32 → Int32 → Int32 → Int32 → (Option (Int32 × zs_H))} (hk85 : ∀ (h : zs_H) (x1 : Int32) (x2 : Int32) (x3 : Int32) (x4 : Int32) (x5 : Int32) (x6 : Int32), k85 h x1 x2 x3 x4 x5 x6 = some (rv, rh) → zk_Ab X (zs_W S h) 0 0 85 [(0, .ref (S.1 19)), (1, .int x1), (2, .int x2), (3, .int x3), (4, .int x4), (5, .int x5), (6, .int x6)] []) (h : zs_H) (x1 : Int32) (x2 : Int32) (x3 : Int32) (x4 : Int32) (x5 : Int32) (x6 : Int32) (e : f_Ps_ladder_85 k26 k85 h x1 x2 x3 x4 x5 x6 = some (rv, rh)) : zk_Ab X (zs_W S h) 0 0 85 [(0, .ref (S.1 19)), (1, .int x1), (2, .int x2), (3, .int x3), (4, .int x4), (5, .int x5), (6, .int x6)] [] := by
  unfold f_Ps_ladder_85 at e
  refine zk_iload C kd_Ps_ladder_85 6 rfl rfl ?_
  refine zk_sipush (v := 16384) C kd_Ps_ladder_87 (by decide) rfl ?_
  refine zk_icmp_ge (tgt := 123) C kd_Ps_ladder_90 (by decide) rfl (fun b1 => ?_) (fun b1 => ?_)
  · replace e := zd_pos b1 e
    refine zk_lvs (lv' := [(0, .ref (S.1 19)), (1, .int x1), (2, .int x2), (3, .int x3), (4, .int x4)]) [0, 1, 2, 3, 4] rfl ?_
    exact zb_Ps_ladder_123 C hR hk26 h x1 x2 x3 x4 e
  · replace e := zd_neg b1 e
    refine zk_aload_n C kd_Ps_ladder_93 rfl 0 rfl rfl ?_
    refine zs_callV (k := 19) (rn := { frames := 0, cells := 0, slots := 0, locals := 0 }) (As := []) (rest := []) C (zc_Ps_isCell h) ku_Ps_isCell kw924 kv_Ps_isCell rfl ⟨by decide, by decide⟩ ⟨by decide, by decide⟩ rfl rfl rfl (Nat.le_of_ble_eq_true rfl) kd_Ps_ladder_94 rfl (c1 := 0) (s1 := 0) rfl rfl (fun v w hp => ?_)
    obtain ⟨rfl, rfl, z2⟩ := hp
    refine zk_stk (r' := [.int (f_Ps_isCell h)]) rfl ?_
    refine zk_if_eq (tgt := 123) C kd_Ps_ladder_97 (by decide) rfl (fun b3 => ?_) (fun b3 => ?_)
    · replace e := zd_pos b3 e
      refine zk_lvs (lv' := [(0, .ref (S.1 19)), (1, .int x1), (2, .int x2), (3, .int x3), (4, .int x4)]) [0, 1, 2, 3, 4] rfl ?_
      exact zb_Ps_ladder_123 C hR hk26 h x1 x2 x3 x4 e
    · replace e := zd_neg b3 e
      refine zk_aload_n C kd_Ps_ladder_100 rfl 0 rfl rfl ?_
      refine zs_get (v := .ref (S.1 12)) C 19 2 rfl rfl rfl rfl ki_Ps (by decide) kw203 kd_Ps_ladder_101 rfl ?_
      refine zk_iload C kd_Ps_ladder_104 4 rfl rfl ?_
      refine zk_iload C kd_Ps_ladder_106 5 rfl rfl ?_
      refine zk_aload_n C kd_Ps_ladder_108 rfl 0 rfl rfl ?_
      obtain ⟨v5, h6, c4, e⟩ := zd_Be e
      refine zs_callV (k := 19) (rn := { frames := 4, cells := 0, slots := 0, locals := 90 }) (As := []) (rest := [.int x5, .int x4, .ref (S.1 12)]) C (zc_Ps_row h c4) ku_Ps_row kw912 kv_Ps_row rfl ⟨by decide, by decide⟩ ⟨by decide, by decide⟩ rfl rfl rfl (Nat.le_of_ble_eq_true rfl) kd_Ps_ladder_109 rfl (c1 := 0) (s1 := 0) rfl rfl (fun v w hp => ?_)
      obtain ⟨rfl, rfl⟩ := hp
      refine zk_stk (r' := [.int v5, .int x5, .int x4, .ref (S.1 12)]) rfl ?_
      obtain ⟨v8, h9, c7, e⟩ := zd_Be e
      refine zs_callV (k := 12) (rn := { frames := 0, cells := 0, slots := 0, locals := 0 }) (As := [.int x4, .int x5, .int v5]) (rest := []) C (zc_Tr_hang h6 x4 x5 v5 c7) ku_Tr_hang kw884 kv_Tr_hang rfl ⟨by decide, by decide⟩ ⟨by decide, by decide⟩ rfl rfl rfl (Nat.le_of_ble_eq_true rfl) kd_Ps_ladder_112 rfl (c1 := 0) (s1 := 0) rfl rfl (fun v w hp => ?_)
      obtain ⟨rfl, rfl⟩ := hp
      refine zk_stk (r' := [.int v8]) rfl ?_
      refine zk_istore (lv' := [(5, _), (0, _), (1, _), (2, _), (3, _), (4, _), (6, _)]) C kd_Ps_ladder_115 (by decide) rfl rfl ?_
      refine zk_iinc (v := (x6 + 1)) (lv' := [(6, _), (5, _), (0, _), (1, _), (2, _), (3, _), (4, _)]) C kd_Ps_ladder_117 6 rfl rfl (by decide) rfl rfl ?_
      refine zk_goto (tgt := 85) C kd_Ps_ladder_120 (by decide) ?_
      refine zk_lvs (lv' := [(0, .ref (S.1 19)), (1, .int x1), (2, .int x2), (3, .int x3), (4, .int x4), (5, .int v8), (6, .int (x6 + 1))]) [2, 3, 4, 5, 6, 1, 0] rfl ?_
      exact hk85 h9 x1 x2 x3 x4 v8 (x6 + 1) e
theorem zl_Ps_ladder_85 {X : zkj_T} {S : zs_T} {P : ze_T} {l : Launch} {D : va_G} {sz0 : Nat} {rv : Int32} {rh : zs_H} (C : zk_C X km_Ps_ladder (zs_G S l D sz0) { frames := 5, cells := 0, slots := 0, locals := 113 } (ze_E P)) (hR : zkj_R X (zd_PI S rv rh) (some .int)) {k26 : zs_H → Int32 → Int32 → Int32 → (Option (Int32 × zs_H))} (hk26 : ∀ (h : zs_H) (x1 : Int32) (x2 : Int32) (x3 : Int32), k26 h x1 x2 x3 = some (rv, rh) → zk_Ab X (zs_W S h) 0 0 26 [(0, .ref (S.1 19)), (1, .int x1), (2, .int x2), (3, .int x3)] []) (n : Nat) : ∀ (h : zs_H) (x1 : Int32) (x2 : Int32) (x3 : Int32) (x4 : Int32) (x5 : Int32) (x6 : Int32), f_Ps_ladder_L85 k26 n h x1 x2 x3 x4 x5 x6 = some (rv, rh) → zk_Ab X (zs_W S h) 0 0 85 [(0, .ref (S.1 19)), (1, .int x1), (2, .int x2), (3, .int x3), (4, .int x4), (5, .int x5), (6, .int x6)] [] := by
  induction n with
  | zero => intro h x1 x2 x3 x4 x5 x6 e; exact zd_no e
  | succ n ih => intro h x1 x2 x3 x4 x5 x6 e; exact zb_Ps_ladder_85 (k85 := f_Ps_ladder_L85 k26 n) C hR hk26 ih h x1 x2 x3 x4 x5 x6 e
set_option maxHeartbeats 4000000 in
set_option maxRecDepth 100000 in
theorem zb_Ps_ladder_148 {X : zkj_T} {S : zs_T} {P : ze_T} {l : Launch} {D : va_G} {sz0 : Nat} {rv : Int32} {rh : zs_H} (C : zk_C X km_Ps_ladder (zs_G S l D sz0) { frames := 5, cells := 0, slots := 0, locals := 113 } (ze_E P)) (hR : zkj_R X (zd_PI S rv rh) (some .int)) (h : zs_H) (x1 : Int32) (e : f_Ps_ladder_148 h x1 = some (rv, rh)) : zk_Ab X (zs_W S h) 0 0 148 [(0, .ref (S.1 19)), (1, .int x1)] [] := by
  unfold f_Ps_ladder_148 at e
  refine zk_aload_n C kd_Ps_ladder_148 rfl 0 rfl rfl ?_
  refine zk_sipush (v := 166) C kd_Ps_ladder_149 (by decide) rfl ?_
  obtain ⟨h2, c1, e⟩ := zd_b e
  refine zs_callV (k := 19) (rn := { frames := 0, cells := 0, slots := 0, locals := 0 }) (As := [.int 166]) (rest := []) C (zc_Ps_take h 166 c1) ku_Ps_take kw876 kv_Ps_take rfl ⟨by decide, by decide⟩ ⟨by decide, by decide⟩ rfl rfl rfl (Nat.le_of_ble_eq_true rfl) kd_Ps_ladder_152 rfl (c1 := 0) (s1 := 0) rfl rfl (fun v w hp => ?_)
  obtain ⟨rfl, rfl⟩ := hp
  refine zk_stk (r' := []) rfl ?_
  refine zk_iload_n C kd_Ps_ladder_155 rfl 1 rfl rfl ?_
  exact zk_iret C hR kd_Ps_ladder_156 rfl rfl (zd_rIS e)
set_option maxHeartbeats 4000000 in
set_option maxRecDepth 100000 in
theorem zb_Ps_ladder_26 {X : zkj_T} {S : zs_T} {P : ze_T} {l : Launch} {D : va_G} {sz0 : Nat} {rv : Int32} {rh : zs_H} (C : zk_C X km_Ps_ladder (zs_G S l D sz0) { frames := 5, cells := 0, slots := 0, locals := 113 } (ze_E P)) (hR : zkj_R X (zd_PI S rv rh) (some .int)) {k26 : zs_H → Int32 → Int32 → Int32 → (Option (Int32 × zs_H))} (hk26 : ∀ (h : zs_H) (x1 : Int32) (x2 : Int32) (x3 : Int32), k26 h x1 x2 x3 = some (rv, rh) → zk_Ab X (zs_W S h) 0 0 26 [(0, .ref (S.1 19)), (1, .int x1), (2, .int x2), (3, .int x3)] []) (h : zs_H) (x1 : Int32) (x2 : Int32) (x3 : Int32) (e : f_Ps_ladder_26 k26 h x1 x2 x3 = some (rv, rh)) : zk_Ab X (zs_W S h) 0 0 26 [(0, .ref (S.1 19)), (1, .int x1), (2, .int x2), (3, .int x3)] [] := by
  unfold f_Ps_ladder_26 at e
  refine zk_iload_n C kd_Ps_ladder_26 rfl 3 rfl rfl ?_
  refine zk_sipush (v := 16384) C kd_Ps_ladder_27 (by decide) rfl ?_
  refine zk_icmp_ge (tgt := 148) C kd_Ps_ladder_30 (by decide) rfl (fun b1 => ?_) (fun b1 => ?_)
  · replace e := zd_pos b1 e
    refine zk_lvs (lv' := [(0, .ref (S.1 19)), (1, .int x1)]) [0, 1] rfl ?_
    exact zb_Ps_ladder_148 C hR h x1 e
  · replace e := zd_neg b1 e
    refine zk_aload_n C kd_Ps_ladder_33 rfl 0 rfl rfl ?_
    refine zs_get (v := .int (h.1 19 5)) C 19 5 rfl rfl rfl rfl ki_Ps (by decide) kw206 kd_Ps_ladder_34 rfl ?_
    refine zk_sipush (v := 167) C kd_Ps_ladder_37 (by decide) rfl ?_
    refine zk_icmp_ne (tgt := 148) C kd_Ps_ladder_40 (by decide) rfl (fun b2 => ?_) (fun b2 => ?_)
    · replace e := zd_neg b2 e
      refine zk_lvs (lv' := [(0, .ref (S.1 19)), (1, .int x1)]) [0, 1] rfl ?_
      exact zb_Ps_ladder_148 C hR h x1 e
    · replace e := zd_pos b2 e
      refine zk_aload_n C kd_Ps_ladder_43 rfl 0 rfl rfl ?_
      refine zs_get (v := .ref (S.1 12)) C 19 2 rfl rfl rfl rfl ki_Ps (by decide) kw203 kd_Ps_ladder_44 rfl ?_
      refine zk_bipush (v := 23) C kd_Ps_ladder_47 (by decide) rfl ?_
      refine zk_aload_n C kd_Ps_ladder_49 rfl 0 rfl rfl ?_
      refine zs_get (v := .int (h.1 19 6)) C 19 6 rfl rfl rfl rfl ki_Ps (by decide) kw207 kd_Ps_ladder_50 rfl ?_
      refine zk_iconst (v := 0) C kd_Ps_ladder_53 (by decide) rfl ?_
      obtain ⟨v4, h5, c3, e⟩ := zd_Be e
      refine zs_callV (k := 12) (rn := { frames := 1, cells := 0, slots := 0, locals := 23 }) (As := [.int 23, .int (h.1 19 6), .int 0]) (rest := []) C (zc_Tr_add h 23 (h.1 19 6) 0 c3) ku_Tr_add kw866 kv_Tr_add rfl ⟨by decide, by decide⟩ ⟨by decide, by decide⟩ rfl rfl rfl (Nat.le_of_ble_eq_true rfl) kd_Ps_ladder_54 rfl (c1 := 0) (s1 := 0) rfl rfl (fun v w hp => ?_)
      obtain ⟨rfl, rfl⟩ := hp
      refine zk_stk (r' := [.int v4]) rfl ?_
      refine zk_istore (lv' := [(4, _), (0, _), (1, _), (2, _), (3, _)]) C kd_Ps_ladder_57 (by decide) rfl rfl ?_
      refine zk_aload_n C kd_Ps_ladder_59 rfl 1 rfl rfl ?_
      refine zk_sipush (v := 167) C kd_Ps_ladder_60 (by decide) rfl ?_
      obtain ⟨h7, c6, e⟩ := zd_b e
      refine zs_callV (k := 19) (rn := { frames := 0, cells := 0, slots := 0, locals := 0 }) (As := [.int 167]) (rest := []) C (zc_Ps_take h5 167 c6) ku_Ps_take kw876 kv_Ps_take rfl ⟨by decide, by decide⟩ ⟨by decide, by decide⟩ rfl rfl rfl (Nat.le_of_ble_eq_true rfl) kd_Ps_ladder_63 rfl (c1 := 0) (s1 := 0) rfl rfl (fun v w hp => ?_)
      obtain ⟨rfl, rfl⟩ := hp
      refine zk_stk (r' := []) rfl ?_
      refine zk_aload_n C kd_Ps_ladder_66 rfl 1 rfl rfl ?_
      refine zs_get (v := .ref (S.1 12)) C 19 2 rfl rfl rfl rfl ki_Ps (by decide) kw203 kd_Ps_ladder_67 rfl ?_
      refine zk_iload C kd_Ps_ladder_70 0 rfl rfl ?_
      refine zk_iconst (v := (-1)) C kd_Ps_ladder_72 (by decide) rfl ?_
      refine zk_aload_n C kd_Ps_ladder_73 rfl 1 rfl rfl ?_
      obtain ⟨v9, h10, c8, e⟩ := zd_Be e
      refine zs_callV (k := 19) (rn := { frames := 4, cells := 0, slots := 0, locals := 90 }) (As := []) (rest := [.int (-1), .int v4, .ref (S.1 12)]) C (zc_Ps_row h7 c8) ku_Ps_row kw912 kv_Ps_row rfl ⟨by decide, by decide⟩ ⟨by decide, by decide⟩ rfl rfl rfl (Nat.le_of_ble_eq_true rfl) kd_Ps_ladder_74 rfl (c1 := 0) (s1 := 0) rfl rfl (fun v w hp => ?_)
      obtain ⟨rfl, rfl⟩ := hp
      refine zk_stk (r' := [.int v9, .int (-1), .int v4, .ref (S.1 12)]) rfl ?_
      obtain ⟨v12, h13, c11, e⟩ := zd_Be e
      refine zs_callV (k := 12) (rn := { frames := 0, cells := 0, slots := 0, locals := 0 }) (As := [.int v4, .int (-1), .int v9]) (rest := []) C (zc_Tr_hang h10 v4 (-1) v9 c11) ku_Tr_hang kw884 kv_Tr_hang rfl ⟨by decide, by decide⟩ ⟨by decide, by decide⟩ rfl rfl rfl (Nat.le_of_ble_eq_true rfl) kd_Ps_ladder_77 rfl (c1 := 0) (s1 := 0) rfl rfl (fun v w hp => ?_)
      obtain ⟨rfl, rfl⟩ := hp
      refine zk_stk (r' := [.int v12]) rfl ?_
      refine zk_istore (lv' := [(5, _), (4, _), (0, _), (1, _), (2, _), (3, _)]) C kd_Ps_ladder_80 (by decide) rfl rfl ?_
      refine zk_iconst (v := 0) C kd_Ps_ladder_82 (by decide) rfl ?_
      refine zk_istore (lv' := [(6, _), (5, _), (4, _), (0, _), (1, _), (2, _), (3, _)]) C kd_Ps_ladder_83 (by decide) rfl rfl ?_
      refine zk_lvs (lv' := [(0, .ref (S.1 19)), (1, .int x1), (2, .int x2), (3, .int x3), (4, .int v4), (5, .int v12), (6, .int 0)]) [3, 4, 5, 6, 2, 1, 0] rfl ?_
      exact zl_Ps_ladder_85 C hR hk26 zF h13 x1 x2 x3 v4 v12 0 e
theorem zl_Ps_ladder_26 {X : zkj_T} {S : zs_T} {P : ze_T} {l : Launch} {D : va_G} {sz0 : Nat} {rv : Int32} {rh : zs_H} (C : zk_C X km_Ps_ladder (zs_G S l D sz0) { frames := 5, cells := 0, slots := 0, locals := 113 } (ze_E P)) (hR : zkj_R X (zd_PI S rv rh) (some .int)) (n : Nat) : ∀ (h : zs_H) (x1 : Int32) (x2 : Int32) (x3 : Int32), f_Ps_ladder_L26 n h x1 x2 x3 = some (rv, rh) → zk_Ab X (zs_W S h) 0 0 26 [(0, .ref (S.1 19)), (1, .int x1), (2, .int x2), (3, .int x3)] [] := by
  induction n with
  | zero => intro h x1 x2 x3 e; exact zd_no e
  | succ n ih => intro h x1 x2 x3 e; exact zb_Ps_ladder_26 (k26 := f_Ps_ladder_L26  n) C hR ih h x1 x2 x3 e
set_option maxHeartbeats 4000000 in
set_option maxRecDepth 100000 in
theorem zc_Ps_ladder {l : Launch} {D : va_G} {sz0 : Nat} {S : zs_T} {P : ze_T} (h : zs_H) {rv : Int32} {rh : zs_H} (e : f_Ps_ladder h = some (rv, rh)) : zk_Sp (zs_G S l D sz0) (ze_E P) km_Ps_ladder { frames := 5, cells := 0, slots := 0, locals := 113 } [.ref (S.1 19)] (zs_W S h) (zd_PI S rv rh) := by
  refine zk_met ku_Ps_ladder (Nat.le_of_ble_eq_true rfl) (ze_Em P) ?_
  intro X C hR
  refine zk_lvs (lv' := [(0, .ref (S.1 19))]) [0] rfl ?_
  unfold f_Ps_ladder at e
  refine zk_aload_n C kd_Ps_ladder_0 rfl 0 rfl rfl ?_
  refine zs_get (v := .ref (S.1 12)) C 19 2 rfl rfl rfl rfl ki_Ps (by decide) kw203 kd_Ps_ladder_1 rfl ?_
  refine zk_bipush (v := 22) C kd_Ps_ladder_4 (by decide) rfl ?_
  refine zk_aload_n C kd_Ps_ladder_6 rfl 0 rfl rfl ?_
  refine zs_get (v := .int (h.1 19 6)) C 19 6 rfl rfl rfl rfl ki_Ps (by decide) kw207 kd_Ps_ladder_7 rfl ?_
  refine zk_iconst (v := 0) C kd_Ps_ladder_10 (by decide) rfl ?_
  obtain ⟨v2, h3, c1, e⟩ := zd_Be e
  refine zs_callV (k := 12) (rn := { frames := 1, cells := 0, slots := 0, locals := 23 }) (As := [.int 22, .int (h.1 19 6), .int 0]) (rest := []) C (zc_Tr_add h 22 (h.1 19 6) 0 c1) ku_Tr_add kw866 kv_Tr_add rfl ⟨by decide, by decide⟩ ⟨by decide, by decide⟩ rfl rfl rfl (Nat.le_of_ble_eq_true rfl) kd_Ps_ladder_11 rfl (c1 := 0) (s1 := 0) rfl rfl (fun v w hp => ?_)
  obtain ⟨rfl, rfl⟩ := hp
  refine zk_stk (r' := [.int v2]) rfl ?_
  refine zk_istore_n (lv' := [(1, _), (0, _)]) C kd_Ps_ladder_14 rfl (by decide) rfl rfl ?_
  refine zk_aload_n C kd_Ps_ladder_15 rfl 1 rfl rfl ?_
  refine zk_sipush (v := 165) C kd_Ps_ladder_16 (by decide) rfl ?_
  obtain ⟨h5, c4, e⟩ := zd_b e
  refine zs_callV (k := 19) (rn := { frames := 0, cells := 0, slots := 0, locals := 0 }) (As := [.int 165]) (rest := []) C (zc_Ps_take h3 165 c4) ku_Ps_take kw876 kv_Ps_take rfl ⟨by decide, by decide⟩ ⟨by decide, by decide⟩ rfl rfl rfl (Nat.le_of_ble_eq_true rfl) kd_Ps_ladder_19 rfl (c1 := 0) (s1 := 0) rfl rfl (fun v w hp => ?_)
  obtain ⟨rfl, rfl⟩ := hp
  refine zk_stk (r' := []) rfl ?_
  refine zk_iconst (v := (-1)) C kd_Ps_ladder_22 (by decide) rfl ?_
  refine zk_istore_n (lv' := [(2, _), (1, _), (0, _)]) C kd_Ps_ladder_23 rfl (by decide) rfl rfl ?_
  refine zk_iconst (v := 0) C kd_Ps_ladder_24 (by decide) rfl ?_
  refine zk_istore_n (lv' := [(3, _), (2, _), (1, _), (0, _)]) C kd_Ps_ladder_25 rfl (by decide) rfl rfl ?_
  refine zk_lvs (lv' := [(0, .ref (S.1 19)), (1, .int v2), (2, .int (-1)), (3, .int 0)]) [3, 2, 1, 0] rfl ?_
  exact zl_Ps_ladder_26 C hR zF h5 v2 (-1) 0 e
set_option maxHeartbeats 4000000 in
set_option maxRecDepth 100000 in
theorem zc_Ps_isStatement {l : Launch} {D : va_G} {sz0 : Nat} {S : zs_T} {P : ze_T} (h : zs_H) : zk_Sp (zs_G S l D sz0) (ze_E P) km_Ps_isStatement { frames := 0, cells := 0, slots := 0, locals := 0 } [.ref (S.1 19)] (zs_W S h) (zd_PZ S (f_Ps_isStatement h) h) := by
  obtain ⟨rv, e⟩ : ∃ rv, f_Ps_isStatement h = rv := ⟨_, rfl⟩
  rw [e]
  refine zk_met ku_Ps_isStatement (Nat.le_of_ble_eq_true rfl) (ze_Em P) ?_
  intro X C hR
  refine zk_lvs (lv' := [(0, .ref (S.1 19))]) [0] rfl ?_
  unfold f_Ps_isStatement at e
  refine zk_aload_n C kd_Ps_isStatement_0 rfl 0 rfl rfl ?_
  refine zs_get (v := .int (h.1 19 5)) C 19 5 rfl rfl rfl rfl ki_Ps (by decide) kw206 kd_Ps_isStatement_1 rfl ?_
  refine zk_bipush (v := 59) C kd_Ps_isStatement_4 (by decide) rfl ?_
  refine zk_icmp_eq (tgt := 68) C kd_Ps_isStatement_6 (by decide) rfl (fun b1 => ?_) (fun b1 => ?_)
  · replace e := zd_pos b1 e
    refine zk_iconst (v := 1) C kd_Ps_isStatement_68 (by decide) rfl ?_
    refine zk_goto (tgt := 73) C kd_Ps_isStatement_69 (by decide) ?_
    exact zk_zret C hR (zd_nb (Or.inr rfl)) kd_Ps_isStatement_73 rfl rfl (zd_rZT (Or.inr rfl) e)
  · replace e := zd_neg b1 e
    refine zk_aload_n C kd_Ps_isStatement_9 rfl 0 rfl rfl ?_
    refine zs_get (v := .int (h.1 19 5)) C 19 5 rfl rfl rfl rfl ki_Ps (by decide) kw206 kd_Ps_isStatement_10 rfl ?_
    refine zk_bipush (v := 8) C kd_Ps_isStatement_13 (by decide) rfl ?_
    refine zk_icmp_eq (tgt := 68) C kd_Ps_isStatement_15 (by decide) rfl (fun b2 => ?_) (fun b2 => ?_)
    · replace e := zd_pos b2 e
      refine zk_iconst (v := 1) C kd_Ps_isStatement_68 (by decide) rfl ?_
      refine zk_goto (tgt := 73) C kd_Ps_isStatement_69 (by decide) ?_
      exact zk_zret C hR (zd_nb (Or.inr rfl)) kd_Ps_isStatement_73 rfl rfl (zd_rZT (Or.inr rfl) e)
    · replace e := zd_neg b2 e
      refine zk_aload_n C kd_Ps_isStatement_18 rfl 0 rfl rfl ?_
      refine zs_get (v := .int (h.1 19 5)) C 19 5 rfl rfl rfl rfl ki_Ps (by decide) kw206 kd_Ps_isStatement_19 rfl ?_
      refine zk_sipush (v := 144) C kd_Ps_isStatement_22 (by decide) rfl ?_
      refine zk_icmp_eq (tgt := 68) C kd_Ps_isStatement_25 (by decide) rfl (fun b3 => ?_) (fun b3 => ?_)
      · replace e := zd_pos b3 e
        refine zk_iconst (v := 1) C kd_Ps_isStatement_68 (by decide) rfl ?_
        refine zk_goto (tgt := 73) C kd_Ps_isStatement_69 (by decide) ?_
        exact zk_zret C hR (zd_nb (Or.inr rfl)) kd_Ps_isStatement_73 rfl rfl (zd_rZT (Or.inr rfl) e)
      · replace e := zd_neg b3 e
        refine zk_aload_n C kd_Ps_isStatement_28 rfl 0 rfl rfl ?_
        refine zs_get (v := .int (h.1 19 5)) C 19 5 rfl rfl rfl rfl ki_Ps (by decide) kw206 kd_Ps_isStatement_29 rfl ?_
        refine zk_sipush (v := 149) C kd_Ps_isStatement_32 (by decide) rfl ?_
        refine zk_icmp_eq (tgt := 68) C kd_Ps_isStatement_35 (by decide) rfl (fun b4 => ?_) (fun b4 => ?_)
        · replace e := zd_pos b4 e
          refine zk_iconst (v := 1) C kd_Ps_isStatement_68 (by decide) rfl ?_
          refine zk_goto (tgt := 73) C kd_Ps_isStatement_69 (by decide) ?_
          exact zk_zret C hR (zd_nb (Or.inr rfl)) kd_Ps_isStatement_73 rfl rfl (zd_rZT (Or.inr rfl) e)
        · replace e := zd_neg b4 e
          refine zk_aload_n C kd_Ps_isStatement_38 rfl 0 rfl rfl ?_
          refine zs_get (v := .int (h.1 19 5)) C 19 5 rfl rfl rfl rfl ki_Ps (by decide) kw206 kd_Ps_isStatement_39 rfl ?_
          refine zk_sipush (v := 151) C kd_Ps_isStatement_42 (by decide) rfl ?_
          refine zk_icmp_eq (tgt := 68) C kd_Ps_isStatement_45 (by decide) rfl (fun b5 => ?_) (fun b5 => ?_)
          · replace e := zd_pos b5 e
            refine zk_iconst (v := 1) C kd_Ps_isStatement_68 (by decide) rfl ?_
            refine zk_goto (tgt := 73) C kd_Ps_isStatement_69 (by decide) ?_
            exact zk_zret C hR (zd_nb (Or.inr rfl)) kd_Ps_isStatement_73 rfl rfl (zd_rZT (Or.inr rfl) e)
          · replace e := zd_neg b5 e
            refine zk_aload_n C kd_Ps_isStatement_48 rfl 0 rfl rfl ?_
            refine zs_get (v := .int (h.1 19 5)) C 19 5 rfl rfl rfl rfl ki_Ps (by decide) kw206 kd_Ps_isStatement_49 rfl ?_
            refine zk_sipush (v := 156) C kd_Ps_isStatement_52 (by decide) rfl ?_
            refine zk_icmp_eq (tgt := 68) C kd_Ps_isStatement_55 (by decide) rfl (fun b6 => ?_) (fun b6 => ?_)
            · replace e := zd_pos b6 e
              refine zk_iconst (v := 1) C kd_Ps_isStatement_68 (by decide) rfl ?_
              refine zk_goto (tgt := 73) C kd_Ps_isStatement_69 (by decide) ?_
              exact zk_zret C hR (zd_nb (Or.inr rfl)) kd_Ps_isStatement_73 rfl rfl (zd_rZT (Or.inr rfl) e)
            · replace e := zd_neg b6 e
              refine zk_aload_n C kd_Ps_isStatement_58 rfl 0 rfl rfl ?_
              refine zs_get (v := .int (h.1 19 5)) C 19 5 rfl rfl rfl rfl ki_Ps (by decide) kw206 kd_Ps_isStatement_59 rfl ?_
              refine zk_sipush (v := 157) C kd_Ps_isStatement_62 (by decide) rfl ?_
              refine zk_icmp_ne (tgt := 72) C kd_Ps_isStatement_65 (by decide) rfl (fun b7 => ?_) (fun b7 => ?_)
              · replace e := zd_neg b7 e
                refine zk_iconst (v := 0) C kd_Ps_isStatement_72 (by decide) rfl ?_
                exact zk_zret C hR (zd_nb (Or.inl rfl)) kd_Ps_isStatement_73 rfl rfl (zd_rZT (Or.inl rfl) e)
              · replace e := zd_pos b7 e
                refine zk_iconst (v := 1) C kd_Ps_isStatement_68 (by decide) rfl ?_
                refine zk_goto (tgt := 73) C kd_Ps_isStatement_69 (by decide) ?_
                exact zk_zret C hR (zd_nb (Or.inr rfl)) kd_Ps_isStatement_73 rfl rfl (zd_rZT (Or.inr rfl) e)
set_option maxHeartbeats 4000000 in
set_option maxRecDepth 100000 in
theorem zb_Ps_deepen_35 {X : zkj_T} {S : zs_T} {P : ze_T} {l : Launch} {D : va_G} {sz0 : Nat} {rh : zs_H} (C : zk_C X km_Ps_deepen (zs_G S l D sz0) { frames := 0, cells := 0, slots := 0, locals := 0 } (ze_E P)) (hR : zkj_R X (zd_PV S rh) (none)) (h : zs_H) (e : f_Ps_deepen_35 h = some rh) : zk_Ab X (zs_W S h) 0 0 35 [(0, .ref (S.1 19))] [] := by
  unfold f_Ps_deepen_35 at e
  refine zk_aload_n C kd_Ps_deepen_35 rfl 0 rfl rfl ?_
  refine zk_dup C kd_Ps_deepen_36 rfl rfl ?_
  refine zs_get (v := .int (h.1 19 7)) C 19 7 rfl rfl rfl rfl ki_Ps (by decide) kw208 kd_Ps_deepen_37 rfl ?_
  refine zk_iconst (v := 1) C kd_Ps_deepen_40 (by decide) rfl ?_
  refine zk_iadd C kd_Ps_deepen_41 rfl ?_
  refine zs_put (ty := .int) C 19 7 ((h.1 19 7) + 1) rfl rfl rfl rfl ki_Ps ky_Ps ko_Ps kn_Ps (by decide) kw208 rfl rfl rfl rfl (by decide) kd_Ps_deepen_42 rfl ?_
  exact zk_vret C hR kd_Ps_deepen_45 rfl rfl (zd_rV e)
set_option maxHeartbeats 4000000 in
set_option maxRecDepth 100000 in
theorem zc_Ps_deepen {l : Launch} {D : va_G} {sz0 : Nat} {S : zs_T} {P : ze_T} (h : zs_H) {rh : zs_H} (e : f_Ps_deepen h = some rh) : zk_Sp (zs_G S l D sz0) (ze_E P) km_Ps_deepen { frames := 0, cells := 0, slots := 0, locals := 0 } [.ref (S.1 19)] (zs_W S h) (zd_PV S rh) := by
  refine zk_met ku_Ps_deepen (Nat.le_of_ble_eq_true rfl) (ze_Em P) ?_
  intro X C hR
  refine zk_lvs (lv' := [(0, .ref (S.1 19))]) [0] rfl ?_
  unfold f_Ps_deepen at e
  refine zk_aload_n C kd_Ps_deepen_0 rfl 0 rfl rfl ?_
  refine zs_get (v := .int (h.1 19 7)) C 19 7 rfl rfl rfl rfl ki_Ps (by decide) kw208 kd_Ps_deepen_1 rfl ?_
  refine zk_bipush (v := 60) C kd_Ps_deepen_4 (by decide) rfl ?_
  refine zk_icmp_lt (tgt := 35) C kd_Ps_deepen_6 (by decide) rfl (fun b1 => ?_) (fun b1 => ?_)
  · replace e := zd_pos b1 e
    refine zk_lvs (lv' := [(0, .ref (S.1 19))]) [0] rfl ?_
    exact zb_Ps_deepen_35 C hR h e
  · replace e := zd_neg b1 e
    refine zk_aload_n C kd_Ps_deepen_9 rfl 0 rfl rfl ?_
    refine zs_get (v := .int (h.1 19 3)) C 19 3 rfl rfl rfl rfl ki_Ps (by decide) kw204 kd_Ps_deepen_10 rfl ?_
    refine zk_if_ne (tgt := 35) C kd_Ps_deepen_13 (by decide) rfl (fun b2 => ?_) (fun b2 => ?_)
    · replace e := zd_neg b2 e
      refine zk_lvs (lv' := [(0, .ref (S.1 19))]) [0] rfl ?_
      exact zb_Ps_deepen_35 C hR h e
    · replace e := zd_pos b2 e
      refine zk_aload_n C kd_Ps_deepen_16 rfl 0 rfl rfl ?_
      refine zk_bipush (v := 7) C kd_Ps_deepen_17 (by decide) rfl ?_
      refine zs_put (ty := .int) C 19 3 7 rfl rfl rfl rfl ki_Ps ky_Ps ko_Ps kn_Ps (by decide) kw204 rfl rfl rfl rfl (by decide) kd_Ps_deepen_19 rfl ?_
      refine zk_aload_n C kd_Ps_deepen_22 rfl 0 rfl rfl ?_
      refine zk_aload_n C kd_Ps_deepen_23 rfl 0 rfl rfl ?_
      refine zs_get (v := .int (h.1 19 6)) C 19 6 rfl rfl rfl rfl ki_Ps (by decide) kw207 kd_Ps_deepen_24 rfl ?_
      refine zs_put (ty := .int) C 19 0 (h.1 19 6) rfl rfl rfl rfl ki_Ps ky_Ps ko_Ps kn_Ps (by decide) kw200 rfl rfl rfl rfl (by decide) kd_Ps_deepen_27 rfl ?_
      refine zk_aload_n C kd_Ps_deepen_30 rfl 0 rfl rfl ?_
      refine zk_iconst (v := 0) C kd_Ps_deepen_31 (by decide) rfl ?_
      refine zs_put (ty := .int) C 19 5 0 rfl rfl rfl rfl ki_Ps ky_Ps ko_Ps kn_Ps (by decide) kw206 rfl rfl rfl rfl (by decide) kd_Ps_deepen_32 rfl ?_
      refine zk_lvs (lv' := [(0, .ref (S.1 19))]) [0] rfl ?_
      exact zb_Ps_deepen_35 C hR (zs_uF (zs_uF (zs_uF h 19 3 7) 19 0 (h.1 19 6)) 19 5 0) e
set_option maxHeartbeats 4000000 in
set_option maxRecDepth 100000 in
theorem zc_Ps_operator {l : Launch} {D : va_G} {sz0 : Nat} {S : zs_T} {P : ze_T} (h : zs_H) : zk_Sp (zs_G S l D sz0) (ze_E P) km_Ps_operator { frames := 0, cells := 0, slots := 0, locals := 0 } [.ref (S.1 19)] (zs_W S h) (zd_PI S (f_Ps_operator h) h) := by
  obtain ⟨rv, e⟩ : ∃ rv, f_Ps_operator h = rv := ⟨_, rfl⟩
  rw [e]
  refine zk_met ku_Ps_operator (Nat.le_of_ble_eq_true rfl) (ze_Em P) ?_
  intro X C hR
  refine zk_lvs (lv' := [(0, .ref (S.1 19))]) [0] rfl ?_
  unfold f_Ps_operator at e
  refine zk_aload_n C kd_Ps_operator_0 rfl 0 rfl rfl ?_
  refine zs_get (v := .int (h.1 19 5)) C 19 5 rfl rfl rfl rfl ki_Ps (by decide) kw206 kd_Ps_operator_1 rfl ?_
  by_cases b1 : (h.1 19 5) = 3
  · replace e := zd_pos b1 e
    refine zk_lookup (tgt := 151) C kd_Ps_operator_4 (by decide) (by rw [b1]) (by decide) ?_
    refine zk_bipush (v := 7) C kd_Ps_operator_151 (by decide) rfl ?_
    exact zk_iret C hR kd_Ps_operator_153 rfl rfl (zd_rIT e)
  replace e := zd_neg b1 e
  by_cases b2 : (h.1 19 5) = 4
  · replace e := zd_pos b2 e
    refine zk_lookup (tgt := 154) C kd_Ps_operator_4 (by decide) (by rw [b2]) (by decide) ?_
    refine zk_bipush (v := 8) C kd_Ps_operator_154 (by decide) rfl ?_
    exact zk_iret C hR kd_Ps_operator_156 rfl rfl (zd_rIT e)
  replace e := zd_neg b2 e
  by_cases b3 : (h.1 19 5) = 5
  · replace e := zd_pos b3 e
    refine zk_lookup (tgt := 144) C kd_Ps_operator_4 (by decide) (by rw [b3]) (by decide) ?_
    refine zk_iconst (v := 4) C kd_Ps_operator_144 (by decide) rfl ?_
    exact zk_iret C hR kd_Ps_operator_145 rfl rfl (zd_rIT e)
  replace e := zd_neg b3 e
  by_cases b4 : (h.1 19 5) = 38
  · replace e := zd_pos b4 e
    refine zk_lookup (tgt := 140) C kd_Ps_operator_4 (by decide) (by rw [b4]) (by decide) ?_
    refine zk_iconst (v := 2) C kd_Ps_operator_140 (by decide) rfl ?_
    exact zk_iret C hR kd_Ps_operator_141 rfl rfl (zd_rIT e)
  replace e := zd_neg b4 e
  by_cases b5 : (h.1 19 5) = 42
  · replace e := zd_pos b5 e
    refine zk_lookup (tgt := 163) C kd_Ps_operator_4 (by decide) (by rw [b5]) (by decide) ?_
    refine zk_bipush (v := 11) C kd_Ps_operator_163 (by decide) rfl ?_
    exact zk_iret C hR kd_Ps_operator_165 rfl rfl (zd_rIT e)
  replace e := zd_neg b5 e
  by_cases b6 : (h.1 19 5) = 43
  · replace e := zd_pos b6 e
    refine zk_lookup (tgt := 157) C kd_Ps_operator_4 (by decide) (by rw [b6]) (by decide) ?_
    refine zk_bipush (v := 9) C kd_Ps_operator_157 (by decide) rfl ?_
    exact zk_iret C hR kd_Ps_operator_159 rfl rfl (zd_rIT e)
  replace e := zd_neg b6 e
  by_cases b7 : (h.1 19 5) = 45
  · replace e := zd_pos b7 e
    refine zk_lookup (tgt := 160) C kd_Ps_operator_4 (by decide) (by rw [b7]) (by decide) ?_
    refine zk_bipush (v := 10) C kd_Ps_operator_160 (by decide) rfl ?_
    exact zk_iret C hR kd_Ps_operator_162 rfl rfl (zd_rIT e)
  replace e := zd_neg b7 e
  by_cases b8 : (h.1 19 5) = 47
  · replace e := zd_pos b8 e
    refine zk_lookup (tgt := 166) C kd_Ps_operator_4 (by decide) (by rw [b8]) (by decide) ?_
    refine zk_bipush (v := 12) C kd_Ps_operator_166 (by decide) rfl ?_
    exact zk_iret C hR kd_Ps_operator_168 rfl rfl (zd_rIT e)
  replace e := zd_neg b8 e
  by_cases b9 : (h.1 19 5) = 60
  · replace e := zd_pos b9 e
    refine zk_lookup (tgt := 146) C kd_Ps_operator_4 (by decide) (by rw [b9]) (by decide) ?_
    refine zk_iconst (v := 5) C kd_Ps_operator_146 (by decide) rfl ?_
    exact zk_iret C hR kd_Ps_operator_147 rfl rfl (zd_rIT e)
  replace e := zd_neg b9 e
  by_cases b10 : (h.1 19 5) = 61
  · replace e := zd_pos b10 e
    refine zk_lookup (tgt := 142) C kd_Ps_operator_4 (by decide) (by rw [b10]) (by decide) ?_
    refine zk_iconst (v := 3) C kd_Ps_operator_142 (by decide) rfl ?_
    exact zk_iret C hR kd_Ps_operator_143 rfl rfl (zd_rIT e)
  replace e := zd_neg b10 e
  by_cases b11 : (h.1 19 5) = 62
  · replace e := zd_pos b11 e
    refine zk_lookup (tgt := 148) C kd_Ps_operator_4 (by decide) (by rw [b11]) (by decide) ?_
    refine zk_bipush (v := 6) C kd_Ps_operator_148 (by decide) rfl ?_
    exact zk_iret C hR kd_Ps_operator_150 rfl rfl (zd_rIT e)
  replace e := zd_neg b11 e
  by_cases b12 : (h.1 19 5) = 158
  · replace e := zd_pos b12 e
    refine zk_lookup (tgt := 136) C kd_Ps_operator_4 (by decide) (by rw [b12]) (by decide) ?_
    refine zk_iconst (v := 0) C kd_Ps_operator_136 (by decide) rfl ?_
    exact zk_iret C hR kd_Ps_operator_137 rfl rfl (zd_rIT e)
  replace e := zd_neg b12 e
  by_cases b13 : (h.1 19 5) = 159
  · replace e := zd_pos b13 e
    refine zk_lookup (tgt := 138) C kd_Ps_operator_4 (by decide) (by rw [b13]) (by decide) ?_
    refine zk_iconst (v := 1) C kd_Ps_operator_138 (by decide) rfl ?_
    exact zk_iret C hR kd_Ps_operator_139 rfl rfl (zd_rIT e)
  replace e := zd_neg b13 e
  by_cases b14 : (h.1 19 5) = 160
  · replace e := zd_pos b14 e
    refine zk_lookup (tgt := 140) C kd_Ps_operator_4 (by decide) (by rw [b14]) (by decide) ?_
    refine zk_iconst (v := 2) C kd_Ps_operator_140 (by decide) rfl ?_
    exact zk_iret C hR kd_Ps_operator_141 rfl rfl (zd_rIT e)
  replace e := zd_neg b14 e
  by_cases b15 : (h.1 19 5) = 161
  · replace e := zd_pos b15 e
    refine zk_lookup (tgt := 169) C kd_Ps_operator_4 (by decide) (by rw [b15]) (by decide) ?_
    refine zk_bipush (v := 13) C kd_Ps_operator_169 (by decide) rfl ?_
    exact zk_iret C hR kd_Ps_operator_171 rfl rfl (zd_rIT e)
  replace e := zd_neg b15 e
  refine zk_lookup (tgt := 172) C kd_Ps_operator_4 (by decide) (zd_lk (by show _ ∉ ([3, 4, 5, 38, 42, 43, 45, 47, 60, 61, 62, 158, 159, 160, 161] : List Int); have n0 := lv_neT b1 (a := 3) (by decide); have n1 := lv_neT b2 (a := 4) (by decide); have n2 := lv_neT b3 (a := 5) (by decide); have n3 := lv_neT b4 (a := 38) (by decide); have n4 := lv_neT b5 (a := 42) (by decide); have n5 := lv_neT b6 (a := 43) (by decide); have n6 := lv_neT b7 (a := 45) (by decide); have n7 := lv_neT b8 (a := 47) (by decide); have n8 := lv_neT b9 (a := 60) (by decide); have n9 := lv_neT b10 (a := 61) (by decide); have n10 := lv_neT b11 (a := 62) (by decide); have n11 := lv_neT b12 (a := 158) (by decide); have n12 := lv_neT b13 (a := 159) (by decide); have n13 := lv_neT b14 (a := 160) (by decide); have n14 := lv_neT b15 (a := 161) (by decide); simp only [List.mem_cons, List.not_mem_nil, or_false, not_or]; exact ⟨n0, n1, n2, n3, n4, n5, n6, n7, n8, n9, n10, n11, n12, n13, n14⟩)) (by decide) ?_
  refine zk_iconst (v := (-1)) C kd_Ps_operator_172 (by decide) rfl ?_
  exact zk_iret C hR kd_Ps_operator_173 rfl rfl (zd_rIT e)
