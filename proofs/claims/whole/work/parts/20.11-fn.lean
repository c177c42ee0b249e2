theorem kw2300 : Jvm.Cond.instanceMethod ({ cls := "PlantKeeperModel", name := "inputs", desc := "(I)I" } : Jvm.MethodName) ∈ zk_BW := zk_inT 2300 (by decide +kernel) rfl
theorem kw2301 : Jvm.Cond.code ({ cls := "PlantKeeperModel", name := "inputs", desc := "(I)I" } : Jvm.MethodName) prog_14_method_77_code (4 : Nat) (Option.some FieldType.int) ∈ zk_BW := zk_inT 2301 (by decide +kernel) rfl
theorem kw2304 : Jvm.Cond.instanceMethod ({ cls := "PlantKeeperModel", name := "endBlock", desc := "(I)V" } : Jvm.MethodName) ∈ zk_BW := zk_inT 2304 (by decide +kernel) rfl
theorem kw2305 : Jvm.Cond.code ({ cls := "PlantKeeperModel", name := "endBlock", desc := "(I)V" } : Jvm.MethodName) prog_14_method_92_code (2 : Nat) (Option.none : Option FieldType) ∈ zk_BW := zk_inT 2305 (by decide +kernel) rfl
theorem kw2306 : Jvm.Cond.methodLink "PlantKeeperModel" (587 : Nat) ({ cls := "PlantKeeperModel", name := "give", desc := "(IZ)V" } : Jvm.MethodName) ∈ zk_BW := zk_inT 2306 (by decide +kernel) rfl
theorem kw2308 : Jvm.Cond.instanceMethod ({ cls := "PlantKeeperModel", name := "give", desc := "(IZ)V" } : Jvm.MethodName) ∈ zk_BW := zk_inT 2308 (by decide +kernel) rfl
theorem kw2309 : Jvm.Cond.code ({ cls := "PlantKeeperModel", name := "give", desc := "(IZ)V" } : Jvm.MethodName) prog_14_method_93_code (6 : Nat) (Option.none : Option FieldType) ∈ zk_BW := zk_inT 2309 (by decide +kernel) rfl
theorem kw2312 : Jvm.Cond.instanceMethod ({ cls := "PlantKeeperModel", name := "lookAtDeclaration", desc := "(I)V" } : Jvm.MethodName) ∈ zk_BW := zk_inT 2312 (by decide +kernel) rfl
set_option maxRecDepth 1000000 in
theorem kw2313 : Jvm.Cond.code ({ cls := "PlantKeeperModel", name := "lookAtDeclaration", desc := "(I)V" } : Jvm.MethodName) prog_14_method_90_code (11 : Nat) (Option.none : Option FieldType) ∈ zk_BW := zk_inT 2313 (by with_unfolding_all exact rfl) rfl
theorem kw2314 : Jvm.Cond.methodLink "PlantKeeperModel" (581 : Nat) ({ cls := "PlantKeeperModel", name := "blockOf", desc := "(I)I" } : Jvm.MethodName) ∈ zk_BW := zk_inT 2314 (by decide +kernel) rfl
theorem kw2318 : Jvm.Cond.methodLink "PlantKeeperModel" (584 : Nat) ({ cls := "PlantKeeperModel", name := "instanceCells", desc := "(I)I" } : Jvm.MethodName) ∈ zk_BW := zk_inT 2318 (by decide +kernel) rfl
abbrev kc_Mo_endBlock : ByteArray := prog_14_method_92_code
def km_Mo_endBlock : zk_MT := (⟨"PlantKeeperModel", "endBlock", "(I)V"⟩, kc_Mo_endBlock, 2, none, 1)
theorem ku_Mo_endBlock : zk_My km_Mo_endBlock := ⟨kw2305, kw17, by decide, by decide, by decide, by decide +kernel⟩
theorem kv_Mo_endBlock : zk_Mv km_Mo_endBlock := ⟨kw2304, zk_inS 218 (q := (⟨"PlantKeeperModel", "endBlock", "(I)V"⟩, 96)) (by decide +kernel)⟩
abbrev kc_Mo_give : ByteArray := prog_14_method_93_code
def km_Mo_give : zk_MT := (⟨"PlantKeeperModel", "give", "(IZ)V"⟩, kc_Mo_give, 6, none, 2)
theorem ku_Mo_give : zk_My km_Mo_give := ⟨kw2309, kw17, by decide, by decide, by decide, by decide +kernel⟩
theorem kv_Mo_give : zk_Mv km_Mo_give := ⟨kw2308, zk_inS 219 (q := (⟨"PlantKeeperModel", "give", "(IZ)V"⟩, 96)) (by decide +kernel)⟩
abbrev kc_Mo_inputs : ByteArray := prog_14_method_77_code
def km_Mo_inputs : zk_MT := (⟨"PlantKeeperModel", "inputs", "(I)I"⟩, kc_Mo_inputs, 4, some .int, 1)
theorem ku_Mo_inputs : zk_My km_Mo_inputs := ⟨kw2301, kw17, by decide, by decide, by decide, by decide +kernel⟩
theorem kv_Mo_inputs : zk_Mv km_Mo_inputs := ⟨kw2300, zk_inS 217 (q := (⟨"PlantKeeperModel", "inputs", "(I)I"⟩, 96)) (by decide +kernel)⟩
abbrev kc_Mo_lookAtDeclaration : ByteArray := prog_14_method_90_code
def km_Mo_lookAtDeclaration : zk_MT := (⟨"PlantKeeperModel", "lookAtDeclaration", "(I)V"⟩, kc_Mo_lookAtDeclaration, 11, none, 1)
theorem ku_Mo_lookAtDeclaration : zk_My km_Mo_lookAtDeclaration := ⟨kw2313, kw17, by decide, by decide, by decide, by decide +kernel⟩
theorem kv_Mo_lookAtDeclaration : zk_Mv km_Mo_lookAtDeclaration := ⟨kw2312, zk_inS 220 (q := (⟨"PlantKeeperModel", "lookAtDeclaration", "(I)V"⟩, 96)) (by decide +kernel)⟩
theorem kd_Mo_endBlock_0 : decode kc_Mo_endBlock 0 = .ok (.aload_n 0, 1) := by decide +kernel
theorem kd_Mo_endBlock_1 : decode kc_Mo_endBlock 1 = .ok (.iload_n 1, 1) := by decide +kernel
theorem kd_Mo_endBlock_2 : decode kc_Mo_endBlock 2 = .ok (.iconst 0, 1) := by decide +kernel
theorem kd_Mo_endBlock_3 : decode kc_Mo_endBlock 3 = .ok (.invokevirtual 587, 3) := by decide +kernel
theorem kd_Mo_endBlock_6 : decode kc_Mo_endBlock 6 = .ok (.aload_n 0, 1) := by decide +kernel
theorem kd_Mo_endBlock_7 : decode kc_Mo_endBlock 7 = .ok (.iload_n 1, 1) := by decide +kernel
theorem kd_Mo_endBlock_8 : decode kc_Mo_endBlock 8 = .ok (.iconst 1, 1) := by decide +kernel
theorem kd_Mo_endBlock_9 : decode kc_Mo_endBlock 9 = .ok (.invokevirtual 587, 3) := by decide +kernel
theorem kd_Mo_endBlock_12 : decode kc_Mo_endBlock 12 = .ok (.aload_n 0, 1) := by decide +kernel
theorem kd_Mo_endBlock_13 : decode kc_Mo_endBlock 13 = .ok (.getfield 70, 3) := by decide +kernel
theorem kd_Mo_endBlock_16 : decode kc_Mo_endBlock 16 = .ok (.aload_n 0, 1) := by decide +kernel
theorem kd_Mo_endBlock_17 : decode kc_Mo_endBlock 17 = .ok (.getfield 550, 3) := by decide +kernel
theorem kd_Mo_endBlock_20 : decode kc_Mo_endBlock 20 = .ok (.dup2, 1) := by decide +kernel
theorem kd_Mo_endBlock_21 : decode kc_Mo_endBlock 21 = .ok (.iaload, 1) := by decide +kernel
theorem kd_Mo_endBlock_22 : decode kc_Mo_endBlock 22 = .ok (.aload_n 0, 1) := by decide +kernel
theorem kd_Mo_endBlock_23 : decode kc_Mo_endBlock 23 = .ok (.getfield 22, 3) := by decide +kernel
theorem kd_Mo_endBlock_26 : decode kc_Mo_endBlock 26 = .ok (.aload_n 0, 1) := by decide +kernel
theorem kd_Mo_endBlock_27 : decode kc_Mo_endBlock 27 = .ok (.getfield 37, 3) := by decide +kernel
theorem kd_Mo_endBlock_30 : decode kc_Mo_endBlock 30 = .ok (.iload_n 1, 1) := by decide +kernel
theorem kd_Mo_endBlock_31 : decode kc_Mo_endBlock 31 = .ok (.iaload, 1) := by decide +kernel
theorem kd_Mo_endBlock_32 : decode kc_Mo_endBlock 32 = .ok (.iaload, 1) := by decide +kernel
theorem kd_Mo_endBlock_33 : decode kc_Mo_endBlock 33 = .ok (.bipush 22, 2) := by decide +kernel
theorem kd_Mo_endBlock_35 : decode kc_Mo_endBlock 35 = .ok (.if_icmp .ne 9, 3) := by decide +kernel
theorem kd_Mo_endBlock_38 : decode kc_Mo_endBlock 38 = .ok (.sipush 156, 3) := by decide +kernel
theorem kd_Mo_endBlock_41 : decode kc_Mo_endBlock 41 = .ok (.goto 4, 3) := by decide +kernel
theorem kd_Mo_endBlock_44 : decode kc_Mo_endBlock 44 = .ok (.iconst 0, 1) := by decide +kernel
theorem kd_Mo_endBlock_45 : decode kc_Mo_endBlock 45 = .ok (.iadd, 1) := by decide +kernel
theorem kd_Mo_endBlock_46 : decode kc_Mo_endBlock 46 = .ok (.iastore, 1) := by decide +kernel
theorem kd_Mo_endBlock_47 : decode kc_Mo_endBlock 47 = .ok (.return_, 1) := by decide +kernel
theorem kd_Mo_give_0 : decode kc_Mo_give 0 = .ok (.aload_n 0, 1) := by decide +kernel
theorem kd_Mo_give_1 : decode kc_Mo_give 1 = .ok (.getfield 22, 3) := by decide +kernel
theorem kd_Mo_give_4 : decode kc_Mo_give 4 = .ok (.iload_n 1, 1) := by decide +kernel
theorem kd_Mo_give_5 : decode kc_Mo_give 5 = .ok (.iaload, 1) := by decide +kernel
theorem kd_Mo_give_6 : decode kc_Mo_give 6 = .ok (.istore_n 3, 1) := by decide +kernel
theorem kd_Mo_give_7 : decode kc_Mo_give 7 = .ok (.iload_n 2, 1) := by decide +kernel
theorem kd_Mo_give_8 : decode kc_Mo_give 8 = .ok (.ifCond .eq 27, 3) := by decide +kernel
theorem kd_Mo_give_11 : decode kc_Mo_give 11 = .ok (.iload_n 3, 1) := by decide +kernel
theorem kd_Mo_give_12 : decode kc_Mo_give 12 = .ok (.bipush 25, 2) := by decide +kernel
theorem kd_Mo_give_14 : decode kc_Mo_give 14 = .ok (.if_icmp .ne 17, 3) := by decide +kernel
theorem kd_Mo_give_17 : decode kc_Mo_give 17 = .ok (.aload_n 0, 1) := by decide +kernel
theorem kd_Mo_give_18 : decode kc_Mo_give 18 = .ok (.getfield 28, 3) := by decide +kernel
theorem kd_Mo_give_21 : decode kc_Mo_give 21 = .ok (.iload_n 1, 1) := by decide +kernel
theorem kd_Mo_give_22 : decode kc_Mo_give 22 = .ok (.iaload, 1) := by decide +kernel
theorem kd_Mo_give_23 : decode kc_Mo_give 23 = .ok (.iconst 1, 1) := by decide +kernel
theorem kd_Mo_give_24 : decode kc_Mo_give 24 = .ok (.if_icmp .le 7, 3) := by decide +kernel
theorem kd_Mo_give_27 : decode kc_Mo_give 27 = .ok (.iconst 1, 1) := by decide +kernel
theorem kd_Mo_give_28 : decode kc_Mo_give 28 = .ok (.goto 24, 3) := by decide +kernel
theorem kd_Mo_give_31 : decode kc_Mo_give 31 = .ok (.iconst 0, 1) := by decide +kernel
theorem kd_Mo_give_32 : decode kc_Mo_give 32 = .ok (.goto 20, 3) := by decide +kernel
theorem kd_Mo_give_35 : decode kc_Mo_give 35 = .ok (.iload_n 3, 1) := by decide +kernel
theorem kd_Mo_give_36 : decode kc_Mo_give 36 = .ok (.bipush 16, 2) := by decide +kernel
theorem kd_Mo_give_38 : decode kc_Mo_give 38 = .ok (.if_icmp .eq 9, 3) := by decide +kernel
theorem kd_Mo_give_41 : decode kc_Mo_give 41 = .ok (.iload_n 3, 1) := by decide +kernel
theorem kd_Mo_give_42 : decode kc_Mo_give 42 = .ok (.bipush 19, 2) := by decide +kernel
theorem kd_Mo_give_44 : decode kc_Mo_give 44 = .ok (.if_icmp .ne 7, 3) := by decide +kernel
theorem kd_Mo_give_47 : decode kc_Mo_give 47 = .ok (.iconst 1, 1) := by decide +kernel
theorem kd_Mo_give_48 : decode kc_Mo_give 48 = .ok (.goto 4, 3) := by decide +kernel
theorem kd_Mo_give_51 : decode kc_Mo_give 51 = .ok (.iconst 0, 1) := by decide +kernel
theorem kd_Mo_give_52 : decode kc_Mo_give 52 = .ok (.istore 4, 2) := by decide +kernel
theorem kd_Mo_give_54 : decode kc_Mo_give 54 = .ok (.iload 4, 2) := by decide +kernel
theorem kd_Mo_give_56 : decode kc_Mo_give 56 = .ok (.ifCond .eq 27, 3) := by decide +kernel
theorem kd_Mo_give_59 : decode kc_Mo_give 59 = .ok (.iload_n 3, 1) := by decide +kernel
theorem kd_Mo_give_60 : decode kc_Mo_give 60 = .ok (.bipush 19, 2) := by decide +kernel
theorem kd_Mo_give_62 : decode kc_Mo_give 62 = .ok (.if_icmp .ne 21, 3) := by decide +kernel
theorem kd_Mo_give_65 : decode kc_Mo_give 65 = .ok (.aload_n 0, 1) := by decide +kernel
theorem kd_Mo_give_66 : decode kc_Mo_give 66 = .ok (.getfield 112, 3) := by decide +kernel
theorem kd_Mo_give_69 : decode kc_Mo_give 69 = .ok (.iload_n 1, 1) := by decide +kernel
theorem kd_Mo_give_70 : decode kc_Mo_give 70 = .ok (.aload_n 0, 1) := by decide +kernel
theorem kd_Mo_give_71 : decode kc_Mo_give 71 = .ok (.getfield 70, 3) := by decide +kernel
theorem kd_Mo_give_74 : decode kc_Mo_give 74 = .ok (.aload_n 0, 1) := by decide +kernel
theorem kd_Mo_give_75 : decode kc_Mo_give 75 = .ok (.getfield 550, 3) := by decide +kernel
theorem kd_Mo_give_78 : decode kc_Mo_give 78 = .ok (.iaload, 1) := by decide +kernel
theorem kd_Mo_give_79 : decode kc_Mo_give 79 = .ok (.iastore, 1) := by decide +kernel
theorem kd_Mo_give_80 : decode kc_Mo_give 80 = .ok (.goto 23, 3) := by decide +kernel
theorem kd_Mo_give_83 : decode kc_Mo_give 83 = .ok (.iload 4, 2) := by decide +kernel
theorem kd_Mo_give_85 : decode kc_Mo_give 85 = .ok (.ifCond .eq 18, 3) := by decide +kernel
theorem kd_Mo_give_88 : decode kc_Mo_give 88 = .ok (.aload_n 0, 1) := by decide +kernel
theorem kd_Mo_give_89 : decode kc_Mo_give 89 = .ok (.getfield 109, 3) := by decide +kernel
theorem kd_Mo_give_92 : decode kc_Mo_give 92 = .ok (.iload_n 1, 1) := by decide +kernel
theorem kd_Mo_give_93 : decode kc_Mo_give 93 = .ok (.aload_n 0, 1) := by decide +kernel
theorem kd_Mo_give_94 : decode kc_Mo_give 94 = .ok (.getfield 70, 3) := by decide +kernel
theorem kd_Mo_give_97 : decode kc_Mo_give 97 = .ok (.aload_n 0, 1) := by decide +kernel
theorem kd_Mo_give_98 : decode kc_Mo_give 98 = .ok (.getfield 550, 3) := by decide +kernel
theorem kd_Mo_give_101 : decode kc_Mo_give 101 = .ok (.iaload, 1) := by decide +kernel
theorem kd_Mo_give_102 : decode kc_Mo_give 102 = .ok (.iastore, 1) := by decide +kernel
theorem kd_Mo_give_103 : decode kc_Mo_give 103 = .ok (.aload_n 0, 1) := by decide +kernel
theorem kd_Mo_give_104 : decode kc_Mo_give 104 = .ok (.getfield 70, 3) := by decide +kernel
theorem kd_Mo_give_107 : decode kc_Mo_give 107 = .ok (.aload_n 0, 1) := by decide +kernel
theorem kd_Mo_give_108 : decode kc_Mo_give 108 = .ok (.getfield 550, 3) := by decide +kernel
theorem kd_Mo_give_111 : decode kc_Mo_give 111 = .ok (.dup2, 1) := by decide +kernel
theorem kd_Mo_give_112 : decode kc_Mo_give 112 = .ok (.iaload, 1) := by decide +kernel
theorem kd_Mo_give_113 : decode kc_Mo_give 113 = .ok (.iload 4, 2) := by decide +kernel
theorem kd_Mo_give_115 : decode kc_Mo_give 115 = .ok (.ifCond .eq 7, 3) := by decide +kernel
theorem kd_Mo_give_118 : decode kc_Mo_give 118 = .ok (.iconst 1, 1) := by decide +kernel
theorem kd_Mo_give_119 : decode kc_Mo_give 119 = .ok (.goto 4, 3) := by decide +kernel
theorem kd_Mo_give_122 : decode kc_Mo_give 122 = .ok (.iconst 0, 1) := by decide +kernel
theorem kd_Mo_give_123 : decode kc_Mo_give 123 = .ok (.iadd, 1) := by decide +kernel
theorem kd_Mo_give_124 : decode kc_Mo_give 124 = .ok (.iastore, 1) := by decide +kernel
theorem kd_Mo_give_125 : decode kc_Mo_give 125 = .ok (.aload_n 0, 1) := by decide +kernel
theorem kd_Mo_give_126 : decode kc_Mo_give 126 = .ok (.getfield 34, 3) := by decide +kernel
theorem kd_Mo_give_129 : decode kc_Mo_give 129 = .ok (.iload_n 1, 1) := by decide +kernel
theorem kd_Mo_give_130 : decode kc_Mo_give 130 = .ok (.iaload, 1) := by decide +kernel
theorem kd_Mo_give_131 : decode kc_Mo_give 131 = .ok (.istore 5, 2) := by decide +kernel
theorem kd_Mo_give_133 : decode kc_Mo_give 133 = .ok (.iload 5, 2) := by decide +kernel
theorem kd_Mo_give_135 : decode kc_Mo_give 135 = .ok (.ifCond .lt 34, 3) := by decide +kernel
theorem kd_Mo_give_138 : decode kc_Mo_give 138 = .ok (.aload_n 0, 1) := by decide +kernel
theorem kd_Mo_give_139 : decode kc_Mo_give 139 = .ok (.getfield 22, 3) := by decide +kernel
theorem kd_Mo_give_142 : decode kc_Mo_give 142 = .ok (.iload 5, 2) := by decide +kernel
theorem kd_Mo_give_144 : decode kc_Mo_give 144 = .ok (.iaload, 1) := by decide +kernel
theorem kd_Mo_give_145 : decode kc_Mo_give 145 = .ok (.bipush 30, 2) := by decide +kernel
theorem kd_Mo_give_147 : decode kc_Mo_give 147 = .ok (.if_icmp .ge 10, 3) := by decide +kernel
theorem kd_Mo_give_150 : decode kc_Mo_give 150 = .ok (.aload_n 0, 1) := by decide +kernel
theorem kd_Mo_give_151 : decode kc_Mo_give 151 = .ok (.iload 5, 2) := by decide +kernel
theorem kd_Mo_give_153 : decode kc_Mo_give 153 = .ok (.iload_n 2, 1) := by decide +kernel
theorem kd_Mo_give_154 : decode kc_Mo_give 154 = .ok (.invokevirtual 587, 3) := by decide +kernel
theorem kd_Mo_give_157 : decode kc_Mo_give 157 = .ok (.aload_n 0, 1) := by decide +kernel
theorem kd_Mo_give_158 : decode kc_Mo_give 158 = .ok (.getfield 40, 3) := by decide +kernel
theorem kd_Mo_give_161 : decode kc_Mo_give 161 = .ok (.iload 5, 2) := by decide +kernel
theorem kd_Mo_give_163 : decode kc_Mo_give 163 = .ok (.iaload, 1) := by decide +kernel
theorem kd_Mo_give_164 : decode kc_Mo_give 164 = .ok (.istore 5, 2) := by decide +kernel
theorem kd_Mo_give_166 : decode kc_Mo_give 166 = .ok (.goto (-33), 3) := by decide +kernel
theorem kd_Mo_give_169 : decode kc_Mo_give 169 = .ok (.return_, 1) := by decide +kernel
theorem kd_Mo_inputs_0 : decode kc_Mo_inputs 0 = .ok (.iconst 0, 1) := by decide +kernel
theorem kd_Mo_inputs_1 : decode kc_Mo_inputs 1 = .ok (.istore_n 2, 1) := by decide +kernel
theorem kd_Mo_inputs_2 : decode kc_Mo_inputs 2 = .ok (.aload_n 0, 1) := by decide +kernel
theorem kd_Mo_inputs_3 : decode kc_Mo_inputs 3 = .ok (.getfield 76, 3) := by decide +kernel
theorem kd_Mo_inputs_6 : decode kc_Mo_inputs 6 = .ok (.iload_n 1, 1) := by decide +kernel
theorem kd_Mo_inputs_7 : decode kc_Mo_inputs 7 = .ok (.iaload, 1) := by decide +kernel
theorem kd_Mo_inputs_8 : decode kc_Mo_inputs 8 = .ok (.istore_n 3, 1) := by decide +kernel
theorem kd_Mo_inputs_9 : decode kc_Mo_inputs 9 = .ok (.iload_n 3, 1) := by decide +kernel
theorem kd_Mo_inputs_10 : decode kc_Mo_inputs 10 = .ok (.iload_n 1, 1) := by decide +kernel
theorem kd_Mo_inputs_11 : decode kc_Mo_inputs 11 = .ok (.aload_n 0, 1) := by decide +kernel
theorem kd_Mo_inputs_12 : decode kc_Mo_inputs 12 = .ok (.getfield 462, 3) := by decide +kernel
theorem kd_Mo_inputs_15 : decode kc_Mo_inputs 15 = .ok (.iconst 1, 1) := by decide +kernel
theorem kd_Mo_inputs_16 : decode kc_Mo_inputs 16 = .ok (.isub, 1) := by decide +kernel
theorem kd_Mo_inputs_17 : decode kc_Mo_inputs 17 = .ok (.if_icmp .ne 10, 3) := by decide +kernel
theorem kd_Mo_inputs_20 : decode kc_Mo_inputs 20 = .ok (.aload_n 0, 1) := by decide +kernel
theorem kd_Mo_inputs_21 : decode kc_Mo_inputs 21 = .ok (.getfield 465, 3) := by decide +kernel
theorem kd_Mo_inputs_24 : decode kc_Mo_inputs 24 = .ok (.goto 11, 3) := by decide +kernel
theorem kd_Mo_inputs_27 : decode kc_Mo_inputs 27 = .ok (.aload_n 0, 1) := by decide +kernel
theorem kd_Mo_inputs_28 : decode kc_Mo_inputs 28 = .ok (.getfield 76, 3) := by decide +kernel
theorem kd_Mo_inputs_31 : decode kc_Mo_inputs 31 = .ok (.iload_n 1, 1) := by decide +kernel
theorem kd_Mo_inputs_32 : decode kc_Mo_inputs 32 = .ok (.iconst 1, 1) := by decide +kernel
theorem kd_Mo_inputs_33 : decode kc_Mo_inputs 33 = .ok (.iadd, 1) := by decide +kernel
theorem kd_Mo_inputs_34 : decode kc_Mo_inputs 34 = .ok (.iaload, 1) := by decide +kernel
theorem kd_Mo_inputs_35 : decode kc_Mo_inputs 35 = .ok (.if_icmp .ge 27, 3) := by decide +kernel
theorem kd_Mo_inputs_38 : decode kc_Mo_inputs 38 = .ok (.iload_n 2, 1) := by decide +kernel
theorem kd_Mo_inputs_39 : decode kc_Mo_inputs 39 = .ok (.aload_n 0, 1) := by decide +kernel
theorem kd_Mo_inputs_40 : decode kc_Mo_inputs 40 = .ok (.getfield 91, 3) := by decide +kernel
theorem kd_Mo_inputs_43 : decode kc_Mo_inputs 43 = .ok (.iload_n 3, 1) := by decide +kernel
theorem kd_Mo_inputs_44 : decode kc_Mo_inputs 44 = .ok (.iaload, 1) := by decide +kernel
theorem kd_Mo_inputs_45 : decode kc_Mo_inputs 45 = .ok (.iconst 1, 1) := by decide +kernel
theorem kd_Mo_inputs_46 : decode kc_Mo_inputs 46 = .ok (.if_icmp .ne 7, 3) := by decide +kernel
theorem kd_Mo_inputs_49 : decode kc_Mo_inputs 49 = .ok (.iconst 1, 1) := by decide +kernel
theorem kd_Mo_inputs_50 : decode kc_Mo_inputs 50 = .ok (.goto 4, 3) := by decide +kernel
theorem kd_Mo_inputs_53 : decode kc_Mo_inputs 53 = .ok (.iconst 0, 1) := by decide +kernel
theorem kd_Mo_inputs_54 : decode kc_Mo_inputs 54 = .ok (.iadd, 1) := by decide +kernel
theorem kd_Mo_inputs_55 : decode kc_Mo_inputs 55 = .ok (.istore_n 2, 1) := by decide +kernel
theorem kd_Mo_inputs_56 : decode kc_Mo_inputs 56 = .ok (.iinc 3 1, 3) := by decide +kernel
theorem kd_Mo_inputs_59 : decode kc_Mo_inputs 59 = .ok (.goto (-50), 3) := by decide +kernel
theorem kd_Mo_inputs_62 : decode kc_Mo_inputs 62 = .ok (.iload_n 2, 1) := by decide +kernel
theorem kd_Mo_inputs_63 : decode kc_Mo_inputs 63 = .ok (.ireturn, 1) := by decide +kernel
theorem kd_Mo_lookAtDeclaration_0 : decode kc_Mo_lookAtDeclaration 0 = .ok (.iconst 0, 1) := by decide +kernel
theorem kd_Mo_lookAtDeclaration_1 : decode kc_Mo_lookAtDeclaration 1 = .ok (.istore_n 2, 1) := by decide +kernel
theorem kd_Mo_lookAtDeclaration_2 : decode kc_Mo_lookAtDeclaration 2 = .ok (.iconst (-1), 1) := by decide +kernel
theorem kd_Mo_lookAtDeclaration_3 : decode kc_Mo_lookAtDeclaration 3 = .ok (.istore_n 3, 1) := by decide +kernel
theorem kd_Mo_lookAtDeclaration_4 : decode kc_Mo_lookAtDeclaration 4 = .ok (.iconst (-1), 1) := by decide +kernel
theorem kd_Mo_lookAtDeclaration_5 : decode kc_Mo_lookAtDeclaration 5 = .ok (.istore 4, 2) := by decide +kernel
theorem kd_Mo_lookAtDeclaration_7 : decode kc_Mo_lookAtDeclaration 7 = .ok (.iconst (-1), 1) := by decide +kernel
theorem kd_Mo_lookAtDeclaration_8 : decode kc_Mo_lookAtDeclaration 8 = .ok (.istore 5, 2) := by decide +kernel
theorem kd_Mo_lookAtDeclaration_10 : decode kc_Mo_lookAtDeclaration 10 = .ok (.aload_n 0, 1) := by decide +kernel
theorem kd_Mo_lookAtDeclaration_11 : decode kc_Mo_lookAtDeclaration 11 = .ok (.getfield 34, 3) := by decide +kernel
theorem kd_Mo_lookAtDeclaration_14 : decode kc_Mo_lookAtDeclaration 14 = .ok (.iload_n 1, 1) := by decide +kernel
theorem kd_Mo_lookAtDeclaration_15 : decode kc_Mo_lookAtDeclaration 15 = .ok (.iaload, 1) := by decide +kernel
theorem kd_Mo_lookAtDeclaration_16 : decode kc_Mo_lookAtDeclaration 16 = .ok (.istore 6, 2) := by decide +kernel
theorem kd_Mo_lookAtDeclaration_18 : decode kc_Mo_lookAtDeclaration 18 = .ok (.iload 6, 2) := by decide +kernel
theorem kd_Mo_lookAtDeclaration_20 : decode kc_Mo_lookAtDeclaration 20 = .ok (.ifCond .lt 113, 3) := by decide +kernel
theorem kd_Mo_lookAtDeclaration_23 : decode kc_Mo_lookAtDeclaration 23 = .ok (.iload_n 2, 1) := by decide +kernel
theorem kd_Mo_lookAtDeclaration_24 : decode kc_Mo_lookAtDeclaration 24 = .ok (.aload_n 0, 1) := by decide +kernel
theorem kd_Mo_lookAtDeclaration_25 : decode kc_Mo_lookAtDeclaration 25 = .ok (.getfield 22, 3) := by decide +kernel
theorem kd_Mo_lookAtDeclaration_28 : decode kc_Mo_lookAtDeclaration 28 = .ok (.iload 6, 2) := by decide +kernel
theorem kd_Mo_lookAtDeclaration_30 : decode kc_Mo_lookAtDeclaration 30 = .ok (.iaload, 1) := by decide +kernel
theorem kd_Mo_lookAtDeclaration_31 : decode kc_Mo_lookAtDeclaration 31 = .ok (.bipush 6, 2) := by decide +kernel
theorem kd_Mo_lookAtDeclaration_33 : decode kc_Mo_lookAtDeclaration 33 = .ok (.if_icmp .ne 7, 3) := by decide +kernel
theorem kd_Mo_lookAtDeclaration_36 : decode kc_Mo_lookAtDeclaration 36 = .ok (.iconst 1, 1) := by decide +kernel
theorem kd_Mo_lookAtDeclaration_37 : decode kc_Mo_lookAtDeclaration 37 = .ok (.goto 4, 3) := by decide +kernel
theorem kd_Mo_lookAtDeclaration_40 : decode kc_Mo_lookAtDeclaration 40 = .ok (.iconst 0, 1) := by decide +kernel
theorem kd_Mo_lookAtDeclaration_41 : decode kc_Mo_lookAtDeclaration 41 = .ok (.iadd, 1) := by decide +kernel
theorem kd_Mo_lookAtDeclaration_42 : decode kc_Mo_lookAtDeclaration 42 = .ok (.istore_n 2, 1) := by decide +kernel
theorem kd_Mo_lookAtDeclaration_43 : decode kc_Mo_lookAtDeclaration 43 = .ok (.aload_n 0, 1) := by decide +kernel
theorem kd_Mo_lookAtDeclaration_44 : decode kc_Mo_lookAtDeclaration 44 = .ok (.getfield 22, 3) := by decide +kernel
theorem kd_Mo_lookAtDeclaration_47 : decode kc_Mo_lookAtDeclaration 47 = .ok (.iload 6, 2) := by decide +kernel
theorem kd_Mo_lookAtDeclaration_49 : decode kc_Mo_lookAtDeclaration 49 = .ok (.iaload, 1) := by decide +kernel
theorem kd_Mo_lookAtDeclaration_50 : decode kc_Mo_lookAtDeclaration 50 = .ok (.bipush 7, 2) := by decide +kernel
theorem kd_Mo_lookAtDeclaration_52 : decode kc_Mo_lookAtDeclaration 52 = .ok (.if_icmp .ne 13, 3) := by decide +kernel
theorem kd_Mo_lookAtDeclaration_55 : decode kc_Mo_lookAtDeclaration 55 = .ok (.aload_n 0, 1) := by decide +kernel
theorem kd_Mo_lookAtDeclaration_56 : decode kc_Mo_lookAtDeclaration 56 = .ok (.getfield 28, 3) := by decide +kernel
theorem kd_Mo_lookAtDeclaration_59 : decode kc_Mo_lookAtDeclaration 59 = .ok (.iload 6, 2) := by decide +kernel
theorem kd_Mo_lookAtDeclaration_61 : decode kc_Mo_lookAtDeclaration 61 = .ok (.iaload, 1) := by decide +kernel
theorem kd_Mo_lookAtDeclaration_62 : decode kc_Mo_lookAtDeclaration 62 = .ok (.goto 4, 3) := by decide +kernel
theorem kd_Mo_lookAtDeclaration_65 : decode kc_Mo_lookAtDeclaration 65 = .ok (.iload_n 3, 1) := by decide +kernel
theorem kd_Mo_lookAtDeclaration_66 : decode kc_Mo_lookAtDeclaration 66 = .ok (.istore_n 3, 1) := by decide +kernel
theorem kd_Mo_lookAtDeclaration_67 : decode kc_Mo_lookAtDeclaration 67 = .ok (.aload_n 0, 1) := by decide +kernel
theorem kd_Mo_lookAtDeclaration_68 : decode kc_Mo_lookAtDeclaration 68 = .ok (.getfield 22, 3) := by decide +kernel
theorem kd_Mo_lookAtDeclaration_71 : decode kc_Mo_lookAtDeclaration 71 = .ok (.iload 6, 2) := by decide +kernel
theorem kd_Mo_lookAtDeclaration_73 : decode kc_Mo_lookAtDeclaration 73 = .ok (.iaload, 1) := by decide +kernel
theorem kd_Mo_lookAtDeclaration_74 : decode kc_Mo_lookAtDeclaration 74 = .ok (.bipush 7, 2) := by decide +kernel
theorem kd_Mo_lookAtDeclaration_76 : decode kc_Mo_lookAtDeclaration 76 = .ok (.if_icmp .le 20, 3) := by decide +kernel
theorem kd_Mo_lookAtDeclaration_79 : decode kc_Mo_lookAtDeclaration 79 = .ok (.aload_n 0, 1) := by decide +kernel
theorem kd_Mo_lookAtDeclaration_80 : decode kc_Mo_lookAtDeclaration 80 = .ok (.getfield 22, 3) := by decide +kernel
theorem kd_Mo_lookAtDeclaration_83 : decode kc_Mo_lookAtDeclaration 83 = .ok (.iload 6, 2) := by decide +kernel
theorem kd_Mo_lookAtDeclaration_85 : decode kc_Mo_lookAtDeclaration 85 = .ok (.iaload, 1) := by decide +kernel
theorem kd_Mo_lookAtDeclaration_86 : decode kc_Mo_lookAtDeclaration 86 = .ok (.bipush 11, 2) := by decide +kernel
theorem kd_Mo_lookAtDeclaration_88 : decode kc_Mo_lookAtDeclaration 88 = .ok (.if_icmp .ge 8, 3) := by decide +kernel
theorem kd_Mo_lookAtDeclaration_91 : decode kc_Mo_lookAtDeclaration 91 = .ok (.iload 6, 2) := by decide +kernel
theorem kd_Mo_lookAtDeclaration_93 : decode kc_Mo_lookAtDeclaration 93 = .ok (.goto 5, 3) := by decide +kernel
theorem kd_Mo_lookAtDeclaration_96 : decode kc_Mo_lookAtDeclaration 96 = .ok (.iload 4, 2) := by decide +kernel
theorem kd_Mo_lookAtDeclaration_98 : decode kc_Mo_lookAtDeclaration 98 = .ok (.istore 4, 2) := by decide +kernel
theorem kd_Mo_lookAtDeclaration_100 : decode kc_Mo_lookAtDeclaration 100 = .ok (.aload_n 0, 1) := by decide +kernel
theorem kd_Mo_lookAtDeclaration_101 : decode kc_Mo_lookAtDeclaration 101 = .ok (.getfield 22, 3) := by decide +kernel
theorem kd_Mo_lookAtDeclaration_104 : decode kc_Mo_lookAtDeclaration 104 = .ok (.iload 6, 2) := by decide +kernel
theorem kd_Mo_lookAtDeclaration_106 : decode kc_Mo_lookAtDeclaration 106 = .ok (.iaload, 1) := by decide +kernel
theorem kd_Mo_lookAtDeclaration_107 : decode kc_Mo_lookAtDeclaration 107 = .ok (.bipush 29, 2) := by decide +kernel
theorem kd_Mo_lookAtDeclaration_109 : decode kc_Mo_lookAtDeclaration 109 = .ok (.if_icmp .le 8, 3) := by decide +kernel
theorem kd_Mo_lookAtDeclaration_112 : decode kc_Mo_lookAtDeclaration 112 = .ok (.iload 6, 2) := by decide +kernel
theorem kd_Mo_lookAtDeclaration_114 : decode kc_Mo_lookAtDeclaration 114 = .ok (.goto 5, 3) := by decide +kernel
theorem kd_Mo_lookAtDeclaration_117 : decode kc_Mo_lookAtDeclaration 117 = .ok (.iload 5, 2) := by decide +kernel
theorem kd_Mo_lookAtDeclaration_119 : decode kc_Mo_lookAtDeclaration 119 = .ok (.istore 5, 2) := by decide +kernel
theorem kd_Mo_lookAtDeclaration_121 : decode kc_Mo_lookAtDeclaration 121 = .ok (.aload_n 0, 1) := by decide +kernel
theorem kd_Mo_lookAtDeclaration_122 : decode kc_Mo_lookAtDeclaration 122 = .ok (.getfield 40, 3) := by decide +kernel
theorem kd_Mo_lookAtDeclaration_125 : decode kc_Mo_lookAtDeclaration 125 = .ok (.iload 6, 2) := by decide +kernel
theorem kd_Mo_lookAtDeclaration_127 : decode kc_Mo_lookAtDeclaration 127 = .ok (.iaload, 1) := by decide +kernel
theorem kd_Mo_lookAtDeclaration_128 : decode kc_Mo_lookAtDeclaration 128 = .ok (.istore 6, 2) := by decide +kernel
theorem kd_Mo_lookAtDeclaration_130 : decode kc_Mo_lookAtDeclaration 130 = .ok (.goto (-112), 3) := by decide +kernel
theorem kd_Mo_lookAtDeclaration_133 : decode kc_Mo_lookAtDeclaration 133 = .ok (.aload_n 0, 1) := by decide +kernel
theorem kd_Mo_lookAtDeclaration_134 : decode kc_Mo_lookAtDeclaration 134 = .ok (.getfield 22, 3) := by decide +kernel
theorem kd_Mo_lookAtDeclaration_137 : decode kc_Mo_lookAtDeclaration 137 = .ok (.iload 4, 2) := by decide +kernel
theorem kd_Mo_lookAtDeclaration_139 : decode kc_Mo_lookAtDeclaration 139 = .ok (.iaload, 1) := by decide +kernel
theorem kd_Mo_lookAtDeclaration_140 : decode kc_Mo_lookAtDeclaration 140 = .ok (.bipush 8, 2) := by decide +kernel
theorem kd_Mo_lookAtDeclaration_142 : decode kc_Mo_lookAtDeclaration 142 = .ok (.isub, 1) := by decide +kernel
theorem kd_Mo_lookAtDeclaration_143 : decode kc_Mo_lookAtDeclaration 143 = .ok (.istore 6, 2) := by decide +kernel
theorem kd_Mo_lookAtDeclaration_145 : decode kc_Mo_lookAtDeclaration 145 = .ok (.aload_n 0, 1) := by decide +kernel
theorem kd_Mo_lookAtDeclaration_146 : decode kc_Mo_lookAtDeclaration 146 = .ok (.aload_n 0, 1) := by decide +kernel
theorem kd_Mo_lookAtDeclaration_147 : decode kc_Mo_lookAtDeclaration 147 = .ok (.getfield 28, 3) := by decide +kernel
theorem kd_Mo_lookAtDeclaration_150 : decode kc_Mo_lookAtDeclaration 150 = .ok (.aload_n 0, 1) := by decide +kernel
theorem kd_Mo_lookAtDeclaration_151 : decode kc_Mo_lookAtDeclaration 151 = .ok (.getfield 31, 3) := by decide +kernel
theorem kd_Mo_lookAtDeclaration_154 : decode kc_Mo_lookAtDeclaration 154 = .ok (.iload_n 1, 1) := by decide +kernel
theorem kd_Mo_lookAtDeclaration_155 : decode kc_Mo_lookAtDeclaration 155 = .ok (.iaload, 1) := by decide +kernel
theorem kd_Mo_lookAtDeclaration_156 : decode kc_Mo_lookAtDeclaration 156 = .ok (.iaload, 1) := by decide +kernel
theorem kd_Mo_lookAtDeclaration_157 : decode kc_Mo_lookAtDeclaration 157 = .ok (.ifCond .eq 12, 3) := by decide +kernel
theorem kd_Mo_lookAtDeclaration_160 : decode kc_Mo_lookAtDeclaration 160 = .ok (.iload 6, 2) := by decide +kernel
theorem kd_Mo_lookAtDeclaration_162 : decode kc_Mo_lookAtDeclaration 162 = .ok (.ifCond .eq 7, 3) := by decide +kernel
theorem kd_Mo_lookAtDeclaration_165 : decode kc_Mo_lookAtDeclaration 165 = .ok (.iconst 1, 1) := by decide +kernel
theorem kd_Mo_lookAtDeclaration_166 : decode kc_Mo_lookAtDeclaration 166 = .ok (.goto 4, 3) := by decide +kernel
theorem kd_Mo_lookAtDeclaration_169 : decode kc_Mo_lookAtDeclaration 169 = .ok (.iconst 0, 1) := by decide +kernel
theorem kd_Mo_lookAtDeclaration_170 : decode kc_Mo_lookAtDeclaration 170 = .ok (.bipush 43, 2) := by decide +kernel
theorem kd_Mo_lookAtDeclaration_172 : decode kc_Mo_lookAtDeclaration 172 = .ok (.iload_n 1, 1) := by decide +kernel
theorem kd_Mo_lookAtDeclaration_173 : decode kc_Mo_lookAtDeclaration 173 = .ok (.invokevirtual 540, 3) := by decide +kernel
theorem kd_Mo_lookAtDeclaration_176 : decode kc_Mo_lookAtDeclaration 176 = .ok (.aload_n 0, 1) := by decide +kernel
theorem kd_Mo_lookAtDeclaration_177 : decode kc_Mo_lookAtDeclaration 177 = .ok (.iload_n 3, 1) := by decide +kernel
theorem kd_Mo_lookAtDeclaration_178 : decode kc_Mo_lookAtDeclaration 178 = .ok (.ifCond .lt 34, 3) := by decide +kernel
theorem kd_Mo_lookAtDeclaration_181 : decode kc_Mo_lookAtDeclaration 181 = .ok (.iload 6, 2) := by decide +kernel
theorem kd_Mo_lookAtDeclaration_183 : decode kc_Mo_lookAtDeclaration 183 = .ok (.ifCond .ne 25, 3) := by decide +kernel
theorem kd_Mo_lookAtDeclaration_186 : decode kc_Mo_lookAtDeclaration 186 = .ok (.aload_n 0, 1) := by decide +kernel
theorem kd_Mo_lookAtDeclaration_187 : decode kc_Mo_lookAtDeclaration 187 = .ok (.getfield 28, 3) := by decide +kernel
theorem kd_Mo_lookAtDeclaration_190 : decode kc_Mo_lookAtDeclaration 190 = .ok (.iload 4, 2) := by decide +kernel
theorem kd_Mo_lookAtDeclaration_192 : decode kc_Mo_lookAtDeclaration 192 = .ok (.iaload, 1) := by decide +kernel
theorem kd_Mo_lookAtDeclaration_193 : decode kc_Mo_lookAtDeclaration 193 = .ok (.iload_n 3, 1) := by decide +kernel
theorem kd_Mo_lookAtDeclaration_194 : decode kc_Mo_lookAtDeclaration 194 = .ok (.sipush 768, 3) := by decide +kernel
theorem kd_Mo_lookAtDeclaration_197 : decode kc_Mo_lookAtDeclaration 197 = .ok (.if_icmp .ge 7, 3) := by decide +kernel
theorem kd_Mo_lookAtDeclaration_200 : decode kc_Mo_lookAtDeclaration 200 = .ok (.iconst 0, 1) := by decide +kernel
theorem kd_Mo_lookAtDeclaration_201 : decode kc_Mo_lookAtDeclaration 201 = .ok (.goto 4, 3) := by decide +kernel
theorem kd_Mo_lookAtDeclaration_204 : decode kc_Mo_lookAtDeclaration 204 = .ok (.iconst 1, 1) := by decide +kernel
theorem kd_Mo_lookAtDeclaration_205 : decode kc_Mo_lookAtDeclaration 205 = .ok (.if_icmp .eq 7, 3) := by decide +kernel
theorem kd_Mo_lookAtDeclaration_208 : decode kc_Mo_lookAtDeclaration 208 = .ok (.iconst 1, 1) := by decide +kernel
theorem kd_Mo_lookAtDeclaration_209 : decode kc_Mo_lookAtDeclaration 209 = .ok (.goto 4, 3) := by decide +kernel
theorem kd_Mo_lookAtDeclaration_212 : decode kc_Mo_lookAtDeclaration 212 = .ok (.iconst 0, 1) := by decide +kernel
theorem kd_Mo_lookAtDeclaration_213 : decode kc_Mo_lookAtDeclaration 213 = .ok (.bipush 15, 2) := by decide +kernel
theorem kd_Mo_lookAtDeclaration_215 : decode kc_Mo_lookAtDeclaration 215 = .ok (.iload_n 1, 1) := by decide +kernel
theorem kd_Mo_lookAtDeclaration_216 : decode kc_Mo_lookAtDeclaration 216 = .ok (.invokevirtual 540, 3) := by decide +kernel
theorem kd_Mo_lookAtDeclaration_219 : decode kc_Mo_lookAtDeclaration 219 = .ok (.iload 6, 2) := by decide +kernel
theorem kd_Mo_lookAtDeclaration_221 : decode kc_Mo_lookAtDeclaration 221 = .ok (.ifCond .ne 13, 3) := by decide +kernel
theorem kd_Mo_lookAtDeclaration_224 : decode kc_Mo_lookAtDeclaration 224 = .ok (.aload_n 0, 1) := by decide +kernel
theorem kd_Mo_lookAtDeclaration_225 : decode kc_Mo_lookAtDeclaration 225 = .ok (.getfield 28, 3) := by decide +kernel
theorem kd_Mo_lookAtDeclaration_228 : decode kc_Mo_lookAtDeclaration 228 = .ok (.iload 4, 2) := by decide +kernel
theorem kd_Mo_lookAtDeclaration_230 : decode kc_Mo_lookAtDeclaration 230 = .ok (.iaload, 1) := by decide +kernel
theorem kd_Mo_lookAtDeclaration_231 : decode kc_Mo_lookAtDeclaration 231 = .ok (.goto 35, 3) := by decide +kernel
theorem kd_Mo_lookAtDeclaration_234 : decode kc_Mo_lookAtDeclaration 234 = .ok (.iload 6, 2) := by decide +kernel
theorem kd_Mo_lookAtDeclaration_236 : decode kc_Mo_lookAtDeclaration 236 = .ok (.iconst 1, 1) := by decide +kernel
theorem kd_Mo_lookAtDeclaration_237 : decode kc_Mo_lookAtDeclaration 237 = .ok (.if_icmp .ne 18, 3) := by decide +kernel
theorem kd_Mo_lookAtDeclaration_240 : decode kc_Mo_lookAtDeclaration 240 = .ok (.aload_n 0, 1) := by decide +kernel
theorem kd_Mo_lookAtDeclaration_241 : decode kc_Mo_lookAtDeclaration 241 = .ok (.getfield 28, 3) := by decide +kernel
theorem kd_Mo_lookAtDeclaration_244 : decode kc_Mo_lookAtDeclaration 244 = .ok (.aload_n 0, 1) := by decide +kernel
theorem kd_Mo_lookAtDeclaration_245 : decode kc_Mo_lookAtDeclaration 245 = .ok (.getfield 37, 3) := by decide +kernel
theorem kd_Mo_lookAtDeclaration_248 : decode kc_Mo_lookAtDeclaration 248 = .ok (.iload 4, 2) := by decide +kernel
theorem kd_Mo_lookAtDeclaration_250 : decode kc_Mo_lookAtDeclaration 250 = .ok (.iaload, 1) := by decide +kernel
theorem kd_Mo_lookAtDeclaration_251 : decode kc_Mo_lookAtDeclaration 251 = .ok (.iaload, 1) := by decide +kernel
theorem kd_Mo_lookAtDeclaration_252 : decode kc_Mo_lookAtDeclaration 252 = .ok (.goto 14, 3) := by decide +kernel
theorem kd_Mo_lookAtDeclaration_255 : decode kc_Mo_lookAtDeclaration 255 = .ok (.aload_n 0, 1) := by decide +kernel
theorem kd_Mo_lookAtDeclaration_256 : decode kc_Mo_lookAtDeclaration 256 = .ok (.aload_n 0, 1) := by decide +kernel
theorem kd_Mo_lookAtDeclaration_257 : decode kc_Mo_lookAtDeclaration 257 = .ok (.getfield 28, 3) := by decide +kernel
theorem kd_Mo_lookAtDeclaration_260 : decode kc_Mo_lookAtDeclaration 260 = .ok (.iload 4, 2) := by decide +kernel
theorem kd_Mo_lookAtDeclaration_262 : decode kc_Mo_lookAtDeclaration 262 = .ok (.iaload, 1) := by decide +kernel
theorem kd_Mo_lookAtDeclaration_263 : decode kc_Mo_lookAtDeclaration 263 = .ok (.invokevirtual 581, 3) := by decide +kernel
theorem kd_Mo_lookAtDeclaration_266 : decode kc_Mo_lookAtDeclaration 266 = .ok (.istore 7, 2) := by decide +kernel
theorem kd_Mo_lookAtDeclaration_268 : decode kc_Mo_lookAtDeclaration 268 = .ok (.iload 5, 2) := by decide +kernel
theorem kd_Mo_lookAtDeclaration_270 : decode kc_Mo_lookAtDeclaration 270 = .ok (.ifCond .lt 128, 3) := by decide +kernel
theorem kd_Mo_lookAtDeclaration_273 : decode kc_Mo_lookAtDeclaration 273 = .ok (.iload 6, 2) := by decide +kernel
theorem kd_Mo_lookAtDeclaration_275 : decode kc_Mo_lookAtDeclaration 275 = .ok (.iconst 2, 1) := by decide +kernel
theorem kd_Mo_lookAtDeclaration_276 : decode kc_Mo_lookAtDeclaration 276 = .ok (.if_icmp .eq 24, 3) := by decide +kernel
theorem kd_Mo_lookAtDeclaration_279 : decode kc_Mo_lookAtDeclaration 279 = .ok (.iload_n 3, 1) := by decide +kernel
theorem kd_Mo_lookAtDeclaration_280 : decode kc_Mo_lookAtDeclaration 280 = .ok (.ifCond .lt 24, 3) := by decide +kernel
theorem kd_Mo_lookAtDeclaration_283 : decode kc_Mo_lookAtDeclaration 283 = .ok (.iload_n 3, 1) := by decide +kernel
theorem kd_Mo_lookAtDeclaration_284 : decode kc_Mo_lookAtDeclaration 284 = .ok (.sipush 256, 3) := by decide +kernel
theorem kd_Mo_lookAtDeclaration_287 : decode kc_Mo_lookAtDeclaration 287 = .ok (.idiv, 1) := by decide +kernel
theorem kd_Mo_lookAtDeclaration_288 : decode kc_Mo_lookAtDeclaration 288 = .ok (.ifCond .eq 12, 3) := by decide +kernel
theorem kd_Mo_lookAtDeclaration_291 : decode kc_Mo_lookAtDeclaration 291 = .ok (.iload_n 3, 1) := by decide +kernel
theorem kd_Mo_lookAtDeclaration_292 : decode kc_Mo_lookAtDeclaration 292 = .ok (.sipush 256, 3) := by decide +kernel
theorem kd_Mo_lookAtDeclaration_295 : decode kc_Mo_lookAtDeclaration 295 = .ok (.idiv, 1) := by decide +kernel
theorem kd_Mo_lookAtDeclaration_296 : decode kc_Mo_lookAtDeclaration 296 = .ok (.iconst 3, 1) := by decide +kernel
theorem kd_Mo_lookAtDeclaration_297 : decode kc_Mo_lookAtDeclaration 297 = .ok (.if_icmp .ne 7, 3) := by decide +kernel
theorem kd_Mo_lookAtDeclaration_300 : decode kc_Mo_lookAtDeclaration 300 = .ok (.iconst 1, 1) := by decide +kernel
theorem kd_Mo_lookAtDeclaration_301 : decode kc_Mo_lookAtDeclaration 301 = .ok (.goto 4, 3) := by decide +kernel
theorem kd_Mo_lookAtDeclaration_304 : decode kc_Mo_lookAtDeclaration 304 = .ok (.iconst 0, 1) := by decide +kernel
theorem kd_Mo_lookAtDeclaration_305 : decode kc_Mo_lookAtDeclaration 305 = .ok (.istore 8, 2) := by decide +kernel
theorem kd_Mo_lookAtDeclaration_307 : decode kc_Mo_lookAtDeclaration 307 = .ok (.iload 8, 2) := by decide +kernel
theorem kd_Mo_lookAtDeclaration_309 : decode kc_Mo_lookAtDeclaration 309 = .ok (.ifCond .ne 33, 3) := by decide +kernel
theorem kd_Mo_lookAtDeclaration_312 : decode kc_Mo_lookAtDeclaration 312 = .ok (.aload_n 0, 1) := by decide +kernel
theorem kd_Mo_lookAtDeclaration_313 : decode kc_Mo_lookAtDeclaration 313 = .ok (.getfield 22, 3) := by decide +kernel
theorem kd_Mo_lookAtDeclaration_316 : decode kc_Mo_lookAtDeclaration 316 = .ok (.iload 5, 2) := by decide +kernel
theorem kd_Mo_lookAtDeclaration_318 : decode kc_Mo_lookAtDeclaration 318 = .ok (.iaload, 1) := by decide +kernel
theorem kd_Mo_lookAtDeclaration_319 : decode kc_Mo_lookAtDeclaration 319 = .ok (.bipush 31, 2) := by decide +kernel
theorem kd_Mo_lookAtDeclaration_321 : decode kc_Mo_lookAtDeclaration 321 = .ok (.if_icmp .ne 7, 3) := by decide +kernel
theorem kd_Mo_lookAtDeclaration_324 : decode kc_Mo_lookAtDeclaration 324 = .ok (.iconst 1, 1) := by decide +kernel
theorem kd_Mo_lookAtDeclaration_325 : decode kc_Mo_lookAtDeclaration 325 = .ok (.goto 4, 3) := by decide +kernel
theorem kd_Mo_lookAtDeclaration_328 : decode kc_Mo_lookAtDeclaration 328 = .ok (.iconst 0, 1) := by decide +kernel
theorem kd_Mo_lookAtDeclaration_329 : decode kc_Mo_lookAtDeclaration 329 = .ok (.iload 7, 2) := by decide +kernel
theorem kd_Mo_lookAtDeclaration_331 : decode kc_Mo_lookAtDeclaration 331 = .ok (.ifCond .ne 7, 3) := by decide +kernel
theorem kd_Mo_lookAtDeclaration_334 : decode kc_Mo_lookAtDeclaration 334 = .ok (.iconst 1, 1) := by decide +kernel
theorem kd_Mo_lookAtDeclaration_335 : decode kc_Mo_lookAtDeclaration 335 = .ok (.goto 4, 3) := by decide +kernel
theorem kd_Mo_lookAtDeclaration_338 : decode kc_Mo_lookAtDeclaration 338 = .ok (.iconst 0, 1) := by decide +kernel
theorem kd_Mo_lookAtDeclaration_339 : decode kc_Mo_lookAtDeclaration 339 = .ok (.if_icmp .eq 7, 3) := by decide +kernel
theorem kd_Mo_lookAtDeclaration_342 : decode kc_Mo_lookAtDeclaration 342 = .ok (.iconst 1, 1) := by decide +kernel
theorem kd_Mo_lookAtDeclaration_343 : decode kc_Mo_lookAtDeclaration 343 = .ok (.goto 4, 3) := by decide +kernel
theorem kd_Mo_lookAtDeclaration_346 : decode kc_Mo_lookAtDeclaration 346 = .ok (.iconst 0, 1) := by decide +kernel
theorem kd_Mo_lookAtDeclaration_347 : decode kc_Mo_lookAtDeclaration 347 = .ok (.istore 8, 2) := by decide +kernel
theorem kd_Mo_lookAtDeclaration_349 : decode kc_Mo_lookAtDeclaration 349 = .ok (.aload_n 0, 1) := by decide +kernel
theorem kd_Mo_lookAtDeclaration_350 : decode kc_Mo_lookAtDeclaration 350 = .ok (.iload 8, 2) := by decide +kernel
theorem kd_Mo_lookAtDeclaration_352 : decode kc_Mo_lookAtDeclaration 352 = .ok (.ifCond .ne 35, 3) := by decide +kernel
theorem kd_Mo_lookAtDeclaration_355 : decode kc_Mo_lookAtDeclaration 355 = .ok (.iload 7, 2) := by decide +kernel
theorem kd_Mo_lookAtDeclaration_357 : decode kc_Mo_lookAtDeclaration 357 = .ok (.iconst 1, 1) := by decide +kernel
theorem kd_Mo_lookAtDeclaration_358 : decode kc_Mo_lookAtDeclaration 358 = .ok (.if_icmp .ne 33, 3) := by decide +kernel
theorem kd_Mo_lookAtDeclaration_361 : decode kc_Mo_lookAtDeclaration 361 = .ok (.aload_n 0, 1) := by decide +kernel
theorem kd_Mo_lookAtDeclaration_362 : decode kc_Mo_lookAtDeclaration 362 = .ok (.getfield 28, 3) := by decide +kernel
theorem kd_Mo_lookAtDeclaration_365 : decode kc_Mo_lookAtDeclaration 365 = .ok (.iload 5, 2) := by decide +kernel
theorem kd_Mo_lookAtDeclaration_367 : decode kc_Mo_lookAtDeclaration 367 = .ok (.iaload, 1) := by decide +kernel
theorem kd_Mo_lookAtDeclaration_368 : decode kc_Mo_lookAtDeclaration 368 = .ok (.sipush (-32768), 3) := by decide +kernel
theorem kd_Mo_lookAtDeclaration_371 : decode kc_Mo_lookAtDeclaration 371 = .ok (.if_icmp .lt 16, 3) := by decide +kernel
theorem kd_Mo_lookAtDeclaration_374 : decode kc_Mo_lookAtDeclaration 374 = .ok (.aload_n 0, 1) := by decide +kernel
theorem kd_Mo_lookAtDeclaration_375 : decode kc_Mo_lookAtDeclaration 375 = .ok (.getfield 28, 3) := by decide +kernel
theorem kd_Mo_lookAtDeclaration_378 : decode kc_Mo_lookAtDeclaration 378 = .ok (.iload 5, 2) := by decide +kernel
theorem kd_Mo_lookAtDeclaration_380 : decode kc_Mo_lookAtDeclaration 380 = .ok (.iaload, 1) := by decide +kernel
theorem kd_Mo_lookAtDeclaration_381 : decode kc_Mo_lookAtDeclaration 381 = .ok (.sipush 32767, 3) := by decide +kernel
theorem kd_Mo_lookAtDeclaration_384 : decode kc_Mo_lookAtDeclaration 384 = .ok (.if_icmp .le 7, 3) := by decide +kernel
theorem kd_Mo_lookAtDeclaration_387 : decode kc_Mo_lookAtDeclaration 387 = .ok (.iconst 1, 1) := by decide +kernel
theorem kd_Mo_lookAtDeclaration_388 : decode kc_Mo_lookAtDeclaration 388 = .ok (.goto 4, 3) := by decide +kernel
theorem kd_Mo_lookAtDeclaration_391 : decode kc_Mo_lookAtDeclaration 391 = .ok (.iconst 0, 1) := by decide +kernel
theorem kd_Mo_lookAtDeclaration_392 : decode kc_Mo_lookAtDeclaration 392 = .ok (.bipush 18, 2) := by decide +kernel
theorem kd_Mo_lookAtDeclaration_394 : decode kc_Mo_lookAtDeclaration 394 = .ok (.iload_n 1, 1) := by decide +kernel
theorem kd_Mo_lookAtDeclaration_395 : decode kc_Mo_lookAtDeclaration 395 = .ok (.invokevirtual 540, 3) := by decide +kernel
theorem kd_Mo_lookAtDeclaration_398 : decode kc_Mo_lookAtDeclaration 398 = .ok (.aload_n 0, 1) := by decide +kernel
theorem kd_Mo_lookAtDeclaration_399 : decode kc_Mo_lookAtDeclaration 399 = .ok (.getfield 445, 3) := by decide +kernel
theorem kd_Mo_lookAtDeclaration_402 : decode kc_Mo_lookAtDeclaration 402 = .ok (.ifCond .le 4, 3) := by decide +kernel
theorem kd_Mo_lookAtDeclaration_405 : decode kc_Mo_lookAtDeclaration 405 = .ok (.return_, 1) := by decide +kernel
theorem kd_Mo_lookAtDeclaration_406 : decode kc_Mo_lookAtDeclaration 406 = .ok (.iload 6, 2) := by decide +kernel
theorem kd_Mo_lookAtDeclaration_408 : decode kc_Mo_lookAtDeclaration 408 = .ok (.ifCond .ne 7, 3) := by decide +kernel
theorem kd_Mo_lookAtDeclaration_411 : decode kc_Mo_lookAtDeclaration 411 = .ok (.iconst 1, 1) := by decide +kernel
theorem kd_Mo_lookAtDeclaration_412 : decode kc_Mo_lookAtDeclaration 412 = .ok (.goto 50, 3) := by decide +kernel
theorem kd_Mo_lookAtDeclaration_415 : decode kc_Mo_lookAtDeclaration 415 = .ok (.iload 6, 2) := by decide +kernel
theorem kd_Mo_lookAtDeclaration_417 : decode kc_Mo_lookAtDeclaration 417 = .ok (.iconst 1, 1) := by decide +kernel
theorem kd_Mo_lookAtDeclaration_418 : decode kc_Mo_lookAtDeclaration 418 = .ok (.if_icmp .ne 38, 3) := by decide +kernel
theorem kd_Mo_lookAtDeclaration_421 : decode kc_Mo_lookAtDeclaration 421 = .ok (.aload_n 0, 1) := by decide +kernel
theorem kd_Mo_lookAtDeclaration_422 : decode kc_Mo_lookAtDeclaration 422 = .ok (.getfield 28, 3) := by decide +kernel
theorem kd_Mo_lookAtDeclaration_425 : decode kc_Mo_lookAtDeclaration 425 = .ok (.aload_n 0, 1) := by decide +kernel
theorem kd_Mo_lookAtDeclaration_426 : decode kc_Mo_lookAtDeclaration 426 = .ok (.getfield 40, 3) := by decide +kernel
theorem kd_Mo_lookAtDeclaration_429 : decode kc_Mo_lookAtDeclaration 429 = .ok (.aload_n 0, 1) := by decide +kernel
theorem kd_Mo_lookAtDeclaration_430 : decode kc_Mo_lookAtDeclaration 430 = .ok (.getfield 34, 3) := by decide +kernel
theorem kd_Mo_lookAtDeclaration_433 : decode kc_Mo_lookAtDeclaration 433 = .ok (.iload 4, 2) := by decide +kernel
theorem kd_Mo_lookAtDeclaration_435 : decode kc_Mo_lookAtDeclaration 435 = .ok (.iaload, 1) := by decide +kernel
theorem kd_Mo_lookAtDeclaration_436 : decode kc_Mo_lookAtDeclaration 436 = .ok (.iaload, 1) := by decide +kernel
theorem kd_Mo_lookAtDeclaration_437 : decode kc_Mo_lookAtDeclaration 437 = .ok (.iaload, 1) := by decide +kernel
theorem kd_Mo_lookAtDeclaration_438 : decode kc_Mo_lookAtDeclaration 438 = .ok (.aload_n 0, 1) := by decide +kernel
theorem kd_Mo_lookAtDeclaration_439 : decode kc_Mo_lookAtDeclaration 439 = .ok (.getfield 28, 3) := by decide +kernel
theorem kd_Mo_lookAtDeclaration_442 : decode kc_Mo_lookAtDeclaration 442 = .ok (.aload_n 0, 1) := by decide +kernel
theorem kd_Mo_lookAtDeclaration_443 : decode kc_Mo_lookAtDeclaration 443 = .ok (.getfield 34, 3) := by decide +kernel
theorem kd_Mo_lookAtDeclaration_446 : decode kc_Mo_lookAtDeclaration 446 = .ok (.iload 4, 2) := by decide +kernel
theorem kd_Mo_lookAtDeclaration_448 : decode kc_Mo_lookAtDeclaration 448 = .ok (.iaload, 1) := by decide +kernel
theorem kd_Mo_lookAtDeclaration_449 : decode kc_Mo_lookAtDeclaration 449 = .ok (.iaload, 1) := by decide +kernel
theorem kd_Mo_lookAtDeclaration_450 : decode kc_Mo_lookAtDeclaration 450 = .ok (.isub, 1) := by decide +kernel
theorem kd_Mo_lookAtDeclaration_451 : decode kc_Mo_lookAtDeclaration 451 = .ok (.iconst 1, 1) := by decide +kernel
theorem kd_Mo_lookAtDeclaration_452 : decode kc_Mo_lookAtDeclaration 452 = .ok (.iadd, 1) := by decide +kernel
theorem kd_Mo_lookAtDeclaration_453 : decode kc_Mo_lookAtDeclaration 453 = .ok (.goto 9, 3) := by decide +kernel
theorem kd_Mo_lookAtDeclaration_456 : decode kc_Mo_lookAtDeclaration 456 = .ok (.aload_n 0, 1) := by decide +kernel
theorem kd_Mo_lookAtDeclaration_457 : decode kc_Mo_lookAtDeclaration 457 = .ok (.iload 7, 2) := by decide +kernel
theorem kd_Mo_lookAtDeclaration_459 : decode kc_Mo_lookAtDeclaration 459 = .ok (.invokevirtual 584, 3) := by decide +kernel
theorem kd_Mo_lookAtDeclaration_462 : decode kc_Mo_lookAtDeclaration 462 = .ok (.istore 8, 2) := by decide +kernel
theorem kd_Mo_lookAtDeclaration_464 : decode kc_Mo_lookAtDeclaration 464 = .ok (.aload_n 0, 1) := by decide +kernel
theorem kd_Mo_lookAtDeclaration_465 : decode kc_Mo_lookAtDeclaration 465 = .ok (.getfield 465, 3) := by decide +kernel
theorem kd_Mo_lookAtDeclaration_468 : decode kc_Mo_lookAtDeclaration 468 = .ok (.iload_n 2, 1) := by decide +kernel
theorem kd_Mo_lookAtDeclaration_469 : decode kc_Mo_lookAtDeclaration 469 = .ok (.isub, 1) := by decide +kernel
theorem kd_Mo_lookAtDeclaration_470 : decode kc_Mo_lookAtDeclaration 470 = .ok (.istore 9, 2) := by decide +kernel
theorem kd_Mo_lookAtDeclaration_472 : decode kc_Mo_lookAtDeclaration 472 = .ok (.aload_n 0, 1) := by decide +kernel
theorem kd_Mo_lookAtDeclaration_473 : decode kc_Mo_lookAtDeclaration 473 = .ok (.getfield 34, 3) := by decide +kernel
theorem kd_Mo_lookAtDeclaration_476 : decode kc_Mo_lookAtDeclaration 476 = .ok (.iload_n 1, 1) := by decide +kernel
theorem kd_Mo_lookAtDeclaration_477 : decode kc_Mo_lookAtDeclaration 477 = .ok (.iaload, 1) := by decide +kernel
theorem kd_Mo_lookAtDeclaration_478 : decode kc_Mo_lookAtDeclaration 478 = .ok (.istore 10, 2) := by decide +kernel
theorem kd_Mo_lookAtDeclaration_480 : decode kc_Mo_lookAtDeclaration 480 = .ok (.aload_n 0, 1) := by decide +kernel
theorem kd_Mo_lookAtDeclaration_481 : decode kc_Mo_lookAtDeclaration 481 = .ok (.getfield 22, 3) := by decide +kernel
theorem kd_Mo_lookAtDeclaration_484 : decode kc_Mo_lookAtDeclaration 484 = .ok (.iload 10, 2) := by decide +kernel
theorem kd_Mo_lookAtDeclaration_486 : decode kc_Mo_lookAtDeclaration 486 = .ok (.iaload, 1) := by decide +kernel
theorem kd_Mo_lookAtDeclaration_487 : decode kc_Mo_lookAtDeclaration 487 = .ok (.bipush 6, 2) := by decide +kernel
theorem kd_Mo_lookAtDeclaration_489 : decode kc_Mo_lookAtDeclaration 489 = .ok (.if_icmp .ne 174, 3) := by decide +kernel
theorem kd_Mo_lookAtDeclaration_492 : decode kc_Mo_lookAtDeclaration 492 = .ok (.aload_n 0, 1) := by decide +kernel
theorem kd_Mo_lookAtDeclaration_493 : decode kc_Mo_lookAtDeclaration 493 = .ok (.iload 9, 2) := by decide +kernel
theorem kd_Mo_lookAtDeclaration_495 : decode kc_Mo_lookAtDeclaration 495 = .ok (.iload 6, 2) := by decide +kernel
theorem kd_Mo_lookAtDeclaration_497 : decode kc_Mo_lookAtDeclaration 497 = .ok (.iload 7, 2) := by decide +kernel
theorem kd_Mo_lookAtDeclaration_499 : decode kc_Mo_lookAtDeclaration 499 = .ok (.iload_n 3, 1) := by decide +kernel
theorem kd_Mo_lookAtDeclaration_500 : decode kc_Mo_lookAtDeclaration 500 = .ok (.ifCond .ge 8, 3) := by decide +kernel
theorem kd_Mo_lookAtDeclaration_503 : decode kc_Mo_lookAtDeclaration 503 = .ok (.iload 8, 2) := by decide +kernel
theorem kd_Mo_lookAtDeclaration_505 : decode kc_Mo_lookAtDeclaration 505 = .ok (.goto 4, 3) := by decide +kernel
theorem kd_Mo_lookAtDeclaration_508 : decode kc_Mo_lookAtDeclaration 508 = .ok (.iconst 0, 1) := by decide +kernel
theorem kd_Mo_lookAtDeclaration_509 : decode kc_Mo_lookAtDeclaration 509 = .ok (.invokevirtual 556, 3) := by decide +kernel
theorem kd_Mo_lookAtDeclaration_512 : decode kc_Mo_lookAtDeclaration 512 = .ok (.iload_n 3, 1) := by decide +kernel
theorem kd_Mo_lookAtDeclaration_513 : decode kc_Mo_lookAtDeclaration 513 = .ok (.ifCond .lt 60, 3) := by decide +kernel
theorem kd_Mo_lookAtDeclaration_516 : decode kc_Mo_lookAtDeclaration 516 = .ok (.aload_n 0, 1) := by decide +kernel
theorem kd_Mo_lookAtDeclaration_517 : decode kc_Mo_lookAtDeclaration 517 = .ok (.getfield 94, 3) := by decide +kernel
theorem kd_Mo_lookAtDeclaration_520 : decode kc_Mo_lookAtDeclaration 520 = .ok (.iload 9, 2) := by decide +kernel
theorem kd_Mo_lookAtDeclaration_522 : decode kc_Mo_lookAtDeclaration 522 = .ok (.iload_n 3, 1) := by decide +kernel
theorem kd_Mo_lookAtDeclaration_523 : decode kc_Mo_lookAtDeclaration 523 = .ok (.iastore, 1) := by decide +kernel
theorem kd_Mo_lookAtDeclaration_524 : decode kc_Mo_lookAtDeclaration 524 = .ok (.aload_n 0, 1) := by decide +kernel
theorem kd_Mo_lookAtDeclaration_525 : decode kc_Mo_lookAtDeclaration 525 = .ok (.getfield 88, 3) := by decide +kernel
theorem kd_Mo_lookAtDeclaration_528 : decode kc_Mo_lookAtDeclaration 528 = .ok (.iload 9, 2) := by decide +kernel
theorem kd_Mo_lookAtDeclaration_530 : decode kc_Mo_lookAtDeclaration 530 = .ok (.iload_n 3, 1) := by decide +kernel
theorem kd_Mo_lookAtDeclaration_531 : decode kc_Mo_lookAtDeclaration 531 = .ok (.sipush 768, 3) := by decide +kernel
theorem kd_Mo_lookAtDeclaration_534 : decode kc_Mo_lookAtDeclaration 534 = .ok (.if_icmp .ge 7, 3) := by decide +kernel
theorem kd_Mo_lookAtDeclaration_537 : decode kc_Mo_lookAtDeclaration 537 = .ok (.iconst 0, 1) := by decide +kernel
theorem kd_Mo_lookAtDeclaration_538 : decode kc_Mo_lookAtDeclaration 538 = .ok (.goto 6, 3) := by decide +kernel
theorem kd_Mo_lookAtDeclaration_541 : decode kc_Mo_lookAtDeclaration 541 = .ok (.sipush 576, 3) := by decide +kernel
theorem kd_Mo_lookAtDeclaration_544 : decode kc_Mo_lookAtDeclaration 544 = .ok (.iload_n 3, 1) := by decide +kernel
theorem kd_Mo_lookAtDeclaration_545 : decode kc_Mo_lookAtDeclaration 545 = .ok (.sipush 256, 3) := by decide +kernel
theorem kd_Mo_lookAtDeclaration_548 : decode kc_Mo_lookAtDeclaration 548 = .ok (.idiv, 1) := by decide +kernel
theorem kd_Mo_lookAtDeclaration_549 : decode kc_Mo_lookAtDeclaration 549 = .ok (.iload_n 3, 1) := by decide +kernel
theorem kd_Mo_lookAtDeclaration_550 : decode kc_Mo_lookAtDeclaration 550 = .ok (.sipush 768, 3) := by decide +kernel
theorem kd_Mo_lookAtDeclaration_553 : decode kc_Mo_lookAtDeclaration 553 = .ok (.if_icmp .ge 9, 3) := by decide +kernel
theorem kd_Mo_lookAtDeclaration_556 : decode kc_Mo_lookAtDeclaration 556 = .ok (.sipush 256, 3) := by decide +kernel
theorem kd_Mo_lookAtDeclaration_559 : decode kc_Mo_lookAtDeclaration 559 = .ok (.goto 5, 3) := by decide +kernel
theorem kd_Mo_lookAtDeclaration_562 : decode kc_Mo_lookAtDeclaration 562 = .ok (.bipush 64, 2) := by decide +kernel
theorem kd_Mo_lookAtDeclaration_564 : decode kc_Mo_lookAtDeclaration 564 = .ok (.imul, 1) := by decide +kernel
theorem kd_Mo_lookAtDeclaration_565 : decode kc_Mo_lookAtDeclaration 565 = .ok (.iadd, 1) := by decide +kernel
theorem kd_Mo_lookAtDeclaration_566 : decode kc_Mo_lookAtDeclaration 566 = .ok (.iload_n 3, 1) := by decide +kernel
theorem kd_Mo_lookAtDeclaration_567 : decode kc_Mo_lookAtDeclaration 567 = .ok (.sipush 256, 3) := by decide +kernel
theorem kd_Mo_lookAtDeclaration_570 : decode kc_Mo_lookAtDeclaration 570 = .ok (.irem, 1) := by decide +kernel
theorem kd_Mo_lookAtDeclaration_571 : decode kc_Mo_lookAtDeclaration 571 = .ok (.iadd, 1) := by decide +kernel
theorem kd_Mo_lookAtDeclaration_572 : decode kc_Mo_lookAtDeclaration 572 = .ok (.iastore, 1) := by decide +kernel
theorem kd_Mo_lookAtDeclaration_573 : decode kc_Mo_lookAtDeclaration 573 = .ok (.aload_n 0, 1) := by decide +kernel
theorem kd_Mo_lookAtDeclaration_574 : decode kc_Mo_lookAtDeclaration 574 = .ok (.getfield 109, 3) := by decide +kernel
theorem kd_Mo_lookAtDeclaration_577 : decode kc_Mo_lookAtDeclaration 577 = .ok (.iload 10, 2) := by decide +kernel
theorem kd_Mo_lookAtDeclaration_579 : decode kc_Mo_lookAtDeclaration 579 = .ok (.aload_n 0, 1) := by decide +kernel
theorem kd_Mo_lookAtDeclaration_580 : decode kc_Mo_lookAtDeclaration 580 = .ok (.getfield 88, 3) := by decide +kernel
theorem kd_Mo_lookAtDeclaration_583 : decode kc_Mo_lookAtDeclaration 583 = .ok (.iload 9, 2) := by decide +kernel
theorem kd_Mo_lookAtDeclaration_585 : decode kc_Mo_lookAtDeclaration 585 = .ok (.iaload, 1) := by decide +kernel
theorem kd_Mo_lookAtDeclaration_586 : decode kc_Mo_lookAtDeclaration 586 = .ok (.iastore, 1) := by decide +kernel
theorem kd_Mo_lookAtDeclaration_587 : decode kc_Mo_lookAtDeclaration 587 = .ok (.aload_n 0, 1) := by decide +kernel
theorem kd_Mo_lookAtDeclaration_588 : decode kc_Mo_lookAtDeclaration 588 = .ok (.getfield 97, 3) := by decide +kernel
theorem kd_Mo_lookAtDeclaration_591 : decode kc_Mo_lookAtDeclaration 591 = .ok (.iload 9, 2) := by decide +kernel
theorem kd_Mo_lookAtDeclaration_593 : decode kc_Mo_lookAtDeclaration 593 = .ok (.iload 6, 2) := by decide +kernel
theorem kd_Mo_lookAtDeclaration_595 : decode kc_Mo_lookAtDeclaration 595 = .ok (.iconst 1, 1) := by decide +kernel
theorem kd_Mo_lookAtDeclaration_596 : decode kc_Mo_lookAtDeclaration 596 = .ok (.if_icmp .ne 18, 3) := by decide +kernel
theorem kd_Mo_lookAtDeclaration_599 : decode kc_Mo_lookAtDeclaration 599 = .ok (.aload_n 0, 1) := by decide +kernel
theorem kd_Mo_lookAtDeclaration_600 : decode kc_Mo_lookAtDeclaration 600 = .ok (.getfield 28, 3) := by decide +kernel
theorem kd_Mo_lookAtDeclaration_603 : decode kc_Mo_lookAtDeclaration 603 = .ok (.aload_n 0, 1) := by decide +kernel
theorem kd_Mo_lookAtDeclaration_604 : decode kc_Mo_lookAtDeclaration 604 = .ok (.getfield 34, 3) := by decide +kernel
theorem kd_Mo_lookAtDeclaration_607 : decode kc_Mo_lookAtDeclaration 607 = .ok (.iload 4, 2) := by decide +kernel
theorem kd_Mo_lookAtDeclaration_609 : decode kc_Mo_lookAtDeclaration 609 = .ok (.iaload, 1) := by decide +kernel
theorem kd_Mo_lookAtDeclaration_610 : decode kc_Mo_lookAtDeclaration 610 = .ok (.iaload, 1) := by decide +kernel
theorem kd_Mo_lookAtDeclaration_611 : decode kc_Mo_lookAtDeclaration 611 = .ok (.goto 4, 3) := by decide +kernel
theorem kd_Mo_lookAtDeclaration_614 : decode kc_Mo_lookAtDeclaration 614 = .ok (.iconst 0, 1) := by decide +kernel
theorem kd_Mo_lookAtDeclaration_615 : decode kc_Mo_lookAtDeclaration 615 = .ok (.iastore, 1) := by decide +kernel
theorem kd_Mo_lookAtDeclaration_616 : decode kc_Mo_lookAtDeclaration 616 = .ok (.aload_n 0, 1) := by decide +kernel
theorem kd_Mo_lookAtDeclaration_617 : decode kc_Mo_lookAtDeclaration 617 = .ok (.getfield 100, 3) := by decide +kernel
theorem kd_Mo_lookAtDeclaration_620 : decode kc_Mo_lookAtDeclaration 620 = .ok (.iload 9, 2) := by decide +kernel
theorem kd_Mo_lookAtDeclaration_622 : decode kc_Mo_lookAtDeclaration 622 = .ok (.iload 8, 2) := by decide +kernel
theorem kd_Mo_lookAtDeclaration_624 : decode kc_Mo_lookAtDeclaration 624 = .ok (.iastore, 1) := by decide +kernel
theorem kd_Mo_lookAtDeclaration_625 : decode kc_Mo_lookAtDeclaration 625 = .ok (.aload_n 0, 1) := by decide +kernel
theorem kd_Mo_lookAtDeclaration_626 : decode kc_Mo_lookAtDeclaration 626 = .ok (.getfield 103, 3) := by decide +kernel
theorem kd_Mo_lookAtDeclaration_629 : decode kc_Mo_lookAtDeclaration 629 = .ok (.iload 9, 2) := by decide +kernel
theorem kd_Mo_lookAtDeclaration_631 : decode kc_Mo_lookAtDeclaration 631 = .ok (.iload 5, 2) := by decide +kernel
theorem kd_Mo_lookAtDeclaration_633 : decode kc_Mo_lookAtDeclaration 633 = .ok (.ifCond .ge 7, 3) := by decide +kernel
theorem kd_Mo_lookAtDeclaration_636 : decode kc_Mo_lookAtDeclaration 636 = .ok (.iconst 0, 1) := by decide +kernel
theorem kd_Mo_lookAtDeclaration_637 : decode kc_Mo_lookAtDeclaration 637 = .ok (.goto 10, 3) := by decide +kernel
theorem kd_Mo_lookAtDeclaration_640 : decode kc_Mo_lookAtDeclaration 640 = .ok (.aload_n 0, 1) := by decide +kernel
theorem kd_Mo_lookAtDeclaration_641 : decode kc_Mo_lookAtDeclaration 641 = .ok (.getfield 28, 3) := by decide +kernel
theorem kd_Mo_lookAtDeclaration_644 : decode kc_Mo_lookAtDeclaration 644 = .ok (.iload 5, 2) := by decide +kernel
theorem kd_Mo_lookAtDeclaration_646 : decode kc_Mo_lookAtDeclaration 646 = .ok (.iaload, 1) := by decide +kernel
theorem kd_Mo_lookAtDeclaration_647 : decode kc_Mo_lookAtDeclaration 647 = .ok (.iastore, 1) := by decide +kernel
theorem kd_Mo_lookAtDeclaration_648 : decode kc_Mo_lookAtDeclaration 648 = .ok (.iinc 9 1, 3) := by decide +kernel
theorem kd_Mo_lookAtDeclaration_651 : decode kc_Mo_lookAtDeclaration 651 = .ok (.aload_n 0, 1) := by decide +kernel
theorem kd_Mo_lookAtDeclaration_652 : decode kc_Mo_lookAtDeclaration 652 = .ok (.getfield 40, 3) := by decide +kernel
theorem kd_Mo_lookAtDeclaration_655 : decode kc_Mo_lookAtDeclaration 655 = .ok (.iload 10, 2) := by decide +kernel
theorem kd_Mo_lookAtDeclaration_657 : decode kc_Mo_lookAtDeclaration 657 = .ok (.iaload, 1) := by decide +kernel
theorem kd_Mo_lookAtDeclaration_658 : decode kc_Mo_lookAtDeclaration 658 = .ok (.istore 10, 2) := by decide +kernel
theorem kd_Mo_lookAtDeclaration_660 : decode kc_Mo_lookAtDeclaration 660 = .ok (.goto (-180), 3) := by decide +kernel
theorem kd_Mo_lookAtDeclaration_663 : decode kc_Mo_lookAtDeclaration 663 = .ok (.aload_n 0, 1) := by decide +kernel
theorem kd_Mo_lookAtDeclaration_664 : decode kc_Mo_lookAtDeclaration 664 = .ok (.aload_n 0, 1) := by decide +kernel
theorem kd_Mo_lookAtDeclaration_665 : decode kc_Mo_lookAtDeclaration 665 = .ok (.getfield 70, 3) := by decide +kernel
theorem kd_Mo_lookAtDeclaration_668 : decode kc_Mo_lookAtDeclaration 668 = .ok (.aload_n 0, 1) := by decide +kernel
theorem kd_Mo_lookAtDeclaration_669 : decode kc_Mo_lookAtDeclaration 669 = .ok (.getfield 550, 3) := by decide +kernel
theorem kd_Mo_lookAtDeclaration_672 : decode kc_Mo_lookAtDeclaration 672 = .ok (.iaload, 1) := by decide +kernel
theorem kd_Mo_lookAtDeclaration_673 : decode kc_Mo_lookAtDeclaration 673 = .ok (.sipush 4096, 3) := by decide +kernel
theorem kd_Mo_lookAtDeclaration_676 : decode kc_Mo_lookAtDeclaration 676 = .ok (.if_icmp .le 7, 3) := by decide +kernel
theorem kd_Mo_lookAtDeclaration_679 : decode kc_Mo_lookAtDeclaration 679 = .ok (.iconst 1, 1) := by decide +kernel
theorem kd_Mo_lookAtDeclaration_680 : decode kc_Mo_lookAtDeclaration 680 = .ok (.goto 4, 3) := by decide +kernel
theorem kd_Mo_lookAtDeclaration_683 : decode kc_Mo_lookAtDeclaration 683 = .ok (.iconst 0, 1) := by decide +kernel
theorem kd_Mo_lookAtDeclaration_684 : decode kc_Mo_lookAtDeclaration 684 = .ok (.bipush 19, 2) := by decide +kernel
theorem kd_Mo_lookAtDeclaration_686 : decode kc_Mo_lookAtDeclaration 686 = .ok (.iload_n 1, 1) := by decide +kernel
theorem kd_Mo_lookAtDeclaration_687 : decode kc_Mo_lookAtDeclaration 687 = .ok (.invokevirtual 540, 3) := by decide +kernel
theorem kd_Mo_lookAtDeclaration_690 : decode kc_Mo_lookAtDeclaration 690 = .ok (.return_, 1) := by decide +kernel
set_option maxHeartbeats 4000000 in
set_option maxRecDepth 100000 in
theorem zb_Mo_lookAtDeclaration_119 {X : zkj_T} {S : zs_T} {P : ze_T} {l : Launch} {D : va_G} {sz0 : Nat} {rh : zs_H} (C : zk_C X km_Mo_lookAtDeclaration (zs_G S l D sz0) { frames := 6, cells := 0, slots := 0, locals := 133 } (ze_E P)) (hR : zkj_R X (zd_PV S rh) (none)) {k18 : zs_H → Int32 → Int32 → Int32 → Int32 → Int32 → Int32 → (Option zs_H)} (hk18 : ∀ (h : zs_H) (x1 : Int32) (x2 : Int32) (x3 : Int32) (x4 : Int32) (x5 : Int32) (x6 : Int32), k18 h x1 x2 x3 x4 x5 x6 = some rh → zk_Ab X (zs_W S h) 0 0 18 [(0, .ref (S.1 68)), (1, .int x1), (2, .int x2), (3, .int x3), (4, .int x4), (5, .int x5), (6, .int x6)] []) (h : zs_H) (x1 : Int32) (x2 : Int32) (x3 : Int32) (x4 : Int32) (x6 : Int32) (y0 : Int32) (e : f_Mo_lookAtDeclaration_119 k18 h x1 x2 x3 x4 x6 y0 = some rh) : zk_Ab X (zs_W S h) 0 0 119 [(0, .ref (S.1 68)), (1, .int x1), (2, .int x2), (3, .int x3), (4, .int x4), (6, .int x6)] [.int y0] := by
  unfold f_Mo_lookAtDeclaration_119 at e
  refine zk_istore (lv' := [(5, _), (0, _), (1, _), (2, _), (3, _), (4, _), (6, _)]) C kd_Mo_lookAtDeclaration_119 (by decide) rfl rfl ?_
  refine zk_aload_n C kd_Mo_lookAtDeclaration_121 rfl 1 rfl rfl ?_
  refine zs_get (v := .ref (S.1 78)) C 68 21 rfl rfl rfl rfl ki_Mo (by decide) kw1704 kd_Mo_lookAtDeclaration_122 rfl ?_
  refine zk_iload C kd_Mo_lookAtDeclaration_125 6 rfl rfl ?_
  obtain ⟨q1, e⟩ := zd_g e
  refine zs_iald C 78 rfl (zd_vp q1) kd_Mo_lookAtDeclaration_127 rfl ?_
  refine zk_istore (lv' := [(6, _), (5, _), (0, _), (1, _), (2, _), (3, _), (4, _)]) C kd_Mo_lookAtDeclaration_128 (by decide) rfl rfl ?_
  refine zk_goto (tgt := 18) C kd_Mo_lookAtDeclaration_130 (by decide) ?_
  refine zk_lvs (lv' := [(0, .ref (S.1 68)), (1, .int x1), (2, .int x2), (3, .int x3), (4, .int x4), (5, .int y0), (6, .int (h.2.1 78 x6.toNatClampNeg))]) [2, 3, 4, 5, 6, 1, 0] rfl ?_
  exact hk18 h x1 x2 x3 x4 y0 (h.2.1 78 x6.toNatClampNeg) e
set_option maxHeartbeats 4000000 in
set_option maxRecDepth 100000 in
theorem zb_Mo_lookAtDeclaration_98 {X : zkj_T} {S : zs_T} {P : ze_T} {l : Launch} {D : va_G} {sz0 : Nat} {rh : zs_H} (C : zk_C X km_Mo_lookAtDeclaration (zs_G S l D sz0) { frames := 6, cells := 0, slots := 0, locals := 133 } (ze_E P)) (hR : zkj_R X (zd_PV S rh) (none)) {k18 : zs_H → Int32 → Int32 → Int32 → Int32 → Int32 → Int32 → (Option zs_H)} (hk18 : ∀ (h : zs_H) (x1 : Int32) (x2 : Int32) (x3 : Int32) (x4 : Int32) (x5 : Int32) (x6 : Int32), k18 h x1 x2 x3 x4 x5 x6 = some rh → zk_Ab X (zs_W S h) 0 0 18 [(0, .ref (S.1 68)), (1, .int x1), (2, .int x2), (3, .int x3), (4, .int x4), (5, .int x5), (6, .int x6)] []) (h : zs_H) (x1 : Int32) (x2 : Int32) (x3 : Int32) (x5 : Int32) (x6 : Int32) (y0 : Int32) (e : f_Mo_lookAtDeclaration_98 k18 h x1 x2 x3 x5 x6 y0 = some rh) : zk_Ab X (zs_W S h) 0 0 98 [(0, .ref (S.1 68)), (1, .int x1), (2, .int x2), (3, .int x3), (5, .int x5), (6, .int x6)] [.int y0] := by
  unfold f_Mo_lookAtDeclaration_98 at e
  refine zk_istore (lv' := [(4, _), (0, _), (1, _), (2, _), (3, _), (5, _), (6, _)]) C kd_Mo_lookAtDeclaration_98 (by decide) rfl rfl ?_
  refine zk_aload_n C kd_Mo_lookAtDeclaration_100 rfl 1 rfl rfl ?_
  refine zs_get (v := .ref (S.1 72)) C 68 15 rfl rfl rfl rfl ki_Mo (by decide) kw1698 kd_Mo_lookAtDeclaration_101 rfl ?_
  refine zk_iload C kd_Mo_lookAtDeclaration_104 6 rfl rfl ?_
  obtain ⟨q1, e⟩ := zd_g e
  refine zs_iald C 72 rfl (zd_vp q1) kd_Mo_lookAtDeclaration_106 rfl ?_
  refine zk_bipush (v := 29) C kd_Mo_lookAtDeclaration_107 (by decide) rfl ?_
  refine zk_icmp_le (tgt := 117) C kd_Mo_lookAtDeclaration_109 (by decide) rfl (fun b2 => ?_) (fun b2 => ?_)
  · replace e := zd_pos b2 e
    refine zk_iload C kd_Mo_lookAtDeclaration_117 5 rfl rfl ?_
    refine zk_lvs (lv' := [(0, .ref (S.1 68)), (1, .int x1), (2, .int x2), (3, .int x3), (4, .int y0), (6, .int x6)]) [1, 2, 3, 4, 0, 6] rfl ?_
    exact zb_Mo_lookAtDeclaration_119 C hR hk18 h x1 x2 x3 y0 x6 x5 e
  · replace e := zd_neg b2 e
    refine zk_iload C kd_Mo_lookAtDeclaration_112 6 rfl rfl ?_
    refine zk_goto (tgt := 119) C kd_Mo_lookAtDeclaration_114 (by decide) ?_
    refine zk_lvs (lv' := [(0, .ref (S.1 68)), (1, .int x1), (2, .int x2), (3, .int x3), (4, .int y0), (6, .int x6)]) [1, 2, 3, 4, 0, 6] rfl ?_
    exact zb_Mo_lookAtDeclaration_119 C hR hk18 h x1 x2 x3 y0 x6 x6 e
set_option maxHeartbeats 4000000 in
set_option maxRecDepth 100000 in
theorem zb_Mo_lookAtDeclaration_96 {X : zkj_T} {S : zs_T} {P : ze_T} {l : Launch} {D : va_G} {sz0 : Nat} {rh : zs_H} (C : zk_C X km_Mo_lookAtDeclaration (zs_G S l D sz0) { frames := 6, cells := 0, slots := 0, locals := 133 } (ze_E P)) (hR : zkj_R X (zd_PV S rh) (none)) {k18 : zs_H → Int32 → Int32 → Int32 → Int32 → Int32 → Int32 → (Option zs_H)} (hk18 : ∀ (h : zs_H) (x1 : Int32) (x2 : Int32) (x3 : Int32) (x4 : Int32) (x5 : Int32) (x6 : Int32), k18 h x1 x2 x3 x4 x5 x6 = some rh → zk_Ab X (zs_W S h) 0 0 18 [(0, .ref (S.1 68)), (1, .int x1), (2, .int x2), (3, .int x3), (4, .int x4), (5, .int x5), (6, .int x6)] []) (h : zs_H) (x1 : Int32) (x2 : Int32) (x3 : Int32) (x4 : Int32) (x5 : Int32) (x6 : Int32) (e : f_Mo_lookAtDeclaration_96 k18 h x1 x2 x3 x4 x5 x6 = some rh) : zk_Ab X (zs_W S h) 0 0 96 [(0, .ref (S.1 68)), (1, .int x1), (2, .int x2), (3, .int x3), (4, .int x4), (5, .int x5), (6, .int x6)] [] := by
  unfold f_Mo_lookAtDeclaration_96 at e
  refine zk_iload C kd_Mo_lookAtDeclaration_96 4 rfl rfl ?_
  refine zk_lvs (lv' := [(0, .ref (S.1 68)), (1, .int x1), (2, .int x2), (3, .int x3), (5, .int x5), (6, .int x6)]) [0, 1, 2, 3, 5, 6] rfl ?_
  exact zb_Mo_lookAtDeclaration_98 C hR hk18 h x1 x2 x3 x5 x6 x4 e
set_option maxHeartbeats 4000000 in
set_option maxRecDepth 100000 in
theorem zb_Mo_lookAtDeclaration_66 {X : zkj_T} {S : zs_T} {P : ze_T} {l : Launch} {D : va_G} {sz0 : Nat} {rh : zs_H} (C : zk_C X km_Mo_lookAtDeclaration (zs_G S l D sz0) { frames := 6, cells := 0, slots := 0, locals := 133 } (ze_E P)) (hR : zkj_R X (zd_PV S rh) (none)) {k18 : zs_H → Int32 → Int32 → Int32 → Int32 → Int32 → Int32 → (Option zs_H)} (hk18 : ∀ (h : zs_H) (x1 : Int32) (x2 : Int32) (x3 : Int32) (x4 : Int32) (x5 : Int32) (x6 : Int32), k18 h x1 x2 x3 x4 x5 x6 = some rh → zk_Ab X (zs_W S h) 0 0 18 [(0, .ref (S.1 68)), (1, .int x1), (2, .int x2), (3, .int x3), (4, .int x4), (5, .int x5), (6, .int x6)] []) (h : zs_H) (x1 : Int32) (x2 : Int32) (x4 : Int32) (x5 : Int32) (x6 : Int32) (y0 : Int32) (e : f_Mo_lookAtDeclaration_66 k18 h x1 x2 x4 x5 x6 y0 = some rh) : zk_Ab X (zs_W S h) 0 0 66 [(0, .ref (S.1 68)), (1, .int x1), (2, .int x2), (4, .int x4), (5, .int x5), (6, .int x6)] [.int y0] := by
  unfold f_Mo_lookAtDeclaration_66 at e
  refine zk_istore_n (lv' := [(3, _), (0, _), (1, _), (2, _), (4, _), (5, _), (6, _)]) C kd_Mo_lookAtDeclaration_66 rfl (by decide) rfl rfl ?_
  refine zk_aload_n C kd_Mo_lookAtDeclaration_67 rfl 1 rfl rfl ?_
  refine zs_get (v := .ref (S.1 72)) C 68 15 rfl rfl rfl rfl ki_Mo (by decide) kw1698 kd_Mo_lookAtDeclaration_68 rfl ?_
  refine zk_iload C kd_Mo_lookAtDeclaration_71 6 rfl rfl ?_
  obtain ⟨q1, e⟩ := zd_g e
  refine zs_iald C 72 rfl (zd_vp q1) kd_Mo_lookAtDeclaration_73 rfl ?_
  refine zk_bipush (v := 7) C kd_Mo_lookAtDeclaration_74 (by decide) rfl ?_
  refine zk_icmp_le (tgt := 96) C kd_Mo_lookAtDeclaration_76 (by decide) rfl (fun b2 => ?_) (fun b2 => ?_)
  · replace e := zd_pos b2 e
    refine zk_lvs (lv' := [(0, .ref (S.1 68)), (1, .int x1), (2, .int x2), (3, .int y0), (4, .int x4), (5, .int x5), (6, .int x6)]) [1, 2, 3, 0, 4, 5, 6] rfl ?_
    exact zb_Mo_lookAtDeclaration_96 C hR hk18 h x1 x2 y0 x4 x5 x6 e
  · replace e := zd_neg b2 e
    refine zk_aload_n C kd_Mo_lookAtDeclaration_79 rfl 1 rfl rfl ?_
    refine zs_get (v := .ref (S.1 72)) C 68 15 rfl rfl rfl rfl ki_Mo (by decide) kw1698 kd_Mo_lookAtDeclaration_80 rfl ?_
    refine zk_iload C kd_Mo_lookAtDeclaration_83 6 rfl rfl ?_
    refine zs_iald C 72 rfl (zd_vp q1) kd_Mo_lookAtDeclaration_85 rfl ?_
    refine zk_bipush (v := 11) C kd_Mo_lookAtDeclaration_86 (by decide) rfl ?_
    refine zk_icmp_ge (tgt := 96) C kd_Mo_lookAtDeclaration_88 (by decide) rfl (fun b3 => ?_) (fun b3 => ?_)
    · replace e := zd_pos b3 e
      refine zk_lvs (lv' := [(0, .ref (S.1 68)), (1, .int x1), (2, .int x2), (3, .int y0), (4, .int x4), (5, .int x5), (6, .int x6)]) [1, 2, 3, 0, 4, 5, 6] rfl ?_
      exact zb_Mo_lookAtDeclaration_96 C hR hk18 h x1 x2 y0 x4 x5 x6 e
    · replace e := zd_neg b3 e
      refine zk_iload C kd_Mo_lookAtDeclaration_91 6 rfl rfl ?_
      refine zk_goto (tgt := 98) C kd_Mo_lookAtDeclaration_93 (by decide) ?_
      refine zk_lvs (lv' := [(0, .ref (S.1 68)), (1, .int x1), (2, .int x2), (3, .int y0), (5, .int x5), (6, .int x6)]) [1, 2, 3, 0, 5, 6] rfl ?_
      exact zb_Mo_lookAtDeclaration_98 C hR hk18 h x1 x2 y0 x5 x6 x6 e
set_option maxHeartbeats 4000000 in
set_option maxRecDepth 100000 in
theorem zb_Mo_lookAtDeclaration_41 {X : zkj_T} {S : zs_T} {P : ze_T} {l : Launch} {D : va_G} {sz0 : Nat} {rh : zs_H} (C : zk_C X km_Mo_lookAtDeclaration (zs_G S l D sz0) { frames := 6, cells := 0, slots := 0, locals := 133 } (ze_E P)) (hR : zkj_R X (zd_PV S rh) (none)) {k18 : zs_H → Int32 → Int32 → Int32 → Int32 → Int32 → Int32 → (Option zs_H)} (hk18 : ∀ (h : zs_H) (x1 : Int32) (x2 : Int32) (x3 : Int32) (x4 : Int32) (x5 : Int32) (x6 : Int32), k18 h x1 x2 x3 x4 x5 x6 = some rh → zk_Ab X (zs_W S h) 0 0 18 [(0, .ref (S.1 68)), (1, .int x1), (2, .int x2), (3, .int x3), (4, .int x4), (5, .int x5), (6, .int x6)] []) (h : zs_H) (x1 : Int32) (x3 : Int32) (x4 : Int32) (x5 : Int32) (x6 : Int32) (y0 : Int32) (y1 : Int32) (e : f_Mo_lookAtDeclaration_41 k18 h x1 x3 x4 x5 x6 y0 y1 = some rh) : zk_Ab X (zs_W S h) 0 0 41 [(0, .ref (S.1 68)), (1, .int x1), (3, .int x3), (4, .int x4), (5, .int x5), (6, .int x6)] [.int y0, .int y1] := by
  unfold f_Mo_lookAtDeclaration_41 at e
  refine zk_iadd C kd_Mo_lookAtDeclaration_41 rfl ?_
  refine zk_istore_n (lv' := [(2, _), (0, _), (1, _), (3, _), (4, _), (5, _), (6, _)]) C kd_Mo_lookAtDeclaration_42 rfl (by decide) rfl rfl ?_
  refine zk_aload_n C kd_Mo_lookAtDeclaration_43 rfl 1 rfl rfl ?_
  refine zs_get (v := .ref (S.1 72)) C 68 15 rfl rfl rfl rfl ki_Mo (by decide) kw1698 kd_Mo_lookAtDeclaration_44 rfl ?_
  refine zk_iload C kd_Mo_lookAtDeclaration_47 6 rfl rfl ?_
  obtain ⟨q1, e⟩ := zd_g e
  refine zs_iald C 72 rfl (zd_vp q1) kd_Mo_lookAtDeclaration_49 rfl ?_
  refine zk_bipush (v := 7) C kd_Mo_lookAtDeclaration_50 (by decide) rfl ?_
  refine zk_icmp_ne (tgt := 65) C kd_Mo_lookAtDeclaration_52 (by decide) rfl (fun b2 => ?_) (fun b2 => ?_)
  · replace e := zd_neg b2 e
    refine zk_iload_n C kd_Mo_lookAtDeclaration_65 rfl 3 rfl rfl ?_
    refine zk_lvs (lv' := [(0, .ref (S.1 68)), (1, .int x1), (2, .int (y1 + y0)), (4, .int x4), (5, .int x5), (6, .int x6)]) [1, 2, 0, 4, 5, 6] rfl ?_
    exact zb_Mo_lookAtDeclaration_66 C hR hk18 h x1 (y1 + y0) x4 x5 x6 x3 e
  · replace e := zd_pos b2 e
    refine zk_aload_n C kd_Mo_lookAtDeclaration_55 rfl 1 rfl rfl ?_
    refine zs_get (v := .ref (S.1 74)) C 68 17 rfl rfl rfl rfl ki_Mo (by decide) kw1700 kd_Mo_lookAtDeclaration_56 rfl ?_
    refine zk_iload C kd_Mo_lookAtDeclaration_59 6 rfl rfl ?_
    refine zs_iald C 74 rfl (zd_vp q1) kd_Mo_lookAtDeclaration_61 rfl ?_
    refine zk_goto (tgt := 66) C kd_Mo_lookAtDeclaration_62 (by decide) ?_
    refine zk_lvs (lv' := [(0, .ref (S.1 68)), (1, .int x1), (2, .int (y1 + y0)), (4, .int x4), (5, .int x5), (6, .int x6)]) [1, 2, 0, 4, 5, 6] rfl ?_
    exact zb_Mo_lookAtDeclaration_66 C hR hk18 h x1 (y1 + y0) x4 x5 x6 (h.2.1 74 x6.toNatClampNeg) e
set_option maxHeartbeats 4000000 in
set_option maxRecDepth 100000 in
theorem zb_Mo_lookAtDeclaration_647 {X : zkj_T} {S : zs_T} {P : ze_T} {l : Launch} {D : va_G} {sz0 : Nat} {rh : zs_H} (C : zk_C X km_Mo_lookAtDeclaration (zs_G S l D sz0) { frames := 6, cells := 0, slots := 0, locals := 133 } (ze_E P)) (hR : zkj_R X (zd_PV S rh) (none)) {k480 : zs_H → Int32 → Int32 → Int32 → Int32 → Int32 → Int32 → Int32 → Int32 → Int32 → (Option zs_H)} (hk480 : ∀ (h : zs_H) (x1 : Int32) (x3 : Int32) (x4 : Int32) (x5 : Int32) (x6 : Int32) (x7 : Int32) (x8 : Int32) (x9 : Int32) (x10 : Int32), k480 h x1 x3 x4 x5 x6 x7 x8 x9 x10 = some rh → zk_Ab X (zs_W S h) 0 0 480 [(0, .ref (S.1 68)), (1, .int x1), (3, .int x3), (4, .int x4), (5, .int x5), (6, .int x6), (7, .int x7), (8, .int x8), (9, .int x9), (10, .int x10)] []) (h : zs_H) (x1 : Int32) (x3 : Int32) (x4 : Int32) (x5 : Int32) (x6 : Int32) (x7 : Int32) (x8 : Int32) (x9 : Int32) (x10 : Int32) (y0 : Int32) (y1 : Int32) (e : f_Mo_lookAtDeclaration_647 k480 h x1 x3 x4 x5 x6 x7 x8 x9 x10 y0 y1 = some rh) : zk_Ab X (zs_W S h) 0 0 647 [(0, .ref (S.1 68)), (1, .int x1), (3, .int x3), (4, .int x4), (5, .int x5), (6, .int x6), (7, .int x7), (8, .int x8), (9, .int x9), (10, .int x10)] [.int y0, .int y1, .ref (S.1 99)] := by
  unfold f_Mo_lookAtDeclaration_647 at e
  obtain ⟨q1, e⟩ := zd_g e
  refine zs_iast C 99 rfl (zd_vp q1) kd_Mo_lookAtDeclaration_647 rfl ?_
  refine zk_iinc (v := (x9 + 1)) (lv' := [(9, _), (0, _), (1, _), (3, _), (4, _), (5, _), (6, _), (7, _), (8, _), (10, _)]) C kd_Mo_lookAtDeclaration_648 8 rfl rfl (by decide) rfl rfl ?_
  refine zk_aload_n C kd_Mo_lookAtDeclaration_651 rfl 1 rfl rfl ?_
  refine zs_get (v := .ref (S.1 78)) C 68 21 rfl rfl rfl rfl ki_Mo (by decide) kw1704 kd_Mo_lookAtDeclaration_652 rfl ?_
  refine zk_iload C kd_Mo_lookAtDeclaration_655 9 rfl rfl ?_
  obtain ⟨q2, e⟩ := zd_g e
  refine zs_iald C 78 rfl (zd_vp q2) kd_Mo_lookAtDeclaration_657 rfl ?_
  refine zk_stk (r' := [.int (h.2.1 78 x10.toNatClampNeg)]) rfl ?_
  refine zk_istore (lv' := [(10, _), (9, _), (0, _), (1, _), (3, _), (4, _), (5, _), (6, _), (7, _), (8, _)]) C kd_Mo_lookAtDeclaration_658 (by decide) rfl rfl ?_
  refine zk_goto (tgt := 480) C kd_Mo_lookAtDeclaration_660 (by decide) ?_
  refine zk_lvs (lv' := [(0, .ref (S.1 68)), (1, .int x1), (3, .int x3), (4, .int x4), (5, .int x5), (6, .int x6), (7, .int x7), (8, .int x8), (9, .int (x9 + 1)), (10, .int (h.2.1 78 x10.toNatClampNeg))]) [2, 3, 4, 5, 6, 7, 8, 9, 1, 0] rfl ?_
  exact hk480 (zs_uM h 99 y1.toNatClampNeg y0) x1 x3 x4 x5 x6 x7 x8 (x9 + 1) (h.2.1 78 x10.toNatClampNeg) e
set_option maxHeartbeats 4000000 in
set_option maxRecDepth 100000 in
theorem zb_Mo_lookAtDeclaration_615 {X : zkj_T} {S : zs_T} {P : ze_T} {l : Launch} {D : va_G} {sz0 : Nat} {rh : zs_H} (C : zk_C X km_Mo_lookAtDeclaration (zs_G S l D sz0) { frames := 6, cells := 0, slots := 0, locals := 133 } (ze_E P)) (hR : zkj_R X (zd_PV S rh) (none)) {k480 : zs_H → Int32 → Int32 → Int32 → Int32 → Int32 → Int32 → Int32 → Int32 → Int32 → (Option zs_H)} (hk480 : ∀ (h : zs_H) (x1 : Int32) (x3 : Int32) (x4 : Int32) (x5 : Int32) (x6 : Int32) (x7 : Int32) (x8 : Int32) (x9 : Int32) (x10 : Int32), k480 h x1 x3 x4 x5 x6 x7 x8 x9 x10 = some rh → zk_Ab X (zs_W S h) 0 0 480 [(0, .ref (S.1 68)), (1, .int x1), (3, .int x3), (4, .int x4), (5, .int x5), (6, .int x6), (7, .int x7), (8, .int x8), (9, .int x9), (10, .int x10)] []) (h : zs_H) (x1 : Int32) (x3 : Int32) (x4 : Int32) (x5 : Int32) (x6 : Int32) (x7 : Int32) (x8 : Int32) (x9 : Int32) (x10 : Int32) (y0 : Int32) (y1 : Int32) (e : f_Mo_lookAtDeclaration_615 k480 h x1 x3 x4 x5 x6 x7 x8 x9 x10 y0 y1 = some rh) : zk_Ab X (zs_W S h) 0 0 615 [(0, .ref (S.1 68)), (1, .int x1), (3, .int x3), (4, .int x4), (5, .int x5), (6, .int x6), (7, .int x7), (8, .int x8), (9, .int x9), (10, .int x10)] [.int y0, .int y1, .ref (S.1 97)] := by
  unfold f_Mo_lookAtDeclaration_615 at e
  obtain ⟨q1, e⟩ := zd_g e
  refine zs_iast C 97 rfl (zd_vp q1) kd_Mo_lookAtDeclaration_615 rfl ?_
  refine zk_aload_n C kd_Mo_lookAtDeclaration_616 rfl 0 rfl rfl ?_
  refine zs_get (v := .ref (S.1 98)) C 68 49 rfl rfl rfl rfl ki_Mo (by decide) kw1732 kd_Mo_lookAtDeclaration_617 rfl ?_
  refine zk_iload C kd_Mo_lookAtDeclaration_620 8 rfl rfl ?_
  refine zk_iload C kd_Mo_lookAtDeclaration_622 7 rfl rfl ?_
  obtain ⟨q2, e⟩ := zd_g e
  refine zs_iast C 98 rfl (zd_vp q2) kd_Mo_lookAtDeclaration_624 rfl ?_
  refine zk_aload_n C kd_Mo_lookAtDeclaration_625 rfl 0 rfl rfl ?_
  refine zs_get (v := .ref (S.1 99)) C 68 50 rfl rfl rfl rfl ki_Mo (by decide) kw1733 kd_Mo_lookAtDeclaration_626 rfl ?_
  refine zk_iload C kd_Mo_lookAtDeclaration_629 8 rfl rfl ?_
  refine zk_iload C kd_Mo_lookAtDeclaration_631 4 rfl rfl ?_
  refine zk_if_ge (tgt := 640) C kd_Mo_lookAtDeclaration_633 (by decide) rfl (fun b3 => ?_) (fun b3 => ?_)
  · replace e := zd_pos b3 e
    refine zk_aload_n C kd_Mo_lookAtDeclaration_640 rfl 0 rfl rfl ?_
    refine zs_get (v := .ref (S.1 74)) C 68 17 rfl rfl rfl rfl ki_Mo (by decide) kw1700 kd_Mo_lookAtDeclaration_641 rfl ?_
    refine zk_iload C kd_Mo_lookAtDeclaration_644 4 rfl rfl ?_
    obtain ⟨q4, e⟩ := zd_g e
    refine zs_iald C 74 rfl (zd_vp q4) kd_Mo_lookAtDeclaration_646 rfl ?_
    refine zk_stk (r' := [.int (h.2.1 74 x5.toNatClampNeg), .int x9, .ref (S.1 99)]) rfl ?_
    refine zk_lvs (lv' := [(0, .ref (S.1 68)), (1, .int x1), (3, .int x3), (4, .int x4), (5, .int x5), (6, .int x6), (7, .int x7), (8, .int x8), (9, .int x9), (10, .int x10)]) [0, 1, 2, 3, 4, 5, 6, 7, 8, 9] rfl ?_
    exact zb_Mo_lookAtDeclaration_647 C hR hk480 (zs_uM (zs_uM h 97 y1.toNatClampNeg y0) 98 x9.toNatClampNeg x8) x1 x3 x4 x5 x6 x7 x8 x9 x10 (h.2.1 74 x5.toNatClampNeg) x9 e
  · replace e := zd_neg b3 e
    refine zk_iconst (v := 0) C kd_Mo_lookAtDeclaration_636 (by decide) rfl ?_
    refine zk_goto (tgt := 647) C kd_Mo_lookAtDeclaration_637 (by decide) ?_
    refine zk_lvs (lv' := [(0, .ref (S.1 68)), (1, .int x1), (3, .int x3), (4, .int x4), (5, .int x5), (6, .int x6), (7, .int x7), (8, .int x8), (9, .int x9), (10, .int x10)]) [0, 1, 2, 3, 4, 5, 6, 7, 8, 9] rfl ?_
    exact zb_Mo_lookAtDeclaration_647 C hR hk480 (zs_uM (zs_uM h 97 y1.toNatClampNeg y0) 98 x9.toNatClampNeg x8) x1 x3 x4 x5 x6 x7 x8 x9 x10 0 x9 e
set_option maxHeartbeats 4000000 in
set_option maxRecDepth 100000 in
theorem zb_Mo_lookAtDeclaration_573 {X : zkj_T} {S : zs_T} {P : ze_T} {l : Launch} {D : va_G} {sz0 : Nat} {rh : zs_H} (C : zk_C X km_Mo_lookAtDeclaration (zs_G S l D sz0) { frames := 6, cells := 0, slots := 0, locals := 133 } (ze_E P)) (hR : zkj_R X (zd_PV S rh) (none)) {k480 : zs_H → Int32 → Int32 → Int32 → Int32 → Int32 → Int32 → Int32 → Int32 → Int32 → (Option zs_H)} (hk480 : ∀ (h : zs_H) (x1 : Int32) (x3 : Int32) (x4 : Int32) (x5 : Int32) (x6 : Int32) (x7 : Int32) (x8 : Int32) (x9 : Int32) (x10 : Int32), k480 h x1 x3 x4 x5 x6 x7 x8 x9 x10 = some rh → zk_Ab X (zs_W S h) 0 0 480 [(0, .ref (S.1 68)), (1, .int x1), (3, .int x3), (4, .int x4), (5, .int x5), (6, .int x6), (7, .int x7), (8, .int x8), (9, .int x9), (10, .int x10)] []) (h : zs_H) (x1 : Int32) (x3 : Int32) (x4 : Int32) (x5 : Int32) (x6 : Int32) (x7 : Int32) (x8 : Int32) (x9 : Int32) (x10 : Int32) (e : f_Mo_lookAtDeclaration_573 k480 h x1 x3 x4 x5 x6 x7 x8 x9 x10 = some rh) : zk_Ab X (zs_W S h) 0 0 573 [(0, .ref (S.1 68)), (1, .int x1), (3, .int x3), (4, .int x4), (5, .int x5), (6, .int x6), (7, .int x7), (8, .int x8), (9, .int x9), (10, .int x10)] [] := by
  unfold f_Mo_lookAtDeclaration_573 at e
  refine zk_aload_n C kd_Mo_lookAtDeclaration_573 rfl 0 rfl rfl ?_
  refine zs_get (v := .ref (S.1 101)) C 68 52 rfl rfl rfl rfl ki_Mo (by decide) kw1735 kd_Mo_lookAtDeclaration_574 rfl ?_
  refine zk_iload C kd_Mo_lookAtDeclaration_577 9 rfl rfl ?_
  refine zk_aload_n C kd_Mo_lookAtDeclaration_579 rfl 0 rfl rfl ?_
  refine zs_get (v := .ref (S.1 94)) C 68 45 rfl rfl rfl rfl ki_Mo (by decide) kw1728 kd_Mo_lookAtDeclaration_580 rfl ?_
  refine zk_iload C kd_Mo_lookAtDeclaration_583 8 rfl rfl ?_
  obtain ⟨q1, e⟩ := zd_g e
  refine zs_iald C 94 rfl (zd_vp q1) kd_Mo_lookAtDeclaration_585 rfl ?_
  obtain ⟨q2, e⟩ := zd_g e
  refine zs_iast C 101 rfl (zd_vp q2) kd_Mo_lookAtDeclaration_586 rfl ?_
  refine zk_aload_n C kd_Mo_lookAtDeclaration_587 rfl 0 rfl rfl ?_
  refine zs_get (v := .ref (S.1 97)) C 68 48 rfl rfl rfl rfl ki_Mo (by decide) kw1731 kd_Mo_lookAtDeclaration_588 rfl ?_
  refine zk_iload C kd_Mo_lookAtDeclaration_591 8 rfl rfl ?_
  refine zk_iload C kd_Mo_lookAtDeclaration_593 5 rfl rfl ?_
  refine zk_iconst (v := 1) C kd_Mo_lookAtDeclaration_595 (by decide) rfl ?_
  refine zk_icmp_ne (tgt := 614) C kd_Mo_lookAtDeclaration_596 (by decide) rfl (fun b3 => ?_) (fun b3 => ?_)
  · replace e := zd_neg b3 e
    refine zk_iconst (v := 0) C kd_Mo_lookAtDeclaration_614 (by decide) rfl ?_
    refine zk_lvs (lv' := [(0, .ref (S.1 68)), (1, .int x1), (3, .int x3), (4, .int x4), (5, .int x5), (6, .int x6), (7, .int x7), (8, .int x8), (9, .int x9), (10, .int x10)]) [0, 1, 2, 3, 4, 5, 6, 7, 8, 9] rfl ?_
    exact zb_Mo_lookAtDeclaration_615 C hR hk480 (zs_uM h 101 x10.toNatClampNeg (h.2.1 94 x9.toNatClampNeg)) x1 x3 x4 x5 x6 x7 x8 x9 x10 0 x9 e
  · replace e := zd_pos b3 e
    refine zk_aload_n C kd_Mo_lookAtDeclaration_599 rfl 0 rfl rfl ?_
    refine zs_get (v := .ref (S.1 74)) C 68 17 rfl rfl rfl rfl ki_Mo (by decide) kw1700 kd_Mo_lookAtDeclaration_600 rfl ?_
    refine zk_aload_n C kd_Mo_lookAtDeclaration_603 rfl 0 rfl rfl ?_
    refine zs_get (v := .ref (S.1 76)) C 68 19 rfl rfl rfl rfl ki_Mo (by decide) kw1702 kd_Mo_lookAtDeclaration_604 rfl ?_
    refine zk_iload C kd_Mo_lookAtDeclaration_607 3 rfl rfl ?_
    obtain ⟨q4, e⟩ := zd_g e
    refine zs_iald C 76 rfl (zd_vp q4) kd_Mo_lookAtDeclaration_609 rfl ?_
    refine zk_stk (r' := [.int (h.2.1 76 x4.toNatClampNeg), .ref (S.1 74), .int x9, .ref (S.1 97)]) rfl ?_
    obtain ⟨q5, e⟩ := zd_g e
    refine zs_iald C 74 rfl (zd_vp q5) kd_Mo_lookAtDeclaration_610 rfl ?_
    refine zk_stk (r' := [.int (h.2.1 74 (h.2.1 76 x4.toNatClampNeg).toNatClampNeg), .int x9, .ref (S.1 97)]) rfl ?_
    refine zk_goto (tgt := 615) C kd_Mo_lookAtDeclaration_611 (by decide) ?_
    refine zk_lvs (lv' := [(0, .ref (S.1 68)), (1, .int x1), (3, .int x3), (4, .int x4), (5, .int x5), (6, .int x6), (7, .int x7), (8, .int x8), (9, .int x9), (10, .int x10)]) [0, 1, 2, 3, 4, 5, 6, 7, 8, 9] rfl ?_
    exact zb_Mo_lookAtDeclaration_615 C hR hk480 (zs_uM h 101 x10.toNatClampNeg (h.2.1 94 x9.toNatClampNeg)) x1 x3 x4 x5 x6 x7 x8 x9 x10 (h.2.1 74 (h.2.1 76 x4.toNatClampNeg).toNatClampNeg) x9 e
set_option maxHeartbeats 4000000 in
set_option maxRecDepth 100000 in
theorem zb_Mo_lookAtDeclaration_564 {X : zkj_T} {S : zs_T} {P : ze_T} {l : Launch} {D : va_G} {sz0 : Nat} {rh : zs_H} (C : zk_C X km_Mo_lookAtDeclaration (zs_G S l D sz0) { frames := 6, cells := 0, slots := 0, locals := 133 } (ze_E P)) (hR : zkj_R X (zd_PV S rh) (none)) {k480 : zs_H → Int32 → Int32 → Int32 → Int32 → Int32 → Int32 → Int32 → Int32 → Int32 → (Option zs_H)} (hk480 : ∀ (h : zs_H) (x1 : Int32) (x3 : Int32) (x4 : Int32) (x5 : Int32) (x6 : Int32) (x7 : Int32) (x8 : Int32) (x9 : Int32) (x10 : Int32), k480 h x1 x3 x4 x5 x6 x7 x8 x9 x10 = some rh → zk_Ab X (zs_W S h) 0 0 480 [(0, .ref (S.1 68)), (1, .int x1), (3, .int x3), (4, .int x4), (5, .int x5), (6, .int x6), (7, .int x7), (8, .int x8), (9, .int x9), (10, .int x10)] []) (h : zs_H) (x1 : Int32) (x3 : Int32) (x4 : Int32) (x5 : Int32) (x6 : Int32) (x7 : Int32) (x8 : Int32) (x9 : Int32) (x10 : Int32) (y0 : Int32) (y1 : Int32) (y2 : Int32) (y3 : Int32) (e : f_Mo_lookAtDeclaration_564 k480 h x1 x3 x4 x5 x6 x7 x8 x9 x10 y0 y1 y2 y3 = some rh) : zk_Ab X (zs_W S h) 0 0 564 [(0, .ref (S.1 68)), (1, .int x1), (3, .int x3), (4, .int x4), (5, .int x5), (6, .int x6), (7, .int x7), (8, .int x8), (9, .int x9), (10, .int x10)] [.int y0, .int y1, .int y2, .int y3, .ref (S.1 94)] := by
  unfold f_Mo_lookAtDeclaration_564 at e
  refine zk_imul C kd_Mo_lookAtDeclaration_564 rfl ?_
  refine zk_iadd C kd_Mo_lookAtDeclaration_565 rfl ?_
  refine zk_iload_n C kd_Mo_lookAtDeclaration_566 rfl 2 rfl rfl ?_
  refine zk_sipush (v := 256) C kd_Mo_lookAtDeclaration_567 (by decide) rfl ?_
  refine zk_irem C kd_Mo_lookAtDeclaration_570 (by decide) rfl ?_
  refine zk_iadd C kd_Mo_lookAtDeclaration_571 rfl ?_
  obtain ⟨q1, e⟩ := zd_g e
  refine zs_iast C 94 rfl (zd_vp q1) kd_Mo_lookAtDeclaration_572 rfl ?_
  refine zk_lvs (lv' := [(0, .ref (S.1 68)), (1, .int x1), (3, .int x3), (4, .int x4), (5, .int x5), (6, .int x6), (7, .int x7), (8, .int x8), (9, .int x9), (10, .int x10)]) [0, 1, 2, 3, 4, 5, 6, 7, 8, 9] rfl ?_
  exact zb_Mo_lookAtDeclaration_573 C hR hk480 (zs_uM h 94 y3.toNatClampNeg ((y2 + (y1 * y0)) + (x3 - x3 / 256 * 256))) x1 x3 x4 x5 x6 x7 x8 x9 x10 e
set_option maxHeartbeats 4000000 in
set_option maxRecDepth 100000 in
theorem zb_Mo_lookAtDeclaration_544 {X : zkj_T} {S : zs_T} {P : ze_T} {l : Launch} {D : va_G} {sz0 : Nat} {rh : zs_H} (C : zk_C X km_Mo_lookAtDeclaration (zs_G S l D sz0) { frames := 6, cells := 0, slots := 0, locals := 133 } (ze_E P)) (hR : zkj_R X (zd_PV S rh) (none)) {k480 : zs_H → Int32 → Int32 → Int32 → Int32 → Int32 → Int32 → Int32 → Int32 → Int32 → (Option zs_H)} (hk480 : ∀ (h : zs_H) (x1 : Int32) (x3 : Int32) (x4 : Int32) (x5 : Int32) (x6 : Int32) (x7 : Int32) (x8 : Int32) (x9 : Int32) (x10 : Int32), k480 h x1 x3 x4 x5 x6 x7 x8 x9 x10 = some rh → zk_Ab X (zs_W S h) 0 0 480 [(0, .ref (S.1 68)), (1, .int x1), (3, .int x3), (4, .int x4), (5, .int x5), (6, .int x6), (7, .int x7), (8, .int x8), (9, .int x9), (10, .int x10)] []) (h : zs_H) (x1 : Int32) (x3 : Int32) (x4 : Int32) (x5 : Int32) (x6 : Int32) (x7 : Int32) (x8 : Int32) (x9 : Int32) (x10 : Int32) (y0 : Int32) (y1 : Int32) (e : f_Mo_lookAtDeclaration_544 k480 h x1 x3 x4 x5 x6 x7 x8 x9 x10 y0 y1 = some rh) : zk_Ab X (zs_W S h) 0 0 544 [(0, .ref (S.1 68)), (1, .int x1), (3, .int x3), (4, .int x4), (5, .int x5), (6, .int x6), (7, .int x7), (8, .int x8), (9, .int x9), (10, .int x10)] [.int y0, .int y1, .ref (S.1 94)] := by
  unfold f_Mo_lookAtDeclaration_544 at e
  refine zk_iload_n C kd_Mo_lookAtDeclaration_544 rfl 2 rfl rfl ?_
  refine zk_sipush (v := 256) C kd_Mo_lookAtDeclaration_545 (by decide) rfl ?_
  refine zk_idiv C kd_Mo_lookAtDeclaration_548 (by decide) rfl ?_
  refine zk_iload_n C kd_Mo_lookAtDeclaration_549 rfl 2 rfl rfl ?_
  refine zk_sipush (v := 768) C kd_Mo_lookAtDeclaration_550 (by decide) rfl ?_
  refine zk_icmp_ge (tgt := 562) C kd_Mo_lookAtDeclaration_553 (by decide) rfl (fun b1 => ?_) (fun b1 => ?_)
  · replace e := zd_pos b1 e
    refine zk_bipush (v := 64) C kd_Mo_lookAtDeclaration_562 (by decide) rfl ?_
    refine zk_lvs (lv' := [(0, .ref (S.1 68)), (1, .int x1), (3, .int x3), (4, .int x4), (5, .int x5), (6, .int x6), (7, .int x7), (8, .int x8), (9, .int x9), (10, .int x10)]) [0, 1, 2, 3, 4, 5, 6, 7, 8, 9] rfl ?_
    exact zb_Mo_lookAtDeclaration_564 C hR hk480 h x1 x3 x4 x5 x6 x7 x8 x9 x10 64 (x3 / 256) y0 y1 e
  · replace e := zd_neg b1 e
    refine zk_sipush (v := 256) C kd_Mo_lookAtDeclaration_556 (by decide) rfl ?_
    refine zk_goto (tgt := 564) C kd_Mo_lookAtDeclaration_559 (by decide) ?_
    refine zk_lvs (lv' := [(0, .ref (S.1 68)), (1, .int x1), (3, .int x3), (4, .int x4), (5, .int x5), (6, .int x6), (7, .int x7), (8, .int x8), (9, .int x9), (10, .int x10)]) [0, 1, 2, 3, 4, 5, 6, 7, 8, 9] rfl ?_
    exact zb_Mo_lookAtDeclaration_564 C hR hk480 h x1 x3 x4 x5 x6 x7 x8 x9 x10 256 (x3 / 256) y0 y1 e
set_option maxHeartbeats 4000000 in
set_option maxRecDepth 100000 in
theorem zb_Mo_lookAtDeclaration_509 {X : zkj_T} {S : zs_T} {P : ze_T} {l : Launch} {D : va_G} {sz0 : Nat} {rh : zs_H} (C : zk_C X km_Mo_lookAtDeclaration (zs_G S l D sz0) { frames := 6, cells := 0, slots := 0, locals := 133 } (ze_E P)) (hR : zkj_R X (zd_PV S rh) (none)) {k480 : zs_H → Int32 → Int32 → Int32 → Int32 → Int32 → Int32 → Int32 → Int32 → Int32 → (Option zs_H)} (hk480 : ∀ (h : zs_H) (x1 : Int32) (x3 : Int32) (x4 : Int32) (x5 : Int32) (x6 : Int32) (x7 : Int32) (x8 : Int32) (x9 : Int32) (x10 : Int32), k480 h x1 x3 x4 x5 x6 x7 x8 x9 x10 = some rh → zk_Ab X (zs_W S h) 0 0 480 [(0, .ref (S.1 68)), (1, .int x1), (3, .int x3), (4, .int x4), (5, .int x5), (6, .int x6), (7, .int x7), (8, .int x8), (9, .int x9), (10, .int x10)] []) (h : zs_H) (x1 : Int32) (x3 : Int32) (x4 : Int32) (x5 : Int32) (x6 : Int32) (x7 : Int32) (x8 : Int32) (x9 : Int32) (x10 : Int32) (y0 : Int32) (y1 : Int32) (y2 : Int32) (y3 : Int32) (e : f_Mo_lookAtDeclaration_509 k480 h x1 x3 x4 x5 x6 x7 x8 x9 x10 y0 y1 y2 y3 = some rh) : zk_Ab X (zs_W S h) 0 0 509 [(0, .ref (S.1 68)), (1, .int x1), (3, .int x3), (4, .int x4), (5, .int x5), (6, .int x6), (7, .int x7), (8, .int x8), (9, .int x9), (10, .int x10)] [.int y0, .int y1, .int y2, .int y3, .ref (S.1 68)] := by
  unfold f_Mo_lookAtDeclaration_509 at e
  obtain ⟨h2, c1, e⟩ := zd_b e
  refine zs_callV (k := 68) (rn := { frames := 0, cells := 0, slots := 0, locals := 0 }) (As := [.int y3, .int y2, .int y1, .int y0]) (rest := []) C (zc_Mo_layOut h y3 y2 y1 y0 c1) ku_Mo_layOut kw2286 kv_Mo_layOut rfl ⟨by decide, by decide⟩ ⟨by decide, by decide⟩ rfl rfl rfl (Nat.le_of_ble_eq_true rfl) kd_Mo_lookAtDeclaration_509 rfl (c1 := 0) (s1 := 0) rfl rfl (fun v w hp => ?_)
  obtain ⟨rfl, rfl⟩ := hp
  refine zk_stk (r' := []) rfl ?_
  refine zk_iload_n C kd_Mo_lookAtDeclaration_512 rfl 2 rfl rfl ?_
  refine zk_if_lt (tgt := 573) C kd_Mo_lookAtDeclaration_513 (by decide) rfl (fun b3 => ?_) (fun b3 => ?_)
  · replace e := zd_pos b3 e
    refine zk_lvs (lv' := [(0, .ref (S.1 68)), (1, .int x1), (3, .int x3), (4, .int x4), (5, .int x5), (6, .int x6), (7, .int x7), (8, .int x8), (9, .int x9), (10, .int x10)]) [0, 1, 2, 3, 4, 5, 6, 7, 8, 9] rfl ?_
    exact zb_Mo_lookAtDeclaration_573 C hR hk480 h2 x1 x3 x4 x5 x6 x7 x8 x9 x10 e
  · replace e := zd_neg b3 e
    refine zk_aload_n C kd_Mo_lookAtDeclaration_516 rfl 0 rfl rfl ?_
    refine zs_get (v := .ref (S.1 96)) C 68 47 rfl rfl rfl rfl ki_Mo (by decide) kw1730 kd_Mo_lookAtDeclaration_517 rfl ?_
    refine zk_iload C kd_Mo_lookAtDeclaration_520 8 rfl rfl ?_
    refine zk_iload_n C kd_Mo_lookAtDeclaration_522 rfl 2 rfl rfl ?_
    obtain ⟨q4, e⟩ := zd_g e
    refine zs_iast C 96 rfl (zd_vp q4) kd_Mo_lookAtDeclaration_523 rfl ?_
    refine zk_aload_n C kd_Mo_lookAtDeclaration_524 rfl 0 rfl rfl ?_
    refine zs_get (v := .ref (S.1 94)) C 68 45 rfl rfl rfl rfl ki_Mo (by decide) kw1728 kd_Mo_lookAtDeclaration_525 rfl ?_
    refine zk_iload C kd_Mo_lookAtDeclaration_528 8 rfl rfl ?_
    refine zk_iload_n C kd_Mo_lookAtDeclaration_530 rfl 2 rfl rfl ?_
    refine zk_sipush (v := 768) C kd_Mo_lookAtDeclaration_531 (by decide) rfl ?_
    refine zk_icmp_ge (tgt := 541) C kd_Mo_lookAtDeclaration_534 (by decide) rfl (fun b5 => ?_) (fun b5 => ?_)
    · replace e := zd_pos b5 e
      refine zk_sipush (v := 576) C kd_Mo_lookAtDeclaration_541 (by decide) rfl ?_
      refine zk_lvs (lv' := [(0, .ref (S.1 68)), (1, .int x1), (3, .int x3), (4, .int x4), (5, .int x5), (6, .int x6), (7, .int x7), (8, .int x8), (9, .int x9), (10, .int x10)]) [0, 1, 2, 3, 4, 5, 6, 7, 8, 9] rfl ?_
      exact zb_Mo_lookAtDeclaration_544 C hR hk480 (zs_uM h2 96 x9.toNatClampNeg x3) x1 x3 x4 x5 x6 x7 x8 x9 x10 576 x9 e
    · replace e := zd_neg b5 e
      refine zk_iconst (v := 0) C kd_Mo_lookAtDeclaration_537 (by decide) rfl ?_
      refine zk_goto (tgt := 544) C kd_Mo_lookAtDeclaration_538 (by decide) ?_
      refine zk_lvs (lv' := [(0, .ref (S.1 68)), (1, .int x1), (3, .int x3), (4, .int x4), (5, .int x5), (6, .int x6), (7, .int x7), (8, .int x8), (9, .int x9), (10, .int x10)]) [0, 1, 2, 3, 4, 5, 6, 7, 8, 9] rfl ?_
      exact zb_Mo_lookAtDeclaration_544 C hR hk480 (zs_uM h2 96 x9.toNatClampNeg x3) x1 x3 x4 x5 x6 x7 x8 x9 x10 0 x9 e
set_option maxHeartbeats 4000000 in
set_option maxRecDepth 100000 in
theorem zb_Mo_lookAtDeclaration_684 {X : zkj_T} {S : zs_T} {P : ze_T} {l : Launch} {D : va_G} {sz0 : Nat} {rh : zs_H} (C : zk_C X km_Mo_lookAtDeclaration (zs_G S l D sz0) { frames := 6, cells := 0, slots := 0, locals := 133 } (ze_E P)) (hR : zkj_R X (zd_PV S rh) (none)) (h : zs_H) (x1 : Int32) (y0 : Int32) (e : f_Mo_lookAtDeclaration_684 h x1 y0 = some rh) : zk_Ab X (zs_W S h) 0 0 684 [(1, .int x1)] [.int y0, .ref (S.1 68)] := by
  unfold f_Mo_lookAtDeclaration_684 at e
  refine zk_bipush (v := 19) C kd_Mo_lookAtDeclaration_684 (by decide) rfl ?_
  refine zk_iload_n C kd_Mo_lookAtDeclaration_686 rfl 0 rfl rfl ?_
  obtain ⟨h2, c1, e⟩ := zd_b e
  refine zs_callV (k := 68) (rn := { frames := 1, cells := 0, slots := 0, locals := 22 }) (As := [.int y0, .int 19, .int x1]) (rest := []) C (zc_Mo_rule h y0 19 x1 c1) ku_Mo_rule kw2260 kv_Mo_rule rfl ⟨by decide, by decide⟩ ⟨by decide, by decide⟩ rfl rfl rfl (Nat.le_of_ble_eq_true rfl) kd_Mo_lookAtDeclaration_687 rfl (c1 := 0) (s1 := 0) rfl rfl (fun v w hp => ?_)
  obtain ⟨rfl, rfl⟩ := hp
  refine zk_stk (r' := []) rfl ?_
  exact zk_vret C hR kd_Mo_lookAtDeclaration_690 rfl rfl (zd_rV e)
set_option maxHeartbeats 4000000 in
set_option maxRecDepth 100000 in
theorem zb_Mo_lookAtDeclaration_480 {X : zkj_T} {S : zs_T} {P : ze_T} {l : Launch} {D : va_G} {sz0 : Nat} {rh : zs_H} (C : zk_C X km_Mo_lookAtDeclaration (zs_G S l D sz0) { frames := 6, cells := 0, slots := 0, locals := 133 } (ze_E P)) (hR : zkj_R X (zd_PV S rh) (none)) {k480 : zs_H → Int32 → Int32 → Int32 → Int32 → Int32 → Int32 → Int32 → Int32 → Int32 → (Option zs_H)} (hk480 : ∀ (h : zs_H) (x1 : Int32) (x3 : Int32) (x4 : Int32) (x5 : Int32) (x6 : Int32) (x7 : Int32) (x8 : Int32) (x9 : Int32) (x10 : Int32), k480 h x1 x3 x4 x5 x6 x7 x8 x9 x10 = some rh → zk_Ab X (zs_W S h) 0 0 480 [(0, .ref (S.1 68)), (1, .int x1), (3, .int x3), (4, .int x4), (5, .int x5), (6, .int x6), (7, .int x7), (8, .int x8), (9, .int x9), (10, .int x10)] []) (h : zs_H) (x1 : Int32) (x3 : Int32) (x4 : Int32) (x5 : Int32) (x6 : Int32) (x7 : Int32) (x8 : Int32) (x9 : Int32) (x10 : Int32) (e : f_Mo_lookAtDeclaration_480 k480 h x1 x3 x4 x5 x6 x7 x8 x9 x10 = some rh) : zk_Ab X (zs_W S h) 0 0 480 [(0, .ref (S.1 68)), (1, .int x1), (3, .int x3), (4, .int x4), (5, .int x5), (6, .int x6), (7, .int x7), (8, .int x8), (9, .int x9), (10, .int x10)] [] := by
  unfold f_Mo_lookAtDeclaration_480 at e
  refine zk_aload_n C kd_Mo_lookAtDeclaration_480 rfl 0 rfl rfl ?_
  refine zs_get (v := .ref (S.1 72)) C 68 15 rfl rfl rfl rfl ki_Mo (by decide) kw1698 kd_Mo_lookAtDeclaration_481 rfl ?_
  refine zk_iload C kd_Mo_lookAtDeclaration_484 9 rfl rfl ?_
  obtain ⟨q1, e⟩ := zd_g e
  refine zs_iald C 72 rfl (zd_vp q1) kd_Mo_lookAtDeclaration_486 rfl ?_
  refine zk_bipush (v := 6) C kd_Mo_lookAtDeclaration_487 (by decide) rfl ?_
  refine zk_icmp_ne (tgt := 663) C kd_Mo_lookAtDeclaration_489 (by decide) rfl (fun b2 => ?_) (fun b2 => ?_)
  · replace e := zd_neg b2 e
    refine zk_aload_n C kd_Mo_lookAtDeclaration_663 rfl 0 rfl rfl ?_
    refine zk_aload_n C kd_Mo_lookAtDeclaration_664 rfl 0 rfl rfl ?_
    refine zs_get (v := .ref (S.1 88)) C 68 38 rfl rfl rfl rfl ki_Mo (by decide) kw1721 kd_Mo_lookAtDeclaration_665 rfl ?_
    refine zk_aload_n C kd_Mo_lookAtDeclaration_668 rfl 0 rfl rfl ?_
    refine zs_get (v := .int (h.1 68 54)) C 68 54 rfl rfl rfl rfl ki_Mo (by decide) kw1737 kd_Mo_lookAtDeclaration_669 rfl ?_
    obtain ⟨q3, e⟩ := zd_g e
    refine zs_iald C 88 rfl (zd_vp q3) kd_Mo_lookAtDeclaration_672 rfl ?_
    refine zk_sipush (v := 4096) C kd_Mo_lookAtDeclaration_673 (by decide) rfl ?_
    refine zk_icmp_le (tgt := 683) C kd_Mo_lookAtDeclaration_676 (by decide) rfl (fun b4 => ?_) (fun b4 => ?_)
    · replace e := zd_pos b4 e
      refine zk_iconst (v := 0) C kd_Mo_lookAtDeclaration_683 (by decide) rfl ?_
      refine zk_lvs (lv' := [(1, .int x1)]) [1] rfl ?_
      exact zb_Mo_lookAtDeclaration_684 C hR h x1 0 e
    · replace e := zd_neg b4 e
      refine zk_iconst (v := 1) C kd_Mo_lookAtDeclaration_679 (by decide) rfl ?_
      refine zk_goto (tgt := 684) C kd_Mo_lookAtDeclaration_680 (by decide) ?_
      refine zk_lvs (lv' := [(1, .int x1)]) [1] rfl ?_
      exact zb_Mo_lookAtDeclaration_684 C hR h x1 1 e
  · replace e := zd_pos b2 e
    refine zk_aload_n C kd_Mo_lookAtDeclaration_492 rfl 0 rfl rfl ?_
    refine zk_iload C kd_Mo_lookAtDeclaration_493 8 rfl rfl ?_
    refine zk_iload C kd_Mo_lookAtDeclaration_495 5 rfl rfl ?_
    refine zk_iload C kd_Mo_lookAtDeclaration_497 6 rfl rfl ?_
    refine zk_iload_n C kd_Mo_lookAtDeclaration_499 rfl 2 rfl rfl ?_
    refine zk_if_ge (tgt := 508) C kd_Mo_lookAtDeclaration_500 (by decide) rfl (fun b5 => ?_) (fun b5 => ?_)
    · replace e := zd_pos b5 e
      refine zk_iconst (v := 0) C kd_Mo_lookAtDeclaration_508 (by decide) rfl ?_
      refine zk_lvs (lv' := [(0, .ref (S.1 68)), (1, .int x1), (3, .int x3), (4, .int x4), (5, .int x5), (6, .int x6), (7, .int x7), (8, .int x8), (9, .int x9), (10, .int x10)]) [0, 1, 2, 3, 4, 5, 6, 7, 8, 9] rfl ?_
      exact zb_Mo_lookAtDeclaration_509 C hR hk480 h x1 x3 x4 x5 x6 x7 x8 x9 x10 0 x7 x6 x9 e
    · replace e := zd_neg b5 e
      refine zk_iload C kd_Mo_lookAtDeclaration_503 7 rfl rfl ?_
      refine zk_goto (tgt := 509) C kd_Mo_lookAtDeclaration_505 (by decide) ?_
      refine zk_lvs (lv' := [(0, .ref (S.1 68)), (1, .int x1), (3, .int x3), (4, .int x4), (5, .int x5), (6, .int x6), (7, .int x7), (8, .int x8), (9, .int x9), (10, .int x10)]) [0, 1, 2, 3, 4, 5, 6, 7, 8, 9] rfl ?_
      exact zb_Mo_lookAtDeclaration_509 C hR hk480 h x1 x3 x4 x5 x6 x7 x8 x9 x10 x8 x7 x6 x9 e
theorem zl_Mo_lookAtDeclaration_480 {X : zkj_T} {S : zs_T} {P : ze_T} {l : Launch} {D : va_G} {sz0 : Nat} {rh : zs_H} (C : zk_C X km_Mo_lookAtDeclaration (zs_G S l D sz0) { frames := 6, cells := 0, slots := 0, locals := 133 } (ze_E P)) (hR : zkj_R X (zd_PV S rh) (none)) (n : Nat) : ∀ (h : zs_H) (x1 : Int32) (x3 : Int32) (x4 : Int32) (x5 : Int32) (x6 : Int32) (x7 : Int32) (x8 : Int32) (x9 : Int32) (x10 : Int32), f_Mo_lookAtDeclaration_L480 n h x1 x3 x4 x5 x6 x7 x8 x9 x10 = some rh → zk_Ab X (zs_W S h) 0 0 480 [(0, .ref (S.1 68)), (1, .int x1), (3, .int x3), (4, .int x4), (5, .int x5), (6, .int x6), (7, .int x7), (8, .int x8), (9, .int x9), (10, .int x10)] [] := by
  induction n with
  | zero => intro h x1 x3 x4 x5 x6 x7 x8 x9 x10 e; exact zd_no e
  | succ n ih => intro h x1 x3 x4 x5 x6 x7 x8 x9 x10 e; exact zb_Mo_lookAtDeclaration_480 (k480 := f_Mo_lookAtDeclaration_L480  n) C hR ih h x1 x3 x4 x5 x6 x7 x8 x9 x10 e
set_option maxHeartbeats 4000000 in
set_option maxRecDepth 100000 in
theorem zb_Mo_lookAtDeclaration_462 {X : zkj_T} {S : zs_T} {P : ze_T} {l : Launch} {D : va_G} {sz0 : Nat} {rh : zs_H} (C : zk_C X km_Mo_lookAtDeclaration (zs_G S l D sz0) { frames := 6, cells := 0, slots := 0, locals := 133 } (ze_E P)) (hR : zkj_R X (zd_PV S rh) (none)) (h : zs_H) (x1 : Int32) (x2 : Int32) (x3 : Int32) (x4 : Int32) (x5 : Int32) (x6 : Int32) (x7 : Int32) (y0 : Int32) (e : f_Mo_lookAtDeclaration_462 h x1 x2 x3 x4 x5 x6 x7 y0 = some rh) : zk_Ab X (zs_W S h) 0 0 462 [(0, .ref (S.1 68)), (1, .int x1), (2, .int x2), (3, .int x3), (4, .int x4), (5, .int x5), (6, .int x6), (7, .int x7)] [.int y0] := by
  unfold f_Mo_lookAtDeclaration_462 at e
  refine zk_istore (lv' := [(8, _), (0, _), (1, _), (2, _), (3, _), (4, _), (5, _), (6, _), (7, _)]) C kd_Mo_lookAtDeclaration_462 (by decide) rfl rfl ?_
  refine zk_aload_n C kd_Mo_lookAtDeclaration_464 rfl 1 rfl rfl ?_
  refine zs_get (v := .int (h.1 68 41)) C 68 41 rfl rfl rfl rfl ki_Mo (by decide) kw1724 kd_Mo_lookAtDeclaration_465 rfl ?_
  refine zk_iload_n C kd_Mo_lookAtDeclaration_468 rfl 3 rfl rfl ?_
  refine zk_isub C kd_Mo_lookAtDeclaration_469 rfl ?_
  refine zk_istore (lv' := [(9, _), (8, _), (0, _), (1, _), (2, _), (3, _), (4, _), (5, _), (6, _), (7, _)]) C kd_Mo_lookAtDeclaration_470 (by decide) rfl rfl ?_
  refine zk_aload_n C kd_Mo_lookAtDeclaration_472 rfl 2 rfl rfl ?_
  refine zs_get (v := .ref (S.1 76)) C 68 19 rfl rfl rfl rfl ki_Mo (by decide) kw1702 kd_Mo_lookAtDeclaration_473 rfl ?_
  refine zk_iload_n C kd_Mo_lookAtDeclaration_476 rfl 3 rfl rfl ?_
  obtain ⟨q1, e⟩ := zd_g e
  refine zs_iald C 76 rfl (zd_vp q1) kd_Mo_lookAtDeclaration_477 rfl ?_
  refine zk_istore (lv' := [(10, _), (9, _), (8, _), (0, _), (1, _), (2, _), (3, _), (4, _), (5, _), (6, _), (7, _)]) C kd_Mo_lookAtDeclaration_478 (by decide) rfl rfl ?_
  refine zk_lvs (lv' := [(0, .ref (S.1 68)), (1, .int x1), (3, .int x3), (4, .int x4), (5, .int x5), (6, .int x6), (7, .int x7), (8, .int y0), (9, .int ((h.1 68 41) - x2)), (10, .int (h.2.1 76 x1.toNatClampNeg))]) [3, 4, 6, 7, 8, 9, 10, 2, 1, 0] rfl ?_
  exact zl_Mo_lookAtDeclaration_480 C hR zF h x1 x3 x4 x5 x6 x7 y0 ((h.1 68 41) - x2) (h.2.1 76 x1.toNatClampNeg) e
set_option maxHeartbeats 4000000 in
set_option maxRecDepth 100000 in
theorem zb_Mo_lookAtDeclaration_398 {X : zkj_T} {S : zs_T} {P : ze_T} {l : Launch} {D : va_G} {sz0 : Nat} {rh : zs_H} (C : zk_C X km_Mo_lookAtDeclaration (zs_G S l D sz0) { frames := 6, cells := 0, slots := 0, locals := 133 } (ze_E P)) (hR : zkj_R X (zd_PV S rh) (none)) (h : zs_H) (x1 : Int32) (x2 : Int32) (x3 : Int32) (x4 : Int32) (x5 : Int32) (x6 : Int32) (x7 : Int32) (e : f_Mo_lookAtDeclaration_398 h x1 x2 x3 x4 x5 x6 x7 = some rh) : zk_Ab X (zs_W S h) 0 0 398 [(0, .ref (S.1 68)), (1, .int x1), (2, .int x2), (3, .int x3), (4, .int x4), (5, .int x5), (6, .int x6), (7, .int x7)] [] := by
  unfold f_Mo_lookAtDeclaration_398 at e
  refine zk_aload_n C kd_Mo_lookAtDeclaration_398 rfl 0 rfl rfl ?_
  refine zs_get (v := .int (h.1 68 29)) C 68 29 rfl rfl rfl rfl ki_Mo (by decide) kw1712 kd_Mo_lookAtDeclaration_399 rfl ?_
  refine zk_if_le (tgt := 406) C kd_Mo_lookAtDeclaration_402 (by decide) rfl (fun b1 => ?_) (fun b1 => ?_)
  · replace e := zd_pos b1 e
    refine zk_iload C kd_Mo_lookAtDeclaration_406 6 rfl rfl ?_
    refine zk_if_ne (tgt := 415) C kd_Mo_lookAtDeclaration_408 (by decide) rfl (fun b2 => ?_) (fun b2 => ?_)
    · replace e := zd_neg b2 e
      refine zk_iload C kd_Mo_lookAtDeclaration_415 6 rfl rfl ?_
      refine zk_iconst (v := 1) C kd_Mo_lookAtDeclaration_417 (by decide) rfl ?_
      refine zk_icmp_ne (tgt := 456) C kd_Mo_lookAtDeclaration_418 (by decide) rfl (fun b3 => ?_) (fun b3 => ?_)
      · replace e := zd_neg b3 e
        refine zk_aload_n C kd_Mo_lookAtDeclaration_456 rfl 0 rfl rfl ?_
        refine zk_iload C kd_Mo_lookAtDeclaration_457 7 rfl rfl ?_
        obtain ⟨v5, c4, e⟩ := zd_b e
        refine zs_callV (k := 68) (rn := { frames := 0, cells := 0, slots := 0, locals := 0 }) (As := [.int x7]) (rest := []) C (zc_Mo_instanceCells h x7 c4) ku_Mo_instanceCells kw2318 kv_Mo_instanceCells rfl ⟨by decide, by decide⟩ ⟨by decide, by decide⟩ rfl rfl rfl (Nat.le_of_ble_eq_true rfl) kd_Mo_lookAtDeclaration_459 rfl (c1 := 0) (s1 := 0) rfl rfl (fun v w hp => ?_)
        obtain ⟨rfl, rfl⟩ := hp
        refine zk_stk (r' := [.int v5]) rfl ?_
        refine zk_lvs (lv' := [(0, .ref (S.1 68)), (1, .int x1), (2, .int x2), (3, .int x3), (4, .int x4), (5, .int x5), (6, .int x6), (7, .int x7)]) [0, 1, 2, 3, 4, 5, 6, 7] rfl ?_
        exact zb_Mo_lookAtDeclaration_462 C hR h x1 x2 x3 x4 x5 x6 x7 v5 e
      · replace e := zd_pos b3 e
        refine zk_aload_n C kd_Mo_lookAtDeclaration_421 rfl 0 rfl rfl ?_
        refine zs_get (v := .ref (S.1 74)) C 68 17 rfl rfl rfl rfl ki_Mo (by decide) kw1700 kd_Mo_lookAtDeclaration_422 rfl ?_
        refine zk_aload_n C kd_Mo_lookAtDeclaration_425 rfl 0 rfl rfl ?_
        refine zs_get (v := .ref (S.1 78)) C 68 21 rfl rfl rfl rfl ki_Mo (by decide) kw1704 kd_Mo_lookAtDeclaration_426 rfl ?_
        refine zk_aload_n C kd_Mo_lookAtDeclaration_429 rfl 0 rfl rfl ?_
        refine zs_get (v := .ref (S.1 76)) C 68 19 rfl rfl rfl rfl ki_Mo (by decide) kw1702 kd_Mo_lookAtDeclaration_430 rfl ?_
        refine zk_iload C kd_Mo_lookAtDeclaration_433 4 rfl rfl ?_
        obtain ⟨q6, e⟩ := zd_g e
        refine zs_iald C 76 rfl (zd_vp q6) kd_Mo_lookAtDeclaration_435 rfl ?_
        obtain ⟨q7, e⟩ := zd_g e
        refine zs_iald C 78 rfl (zd_vp q7) kd_Mo_lookAtDeclaration_436 rfl ?_
        obtain ⟨q8, e⟩ := zd_g e
        refine zs_iald C 74 rfl (zd_vp q8) kd_Mo_lookAtDeclaration_437 rfl ?_
        refine zk_aload_n C kd_Mo_lookAtDeclaration_438 rfl 0 rfl rfl ?_
        refine zs_get (v := .ref (S.1 74)) C 68 17 rfl rfl rfl rfl ki_Mo (by decide) kw1700 kd_Mo_lookAtDeclaration_439 rfl ?_
        refine zk_aload_n C kd_Mo_lookAtDeclaration_442 rfl 0 rfl rfl ?_
        refine zs_get (v := .ref (S.1 76)) C 68 19 rfl rfl rfl rfl ki_Mo (by decide) kw1702 kd_Mo_lookAtDeclaration_443 rfl ?_
        refine zk_iload C kd_Mo_lookAtDeclaration_446 4 rfl rfl ?_
        refine zs_iald C 76 rfl (zd_vp q6) kd_Mo_lookAtDeclaration_448 rfl ?_
        refine zs_iald C 74 rfl (zd_vp q7) kd_Mo_lookAtDeclaration_449 rfl ?_
        refine zk_isub C kd_Mo_lookAtDeclaration_450 rfl ?_
        refine zk_iconst (v := 1) C kd_Mo_lookAtDeclaration_451 (by decide) rfl ?_
        refine zk_iadd C kd_Mo_lookAtDeclaration_452 rfl ?_
        refine zk_goto (tgt := 462) C kd_Mo_lookAtDeclaration_453 (by decide) ?_
        refine zk_lvs (lv' := [(0, .ref (S.1 68)), (1, .int x1), (2, .int x2), (3, .int x3), (4, .int x4), (5, .int x5), (6, .int x6), (7, .int x7)]) [0, 1, 2, 3, 4, 5, 6, 7] rfl ?_
        exact zb_Mo_lookAtDeclaration_462 C hR h x1 x2 x3 x4 x5 x6 x7 (((h.2.1 74 (h.2.1 78 (h.2.1 76 x4.toNatClampNeg).toNatClampNeg).toNatClampNeg) - (h.2.1 74 (h.2.1 76 x4.toNatClampNeg).toNatClampNeg)) + 1) e
    · replace e := zd_pos b2 e
      refine zk_iconst (v := 1) C kd_Mo_lookAtDeclaration_411 (by decide) rfl ?_
      refine zk_goto (tgt := 462) C kd_Mo_lookAtDeclaration_412 (by decide) ?_
      refine zk_lvs (lv' := [(0, .ref (S.1 68)), (1, .int x1), (2, .int x2), (3, .int x3), (4, .int x4), (5, .int x5), (6, .int x6), (7, .int x7)]) [0, 1, 2, 3, 4, 5, 6, 7] rfl ?_
      exact zb_Mo_lookAtDeclaration_462 C hR h x1 x2 x3 x4 x5 x6 x7 1 e
  · replace e := zd_neg b1 e
    exact zk_vret C hR kd_Mo_lookAtDeclaration_405 rfl rfl (zd_rV e)
set_option maxHeartbeats 4000000 in
set_option maxRecDepth 100000 in
theorem zb_Mo_lookAtDeclaration_392 {X : zkj_T} {S : zs_T} {P : ze_T} {l : Launch} {D : va_G} {sz0 : Nat} {rh : zs_H} (C : zk_C X km_Mo_lookAtDeclaration (zs_G S l D sz0) { frames := 6, cells := 0, slots := 0, locals := 133 } (ze_E P)) (hR : zkj_R X (zd_PV S rh) (none)) (h : zs_H) (x1 : Int32) (x2 : Int32) (x3 : Int32) (x4 : Int32) (x5 : Int32) (x6 : Int32) (x7 : Int32) (y0 : Int32) (e : f_Mo_lookAtDeclaration_392 h x1 x2 x3 x4 x5 x6 x7 y0 = some rh) : zk_Ab X (zs_W S h) 0 0 392 [(0, .ref (S.1 68)), (1, .int x1), (2, .int x2), (3, .int x3), (4, .int x4), (5, .int x5), (6, .int x6), (7, .int x7)] [.int y0, .ref (S.1 68)] := by
  unfold f_Mo_lookAtDeclaration_392 at e
  refine zk_bipush (v := 18) C kd_Mo_lookAtDeclaration_392 (by decide) rfl ?_
  refine zk_iload_n C kd_Mo_lookAtDeclaration_394 rfl 1 rfl rfl ?_
  obtain ⟨h2, c1, e⟩ := zd_b e
  refine zs_callV (k := 68) (rn := { frames := 1, cells := 0, slots := 0, locals := 22 }) (As := [.int y0, .int 18, .int x1]) (rest := []) C (zc_Mo_rule h y0 18 x1 c1) ku_Mo_rule kw2260 kv_Mo_rule rfl ⟨by decide, by decide⟩ ⟨by decide, by decide⟩ rfl rfl rfl (Nat.le_of_ble_eq_true rfl) kd_Mo_lookAtDeclaration_395 rfl (c1 := 0) (s1 := 0) rfl rfl (fun v w hp => ?_)
  obtain ⟨rfl, rfl⟩ := hp
  refine zk_stk (r' := []) rfl ?_
  refine zk_lvs (lv' := [(0, .ref (S.1 68)), (1, .int x1), (2, .int x2), (3, .int x3), (4, .int x4), (5, .int x5), (6, .int x6), (7, .int x7)]) [0, 1, 2, 3, 4, 5, 6, 7] rfl ?_
  exact zb_Mo_lookAtDeclaration_398 C hR h2 x1 x2 x3 x4 x5 x6 x7 e
set_option maxHeartbeats 4000000 in
set_option maxRecDepth 100000 in
theorem zb_Mo_lookAtDeclaration_387 {X : zkj_T} {S : zs_T} {P : ze_T} {l : Launch} {D : va_G} {sz0 : Nat} {rh : zs_H} (C : zk_C X km_Mo_lookAtDeclaration (zs_G S l D sz0) { frames := 6, cells := 0, slots := 0, locals := 133 } (ze_E P)) (hR : zkj_R X (zd_PV S rh) (none)) (h : zs_H) (x1 : Int32) (x2 : Int32) (x3 : Int32) (x4 : Int32) (x5 : Int32) (x6 : Int32) (x7 : Int32) (e : f_Mo_lookAtDeclaration_387 h x1 x2 x3 x4 x5 x6 x7 = some rh) : zk_Ab X (zs_W S h) 0 0 387 [(0, .ref (S.1 68)), (1, .int x1), (2, .int x2), (3, .int x3), (4, .int x4), (5, .int x5), (6, .int x6), (7, .int x7)] [.ref (S.1 68)] := by
  unfold f_Mo_lookAtDeclaration_387 at e
  refine zk_iconst (v := 1) C kd_Mo_lookAtDeclaration_387 (by decide) rfl ?_
  refine zk_goto (tgt := 392) C kd_Mo_lookAtDeclaration_388 (by decide) ?_
  refine zk_lvs (lv' := [(0, .ref (S.1 68)), (1, .int x1), (2, .int x2), (3, .int x3), (4, .int x4), (5, .int x5), (6, .int x6), (7, .int x7)]) [0, 1, 2, 3, 4, 5, 6, 7] rfl ?_
  exact zb_Mo_lookAtDeclaration_392 C hR h x1 x2 x3 x4 x5 x6 x7 1 e
set_option maxHeartbeats 4000000 in
set_option maxRecDepth 100000 in
theorem zb_Mo_lookAtDeclaration_391 {X : zkj_T} {S : zs_T} {P : ze_T} {l : Launch} {D : va_G} {sz0 : Nat} {rh : zs_H} (C : zk_C X km_Mo_lookAtDeclaration (zs_G S l D sz0) { frames := 6, cells := 0, slots := 0, locals := 133 } (ze_E P)) (hR : zkj_R X (zd_PV S rh) (none)) (h : zs_H) (x1 : Int32) (x2 : Int32) (x3 : Int32) (x4 : Int32) (x5 : Int32) (x6 : Int32) (x7 : Int32) (e : f_Mo_lookAtDeclaration_391 h x1 x2 x3 x4 x5 x6 x7 = some rh) : zk_Ab X (zs_W S h) 0 0 391 [(0, .ref (S.1 68)), (1, .int x1), (2, .int x2), (3, .int x3), (4, .int x4), (5, .int x5), (6, .int x6), (7, .int x7)] [.ref (S.1 68)] := by
  unfold f_Mo_lookAtDeclaration_391 at e
  refine zk_iconst (v := 0) C kd_Mo_lookAtDeclaration_391 (by decide) rfl ?_
  refine zk_lvs (lv' := [(0, .ref (S.1 68)), (1, .int x1), (2, .int x2), (3, .int x3), (4, .int x4), (5, .int x5), (6, .int x6), (7, .int x7)]) [0, 1, 2, 3, 4, 5, 6, 7] rfl ?_
  exact zb_Mo_lookAtDeclaration_392 C hR h x1 x2 x3 x4 x5 x6 x7 0 e
set_option maxHeartbeats 4000000 in
set_option maxRecDepth 100000 in
theorem zb_Mo_lookAtDeclaration_347 {X : zkj_T} {S : zs_T} {P : ze_T} {l : Launch} {D : va_G} {sz0 : Nat} {rh : zs_H} (C : zk_C X km_Mo_lookAtDeclaration (zs_G S l D sz0) { frames := 6, cells := 0, slots := 0, locals := 133 } (ze_E P)) (hR : zkj_R X (zd_PV S rh) (none)) (h : zs_H) (x1 : Int32) (x2 : Int32) (x3 : Int32) (x4 : Int32) (x5 : Int32) (x6 : Int32) (x7 : Int32) (y0 : Int32) (e : f_Mo_lookAtDeclaration_347 h x1 x2 x3 x4 x5 x6 x7 y0 = some rh) : zk_Ab X (zs_W S h) 0 0 347 [(0, .ref (S.1 68)), (1, .int x1), (2, .int x2), (3, .int x3), (4, .int x4), (5, .int x5), (6, .int x6), (7, .int x7)] [.int y0] := by
  unfold f_Mo_lookAtDeclaration_347 at e
  refine zk_istore (lv' := [(8, _), (0, _), (1, _), (2, _), (3, _), (4, _), (5, _), (6, _), (7, _)]) C kd_Mo_lookAtDeclaration_347 (by decide) rfl rfl ?_
  refine zk_aload_n C kd_Mo_lookAtDeclaration_349 rfl 1 rfl rfl ?_
  refine zk_iload C kd_Mo_lookAtDeclaration_350 0 rfl rfl ?_
  refine zk_if_ne (tgt := 387) C kd_Mo_lookAtDeclaration_352 (by decide) rfl (fun b1 => ?_) (fun b1 => ?_)
  · replace e := zd_neg b1 e
    refine zk_lvs (lv' := [(0, .ref (S.1 68)), (1, .int x1), (2, .int x2), (3, .int x3), (4, .int x4), (5, .int x5), (6, .int x6), (7, .int x7)]) [1, 2, 3, 4, 5, 6, 7, 8] rfl ?_
    exact zb_Mo_lookAtDeclaration_387 C hR h x1 x2 x3 x4 x5 x6 x7 e
  · replace e := zd_pos b1 e
    refine zk_iload C kd_Mo_lookAtDeclaration_355 8 rfl rfl ?_
    refine zk_iconst (v := 1) C kd_Mo_lookAtDeclaration_357 (by decide) rfl ?_
    refine zk_icmp_ne (tgt := 391) C kd_Mo_lookAtDeclaration_358 (by decide) rfl (fun b2 => ?_) (fun b2 => ?_)
    · replace e := zd_neg b2 e
      refine zk_lvs (lv' := [(0, .ref (S.1 68)), (1, .int x1), (2, .int x2), (3, .int x3), (4, .int x4), (5, .int x5), (6, .int x6), (7, .int x7)]) [1, 2, 3, 4, 5, 6, 7, 8] rfl ?_
      exact zb_Mo_lookAtDeclaration_391 C hR h x1 x2 x3 x4 x5 x6 x7 e
    · replace e := zd_pos b2 e
      refine zk_aload_n C kd_Mo_lookAtDeclaration_361 rfl 1 rfl rfl ?_
      refine zs_get (v := .ref (S.1 74)) C 68 17 rfl rfl rfl rfl ki_Mo (by decide) kw1700 kd_Mo_lookAtDeclaration_362 rfl ?_
      refine zk_iload C kd_Mo_lookAtDeclaration_365 6 rfl rfl ?_
      obtain ⟨q3, e⟩ := zd_g e
      refine zs_iald C 74 rfl (zd_vp q3) kd_Mo_lookAtDeclaration_367 rfl ?_
      refine zk_sipush (v := (-32768)) C kd_Mo_lookAtDeclaration_368 (by decide) rfl ?_
      refine zk_icmp_lt (tgt := 387) C kd_Mo_lookAtDeclaration_371 (by decide) rfl (fun b4 => ?_) (fun b4 => ?_)
      · replace e := zd_pos b4 e
        refine zk_lvs (lv' := [(0, .ref (S.1 68)), (1, .int x1), (2, .int x2), (3, .int x3), (4, .int x4), (5, .int x5), (6, .int x6), (7, .int x7)]) [1, 2, 3, 4, 5, 6, 7, 8] rfl ?_
        exact zb_Mo_lookAtDeclaration_387 C hR h x1 x2 x3 x4 x5 x6 x7 e
      · replace e := zd_neg b4 e
        refine zk_aload_n C kd_Mo_lookAtDeclaration_374 rfl 1 rfl rfl ?_
        refine zs_get (v := .ref (S.1 74)) C 68 17 rfl rfl rfl rfl ki_Mo (by decide) kw1700 kd_Mo_lookAtDeclaration_375 rfl ?_
        refine zk_iload C kd_Mo_lookAtDeclaration_378 6 rfl rfl ?_
        refine zs_iald C 74 rfl (zd_vp q3) kd_Mo_lookAtDeclaration_380 rfl ?_
        refine zk_sipush (v := 32767) C kd_Mo_lookAtDeclaration_381 (by decide) rfl ?_
        refine zk_icmp_le (tgt := 391) C kd_Mo_lookAtDeclaration_384 (by decide) rfl (fun b5 => ?_) (fun b5 => ?_)
        · replace e := zd_pos b5 e
          refine zk_lvs (lv' := [(0, .ref (S.1 68)), (1, .int x1), (2, .int x2), (3, .int x3), (4, .int x4), (5, .int x5), (6, .int x6), (7, .int x7)]) [1, 2, 3, 4, 5, 6, 7, 8] rfl ?_
          exact zb_Mo_lookAtDeclaration_391 C hR h x1 x2 x3 x4 x5 x6 x7 e
        · replace e := zd_neg b5 e
          refine zk_lvs (lv' := [(0, .ref (S.1 68)), (1, .int x1), (2, .int x2), (3, .int x3), (4, .int x4), (5, .int x5), (6, .int x6), (7, .int x7)]) [1, 2, 3, 4, 5, 6, 7, 8] rfl ?_
          exact zb_Mo_lookAtDeclaration_387 C hR h x1 x2 x3 x4 x5 x6 x7 e
set_option maxHeartbeats 4000000 in
set_option maxRecDepth 100000 in
theorem zb_Mo_lookAtDeclaration_342 {X : zkj_T} {S : zs_T} {P : ze_T} {l : Launch} {D : va_G} {sz0 : Nat} {rh : zs_H} (C : zk_C X km_Mo_lookAtDeclaration (zs_G S l D sz0) { frames := 6, cells := 0, slots := 0, locals := 133 } (ze_E P)) (hR : zkj_R X (zd_PV S rh) (none)) (h : zs_H) (x1 : Int32) (x2 : Int32) (x3 : Int32) (x4 : Int32) (x5 : Int32) (x6 : Int32) (x7 : Int32) (e : f_Mo_lookAtDeclaration_342 h x1 x2 x3 x4 x5 x6 x7 = some rh) : zk_Ab X (zs_W S h) 0 0 342 [(0, .ref (S.1 68)), (1, .int x1), (2, .int x2), (3, .int x3), (4, .int x4), (5, .int x5), (6, .int x6), (7, .int x7)] [] := by
  unfold f_Mo_lookAtDeclaration_342 at e
  refine zk_iconst (v := 1) C kd_Mo_lookAtDeclaration_342 (by decide) rfl ?_
  refine zk_goto (tgt := 347) C kd_Mo_lookAtDeclaration_343 (by decide) ?_
  refine zk_lvs (lv' := [(0, .ref (S.1 68)), (1, .int x1), (2, .int x2), (3, .int x3), (4, .int x4), (5, .int x5), (6, .int x6), (7, .int x7)]) [0, 1, 2, 3, 4, 5, 6, 7] rfl ?_
  exact zb_Mo_lookAtDeclaration_347 C hR h x1 x2 x3 x4 x5 x6 x7 1 e
set_option maxHeartbeats 4000000 in
set_option maxRecDepth 100000 in
theorem zb_Mo_lookAtDeclaration_339 {X : zkj_T} {S : zs_T} {P : ze_T} {l : Launch} {D : va_G} {sz0 : Nat} {rh : zs_H} (C : zk_C X km_Mo_lookAtDeclaration (zs_G S l D sz0) { frames := 6, cells := 0, slots := 0, locals := 133 } (ze_E P)) (hR : zkj_R X (zd_PV S rh) (none)) (h : zs_H) (x1 : Int32) (x2 : Int32) (x3 : Int32) (x4 : Int32) (x5 : Int32) (x6 : Int32) (x7 : Int32) (y0 : Int32) (y1 : Int32) (e : f_Mo_lookAtDeclaration_339 h x1 x2 x3 x4 x5 x6 x7 y0 y1 = some rh) : zk_Ab X (zs_W S h) 0 0 339 [(0, .ref (S.1 68)), (1, .int x1), (2, .int x2), (3, .int x3), (4, .int x4), (5, .int x5), (6, .int x6), (7, .int x7)] [.int y0, .int y1] := by
  unfold f_Mo_lookAtDeclaration_339 at e
  refine zk_icmp_eq (tgt := 346) C kd_Mo_lookAtDeclaration_339 (by decide) rfl (fun b1 => ?_) (fun b1 => ?_)
  · replace e := zd_pos b1 e
    refine zk_iconst (v := 0) C kd_Mo_lookAtDeclaration_346 (by decide) rfl ?_
    refine zk_lvs (lv' := [(0, .ref (S.1 68)), (1, .int x1), (2, .int x2), (3, .int x3), (4, .int x4), (5, .int x5), (6, .int x6), (7, .int x7)]) [0, 1, 2, 3, 4, 5, 6, 7] rfl ?_
    exact zb_Mo_lookAtDeclaration_347 C hR h x1 x2 x3 x4 x5 x6 x7 0 e
  · replace e := zd_neg b1 e
    refine zk_lvs (lv' := [(0, .ref (S.1 68)), (1, .int x1), (2, .int x2), (3, .int x3), (4, .int x4), (5, .int x5), (6, .int x6), (7, .int x7)]) [0, 1, 2, 3, 4, 5, 6, 7] rfl ?_
    exact zb_Mo_lookAtDeclaration_342 C hR h x1 x2 x3 x4 x5 x6 x7 e
set_option maxHeartbeats 4000000 in
set_option maxRecDepth 100000 in
theorem zb_Mo_lookAtDeclaration_329 {X : zkj_T} {S : zs_T} {P : ze_T} {l : Launch} {D : va_G} {sz0 : Nat} {rh : zs_H} (C : zk_C X km_Mo_lookAtDeclaration (zs_G S l D sz0) { frames := 6, cells := 0, slots := 0, locals := 133 } (ze_E P)) (hR : zkj_R X (zd_PV S rh) (none)) (h : zs_H) (x1 : Int32) (x2 : Int32) (x3 : Int32) (x4 : Int32) (x5 : Int32) (x6 : Int32) (x7 : Int32) (y0 : Int32) (e : f_Mo_lookAtDeclaration_329 h x1 x2 x3 x4 x5 x6 x7 y0 = some rh) : zk_Ab X (zs_W S h) 0 0 329 [(0, .ref (S.1 68)), (1, .int x1), (2, .int x2), (3, .int x3), (4, .int x4), (5, .int x5), (6, .int x6), (7, .int x7)] [.int y0] := by
  unfold f_Mo_lookAtDeclaration_329 at e
  refine zk_iload C kd_Mo_lookAtDeclaration_329 7 rfl rfl ?_
  refine zk_if_ne (tgt := 338) C kd_Mo_lookAtDeclaration_331 (by decide) rfl (fun b1 => ?_) (fun b1 => ?_)
  · replace e := zd_neg b1 e
    refine zk_iconst (v := 0) C kd_Mo_lookAtDeclaration_338 (by decide) rfl ?_
    refine zk_lvs (lv' := [(0, .ref (S.1 68)), (1, .int x1), (2, .int x2), (3, .int x3), (4, .int x4), (5, .int x5), (6, .int x6), (7, .int x7)]) [0, 1, 2, 3, 4, 5, 6, 7] rfl ?_
    exact zb_Mo_lookAtDeclaration_339 C hR h x1 x2 x3 x4 x5 x6 x7 0 y0 e
  · replace e := zd_pos b1 e
    refine zk_iconst (v := 1) C kd_Mo_lookAtDeclaration_334 (by decide) rfl ?_
    refine zk_goto (tgt := 339) C kd_Mo_lookAtDeclaration_335 (by decide) ?_
    refine zk_lvs (lv' := [(0, .ref (S.1 68)), (1, .int x1), (2, .int x2), (3, .int x3), (4, .int x4), (5, .int x5), (6, .int x6), (7, .int x7)]) [0, 1, 2, 3, 4, 5, 6, 7] rfl ?_
    exact zb_Mo_lookAtDeclaration_339 C hR h x1 x2 x3 x4 x5 x6 x7 1 y0 e
set_option maxHeartbeats 4000000 in
set_option maxRecDepth 100000 in
theorem zb_Mo_lookAtDeclaration_305 {X : zkj_T} {S : zs_T} {P : ze_T} {l : Launch} {D : va_G} {sz0 : Nat} {rh : zs_H} (C : zk_C X km_Mo_lookAtDeclaration (zs_G S l D sz0) { frames := 6, cells := 0, slots := 0, locals := 133 } (ze_E P)) (hR : zkj_R X (zd_PV S rh) (none)) (h : zs_H) (x1 : Int32) (x2 : Int32) (x3 : Int32) (x4 : Int32) (x5 : Int32) (x6 : Int32) (x7 : Int32) (y0 : Int32) (e : f_Mo_lookAtDeclaration_305 h x1 x2 x3 x4 x5 x6 x7 y0 = some rh) : zk_Ab X (zs_W S h) 0 0 305 [(0, .ref (S.1 68)), (1, .int x1), (2, .int x2), (3, .int x3), (4, .int x4), (5, .int x5), (6, .int x6), (7, .int x7)] [.int y0] := by
  unfold f_Mo_lookAtDeclaration_305 at e
  refine zk_istore (lv' := [(8, _), (0, _), (1, _), (2, _), (3, _), (4, _), (5, _), (6, _), (7, _)]) C kd_Mo_lookAtDeclaration_305 (by decide) rfl rfl ?_
  refine zk_iload C kd_Mo_lookAtDeclaration_307 0 rfl rfl ?_
  refine zk_if_ne (tgt := 342) C kd_Mo_lookAtDeclaration_309 (by decide) rfl (fun b1 => ?_) (fun b1 => ?_)
  · replace e := zd_neg b1 e
    refine zk_lvs (lv' := [(0, .ref (S.1 68)), (1, .int x1), (2, .int x2), (3, .int x3), (4, .int x4), (5, .int x5), (6, .int x6), (7, .int x7)]) [1, 2, 3, 4, 5, 6, 7, 8] rfl ?_
    exact zb_Mo_lookAtDeclaration_342 C hR h x1 x2 x3 x4 x5 x6 x7 e
  · replace e := zd_pos b1 e
    refine zk_aload_n C kd_Mo_lookAtDeclaration_312 rfl 1 rfl rfl ?_
    refine zs_get (v := .ref (S.1 72)) C 68 15 rfl rfl rfl rfl ki_Mo (by decide) kw1698 kd_Mo_lookAtDeclaration_313 rfl ?_
    refine zk_iload C kd_Mo_lookAtDeclaration_316 6 rfl rfl ?_
    obtain ⟨q2, e⟩ := zd_g e
    refine zs_iald C 72 rfl (zd_vp q2) kd_Mo_lookAtDeclaration_318 rfl ?_
    refine zk_bipush (v := 31) C kd_Mo_lookAtDeclaration_319 (by decide) rfl ?_
    refine zk_icmp_ne (tgt := 328) C kd_Mo_lookAtDeclaration_321 (by decide) rfl (fun b3 => ?_) (fun b3 => ?_)
    · replace e := zd_neg b3 e
      refine zk_iconst (v := 0) C kd_Mo_lookAtDeclaration_328 (by decide) rfl ?_
      refine zk_lvs (lv' := [(0, .ref (S.1 68)), (1, .int x1), (2, .int x2), (3, .int x3), (4, .int x4), (5, .int x5), (6, .int x6), (7, .int x7)]) [1, 2, 3, 4, 5, 6, 7, 8] rfl ?_
      exact zb_Mo_lookAtDeclaration_329 C hR h x1 x2 x3 x4 x5 x6 x7 0 e
    · replace e := zd_pos b3 e
      refine zk_iconst (v := 1) C kd_Mo_lookAtDeclaration_324 (by decide) rfl ?_
      refine zk_goto (tgt := 329) C kd_Mo_lookAtDeclaration_325 (by decide) ?_
      refine zk_lvs (lv' := [(0, .ref (S.1 68)), (1, .int x1), (2, .int x2), (3, .int x3), (4, .int x4), (5, .int x5), (6, .int x6), (7, .int x7)]) [1, 2, 3, 4, 5, 6, 7, 8] rfl ?_
      exact zb_Mo_lookAtDeclaration_329 C hR h x1 x2 x3 x4 x5 x6 x7 1 e
set_option maxHeartbeats 4000000 in
set_option maxRecDepth 100000 in
theorem zb_Mo_lookAtDeclaration_300 {X : zkj_T} {S : zs_T} {P : ze_T} {l : Launch} {D : va_G} {sz0 : Nat} {rh : zs_H} (C : zk_C X km_Mo_lookAtDeclaration (zs_G S l D sz0) { frames := 6, cells := 0, slots := 0, locals := 133 } (ze_E P)) (hR : zkj_R X (zd_PV S rh) (none)) (h : zs_H) (x1 : Int32) (x2 : Int32) (x3 : Int32) (x4 : Int32) (x5 : Int32) (x6 : Int32) (x7 : Int32) (e : f_Mo_lookAtDeclaration_300 h x1 x2 x3 x4 x5 x6 x7 = some rh) : zk_Ab X (zs_W S h) 0 0 300 [(0, .ref (S.1 68)), (1, .int x1), (2, .int x2), (3, .int x3), (4, .int x4), (5, .int x5), (6, .int x6), (7, .int x7)] [] := by
  unfold f_Mo_lookAtDeclaration_300 at e
  refine zk_iconst (v := 1) C kd_Mo_lookAtDeclaration_300 (by decide) rfl ?_
  refine zk_goto (tgt := 305) C kd_Mo_lookAtDeclaration_301 (by decide) ?_
  refine zk_lvs (lv' := [(0, .ref (S.1 68)), (1, .int x1), (2, .int x2), (3, .int x3), (4, .int x4), (5, .int x5), (6, .int x6), (7, .int x7)]) [0, 1, 2, 3, 4, 5, 6, 7] rfl ?_
  exact zb_Mo_lookAtDeclaration_305 C hR h x1 x2 x3 x4 x5 x6 x7 1 e
set_option maxHeartbeats 4000000 in
set_option maxRecDepth 100000 in
theorem zb_Mo_lookAtDeclaration_304 {X : zkj_T} {S : zs_T} {P : ze_T} {l : Launch} {D : va_G} {sz0 : Nat} {rh : zs_H} (C : zk_C X km_Mo_lookAtDeclaration (zs_G S l D sz0) { frames := 6, cells := 0, slots := 0, locals := 133 } (ze_E P)) (hR : zkj_R X (zd_PV S rh) (none)) (h : zs_H) (x1 : Int32) (x2 : Int32) (x3 : Int32) (x4 : Int32) (x5 : Int32) (x6 : Int32) (x7 : Int32) (e : f_Mo_lookAtDeclaration_304 h x1 x2 x3 x4 x5 x6 x7 = some rh) : zk_Ab X (zs_W S h) 0 0 304 [(0, .ref (S.1 68)), (1, .int x1), (2, .int x2), (3, .int x3), (4, .int x4), (5, .int x5), (6, .int x6), (7, .int x7)] [] := by
  unfold f_Mo_lookAtDeclaration_304 at e
  refine zk_iconst (v := 0) C kd_Mo_lookAtDeclaration_304 (by decide) rfl ?_
  refine zk_lvs (lv' := [(0, .ref (S.1 68)), (1, .int x1), (2, .int x2), (3, .int x3), (4, .int x4), (5, .int x5), (6, .int x6), (7, .int x7)]) [0, 1, 2, 3, 4, 5, 6, 7] rfl ?_
  exact zb_Mo_lookAtDeclaration_305 C hR h x1 x2 x3 x4 x5 x6 x7 0 e
set_option maxHeartbeats 4000000 in
set_option maxRecDepth 100000 in
theorem zb_Mo_lookAtDeclaration_266 {X : zkj_T} {S : zs_T} {P : ze_T} {l : Launch} {D : va_G} {sz0 : Nat} {rh : zs_H} (C : zk_C X km_Mo_lookAtDeclaration (zs_G S l D sz0) { frames := 6, cells := 0, slots := 0, locals := 133 } (ze_E P)) (hR : zkj_R X (zd_PV S rh) (none)) (h : zs_H) (x1 : Int32) (x2 : Int32) (x3 : Int32) (x4 : Int32) (x5 : Int32) (x6 : Int32) (y0 : Int32) (e : f_Mo_lookAtDeclaration_266 h x1 x2 x3 x4 x5 x6 y0 = some rh) : zk_Ab X (zs_W S h) 0 0 266 [(0, .ref (S.1 68)), (1, .int x1), (2, .int x2), (3, .int x3), (4, .int x4), (5, .int x5), (6, .int x6)] [.int y0] := by
  unfold f_Mo_lookAtDeclaration_266 at e
  refine zk_istore (lv' := [(7, _), (0, _), (1, _), (2, _), (3, _), (4, _), (5, _), (6, _)]) C kd_Mo_lookAtDeclaration_266 (by decide) rfl rfl ?_
  refine zk_iload C kd_Mo_lookAtDeclaration_268 6 rfl rfl ?_
  refine zk_if_lt (tgt := 398) C kd_Mo_lookAtDeclaration_270 (by decide) rfl (fun b1 => ?_) (fun b1 => ?_)
  · replace e := zd_pos b1 e
    refine zk_lvs (lv' := [(0, .ref (S.1 68)), (1, .int x1), (2, .int x2), (3, .int x3), (4, .int x4), (5, .int x5), (6, .int x6), (7, .int y0)]) [1, 2, 3, 4, 5, 6, 7, 0] rfl ?_
    exact zb_Mo_lookAtDeclaration_398 C hR h x1 x2 x3 x4 x5 x6 y0 e
  · replace e := zd_neg b1 e
    refine zk_iload C kd_Mo_lookAtDeclaration_273 7 rfl rfl ?_
    refine zk_iconst (v := 2) C kd_Mo_lookAtDeclaration_275 (by decide) rfl ?_
    refine zk_icmp_eq (tgt := 300) C kd_Mo_lookAtDeclaration_276 (by decide) rfl (fun b2 => ?_) (fun b2 => ?_)
    · replace e := zd_pos b2 e
      refine zk_lvs (lv' := [(0, .ref (S.1 68)), (1, .int x1), (2, .int x2), (3, .int x3), (4, .int x4), (5, .int x5), (6, .int x6), (7, .int y0)]) [1, 2, 3, 4, 5, 6, 7, 0] rfl ?_
      exact zb_Mo_lookAtDeclaration_300 C hR h x1 x2 x3 x4 x5 x6 y0 e
    · replace e := zd_neg b2 e
      refine zk_iload_n C kd_Mo_lookAtDeclaration_279 rfl 4 rfl rfl ?_
      refine zk_if_lt (tgt := 304) C kd_Mo_lookAtDeclaration_280 (by decide) rfl (fun b3 => ?_) (fun b3 => ?_)
      · replace e := zd_pos b3 e
        refine zk_lvs (lv' := [(0, .ref (S.1 68)), (1, .int x1), (2, .int x2), (3, .int x3), (4, .int x4), (5, .int x5), (6, .int x6), (7, .int y0)]) [1, 2, 3, 4, 5, 6, 7, 0] rfl ?_
        exact zb_Mo_lookAtDeclaration_304 C hR h x1 x2 x3 x4 x5 x6 y0 e
      · replace e := zd_neg b3 e
        refine zk_iload_n C kd_Mo_lookAtDeclaration_283 rfl 4 rfl rfl ?_
        refine zk_sipush (v := 256) C kd_Mo_lookAtDeclaration_284 (by decide) rfl ?_
        refine zk_idiv C kd_Mo_lookAtDeclaration_287 (by decide) rfl ?_
        refine zk_if_eq (tgt := 300) C kd_Mo_lookAtDeclaration_288 (by decide) rfl (fun b4 => ?_) (fun b4 => ?_)
        · replace e := zd_pos b4 e
          refine zk_lvs (lv' := [(0, .ref (S.1 68)), (1, .int x1), (2, .int x2), (3, .int x3), (4, .int x4), (5, .int x5), (6, .int x6), (7, .int y0)]) [1, 2, 3, 4, 5, 6, 7, 0] rfl ?_
          exact zb_Mo_lookAtDeclaration_300 C hR h x1 x2 x3 x4 x5 x6 y0 e
        · replace e := zd_neg b4 e
          refine zk_iload_n C kd_Mo_lookAtDeclaration_291 rfl 4 rfl rfl ?_
          refine zk_sipush (v := 256) C kd_Mo_lookAtDeclaration_292 (by decide) rfl ?_
          refine zk_idiv C kd_Mo_lookAtDeclaration_295 (by decide) rfl ?_
          refine zk_iconst (v := 3) C kd_Mo_lookAtDeclaration_296 (by decide) rfl ?_
          refine zk_icmp_ne (tgt := 304) C kd_Mo_lookAtDeclaration_297 (by decide) rfl (fun b5 => ?_) (fun b5 => ?_)
          · replace e := zd_neg b5 e
            refine zk_lvs (lv' := [(0, .ref (S.1 68)), (1, .int x1), (2, .int x2), (3, .int x3), (4, .int x4), (5, .int x5), (6, .int x6), (7, .int y0)]) [1, 2, 3, 4, 5, 6, 7, 0] rfl ?_
            exact zb_Mo_lookAtDeclaration_304 C hR h x1 x2 x3 x4 x5 x6 y0 e
          · replace e := zd_pos b5 e
            refine zk_lvs (lv' := [(0, .ref (S.1 68)), (1, .int x1), (2, .int x2), (3, .int x3), (4, .int x4), (5, .int x5), (6, .int x6), (7, .int y0)]) [1, 2, 3, 4, 5, 6, 7, 0] rfl ?_
            exact zb_Mo_lookAtDeclaration_300 C hR h x1 x2 x3 x4 x5 x6 y0 e
set_option maxHeartbeats 4000000 in
set_option maxRecDepth 100000 in
theorem zb_Mo_lookAtDeclaration_213 {X : zkj_T} {S : zs_T} {P : ze_T} {l : Launch} {D : va_G} {sz0 : Nat} {rh : zs_H} (C : zk_C X km_Mo_lookAtDeclaration (zs_G S l D sz0) { frames := 6, cells := 0, slots := 0, locals := 133 } (ze_E P)) (hR : zkj_R X (zd_PV S rh) (none)) (h : zs_H) (x1 : Int32) (x2 : Int32) (x3 : Int32) (x4 : Int32) (x5 : Int32) (x6 : Int32) (y0 : Int32) (e : f_Mo_lookAtDeclaration_213 h x1 x2 x3 x4 x5 x6 y0 = some rh) : zk_Ab X (zs_W S h) 0 0 213 [(0, .ref (S.1 68)), (1, .int x1), (2, .int x2), (3, .int x3), (4, .int x4), (5, .int x5), (6, .int x6)] [.int y0, .ref (S.1 68)] := by
  unfold f_Mo_lookAtDeclaration_213 at e
  refine zk_bipush (v := 15) C kd_Mo_lookAtDeclaration_213 (by decide) rfl ?_
  refine zk_iload_n C kd_Mo_lookAtDeclaration_215 rfl 1 rfl rfl ?_
  obtain ⟨h2, c1, e⟩ := zd_b e
  refine zs_callV (k := 68) (rn := { frames := 1, cells := 0, slots := 0, locals := 22 }) (As := [.int y0, .int 15, .int x1]) (rest := []) C (zc_Mo_rule h y0 15 x1 c1) ku_Mo_rule kw2260 kv_Mo_rule rfl ⟨by decide, by decide⟩ ⟨by decide, by decide⟩ rfl rfl rfl (Nat.le_of_ble_eq_true rfl) kd_Mo_lookAtDeclaration_216 rfl (c1 := 0) (s1 := 0) rfl rfl (fun v w hp => ?_)
  obtain ⟨rfl, rfl⟩ := hp
  refine zk_stk (r' := []) rfl ?_
  refine zk_iload C kd_Mo_lookAtDeclaration_219 6 rfl rfl ?_
  refine zk_if_ne (tgt := 234) C kd_Mo_lookAtDeclaration_221 (by decide) rfl (fun b3 => ?_) (fun b3 => ?_)
  · replace e := zd_neg b3 e
    refine zk_iload C kd_Mo_lookAtDeclaration_234 6 rfl rfl ?_
    refine zk_iconst (v := 1) C kd_Mo_lookAtDeclaration_236 (by decide) rfl ?_
    refine zk_icmp_ne (tgt := 255) C kd_Mo_lookAtDeclaration_237 (by decide) rfl (fun b4 => ?_) (fun b4 => ?_)
    · replace e := zd_neg b4 e
      refine zk_aload_n C kd_Mo_lookAtDeclaration_255 rfl 0 rfl rfl ?_
      refine zk_aload_n C kd_Mo_lookAtDeclaration_256 rfl 0 rfl rfl ?_
      refine zs_get (v := .ref (S.1 74)) C 68 17 rfl rfl rfl rfl ki_Mo (by decide) kw1700 kd_Mo_lookAtDeclaration_257 rfl ?_
      refine zk_iload C kd_Mo_lookAtDeclaration_260 4 rfl rfl ?_
      obtain ⟨q5, e⟩ := zd_g e
      refine zs_iald C 74 rfl (zd_vp q5) kd_Mo_lookAtDeclaration_262 rfl ?_
      obtain ⟨v7, c6, e⟩ := zd_b e
      refine zs_callV (k := 68) (rn := { frames := 5, cells := 0, slots := 0, locals := 111 }) (As := [.int (h2.2.1 74 x4.toNatClampNeg)]) (rest := []) C (zc_Mo_blockOf h2 (h2.2.1 74 x4.toNatClampNeg) c6) ku_Mo_blockOf kw2314 kv_Mo_blockOf rfl ⟨by decide, by decide⟩ ⟨by decide, by decide⟩ rfl rfl rfl (Nat.le_of_ble_eq_true rfl) kd_Mo_lookAtDeclaration_263 rfl (c1 := 0) (s1 := 0) rfl rfl (fun v w hp => ?_)
      obtain ⟨rfl, rfl⟩ := hp
      refine zk_stk (r' := [.int v7]) rfl ?_
      refine zk_lvs (lv' := [(0, .ref (S.1 68)), (1, .int x1), (2, .int x2), (3, .int x3), (4, .int x4), (5, .int x5), (6, .int x6)]) [0, 1, 2, 3, 4, 5, 6] rfl ?_
      exact zb_Mo_lookAtDeclaration_266 C hR h2 x1 x2 x3 x4 x5 x6 v7 e
    · replace e := zd_pos b4 e
      refine zk_aload_n C kd_Mo_lookAtDeclaration_240 rfl 0 rfl rfl ?_
      refine zs_get (v := .ref (S.1 74)) C 68 17 rfl rfl rfl rfl ki_Mo (by decide) kw1700 kd_Mo_lookAtDeclaration_241 rfl ?_
      refine zk_aload_n C kd_Mo_lookAtDeclaration_244 rfl 0 rfl rfl ?_
      refine zs_get (v := .ref (S.1 77)) C 68 20 rfl rfl rfl rfl ki_Mo (by decide) kw1703 kd_Mo_lookAtDeclaration_245 rfl ?_
      refine zk_iload C kd_Mo_lookAtDeclaration_248 4 rfl rfl ?_
      obtain ⟨q8, e⟩ := zd_g e
      refine zs_iald C 77 rfl (zd_vp q8) kd_Mo_lookAtDeclaration_250 rfl ?_
      obtain ⟨q9, e⟩ := zd_g e
      refine zs_iald C 74 rfl (zd_vp q9) kd_Mo_lookAtDeclaration_251 rfl ?_
      refine zk_goto (tgt := 266) C kd_Mo_lookAtDeclaration_252 (by decide) ?_
      refine zk_lvs (lv' := [(0, .ref (S.1 68)), (1, .int x1), (2, .int x2), (3, .int x3), (4, .int x4), (5, .int x5), (6, .int x6)]) [0, 1, 2, 3, 4, 5, 6] rfl ?_
      exact zb_Mo_lookAtDeclaration_266 C hR h2 x1 x2 x3 x4 x5 x6 (h2.2.1 74 (h2.2.1 77 x4.toNatClampNeg).toNatClampNeg) e
  · replace e := zd_pos b3 e
    refine zk_aload_n C kd_Mo_lookAtDeclaration_224 rfl 0 rfl rfl ?_
    refine zs_get (v := .ref (S.1 74)) C 68 17 rfl rfl rfl rfl ki_Mo (by decide) kw1700 kd_Mo_lookAtDeclaration_225 rfl ?_
    refine zk_iload C kd_Mo_lookAtDeclaration_228 4 rfl rfl ?_
    obtain ⟨q10, e⟩ := zd_g e
    refine zs_iald C 74 rfl (zd_vp q10) kd_Mo_lookAtDeclaration_230 rfl ?_
    refine zk_goto (tgt := 266) C kd_Mo_lookAtDeclaration_231 (by decide) ?_
    refine zk_lvs (lv' := [(0, .ref (S.1 68)), (1, .int x1), (2, .int x2), (3, .int x3), (4, .int x4), (5, .int x5), (6, .int x6)]) [0, 1, 2, 3, 4, 5, 6] rfl ?_
    exact zb_Mo_lookAtDeclaration_266 C hR h2 x1 x2 x3 x4 x5 x6 (h2.2.1 74 x4.toNatClampNeg) e
set_option maxHeartbeats 4000000 in
set_option maxRecDepth 100000 in
theorem zb_Mo_lookAtDeclaration_208 {X : zkj_T} {S : zs_T} {P : ze_T} {l : Launch} {D : va_G} {sz0 : Nat} {rh : zs_H} (C : zk_C X km_Mo_lookAtDeclaration (zs_G S l D sz0) { frames := 6, cells := 0, slots := 0, locals := 133 } (ze_E P)) (hR : zkj_R X (zd_PV S rh) (none)) (h : zs_H) (x1 : Int32) (x2 : Int32) (x3 : Int32) (x4 : Int32) (x5 : Int32) (x6 : Int32) (e : f_Mo_lookAtDeclaration_208 h x1 x2 x3 x4 x5 x6 = some rh) : zk_Ab X (zs_W S h) 0 0 208 [(0, .ref (S.1 68)), (1, .int x1), (2, .int x2), (3, .int x3), (4, .int x4), (5, .int x5), (6, .int x6)] [.ref (S.1 68)] := by
  unfold f_Mo_lookAtDeclaration_208 at e
  refine zk_iconst (v := 1) C kd_Mo_lookAtDeclaration_208 (by decide) rfl ?_
  refine zk_goto (tgt := 213) C kd_Mo_lookAtDeclaration_209 (by decide) ?_
  refine zk_lvs (lv' := [(0, .ref (S.1 68)), (1, .int x1), (2, .int x2), (3, .int x3), (4, .int x4), (5, .int x5), (6, .int x6)]) [0, 1, 2, 3, 4, 5, 6] rfl ?_
  exact zb_Mo_lookAtDeclaration_213 C hR h x1 x2 x3 x4 x5 x6 1 e
set_option maxHeartbeats 4000000 in
set_option maxRecDepth 100000 in
theorem zb_Mo_lookAtDeclaration_212 {X : zkj_T} {S : zs_T} {P : ze_T} {l : Launch} {D : va_G} {sz0 : Nat} {rh : zs_H} (C : zk_C X km_Mo_lookAtDeclaration (zs_G S l D sz0) { frames := 6, cells := 0, slots := 0, locals := 133 } (ze_E P)) (hR : zkj_R X (zd_PV S rh) (none)) (h : zs_H) (x1 : Int32) (x2 : Int32) (x3 : Int32) (x4 : Int32) (x5 : Int32) (x6 : Int32) (e : f_Mo_lookAtDeclaration_212 h x1 x2 x3 x4 x5 x6 = some rh) : zk_Ab X (zs_W S h) 0 0 212 [(0, .ref (S.1 68)), (1, .int x1), (2, .int x2), (3, .int x3), (4, .int x4), (5, .int x5), (6, .int x6)] [.ref (S.1 68)] := by
  unfold f_Mo_lookAtDeclaration_212 at e
  refine zk_iconst (v := 0) C kd_Mo_lookAtDeclaration_212 (by decide) rfl ?_
  refine zk_lvs (lv' := [(0, .ref (S.1 68)), (1, .int x1), (2, .int x2), (3, .int x3), (4, .int x4), (5, .int x5), (6, .int x6)]) [0, 1, 2, 3, 4, 5, 6] rfl ?_
  exact zb_Mo_lookAtDeclaration_213 C hR h x1 x2 x3 x4 x5 x6 0 e
set_option maxHeartbeats 4000000 in
set_option maxRecDepth 100000 in
theorem zb_Mo_lookAtDeclaration_205 {X : zkj_T} {S : zs_T} {P : ze_T} {l : Launch} {D : va_G} {sz0 : Nat} {rh : zs_H} (C : zk_C X km_Mo_lookAtDeclaration (zs_G S l D sz0) { frames := 6, cells := 0, slots := 0, locals := 133 } (ze_E P)) (hR : zkj_R X (zd_PV S rh) (none)) (h : zs_H) (x1 : Int32) (x2 : Int32) (x3 : Int32) (x4 : Int32) (x5 : Int32) (x6 : Int32) (y0 : Int32) (y1 : Int32) (e : f_Mo_lookAtDeclaration_205 h x1 x2 x3 x4 x5 x6 y0 y1 = some rh) : zk_Ab X (zs_W S h) 0 0 205 [(0, .ref (S.1 68)), (1, .int x1), (2, .int x2), (3, .int x3), (4, .int x4), (5, .int x5), (6, .int x6)] [.int y0, .int y1, .ref (S.1 68)] := by
  unfold f_Mo_lookAtDeclaration_205 at e
  refine zk_icmp_eq (tgt := 212) C kd_Mo_lookAtDeclaration_205 (by decide) rfl (fun b1 => ?_) (fun b1 => ?_)
  · replace e := zd_pos b1 e
    refine zk_lvs (lv' := [(0, .ref (S.1 68)), (1, .int x1), (2, .int x2), (3, .int x3), (4, .int x4), (5, .int x5), (6, .int x6)]) [0, 1, 2, 3, 4, 5, 6] rfl ?_
    exact zb_Mo_lookAtDeclaration_212 C hR h x1 x2 x3 x4 x5 x6 e
  · replace e := zd_neg b1 e
    refine zk_lvs (lv' := [(0, .ref (S.1 68)), (1, .int x1), (2, .int x2), (3, .int x3), (4, .int x4), (5, .int x5), (6, .int x6)]) [0, 1, 2, 3, 4, 5, 6] rfl ?_
    exact zb_Mo_lookAtDeclaration_208 C hR h x1 x2 x3 x4 x5 x6 e
set_option maxHeartbeats 4000000 in
set_option maxRecDepth 100000 in
theorem zb_Mo_lookAtDeclaration_170 {X : zkj_T} {S : zs_T} {P : ze_T} {l : Launch} {D : va_G} {sz0 : Nat} {rh : zs_H} (C : zk_C X km_Mo_lookAtDeclaration (zs_G S l D sz0) { frames := 6, cells := 0, slots := 0, locals := 133 } (ze_E P)) (hR : zkj_R X (zd_PV S rh) (none)) (h : zs_H) (x1 : Int32) (x2 : Int32) (x3 : Int32) (x4 : Int32) (x5 : Int32) (x6 : Int32) (y0 : Int32) (e : f_Mo_lookAtDeclaration_170 h x1 x2 x3 x4 x5 x6 y0 = some rh) : zk_Ab X (zs_W S h) 0 0 170 [(0, .ref (S.1 68)), (1, .int x1), (2, .int x2), (3, .int x3), (4, .int x4), (5, .int x5), (6, .int x6)] [.int y0, .ref (S.1 68)] := by
  unfold f_Mo_lookAtDeclaration_170 at e
  refine zk_bipush (v := 43) C kd_Mo_lookAtDeclaration_170 (by decide) rfl ?_
  refine zk_iload_n C kd_Mo_lookAtDeclaration_172 rfl 1 rfl rfl ?_
  obtain ⟨h2, c1, e⟩ := zd_b e
  refine zs_callV (k := 68) (rn := { frames := 1, cells := 0, slots := 0, locals := 22 }) (As := [.int y0, .int 43, .int x1]) (rest := []) C (zc_Mo_rule h y0 43 x1 c1) ku_Mo_rule kw2260 kv_Mo_rule rfl ⟨by decide, by decide⟩ ⟨by decide, by decide⟩ rfl rfl rfl (Nat.le_of_ble_eq_true rfl) kd_Mo_lookAtDeclaration_173 rfl (c1 := 0) (s1 := 0) rfl rfl (fun v w hp => ?_)
  obtain ⟨rfl, rfl⟩ := hp
  refine zk_stk (r' := []) rfl ?_
  refine zk_aload_n C kd_Mo_lookAtDeclaration_176 rfl 0 rfl rfl ?_
  refine zk_iload_n C kd_Mo_lookAtDeclaration_177 rfl 3 rfl rfl ?_
  refine zk_if_lt (tgt := 212) C kd_Mo_lookAtDeclaration_178 (by decide) rfl (fun b3 => ?_) (fun b3 => ?_)
  · replace e := zd_pos b3 e
    refine zk_lvs (lv' := [(0, .ref (S.1 68)), (1, .int x1), (2, .int x2), (3, .int x3), (4, .int x4), (5, .int x5), (6, .int x6)]) [0, 1, 2, 3, 4, 5, 6] rfl ?_
    exact zb_Mo_lookAtDeclaration_212 C hR h2 x1 x2 x3 x4 x5 x6 e
  · replace e := zd_neg b3 e
    refine zk_iload C kd_Mo_lookAtDeclaration_181 6 rfl rfl ?_
    refine zk_if_ne (tgt := 208) C kd_Mo_lookAtDeclaration_183 (by decide) rfl (fun b4 => ?_) (fun b4 => ?_)
    · replace e := zd_neg b4 e
      refine zk_lvs (lv' := [(0, .ref (S.1 68)), (1, .int x1), (2, .int x2), (3, .int x3), (4, .int x4), (5, .int x5), (6, .int x6)]) [0, 1, 2, 3, 4, 5, 6] rfl ?_
      exact zb_Mo_lookAtDeclaration_208 C hR h2 x1 x2 x3 x4 x5 x6 e
    · replace e := zd_pos b4 e
      refine zk_aload_n C kd_Mo_lookAtDeclaration_186 rfl 0 rfl rfl ?_
      refine zs_get (v := .ref (S.1 74)) C 68 17 rfl rfl rfl rfl ki_Mo (by decide) kw1700 kd_Mo_lookAtDeclaration_187 rfl ?_
      refine zk_iload C kd_Mo_lookAtDeclaration_190 4 rfl rfl ?_
      obtain ⟨q5, e⟩ := zd_g e
      refine zs_iald C 74 rfl (zd_vp q5) kd_Mo_lookAtDeclaration_192 rfl ?_
      refine zk_iload_n C kd_Mo_lookAtDeclaration_193 rfl 3 rfl rfl ?_
      refine zk_sipush (v := 768) C kd_Mo_lookAtDeclaration_194 (by decide) rfl ?_
      refine zk_icmp_ge (tgt := 204) C kd_Mo_lookAtDeclaration_197 (by decide) rfl (fun b6 => ?_) (fun b6 => ?_)
      · replace e := zd_pos b6 e
        refine zk_iconst (v := 1) C kd_Mo_lookAtDeclaration_204 (by decide) rfl ?_
        refine zk_lvs (lv' := [(0, .ref (S.1 68)), (1, .int x1), (2, .int x2), (3, .int x3), (4, .int x4), (5, .int x5), (6, .int x6)]) [0, 1, 2, 3, 4, 5, 6] rfl ?_
        exact zb_Mo_lookAtDeclaration_205 C hR h2 x1 x2 x3 x4 x5 x6 1 (h2.2.1 74 x4.toNatClampNeg) e
      · replace e := zd_neg b6 e
        refine zk_iconst (v := 0) C kd_Mo_lookAtDeclaration_200 (by decide) rfl ?_
        refine zk_goto (tgt := 205) C kd_Mo_lookAtDeclaration_201 (by decide) ?_
        refine zk_lvs (lv' := [(0, .ref (S.1 68)), (1, .int x1), (2, .int x2), (3, .int x3), (4, .int x4), (5, .int x5), (6, .int x6)]) [0, 1, 2, 3, 4, 5, 6] rfl ?_
        exact zb_Mo_lookAtDeclaration_205 C hR h2 x1 x2 x3 x4 x5 x6 0 (h2.2.1 74 x4.toNatClampNeg) e
set_option maxHeartbeats 4000000 in
set_option maxRecDepth 100000 in
theorem zb_Mo_lookAtDeclaration_169 {X : zkj_T} {S : zs_T} {P : ze_T} {l : Launch} {D : va_G} {sz0 : Nat} {rh : zs_H} (C : zk_C X km_Mo_lookAtDeclaration (zs_G S l D sz0) { frames := 6, cells := 0, slots := 0, locals := 133 } (ze_E P)) (hR : zkj_R X (zd_PV S rh) (none)) (h : zs_H) (x1 : Int32) (x2 : Int32) (x3 : Int32) (x4 : Int32) (x5 : Int32) (x6 : Int32) (e : f_Mo_lookAtDeclaration_169 h x1 x2 x3 x4 x5 x6 = some rh) : zk_Ab X (zs_W S h) 0 0 169 [(0, .ref (S.1 68)), (1, .int x1), (2, .int x2), (3, .int x3), (4, .int x4), (5, .int x5), (6, .int x6)] [.ref (S.1 68)] := by
  unfold f_Mo_lookAtDeclaration_169 at e
  refine zk_iconst (v := 0) C kd_Mo_lookAtDeclaration_169 (by decide) rfl ?_
  refine zk_lvs (lv' := [(0, .ref (S.1 68)), (1, .int x1), (2, .int x2), (3, .int x3), (4, .int x4), (5, .int x5), (6, .int x6)]) [0, 1, 2, 3, 4, 5, 6] rfl ?_
  exact zb_Mo_lookAtDeclaration_170 C hR h x1 x2 x3 x4 x5 x6 0 e
set_option maxHeartbeats 4000000 in
set_option maxRecDepth 100000 in
theorem zb_Mo_lookAtDeclaration_18 {X : zkj_T} {S : zs_T} {P : ze_T} {l : Launch} {D : va_G} {sz0 : Nat} {rh : zs_H} (C : zk_C X km_Mo_lookAtDeclaration (zs_G S l D sz0) { frames := 6, cells := 0, slots := 0, locals := 133 } (ze_E P)) (hR : zkj_R X (zd_PV S rh) (none)) {k18 : zs_H → Int32 → Int32 → Int32 → Int32 → Int32 → Int32 → (Option zs_H)} (hk18 : ∀ (h : zs_H) (x1 : Int32) (x2 : Int32) (x3 : Int32) (x4 : Int32) (x5 : Int32) (x6 : Int32), k18 h x1 x2 x3 x4 x5 x6 = some rh → zk_Ab X (zs_W S h) 0 0 18 [(0, .ref (S.1 68)), (1, .int x1), (2, .int x2), (3, .int x3), (4, .int x4), (5, .int x5), (6, .int x6)] []) (h : zs_H) (x1 : Int32) (x2 : Int32) (x3 : Int32) (x4 : Int32) (x5 : Int32) (x6 : Int32) (e : f_Mo_lookAtDeclaration_18 k18 h x1 x2 x3 x4 x5 x6 = some rh) : zk_Ab X (zs_W S h) 0 0 18 [(0, .ref (S.1 68)), (1, .int x1), (2, .int x2), (3, .int x3), (4, .int x4), (5, .int x5), (6, .int x6)] [] := by
  unfold f_Mo_lookAtDeclaration_18 at e
  refine zk_iload C kd_Mo_lookAtDeclaration_18 6 rfl rfl ?_
  refine zk_if_lt (tgt := 133) C kd_Mo_lookAtDeclaration_20 (by decide) rfl (fun b1 => ?_) (fun b1 => ?_)
  · replace e := zd_pos b1 e
    refine zk_aload_n C kd_Mo_lookAtDeclaration_133 rfl 0 rfl rfl ?_
    refine zs_get (v := .ref (S.1 72)) C 68 15 rfl rfl rfl rfl ki_Mo (by decide) kw1698 kd_Mo_lookAtDeclaration_134 rfl ?_
    refine zk_iload C kd_Mo_lookAtDeclaration_137 4 rfl rfl ?_
    obtain ⟨q2, e⟩ := zd_g e
    refine zs_iald C 72 rfl (zd_vp q2) kd_Mo_lookAtDeclaration_139 rfl ?_
    refine zk_bipush (v := 8) C kd_Mo_lookAtDeclaration_140 (by decide) rfl ?_
    refine zk_isub C kd_Mo_lookAtDeclaration_142 rfl ?_
    refine zk_istore (lv' := [(6, _), (0, _), (1, _), (2, _), (3, _), (4, _), (5, _)]) C kd_Mo_lookAtDeclaration_143 (by decide) rfl rfl ?_
    refine zk_aload_n C kd_Mo_lookAtDeclaration_145 rfl 1 rfl rfl ?_
    refine zk_aload_n C kd_Mo_lookAtDeclaration_146 rfl 1 rfl rfl ?_
    refine zs_get (v := .ref (S.1 74)) C 68 17 rfl rfl rfl rfl ki_Mo (by decide) kw1700 kd_Mo_lookAtDeclaration_147 rfl ?_
    refine zk_aload_n C kd_Mo_lookAtDeclaration_150 rfl 1 rfl rfl ?_
    refine zs_get (v := .ref (S.1 75)) C 68 18 rfl rfl rfl rfl ki_Mo (by decide) kw1701 kd_Mo_lookAtDeclaration_151 rfl ?_
    refine zk_iload_n C kd_Mo_lookAtDeclaration_154 rfl 2 rfl rfl ?_
    obtain ⟨q3, e⟩ := zd_g e
    refine zs_iald C 75 rfl (zd_vp q3) kd_Mo_lookAtDeclaration_155 rfl ?_
    obtain ⟨q4, e⟩ := zd_g e
    refine zs_iald C 74 rfl (zd_vp q4) kd_Mo_lookAtDeclaration_156 rfl ?_
    refine zk_if_eq (tgt := 169) C kd_Mo_lookAtDeclaration_157 (by decide) rfl (fun b5 => ?_) (fun b5 => ?_)
    · replace e := zd_pos b5 e
      refine zk_lvs (lv' := [(0, .ref (S.1 68)), (1, .int x1), (2, .int x2), (3, .int x3), (4, .int x4), (5, .int x5), (6, .int ((h.2.1 72 x4.toNatClampNeg) - 8))]) [1, 2, 3, 4, 5, 6, 0] rfl ?_
      exact zb_Mo_lookAtDeclaration_169 C hR h x1 x2 x3 x4 x5 ((h.2.1 72 x4.toNatClampNeg) - 8) e
    · replace e := zd_neg b5 e
      refine zk_iload C kd_Mo_lookAtDeclaration_160 0 rfl rfl ?_
      refine zk_if_eq (tgt := 169) C kd_Mo_lookAtDeclaration_162 (by decide) rfl (fun b6 => ?_) (fun b6 => ?_)
      · replace e := zd_pos b6 e
        refine zk_lvs (lv' := [(0, .ref (S.1 68)), (1, .int x1), (2, .int x2), (3, .int x3), (4, .int x4), (5, .int x5), (6, .int ((h.2.1 72 x4.toNatClampNeg) - 8))]) [1, 2, 3, 4, 5, 6, 0] rfl ?_
        exact zb_Mo_lookAtDeclaration_169 C hR h x1 x2 x3 x4 x5 ((h.2.1 72 x4.toNatClampNeg) - 8) e
      · replace e := zd_neg b6 e
        refine zk_iconst (v := 1) C kd_Mo_lookAtDeclaration_165 (by decide) rfl ?_
        refine zk_goto (tgt := 170) C kd_Mo_lookAtDeclaration_166 (by decide) ?_
        refine zk_lvs (lv' := [(0, .ref (S.1 68)), (1, .int x1), (2, .int x2), (3, .int x3), (4, .int x4), (5, .int x5), (6, .int ((h.2.1 72 x4.toNatClampNeg) - 8))]) [1, 2, 3, 4, 5, 6, 0] rfl ?_
        exact zb_Mo_lookAtDeclaration_170 C hR h x1 x2 x3 x4 x5 ((h.2.1 72 x4.toNatClampNeg) - 8) 1 e
  · replace e := zd_neg b1 e
    refine zk_iload_n C kd_Mo_lookAtDeclaration_23 rfl 2 rfl rfl ?_
    refine zk_aload_n C kd_Mo_lookAtDeclaration_24 rfl 0 rfl rfl ?_
    refine zs_get (v := .ref (S.1 72)) C 68 15 rfl rfl rfl rfl ki_Mo (by decide) kw1698 kd_Mo_lookAtDeclaration_25 rfl ?_
    refine zk_iload C kd_Mo_lookAtDeclaration_28 6 rfl rfl ?_
    obtain ⟨q7, e⟩ := zd_g e
    refine zs_iald C 72 rfl (zd_vp q7) kd_Mo_lookAtDeclaration_30 rfl ?_
    refine zk_bipush (v := 6) C kd_Mo_lookAtDeclaration_31 (by decide) rfl ?_
    refine zk_icmp_ne (tgt := 40) C kd_Mo_lookAtDeclaration_33 (by decide) rfl (fun b8 => ?_) (fun b8 => ?_)
    · replace e := zd_neg b8 e
      refine zk_iconst (v := 0) C kd_Mo_lookAtDeclaration_40 (by decide) rfl ?_
      refine zk_lvs (lv' := [(0, .ref (S.1 68)), (1, .int x1), (3, .int x3), (4, .int x4), (5, .int x5), (6, .int x6)]) [0, 1, 3, 4, 5, 6] rfl ?_
      exact zb_Mo_lookAtDeclaration_41 C hR hk18 h x1 x3 x4 x5 x6 0 x2 e
    · replace e := zd_pos b8 e
      refine zk_iconst (v := 1) C kd_Mo_lookAtDeclaration_36 (by decide) rfl ?_
      refine zk_goto (tgt := 41) C kd_Mo_lookAtDeclaration_37 (by decide) ?_
      refine zk_lvs (lv' := [(0, .ref (S.1 68)), (1, .int x1), (3, .int x3), (4, .int x4), (5, .int x5), (6, .int x6)]) [0, 1, 3, 4, 5, 6] rfl ?_
      exact zb_Mo_lookAtDeclaration_41 C hR hk18 h x1 x3 x4 x5 x6 1 x2 e
theorem zl_Mo_lookAtDeclaration_18 {X : zkj_T} {S : zs_T} {P : ze_T} {l : Launch} {D : va_G} {sz0 : Nat} {rh : zs_H} (C : zk_C X km_Mo_lookAtDeclaration (zs_G S l D sz0) { frames := 6, cells := 0, slots := 0, locals := 133 } (ze_E P)) (hR : zkj_R X (zd_PV S rh) (none)) (n : Nat) : ∀ (h : zs_H) (x1 : Int32) (x2 : Int32) (x3 : Int32) (x4 : Int32) (x5 : Int32) (x6 : Int32), f_Mo_lookAtDeclaration_L18 n h x1 x2 x3 x4 x5 x6 = some rh → zk_Ab X (zs_W S h) 0 0 18 [(0, .ref (S.1 68)), (1, .int x1), (2, .int x2), (3, .int x3), (4, .int x4), (5, .int x5), (6, .int x6)] [] := by
  induction n with
  | zero => intro h x1 x2 x3 x4 x5 x6 e; exact zd_no e
  | succ n ih => intro h x1 x2 x3 x4 x5 x6 e; exact zb_Mo_lookAtDeclaration_18 (k18 := f_Mo_lookAtDeclaration_L18  n) C hR ih h x1 x2 x3 x4 x5 x6 e
set_option maxHeartbeats 4000000 in
set_option maxRecDepth 100000 in
theorem zc_Mo_lookAtDeclaration {l : Launch} {D : va_G} {sz0 : Nat} {S : zs_T} {P : ze_T} (h : zs_H) (x1 : Int32) {rh : zs_H} (e : f_Mo_lookAtDeclaration h x1 = some rh) : zk_Sp (zs_G S l D sz0) (ze_E P) km_Mo_lookAtDeclaration { frames := 6, cells := 0, slots := 0, locals := 133 } [.ref (S.1 68), .int x1] (zs_W S h) (zd_PV S rh) := by
  refine zk_met ku_Mo_lookAtDeclaration (Nat.le_of_ble_eq_true rfl) (ze_Em P) ?_
  intro X C hR
  refine zk_lvs (lv' := [(0, .ref (S.1 68)), (1, .int x1)]) [0, 1] rfl ?_
  unfold f_Mo_lookAtDeclaration at e
  refine zk_iconst (v := 0) C kd_Mo_lookAtDeclaration_0 (by decide) rfl ?_
  refine zk_istore_n (lv' := [(2, _), (0, _), (1, _)]) C kd_Mo_lookAtDeclaration_1 rfl (by decide) rfl rfl ?_
  refine zk_iconst (v := (-1)) C kd_Mo_lookAtDeclaration_2 (by decide) rfl ?_
  refine zk_istore_n (lv' := [(3, _), (2, _), (0, _), (1, _)]) C kd_Mo_lookAtDeclaration_3 rfl (by decide) rfl rfl ?_
  refine zk_iconst (v := (-1)) C kd_Mo_lookAtDeclaration_4 (by decide) rfl ?_
  refine zk_istore (lv' := [(4, _), (3, _), (2, _), (0, _), (1, _)]) C kd_Mo_lookAtDeclaration_5 (by decide) rfl rfl ?_
  refine zk_iconst (v := (-1)) C kd_Mo_lookAtDeclaration_7 (by decide) rfl ?_
  refine zk_istore (lv' := [(5, _), (4, _), (3, _), (2, _), (0, _), (1, _)]) C kd_Mo_lookAtDeclaration_8 (by decide) rfl rfl ?_
  refine zk_aload_n C kd_Mo_lookAtDeclaration_10 rfl 4 rfl rfl ?_
  refine zs_get (v := .ref (S.1 76)) C 68 19 rfl rfl rfl rfl ki_Mo (by decide) kw1702 kd_Mo_lookAtDeclaration_11 rfl ?_
  refine zk_iload_n C kd_Mo_lookAtDeclaration_14 rfl 5 rfl rfl ?_
  obtain ⟨q1, e⟩ := zd_g e
  refine zs_iald C 76 rfl (zd_vp q1) kd_Mo_lookAtDeclaration_15 rfl ?_
  refine zk_istore (lv' := [(6, _), (5, _), (4, _), (3, _), (2, _), (0, _), (1, _)]) C kd_Mo_lookAtDeclaration_16 (by decide) rfl rfl ?_
  refine zk_lvs (lv' := [(0, .ref (S.1 68)), (1, .int x1), (2, .int 0), (3, .int (-1)), (4, .int (-1)), (5, .int (-1)), (6, .int (h.2.1 76 x1.toNatClampNeg))]) [5, 6, 4, 3, 2, 1, 0] rfl ?_
  exact zl_Mo_lookAtDeclaration_18 C hR zF h x1 0 (-1) (-1) (-1) (h.2.1 76 x1.toNatClampNeg) e
set_option maxHeartbeats 4000000 in
set_option maxRecDepth 100000 in
theorem zb_Mo_inputs_54 {X : zkj_T} {S : zs_T} {P : ze_T} {l : Launch} {D : va_G} {sz0 : Nat} {rv : Int32} {h : zs_H} (C : zk_C X km_Mo_inputs (zs_G S l D sz0) { frames := 0, cells := 0, slots := 0, locals := 0 } (ze_E P)) (hR : zkj_R X (zd_PI S rv h) (some .int)) {k9 : Int32 → Int32 → Int32 → (Option Int32)} (hk9 : ∀ (x1 : Int32) (x2 : Int32) (x3 : Int32), k9 x1 x2 x3 = some rv → zk_Ab X (zs_W S h) 0 0 9 [(0, .ref (S.1 68)), (1, .int x1), (2, .int x2), (3, .int x3)] []) (x1 : Int32) (x3 : Int32) (y0 : Int32) (y1 : Int32) (e : f_Mo_inputs_54 h k9 x1 x3 y0 y1 = some rv) : zk_Ab X (zs_W S h) 0 0 54 [(0, .ref (S.1 68)), (1, .int x1), (3, .int x3)] [.int y0, .int y1] := by
  unfold f_Mo_inputs_54 at e
  refine zk_iadd C kd_Mo_inputs_54 rfl ?_
  refine zk_istore_n (lv' := [(2, _), (0, _), (1, _), (3, _)]) C kd_Mo_inputs_55 rfl (by decide) rfl rfl ?_
  refine zk_iinc (v := (x3 + 1)) (lv' := [(3, _), (2, _), (0, _), (1, _)]) C kd_Mo_inputs_56 3 rfl rfl (by decide) rfl rfl ?_
  refine zk_goto (tgt := 9) C kd_Mo_inputs_59 (by decide) ?_
  refine zk_lvs (lv' := [(0, .ref (S.1 68)), (1, .int x1), (2, .int (y1 + y0)), (3, .int (x3 + 1))]) [2, 3, 1, 0] rfl ?_
  exact hk9 x1 (y1 + y0) (x3 + 1) e
set_option maxHeartbeats 4000000 in
set_option maxRecDepth 100000 in
theorem zb_Mo_inputs_35 {X : zkj_T} {S : zs_T} {P : ze_T} {l : Launch} {D : va_G} {sz0 : Nat} {rv : Int32} {h : zs_H} (C : zk_C X km_Mo_inputs (zs_G S l D sz0) { frames := 0, cells := 0, slots := 0, locals := 0 } (ze_E P)) (hR : zkj_R X (zd_PI S rv h) (some .int)) {k9 : Int32 → Int32 → Int32 → (Option Int32)} (hk9 : ∀ (x1 : Int32) (x2 : Int32) (x3 : Int32), k9 x1 x2 x3 = some rv → zk_Ab X (zs_W S h) 0 0 9 [(0, .ref (S.1 68)), (1, .int x1), (2, .int x2), (3, .int x3)] []) (x1 : Int32) (x2 : Int32) (x3 : Int32) (y0 : Int32) (y1 : Int32) (e : f_Mo_inputs_35 h k9 x1 x2 x3 y0 y1 = some rv) : zk_Ab X (zs_W S h) 0 0 35 [(0, .ref (S.1 68)), (1, .int x1), (2, .int x2), (3, .int x3)] [.int y0, .int y1] := by
  unfold f_Mo_inputs_35 at e
  refine zk_icmp_ge (tgt := 62) C kd_Mo_inputs_35 (by decide) rfl (fun b1 => ?_) (fun b1 => ?_)
  · replace e := zd_pos b1 e
    refine zk_iload_n C kd_Mo_inputs_62 rfl 2 rfl rfl ?_
    exact zk_iret C hR kd_Mo_inputs_63 rfl rfl (zd_rIO e)
  · replace e := zd_neg b1 e
    refine zk_iload_n C kd_Mo_inputs_38 rfl 2 rfl rfl ?_
    refine zk_aload_n C kd_Mo_inputs_39 rfl 0 rfl rfl ?_
    refine zs_get (v := .ref (S.1 95)) C 68 46 rfl rfl rfl rfl ki_Mo (by decide) kw1729 kd_Mo_inputs_40 rfl ?_
    refine zk_iload_n C kd_Mo_inputs_43 rfl 3 rfl rfl ?_
    obtain ⟨q2, e⟩ := zd_g e
    refine zs_iald C 95 rfl (zd_vp q2) kd_Mo_inputs_44 rfl ?_
    refine zk_iconst (v := 1) C kd_Mo_inputs_45 (by decide) rfl ?_
    refine zk_icmp_ne (tgt := 53) C kd_Mo_inputs_46 (by decide) rfl (fun b3 => ?_) (fun b3 => ?_)
    · replace e := zd_neg b3 e
      refine zk_iconst (v := 0) C kd_Mo_inputs_53 (by decide) rfl ?_
      refine zk_lvs (lv' := [(0, .ref (S.1 68)), (1, .int x1), (3, .int x3)]) [0, 1, 3] rfl ?_
      exact zb_Mo_inputs_54 C hR hk9 x1 x3 0 x2 e
    · replace e := zd_pos b3 e
      refine zk_iconst (v := 1) C kd_Mo_inputs_49 (by decide) rfl ?_
      refine zk_goto (tgt := 54) C kd_Mo_inputs_50 (by decide) ?_
      refine zk_lvs (lv' := [(0, .ref (S.1 68)), (1, .int x1), (3, .int x3)]) [0, 1, 3] rfl ?_
      exact zb_Mo_inputs_54 C hR hk9 x1 x3 1 x2 e
set_option maxHeartbeats 4000000 in
set_option maxRecDepth 100000 in
theorem zb_Mo_inputs_9 {X : zkj_T} {S : zs_T} {P : ze_T} {l : Launch} {D : va_G} {sz0 : Nat} {rv : Int32} {h : zs_H} (C : zk_C X km_Mo_inputs (zs_G S l D sz0) { frames := 0, cells := 0, slots := 0, locals := 0 } (ze_E P)) (hR : zkj_R X (zd_PI S rv h) (some .int)) {k9 : Int32 → Int32 → Int32 → (Option Int32)} (hk9 : ∀ (x1 : Int32) (x2 : Int32) (x3 : Int32), k9 x1 x2 x3 = some rv → zk_Ab X (zs_W S h) 0 0 9 [(0, .ref (S.1 68)), (1, .int x1), (2, .int x2), (3, .int x3)] []) (x1 : Int32) (x2 : Int32) (x3 : Int32) (e : f_Mo_inputs_9 h k9 x1 x2 x3 = some rv) : zk_Ab X (zs_W S h) 0 0 9 [(0, .ref (S.1 68)), (1, .int x1), (2, .int x2), (3, .int x3)] [] := by
  unfold f_Mo_inputs_9 at e
  refine zk_iload_n C kd_Mo_inputs_9 rfl 3 rfl rfl ?_
  refine zk_iload_n C kd_Mo_inputs_10 rfl 1 rfl rfl ?_
  refine zk_aload_n C kd_Mo_inputs_11 rfl 0 rfl rfl ?_
  refine zs_get (v := .int (h.1 68 33)) C 68 33 rfl rfl rfl rfl ki_Mo (by decide) kw1716 kd_Mo_inputs_12 rfl ?_
  refine zk_iconst (v := 1) C kd_Mo_inputs_15 (by decide) rfl ?_
  refine zk_isub C kd_Mo_inputs_16 rfl ?_
  refine zk_icmp_ne (tgt := 27) C kd_Mo_inputs_17 (by decide) rfl (fun b1 => ?_) (fun b1 => ?_)
  · replace e := zd_neg b1 e
    refine zk_aload_n C kd_Mo_inputs_27 rfl 0 rfl rfl ?_
    refine zs_get (v := .ref (S.1 90)) C 68 40 rfl rfl rfl rfl ki_Mo (by decide) kw1723 kd_Mo_inputs_28 rfl ?_
    refine zk_iload_n C kd_Mo_inputs_31 rfl 1 rfl rfl ?_
    refine zk_iconst (v := 1) C kd_Mo_inputs_32 (by decide) rfl ?_
    refine zk_iadd C kd_Mo_inputs_33 rfl ?_
    obtain ⟨q2, e⟩ := zd_g e
    refine zs_iald C 90 rfl (zd_vp q2) kd_Mo_inputs_34 rfl ?_
    refine zk_lvs (lv' := [(0, .ref (S.1 68)), (1, .int x1), (2, .int x2), (3, .int x3)]) [0, 1, 2, 3] rfl ?_
    exact zb_Mo_inputs_35 C hR hk9 x1 x2 x3 (h.2.1 90 (x1 + 1).toNatClampNeg) x3 e
  · replace e := zd_pos b1 e
    refine zk_aload_n C kd_Mo_inputs_20 rfl 0 rfl rfl ?_
    refine zs_get (v := .int (h.1 68 41)) C 68 41 rfl rfl rfl rfl ki_Mo (by decide) kw1724 kd_Mo_inputs_21 rfl ?_
    refine zk_goto (tgt := 35) C kd_Mo_inputs_24 (by decide) ?_
    refine zk_lvs (lv' := [(0, .ref (S.1 68)), (1, .int x1), (2, .int x2), (3, .int x3)]) [0, 1, 2, 3] rfl ?_
    exact zb_Mo_inputs_35 C hR hk9 x1 x2 x3 (h.1 68 41) x3 e
theorem zl_Mo_inputs_9 {X : zkj_T} {S : zs_T} {P : ze_T} {l : Launch} {D : va_G} {sz0 : Nat} {rv : Int32} {h : zs_H} (C : zk_C X km_Mo_inputs (zs_G S l D sz0) { frames := 0, cells := 0, slots := 0, locals := 0 } (ze_E P)) (hR : zkj_R X (zd_PI S rv h) (some .int)) (n : Nat) : ∀ (x1 : Int32) (x2 : Int32) (x3 : Int32), f_Mo_inputs_L9 h n x1 x2 x3 = some rv → zk_Ab X (zs_W S h) 0 0 9 [(0, .ref (S.1 68)), (1, .int x1), (2, .int x2), (3, .int x3)] [] := by
  induction n with
  | zero => intro x1 x2 x3 e; exact zd_no e
  | succ n ih => intro x1 x2 x3 e; exact zb_Mo_inputs_9 (k9 := f_Mo_inputs_L9 h n) C hR ih x1 x2 x3 e
set_option maxHeartbeats 4000000 in
set_option maxRecDepth 100000 in
theorem zc_Mo_inputs {l : Launch} {D : va_G} {sz0 : Nat} {S : zs_T} {P : ze_T} (h : zs_H) (x1 : Int32) {rv : Int32} (e : f_Mo_inputs h x1 = some rv) : zk_Sp (zs_G S l D sz0) (ze_E P) km_Mo_inputs { frames := 0, cells := 0, slots := 0, locals := 0 } [.ref (S.1 68), .int x1] (zs_W S h) (zd_PI S rv h) := by
  refine zk_met ku_Mo_inputs (Nat.le_of_ble_eq_true rfl) (ze_Em P) ?_
  intro X C hR
  refine zk_lvs (lv' := [(0, .ref (S.1 68)), (1, .int x1)]) [0, 1] rfl ?_
  unfold f_Mo_inputs at e
  refine zk_iconst (v := 0) C kd_Mo_inputs_0 (by decide) rfl ?_
  refine zk_istore_n (lv' := [(2, _), (0, _), (1, _)]) C kd_Mo_inputs_1 rfl (by decide) rfl rfl ?_
  refine zk_aload_n C kd_Mo_inputs_2 rfl 1 rfl rfl ?_
  refine zs_get (v := .ref (S.1 90)) C 68 40 rfl rfl rfl rfl ki_Mo (by decide) kw1723 kd_Mo_inputs_3 rfl ?_
  refine zk_iload_n C kd_Mo_inputs_6 rfl 2 rfl rfl ?_
  obtain ⟨q1, e⟩ := zd_g e
  refine zs_iald C 90 rfl (zd_vp q1) kd_Mo_inputs_7 rfl ?_
  refine zk_istore_n (lv' := [(3, _), (2, _), (0, _), (1, _)]) C kd_Mo_inputs_8 rfl (by decide) rfl rfl ?_
  refine zk_lvs (lv' := [(0, .ref (S.1 68)), (1, .int x1), (2, .int 0), (3, .int (h.2.1 90 x1.toNatClampNeg))]) [2, 3, 1, 0] rfl ?_
  exact zl_Mo_inputs_9 C hR zF x1 0 (h.2.1 90 x1.toNatClampNeg) e
set_option maxHeartbeats 4000000 in
set_option maxRecDepth 100000 in
theorem zb_Mo_give_157 {X : zkj_T} {S : zs_T} {P : ze_T} {l : Launch} {D : va_G} {sz0 : Nat} {d : Nat} {rh : zs_H} (C : zk_C X km_Mo_give (zs_G S l D sz0) { frames := 1 + (d + 1), cells := 0, slots := 0, locals := 24 + 25 * (d + 1) } (ze_E P)) (hR : zkj_R X (zd_PV S rh) (none)) {r_Mo_give : zs_H → Int32 → Int32 → (Option zs_H)} (hr_Mo_give : ∀ (h : zs_H) (x0 : Int32) (x1 : Int32) {rh : zs_H}, r_Mo_give h x0 x1 = some rh → zk_Sp (zs_G S l D sz0) (ze_E P) km_Mo_give { frames := 1 + d, cells := 0, slots := 0, locals := 24 + 25 * d } [.ref (S.1 68), .int x0, .int x1] (zs_W S h) (zd_PV S rh)) {k133 : zs_H → Int32 → Int32 → (Option zs_H)} (hk133 : ∀ (h : zs_H) (x2 : Int32) (x5 : Int32), k133 h x2 x5 = some rh → zk_Ab X (zs_W S h) 0 0 133 [(0, .ref (S.1 68)), (2, .int x2), (5, .int x5)] []) (h : zs_H) (x2 : Int32) (x5 : Int32) (e : f_Mo_give_157 r_Mo_give k133 h x2 x5 = some rh) : zk_Ab X (zs_W S h) 0 0 157 [(0, .ref (S.1 68)), (2, .int x2), (5, .int x5)] [] := by
  unfold f_Mo_give_157 at e
  refine zk_aload_n C kd_Mo_give_157 rfl 0 rfl rfl ?_
  refine zs_get (v := .ref (S.1 78)) C 68 21 rfl rfl rfl rfl ki_Mo (by decide) kw1704 kd_Mo_give_158 rfl ?_
  refine zk_iload C kd_Mo_give_161 2 rfl rfl ?_
  obtain ⟨q1, e⟩ := zd_g e
  refine zs_iald C 78 rfl (zd_vp q1) kd_Mo_give_163 rfl ?_
  refine zk_istore (lv' := [(5, _), (0, _), (2, _)]) C kd_Mo_give_164 (by decide) rfl rfl ?_
  refine zk_goto (tgt := 133) C kd_Mo_give_166 (by decide) ?_
  refine zk_lvs (lv' := [(0, .ref (S.1 68)), (2, .int x2), (5, .int (h.2.1 78 x5.toNatClampNeg))]) [1, 2, 0] rfl ?_
  exact hk133 h x2 (h.2.1 78 x5.toNatClampNeg) e
set_option maxHeartbeats 4000000 in
set_option maxRecDepth 100000 in
theorem zb_Mo_give_133 {X : zkj_T} {S : zs_T} {P : ze_T} {l : Launch} {D : va_G} {sz0 : Nat} {d : Nat} {rh : zs_H} (C : zk_C X km_Mo_give (zs_G S l D sz0) { frames := 1 + (d + 1), cells := 0, slots := 0, locals := 24 + 25 * (d + 1) } (ze_E P)) (hR : zkj_R X (zd_PV S rh) (none)) {r_Mo_give : zs_H → Int32 → Int32 → (Option zs_H)} (hr_Mo_give : ∀ (h : zs_H) (x0 : Int32) (x1 : Int32) {rh : zs_H}, r_Mo_give h x0 x1 = some rh → zk_Sp (zs_G S l D sz0) (ze_E P) km_Mo_give { frames := 1 + d, cells := 0, slots := 0, locals := 24 + 25 * d } [.ref (S.1 68), .int x0, .int x1] (zs_W S h) (zd_PV S rh)) {k133 : zs_H → Int32 → Int32 → (Option zs_H)} (hk133 : ∀ (h : zs_H) (x2 : Int32) (x5 : Int32), k133 h x2 x5 = some rh → zk_Ab X (zs_W S h) 0 0 133 [(0, .ref (S.1 68)), (2, .int x2), (5, .int x5)] []) (h : zs_H) (x2 : Int32) (x5 : Int32) (e : f_Mo_give_133 r_Mo_give k133 h x2 x5 = some rh) : zk_Ab X (zs_W S h) 0 0 133 [(0, .ref (S.1 68)), (2, .int x2), (5, .int x5)] [] := by
  unfold f_Mo_give_133 at e
  refine zk_iload C kd_Mo_give_133 2 rfl rfl ?_
  refine zk_if_lt (tgt := 169) C kd_Mo_give_135 (by decide) rfl (fun b1 => ?_) (fun b1 => ?_)
  · replace e := zd_pos b1 e
    exact zk_vret C hR kd_Mo_give_169 rfl rfl (zd_rV e)
  · replace e := zd_neg b1 e
    refine zk_aload_n C kd_Mo_give_138 rfl 0 rfl rfl ?_
    refine zs_get (v := .ref (S.1 72)) C 68 15 rfl rfl rfl rfl ki_Mo (by decide) kw1698 kd_Mo_give_139 rfl ?_
    refine zk_iload C kd_Mo_give_142 2 rfl rfl ?_
    obtain ⟨q2, e⟩ := zd_g e
    refine zs_iald C 72 rfl (zd_vp q2) kd_Mo_give_144 rfl ?_
    refine zk_bipush (v := 30) C kd_Mo_give_145 (by decide) rfl ?_
    refine zk_icmp_ge (tgt := 157) C kd_Mo_give_147 (by decide) rfl (fun b3 => ?_) (fun b3 => ?_)
    · replace e := zd_pos b3 e
      refine zk_lvs (lv' := [(0, .ref (S.1 68)), (2, .int x2), (5, .int x5)]) [0, 1, 2] rfl ?_
      exact zb_Mo_give_157 C hR hr_Mo_give hk133 h x2 x5 e
    · replace e := zd_neg b3 e
      refine zk_aload_n C kd_Mo_give_150 rfl 0 rfl rfl ?_
      refine zk_iload C kd_Mo_give_151 2 rfl rfl ?_
      refine zk_iload_n C kd_Mo_give_153 rfl 1 rfl rfl ?_
      obtain ⟨h5, c4, e⟩ := zd_b e
      refine zs_callV (k := 68) (rn := { frames := 1 + d, cells := 0, slots := 0, locals := 24 + 25 * d }) (As := [.int x5, .int x2]) (rest := []) C (hr_Mo_give h x5 x2 c4) ku_Mo_give kw2306 kv_Mo_give rfl (zd_rmI (by decide)) ⟨Nat.le_refl _, Nat.le_refl _⟩ rfl rfl rfl (Nat.le_of_ble_eq_true rfl) kd_Mo_give_154 rfl (c1 := 0) (s1 := 0) rfl rfl (fun v w hp => ?_)
      obtain ⟨rfl, rfl⟩ := hp
      refine zk_stk (r' := []) rfl ?_
      refine zk_lvs (lv' := [(0, .ref (S.1 68)), (2, .int x2), (5, .int x5)]) [0, 1, 2] rfl ?_
      exact zb_Mo_give_157 C hR hr_Mo_give hk133 h5 x2 x5 e
theorem zl_Mo_give_133 {X : zkj_T} {S : zs_T} {P : ze_T} {l : Launch} {D : va_G} {sz0 : Nat} {d : Nat} {rh : zs_H} (C : zk_C X km_Mo_give (zs_G S l D sz0) { frames := 1 + (d + 1), cells := 0, slots := 0, locals := 24 + 25 * (d + 1) } (ze_E P)) (hR : zkj_R X (zd_PV S rh) (none)) {r_Mo_give : zs_H → Int32 → Int32 → (Option zs_H)} (hr_Mo_give : ∀ (h : zs_H) (x0 : Int32) (x1 : Int32) {rh : zs_H}, r_Mo_give h x0 x1 = some rh → zk_Sp (zs_G S l D sz0) (ze_E P) km_Mo_give { frames := 1 + d, cells := 0, slots := 0, locals := 24 + 25 * d } [.ref (S.1 68), .int x0, .int x1] (zs_W S h) (zd_PV S rh)) (n : Nat) : ∀ (h : zs_H) (x2 : Int32) (x5 : Int32), f_Mo_give_L133 r_Mo_give n h x2 x5 = some rh → zk_Ab X (zs_W S h) 0 0 133 [(0, .ref (S.1 68)), (2, .int x2), (5, .int x5)] [] := by
  induction n with
  | zero => intro h x2 x5 e; exact zd_no e
  | succ n ih => intro h x2 x5 e; exact zb_Mo_give_133 (k133 := f_Mo_give_L133 r_Mo_give n) C hR hr_Mo_give ih h x2 x5 e
set_option maxHeartbeats 4000000 in
set_option maxRecDepth 100000 in
theorem zb_Mo_give_123 {X : zkj_T} {S : zs_T} {P : ze_T} {l : Launch} {D : va_G} {sz0 : Nat} {d : Nat} {rh : zs_H} (C : zk_C X km_Mo_give (zs_G S l D sz0) { frames := 1 + (d + 1), cells := 0, slots := 0, locals := 24 + 25 * (d + 1) } (ze_E P)) (hR : zkj_R X (zd_PV S rh) (none)) {r_Mo_give : zs_H → Int32 → Int32 → (Option zs_H)} (hr_Mo_give : ∀ (h : zs_H) (x0 : Int32) (x1 : Int32) {rh : zs_H}, r_Mo_give h x0 x1 = some rh → zk_Sp (zs_G S l D sz0) (ze_E P) km_Mo_give { frames := 1 + d, cells := 0, slots := 0, locals := 24 + 25 * d } [.ref (S.1 68), .int x0, .int x1] (zs_W S h) (zd_PV S rh)) (h : zs_H) (x1 : Int32) (x2 : Int32) (y0 : Int32) (y1 : Int32) (y2 : Int32) (e : f_Mo_give_123 r_Mo_give h x1 x2 y0 y1 y2 = some rh) : zk_Ab X (zs_W S h) 0 0 123 [(0, .ref (S.1 68)), (1, .int x1), (2, .int x2)] [.int y0, .int y1, .int y2, .ref (S.1 88)] := by
  unfold f_Mo_give_123 at e
  refine zk_iadd C kd_Mo_give_123 rfl ?_
  obtain ⟨q1, e⟩ := zd_g e
  refine zs_iast C 88 rfl (zd_vp q1) kd_Mo_give_124 rfl ?_
  refine zk_aload_n C kd_Mo_give_125 rfl 0 rfl rfl ?_
  refine zs_get (v := .ref (S.1 76)) C 68 19 rfl rfl rfl rfl ki_Mo (by decide) kw1702 kd_Mo_give_126 rfl ?_
  refine zk_iload_n C kd_Mo_give_129 rfl 1 rfl rfl ?_
  obtain ⟨q2, e⟩ := zd_g e
  refine zs_iald C 76 rfl (zd_vp q2) kd_Mo_give_130 rfl ?_
  refine zk_stk (r' := [.int (h.2.1 76 x1.toNatClampNeg)]) rfl ?_
  refine zk_istore (lv' := [(5, _), (0, _), (1, _), (2, _)]) C kd_Mo_give_131 (by decide) rfl rfl ?_
  refine zk_lvs (lv' := [(0, .ref (S.1 68)), (2, .int x2), (5, .int (h.2.1 76 x1.toNatClampNeg))]) [1, 3, 0] rfl ?_
  exact zl_Mo_give_133 C hR hr_Mo_give zF (zs_uM h 88 y2.toNatClampNeg (y1 + y0)) x2 (h.2.1 76 x1.toNatClampNeg) e
set_option maxHeartbeats 4000000 in
set_option maxRecDepth 100000 in
theorem zb_Mo_give_103 {X : zkj_T} {S : zs_T} {P : ze_T} {l : Launch} {D : va_G} {sz0 : Nat} {d : Nat} {rh : zs_H} (C : zk_C X km_Mo_give (zs_G S l D sz0) { frames := 1 + (d + 1), cells := 0, slots := 0, locals := 24 + 25 * (d + 1) } (ze_E P)) (hR : zkj_R X (zd_PV S rh) (none)) {r_Mo_give : zs_H → Int32 → Int32 → (Option zs_H)} (hr_Mo_give : ∀ (h : zs_H) (x0 : Int32) (x1 : Int32) {rh : zs_H}, r_Mo_give h x0 x1 = some rh → zk_Sp (zs_G S l D sz0) (ze_E P) km_Mo_give { frames := 1 + d, cells := 0, slots := 0, locals := 24 + 25 * d } [.ref (S.1 68), .int x0, .int x1] (zs_W S h) (zd_PV S rh)) (h : zs_H) (x1 : Int32) (x2 : Int32) (x4 : Int32) (e : f_Mo_give_103 r_Mo_give h x1 x2 x4 = some rh) : zk_Ab X (zs_W S h) 0 0 103 [(0, .ref (S.1 68)), (1, .int x1), (2, .int x2), (4, .int x4)] [] := by
  unfold f_Mo_give_103 at e
  refine zk_aload_n C kd_Mo_give_103 rfl 0 rfl rfl ?_
  refine zs_get (v := .ref (S.1 88)) C 68 38 rfl rfl rfl rfl ki_Mo (by decide) kw1721 kd_Mo_give_104 rfl ?_
  refine zk_aload_n C kd_Mo_give_107 rfl 0 rfl rfl ?_
  refine zs_get (v := .int (h.1 68 54)) C 68 54 rfl rfl rfl rfl ki_Mo (by decide) kw1737 kd_Mo_give_108 rfl ?_
  refine zk_dup2 C kd_Mo_give_111 rfl rfl rfl ?_
  obtain ⟨q1, e⟩ := zd_g e
  refine zs_iald C 88 rfl (zd_vp q1) kd_Mo_give_112 rfl ?_
  refine zk_iload C kd_Mo_give_113 3 rfl rfl ?_
  refine zk_if_eq (tgt := 122) C kd_Mo_give_115 (by decide) rfl (fun b2 => ?_) (fun b2 => ?_)
  · replace e := zd_pos b2 e
    refine zk_iconst (v := 0) C kd_Mo_give_122 (by decide) rfl ?_
    refine zk_lvs (lv' := [(0, .ref (S.1 68)), (1, .int x1), (2, .int x2)]) [0, 1, 2] rfl ?_
    exact zb_Mo_give_123 C hR hr_Mo_give h x1 x2 0 (h.2.1 88 (h.1 68 54).toNatClampNeg) (h.1 68 54) e
  · replace e := zd_neg b2 e
    refine zk_iconst (v := 1) C kd_Mo_give_118 (by decide) rfl ?_
    refine zk_goto (tgt := 123) C kd_Mo_give_119 (by decide) ?_
    refine zk_lvs (lv' := [(0, .ref (S.1 68)), (1, .int x1), (2, .int x2)]) [0, 1, 2] rfl ?_
    exact zb_Mo_give_123 C hR hr_Mo_give h x1 x2 1 (h.2.1 88 (h.1 68 54).toNatClampNeg) (h.1 68 54) e
set_option maxHeartbeats 4000000 in
set_option maxRecDepth 100000 in
theorem zb_Mo_give_83 {X : zkj_T} {S : zs_T} {P : ze_T} {l : Launch} {D : va_G} {sz0 : Nat} {d : Nat} {rh : zs_H} (C : zk_C X km_Mo_give (zs_G S l D sz0) { frames := 1 + (d + 1), cells := 0, slots := 0, locals := 24 + 25 * (d + 1) } (ze_E P)) (hR : zkj_R X (zd_PV S rh) (none)) {r_Mo_give : zs_H → Int32 → Int32 → (Option zs_H)} (hr_Mo_give : ∀ (h : zs_H) (x0 : Int32) (x1 : Int32) {rh : zs_H}, r_Mo_give h x0 x1 = some rh → zk_Sp (zs_G S l D sz0) (ze_E P) km_Mo_give { frames := 1 + d, cells := 0, slots := 0, locals := 24 + 25 * d } [.ref (S.1 68), .int x0, .int x1] (zs_W S h) (zd_PV S rh)) (h : zs_H) (x1 : Int32) (x2 : Int32) (x4 : Int32) (e : f_Mo_give_83 r_Mo_give h x1 x2 x4 = some rh) : zk_Ab X (zs_W S h) 0 0 83 [(0, .ref (S.1 68)), (1, .int x1), (2, .int x2), (4, .int x4)] [] := by
  unfold f_Mo_give_83 at e
  refine zk_iload C kd_Mo_give_83 3 rfl rfl ?_
  refine zk_if_eq (tgt := 103) C kd_Mo_give_85 (by decide) rfl (fun b1 => ?_) (fun b1 => ?_)
  · replace e := zd_pos b1 e
    refine zk_lvs (lv' := [(0, .ref (S.1 68)), (1, .int x1), (2, .int x2), (4, .int x4)]) [0, 1, 2, 3] rfl ?_
    exact zb_Mo_give_103 C hR hr_Mo_give h x1 x2 x4 e
  · replace e := zd_neg b1 e
    refine zk_aload_n C kd_Mo_give_88 rfl 0 rfl rfl ?_
    refine zs_get (v := .ref (S.1 101)) C 68 52 rfl rfl rfl rfl ki_Mo (by decide) kw1735 kd_Mo_give_89 rfl ?_
    refine zk_iload_n C kd_Mo_give_92 rfl 1 rfl rfl ?_
    refine zk_aload_n C kd_Mo_give_93 rfl 0 rfl rfl ?_
    refine zs_get (v := .ref (S.1 88)) C 68 38 rfl rfl rfl rfl ki_Mo (by decide) kw1721 kd_Mo_give_94 rfl ?_
    refine zk_aload_n C kd_Mo_give_97 rfl 0 rfl rfl ?_
    refine zs_get (v := .int (h.1 68 54)) C 68 54 rfl rfl rfl rfl ki_Mo (by decide) kw1737 kd_Mo_give_98 rfl ?_
    obtain ⟨q2, e⟩ := zd_g e
    refine zs_iald C 88 rfl (zd_vp q2) kd_Mo_give_101 rfl ?_
    obtain ⟨q3, e⟩ := zd_g e
    refine zs_iast C 101 rfl (zd_vp q3) kd_Mo_give_102 rfl ?_
    refine zk_lvs (lv' := [(0, .ref (S.1 68)), (1, .int x1), (2, .int x2), (4, .int x4)]) [0, 1, 2, 3] rfl ?_
    exact zb_Mo_give_103 C hR hr_Mo_give (zs_uM h 101 x1.toNatClampNeg (h.2.1 88 (h.1 68 54).toNatClampNeg)) x1 x2 x4 e
set_option maxHeartbeats 4000000 in
set_option maxRecDepth 100000 in
theorem zb_Mo_give_52 {X : zkj_T} {S : zs_T} {P : ze_T} {l : Launch} {D : va_G} {sz0 : Nat} {d : Nat} {rh : zs_H} (C : zk_C X km_Mo_give (zs_G S l D sz0) { frames := 1 + (d + 1), cells := 0, slots := 0, locals := 24 + 25 * (d + 1) } (ze_E P)) (hR : zkj_R X (zd_PV S rh) (none)) {r_Mo_give : zs_H → Int32 → Int32 → (Option zs_H)} (hr_Mo_give : ∀ (h : zs_H) (x0 : Int32) (x1 : Int32) {rh : zs_H}, r_Mo_give h x0 x1 = some rh → zk_Sp (zs_G S l D sz0) (ze_E P) km_Mo_give { frames := 1 + d, cells := 0, slots := 0, locals := 24 + 25 * d } [.ref (S.1 68), .int x0, .int x1] (zs_W S h) (zd_PV S rh)) (h : zs_H) (x1 : Int32) (x2 : Int32) (x3 : Int32) (y0 : Int32) (e : f_Mo_give_52 r_Mo_give h x1 x2 x3 y0 = some rh) : zk_Ab X (zs_W S h) 0 0 52 [(0, .ref (S.1 68)), (1, .int x1), (2, .int x2), (3, .int x3)] [.int y0] := by
  unfold f_Mo_give_52 at e
  refine zk_istore (lv' := [(4, _), (0, _), (1, _), (2, _), (3, _)]) C kd_Mo_give_52 (by decide) rfl rfl ?_
  refine zk_iload C kd_Mo_give_54 0 rfl rfl ?_
  refine zk_if_eq (tgt := 83) C kd_Mo_give_56 (by decide) rfl (fun b1 => ?_) (fun b1 => ?_)
  · replace e := zd_pos b1 e
    refine zk_lvs (lv' := [(0, .ref (S.1 68)), (1, .int x1), (2, .int x2), (4, .int y0)]) [1, 2, 3, 0] rfl ?_
    exact zb_Mo_give_83 C hR hr_Mo_give h x1 x2 y0 e
  · replace e := zd_neg b1 e
    refine zk_iload_n C kd_Mo_give_59 rfl 4 rfl rfl ?_
    refine zk_bipush (v := 19) C kd_Mo_give_60 (by decide) rfl ?_
    refine zk_icmp_ne (tgt := 83) C kd_Mo_give_62 (by decide) rfl (fun b2 => ?_) (fun b2 => ?_)
    · replace e := zd_neg b2 e
      refine zk_lvs (lv' := [(0, .ref (S.1 68)), (1, .int x1), (2, .int x2), (4, .int y0)]) [1, 2, 3, 0] rfl ?_
      exact zb_Mo_give_83 C hR hr_Mo_give h x1 x2 y0 e
    · replace e := zd_pos b2 e
      refine zk_aload_n C kd_Mo_give_65 rfl 1 rfl rfl ?_
      refine zs_get (v := .ref (S.1 102)) C 68 53 rfl rfl rfl rfl ki_Mo (by decide) kw1736 kd_Mo_give_66 rfl ?_
      refine zk_iload_n C kd_Mo_give_69 rfl 2 rfl rfl ?_
      refine zk_aload_n C kd_Mo_give_70 rfl 1 rfl rfl ?_
      refine zs_get (v := .ref (S.1 88)) C 68 38 rfl rfl rfl rfl ki_Mo (by decide) kw1721 kd_Mo_give_71 rfl ?_
      refine zk_aload_n C kd_Mo_give_74 rfl 1 rfl rfl ?_
      refine zs_get (v := .int (h.1 68 54)) C 68 54 rfl rfl rfl rfl ki_Mo (by decide) kw1737 kd_Mo_give_75 rfl ?_
      obtain ⟨q3, e⟩ := zd_g e
      refine zs_iald C 88 rfl (zd_vp q3) kd_Mo_give_78 rfl ?_
      obtain ⟨q4, e⟩ := zd_g e
      refine zs_iast C 102 rfl (zd_vp q4) kd_Mo_give_79 rfl ?_
      refine zk_goto (tgt := 103) C kd_Mo_give_80 (by decide) ?_
      refine zk_lvs (lv' := [(0, .ref (S.1 68)), (1, .int x1), (2, .int x2), (4, .int y0)]) [1, 2, 3, 0] rfl ?_
      exact zb_Mo_give_103 C hR hr_Mo_give (zs_uM h 102 x1.toNatClampNeg (h.2.1 88 (h.1 68 54).toNatClampNeg)) x1 x2 y0 e
set_option maxHeartbeats 4000000 in
set_option maxRecDepth 100000 in
theorem zb_Mo_give_31 {X : zkj_T} {S : zs_T} {P : ze_T} {l : Launch} {D : va_G} {sz0 : Nat} {d : Nat} {rh : zs_H} (C : zk_C X km_Mo_give (zs_G S l D sz0) { frames := 1 + (d + 1), cells := 0, slots := 0, locals := 24 + 25 * (d + 1) } (ze_E P)) (hR : zkj_R X (zd_PV S rh) (none)) {r_Mo_give : zs_H → Int32 → Int32 → (Option zs_H)} (hr_Mo_give : ∀ (h : zs_H) (x0 : Int32) (x1 : Int32) {rh : zs_H}, r_Mo_give h x0 x1 = some rh → zk_Sp (zs_G S l D sz0) (ze_E P) km_Mo_give { frames := 1 + d, cells := 0, slots := 0, locals := 24 + 25 * d } [.ref (S.1 68), .int x0, .int x1] (zs_W S h) (zd_PV S rh)) (h : zs_H) (x1 : Int32) (x2 : Int32) (x3 : Int32) (e : f_Mo_give_31 r_Mo_give h x1 x2 x3 = some rh) : zk_Ab X (zs_W S h) 0 0 31 [(0, .ref (S.1 68)), (1, .int x1), (2, .int x2), (3, .int x3)] [] := by
  unfold f_Mo_give_31 at e
  refine zk_iconst (v := 0) C kd_Mo_give_31 (by decide) rfl ?_
  refine zk_goto (tgt := 52) C kd_Mo_give_32 (by decide) ?_
  refine zk_lvs (lv' := [(0, .ref (S.1 68)), (1, .int x1), (2, .int x2), (3, .int x3)]) [0, 1, 2, 3] rfl ?_
  exact zb_Mo_give_52 C hR hr_Mo_give h x1 x2 x3 0 e
set_option maxHeartbeats 4000000 in
set_option maxRecDepth 100000 in
theorem zb_Mo_give_47 {X : zkj_T} {S : zs_T} {P : ze_T} {l : Launch} {D : va_G} {sz0 : Nat} {d : Nat} {rh : zs_H} (C : zk_C X km_Mo_give (zs_G S l D sz0) { frames := 1 + (d + 1), cells := 0, slots := 0, locals := 24 + 25 * (d + 1) } (ze_E P)) (hR : zkj_R X (zd_PV S rh) (none)) {r_Mo_give : zs_H → Int32 → Int32 → (Option zs_H)} (hr_Mo_give : ∀ (h : zs_H) (x0 : Int32) (x1 : Int32) {rh : zs_H}, r_Mo_give h x0 x1 = some rh → zk_Sp (zs_G S l D sz0) (ze_E P) km_Mo_give { frames := 1 + d, cells := 0, slots := 0, locals := 24 + 25 * d } [.ref (S.1 68), .int x0, .int x1] (zs_W S h) (zd_PV S rh)) (h : zs_H) (x1 : Int32) (x2 : Int32) (x3 : Int32) (e : f_Mo_give_47 r_Mo_give h x1 x2 x3 = some rh) : zk_Ab X (zs_W S h) 0 0 47 [(0, .ref (S.1 68)), (1, .int x1), (2, .int x2), (3, .int x3)] [] := by
  unfold f_Mo_give_47 at e
  refine zk_iconst (v := 1) C kd_Mo_give_47 (by decide) rfl ?_
  refine zk_goto (tgt := 52) C kd_Mo_give_48 (by decide) ?_
  refine zk_lvs (lv' := [(0, .ref (S.1 68)), (1, .int x1), (2, .int x2), (3, .int x3)]) [0, 1, 2, 3] rfl ?_
  exact zb_Mo_give_52 C hR hr_Mo_give h x1 x2 x3 1 e
set_option maxHeartbeats 4000000 in
set_option maxRecDepth 100000 in
theorem zg_Mo_give {l : Launch} {D : va_G} {sz0 : Nat} {S : zs_T} {P : ze_T} {d : Nat} {r_Mo_give : zs_H → Int32 → Int32 → (Option zs_H)} (hr_Mo_give : ∀ (h : zs_H) (x0 : Int32) (x1 : Int32) {rh : zs_H}, r_Mo_give h x0 x1 = some rh → zk_Sp (zs_G S l D sz0) (ze_E P) km_Mo_give { frames := 1 + d, cells := 0, slots := 0, locals := 24 + 25 * d } [.ref (S.1 68), .int x0, .int x1] (zs_W S h) (zd_PV S rh)) (h : zs_H) (x1 : Int32) (x2 : Int32) {rh : zs_H} (e : g_Mo_give r_Mo_give h x1 x2 = some rh) : zk_Sp (zs_G S l D sz0) (ze_E P) km_Mo_give { frames := 1 + (d + 1), cells := 0, slots := 0, locals := 24 + 25 * (d + 1) } [.ref (S.1 68), .int x1, .int x2] (zs_W S h) (zd_PV S rh) := by
  refine zk_met ku_Mo_give (Nat.le_of_ble_eq_true rfl) (ze_Em P) ?_
  intro X C hR
  refine zk_lvs (lv' := [(0, .ref (S.1 68)), (1, .int x1), (2, .int x2)]) [0, 1, 2] rfl ?_
  unfold g_Mo_give at e
  refine zk_aload_n C kd_Mo_give_0 rfl 0 rfl rfl ?_
  refine zs_get (v := .ref (S.1 72)) C 68 15 rfl rfl rfl rfl ki_Mo (by decide) kw1698 kd_Mo_give_1 rfl ?_
  refine zk_iload_n C kd_Mo_give_4 rfl 1 rfl rfl ?_
  obtain ⟨q1, e⟩ := zd_g e
  refine zs_iald C 72 rfl (zd_vp q1) kd_Mo_give_5 rfl ?_
  refine zk_istore_n (lv' := [(3, _), (0, _), (1, _), (2, _)]) C kd_Mo_give_6 rfl (by decide) rfl rfl ?_
  refine zk_iload_n C kd_Mo_give_7 rfl 3 rfl rfl ?_
  refine zk_if_eq (tgt := 35) C kd_Mo_give_8 (by decide) rfl (fun b2 => ?_) (fun b2 => ?_)
  · replace e := zd_pos b2 e
    refine zk_iload_n C kd_Mo_give_35 rfl 0 rfl rfl ?_
    refine zk_bipush (v := 16) C kd_Mo_give_36 (by decide) rfl ?_
    refine zk_icmp_eq (tgt := 47) C kd_Mo_give_38 (by decide) rfl (fun b3 => ?_) (fun b3 => ?_)
    · replace e := zd_pos b3 e
      refine zk_lvs (lv' := [(0, .ref (S.1 68)), (1, .int x1), (2, .int x2), (3, .int (h.2.1 72 x1.toNatClampNeg))]) [1, 2, 3, 0] rfl ?_
      exact zb_Mo_give_47 C hR hr_Mo_give h x1 x2 (h.2.1 72 x1.toNatClampNeg) e
    · replace e := zd_neg b3 e
      refine zk_iload_n C kd_Mo_give_41 rfl 0 rfl rfl ?_
      refine zk_bipush (v := 19) C kd_Mo_give_42 (by decide) rfl ?_
      refine zk_icmp_ne (tgt := 51) C kd_Mo_give_44 (by decide) rfl (fun b4 => ?_) (fun b4 => ?_)
      · replace e := zd_neg b4 e
        refine zk_iconst (v := 0) C kd_Mo_give_51 (by decide) rfl ?_
        refine zk_lvs (lv' := [(0, .ref (S.1 68)), (1, .int x1), (2, .int x2), (3, .int (h.2.1 72 x1.toNatClampNeg))]) [1, 2, 3, 0] rfl ?_
        exact zb_Mo_give_52 C hR hr_Mo_give h x1 x2 (h.2.1 72 x1.toNatClampNeg) 0 e
      · replace e := zd_pos b4 e
        refine zk_lvs (lv' := [(0, .ref (S.1 68)), (1, .int x1), (2, .int x2), (3, .int (h.2.1 72 x1.toNatClampNeg))]) [1, 2, 3, 0] rfl ?_
        exact zb_Mo_give_47 C hR hr_Mo_give h x1 x2 (h.2.1 72 x1.toNatClampNeg) e
  · replace e := zd_neg b2 e
    refine zk_iload_n C kd_Mo_give_11 rfl 0 rfl rfl ?_
    refine zk_bipush (v := 25) C kd_Mo_give_12 (by decide) rfl ?_
    refine zk_icmp_ne (tgt := 31) C kd_Mo_give_14 (by decide) rfl (fun b5 => ?_) (fun b5 => ?_)
    · replace e := zd_neg b5 e
      refine zk_lvs (lv' := [(0, .ref (S.1 68)), (1, .int x1), (2, .int x2), (3, .int (h.2.1 72 x1.toNatClampNeg))]) [1, 2, 3, 0] rfl ?_
      exact zb_Mo_give_31 C hR hr_Mo_give h x1 x2 (h.2.1 72 x1.toNatClampNeg) e
    · replace e := zd_pos b5 e
      refine zk_aload_n C kd_Mo_give_17 rfl 1 rfl rfl ?_
      refine zs_get (v := .ref (S.1 74)) C 68 17 rfl rfl rfl rfl ki_Mo (by decide) kw1700 kd_Mo_give_18 rfl ?_
      refine zk_iload_n C kd_Mo_give_21 rfl 2 rfl rfl ?_
      refine zs_iald C 74 rfl (zd_vp q1) kd_Mo_give_22 rfl ?_
      refine zk_iconst (v := 1) C kd_Mo_give_23 (by decide) rfl ?_
      refine zk_icmp_le (tgt := 31) C kd_Mo_give_24 (by decide) rfl (fun b6 => ?_) (fun b6 => ?_)
      · replace e := zd_pos b6 e
        refine zk_lvs (lv' := [(0, .ref (S.1 68)), (1, .int x1), (2, .int x2), (3, .int (h.2.1 72 x1.toNatClampNeg))]) [1, 2, 3, 0] rfl ?_
        exact zb_Mo_give_31 C hR hr_Mo_give h x1 x2 (h.2.1 72 x1.toNatClampNeg) e
      · replace e := zd_neg b6 e
        refine zk_iconst (v := 1) C kd_Mo_give_27 (by decide) rfl ?_
        refine zk_goto (tgt := 52) C kd_Mo_give_28 (by decide) ?_
        refine zk_lvs (lv' := [(0, .ref (S.1 68)), (1, .int x1), (2, .int x2), (3, .int (h.2.1 72 x1.toNatClampNeg))]) [1, 2, 3, 0] rfl ?_
        exact zb_Mo_give_52 C hR hr_Mo_give h x1 x2 (h.2.1 72 x1.toNatClampNeg) 1 e
theorem zs_Mo_give {l : Launch} {D : va_G} {sz0 : Nat} {S : zs_T} {P : ze_T} (d : Nat) : (∀ (h : zs_H) (x0 : Int32) (x1 : Int32) {rh : zs_H}, f_Mo_give d h x0 x1 = some rh → zk_Sp (zs_G S l D sz0) (ze_E P) km_Mo_give { frames := 1 + d, cells := 0, slots := 0, locals := 24 + 25 * d } [.ref (S.1 68), .int x0, .int x1] (zs_W S h) (zd_PV S rh)) := by
  induction d with
  | zero => exact ((fun h x0 x1 _ e => zd_no e))
  | succ d ih =>
    have q0 := @ih
    have hh : f_Mo_give (d + 1) = g_Mo_give (f_Mo_give d) := zd_its _ _ d
    exact ((fun h x0 x1 _ e => zg_Mo_give (r_Mo_give := f_Mo_give d) q0 h x0 x1 ((congrFun (congrFun (congrFun hh h) x0) x1).symm.trans e)))
theorem zc_Mo_give {l : Launch} {D : va_G} {sz0 : Nat} {S : zs_T} {P : ze_T} (h : zs_H) (x0 : Int32) (x1 : Int32) {rh : zs_H} (e : f_Mo_give 400 h x0 x1 = some rh) : zk_Sp (zs_G S l D sz0) (ze_E P) km_Mo_give { frames := 1 + 400, cells := 0, slots := 0, locals := 24 + 25 * 400 } [.ref (S.1 68), .int x0, .int x1] (zs_W S h) (zd_PV S rh) := (zs_Mo_give 400) h x0 x1 e
set_option maxHeartbeats 4000000 in
set_option maxRecDepth 100000 in
theorem zb_Mo_endBlock_45 {X : zkj_T} {S : zs_T} {P : ze_T} {l : Launch} {D : va_G} {sz0 : Nat} {rh : zs_H} (C : zk_C X km_Mo_endBlock (zs_G S l D sz0) { frames := 402, cells := 0, slots := 0, locals := 10049 } (ze_E P)) (hR : zkj_R X (zd_PV S rh) (none)) (h : zs_H) (y0 : Int32) (y1 : Int32) (y2 : Int32) (e : f_Mo_endBlock_45 h y0 y1 y2 = some rh) : zk_Ab X (zs_W S h) 0 0 45 [] [.int y0, .int y1, .int y2, .ref (S.1 88)] := by
  unfold f_Mo_endBlock_45 at e
  refine zk_iadd C kd_Mo_endBlock_45 rfl ?_
  obtain ⟨q1, e⟩ := zd_g e
  refine zs_iast C 88 rfl (zd_vp q1) kd_Mo_endBlock_46 rfl ?_
  exact zk_vret C hR kd_Mo_endBlock_47 rfl rfl (zd_rV e)
set_option maxHeartbeats 4000000 in
set_option maxRecDepth 100000 in
theorem zc_Mo_endBlock {l : Launch} {D : va_G} {sz0 : Nat} {S : zs_T} {P : ze_T} (h : zs_H) (x1 : Int32) {rh : zs_H} (e : f_Mo_endBlock h x1 = some rh) : zk_Sp (zs_G S l D sz0) (ze_E P) km_Mo_endBlock { frames := 402, cells := 0, slots := 0, locals := 10049 } [.ref (S.1 68), .int x1] (zs_W S h) (zd_PV S rh) := by
  refine zk_met ku_Mo_endBlock (Nat.le_of_ble_eq_true rfl) (ze_Em P) ?_
  intro X C hR
  refine zk_lvs (lv' := [(0, .ref (S.1 68)), (1, .int x1)]) [0, 1] rfl ?_
  unfold f_Mo_endBlock at e
  refine zk_aload_n C kd_Mo_endBlock_0 rfl 0 rfl rfl ?_
  refine zk_iload_n C kd_Mo_endBlock_1 rfl 1 rfl rfl ?_
  refine zk_iconst (v := 0) C kd_Mo_endBlock_2 (by decide) rfl ?_
  obtain ⟨h2, c1, e⟩ := zd_b e
  refine zs_callV (k := 68) (rn := { frames := 1 + 400, cells := 0, slots := 0, locals := 24 + 25 * 400 }) (As := [.int x1, .int 0]) (rest := []) C (zc_Mo_give h x1 0 c1) ku_Mo_give kw2306 kv_Mo_give rfl ⟨by decide, by decide⟩ ⟨by decide, by decide⟩ rfl rfl rfl (Nat.le_of_ble_eq_true rfl) kd_Mo_endBlock_3 rfl (c1 := 0) (s1 := 0) rfl rfl (fun v w hp => ?_)
  obtain ⟨rfl, rfl⟩ := hp
  refine zk_stk (r' := []) rfl ?_
  refine zk_aload_n C kd_Mo_endBlock_6 rfl 0 rfl rfl ?_
  refine zk_iload_n C kd_Mo_endBlock_7 rfl 1 rfl rfl ?_
  refine zk_iconst (v := 1) C kd_Mo_endBlock_8 (by decide) rfl ?_
  obtain ⟨h4, c3, e⟩ := zd_b e
  refine zs_callV (k := 68) (rn := { frames := 1 + 400, cells := 0, slots := 0, locals := 24 + 25 * 400 }) (As := [.int x1, .int 1]) (rest := []) C (zc_Mo_give h2 x1 1 c3) ku_Mo_give kw2306 kv_Mo_give rfl ⟨by decide, by decide⟩ ⟨by decide, by decide⟩ rfl rfl rfl (Nat.le_of_ble_eq_true rfl) kd_Mo_endBlock_9 rfl (c1 := 0) (s1 := 0) rfl rfl (fun v w hp => ?_)
  obtain ⟨rfl, rfl⟩ := hp
  refine zk_stk (r' := []) rfl ?_
  refine zk_aload_n C kd_Mo_endBlock_12 rfl 0 rfl rfl ?_
  refine zs_get (v := .ref (S.1 88)) C 68 38 rfl rfl rfl rfl ki_Mo (by decide) kw1721 kd_Mo_endBlock_13 rfl ?_
  refine zk_aload_n C kd_Mo_endBlock_16 rfl 0 rfl rfl ?_
  refine zs_get (v := .int (h4.1 68 54)) C 68 54 rfl rfl rfl rfl ki_Mo (by decide) kw1737 kd_Mo_endBlock_17 rfl ?_
  refine zk_dup2 C kd_Mo_endBlock_20 rfl rfl rfl ?_
  obtain ⟨q5, e⟩ := zd_g e
  refine zs_iald C 88 rfl (zd_vp q5) kd_Mo_endBlock_21 rfl ?_
  refine zk_aload_n C kd_Mo_endBlock_22 rfl 0 rfl rfl ?_
  refine zs_get (v := .ref (S.1 72)) C 68 15 rfl rfl rfl rfl ki_Mo (by decide) kw1698 kd_Mo_endBlock_23 rfl ?_
  refine zk_aload_n C kd_Mo_endBlock_26 rfl 0 rfl rfl ?_
  refine zs_get (v := .ref (S.1 77)) C 68 20 rfl rfl rfl rfl ki_Mo (by decide) kw1703 kd_Mo_endBlock_27 rfl ?_
  refine zk_iload_n C kd_Mo_endBlock_30 rfl 1 rfl rfl ?_
  obtain ⟨q6, e⟩ := zd_g e
  refine zs_iald C 77 rfl (zd_vp q6) kd_Mo_endBlock_31 rfl ?_
  obtain ⟨q7, e⟩ := zd_g e
  refine zs_iald C 72 rfl (zd_vp q7) kd_Mo_endBlock_32 rfl ?_
  refine zk_bipush (v := 22) C kd_Mo_endBlock_33 (by decide) rfl ?_
  refine zk_icmp_ne (tgt := 44) C kd_Mo_endBlock_35 (by decide) rfl (fun b8 => ?_) (fun b8 => ?_)
  · replace e := zd_neg b8 e
    refine zk_iconst (v := 0) C kd_Mo_endBlock_44 (by decide) rfl ?_
    refine zk_lvs (lv' := []) [] rfl ?_
    exact zb_Mo_endBlock_45 C hR h4 0 (h4.2.1 88 (h4.1 68 54).toNatClampNeg) (h4.1 68 54) e
  · replace e := zd_pos b8 e
    refine zk_sipush (v := 156) C kd_Mo_endBlock_38 (by decide) rfl ?_
    refine zk_goto (tgt := 45) C kd_Mo_endBlock_41 (by decide) ?_
    refine zk_lvs (lv' := []) [] rfl ?_
    exact zb_Mo_endBlock_45 C hR h4 156 (h4.2.1 88 (h4.1 68 54).toNatClampNeg) (h4.1 68 54) e
