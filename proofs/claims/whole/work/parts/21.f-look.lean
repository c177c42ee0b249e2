theorem kw2341 : Jvm.Cond.instanceMethod ({ cls := "PlantKeeperModel", name := "lookAtStatements", desc := "(I)V" } : Jvm.MethodName) ∈ zk_BW := zk_inT 2341 (by decide +kernel) rfl
theorem kw2342 : Jvm.Cond.code ({ cls := "PlantKeeperModel", name := "lookAtStatements", desc := "(I)V" } : Jvm.MethodName) prog_14_method_97_code (4 : Nat) (Option.none : Option FieldType) ∈ zk_BW := zk_inT 2342 (by decide +kernel) rfl
theorem kw2354 : Jvm.Cond.methodLink "PlantKeeperModel" (603 : Nat) ({ cls := "PlantKeeperModel", name := "lookAtInstance", desc := "(I)V" } : Jvm.MethodName) ∈ zk_BW := zk_inT 2354 (by decide +kernel) rfl
theorem kw2358 : Jvm.Cond.methodLink "PlantKeeperModel" (606 : Nat) ({ cls := "PlantKeeperModel", name := "lookAtParameter", desc := "(I)V" } : Jvm.MethodName) ∈ zk_BW := zk_inT 2358 (by decide +kernel) rfl
theorem kw2360 : Jvm.Cond.instanceMethod ({ cls := "PlantKeeperModel", name := "lookAtParameter", desc := "(I)V" } : Jvm.MethodName) ∈ zk_BW := zk_inT 2360 (by decide +kernel) rfl
theorem kw2361 : Jvm.Cond.code ({ cls := "PlantKeeperModel", name := "lookAtParameter", desc := "(I)V" } : Jvm.MethodName) prog_14_method_99_code (5 : Nat) (Option.none : Option FieldType) ∈ zk_BW := zk_inT 2361 (by decide +kernel) rfl
theorem kw2362 : Jvm.Cond.methodLink "PlantKeeperModel" (615 : Nat) ({ cls := "PlantKeeperModel", name := "pin", desc := "(IZI)I" } : Jvm.MethodName) ∈ zk_BW := zk_inT 2362 (by decide +kernel) rfl
theorem kw2461 : Jvm.Cond.methodLink "PlantKeeperModel" (619 : Nat) ({ cls := "PlantKeeperModel", name := "pinType", desc := "(IZI)I" } : Jvm.MethodName) ∈ zk_BW := zk_inT 2461 (by decide +kernel) rfl
theorem kw2465 : Jvm.Cond.methodLink "PlantKeeperModel" (622 : Nat) ({ cls := "PlantKeeperModel", name := "pinCell", desc := "(IZI)I" } : Jvm.MethodName) ∈ zk_BW := zk_inT 2465 (by decide +kernel) rfl
theorem kw2472 : Jvm.Cond.methodLink "PlantKeeperModel" (612 : Nat) ({ cls := "PlantKeeperModel", name := "lookAtLoop", desc := "(I)V" } : Jvm.MethodName) ∈ zk_BW := zk_inT 2472 (by decide +kernel) rfl
theorem kw2487 : Jvm.Cond.instanceMethod ({ cls := "PlantKeeperModel", name := "lookAtExpressions", desc := "(I)V" } : Jvm.MethodName) ∈ zk_BW := zk_inT 2487 (by decide +kernel) rfl
theorem kw2488 : Jvm.Cond.code ({ cls := "PlantKeeperModel", name := "lookAtExpressions", desc := "(I)V" } : Jvm.MethodName) prog_14_method_103_code (2 : Nat) (Option.none : Option FieldType) ∈ zk_BW := zk_inT 2488 (by decide +kernel) rfl
theorem kw2489 : Jvm.Cond.methodLink "PlantKeeperModel" (630 : Nat) ({ cls := "PlantKeeperModel", name := "lookAtElement", desc := "(I)V" } : Jvm.MethodName) ∈ zk_BW := zk_inT 2489 (by decide +kernel) rfl
theorem kw2493 : Jvm.Cond.methodLink "PlantKeeperModel" (633 : Nat) ({ cls := "PlantKeeperModel", name := "lookAtOutput", desc := "(I)V" } : Jvm.MethodName) ∈ zk_BW := zk_inT 2493 (by decide +kernel) rfl
theorem kw2495 : Jvm.Cond.instanceMethod ({ cls := "PlantKeeperModel", name := "lookAtOutput", desc := "(I)V" } : Jvm.MethodName) ∈ zk_BW := zk_inT 2495 (by decide +kernel) rfl
theorem kw2496 : Jvm.Cond.code ({ cls := "PlantKeeperModel", name := "lookAtOutput", desc := "(I)V" } : Jvm.MethodName) prog_14_method_105_code (4 : Nat) (Option.none : Option FieldType) ∈ zk_BW := zk_inT 2496 (by decide +kernel) rfl
theorem kw2497 : Jvm.Cond.methodLink "PlantKeeperModel" (636 : Nat) ({ cls := "PlantKeeperModel", name := "lookAtCall", desc := "(I)V" } : Jvm.MethodName) ∈ zk_BW := zk_inT 2497 (by decide +kernel) rfl
theorem kw2512 : Jvm.Cond.methodLink "PlantKeeperModel" (639 : Nat) ({ cls := "PlantKeeperModel", name := "lookAtTwo", desc := "(I)V" } : Jvm.MethodName) ∈ zk_BW := zk_inT 2512 (by decide +kernel) rfl
abbrev kc_Mo_lookAtExpressions : ByteArray := prog_14_method_103_code
def km_Mo_lookAtExpressions : zk_MT := (⟨"PlantKeeperModel", "lookAtExpressions", "(I)V"⟩, kc_Mo_lookAtExpressions, 2, none, 1)
theorem ku_Mo_lookAtExpressions : zk_My km_Mo_lookAtExpressions := ⟨kw2488, kw17, by decide, by decide, by decide, by decide +kernel⟩
theorem kv_Mo_lookAtExpressions : zk_Mv km_Mo_lookAtExpressions := ⟨kw2487, zk_inS 239 (q := (⟨"PlantKeeperModel", "lookAtExpressions", "(I)V"⟩, 96)) (by decide +kernel)⟩
abbrev kc_Mo_lookAtOutput : ByteArray := prog_14_method_105_code
def km_Mo_lookAtOutput : zk_MT := (⟨"PlantKeeperModel", "lookAtOutput", "(I)V"⟩, kc_Mo_lookAtOutput, 4, none, 1)
theorem ku_Mo_lookAtOutput : zk_My km_Mo_lookAtOutput := ⟨kw2496, kw17, by decide, by decide, by decide, by decide +kernel⟩
theorem kv_Mo_lookAtOutput : zk_Mv km_Mo_lookAtOutput := ⟨kw2495, zk_inS 241 (q := (⟨"PlantKeeperModel", "lookAtOutput", "(I)V"⟩, 96)) (by decide +kernel)⟩
abbrev kc_Mo_lookAtParameter : ByteArray := prog_14_method_99_code
def km_Mo_lookAtParameter : zk_MT := (⟨"PlantKeeperModel", "lookAtParameter", "(I)V"⟩, kc_Mo_lookAtParameter, 5, none, 1)
theorem ku_Mo_lookAtParameter : zk_My km_Mo_lookAtParameter := ⟨kw2361, kw17, by decide, by decide, by decide, by decide +kernel⟩
theorem kv_Mo_lookAtParameter : zk_Mv km_Mo_lookAtParameter := ⟨kw2360, zk_inS 231 (q := (⟨"PlantKeeperModel", "lookAtParameter", "(I)V"⟩, 96)) (by decide +kernel)⟩
abbrev kc_Mo_lookAtStatements : ByteArray := prog_14_method_97_code
def km_Mo_lookAtStatements : zk_MT := (⟨"PlantKeeperModel", "lookAtStatements", "(I)V"⟩, kc_Mo_lookAtStatements, 4, none, 1)
theorem ku_Mo_lookAtStatements : zk_My km_Mo_lookAtStatements := ⟨kw2342, kw17, by decide, by decide, by decide, by decide +kernel⟩
theorem kv_Mo_lookAtStatements : zk_Mv km_Mo_lookAtStatements := ⟨kw2341, zk_inS 227 (q := (⟨"PlantKeeperModel", "lookAtStatements", "(I)V"⟩, 96)) (by decide +kernel)⟩
theorem kd_Mo_lookAtExpressions_0 : decode kc_Mo_lookAtExpressions 0 = .ok (.aload_n 0, 1) := by decide +kernel
theorem kd_Mo_lookAtExpressions_1 : decode kc_Mo_lookAtExpressions 1 = .ok (.getfield 22, 3) := by decide +kernel
theorem kd_Mo_lookAtExpressions_4 : decode kc_Mo_lookAtExpressions 4 = .ok (.iload_n 1, 1) := by decide +kernel
theorem kd_Mo_lookAtExpressions_5 : decode kc_Mo_lookAtExpressions 5 = .ok (.iaload, 1) := by decide +kernel
theorem kd_Mo_lookAtExpressions_6 : decode kc_Mo_lookAtExpressions 6 = .ok (.tableswitch 106 30 35 #[38, 64, 74, 82, 90, 98], 38) := by decide +kernel
theorem kd_Mo_lookAtExpressions_44 : decode kc_Mo_lookAtExpressions 44 = .ok (.aload_n 0, 1) := by decide +kernel
theorem kd_Mo_lookAtExpressions_45 : decode kc_Mo_lookAtExpressions 45 = .ok (.getfield 106, 3) := by decide +kernel
theorem kd_Mo_lookAtExpressions_48 : decode kc_Mo_lookAtExpressions 48 = .ok (.iload_n 1, 1) := by decide +kernel
theorem kd_Mo_lookAtExpressions_49 : decode kc_Mo_lookAtExpressions 49 = .ok (.aload_n 0, 1) := by decide +kernel
theorem kd_Mo_lookAtExpressions_50 : decode kc_Mo_lookAtExpressions 50 = .ok (.getfield 28, 3) := by decide +kernel
theorem kd_Mo_lookAtExpressions_53 : decode kc_Mo_lookAtExpressions 53 = .ok (.iload_n 1, 1) := by decide +kernel
theorem kd_Mo_lookAtExpressions_54 : decode kc_Mo_lookAtExpressions 54 = .ok (.iaload, 1) := by decide +kernel
theorem kd_Mo_lookAtExpressions_55 : decode kc_Mo_lookAtExpressions 55 = .ok (.sipush 32767, 3) := by decide +kernel
theorem kd_Mo_lookAtExpressions_58 : decode kc_Mo_lookAtExpressions 58 = .ok (.if_icmp .le 7, 3) := by decide +kernel
theorem kd_Mo_lookAtExpressions_61 : decode kc_Mo_lookAtExpressions 61 = .ok (.iconst 2, 1) := by decide +kernel
theorem kd_Mo_lookAtExpressions_62 : decode kc_Mo_lookAtExpressions 62 = .ok (.goto 4, 3) := by decide +kernel
theorem kd_Mo_lookAtExpressions_65 : decode kc_Mo_lookAtExpressions 65 = .ok (.iconst 1, 1) := by decide +kernel
theorem kd_Mo_lookAtExpressions_66 : decode kc_Mo_lookAtExpressions 66 = .ok (.iastore, 1) := by decide +kernel
theorem kd_Mo_lookAtExpressions_67 : decode kc_Mo_lookAtExpressions 67 = .ok (.goto 100, 3) := by decide +kernel
theorem kd_Mo_lookAtExpressions_70 : decode kc_Mo_lookAtExpressions 70 = .ok (.aload_n 0, 1) := by decide +kernel
theorem kd_Mo_lookAtExpressions_71 : decode kc_Mo_lookAtExpressions 71 = .ok (.getfield 106, 3) := by decide +kernel
theorem kd_Mo_lookAtExpressions_74 : decode kc_Mo_lookAtExpressions 74 = .ok (.iload_n 1, 1) := by decide +kernel
theorem kd_Mo_lookAtExpressions_75 : decode kc_Mo_lookAtExpressions 75 = .ok (.iconst 0, 1) := by decide +kernel
theorem kd_Mo_lookAtExpressions_76 : decode kc_Mo_lookAtExpressions 76 = .ok (.iastore, 1) := by decide +kernel
theorem kd_Mo_lookAtExpressions_77 : decode kc_Mo_lookAtExpressions 77 = .ok (.goto 90, 3) := by decide +kernel
theorem kd_Mo_lookAtExpressions_80 : decode kc_Mo_lookAtExpressions 80 = .ok (.aload_n 0, 1) := by decide +kernel
theorem kd_Mo_lookAtExpressions_81 : decode kc_Mo_lookAtExpressions 81 = .ok (.iload_n 1, 1) := by decide +kernel
theorem kd_Mo_lookAtExpressions_82 : decode kc_Mo_lookAtExpressions 82 = .ok (.invokevirtual 630, 3) := by decide +kernel
theorem kd_Mo_lookAtExpressions_85 : decode kc_Mo_lookAtExpressions 85 = .ok (.goto 82, 3) := by decide +kernel
theorem kd_Mo_lookAtExpressions_88 : decode kc_Mo_lookAtExpressions 88 = .ok (.aload_n 0, 1) := by decide +kernel
theorem kd_Mo_lookAtExpressions_89 : decode kc_Mo_lookAtExpressions 89 = .ok (.iload_n 1, 1) := by decide +kernel
theorem kd_Mo_lookAtExpressions_90 : decode kc_Mo_lookAtExpressions 90 = .ok (.invokevirtual 633, 3) := by decide +kernel
theorem kd_Mo_lookAtExpressions_93 : decode kc_Mo_lookAtExpressions 93 = .ok (.goto 74, 3) := by decide +kernel
theorem kd_Mo_lookAtExpressions_96 : decode kc_Mo_lookAtExpressions 96 = .ok (.aload_n 0, 1) := by decide +kernel
theorem kd_Mo_lookAtExpressions_97 : decode kc_Mo_lookAtExpressions 97 = .ok (.iload_n 1, 1) := by decide +kernel
theorem kd_Mo_lookAtExpressions_98 : decode kc_Mo_lookAtExpressions 98 = .ok (.invokevirtual 636, 3) := by decide +kernel
theorem kd_Mo_lookAtExpressions_101 : decode kc_Mo_lookAtExpressions 101 = .ok (.goto 66, 3) := by decide +kernel
theorem kd_Mo_lookAtExpressions_104 : decode kc_Mo_lookAtExpressions 104 = .ok (.aload_n 0, 1) := by decide +kernel
theorem kd_Mo_lookAtExpressions_105 : decode kc_Mo_lookAtExpressions 105 = .ok (.iload_n 1, 1) := by decide +kernel
theorem kd_Mo_lookAtExpressions_106 : decode kc_Mo_lookAtExpressions 106 = .ok (.invokevirtual 639, 3) := by decide +kernel
theorem kd_Mo_lookAtExpressions_109 : decode kc_Mo_lookAtExpressions 109 = .ok (.goto 58, 3) := by decide +kernel
theorem kd_Mo_lookAtExpressions_112 : decode kc_Mo_lookAtExpressions 112 = .ok (.aload_n 0, 1) := by decide +kernel
theorem kd_Mo_lookAtExpressions_113 : decode kc_Mo_lookAtExpressions 113 = .ok (.aload_n 0, 1) := by decide +kernel
theorem kd_Mo_lookAtExpressions_114 : decode kc_Mo_lookAtExpressions 114 = .ok (.getfield 28, 3) := by decide +kernel
theorem kd_Mo_lookAtExpressions_117 : decode kc_Mo_lookAtExpressions 117 = .ok (.iload_n 1, 1) := by decide +kernel
theorem kd_Mo_lookAtExpressions_118 : decode kc_Mo_lookAtExpressions 118 = .ok (.iaload, 1) := by decide +kernel
theorem kd_Mo_lookAtExpressions_119 : decode kc_Mo_lookAtExpressions 119 = .ok (.ifCond .ne 24, 3) := by decide +kernel
theorem kd_Mo_lookAtExpressions_122 : decode kc_Mo_lookAtExpressions 122 = .ok (.aload_n 0, 1) := by decide +kernel
theorem kd_Mo_lookAtExpressions_123 : decode kc_Mo_lookAtExpressions 123 = .ok (.getfield 106, 3) := by decide +kernel
theorem kd_Mo_lookAtExpressions_126 : decode kc_Mo_lookAtExpressions 126 = .ok (.aload_n 0, 1) := by decide +kernel
theorem kd_Mo_lookAtExpressions_127 : decode kc_Mo_lookAtExpressions 127 = .ok (.getfield 34, 3) := by decide +kernel
theorem kd_Mo_lookAtExpressions_130 : decode kc_Mo_lookAtExpressions 130 = .ok (.iload_n 1, 1) := by decide +kernel
theorem kd_Mo_lookAtExpressions_131 : decode kc_Mo_lookAtExpressions 131 = .ok (.iaload, 1) := by decide +kernel
theorem kd_Mo_lookAtExpressions_132 : decode kc_Mo_lookAtExpressions 132 = .ok (.iaload, 1) := by decide +kernel
theorem kd_Mo_lookAtExpressions_133 : decode kc_Mo_lookAtExpressions 133 = .ok (.invokestatic 609, 3) := by decide +kernel
theorem kd_Mo_lookAtExpressions_136 : decode kc_Mo_lookAtExpressions 136 = .ok (.ifCond .ne 7, 3) := by decide +kernel
theorem kd_Mo_lookAtExpressions_139 : decode kc_Mo_lookAtExpressions 139 = .ok (.iconst 1, 1) := by decide +kernel
theorem kd_Mo_lookAtExpressions_140 : decode kc_Mo_lookAtExpressions 140 = .ok (.goto 4, 3) := by decide +kernel
theorem kd_Mo_lookAtExpressions_143 : decode kc_Mo_lookAtExpressions 143 = .ok (.iconst 0, 1) := by decide +kernel
theorem kd_Mo_lookAtExpressions_144 : decode kc_Mo_lookAtExpressions 144 = .ok (.bipush 28, 2) := by decide +kernel
theorem kd_Mo_lookAtExpressions_146 : decode kc_Mo_lookAtExpressions 146 = .ok (.iload_n 1, 1) := by decide +kernel
theorem kd_Mo_lookAtExpressions_147 : decode kc_Mo_lookAtExpressions 147 = .ok (.invokevirtual 540, 3) := by decide +kernel
theorem kd_Mo_lookAtExpressions_150 : decode kc_Mo_lookAtExpressions 150 = .ok (.aload_n 0, 1) := by decide +kernel
theorem kd_Mo_lookAtExpressions_151 : decode kc_Mo_lookAtExpressions 151 = .ok (.getfield 106, 3) := by decide +kernel
theorem kd_Mo_lookAtExpressions_154 : decode kc_Mo_lookAtExpressions 154 = .ok (.iload_n 1, 1) := by decide +kernel
theorem kd_Mo_lookAtExpressions_155 : decode kc_Mo_lookAtExpressions 155 = .ok (.aload_n 0, 1) := by decide +kernel
theorem kd_Mo_lookAtExpressions_156 : decode kc_Mo_lookAtExpressions 156 = .ok (.getfield 106, 3) := by decide +kernel
theorem kd_Mo_lookAtExpressions_159 : decode kc_Mo_lookAtExpressions 159 = .ok (.aload_n 0, 1) := by decide +kernel
theorem kd_Mo_lookAtExpressions_160 : decode kc_Mo_lookAtExpressions 160 = .ok (.getfield 34, 3) := by decide +kernel
theorem kd_Mo_lookAtExpressions_163 : decode kc_Mo_lookAtExpressions 163 = .ok (.iload_n 1, 1) := by decide +kernel
theorem kd_Mo_lookAtExpressions_164 : decode kc_Mo_lookAtExpressions 164 = .ok (.iaload, 1) := by decide +kernel
theorem kd_Mo_lookAtExpressions_165 : decode kc_Mo_lookAtExpressions 165 = .ok (.iaload, 1) := by decide +kernel
theorem kd_Mo_lookAtExpressions_166 : decode kc_Mo_lookAtExpressions 166 = .ok (.iastore, 1) := by decide +kernel
theorem kd_Mo_lookAtExpressions_167 : decode kc_Mo_lookAtExpressions 167 = .ok (.return_, 1) := by decide +kernel
theorem kd_Mo_lookAtOutput_0 : decode kc_Mo_lookAtOutput 0 = .ok (.aload_n 0, 1) := by decide +kernel
theorem kd_Mo_lookAtOutput_1 : decode kc_Mo_lookAtOutput 1 = .ok (.iload_n 1, 1) := by decide +kernel
theorem kd_Mo_lookAtOutput_2 : decode kc_Mo_lookAtOutput 2 = .ok (.invokevirtual 603, 3) := by decide +kernel
theorem kd_Mo_lookAtOutput_5 : decode kc_Mo_lookAtOutput 5 = .ok (.aload_n 0, 1) := by decide +kernel
theorem kd_Mo_lookAtOutput_6 : decode kc_Mo_lookAtOutput 6 = .ok (.getfield 445, 3) := by decide +kernel
theorem kd_Mo_lookAtOutput_9 : decode kc_Mo_lookAtOutput 9 = .ok (.ifCond .ne 107, 3) := by decide +kernel
theorem kd_Mo_lookAtOutput_12 : decode kc_Mo_lookAtOutput 12 = .ok (.aload_n 0, 1) := by decide +kernel
theorem kd_Mo_lookAtOutput_13 : decode kc_Mo_lookAtOutput 13 = .ok (.aload_n 0, 1) := by decide +kernel
theorem kd_Mo_lookAtOutput_14 : decode kc_Mo_lookAtOutput 14 = .ok (.getfield 550, 3) := by decide +kernel
theorem kd_Mo_lookAtOutput_17 : decode kc_Mo_lookAtOutput 17 = .ok (.aload_n 0, 1) := by decide +kernel
theorem kd_Mo_lookAtOutput_18 : decode kc_Mo_lookAtOutput 18 = .ok (.getfield 28, 3) := by decide +kernel
theorem kd_Mo_lookAtOutput_21 : decode kc_Mo_lookAtOutput 21 = .ok (.iload_n 1, 1) := by decide +kernel
theorem kd_Mo_lookAtOutput_22 : decode kc_Mo_lookAtOutput 22 = .ok (.iaload, 1) := by decide +kernel
theorem kd_Mo_lookAtOutput_23 : decode kc_Mo_lookAtOutput 23 = .ok (.invokevirtual 507, 3) := by decide +kernel
theorem kd_Mo_lookAtOutput_26 : decode kc_Mo_lookAtOutput 26 = .ok (.istore_n 2, 1) := by decide +kernel
theorem kd_Mo_lookAtOutput_27 : decode kc_Mo_lookAtOutput 27 = .ok (.aload_n 0, 1) := by decide +kernel
theorem kd_Mo_lookAtOutput_28 : decode kc_Mo_lookAtOutput 28 = .ok (.aload_n 0, 1) := by decide +kernel
theorem kd_Mo_lookAtOutput_29 : decode kc_Mo_lookAtOutput 29 = .ok (.getfield 85, 3) := by decide +kernel
theorem kd_Mo_lookAtOutput_32 : decode kc_Mo_lookAtOutput 32 = .ok (.iload_n 2, 1) := by decide +kernel
theorem kd_Mo_lookAtOutput_33 : decode kc_Mo_lookAtOutput 33 = .ok (.iaload, 1) := by decide +kernel
theorem kd_Mo_lookAtOutput_34 : decode kc_Mo_lookAtOutput 34 = .ok (.iconst 0, 1) := by decide +kernel
theorem kd_Mo_lookAtOutput_35 : decode kc_Mo_lookAtOutput 35 = .ok (.aload_n 0, 1) := by decide +kernel
theorem kd_Mo_lookAtOutput_36 : decode kc_Mo_lookAtOutput 36 = .ok (.getfield 28, 3) := by decide +kernel
theorem kd_Mo_lookAtOutput_39 : decode kc_Mo_lookAtOutput 39 = .ok (.aload_n 0, 1) := by decide +kernel
theorem kd_Mo_lookAtOutput_40 : decode kc_Mo_lookAtOutput 40 = .ok (.getfield 34, 3) := by decide +kernel
theorem kd_Mo_lookAtOutput_43 : decode kc_Mo_lookAtOutput 43 = .ok (.iload_n 1, 1) := by decide +kernel
theorem kd_Mo_lookAtOutput_44 : decode kc_Mo_lookAtOutput 44 = .ok (.iaload, 1) := by decide +kernel
theorem kd_Mo_lookAtOutput_45 : decode kc_Mo_lookAtOutput 45 = .ok (.iaload, 1) := by decide +kernel
theorem kd_Mo_lookAtOutput_46 : decode kc_Mo_lookAtOutput 46 = .ok (.invokevirtual 615, 3) := by decide +kernel
theorem kd_Mo_lookAtOutput_49 : decode kc_Mo_lookAtOutput 49 = .ok (.istore_n 3, 1) := by decide +kernel
theorem kd_Mo_lookAtOutput_50 : decode kc_Mo_lookAtOutput 50 = .ok (.aload_n 0, 1) := by decide +kernel
theorem kd_Mo_lookAtOutput_51 : decode kc_Mo_lookAtOutput 51 = .ok (.iload_n 3, 1) := by decide +kernel
theorem kd_Mo_lookAtOutput_52 : decode kc_Mo_lookAtOutput 52 = .ok (.ifCond .ge 7, 3) := by decide +kernel
theorem kd_Mo_lookAtOutput_55 : decode kc_Mo_lookAtOutput 55 = .ok (.iconst 1, 1) := by decide +kernel
theorem kd_Mo_lookAtOutput_56 : decode kc_Mo_lookAtOutput 56 = .ok (.goto 4, 3) := by decide +kernel
theorem kd_Mo_lookAtOutput_59 : decode kc_Mo_lookAtOutput 59 = .ok (.iconst 0, 1) := by decide +kernel
theorem kd_Mo_lookAtOutput_60 : decode kc_Mo_lookAtOutput 60 = .ok (.bipush 23, 2) := by decide +kernel
theorem kd_Mo_lookAtOutput_62 : decode kc_Mo_lookAtOutput 62 = .ok (.iload_n 1, 1) := by decide +kernel
theorem kd_Mo_lookAtOutput_63 : decode kc_Mo_lookAtOutput 63 = .ok (.invokevirtual 540, 3) := by decide +kernel
theorem kd_Mo_lookAtOutput_66 : decode kc_Mo_lookAtOutput 66 = .ok (.aload_n 0, 1) := by decide +kernel
theorem kd_Mo_lookAtOutput_67 : decode kc_Mo_lookAtOutput 67 = .ok (.getfield 445, 3) := by decide +kernel
theorem kd_Mo_lookAtOutput_70 : decode kc_Mo_lookAtOutput 70 = .ok (.ifCond .ne 46, 3) := by decide +kernel
theorem kd_Mo_lookAtOutput_73 : decode kc_Mo_lookAtOutput 73 = .ok (.aload_n 0, 1) := by decide +kernel
theorem kd_Mo_lookAtOutput_74 : decode kc_Mo_lookAtOutput 74 = .ok (.getfield 106, 3) := by decide +kernel
theorem kd_Mo_lookAtOutput_77 : decode kc_Mo_lookAtOutput 77 = .ok (.iload_n 1, 1) := by decide +kernel
theorem kd_Mo_lookAtOutput_78 : decode kc_Mo_lookAtOutput 78 = .ok (.aload_n 0, 1) := by decide +kernel
theorem kd_Mo_lookAtOutput_79 : decode kc_Mo_lookAtOutput 79 = .ok (.aload_n 0, 1) := by decide +kernel
theorem kd_Mo_lookAtOutput_80 : decode kc_Mo_lookAtOutput 80 = .ok (.getfield 85, 3) := by decide +kernel
theorem kd_Mo_lookAtOutput_83 : decode kc_Mo_lookAtOutput 83 = .ok (.iload_n 2, 1) := by decide +kernel
theorem kd_Mo_lookAtOutput_84 : decode kc_Mo_lookAtOutput 84 = .ok (.iaload, 1) := by decide +kernel
theorem kd_Mo_lookAtOutput_85 : decode kc_Mo_lookAtOutput 85 = .ok (.iconst 0, 1) := by decide +kernel
theorem kd_Mo_lookAtOutput_86 : decode kc_Mo_lookAtOutput 86 = .ok (.iload_n 3, 1) := by decide +kernel
theorem kd_Mo_lookAtOutput_87 : decode kc_Mo_lookAtOutput 87 = .ok (.invokevirtual 619, 3) := by decide +kernel
theorem kd_Mo_lookAtOutput_90 : decode kc_Mo_lookAtOutput 90 = .ok (.iastore, 1) := by decide +kernel
theorem kd_Mo_lookAtOutput_91 : decode kc_Mo_lookAtOutput 91 = .ok (.aload_n 0, 1) := by decide +kernel
theorem kd_Mo_lookAtOutput_92 : decode kc_Mo_lookAtOutput 92 = .ok (.getfield 109, 3) := by decide +kernel
theorem kd_Mo_lookAtOutput_95 : decode kc_Mo_lookAtOutput 95 = .ok (.iload_n 1, 1) := by decide +kernel
theorem kd_Mo_lookAtOutput_96 : decode kc_Mo_lookAtOutput 96 = .ok (.aload_n 0, 1) := by decide +kernel
theorem kd_Mo_lookAtOutput_97 : decode kc_Mo_lookAtOutput 97 = .ok (.getfield 88, 3) := by decide +kernel
theorem kd_Mo_lookAtOutput_100 : decode kc_Mo_lookAtOutput 100 = .ok (.iload_n 2, 1) := by decide +kernel
theorem kd_Mo_lookAtOutput_101 : decode kc_Mo_lookAtOutput 101 = .ok (.iaload, 1) := by decide +kernel
theorem kd_Mo_lookAtOutput_102 : decode kc_Mo_lookAtOutput 102 = .ok (.aload_n 0, 1) := by decide +kernel
theorem kd_Mo_lookAtOutput_103 : decode kc_Mo_lookAtOutput 103 = .ok (.aload_n 0, 1) := by decide +kernel
theorem kd_Mo_lookAtOutput_104 : decode kc_Mo_lookAtOutput 104 = .ok (.getfield 85, 3) := by decide +kernel
theorem kd_Mo_lookAtOutput_107 : decode kc_Mo_lookAtOutput 107 = .ok (.iload_n 2, 1) := by decide +kernel
theorem kd_Mo_lookAtOutput_108 : decode kc_Mo_lookAtOutput 108 = .ok (.iaload, 1) := by decide +kernel
theorem kd_Mo_lookAtOutput_109 : decode kc_Mo_lookAtOutput 109 = .ok (.iconst 0, 1) := by decide +kernel
theorem kd_Mo_lookAtOutput_110 : decode kc_Mo_lookAtOutput 110 = .ok (.iload_n 3, 1) := by decide +kernel
theorem kd_Mo_lookAtOutput_111 : decode kc_Mo_lookAtOutput 111 = .ok (.invokevirtual 622, 3) := by decide +kernel
theorem kd_Mo_lookAtOutput_114 : decode kc_Mo_lookAtOutput 114 = .ok (.iadd, 1) := by decide +kernel
theorem kd_Mo_lookAtOutput_115 : decode kc_Mo_lookAtOutput 115 = .ok (.iastore, 1) := by decide +kernel
theorem kd_Mo_lookAtOutput_116 : decode kc_Mo_lookAtOutput 116 = .ok (.return_, 1) := by decide +kernel
theorem kd_Mo_lookAtParameter_0 : decode kc_Mo_lookAtParameter 0 = .ok (.aload_n 0, 1) := by decide +kernel
theorem kd_Mo_lookAtParameter_1 : decode kc_Mo_lookAtParameter 1 = .ok (.aload_n 0, 1) := by decide +kernel
theorem kd_Mo_lookAtParameter_2 : decode kc_Mo_lookAtParameter 2 = .ok (.getfield 550, 3) := by decide +kernel
theorem kd_Mo_lookAtParameter_5 : decode kc_Mo_lookAtParameter 5 = .ok (.aload_n 0, 1) := by decide +kernel
theorem kd_Mo_lookAtParameter_6 : decode kc_Mo_lookAtParameter 6 = .ok (.getfield 28, 3) := by decide +kernel
theorem kd_Mo_lookAtParameter_9 : decode kc_Mo_lookAtParameter 9 = .ok (.aload_n 0, 1) := by decide +kernel
theorem kd_Mo_lookAtParameter_10 : decode kc_Mo_lookAtParameter 10 = .ok (.getfield 31, 3) := by decide +kernel
theorem kd_Mo_lookAtParameter_13 : decode kc_Mo_lookAtParameter 13 = .ok (.iload_n 1, 1) := by decide +kernel
theorem kd_Mo_lookAtParameter_14 : decode kc_Mo_lookAtParameter 14 = .ok (.iaload, 1) := by decide +kernel
theorem kd_Mo_lookAtParameter_15 : decode kc_Mo_lookAtParameter 15 = .ok (.iaload, 1) := by decide +kernel
theorem kd_Mo_lookAtParameter_16 : decode kc_Mo_lookAtParameter 16 = .ok (.invokevirtual 507, 3) := by decide +kernel
theorem kd_Mo_lookAtParameter_19 : decode kc_Mo_lookAtParameter 19 = .ok (.istore_n 2, 1) := by decide +kernel
theorem kd_Mo_lookAtParameter_20 : decode kc_Mo_lookAtParameter 20 = .ok (.iload_n 2, 1) := by decide +kernel
theorem kd_Mo_lookAtParameter_21 : decode kc_Mo_lookAtParameter 21 = .ok (.ifCond .lt 13, 3) := by decide +kernel
theorem kd_Mo_lookAtParameter_24 : decode kc_Mo_lookAtParameter 24 = .ok (.aload_n 0, 1) := by decide +kernel
theorem kd_Mo_lookAtParameter_25 : decode kc_Mo_lookAtParameter 25 = .ok (.getfield 82, 3) := by decide +kernel
theorem kd_Mo_lookAtParameter_28 : decode kc_Mo_lookAtParameter 28 = .ok (.iload_n 2, 1) := by decide +kernel
theorem kd_Mo_lookAtParameter_29 : decode kc_Mo_lookAtParameter 29 = .ok (.iaload, 1) := by decide +kernel
theorem kd_Mo_lookAtParameter_30 : decode kc_Mo_lookAtParameter 30 = .ok (.iconst 2, 1) := by decide +kernel
theorem kd_Mo_lookAtParameter_31 : decode kc_Mo_lookAtParameter 31 = .ok (.if_icmp .eq 4, 3) := by decide +kernel
theorem kd_Mo_lookAtParameter_34 : decode kc_Mo_lookAtParameter 34 = .ok (.return_, 1) := by decide +kernel
theorem kd_Mo_lookAtParameter_35 : decode kc_Mo_lookAtParameter 35 = .ok (.aload_n 0, 1) := by decide +kernel
theorem kd_Mo_lookAtParameter_36 : decode kc_Mo_lookAtParameter 36 = .ok (.aload_n 0, 1) := by decide +kernel
theorem kd_Mo_lookAtParameter_37 : decode kc_Mo_lookAtParameter 37 = .ok (.getfield 85, 3) := by decide +kernel
theorem kd_Mo_lookAtParameter_40 : decode kc_Mo_lookAtParameter 40 = .ok (.iload_n 2, 1) := by decide +kernel
theorem kd_Mo_lookAtParameter_41 : decode kc_Mo_lookAtParameter 41 = .ok (.iaload, 1) := by decide +kernel
theorem kd_Mo_lookAtParameter_42 : decode kc_Mo_lookAtParameter 42 = .ok (.iconst 1, 1) := by decide +kernel
theorem kd_Mo_lookAtParameter_43 : decode kc_Mo_lookAtParameter 43 = .ok (.aload_n 0, 1) := by decide +kernel
theorem kd_Mo_lookAtParameter_44 : decode kc_Mo_lookAtParameter 44 = .ok (.getfield 28, 3) := by decide +kernel
theorem kd_Mo_lookAtParameter_47 : decode kc_Mo_lookAtParameter 47 = .ok (.iload_n 1, 1) := by decide +kernel
theorem kd_Mo_lookAtParameter_48 : decode kc_Mo_lookAtParameter 48 = .ok (.iaload, 1) := by decide +kernel
theorem kd_Mo_lookAtParameter_49 : decode kc_Mo_lookAtParameter 49 = .ok (.invokevirtual 615, 3) := by decide +kernel
theorem kd_Mo_lookAtParameter_52 : decode kc_Mo_lookAtParameter 52 = .ok (.istore_n 3, 1) := by decide +kernel
theorem kd_Mo_lookAtParameter_53 : decode kc_Mo_lookAtParameter 53 = .ok (.aload_n 0, 1) := by decide +kernel
theorem kd_Mo_lookAtParameter_54 : decode kc_Mo_lookAtParameter 54 = .ok (.iload_n 3, 1) := by decide +kernel
theorem kd_Mo_lookAtParameter_55 : decode kc_Mo_lookAtParameter 55 = .ok (.ifCond .ge 7, 3) := by decide +kernel
theorem kd_Mo_lookAtParameter_58 : decode kc_Mo_lookAtParameter 58 = .ok (.iconst 1, 1) := by decide +kernel
theorem kd_Mo_lookAtParameter_59 : decode kc_Mo_lookAtParameter 59 = .ok (.goto 4, 3) := by decide +kernel
theorem kd_Mo_lookAtParameter_62 : decode kc_Mo_lookAtParameter 62 = .ok (.iconst 0, 1) := by decide +kernel
theorem kd_Mo_lookAtParameter_63 : decode kc_Mo_lookAtParameter 63 = .ok (.bipush 32, 2) := by decide +kernel
theorem kd_Mo_lookAtParameter_65 : decode kc_Mo_lookAtParameter 65 = .ok (.iload_n 1, 1) := by decide +kernel
theorem kd_Mo_lookAtParameter_66 : decode kc_Mo_lookAtParameter 66 = .ok (.invokevirtual 540, 3) := by decide +kernel
theorem kd_Mo_lookAtParameter_69 : decode kc_Mo_lookAtParameter 69 = .ok (.aload_n 0, 1) := by decide +kernel
theorem kd_Mo_lookAtParameter_70 : decode kc_Mo_lookAtParameter 70 = .ok (.getfield 34, 3) := by decide +kernel
theorem kd_Mo_lookAtParameter_73 : decode kc_Mo_lookAtParameter 73 = .ok (.aload_n 0, 1) := by decide +kernel
theorem kd_Mo_lookAtParameter_74 : decode kc_Mo_lookAtParameter 74 = .ok (.getfield 31, 3) := by decide +kernel
theorem kd_Mo_lookAtParameter_77 : decode kc_Mo_lookAtParameter 77 = .ok (.iload_n 1, 1) := by decide +kernel
theorem kd_Mo_lookAtParameter_78 : decode kc_Mo_lookAtParameter 78 = .ok (.iaload, 1) := by decide +kernel
theorem kd_Mo_lookAtParameter_79 : decode kc_Mo_lookAtParameter 79 = .ok (.iaload, 1) := by decide +kernel
theorem kd_Mo_lookAtParameter_80 : decode kc_Mo_lookAtParameter 80 = .ok (.istore 4, 2) := by decide +kernel
theorem kd_Mo_lookAtParameter_82 : decode kc_Mo_lookAtParameter 82 = .ok (.iload 4, 2) := by decide +kernel
theorem kd_Mo_lookAtParameter_84 : decode kc_Mo_lookAtParameter 84 = .ok (.iload_n 1, 1) := by decide +kernel
theorem kd_Mo_lookAtParameter_85 : decode kc_Mo_lookAtParameter 85 = .ok (.if_icmp .eq 43, 3) := by decide +kernel
theorem kd_Mo_lookAtParameter_88 : decode kc_Mo_lookAtParameter 88 = .ok (.aload_n 0, 1) := by decide +kernel
theorem kd_Mo_lookAtParameter_89 : decode kc_Mo_lookAtParameter 89 = .ok (.aload_n 0, 1) := by decide +kernel
theorem kd_Mo_lookAtParameter_90 : decode kc_Mo_lookAtParameter 90 = .ok (.getfield 28, 3) := by decide +kernel
theorem kd_Mo_lookAtParameter_93 : decode kc_Mo_lookAtParameter 93 = .ok (.iload 4, 2) := by decide +kernel
theorem kd_Mo_lookAtParameter_95 : decode kc_Mo_lookAtParameter 95 = .ok (.iaload, 1) := by decide +kernel
theorem kd_Mo_lookAtParameter_96 : decode kc_Mo_lookAtParameter 96 = .ok (.aload_n 0, 1) := by decide +kernel
theorem kd_Mo_lookAtParameter_97 : decode kc_Mo_lookAtParameter 97 = .ok (.getfield 28, 3) := by decide +kernel
theorem kd_Mo_lookAtParameter_100 : decode kc_Mo_lookAtParameter 100 = .ok (.iload_n 1, 1) := by decide +kernel
theorem kd_Mo_lookAtParameter_101 : decode kc_Mo_lookAtParameter 101 = .ok (.iaload, 1) := by decide +kernel
theorem kd_Mo_lookAtParameter_102 : decode kc_Mo_lookAtParameter 102 = .ok (.if_icmp .ne 7, 3) := by decide +kernel
theorem kd_Mo_lookAtParameter_105 : decode kc_Mo_lookAtParameter 105 = .ok (.iconst 1, 1) := by decide +kernel
theorem kd_Mo_lookAtParameter_106 : decode kc_Mo_lookAtParameter 106 = .ok (.goto 4, 3) := by decide +kernel
theorem kd_Mo_lookAtParameter_109 : decode kc_Mo_lookAtParameter 109 = .ok (.iconst 0, 1) := by decide +kernel
theorem kd_Mo_lookAtParameter_110 : decode kc_Mo_lookAtParameter 110 = .ok (.bipush 33, 2) := by decide +kernel
theorem kd_Mo_lookAtParameter_112 : decode kc_Mo_lookAtParameter 112 = .ok (.iload_n 1, 1) := by decide +kernel
theorem kd_Mo_lookAtParameter_113 : decode kc_Mo_lookAtParameter 113 = .ok (.invokevirtual 540, 3) := by decide +kernel
theorem kd_Mo_lookAtParameter_116 : decode kc_Mo_lookAtParameter 116 = .ok (.aload_n 0, 1) := by decide +kernel
theorem kd_Mo_lookAtParameter_117 : decode kc_Mo_lookAtParameter 117 = .ok (.getfield 40, 3) := by decide +kernel
theorem kd_Mo_lookAtParameter_120 : decode kc_Mo_lookAtParameter 120 = .ok (.iload 4, 2) := by decide +kernel
theorem kd_Mo_lookAtParameter_122 : decode kc_Mo_lookAtParameter 122 = .ok (.iaload, 1) := by decide +kernel
theorem kd_Mo_lookAtParameter_123 : decode kc_Mo_lookAtParameter 123 = .ok (.istore 4, 2) := by decide +kernel
theorem kd_Mo_lookAtParameter_125 : decode kc_Mo_lookAtParameter 125 = .ok (.goto (-43), 3) := by decide +kernel
theorem kd_Mo_lookAtParameter_128 : decode kc_Mo_lookAtParameter 128 = .ok (.aload_n 0, 1) := by decide +kernel
theorem kd_Mo_lookAtParameter_129 : decode kc_Mo_lookAtParameter 129 = .ok (.getfield 445, 3) := by decide +kernel
theorem kd_Mo_lookAtParameter_132 : decode kc_Mo_lookAtParameter 132 = .ok (.ifCond .ne 69, 3) := by decide +kernel
theorem kd_Mo_lookAtParameter_135 : decode kc_Mo_lookAtParameter 135 = .ok (.aload_n 0, 1) := by decide +kernel
theorem kd_Mo_lookAtParameter_136 : decode kc_Mo_lookAtParameter 136 = .ok (.aload_n 0, 1) := by decide +kernel
theorem kd_Mo_lookAtParameter_137 : decode kc_Mo_lookAtParameter 137 = .ok (.getfield 106, 3) := by decide +kernel
theorem kd_Mo_lookAtParameter_140 : decode kc_Mo_lookAtParameter 140 = .ok (.aload_n 0, 1) := by decide +kernel
theorem kd_Mo_lookAtParameter_141 : decode kc_Mo_lookAtParameter 141 = .ok (.getfield 34, 3) := by decide +kernel
theorem kd_Mo_lookAtParameter_144 : decode kc_Mo_lookAtParameter 144 = .ok (.iload_n 1, 1) := by decide +kernel
theorem kd_Mo_lookAtParameter_145 : decode kc_Mo_lookAtParameter 145 = .ok (.iaload, 1) := by decide +kernel
theorem kd_Mo_lookAtParameter_146 : decode kc_Mo_lookAtParameter 146 = .ok (.iaload, 1) := by decide +kernel
theorem kd_Mo_lookAtParameter_147 : decode kc_Mo_lookAtParameter 147 = .ok (.aload_n 0, 1) := by decide +kernel
theorem kd_Mo_lookAtParameter_148 : decode kc_Mo_lookAtParameter 148 = .ok (.aload_n 0, 1) := by decide +kernel
theorem kd_Mo_lookAtParameter_149 : decode kc_Mo_lookAtParameter 149 = .ok (.getfield 85, 3) := by decide +kernel
theorem kd_Mo_lookAtParameter_152 : decode kc_Mo_lookAtParameter 152 = .ok (.iload_n 2, 1) := by decide +kernel
theorem kd_Mo_lookAtParameter_153 : decode kc_Mo_lookAtParameter 153 = .ok (.iaload, 1) := by decide +kernel
theorem kd_Mo_lookAtParameter_154 : decode kc_Mo_lookAtParameter 154 = .ok (.iconst 1, 1) := by decide +kernel
theorem kd_Mo_lookAtParameter_155 : decode kc_Mo_lookAtParameter 155 = .ok (.iload_n 3, 1) := by decide +kernel
theorem kd_Mo_lookAtParameter_156 : decode kc_Mo_lookAtParameter 156 = .ok (.invokevirtual 619, 3) := by decide +kernel
theorem kd_Mo_lookAtParameter_159 : decode kc_Mo_lookAtParameter 159 = .ok (.invokestatic 600, 3) := by decide +kernel
theorem kd_Mo_lookAtParameter_162 : decode kc_Mo_lookAtParameter 162 = .ok (.ifCond .ne 7, 3) := by decide +kernel
theorem kd_Mo_lookAtParameter_165 : decode kc_Mo_lookAtParameter 165 = .ok (.iconst 1, 1) := by decide +kernel
theorem kd_Mo_lookAtParameter_166 : decode kc_Mo_lookAtParameter 166 = .ok (.goto 4, 3) := by decide +kernel
theorem kd_Mo_lookAtParameter_169 : decode kc_Mo_lookAtParameter 169 = .ok (.iconst 0, 1) := by decide +kernel
theorem kd_Mo_lookAtParameter_170 : decode kc_Mo_lookAtParameter 170 = .ok (.bipush 31, 2) := by decide +kernel
theorem kd_Mo_lookAtParameter_172 : decode kc_Mo_lookAtParameter 172 = .ok (.iload_n 1, 1) := by decide +kernel
theorem kd_Mo_lookAtParameter_173 : decode kc_Mo_lookAtParameter 173 = .ok (.invokevirtual 540, 3) := by decide +kernel
theorem kd_Mo_lookAtParameter_176 : decode kc_Mo_lookAtParameter 176 = .ok (.aload_n 0, 1) := by decide +kernel
theorem kd_Mo_lookAtParameter_177 : decode kc_Mo_lookAtParameter 177 = .ok (.getfield 109, 3) := by decide +kernel
theorem kd_Mo_lookAtParameter_180 : decode kc_Mo_lookAtParameter 180 = .ok (.iload_n 1, 1) := by decide +kernel
theorem kd_Mo_lookAtParameter_181 : decode kc_Mo_lookAtParameter 181 = .ok (.aload_n 0, 1) := by decide +kernel
theorem kd_Mo_lookAtParameter_182 : decode kc_Mo_lookAtParameter 182 = .ok (.getfield 88, 3) := by decide +kernel
theorem kd_Mo_lookAtParameter_185 : decode kc_Mo_lookAtParameter 185 = .ok (.iload_n 2, 1) := by decide +kernel
theorem kd_Mo_lookAtParameter_186 : decode kc_Mo_lookAtParameter 186 = .ok (.iaload, 1) := by decide +kernel
theorem kd_Mo_lookAtParameter_187 : decode kc_Mo_lookAtParameter 187 = .ok (.aload_n 0, 1) := by decide +kernel
theorem kd_Mo_lookAtParameter_188 : decode kc_Mo_lookAtParameter 188 = .ok (.aload_n 0, 1) := by decide +kernel
theorem kd_Mo_lookAtParameter_189 : decode kc_Mo_lookAtParameter 189 = .ok (.getfield 85, 3) := by decide +kernel
theorem kd_Mo_lookAtParameter_192 : decode kc_Mo_lookAtParameter 192 = .ok (.iload_n 2, 1) := by decide +kernel
theorem kd_Mo_lookAtParameter_193 : decode kc_Mo_lookAtParameter 193 = .ok (.iaload, 1) := by decide +kernel
theorem kd_Mo_lookAtParameter_194 : decode kc_Mo_lookAtParameter 194 = .ok (.iconst 1, 1) := by decide +kernel
theorem kd_Mo_lookAtParameter_195 : decode kc_Mo_lookAtParameter 195 = .ok (.iload_n 3, 1) := by decide +kernel
theorem kd_Mo_lookAtParameter_196 : decode kc_Mo_lookAtParameter 196 = .ok (.invokevirtual 622, 3) := by decide +kernel
theorem kd_Mo_lookAtParameter_199 : decode kc_Mo_lookAtParameter 199 = .ok (.iadd, 1) := by decide +kernel
theorem kd_Mo_lookAtParameter_200 : decode kc_Mo_lookAtParameter 200 = .ok (.iastore, 1) := by decide +kernel
theorem kd_Mo_lookAtParameter_201 : decode kc_Mo_lookAtParameter 201 = .ok (.return_, 1) := by decide +kernel
theorem kd_Mo_lookAtStatements_0 : decode kc_Mo_lookAtStatements 0 = .ok (.aload_n 0, 1) := by decide +kernel
theorem kd_Mo_lookAtStatements_1 : decode kc_Mo_lookAtStatements 1 = .ok (.getfield 22, 3) := by decide +kernel
theorem kd_Mo_lookAtStatements_4 : decode kc_Mo_lookAtStatements 4 = .ok (.iload_n 1, 1) := by decide +kernel
theorem kd_Mo_lookAtStatements_5 : decode kc_Mo_lookAtStatements 5 = .ok (.iaload, 1) := by decide +kernel
theorem kd_Mo_lookAtStatements_6 : decode kc_Mo_lookAtStatements 6 = .ok (.tableswitch 437 12 20 #[50, 116, 198, 206, 262, 437, 294, 366, 374], 50) := by decide +kernel
theorem kd_Mo_lookAtStatements_56 : decode kc_Mo_lookAtStatements 56 = .ok (.aload_n 0, 1) := by decide +kernel
theorem kd_Mo_lookAtStatements_57 : decode kc_Mo_lookAtStatements 57 = .ok (.aload_n 0, 1) := by decide +kernel
theorem kd_Mo_lookAtStatements_58 : decode kc_Mo_lookAtStatements 58 = .ok (.getfield 28, 3) := by decide +kernel
theorem kd_Mo_lookAtStatements_61 : decode kc_Mo_lookAtStatements 61 = .ok (.aload_n 0, 1) := by decide +kernel
theorem kd_Mo_lookAtStatements_62 : decode kc_Mo_lookAtStatements 62 = .ok (.getfield 34, 3) := by decide +kernel
theorem kd_Mo_lookAtStatements_65 : decode kc_Mo_lookAtStatements 65 = .ok (.iload_n 1, 1) := by decide +kernel
theorem kd_Mo_lookAtStatements_66 : decode kc_Mo_lookAtStatements 66 = .ok (.iaload, 1) := by decide +kernel
theorem kd_Mo_lookAtStatements_67 : decode kc_Mo_lookAtStatements 67 = .ok (.iaload, 1) := by decide +kernel
theorem kd_Mo_lookAtStatements_68 : decode kc_Mo_lookAtStatements 68 = .ok (.iload_n 1, 1) := by decide +kernel
theorem kd_Mo_lookAtStatements_69 : decode kc_Mo_lookAtStatements 69 = .ok (.invokevirtual 597, 3) := by decide +kernel
theorem kd_Mo_lookAtStatements_72 : decode kc_Mo_lookAtStatements 72 = .ok (.aload_n 0, 1) := by decide +kernel
theorem kd_Mo_lookAtStatements_73 : decode kc_Mo_lookAtStatements 73 = .ok (.aload_n 0, 1) := by decide +kernel
theorem kd_Mo_lookAtStatements_74 : decode kc_Mo_lookAtStatements 74 = .ok (.getfield 445, 3) := by decide +kernel
theorem kd_Mo_lookAtStatements_77 : decode kc_Mo_lookAtStatements 77 = .ok (.ifCond .ne 35, 3) := by decide +kernel
theorem kd_Mo_lookAtStatements_80 : decode kc_Mo_lookAtStatements 80 = .ok (.aload_n 0, 1) := by decide +kernel
theorem kd_Mo_lookAtStatements_81 : decode kc_Mo_lookAtStatements 81 = .ok (.getfield 106, 3) := by decide +kernel
theorem kd_Mo_lookAtStatements_84 : decode kc_Mo_lookAtStatements 84 = .ok (.aload_n 0, 1) := by decide +kernel
theorem kd_Mo_lookAtStatements_85 : decode kc_Mo_lookAtStatements 85 = .ok (.getfield 37, 3) := by decide +kernel
theorem kd_Mo_lookAtStatements_88 : decode kc_Mo_lookAtStatements 88 = .ok (.iload_n 1, 1) := by decide +kernel
theorem kd_Mo_lookAtStatements_89 : decode kc_Mo_lookAtStatements 89 = .ok (.iaload, 1) := by decide +kernel
theorem kd_Mo_lookAtStatements_90 : decode kc_Mo_lookAtStatements 90 = .ok (.iaload, 1) := by decide +kernel
theorem kd_Mo_lookAtStatements_91 : decode kc_Mo_lookAtStatements 91 = .ok (.aload_n 0, 1) := by decide +kernel
theorem kd_Mo_lookAtStatements_92 : decode kc_Mo_lookAtStatements 92 = .ok (.getfield 106, 3) := by decide +kernel
theorem kd_Mo_lookAtStatements_95 : decode kc_Mo_lookAtStatements 95 = .ok (.aload_n 0, 1) := by decide +kernel
theorem kd_Mo_lookAtStatements_96 : decode kc_Mo_lookAtStatements 96 = .ok (.getfield 34, 3) := by decide +kernel
theorem kd_Mo_lookAtStatements_99 : decode kc_Mo_lookAtStatements 99 = .ok (.iload_n 1, 1) := by decide +kernel
theorem kd_Mo_lookAtStatements_100 : decode kc_Mo_lookAtStatements 100 = .ok (.iaload, 1) := by decide +kernel
theorem kd_Mo_lookAtStatements_101 : decode kc_Mo_lookAtStatements 101 = .ok (.iaload, 1) := by decide +kernel
theorem kd_Mo_lookAtStatements_102 : decode kc_Mo_lookAtStatements 102 = .ok (.invokestatic 600, 3) := by decide +kernel
theorem kd_Mo_lookAtStatements_105 : decode kc_Mo_lookAtStatements 105 = .ok (.ifCond .ne 7, 3) := by decide +kernel
theorem kd_Mo_lookAtStatements_108 : decode kc_Mo_lookAtStatements 108 = .ok (.iconst 1, 1) := by decide +kernel
theorem kd_Mo_lookAtStatements_109 : decode kc_Mo_lookAtStatements 109 = .ok (.goto 4, 3) := by decide +kernel
theorem kd_Mo_lookAtStatements_112 : decode kc_Mo_lookAtStatements 112 = .ok (.iconst 0, 1) := by decide +kernel
theorem kd_Mo_lookAtStatements_113 : decode kc_Mo_lookAtStatements 113 = .ok (.bipush 31, 2) := by decide +kernel
theorem kd_Mo_lookAtStatements_115 : decode kc_Mo_lookAtStatements 115 = .ok (.iload_n 1, 1) := by decide +kernel
theorem kd_Mo_lookAtStatements_116 : decode kc_Mo_lookAtStatements 116 = .ok (.invokevirtual 540, 3) := by decide +kernel
theorem kd_Mo_lookAtStatements_119 : decode kc_Mo_lookAtStatements 119 = .ok (.goto 324, 3) := by decide +kernel
theorem kd_Mo_lookAtStatements_122 : decode kc_Mo_lookAtStatements 122 = .ok (.aload_n 0, 1) := by decide +kernel
theorem kd_Mo_lookAtStatements_123 : decode kc_Mo_lookAtStatements 123 = .ok (.iload_n 1, 1) := by decide +kernel
theorem kd_Mo_lookAtStatements_124 : decode kc_Mo_lookAtStatements 124 = .ok (.invokevirtual 603, 3) := by decide +kernel
theorem kd_Mo_lookAtStatements_127 : decode kc_Mo_lookAtStatements 127 = .ok (.aload_n 0, 1) := by decide +kernel
theorem kd_Mo_lookAtStatements_128 : decode kc_Mo_lookAtStatements 128 = .ok (.getfield 445, 3) := by decide +kernel
theorem kd_Mo_lookAtStatements_131 : decode kc_Mo_lookAtStatements 131 = .ok (.ifCond .ne 312, 3) := by decide +kernel
theorem kd_Mo_lookAtStatements_134 : decode kc_Mo_lookAtStatements 134 = .ok (.aload_n 0, 1) := by decide +kernel
theorem kd_Mo_lookAtStatements_135 : decode kc_Mo_lookAtStatements 135 = .ok (.aload_n 0, 1) := by decide +kernel
theorem kd_Mo_lookAtStatements_136 : decode kc_Mo_lookAtStatements 136 = .ok (.getfield 550, 3) := by decide +kernel
theorem kd_Mo_lookAtStatements_139 : decode kc_Mo_lookAtStatements 139 = .ok (.aload_n 0, 1) := by decide +kernel
theorem kd_Mo_lookAtStatements_140 : decode kc_Mo_lookAtStatements 140 = .ok (.getfield 28, 3) := by decide +kernel
theorem kd_Mo_lookAtStatements_143 : decode kc_Mo_lookAtStatements 143 = .ok (.iload_n 1, 1) := by decide +kernel
theorem kd_Mo_lookAtStatements_144 : decode kc_Mo_lookAtStatements 144 = .ok (.iaload, 1) := by decide +kernel
theorem kd_Mo_lookAtStatements_145 : decode kc_Mo_lookAtStatements 145 = .ok (.invokevirtual 507, 3) := by decide +kernel
theorem kd_Mo_lookAtStatements_148 : decode kc_Mo_lookAtStatements 148 = .ok (.istore_n 2, 1) := by decide +kernel
theorem kd_Mo_lookAtStatements_149 : decode kc_Mo_lookAtStatements 149 = .ok (.aload_n 0, 1) := by decide +kernel
theorem kd_Mo_lookAtStatements_150 : decode kc_Mo_lookAtStatements 150 = .ok (.getfield 109, 3) := by decide +kernel
theorem kd_Mo_lookAtStatements_153 : decode kc_Mo_lookAtStatements 153 = .ok (.iload_n 1, 1) := by decide +kernel
theorem kd_Mo_lookAtStatements_154 : decode kc_Mo_lookAtStatements 154 = .ok (.aload_n 0, 1) := by decide +kernel
theorem kd_Mo_lookAtStatements_155 : decode kc_Mo_lookAtStatements 155 = .ok (.getfield 88, 3) := by decide +kernel
theorem kd_Mo_lookAtStatements_158 : decode kc_Mo_lookAtStatements 158 = .ok (.iload_n 2, 1) := by decide +kernel
theorem kd_Mo_lookAtStatements_159 : decode kc_Mo_lookAtStatements 159 = .ok (.iaload, 1) := by decide +kernel
theorem kd_Mo_lookAtStatements_160 : decode kc_Mo_lookAtStatements 160 = .ok (.iastore, 1) := by decide +kernel
theorem kd_Mo_lookAtStatements_161 : decode kc_Mo_lookAtStatements 161 = .ok (.aload_n 0, 1) := by decide +kernel
theorem kd_Mo_lookAtStatements_162 : decode kc_Mo_lookAtStatements 162 = .ok (.getfield 112, 3) := by decide +kernel
theorem kd_Mo_lookAtStatements_165 : decode kc_Mo_lookAtStatements 165 = .ok (.iload_n 1, 1) := by decide +kernel
theorem kd_Mo_lookAtStatements_166 : decode kc_Mo_lookAtStatements 166 = .ok (.aload_n 0, 1) := by decide +kernel
theorem kd_Mo_lookAtStatements_167 : decode kc_Mo_lookAtStatements 167 = .ok (.getfield 85, 3) := by decide +kernel
theorem kd_Mo_lookAtStatements_170 : decode kc_Mo_lookAtStatements 170 = .ok (.iload_n 2, 1) := by decide +kernel
theorem kd_Mo_lookAtStatements_171 : decode kc_Mo_lookAtStatements 171 = .ok (.iaload, 1) := by decide +kernel
theorem kd_Mo_lookAtStatements_172 : decode kc_Mo_lookAtStatements 172 = .ok (.ldc_w 498, 3) := by decide +kernel
theorem kd_Mo_lookAtStatements_175 : decode kc_Mo_lookAtStatements 175 = .ok (.if_icmp .lt 19, 3) := by decide +kernel
theorem kd_Mo_lookAtStatements_178 : decode kc_Mo_lookAtStatements 178 = .ok (.bipush 100, 2) := by decide +kernel
theorem kd_Mo_lookAtStatements_180 : decode kc_Mo_lookAtStatements 180 = .ok (.aload_n 0, 1) := by decide +kernel
theorem kd_Mo_lookAtStatements_181 : decode kc_Mo_lookAtStatements 181 = .ok (.getfield 85, 3) := by decide +kernel
theorem kd_Mo_lookAtStatements_184 : decode kc_Mo_lookAtStatements 184 = .ok (.iload_n 2, 1) := by decide +kernel
theorem kd_Mo_lookAtStatements_185 : decode kc_Mo_lookAtStatements 185 = .ok (.iaload, 1) := by decide +kernel
theorem kd_Mo_lookAtStatements_186 : decode kc_Mo_lookAtStatements 186 = .ok (.iadd, 1) := by decide +kernel
theorem kd_Mo_lookAtStatements_187 : decode kc_Mo_lookAtStatements 187 = .ok (.ldc_w 498, 3) := by decide +kernel
theorem kd_Mo_lookAtStatements_190 : decode kc_Mo_lookAtStatements 190 = .ok (.isub, 1) := by decide +kernel
theorem kd_Mo_lookAtStatements_191 : decode kc_Mo_lookAtStatements 191 = .ok (.goto 9, 3) := by decide +kernel
theorem kd_Mo_lookAtStatements_194 : decode kc_Mo_lookAtStatements 194 = .ok (.aload_n 0, 1) := by decide +kernel
theorem kd_Mo_lookAtStatements_195 : decode kc_Mo_lookAtStatements 195 = .ok (.getfield 85, 3) := by decide +kernel
theorem kd_Mo_lookAtStatements_198 : decode kc_Mo_lookAtStatements 198 = .ok (.iload_n 2, 1) := by decide +kernel
theorem kd_Mo_lookAtStatements_199 : decode kc_Mo_lookAtStatements 199 = .ok (.iaload, 1) := by decide +kernel
theorem kd_Mo_lookAtStatements_200 : decode kc_Mo_lookAtStatements 200 = .ok (.iastore, 1) := by decide +kernel
theorem kd_Mo_lookAtStatements_201 : decode kc_Mo_lookAtStatements 201 = .ok (.goto 242, 3) := by decide +kernel
theorem kd_Mo_lookAtStatements_204 : decode kc_Mo_lookAtStatements 204 = .ok (.aload_n 0, 1) := by decide +kernel
theorem kd_Mo_lookAtStatements_205 : decode kc_Mo_lookAtStatements 205 = .ok (.iload_n 1, 1) := by decide +kernel
theorem kd_Mo_lookAtStatements_206 : decode kc_Mo_lookAtStatements 206 = .ok (.invokevirtual 606, 3) := by decide +kernel
theorem kd_Mo_lookAtStatements_209 : decode kc_Mo_lookAtStatements 209 = .ok (.goto 234, 3) := by decide +kernel
theorem kd_Mo_lookAtStatements_212 : decode kc_Mo_lookAtStatements 212 = .ok (.aload_n 0, 1) := by decide +kernel
theorem kd_Mo_lookAtStatements_213 : decode kc_Mo_lookAtStatements 213 = .ok (.getfield 34, 3) := by decide +kernel
theorem kd_Mo_lookAtStatements_216 : decode kc_Mo_lookAtStatements 216 = .ok (.iload_n 1, 1) := by decide +kernel
theorem kd_Mo_lookAtStatements_217 : decode kc_Mo_lookAtStatements 217 = .ok (.iaload, 1) := by decide +kernel
theorem kd_Mo_lookAtStatements_218 : decode kc_Mo_lookAtStatements 218 = .ok (.istore_n 2, 1) := by decide +kernel
theorem kd_Mo_lookAtStatements_219 : decode kc_Mo_lookAtStatements 219 = .ok (.iload_n 2, 1) := by decide +kernel
theorem kd_Mo_lookAtStatements_220 : decode kc_Mo_lookAtStatements 220 = .ok (.ifCond .lt 45, 3) := by decide +kernel
theorem kd_Mo_lookAtStatements_223 : decode kc_Mo_lookAtStatements 223 = .ok (.aload_n 0, 1) := by decide +kernel
theorem kd_Mo_lookAtStatements_224 : decode kc_Mo_lookAtStatements 224 = .ok (.aload_n 0, 1) := by decide +kernel
theorem kd_Mo_lookAtStatements_225 : decode kc_Mo_lookAtStatements 225 = .ok (.getfield 22, 3) := by decide +kernel
theorem kd_Mo_lookAtStatements_228 : decode kc_Mo_lookAtStatements 228 = .ok (.iload_n 2, 1) := by decide +kernel
theorem kd_Mo_lookAtStatements_229 : decode kc_Mo_lookAtStatements 229 = .ok (.iaload, 1) := by decide +kernel
theorem kd_Mo_lookAtStatements_230 : decode kc_Mo_lookAtStatements 230 = .ok (.bipush 11, 2) := by decide +kernel
theorem kd_Mo_lookAtStatements_232 : decode kc_Mo_lookAtStatements 232 = .ok (.if_icmp .eq 16, 3) := by decide +kernel
theorem kd_Mo_lookAtStatements_235 : decode kc_Mo_lookAtStatements 235 = .ok (.aload_n 0, 1) := by decide +kernel
theorem kd_Mo_lookAtStatements_236 : decode kc_Mo_lookAtStatements 236 = .ok (.getfield 106, 3) := by decide +kernel
theorem kd_Mo_lookAtStatements_239 : decode kc_Mo_lookAtStatements 239 = .ok (.iload_n 2, 1) := by decide +kernel
theorem kd_Mo_lookAtStatements_240 : decode kc_Mo_lookAtStatements 240 = .ok (.iaload, 1) := by decide +kernel
theorem kd_Mo_lookAtStatements_241 : decode kc_Mo_lookAtStatements 241 = .ok (.ifCond .eq 7, 3) := by decide +kernel
theorem kd_Mo_lookAtStatements_244 : decode kc_Mo_lookAtStatements 244 = .ok (.iconst 1, 1) := by decide +kernel
theorem kd_Mo_lookAtStatements_245 : decode kc_Mo_lookAtStatements 245 = .ok (.goto 4, 3) := by decide +kernel
theorem kd_Mo_lookAtStatements_248 : decode kc_Mo_lookAtStatements 248 = .ok (.iconst 0, 1) := by decide +kernel
theorem kd_Mo_lookAtStatements_249 : decode kc_Mo_lookAtStatements 249 = .ok (.bipush 34, 2) := by decide +kernel
theorem kd_Mo_lookAtStatements_251 : decode kc_Mo_lookAtStatements 251 = .ok (.iload_n 1, 1) := by decide +kernel
theorem kd_Mo_lookAtStatements_252 : decode kc_Mo_lookAtStatements 252 = .ok (.invokevirtual 540, 3) := by decide +kernel
theorem kd_Mo_lookAtStatements_255 : decode kc_Mo_lookAtStatements 255 = .ok (.aload_n 0, 1) := by decide +kernel
theorem kd_Mo_lookAtStatements_256 : decode kc_Mo_lookAtStatements 256 = .ok (.getfield 40, 3) := by decide +kernel
theorem kd_Mo_lookAtStatements_259 : decode kc_Mo_lookAtStatements 259 = .ok (.iload_n 2, 1) := by decide +kernel
theorem kd_Mo_lookAtStatements_260 : decode kc_Mo_lookAtStatements 260 = .ok (.iaload, 1) := by decide +kernel
theorem kd_Mo_lookAtStatements_261 : decode kc_Mo_lookAtStatements 261 = .ok (.istore_n 2, 1) := by decide +kernel
theorem kd_Mo_lookAtStatements_262 : decode kc_Mo_lookAtStatements 262 = .ok (.goto (-43), 3) := by decide +kernel
theorem kd_Mo_lookAtStatements_265 : decode kc_Mo_lookAtStatements 265 = .ok (.goto 178, 3) := by decide +kernel
theorem kd_Mo_lookAtStatements_268 : decode kc_Mo_lookAtStatements 268 = .ok (.aload_n 0, 1) := by decide +kernel
theorem kd_Mo_lookAtStatements_269 : decode kc_Mo_lookAtStatements 269 = .ok (.aload_n 0, 1) := by decide +kernel
theorem kd_Mo_lookAtStatements_270 : decode kc_Mo_lookAtStatements 270 = .ok (.getfield 106, 3) := by decide +kernel
theorem kd_Mo_lookAtStatements_273 : decode kc_Mo_lookAtStatements 273 = .ok (.aload_n 0, 1) := by decide +kernel
theorem kd_Mo_lookAtStatements_274 : decode kc_Mo_lookAtStatements 274 = .ok (.getfield 34, 3) := by decide +kernel
theorem kd_Mo_lookAtStatements_277 : decode kc_Mo_lookAtStatements 277 = .ok (.iload_n 1, 1) := by decide +kernel
theorem kd_Mo_lookAtStatements_278 : decode kc_Mo_lookAtStatements 278 = .ok (.iaload, 1) := by decide +kernel
theorem kd_Mo_lookAtStatements_279 : decode kc_Mo_lookAtStatements 279 = .ok (.iaload, 1) := by decide +kernel
theorem kd_Mo_lookAtStatements_280 : decode kc_Mo_lookAtStatements 280 = .ok (.invokestatic 609, 3) := by decide +kernel
theorem kd_Mo_lookAtStatements_283 : decode kc_Mo_lookAtStatements 283 = .ok (.ifCond .ne 7, 3) := by decide +kernel
theorem kd_Mo_lookAtStatements_286 : decode kc_Mo_lookAtStatements 286 = .ok (.iconst 1, 1) := by decide +kernel
theorem kd_Mo_lookAtStatements_287 : decode kc_Mo_lookAtStatements 287 = .ok (.goto 4, 3) := by decide +kernel
theorem kd_Mo_lookAtStatements_290 : decode kc_Mo_lookAtStatements 290 = .ok (.iconst 0, 1) := by decide +kernel
theorem kd_Mo_lookAtStatements_291 : decode kc_Mo_lookAtStatements 291 = .ok (.bipush 34, 2) := by decide +kernel
theorem kd_Mo_lookAtStatements_293 : decode kc_Mo_lookAtStatements 293 = .ok (.iload_n 1, 1) := by decide +kernel
theorem kd_Mo_lookAtStatements_294 : decode kc_Mo_lookAtStatements 294 = .ok (.invokevirtual 540, 3) := by decide +kernel
theorem kd_Mo_lookAtStatements_297 : decode kc_Mo_lookAtStatements 297 = .ok (.goto 146, 3) := by decide +kernel
theorem kd_Mo_lookAtStatements_300 : decode kc_Mo_lookAtStatements 300 = .ok (.aload_n 0, 1) := by decide +kernel
theorem kd_Mo_lookAtStatements_301 : decode kc_Mo_lookAtStatements 301 = .ok (.aload_n 0, 1) := by decide +kernel
theorem kd_Mo_lookAtStatements_302 : decode kc_Mo_lookAtStatements 302 = .ok (.getfield 22, 3) := by decide +kernel
theorem kd_Mo_lookAtStatements_305 : decode kc_Mo_lookAtStatements 305 = .ok (.aload_n 0, 1) := by decide +kernel
theorem kd_Mo_lookAtStatements_306 : decode kc_Mo_lookAtStatements 306 = .ok (.getfield 34, 3) := by decide +kernel
theorem kd_Mo_lookAtStatements_309 : decode kc_Mo_lookAtStatements 309 = .ok (.iload_n 1, 1) := by decide +kernel
theorem kd_Mo_lookAtStatements_310 : decode kc_Mo_lookAtStatements 310 = .ok (.iaload, 1) := by decide +kernel
theorem kd_Mo_lookAtStatements_311 : decode kc_Mo_lookAtStatements 311 = .ok (.iaload, 1) := by decide +kernel
theorem kd_Mo_lookAtStatements_312 : decode kc_Mo_lookAtStatements 312 = .ok (.bipush 31, 2) := by decide +kernel
theorem kd_Mo_lookAtStatements_314 : decode kc_Mo_lookAtStatements 314 = .ok (.if_icmp .eq 44, 3) := by decide +kernel
theorem kd_Mo_lookAtStatements_317 : decode kc_Mo_lookAtStatements 317 = .ok (.aload_n 0, 1) := by decide +kernel
theorem kd_Mo_lookAtStatements_318 : decode kc_Mo_lookAtStatements 318 = .ok (.getfield 22, 3) := by decide +kernel
theorem kd_Mo_lookAtStatements_321 : decode kc_Mo_lookAtStatements 321 = .ok (.aload_n 0, 1) := by decide +kernel
theorem kd_Mo_lookAtStatements_322 : decode kc_Mo_lookAtStatements 322 = .ok (.getfield 37, 3) := by decide +kernel
theorem kd_Mo_lookAtStatements_325 : decode kc_Mo_lookAtStatements 325 = .ok (.iload_n 1, 1) := by decide +kernel
theorem kd_Mo_lookAtStatements_326 : decode kc_Mo_lookAtStatements 326 = .ok (.iaload, 1) := by decide +kernel
theorem kd_Mo_lookAtStatements_327 : decode kc_Mo_lookAtStatements 327 = .ok (.iaload, 1) := by decide +kernel
theorem kd_Mo_lookAtStatements_328 : decode kc_Mo_lookAtStatements 328 = .ok (.bipush 31, 2) := by decide +kernel
theorem kd_Mo_lookAtStatements_330 : decode kc_Mo_lookAtStatements 330 = .ok (.if_icmp .eq 28, 3) := by decide +kernel
theorem kd_Mo_lookAtStatements_333 : decode kc_Mo_lookAtStatements 333 = .ok (.aload_n 0, 1) := by decide +kernel
theorem kd_Mo_lookAtStatements_334 : decode kc_Mo_lookAtStatements 334 = .ok (.getfield 28, 3) := by decide +kernel
theorem kd_Mo_lookAtStatements_337 : decode kc_Mo_lookAtStatements 337 = .ok (.aload_n 0, 1) := by decide +kernel
theorem kd_Mo_lookAtStatements_338 : decode kc_Mo_lookAtStatements 338 = .ok (.getfield 34, 3) := by decide +kernel
theorem kd_Mo_lookAtStatements_341 : decode kc_Mo_lookAtStatements 341 = .ok (.iload_n 1, 1) := by decide +kernel
theorem kd_Mo_lookAtStatements_342 : decode kc_Mo_lookAtStatements 342 = .ok (.iaload, 1) := by decide +kernel
theorem kd_Mo_lookAtStatements_343 : decode kc_Mo_lookAtStatements 343 = .ok (.iaload, 1) := by decide +kernel
theorem kd_Mo_lookAtStatements_344 : decode kc_Mo_lookAtStatements 344 = .ok (.aload_n 0, 1) := by decide +kernel
theorem kd_Mo_lookAtStatements_345 : decode kc_Mo_lookAtStatements 345 = .ok (.getfield 28, 3) := by decide +kernel
theorem kd_Mo_lookAtStatements_348 : decode kc_Mo_lookAtStatements 348 = .ok (.aload_n 0, 1) := by decide +kernel
theorem kd_Mo_lookAtStatements_349 : decode kc_Mo_lookAtStatements 349 = .ok (.getfield 37, 3) := by decide +kernel
theorem kd_Mo_lookAtStatements_352 : decode kc_Mo_lookAtStatements 352 = .ok (.iload_n 1, 1) := by decide +kernel
theorem kd_Mo_lookAtStatements_353 : decode kc_Mo_lookAtStatements 353 = .ok (.iaload, 1) := by decide +kernel
theorem kd_Mo_lookAtStatements_354 : decode kc_Mo_lookAtStatements 354 = .ok (.iaload, 1) := by decide +kernel
theorem kd_Mo_lookAtStatements_355 : decode kc_Mo_lookAtStatements 355 = .ok (.if_icmp .le 7, 3) := by decide +kernel
theorem kd_Mo_lookAtStatements_358 : decode kc_Mo_lookAtStatements 358 = .ok (.iconst 1, 1) := by decide +kernel
theorem kd_Mo_lookAtStatements_359 : decode kc_Mo_lookAtStatements 359 = .ok (.goto 4, 3) := by decide +kernel
theorem kd_Mo_lookAtStatements_362 : decode kc_Mo_lookAtStatements 362 = .ok (.iconst 0, 1) := by decide +kernel
theorem kd_Mo_lookAtStatements_363 : decode kc_Mo_lookAtStatements 363 = .ok (.bipush 35, 2) := by decide +kernel
theorem kd_Mo_lookAtStatements_365 : decode kc_Mo_lookAtStatements 365 = .ok (.iload_n 1, 1) := by decide +kernel
theorem kd_Mo_lookAtStatements_366 : decode kc_Mo_lookAtStatements 366 = .ok (.invokevirtual 540, 3) := by decide +kernel
theorem kd_Mo_lookAtStatements_369 : decode kc_Mo_lookAtStatements 369 = .ok (.goto 74, 3) := by decide +kernel
theorem kd_Mo_lookAtStatements_372 : decode kc_Mo_lookAtStatements 372 = .ok (.aload_n 0, 1) := by decide +kernel
theorem kd_Mo_lookAtStatements_373 : decode kc_Mo_lookAtStatements 373 = .ok (.iload_n 1, 1) := by decide +kernel
theorem kd_Mo_lookAtStatements_374 : decode kc_Mo_lookAtStatements 374 = .ok (.invokevirtual 612, 3) := by decide +kernel
theorem kd_Mo_lookAtStatements_377 : decode kc_Mo_lookAtStatements 377 = .ok (.goto 66, 3) := by decide +kernel
theorem kd_Mo_lookAtStatements_380 : decode kc_Mo_lookAtStatements 380 = .ok (.iconst 0, 1) := by decide +kernel
theorem kd_Mo_lookAtStatements_381 : decode kc_Mo_lookAtStatements 381 = .ok (.istore_n 2, 1) := by decide +kernel
theorem kd_Mo_lookAtStatements_382 : decode kc_Mo_lookAtStatements 382 = .ok (.aload_n 0, 1) := by decide +kernel
theorem kd_Mo_lookAtStatements_383 : decode kc_Mo_lookAtStatements 383 = .ok (.getfield 31, 3) := by decide +kernel
theorem kd_Mo_lookAtStatements_386 : decode kc_Mo_lookAtStatements 386 = .ok (.iload_n 1, 1) := by decide +kernel
theorem kd_Mo_lookAtStatements_387 : decode kc_Mo_lookAtStatements 387 = .ok (.iaload, 1) := by decide +kernel
theorem kd_Mo_lookAtStatements_388 : decode kc_Mo_lookAtStatements 388 = .ok (.istore_n 3, 1) := by decide +kernel
theorem kd_Mo_lookAtStatements_389 : decode kc_Mo_lookAtStatements 389 = .ok (.iload_n 3, 1) := by decide +kernel
theorem kd_Mo_lookAtStatements_390 : decode kc_Mo_lookAtStatements 390 = .ok (.ifCond .lt 34, 3) := by decide +kernel
theorem kd_Mo_lookAtStatements_393 : decode kc_Mo_lookAtStatements 393 = .ok (.iload_n 2, 1) := by decide +kernel
theorem kd_Mo_lookAtStatements_394 : decode kc_Mo_lookAtStatements 394 = .ok (.ifCond .ne 14, 3) := by decide +kernel
theorem kd_Mo_lookAtStatements_397 : decode kc_Mo_lookAtStatements 397 = .ok (.aload_n 0, 1) := by decide +kernel
theorem kd_Mo_lookAtStatements_398 : decode kc_Mo_lookAtStatements 398 = .ok (.getfield 22, 3) := by decide +kernel
theorem kd_Mo_lookAtStatements_401 : decode kc_Mo_lookAtStatements 401 = .ok (.iload_n 3, 1) := by decide +kernel
theorem kd_Mo_lookAtStatements_402 : decode kc_Mo_lookAtStatements 402 = .ok (.iaload, 1) := by decide +kernel
theorem kd_Mo_lookAtStatements_403 : decode kc_Mo_lookAtStatements 403 = .ok (.bipush 19, 2) := by decide +kernel
theorem kd_Mo_lookAtStatements_405 : decode kc_Mo_lookAtStatements 405 = .ok (.if_icmp .ne 7, 3) := by decide +kernel
theorem kd_Mo_lookAtStatements_408 : decode kc_Mo_lookAtStatements 408 = .ok (.iconst 1, 1) := by decide +kernel
theorem kd_Mo_lookAtStatements_409 : decode kc_Mo_lookAtStatements 409 = .ok (.goto 4, 3) := by decide +kernel
theorem kd_Mo_lookAtStatements_412 : decode kc_Mo_lookAtStatements 412 = .ok (.iconst 0, 1) := by decide +kernel
theorem kd_Mo_lookAtStatements_413 : decode kc_Mo_lookAtStatements 413 = .ok (.istore_n 2, 1) := by decide +kernel
theorem kd_Mo_lookAtStatements_414 : decode kc_Mo_lookAtStatements 414 = .ok (.aload_n 0, 1) := by decide +kernel
theorem kd_Mo_lookAtStatements_415 : decode kc_Mo_lookAtStatements 415 = .ok (.getfield 31, 3) := by decide +kernel
theorem kd_Mo_lookAtStatements_418 : decode kc_Mo_lookAtStatements 418 = .ok (.iload_n 3, 1) := by decide +kernel
theorem kd_Mo_lookAtStatements_419 : decode kc_Mo_lookAtStatements 419 = .ok (.iaload, 1) := by decide +kernel
theorem kd_Mo_lookAtStatements_420 : decode kc_Mo_lookAtStatements 420 = .ok (.istore_n 3, 1) := by decide +kernel
theorem kd_Mo_lookAtStatements_421 : decode kc_Mo_lookAtStatements 421 = .ok (.goto (-32), 3) := by decide +kernel
theorem kd_Mo_lookAtStatements_424 : decode kc_Mo_lookAtStatements 424 = .ok (.aload_n 0, 1) := by decide +kernel
theorem kd_Mo_lookAtStatements_425 : decode kc_Mo_lookAtStatements 425 = .ok (.iload_n 2, 1) := by decide +kernel
theorem kd_Mo_lookAtStatements_426 : decode kc_Mo_lookAtStatements 426 = .ok (.ifCond .ne 7, 3) := by decide +kernel
theorem kd_Mo_lookAtStatements_429 : decode kc_Mo_lookAtStatements 429 = .ok (.iconst 1, 1) := by decide +kernel
theorem kd_Mo_lookAtStatements_430 : decode kc_Mo_lookAtStatements 430 = .ok (.goto 4, 3) := by decide +kernel
theorem kd_Mo_lookAtStatements_433 : decode kc_Mo_lookAtStatements 433 = .ok (.iconst 0, 1) := by decide +kernel
theorem kd_Mo_lookAtStatements_434 : decode kc_Mo_lookAtStatements 434 = .ok (.bipush 37, 2) := by decide +kernel
theorem kd_Mo_lookAtStatements_436 : decode kc_Mo_lookAtStatements 436 = .ok (.iload_n 1, 1) := by decide +kernel
theorem kd_Mo_lookAtStatements_437 : decode kc_Mo_lookAtStatements 437 = .ok (.invokevirtual 540, 3) := by decide +kernel
theorem kd_Mo_lookAtStatements_440 : decode kc_Mo_lookAtStatements 440 = .ok (.goto 3, 3) := by decide +kernel
theorem kd_Mo_lookAtStatements_443 : decode kc_Mo_lookAtStatements 443 = .ok (.return_, 1) := by decide +kernel
set_option maxHeartbeats 4000000 in
set_option maxRecDepth 100000 in
theorem zb_Mo_lookAtParameter_110 {X : zkj_T} {S : zs_T} {P : ze_T} {l : Launch} {D : va_G} {sz0 : Nat} {rh : zs_H} (C : zk_C X km_Mo_lookAtParameter (zs_G S l D sz0) { frames := 7, cells := 8, slots := 28, locals := 202 } (ze_E P)) (hR : zkj_R X (zd_PV S rh) (none)) {k82 : zs_H → Int32 → Int32 → Int32 → Int32 → (Option zs_H)} (hk82 : ∀ (h : zs_H) (x1 : Int32) (x2 : Int32) (x3 : Int32) (x4 : Int32), k82 h x1 x2 x3 x4 = some rh → zk_Ab X (zs_W S h) 8 28 82 [(0, .ref (S.1 68)), (1, .int x1), (2, .int x2), (3, .int x3), (4, .int x4)] []) (h : zs_H) (x1 : Int32) (x2 : Int32) (x3 : Int32) (x4 : Int32) (y0 : Int32) (e : f_Mo_lookAtParameter_110 k82 h x1 x2 x3 x4 y0 = some rh) : zk_Ab X (zs_W S h) 8 28 110 [(0, .ref (S.1 68)), (1, .int x1), (2, .int x2), (3, .int x3), (4, .int x4)] [.int y0, .ref (S.1 68)] := by
  unfold f_Mo_lookAtParameter_110 at e
  refine zk_bipush (v := 33) C kd_Mo_lookAtParameter_110 (by decide) rfl ?_
  refine zk_iload_n C kd_Mo_lookAtParameter_112 rfl 1 rfl rfl ?_
  obtain ⟨h2, c1, e⟩ := zd_b e
  refine zs_callV (k := 68) (rn := { frames := 1, cells := 0, slots := 0, locals := 22 }) (As := [.int y0, .int 33, .int x1]) (rest := []) C (zc_Mo_rule h y0 33 x1 c1) ku_Mo_rule kw2260 kv_Mo_rule rfl ⟨by decide, by decide⟩ ⟨by decide, by decide⟩ rfl rfl rfl (Nat.le_of_ble_eq_true rfl) kd_Mo_lookAtParameter_113 rfl (c1 := 8) (s1 := 28) rfl rfl (fun v w hp => ?_)
  obtain ⟨rfl, rfl⟩ := hp
  refine zk_stk (r' := []) rfl ?_
  refine zk_aload_n C kd_Mo_lookAtParameter_116 rfl 0 rfl rfl ?_
  refine zs_get (v := .ref (S.1 78)) C 68 21 rfl rfl rfl rfl ki_Mo (by decide) kw1704 kd_Mo_lookAtParameter_117 rfl ?_
  refine zk_iload C kd_Mo_lookAtParameter_120 4 rfl rfl ?_
  obtain ⟨q3, e⟩ := zd_g e
  refine zs_iald C 78 rfl (zd_vp q3) kd_Mo_lookAtParameter_122 rfl ?_
  refine zk_istore (lv' := [(4, _), (0, _), (1, _), (2, _), (3, _)]) C kd_Mo_lookAtParameter_123 (by decide) rfl rfl ?_
  refine zk_goto (tgt := 82) C kd_Mo_lookAtParameter_125 (by decide) ?_
  refine zk_lvs (lv' := [(0, .ref (S.1 68)), (1, .int x1), (2, .int x2), (3, .int x3), (4, .int (h2.2.1 78 x4.toNatClampNeg))]) [1, 2, 3, 4, 0] rfl ?_
  exact hk82 h2 x1 x2 x3 (h2.2.1 78 x4.toNatClampNeg) e
set_option maxHeartbeats 4000000 in
set_option maxRecDepth 100000 in
theorem zb_Mo_lookAtParameter_170 {X : zkj_T} {S : zs_T} {P : ze_T} {l : Launch} {D : va_G} {sz0 : Nat} {rh : zs_H} (C : zk_C X km_Mo_lookAtParameter (zs_G S l D sz0) { frames := 7, cells := 8, slots := 28, locals := 202 } (ze_E P)) (hR : zkj_R X (zd_PV S rh) (none)) (h : zs_H) (x1 : Int32) (x2 : Int32) (x3 : Int32) (y0 : Int32) (e : f_Mo_lookAtParameter_170 h x1 x2 x3 y0 = some rh) : zk_Ab X (zs_W S h) 8 28 170 [(0, .ref (S.1 68)), (1, .int x1), (2, .int x2), (3, .int x3)] [.int y0, .ref (S.1 68)] := by
  unfold f_Mo_lookAtParameter_170 at e
  refine zk_bipush (v := 31) C kd_Mo_lookAtParameter_170 (by decide) rfl ?_
  refine zk_iload_n C kd_Mo_lookAtParameter_172 rfl 1 rfl rfl ?_
  obtain ⟨h2, c1, e⟩ := zd_b e
  refine zs_callV (k := 68) (rn := { frames := 1, cells := 0, slots := 0, locals := 22 }) (As := [.int y0, .int 31, .int x1]) (rest := []) C (zc_Mo_rule h y0 31 x1 c1) ku_Mo_rule kw2260 kv_Mo_rule rfl ⟨by decide, by decide⟩ ⟨by decide, by decide⟩ rfl rfl rfl (Nat.le_of_ble_eq_true rfl) kd_Mo_lookAtParameter_173 rfl (c1 := 8) (s1 := 28) rfl rfl (fun v w hp => ?_)
  obtain ⟨rfl, rfl⟩ := hp
  refine zk_stk (r' := []) rfl ?_
  refine zk_aload_n C kd_Mo_lookAtParameter_176 rfl 0 rfl rfl ?_
  refine zs_get (v := .ref (S.1 101)) C 68 52 rfl rfl rfl rfl ki_Mo (by decide) kw1735 kd_Mo_lookAtParameter_177 rfl ?_
  refine zk_iload_n C kd_Mo_lookAtParameter_180 rfl 1 rfl rfl ?_
  refine zk_aload_n C kd_Mo_lookAtParameter_181 rfl 0 rfl rfl ?_
  refine zs_get (v := .ref (S.1 94)) C 68 45 rfl rfl rfl rfl ki_Mo (by decide) kw1728 kd_Mo_lookAtParameter_182 rfl ?_
  refine zk_iload_n C kd_Mo_lookAtParameter_185 rfl 2 rfl rfl ?_
  obtain ⟨q3, e⟩ := zd_g e
  refine zs_iald C 94 rfl (zd_vp q3) kd_Mo_lookAtParameter_186 rfl ?_
  refine zk_aload_n C kd_Mo_lookAtParameter_187 rfl 0 rfl rfl ?_
  refine zk_aload_n C kd_Mo_lookAtParameter_188 rfl 0 rfl rfl ?_
  refine zs_get (v := .ref (S.1 93)) C 68 44 rfl rfl rfl rfl ki_Mo (by decide) kw1727 kd_Mo_lookAtParameter_189 rfl ?_
  refine zk_iload_n C kd_Mo_lookAtParameter_192 rfl 2 rfl rfl ?_
  refine zs_iald C 93 rfl (zd_vp q3) kd_Mo_lookAtParameter_193 rfl ?_
  refine zk_iconst (v := 1) C kd_Mo_lookAtParameter_194 (by decide) rfl ?_
  refine zk_iload_n C kd_Mo_lookAtParameter_195 rfl 3 rfl rfl ?_
  obtain ⟨v5, c4, e⟩ := zd_b e
  refine zs_callV (k := 68) (rn := { frames := 0, cells := 0, slots := 0, locals := 0 }) (As := [.int (h2.2.1 93 x2.toNatClampNeg), .int 1, .int x3]) (rest := [.int (h2.2.1 94 x2.toNatClampNeg), .int x1, .ref (S.1 101)]) C (zc_Mo_pinCell h2 (h2.2.1 93 x2.toNatClampNeg) 1 x3 c4) ku_Mo_pinCell kw2465 kv_Mo_pinCell rfl ⟨by decide, by decide⟩ ⟨by decide, by decide⟩ rfl rfl rfl (Nat.le_of_ble_eq_true rfl) kd_Mo_lookAtParameter_196 rfl (c1 := 8) (s1 := 28) rfl rfl (fun v w hp => ?_)
  obtain ⟨rfl, rfl⟩ := hp
  refine zk_stk (r' := [.int v5, .int (h2.2.1 94 x2.toNatClampNeg), .int x1, .ref (S.1 101)]) rfl ?_
  refine zk_iadd C kd_Mo_lookAtParameter_199 rfl ?_
  obtain ⟨q6, e⟩ := zd_g e
  refine zs_iast C 101 rfl (zd_vp q6) kd_Mo_lookAtParameter_200 rfl ?_
  exact zk_vret C hR kd_Mo_lookAtParameter_201 rfl rfl (zd_rV e)
set_option maxHeartbeats 4000000 in
set_option maxRecDepth 100000 in
theorem zb_Mo_lookAtParameter_82 {X : zkj_T} {S : zs_T} {P : ze_T} {l : Launch} {D : va_G} {sz0 : Nat} {rh : zs_H} (C : zk_C X km_Mo_lookAtParameter (zs_G S l D sz0) { frames := 7, cells := 8, slots := 28, locals := 202 } (ze_E P)) (hR : zkj_R X (zd_PV S rh) (none)) {k82 : zs_H → Int32 → Int32 → Int32 → Int32 → (Option zs_H)} (hk82 : ∀ (h : zs_H) (x1 : Int32) (x2 : Int32) (x3 : Int32) (x4 : Int32), k82 h x1 x2 x3 x4 = some rh → zk_Ab X (zs_W S h) 8 28 82 [(0, .ref (S.1 68)), (1, .int x1), (2, .int x2), (3, .int x3), (4, .int x4)] []) (h : zs_H) (x1 : Int32) (x2 : Int32) (x3 : Int32) (x4 : Int32) (e : f_Mo_lookAtParameter_82 k82 h x1 x2 x3 x4 = some rh) : zk_Ab X (zs_W S h) 8 28 82 [(0, .ref (S.1 68)), (1, .int x1), (2, .int x2), (3, .int x3), (4, .int x4)] [] := by
  unfold f_Mo_lookAtParameter_82 at e
  refine zk_iload C kd_Mo_lookAtParameter_82 4 rfl rfl ?_
  refine zk_iload_n C kd_Mo_lookAtParameter_84 rfl 1 rfl rfl ?_
  refine zk_icmp_eq (tgt := 128) C kd_Mo_lookAtParameter_85 (by decide) rfl (fun b1 => ?_) (fun b1 => ?_)
  · replace e := zd_pos b1 e
    refine zk_aload_n C kd_Mo_lookAtParameter_128 rfl 0 rfl rfl ?_
    refine zs_get (v := .int (h.1 68 29)) C 68 29 rfl rfl rfl rfl ki_Mo (by decide) kw1712 kd_Mo_lookAtParameter_129 rfl ?_
    refine zk_if_ne (tgt := 201) C kd_Mo_lookAtParameter_132 (by decide) rfl (fun b2 => ?_) (fun b2 => ?_)
    · replace e := zd_neg b2 e
      exact zk_vret C hR kd_Mo_lookAtParameter_201 rfl rfl (zd_rV e)
    · replace e := zd_pos b2 e
      refine zk_aload_n C kd_Mo_lookAtParameter_135 rfl 0 rfl rfl ?_
      refine zk_aload_n C kd_Mo_lookAtParameter_136 rfl 0 rfl rfl ?_
      refine zs_get (v := .ref (S.1 100)) C 68 51 rfl rfl rfl rfl ki_Mo (by decide) kw1734 kd_Mo_lookAtParameter_137 rfl ?_
      refine zk_aload_n C kd_Mo_lookAtParameter_140 rfl 0 rfl rfl ?_
      refine zs_get (v := .ref (S.1 76)) C 68 19 rfl rfl rfl rfl ki_Mo (by decide) kw1702 kd_Mo_lookAtParameter_141 rfl ?_
      refine zk_iload_n C kd_Mo_lookAtParameter_144 rfl 1 rfl rfl ?_
      obtain ⟨q3, e⟩ := zd_g e
      refine zs_iald C 76 rfl (zd_vp q3) kd_Mo_lookAtParameter_145 rfl ?_
      obtain ⟨q4, e⟩ := zd_g e
      refine zs_iald C 100 rfl (zd_vp q4) kd_Mo_lookAtParameter_146 rfl ?_
      refine zk_aload_n C kd_Mo_lookAtParameter_147 rfl 0 rfl rfl ?_
      refine zk_aload_n C kd_Mo_lookAtParameter_148 rfl 0 rfl rfl ?_
      refine zs_get (v := .ref (S.1 93)) C 68 44 rfl rfl rfl rfl ki_Mo (by decide) kw1727 kd_Mo_lookAtParameter_149 rfl ?_
      refine zk_iload_n C kd_Mo_lookAtParameter_152 rfl 2 rfl rfl ?_
      obtain ⟨q5, e⟩ := zd_g e
      refine zs_iald C 93 rfl (zd_vp q5) kd_Mo_lookAtParameter_153 rfl ?_
      refine zk_iconst (v := 1) C kd_Mo_lookAtParameter_154 (by decide) rfl ?_
      refine zk_iload_n C kd_Mo_lookAtParameter_155 rfl 3 rfl rfl ?_
      obtain ⟨v7, c6, e⟩ := zd_b e
      refine zs_callV (k := 68) (rn := { frames := 0, cells := 0, slots := 0, locals := 0 }) (As := [.int (h.2.1 93 x2.toNatClampNeg), .int 1, .int x3]) (rest := [.int (h.2.1 100 (h.2.1 76 x1.toNatClampNeg).toNatClampNeg), .ref (S.1 68)]) C (zc_Mo_pinType h (h.2.1 93 x2.toNatClampNeg) 1 x3 c6) ku_Mo_pinType kw2461 kv_Mo_pinType rfl ⟨by decide, by decide⟩ ⟨by decide, by decide⟩ rfl rfl rfl (Nat.le_of_ble_eq_true rfl) kd_Mo_lookAtParameter_156 rfl (c1 := 8) (s1 := 28) rfl rfl (fun v w hp => ?_)
      obtain ⟨rfl, rfl⟩ := hp
      refine zk_stk (r' := [.int v7, .int (h.2.1 100 (h.2.1 76 x1.toNatClampNeg).toNatClampNeg), .ref (S.1 68)]) rfl ?_
      refine zk_callS (rn := { frames := 0, cells := 0, slots := 0, locals := 0 }) (As := [.int (h.2.1 100 (h.2.1 76 x1.toNatClampNeg).toNatClampNeg), .int v7]) (rest := [.ref (S.1 68)]) C (zc_Mo_fits h (h.2.1 100 (h.2.1 76 x1.toNatClampNeg).toNatClampNeg) v7) ku_Mo_fits kw2351 ks_Mo_fits rfl ⟨by decide, by decide⟩ ⟨by decide, by decide⟩ rfl (Nat.le_of_ble_eq_true rfl) kd_Mo_lookAtParameter_159 rfl (c1 := 8) (s1 := 28) rfl rfl (fun v w hp => ?_)
      obtain ⟨rfl, rfl, z8⟩ := hp
      refine zk_stk (r' := [.int (f_Mo_fits (h.2.1 100 (h.2.1 76 x1.toNatClampNeg).toNatClampNeg) v7), .ref (S.1 68)]) rfl ?_
      refine zk_if_ne (tgt := 169) C kd_Mo_lookAtParameter_162 (by decide) rfl (fun b9 => ?_) (fun b9 => ?_)
      · replace e := zd_neg b9 e
        refine zk_iconst (v := 0) C kd_Mo_lookAtParameter_169 (by decide) rfl ?_
        refine zk_lvs (lv' := [(0, .ref (S.1 68)), (1, .int x1), (2, .int x2), (3, .int x3)]) [0, 1, 2, 3] rfl ?_
        exact zb_Mo_lookAtParameter_170 C hR h x1 x2 x3 0 e
      · replace e := zd_pos b9 e
        refine zk_iconst (v := 1) C kd_Mo_lookAtParameter_165 (by decide) rfl ?_
        refine zk_goto (tgt := 170) C kd_Mo_lookAtParameter_166 (by decide) ?_
        refine zk_lvs (lv' := [(0, .ref (S.1 68)), (1, .int x1), (2, .int x2), (3, .int x3)]) [0, 1, 2, 3] rfl ?_
        exact zb_Mo_lookAtParameter_170 C hR h x1 x2 x3 1 e
  · replace e := zd_neg b1 e
    refine zk_aload_n C kd_Mo_lookAtParameter_88 rfl 0 rfl rfl ?_
    refine zk_aload_n C kd_Mo_lookAtParameter_89 rfl 0 rfl rfl ?_
    refine zs_get (v := .ref (S.1 74)) C 68 17 rfl rfl rfl rfl ki_Mo (by decide) kw1700 kd_Mo_lookAtParameter_90 rfl ?_
    refine zk_iload C kd_Mo_lookAtParameter_93 4 rfl rfl ?_
    obtain ⟨q10, e⟩ := zd_g e
    refine zs_iald C 74 rfl (zd_vp q10) kd_Mo_lookAtParameter_95 rfl ?_
    refine zk_aload_n C kd_Mo_lookAtParameter_96 rfl 0 rfl rfl ?_
    refine zs_get (v := .ref (S.1 74)) C 68 17 rfl rfl rfl rfl ki_Mo (by decide) kw1700 kd_Mo_lookAtParameter_97 rfl ?_
    refine zk_iload_n C kd_Mo_lookAtParameter_100 rfl 1 rfl rfl ?_
    obtain ⟨q11, e⟩ := zd_g e
    refine zs_iald C 74 rfl (zd_vp q11) kd_Mo_lookAtParameter_101 rfl ?_
    refine zk_icmp_ne (tgt := 109) C kd_Mo_lookAtParameter_102 (by decide) rfl (fun b12 => ?_) (fun b12 => ?_)
    · replace e := zd_neg b12 e
      refine zk_iconst (v := 0) C kd_Mo_lookAtParameter_109 (by decide) rfl ?_
      refine zk_lvs (lv' := [(0, .ref (S.1 68)), (1, .int x1), (2, .int x2), (3, .int x3), (4, .int x4)]) [0, 1, 2, 3, 4] rfl ?_
      exact zb_Mo_lookAtParameter_110 C hR hk82 h x1 x2 x3 x4 0 e
    · replace e := zd_pos b12 e
      refine zk_iconst (v := 1) C kd_Mo_lookAtParameter_105 (by decide) rfl ?_
      refine zk_goto (tgt := 110) C kd_Mo_lookAtParameter_106 (by decide) ?_
      refine zk_lvs (lv' := [(0, .ref (S.1 68)), (1, .int x1), (2, .int x2), (3, .int x3), (4, .int x4)]) [0, 1, 2, 3, 4] rfl ?_
      exact zb_Mo_lookAtParameter_110 C hR hk82 h x1 x2 x3 x4 1 e
theorem zl_Mo_lookAtParameter_82 {X : zkj_T} {S : zs_T} {P : ze_T} {l : Launch} {D : va_G} {sz0 : Nat} {rh : zs_H} (C : zk_C X km_Mo_lookAtParameter (zs_G S l D sz0) { frames := 7, cells := 8, slots := 28, locals := 202 } (ze_E P)) (hR : zkj_R X (zd_PV S rh) (none)) (n : Nat) : ∀ (h : zs_H) (x1 : Int32) (x2 : Int32) (x3 : Int32) (x4 : Int32), f_Mo_lookAtParameter_L82 n h x1 x2 x3 x4 = some rh → zk_Ab X (zs_W S h) 8 28 82 [(0, .ref (S.1 68)), (1, .int x1), (2, .int x2), (3, .int x3), (4, .int x4)] [] := by
  induction n with
  | zero => intro h x1 x2 x3 x4 e; exact zd_no e
  | succ n ih => intro h x1 x2 x3 x4 e; exact zb_Mo_lookAtParameter_82 (k82 := f_Mo_lookAtParameter_L82  n) C hR ih h x1 x2 x3 x4 e
set_option maxHeartbeats 4000000 in
set_option maxRecDepth 100000 in
theorem zb_Mo_lookAtParameter_63 {X : zkj_T} {S : zs_T} {P : ze_T} {l : Launch} {D : va_G} {sz0 : Nat} {rh : zs_H} (C : zk_C X km_Mo_lookAtParameter (zs_G S l D sz0) { frames := 7, cells := 8, slots := 28, locals := 202 } (ze_E P)) (hR : zkj_R X (zd_PV S rh) (none)) (h : zs_H) (x1 : Int32) (x2 : Int32) (x3 : Int32) (y0 : Int32) (e : f_Mo_lookAtParameter_63 h x1 x2 x3 y0 = some rh) : zk_Ab X (zs_W S h) 8 28 63 [(0, .ref (S.1 68)), (1, .int x1), (2, .int x2), (3, .int x3)] [.int y0, .ref (S.1 68)] := by
  unfold f_Mo_lookAtParameter_63 at e
  refine zk_bipush (v := 32) C kd_Mo_lookAtParameter_63 (by decide) rfl ?_
  refine zk_iload_n C kd_Mo_lookAtParameter_65 rfl 1 rfl rfl ?_
  obtain ⟨h2, c1, e⟩ := zd_b e
  refine zs_callV (k := 68) (rn := { frames := 1, cells := 0, slots := 0, locals := 22 }) (As := [.int y0, .int 32, .int x1]) (rest := []) C (zc_Mo_rule h y0 32 x1 c1) ku_Mo_rule kw2260 kv_Mo_rule rfl ⟨by decide, by decide⟩ ⟨by decide, by decide⟩ rfl rfl rfl (Nat.le_of_ble_eq_true rfl) kd_Mo_lookAtParameter_66 rfl (c1 := 8) (s1 := 28) rfl rfl (fun v w hp => ?_)
  obtain ⟨rfl, rfl⟩ := hp
  refine zk_stk (r' := []) rfl ?_
  refine zk_aload_n C kd_Mo_lookAtParameter_69 rfl 0 rfl rfl ?_
  refine zs_get (v := .ref (S.1 76)) C 68 19 rfl rfl rfl rfl ki_Mo (by decide) kw1702 kd_Mo_lookAtParameter_70 rfl ?_
  refine zk_aload_n C kd_Mo_lookAtParameter_73 rfl 0 rfl rfl ?_
  refine zs_get (v := .ref (S.1 75)) C 68 18 rfl rfl rfl rfl ki_Mo (by decide) kw1701 kd_Mo_lookAtParameter_74 rfl ?_
  refine zk_iload_n C kd_Mo_lookAtParameter_77 rfl 1 rfl rfl ?_
  obtain ⟨q3, e⟩ := zd_g e
  refine zs_iald C 75 rfl (zd_vp q3) kd_Mo_lookAtParameter_78 rfl ?_
  obtain ⟨q4, e⟩ := zd_g e
  refine zs_iald C 76 rfl (zd_vp q4) kd_Mo_lookAtParameter_79 rfl ?_
  refine zk_istore (lv' := [(4, _), (0, _), (1, _), (2, _), (3, _)]) C kd_Mo_lookAtParameter_80 (by decide) rfl rfl ?_
  refine zk_lvs (lv' := [(0, .ref (S.1 68)), (1, .int x1), (2, .int x2), (3, .int x3), (4, .int (h2.2.1 76 (h2.2.1 75 x1.toNatClampNeg).toNatClampNeg))]) [1, 2, 3, 4, 0] rfl ?_
  exact zl_Mo_lookAtParameter_82 C hR zF h2 x1 x2 x3 (h2.2.1 76 (h2.2.1 75 x1.toNatClampNeg).toNatClampNeg) e
set_option maxHeartbeats 4000000 in
set_option maxRecDepth 100000 in
theorem zc_Mo_lookAtParameter {l : Launch} {D : va_G} {sz0 : Nat} {S : zs_T} {P : ze_T} (h : zs_H) (x1 : Int32) {rh : zs_H} (e : f_Mo_lookAtParameter h x1 = some rh) : zk_Sp (zs_G S l D sz0) (ze_E P) km_Mo_lookAtParameter { frames := 7, cells := 8, slots := 28, locals := 202 } [.ref (S.1 68), .int x1] (zs_W S h) (zd_PV S rh) := by
  refine zk_met ku_Mo_lookAtParameter (Nat.le_of_ble_eq_true rfl) (ze_Em P) ?_
  intro X C hR
  refine zk_lvs (lv' := [(0, .ref (S.1 68)), (1, .int x1)]) [0, 1] rfl ?_
  unfold f_Mo_lookAtParameter at e
  refine zk_aload_n C kd_Mo_lookAtParameter_0 rfl 0 rfl rfl ?_
  refine zk_aload_n C kd_Mo_lookAtParameter_1 rfl 0 rfl rfl ?_
  refine zs_get (v := .int (h.1 68 54)) C 68 54 rfl rfl rfl rfl ki_Mo (by decide) kw1737 kd_Mo_lookAtParameter_2 rfl ?_
  refine zk_aload_n C kd_Mo_lookAtParameter_5 rfl 0 rfl rfl ?_
  refine zs_get (v := .ref (S.1 74)) C 68 17 rfl rfl rfl rfl ki_Mo (by decide) kw1700 kd_Mo_lookAtParameter_6 rfl ?_
  refine zk_aload_n C kd_Mo_lookAtParameter_9 rfl 0 rfl rfl ?_
  refine zs_get (v := .ref (S.1 75)) C 68 18 rfl rfl rfl rfl ki_Mo (by decide) kw1701 kd_Mo_lookAtParameter_10 rfl ?_
  refine zk_iload_n C kd_Mo_lookAtParameter_13 rfl 1 rfl rfl ?_
  obtain ⟨q1, e⟩ := zd_g e
  refine zs_iald C 75 rfl (zd_vp q1) kd_Mo_lookAtParameter_14 rfl ?_
  obtain ⟨q2, e⟩ := zd_g e
  refine zs_iald C 74 rfl (zd_vp q2) kd_Mo_lookAtParameter_15 rfl ?_
  obtain ⟨v4, c3, e⟩ := zd_b e
  refine zs_callV (k := 68) (rn := { frames := 0, cells := 0, slots := 0, locals := 0 }) (As := [.int (h.1 68 54), .int (h.2.1 74 (h.2.1 75 x1.toNatClampNeg).toNatClampNeg)]) (rest := []) C (zc_Mo_variable h (h.1 68 54) (h.2.1 74 (h.2.1 75 x1.toNatClampNeg).toNatClampNeg) c3) ku_Mo_variable kw2327 kv_Mo_variable rfl ⟨by decide, by decide⟩ ⟨by decide, by decide⟩ rfl rfl rfl (Nat.le_of_ble_eq_true rfl) kd_Mo_lookAtParameter_16 rfl (c1 := 0) (s1 := 0) rfl rfl (fun v w hp => ?_)
  obtain ⟨rfl, rfl⟩ := hp
  refine zk_stk (r' := [.int v4]) rfl ?_
  refine zk_istore_n (lv' := [(2, _), (0, _), (1, _)]) C kd_Mo_lookAtParameter_19 rfl (by decide) rfl rfl ?_
  refine zk_iload_n C kd_Mo_lookAtParameter_20 rfl 0 rfl rfl ?_
  refine zk_if_lt (tgt := 34) C kd_Mo_lookAtParameter_21 (by decide) rfl (fun b5 => ?_) (fun b5 => ?_)
  · replace e := zd_pos b5 e
    refine zk_widen (c1 := 8) (s1 := 28) (by decide) (by decide) ?_
    exact zk_vret C hR kd_Mo_lookAtParameter_34 rfl rfl (zd_rV e)
  · replace e := zd_neg b5 e
    refine zk_aload_n C kd_Mo_lookAtParameter_24 rfl 1 rfl rfl ?_
    refine zs_get (v := .ref (S.1 92)) C 68 43 rfl rfl rfl rfl ki_Mo (by decide) kw1726 kd_Mo_lookAtParameter_25 rfl ?_
    refine zk_iload_n C kd_Mo_lookAtParameter_28 rfl 0 rfl rfl ?_
    obtain ⟨q6, e⟩ := zd_g e
    refine zs_iald C 92 rfl (zd_vp q6) kd_Mo_lookAtParameter_29 rfl ?_
    refine zk_iconst (v := 2) C kd_Mo_lookAtParameter_30 (by decide) rfl ?_
    refine zk_icmp_eq (tgt := 35) C kd_Mo_lookAtParameter_31 (by decide) rfl (fun b7 => ?_) (fun b7 => ?_)
    · replace e := zd_pos b7 e
      refine zk_aload_n C kd_Mo_lookAtParameter_35 rfl 1 rfl rfl ?_
      refine zk_aload_n C kd_Mo_lookAtParameter_36 rfl 1 rfl rfl ?_
      refine zs_get (v := .ref (S.1 93)) C 68 44 rfl rfl rfl rfl ki_Mo (by decide) kw1727 kd_Mo_lookAtParameter_37 rfl ?_
      refine zk_iload_n C kd_Mo_lookAtParameter_40 rfl 0 rfl rfl ?_
      refine zs_iald C 93 rfl (zd_vp q6) kd_Mo_lookAtParameter_41 rfl ?_
      refine zk_iconst (v := 1) C kd_Mo_lookAtParameter_42 (by decide) rfl ?_
      refine zk_aload_n C kd_Mo_lookAtParameter_43 rfl 1 rfl rfl ?_
      refine zs_get (v := .ref (S.1 74)) C 68 17 rfl rfl rfl rfl ki_Mo (by decide) kw1700 kd_Mo_lookAtParameter_44 rfl ?_
      refine zk_iload_n C kd_Mo_lookAtParameter_47 rfl 2 rfl rfl ?_
      refine zs_iald C 74 rfl (zd_vp q1) kd_Mo_lookAtParameter_48 rfl ?_
      obtain ⟨v9, c8, e⟩ := zd_b e
      refine zs_callV (k := 68) (rn := { frames := 6, cells := 8, slots := 28, locals := 177 }) (As := [.int (h.2.1 93 v4.toNatClampNeg), .int 1, .int (h.2.1 74 x1.toNatClampNeg)]) (rest := []) C (zc_Mo_pin h (h.2.1 93 v4.toNatClampNeg) 1 (h.2.1 74 x1.toNatClampNeg) c8) ku_Mo_pin kw2362 kv_Mo_pin rfl ⟨by decide, by decide⟩ ⟨by decide, by decide⟩ rfl rfl rfl (Nat.le_of_ble_eq_true rfl) kd_Mo_lookAtParameter_49 rfl (c1 := 8) (s1 := 28) rfl rfl (fun v w hp => ?_)
      obtain ⟨rfl, rfl⟩ := hp
      refine zk_stk (r' := [.int v9]) rfl ?_
      refine zk_istore_n (lv' := [(3, _), (2, _), (0, _), (1, _)]) C kd_Mo_lookAtParameter_52 rfl (by decide) rfl rfl ?_
      refine zk_aload_n C kd_Mo_lookAtParameter_53 rfl 2 rfl rfl ?_
      refine zk_iload_n C kd_Mo_lookAtParameter_54 rfl 0 rfl rfl ?_
      refine zk_if_ge (tgt := 62) C kd_Mo_lookAtParameter_55 (by decide) rfl (fun b10 => ?_) (fun b10 => ?_)
      · replace e := zd_pos b10 e
        refine zk_iconst (v := 0) C kd_Mo_lookAtParameter_62 (by decide) rfl ?_
        refine zk_lvs (lv' := [(0, .ref (S.1 68)), (1, .int x1), (2, .int v4), (3, .int v9)]) [2, 3, 1, 0] rfl ?_
        exact zb_Mo_lookAtParameter_63 C hR h x1 v4 v9 0 e
      · replace e := zd_neg b10 e
        refine zk_iconst (v := 1) C kd_Mo_lookAtParameter_58 (by decide) rfl ?_
        refine zk_goto (tgt := 63) C kd_Mo_lookAtParameter_59 (by decide) ?_
        refine zk_lvs (lv' := [(0, .ref (S.1 68)), (1, .int x1), (2, .int v4), (3, .int v9)]) [2, 3, 1, 0] rfl ?_
        exact zb_Mo_lookAtParameter_63 C hR h x1 v4 v9 1 e
    · replace e := zd_neg b7 e
      refine zk_widen (c1 := 8) (s1 := 28) (by decide) (by decide) ?_
      exact zk_vret C hR kd_Mo_lookAtParameter_34 rfl rfl (zd_rV e)
set_option maxHeartbeats 4000000 in
set_option maxRecDepth 100000 in
theorem zb_Mo_lookAtOutput_60 {X : zkj_T} {S : zs_T} {P : ze_T} {l : Launch} {D : va_G} {sz0 : Nat} {rh : zs_H} (C : zk_C X km_Mo_lookAtOutput (zs_G S l D sz0) { frames := 7, cells := 8, slots := 28, locals := 202 } (ze_E P)) (hR : zkj_R X (zd_PV S rh) (none)) (h : zs_H) (x1 : Int32) (x2 : Int32) (x3 : Int32) (y0 : Int32) (e : f_Mo_lookAtOutput_60 h x1 x2 x3 y0 = some rh) : zk_Ab X (zs_W S h) 8 28 60 [(0, .ref (S.1 68)), (1, .int x1), (2, .int x2), (3, .int x3)] [.int y0, .ref (S.1 68)] := by
  unfold f_Mo_lookAtOutput_60 at e
  refine zk_bipush (v := 23) C kd_Mo_lookAtOutput_60 (by decide) rfl ?_
  refine zk_iload_n C kd_Mo_lookAtOutput_62 rfl 1 rfl rfl ?_
  obtain ⟨h2, c1, e⟩ := zd_b e
  refine zs_callV (k := 68) (rn := { frames := 1, cells := 0, slots := 0, locals := 22 }) (As := [.int y0, .int 23, .int x1]) (rest := []) C (zc_Mo_rule h y0 23 x1 c1) ku_Mo_rule kw2260 kv_Mo_rule rfl ⟨by decide, by decide⟩ ⟨by decide, by decide⟩ rfl rfl rfl (Nat.le_of_ble_eq_true rfl) kd_Mo_lookAtOutput_63 rfl (c1 := 8) (s1 := 28) rfl rfl (fun v w hp => ?_)
  obtain ⟨rfl, rfl⟩ := hp
  refine zk_stk (r' := []) rfl ?_
  refine zk_aload_n C kd_Mo_lookAtOutput_66 rfl 0 rfl rfl ?_
  refine zs_get (v := .int (h2.1 68 29)) C 68 29 rfl rfl rfl rfl ki_Mo (by decide) kw1712 kd_Mo_lookAtOutput_67 rfl ?_
  refine zk_if_ne (tgt := 116) C kd_Mo_lookAtOutput_70 (by decide) rfl (fun b3 => ?_) (fun b3 => ?_)
  · replace e := zd_neg b3 e
    exact zk_vret C hR kd_Mo_lookAtOutput_116 rfl rfl (zd_rV e)
  · replace e := zd_pos b3 e
    refine zk_aload_n C kd_Mo_lookAtOutput_73 rfl 0 rfl rfl ?_
    refine zs_get (v := .ref (S.1 100)) C 68 51 rfl rfl rfl rfl ki_Mo (by decide) kw1734 kd_Mo_lookAtOutput_74 rfl ?_
    refine zk_iload_n C kd_Mo_lookAtOutput_77 rfl 1 rfl rfl ?_
    refine zk_aload_n C kd_Mo_lookAtOutput_78 rfl 0 rfl rfl ?_
    refine zk_aload_n C kd_Mo_lookAtOutput_79 rfl 0 rfl rfl ?_
    refine zs_get (v := .ref (S.1 93)) C 68 44 rfl rfl rfl rfl ki_Mo (by decide) kw1727 kd_Mo_lookAtOutput_80 rfl ?_
    refine zk_iload_n C kd_Mo_lookAtOutput_83 rfl 2 rfl rfl ?_
    obtain ⟨q4, e⟩ := zd_g e
    refine zs_iald C 93 rfl (zd_vp q4) kd_Mo_lookAtOutput_84 rfl ?_
    refine zk_iconst (v := 0) C kd_Mo_lookAtOutput_85 (by decide) rfl ?_
    refine zk_iload_n C kd_Mo_lookAtOutput_86 rfl 3 rfl rfl ?_
    obtain ⟨v6, c5, e⟩ := zd_b e
    refine zs_callV (k := 68) (rn := { frames := 0, cells := 0, slots := 0, locals := 0 }) (As := [.int (h2.2.1 93 x2.toNatClampNeg), .int 0, .int x3]) (rest := [.int x1, .ref (S.1 100)]) C (zc_Mo_pinType h2 (h2.2.1 93 x2.toNatClampNeg) 0 x3 c5) ku_Mo_pinType kw2461 kv_Mo_pinType rfl ⟨by decide, by decide⟩ ⟨by decide, by decide⟩ rfl rfl rfl (Nat.le_of_ble_eq_true rfl) kd_Mo_lookAtOutput_87 rfl (c1 := 8) (s1 := 28) rfl rfl (fun v w hp => ?_)
    obtain ⟨rfl, rfl⟩ := hp
    refine zk_stk (r' := [.int v6, .int x1, .ref (S.1 100)]) rfl ?_
    obtain ⟨q7, e⟩ := zd_g e
    refine zs_iast C 100 rfl (zd_vp q7) kd_Mo_lookAtOutput_90 rfl ?_
    refine zk_aload_n C kd_Mo_lookAtOutput_91 rfl 0 rfl rfl ?_
    refine zs_get (v := .ref (S.1 101)) C 68 52 rfl rfl rfl rfl ki_Mo (by decide) kw1735 kd_Mo_lookAtOutput_92 rfl ?_
    refine zk_iload_n C kd_Mo_lookAtOutput_95 rfl 1 rfl rfl ?_
    refine zk_aload_n C kd_Mo_lookAtOutput_96 rfl 0 rfl rfl ?_
    refine zs_get (v := .ref (S.1 94)) C 68 45 rfl rfl rfl rfl ki_Mo (by decide) kw1728 kd_Mo_lookAtOutput_97 rfl ?_
    refine zk_iload_n C kd_Mo_lookAtOutput_100 rfl 2 rfl rfl ?_
    refine zs_iald C 94 rfl (zd_vp q4) kd_Mo_lookAtOutput_101 rfl ?_
    refine zk_stk (r' := [.int (h2.2.1 94 x2.toNatClampNeg), .int x1, .ref (S.1 101)]) rfl ?_
    refine zk_aload_n C kd_Mo_lookAtOutput_102 rfl 0 rfl rfl ?_
    refine zk_aload_n C kd_Mo_lookAtOutput_103 rfl 0 rfl rfl ?_
    refine zs_get (v := .ref (S.1 93)) C 68 44 rfl rfl rfl rfl ki_Mo (by decide) kw1727 kd_Mo_lookAtOutput_104 rfl ?_
    refine zk_iload_n C kd_Mo_lookAtOutput_107 rfl 2 rfl rfl ?_
    refine zs_iald C 93 rfl (zd_vp q4) kd_Mo_lookAtOutput_108 rfl ?_
    refine zk_stk (r' := [.int (h2.2.1 93 x2.toNatClampNeg), .ref (S.1 68), .int (h2.2.1 94 x2.toNatClampNeg), .int x1, .ref (S.1 101)]) rfl ?_
    refine zk_iconst (v := 0) C kd_Mo_lookAtOutput_109 (by decide) rfl ?_
    refine zk_iload_n C kd_Mo_lookAtOutput_110 rfl 3 rfl rfl ?_
    obtain ⟨v9, c8, e⟩ := zd_b e
    refine zs_callV (k := 68) (rn := { frames := 0, cells := 0, slots := 0, locals := 0 }) (As := [.int (h2.2.1 93 x2.toNatClampNeg), .int 0, .int x3]) (rest := [.int (h2.2.1 94 x2.toNatClampNeg), .int x1, .ref (S.1 101)]) C (zc_Mo_pinCell (zs_uM h2 100 x1.toNatClampNeg v6) (h2.2.1 93 x2.toNatClampNeg) 0 x3 c8) ku_Mo_pinCell kw2465 kv_Mo_pinCell rfl ⟨by decide, by decide⟩ ⟨by decide, by decide⟩ rfl rfl rfl (Nat.le_of_ble_eq_true rfl) kd_Mo_lookAtOutput_111 rfl (c1 := 8) (s1 := 28) rfl rfl (fun v w hp => ?_)
    obtain ⟨rfl, rfl⟩ := hp
    refine zk_stk (r' := [.int v9, .int (h2.2.1 94 x2.toNatClampNeg), .int x1, .ref (S.1 101)]) rfl ?_
    refine zk_iadd C kd_Mo_lookAtOutput_114 rfl ?_
    refine zs_iast C 101 rfl (zd_vp q7) kd_Mo_lookAtOutput_115 rfl ?_
    exact zk_vret C hR kd_Mo_lookAtOutput_116 rfl rfl (zd_rV e)
set_option maxHeartbeats 4000000 in
set_option maxRecDepth 100000 in
theorem zc_Mo_lookAtOutput {l : Launch} {D : va_G} {sz0 : Nat} {S : zs_T} {P : ze_T} (h : zs_H) (x1 : Int32) {rh : zs_H} (e : f_Mo_lookAtOutput h x1 = some rh) : zk_Sp (zs_G S l D sz0) (ze_E P) km_Mo_lookAtOutput { frames := 7, cells := 8, slots := 28, locals := 202 } [.ref (S.1 68), .int x1] (zs_W S h) (zd_PV S rh) := by
  refine zk_met ku_Mo_lookAtOutput (Nat.le_of_ble_eq_true rfl) (ze_Em P) ?_
  intro X C hR
  refine zk_lvs (lv' := [(0, .ref (S.1 68)), (1, .int x1)]) [0, 1] rfl ?_
  unfold f_Mo_lookAtOutput at e
  refine zk_aload_n C kd_Mo_lookAtOutput_0 rfl 0 rfl rfl ?_
  refine zk_iload_n C kd_Mo_lookAtOutput_1 rfl 1 rfl rfl ?_
  obtain ⟨h2, c1, e⟩ := zd_b e
  refine zs_callV (k := 68) (rn := { frames := 2, cells := 0, slots := 0, locals := 45 }) (As := [.int x1]) (rest := []) C (zc_Mo_lookAtInstance h x1 c1) ku_Mo_lookAtInstance kw2354 kv_Mo_lookAtInstance rfl ⟨by decide, by decide⟩ ⟨by decide, by decide⟩ rfl rfl rfl (Nat.le_of_ble_eq_true rfl) kd_Mo_lookAtOutput_2 rfl (c1 := 0) (s1 := 0) rfl rfl (fun v w hp => ?_)
  obtain ⟨rfl, rfl⟩ := hp
  refine zk_stk (r' := []) rfl ?_
  refine zk_aload_n C kd_Mo_lookAtOutput_5 rfl 0 rfl rfl ?_
  refine zs_get (v := .int (h2.1 68 29)) C 68 29 rfl rfl rfl rfl ki_Mo (by decide) kw1712 kd_Mo_lookAtOutput_6 rfl ?_
  refine zk_if_ne (tgt := 116) C kd_Mo_lookAtOutput_9 (by decide) rfl (fun b3 => ?_) (fun b3 => ?_)
  · replace e := zd_neg b3 e
    refine zk_widen (c1 := 8) (s1 := 28) (by decide) (by decide) ?_
    exact zk_vret C hR kd_Mo_lookAtOutput_116 rfl rfl (zd_rV e)
  · replace e := zd_pos b3 e
    refine zk_aload_n C kd_Mo_lookAtOutput_12 rfl 0 rfl rfl ?_
    refine zk_aload_n C kd_Mo_lookAtOutput_13 rfl 0 rfl rfl ?_
    refine zs_get (v := .int (h2.1 68 54)) C 68 54 rfl rfl rfl rfl ki_Mo (by decide) kw1737 kd_Mo_lookAtOutput_14 rfl ?_
    refine zk_aload_n C kd_Mo_lookAtOutput_17 rfl 0 rfl rfl ?_
    refine zs_get (v := .ref (S.1 74)) C 68 17 rfl rfl rfl rfl ki_Mo (by decide) kw1700 kd_Mo_lookAtOutput_18 rfl ?_
    refine zk_iload_n C kd_Mo_lookAtOutput_21 rfl 1 rfl rfl ?_
    obtain ⟨q4, e⟩ := zd_g e
    refine zs_iald C 74 rfl (zd_vp q4) kd_Mo_lookAtOutput_22 rfl ?_
    obtain ⟨v6, c5, e⟩ := zd_b e
    refine zs_callV (k := 68) (rn := { frames := 0, cells := 0, slots := 0, locals := 0 }) (As := [.int (h2.1 68 54), .int (h2.2.1 74 x1.toNatClampNeg)]) (rest := []) C (zc_Mo_variable h2 (h2.1 68 54) (h2.2.1 74 x1.toNatClampNeg) c5) ku_Mo_variable kw2327 kv_Mo_variable rfl ⟨by decide, by decide⟩ ⟨by decide, by decide⟩ rfl rfl rfl (Nat.le_of_ble_eq_true rfl) kd_Mo_lookAtOutput_23 rfl (c1 := 0) (s1 := 0) rfl rfl (fun v w hp => ?_)
    obtain ⟨rfl, rfl⟩ := hp
    refine zk_stk (r' := [.int v6]) rfl ?_
    refine zk_istore_n (lv' := [(2, _), (0, _), (1, _)]) C kd_Mo_lookAtOutput_26 rfl (by decide) rfl rfl ?_
    refine zk_aload_n C kd_Mo_lookAtOutput_27 rfl 1 rfl rfl ?_
    refine zk_aload_n C kd_Mo_lookAtOutput_28 rfl 1 rfl rfl ?_
    refine zs_get (v := .ref (S.1 93)) C 68 44 rfl rfl rfl rfl ki_Mo (by decide) kw1727 kd_Mo_lookAtOutput_29 rfl ?_
    refine zk_iload_n C kd_Mo_lookAtOutput_32 rfl 0 rfl rfl ?_
    obtain ⟨q7, e⟩ := zd_g e
    refine zs_iald C 93 rfl (zd_vp q7) kd_Mo_lookAtOutput_33 rfl ?_
    refine zk_iconst (v := 0) C kd_Mo_lookAtOutput_34 (by decide) rfl ?_
    refine zk_aload_n C kd_Mo_lookAtOutput_35 rfl 1 rfl rfl ?_
    refine zs_get (v := .ref (S.1 74)) C 68 17 rfl rfl rfl rfl ki_Mo (by decide) kw1700 kd_Mo_lookAtOutput_36 rfl ?_
    refine zk_aload_n C kd_Mo_lookAtOutput_39 rfl 1 rfl rfl ?_
    refine zs_get (v := .ref (S.1 76)) C 68 19 rfl rfl rfl rfl ki_Mo (by decide) kw1702 kd_Mo_lookAtOutput_40 rfl ?_
    refine zk_iload_n C kd_Mo_lookAtOutput_43 rfl 2 rfl rfl ?_
    refine zs_iald C 76 rfl (zd_vp q4) kd_Mo_lookAtOutput_44 rfl ?_
    obtain ⟨q8, e⟩ := zd_g e
    refine zs_iald C 74 rfl (zd_vp q8) kd_Mo_lookAtOutput_45 rfl ?_
    obtain ⟨v10, c9, e⟩ := zd_b e
    refine zs_callV (k := 68) (rn := { frames := 6, cells := 8, slots := 28, locals := 177 }) (As := [.int (h2.2.1 93 v6.toNatClampNeg), .int 0, .int (h2.2.1 74 (h2.2.1 76 x1.toNatClampNeg).toNatClampNeg)]) (rest := []) C (zc_Mo_pin h2 (h2.2.1 93 v6.toNatClampNeg) 0 (h2.2.1 74 (h2.2.1 76 x1.toNatClampNeg).toNatClampNeg) c9) ku_Mo_pin kw2362 kv_Mo_pin rfl ⟨by decide, by decide⟩ ⟨by decide, by decide⟩ rfl rfl rfl (Nat.le_of_ble_eq_true rfl) kd_Mo_lookAtOutput_46 rfl (c1 := 8) (s1 := 28) rfl rfl (fun v w hp => ?_)
    obtain ⟨rfl, rfl⟩ := hp
    refine zk_stk (r' := [.int v10]) rfl ?_
    refine zk_istore_n (lv' := [(3, _), (2, _), (0, _), (1, _)]) C kd_Mo_lookAtOutput_49 rfl (by decide) rfl rfl ?_
    refine zk_aload_n C kd_Mo_lookAtOutput_50 rfl 2 rfl rfl ?_
    refine zk_iload_n C kd_Mo_lookAtOutput_51 rfl 0 rfl rfl ?_
    refine zk_if_ge (tgt := 59) C kd_Mo_lookAtOutput_52 (by decide) rfl (fun b11 => ?_) (fun b11 => ?_)
    · replace e := zd_pos b11 e
      refine zk_iconst (v := 0) C kd_Mo_lookAtOutput_59 (by decide) rfl ?_
      refine zk_lvs (lv' := [(0, .ref (S.1 68)), (1, .int x1), (2, .int v6), (3, .int v10)]) [2, 3, 1, 0] rfl ?_
      exact zb_Mo_lookAtOutput_60 C hR h2 x1 v6 v10 0 e
    · replace e := zd_neg b11 e
      refine zk_iconst (v := 1) C kd_Mo_lookAtOutput_55 (by decide) rfl ?_
      refine zk_goto (tgt := 60) C kd_Mo_lookAtOutput_56 (by decide) ?_
      refine zk_lvs (lv' := [(0, .ref (S.1 68)), (1, .int x1), (2, .int v6), (3, .int v10)]) [2, 3, 1, 0] rfl ?_
      exact zb_Mo_lookAtOutput_60 C hR h2 x1 v6 v10 1 e
set_option maxHeartbeats 4000000 in
set_option maxRecDepth 100000 in
theorem zb_Mo_lookAtStatements_413 {X : zkj_T} {S : zs_T} {P : ze_T} {l : Launch} {D : va_G} {sz0 : Nat} {rh : zs_H} (C : zk_C X km_Mo_lookAtStatements (zs_G S l D sz0) { frames := 8, cells := 8, slots := 28, locals := 226 } (ze_E P)) (hR : zkj_R X (zd_PV S rh) (none)) {k389 : zs_H → Int32 → Int32 → Int32 → (Option zs_H)} (hk389 : ∀ (h : zs_H) (x1 : Int32) (x2 : Int32) (x3 : Int32), k389 h x1 x2 x3 = some rh → zk_Ab X (zs_W S h) 0 0 389 [(0, .ref (S.1 68)), (1, .int x1), (2, .int x2), (3, .int x3)] []) (h : zs_H) (x1 : Int32) (x3 : Int32) (y0 : Int32) (e : f_Mo_lookAtStatements_413 k389 h x1 x3 y0 = some rh) : zk_Ab X (zs_W S h) 0 0 413 [(0, .ref (S.1 68)), (1, .int x1), (3, .int x3)] [.int y0] := by
  unfold f_Mo_lookAtStatements_413 at e
  refine zk_istore_n (lv' := [(2, _), (0, _), (1, _), (3, _)]) C kd_Mo_lookAtStatements_413 rfl (by decide) rfl rfl ?_
  refine zk_aload_n C kd_Mo_lookAtStatements_414 rfl 1 rfl rfl ?_
  refine zs_get (v := .ref (S.1 75)) C 68 18 rfl rfl rfl rfl ki_Mo (by decide) kw1701 kd_Mo_lookAtStatements_415 rfl ?_
  refine zk_iload_n C kd_Mo_lookAtStatements_418 rfl 3 rfl rfl ?_
  obtain ⟨q1, e⟩ := zd_g e
  refine zs_iald C 75 rfl (zd_vp q1) kd_Mo_lookAtStatements_419 rfl ?_
  refine zk_istore_n (lv' := [(3, _), (2, _), (0, _), (1, _)]) C kd_Mo_lookAtStatements_420 rfl (by decide) rfl rfl ?_
  refine zk_goto (tgt := 389) C kd_Mo_lookAtStatements_421 (by decide) ?_
  refine zk_lvs (lv' := [(0, .ref (S.1 68)), (1, .int x1), (2, .int y0), (3, .int (h.2.1 75 x3.toNatClampNeg))]) [2, 3, 1, 0] rfl ?_
  exact hk389 h x1 y0 (h.2.1 75 x3.toNatClampNeg) e
set_option maxHeartbeats 4000000 in
set_option maxRecDepth 100000 in
theorem zb_Mo_lookAtStatements_408 {X : zkj_T} {S : zs_T} {P : ze_T} {l : Launch} {D : va_G} {sz0 : Nat} {rh : zs_H} (C : zk_C X km_Mo_lookAtStatements (zs_G S l D sz0) { frames := 8, cells := 8, slots := 28, locals := 226 } (ze_E P)) (hR : zkj_R X (zd_PV S rh) (none)) {k389 : zs_H → Int32 → Int32 → Int32 → (Option zs_H)} (hk389 : ∀ (h : zs_H) (x1 : Int32) (x2 : Int32) (x3 : Int32), k389 h x1 x2 x3 = some rh → zk_Ab X (zs_W S h) 0 0 389 [(0, .ref (S.1 68)), (1, .int x1), (2, .int x2), (3, .int x3)] []) (h : zs_H) (x1 : Int32) (x3 : Int32) (e : f_Mo_lookAtStatements_408 k389 h x1 x3 = some rh) : zk_Ab X (zs_W S h) 0 0 408 [(0, .ref (S.1 68)), (1, .int x1), (3, .int x3)] [] := by
  unfold f_Mo_lookAtStatements_408 at e
  refine zk_iconst (v := 1) C kd_Mo_lookAtStatements_408 (by decide) rfl ?_
  refine zk_goto (tgt := 413) C kd_Mo_lookAtStatements_409 (by decide) ?_
  refine zk_lvs (lv' := [(0, .ref (S.1 68)), (1, .int x1), (3, .int x3)]) [0, 1, 2] rfl ?_
  exact zb_Mo_lookAtStatements_413 C hR hk389 h x1 x3 1 e
set_option maxHeartbeats 4000000 in
set_option maxRecDepth 100000 in
theorem zb_Mo_lookAtStatements_434 {X : zkj_T} {S : zs_T} {P : ze_T} {l : Launch} {D : va_G} {sz0 : Nat} {rh : zs_H} (C : zk_C X km_Mo_lookAtStatements (zs_G S l D sz0) { frames := 8, cells := 8, slots := 28, locals := 226 } (ze_E P)) (hR : zkj_R X (zd_PV S rh) (none)) (h : zs_H) (x1 : Int32) (y0 : Int32) (e : f_Mo_lookAtStatements_434 h x1 y0 = some rh) : zk_Ab X (zs_W S h) 0 0 434 [(1, .int x1)] [.int y0, .ref (S.1 68)] := by
  unfold f_Mo_lookAtStatements_434 at e
  refine zk_bipush (v := 37) C kd_Mo_lookAtStatements_434 (by decide) rfl ?_
  refine zk_iload_n C kd_Mo_lookAtStatements_436 rfl 0 rfl rfl ?_
  obtain ⟨h2, c1, e⟩ := zd_b e
  refine zs_callV (k := 68) (rn := { frames := 1, cells := 0, slots := 0, locals := 22 }) (As := [.int y0, .int 37, .int x1]) (rest := []) C (zc_Mo_rule h y0 37 x1 c1) ku_Mo_rule kw2260 kv_Mo_rule rfl ⟨by decide, by decide⟩ ⟨by decide, by decide⟩ rfl rfl rfl (Nat.le_of_ble_eq_true rfl) kd_Mo_lookAtStatements_437 rfl (c1 := 0) (s1 := 0) rfl rfl (fun v w hp => ?_)
  obtain ⟨rfl, rfl⟩ := hp
  refine zk_stk (r' := []) rfl ?_
  refine zk_goto (tgt := 443) C kd_Mo_lookAtStatements_440 (by decide) ?_
  refine zk_widen (c1 := 8) (s1 := 28) (by decide) (by decide) ?_
  exact zk_vret C hR kd_Mo_lookAtStatements_443 rfl rfl (zd_rV e)
set_option maxHeartbeats 4000000 in
set_option maxRecDepth 100000 in
theorem zb_Mo_lookAtStatements_389 {X : zkj_T} {S : zs_T} {P : ze_T} {l : Launch} {D : va_G} {sz0 : Nat} {rh : zs_H} (C : zk_C X km_Mo_lookAtStatements (zs_G S l D sz0) { frames := 8, cells := 8, slots := 28, locals := 226 } (ze_E P)) (hR : zkj_R X (zd_PV S rh) (none)) {k389 : zs_H → Int32 → Int32 → Int32 → (Option zs_H)} (hk389 : ∀ (h : zs_H) (x1 : Int32) (x2 : Int32) (x3 : Int32), k389 h x1 x2 x3 = some rh → zk_Ab X (zs_W S h) 0 0 389 [(0, .ref (S.1 68)), (1, .int x1), (2, .int x2), (3, .int x3)] []) (h : zs_H) (x1 : Int32) (x2 : Int32) (x3 : Int32) (e : f_Mo_lookAtStatements_389 k389 h x1 x2 x3 = some rh) : zk_Ab X (zs_W S h) 0 0 389 [(0, .ref (S.1 68)), (1, .int x1), (2, .int x2), (3, .int x3)] [] := by
  unfold f_Mo_lookAtStatements_389 at e
  refine zk_iload_n C kd_Mo_lookAtStatements_389 rfl 3 rfl rfl ?_
  refine zk_if_lt (tgt := 424) C kd_Mo_lookAtStatements_390 (by decide) rfl (fun b1 => ?_) (fun b1 => ?_)
  · replace e := zd_pos b1 e
    refine zk_aload_n C kd_Mo_lookAtStatements_424 rfl 0 rfl rfl ?_
    refine zk_iload_n C kd_Mo_lookAtStatements_425 rfl 2 rfl rfl ?_
    refine zk_if_ne (tgt := 433) C kd_Mo_lookAtStatements_426 (by decide) rfl (fun b2 => ?_) (fun b2 => ?_)
    · replace e := zd_neg b2 e
      refine zk_iconst (v := 0) C kd_Mo_lookAtStatements_433 (by decide) rfl ?_
      refine zk_lvs (lv' := [(1, .int x1)]) [1] rfl ?_
      exact zb_Mo_lookAtStatements_434 C hR h x1 0 e
    · replace e := zd_pos b2 e
      refine zk_iconst (v := 1) C kd_Mo_lookAtStatements_429 (by decide) rfl ?_
      refine zk_goto (tgt := 434) C kd_Mo_lookAtStatements_430 (by decide) ?_
      refine zk_lvs (lv' := [(1, .int x1)]) [1] rfl ?_
      exact zb_Mo_lookAtStatements_434 C hR h x1 1 e
  · replace e := zd_neg b1 e
    refine zk_iload_n C kd_Mo_lookAtStatements_393 rfl 2 rfl rfl ?_
    refine zk_if_ne (tgt := 408) C kd_Mo_lookAtStatements_394 (by decide) rfl (fun b3 => ?_) (fun b3 => ?_)
    · replace e := zd_neg b3 e
      refine zk_lvs (lv' := [(0, .ref (S.1 68)), (1, .int x1), (3, .int x3)]) [0, 1, 3] rfl ?_
      exact zb_Mo_lookAtStatements_408 C hR hk389 h x1 x3 e
    · replace e := zd_pos b3 e
      refine zk_aload_n C kd_Mo_lookAtStatements_397 rfl 0 rfl rfl ?_
      refine zs_get (v := .ref (S.1 72)) C 68 15 rfl rfl rfl rfl ki_Mo (by decide) kw1698 kd_Mo_lookAtStatements_398 rfl ?_
      refine zk_iload_n C kd_Mo_lookAtStatements_401 rfl 3 rfl rfl ?_
      obtain ⟨q4, e⟩ := zd_g e
      refine zs_iald C 72 rfl (zd_vp q4) kd_Mo_lookAtStatements_402 rfl ?_
      refine zk_bipush (v := 19) C kd_Mo_lookAtStatements_403 (by decide) rfl ?_
      refine zk_icmp_ne (tgt := 412) C kd_Mo_lookAtStatements_405 (by decide) rfl (fun b5 => ?_) (fun b5 => ?_)
      · replace e := zd_neg b5 e
        refine zk_iconst (v := 0) C kd_Mo_lookAtStatements_412 (by decide) rfl ?_
        refine zk_lvs (lv' := [(0, .ref (S.1 68)), (1, .int x1), (3, .int x3)]) [0, 1, 3] rfl ?_
        exact zb_Mo_lookAtStatements_413 C hR hk389 h x1 x3 0 e
      · replace e := zd_pos b5 e
        refine zk_lvs (lv' := [(0, .ref (S.1 68)), (1, .int x1), (3, .int x3)]) [0, 1, 3] rfl ?_
        exact zb_Mo_lookAtStatements_408 C hR hk389 h x1 x3 e
theorem zl_Mo_lookAtStatements_389 {X : zkj_T} {S : zs_T} {P : ze_T} {l : Launch} {D : va_G} {sz0 : Nat} {rh : zs_H} (C : zk_C X km_Mo_lookAtStatements (zs_G S l D sz0) { frames := 8, cells := 8, slots := 28, locals := 226 } (ze_E P)) (hR : zkj_R X (zd_PV S rh) (none)) (n : Nat) : ∀ (h : zs_H) (x1 : Int32) (x2 : Int32) (x3 : Int32), f_Mo_lookAtStatements_L389 n h x1 x2 x3 = some rh → zk_Ab X (zs_W S h) 0 0 389 [(0, .ref (S.1 68)), (1, .int x1), (2, .int x2), (3, .int x3)] [] := by
  induction n with
  | zero => intro h x1 x2 x3 e; exact zd_no e
  | succ n ih => intro h x1 x2 x3 e; exact zb_Mo_lookAtStatements_389 (k389 := f_Mo_lookAtStatements_L389  n) C hR ih h x1 x2 x3 e
set_option maxHeartbeats 4000000 in
set_option maxRecDepth 100000 in
theorem zb_Mo_lookAtStatements_363 {X : zkj_T} {S : zs_T} {P : ze_T} {l : Launch} {D : va_G} {sz0 : Nat} {rh : zs_H} (C : zk_C X km_Mo_lookAtStatements (zs_G S l D sz0) { frames := 8, cells := 8, slots := 28, locals := 226 } (ze_E P)) (hR : zkj_R X (zd_PV S rh) (none)) (h : zs_H) (x1 : Int32) (y0 : Int32) (e : f_Mo_lookAtStatements_363 h x1 y0 = some rh) : zk_Ab X (zs_W S h) 0 0 363 [(1, .int x1)] [.int y0, .ref (S.1 68)] := by
  unfold f_Mo_lookAtStatements_363 at e
  refine zk_bipush (v := 35) C kd_Mo_lookAtStatements_363 (by decide) rfl ?_
  refine zk_iload_n C kd_Mo_lookAtStatements_365 rfl 0 rfl rfl ?_
  obtain ⟨h2, c1, e⟩ := zd_b e
  refine zs_callV (k := 68) (rn := { frames := 1, cells := 0, slots := 0, locals := 22 }) (As := [.int y0, .int 35, .int x1]) (rest := []) C (zc_Mo_rule h y0 35 x1 c1) ku_Mo_rule kw2260 kv_Mo_rule rfl ⟨by decide, by decide⟩ ⟨by decide, by decide⟩ rfl rfl rfl (Nat.le_of_ble_eq_true rfl) kd_Mo_lookAtStatements_366 rfl (c1 := 0) (s1 := 0) rfl rfl (fun v w hp => ?_)
  obtain ⟨rfl, rfl⟩ := hp
  refine zk_stk (r' := []) rfl ?_
  refine zk_goto (tgt := 443) C kd_Mo_lookAtStatements_369 (by decide) ?_
  refine zk_widen (c1 := 8) (s1 := 28) (by decide) (by decide) ?_
  exact zk_vret C hR kd_Mo_lookAtStatements_443 rfl rfl (zd_rV e)
set_option maxHeartbeats 4000000 in
set_option maxRecDepth 100000 in
theorem zb_Mo_lookAtStatements_358 {X : zkj_T} {S : zs_T} {P : ze_T} {l : Launch} {D : va_G} {sz0 : Nat} {rh : zs_H} (C : zk_C X km_Mo_lookAtStatements (zs_G S l D sz0) { frames := 8, cells := 8, slots := 28, locals := 226 } (ze_E P)) (hR : zkj_R X (zd_PV S rh) (none)) (h : zs_H) (x1 : Int32) (e : f_Mo_lookAtStatements_358 h x1 = some rh) : zk_Ab X (zs_W S h) 0 0 358 [(1, .int x1)] [.ref (S.1 68)] := by
  unfold f_Mo_lookAtStatements_358 at e
  refine zk_iconst (v := 1) C kd_Mo_lookAtStatements_358 (by decide) rfl ?_
  refine zk_goto (tgt := 363) C kd_Mo_lookAtStatements_359 (by decide) ?_
  refine zk_lvs (lv' := [(1, .int x1)]) [0] rfl ?_
  exact zb_Mo_lookAtStatements_363 C hR h x1 1 e
set_option maxHeartbeats 4000000 in
set_option maxRecDepth 100000 in
theorem zb_Mo_lookAtStatements_291 {X : zkj_T} {S : zs_T} {P : ze_T} {l : Launch} {D : va_G} {sz0 : Nat} {rh : zs_H} (C : zk_C X km_Mo_lookAtStatements (zs_G S l D sz0) { frames := 8, cells := 8, slots := 28, locals := 226 } (ze_E P)) (hR : zkj_R X (zd_PV S rh) (none)) (h : zs_H) (x1 : Int32) (y0 : Int32) (e : f_Mo_lookAtStatements_291 h x1 y0 = some rh) : zk_Ab X (zs_W S h) 0 0 291 [(1, .int x1)] [.int y0, .ref (S.1 68)] := by
  unfold f_Mo_lookAtStatements_291 at e
  refine zk_bipush (v := 34) C kd_Mo_lookAtStatements_291 (by decide) rfl ?_
  refine zk_iload_n C kd_Mo_lookAtStatements_293 rfl 0 rfl rfl ?_
  obtain ⟨h2, c1, e⟩ := zd_b e
  refine zs_callV (k := 68) (rn := { frames := 1, cells := 0, slots := 0, locals := 22 }) (As := [.int y0, .int 34, .int x1]) (rest := []) C (zc_Mo_rule h y0 34 x1 c1) ku_Mo_rule kw2260 kv_Mo_rule rfl ⟨by decide, by decide⟩ ⟨by decide, by decide⟩ rfl rfl rfl (Nat.le_of_ble_eq_true rfl) kd_Mo_lookAtStatements_294 rfl (c1 := 0) (s1 := 0) rfl rfl (fun v w hp => ?_)
  obtain ⟨rfl, rfl⟩ := hp
  refine zk_stk (r' := []) rfl ?_
  refine zk_goto (tgt := 443) C kd_Mo_lookAtStatements_297 (by decide) ?_
  refine zk_widen (c1 := 8) (s1 := 28) (by decide) (by decide) ?_
  exact zk_vret C hR kd_Mo_lookAtStatements_443 rfl rfl (zd_rV e)
set_option maxHeartbeats 4000000 in
set_option maxRecDepth 100000 in
theorem zb_Mo_lookAtStatements_249 {X : zkj_T} {S : zs_T} {P : ze_T} {l : Launch} {D : va_G} {sz0 : Nat} {rh : zs_H} (C : zk_C X km_Mo_lookAtStatements (zs_G S l D sz0) { frames := 8, cells := 8, slots := 28, locals := 226 } (ze_E P)) (hR : zkj_R X (zd_PV S rh) (none)) {k219 : zs_H → Int32 → Int32 → (Option zs_H)} (hk219 : ∀ (h : zs_H) (x1 : Int32) (x2 : Int32), k219 h x1 x2 = some rh → zk_Ab X (zs_W S h) 0 0 219 [(0, .ref (S.1 68)), (1, .int x1), (2, .int x2)] []) (h : zs_H) (x1 : Int32) (x2 : Int32) (y0 : Int32) (e : f_Mo_lookAtStatements_249 k219 h x1 x2 y0 = some rh) : zk_Ab X (zs_W S h) 0 0 249 [(0, .ref (S.1 68)), (1, .int x1), (2, .int x2)] [.int y0, .ref (S.1 68)] := by
  unfold f_Mo_lookAtStatements_249 at e
  refine zk_bipush (v := 34) C kd_Mo_lookAtStatements_249 (by decide) rfl ?_
  refine zk_iload_n C kd_Mo_lookAtStatements_251 rfl 1 rfl rfl ?_
  obtain ⟨h2, c1, e⟩ := zd_b e
  refine zs_callV (k := 68) (rn := { frames := 1, cells := 0, slots := 0, locals := 22 }) (As := [.int y0, .int 34, .int x1]) (rest := []) C (zc_Mo_rule h y0 34 x1 c1) ku_Mo_rule kw2260 kv_Mo_rule rfl ⟨by decide, by decide⟩ ⟨by decide, by decide⟩ rfl rfl rfl (Nat.le_of_ble_eq_true rfl) kd_Mo_lookAtStatements_252 rfl (c1 := 0) (s1 := 0) rfl rfl (fun v w hp => ?_)
  obtain ⟨rfl, rfl⟩ := hp
  refine zk_stk (r' := []) rfl ?_
  refine zk_aload_n C kd_Mo_lookAtStatements_255 rfl 0 rfl rfl ?_
  refine zs_get (v := .ref (S.1 78)) C 68 21 rfl rfl rfl rfl ki_Mo (by decide) kw1704 kd_Mo_lookAtStatements_256 rfl ?_
  refine zk_iload_n C kd_Mo_lookAtStatements_259 rfl 2 rfl rfl ?_
  obtain ⟨q3, e⟩ := zd_g e
  refine zs_iald C 78 rfl (zd_vp q3) kd_Mo_lookAtStatements_260 rfl ?_
  refine zk_istore_n (lv' := [(2, _), (0, _), (1, _)]) C kd_Mo_lookAtStatements_261 rfl (by decide) rfl rfl ?_
  refine zk_goto (tgt := 219) C kd_Mo_lookAtStatements_262 (by decide) ?_
  refine zk_lvs (lv' := [(0, .ref (S.1 68)), (1, .int x1), (2, .int (h2.2.1 78 x2.toNatClampNeg))]) [1, 2, 0] rfl ?_
  exact hk219 h2 x1 (h2.2.1 78 x2.toNatClampNeg) e
set_option maxHeartbeats 4000000 in
set_option maxRecDepth 100000 in
theorem zb_Mo_lookAtStatements_248 {X : zkj_T} {S : zs_T} {P : ze_T} {l : Launch} {D : va_G} {sz0 : Nat} {rh : zs_H} (C : zk_C X km_Mo_lookAtStatements (zs_G S l D sz0) { frames := 8, cells := 8, slots := 28, locals := 226 } (ze_E P)) (hR : zkj_R X (zd_PV S rh) (none)) {k219 : zs_H → Int32 → Int32 → (Option zs_H)} (hk219 : ∀ (h : zs_H) (x1 : Int32) (x2 : Int32), k219 h x1 x2 = some rh → zk_Ab X (zs_W S h) 0 0 219 [(0, .ref (S.1 68)), (1, .int x1), (2, .int x2)] []) (h : zs_H) (x1 : Int32) (x2 : Int32) (e : f_Mo_lookAtStatements_248 k219 h x1 x2 = some rh) : zk_Ab X (zs_W S h) 0 0 248 [(0, .ref (S.1 68)), (1, .int x1), (2, .int x2)] [.ref (S.1 68)] := by
  unfold f_Mo_lookAtStatements_248 at e
  refine zk_iconst (v := 0) C kd_Mo_lookAtStatements_248 (by decide) rfl ?_
  refine zk_lvs (lv' := [(0, .ref (S.1 68)), (1, .int x1), (2, .int x2)]) [0, 1, 2] rfl ?_
  exact zb_Mo_lookAtStatements_249 C hR hk219 h x1 x2 0 e
set_option maxHeartbeats 4000000 in
set_option maxRecDepth 100000 in
theorem zb_Mo_lookAtStatements_219 {X : zkj_T} {S : zs_T} {P : ze_T} {l : Launch} {D : va_G} {sz0 : Nat} {rh : zs_H} (C : zk_C X km_Mo_lookAtStatements (zs_G S l D sz0) { frames := 8, cells := 8, slots := 28, locals := 226 } (ze_E P)) (hR : zkj_R X (zd_PV S rh) (none)) {k219 : zs_H → Int32 → Int32 → (Option zs_H)} (hk219 : ∀ (h : zs_H) (x1 : Int32) (x2 : Int32), k219 h x1 x2 = some rh → zk_Ab X (zs_W S h) 0 0 219 [(0, .ref (S.1 68)), (1, .int x1), (2, .int x2)] []) (h : zs_H) (x1 : Int32) (x2 : Int32) (e : f_Mo_lookAtStatements_219 k219 h x1 x2 = some rh) : zk_Ab X (zs_W S h) 0 0 219 [(0, .ref (S.1 68)), (1, .int x1), (2, .int x2)] [] := by
  unfold f_Mo_lookAtStatements_219 at e
  refine zk_iload_n C kd_Mo_lookAtStatements_219 rfl 2 rfl rfl ?_
  refine zk_if_lt (tgt := 265) C kd_Mo_lookAtStatements_220 (by decide) rfl (fun b1 => ?_) (fun b1 => ?_)
  · replace e := zd_pos b1 e
    refine zk_goto (tgt := 443) C kd_Mo_lookAtStatements_265 (by decide) ?_
    refine zk_widen (c1 := 8) (s1 := 28) (by decide) (by decide) ?_
    exact zk_vret C hR kd_Mo_lookAtStatements_443 rfl rfl (zd_rV e)
  · replace e := zd_neg b1 e
    refine zk_aload_n C kd_Mo_lookAtStatements_223 rfl 0 rfl rfl ?_
    refine zk_aload_n C kd_Mo_lookAtStatements_224 rfl 0 rfl rfl ?_
    refine zs_get (v := .ref (S.1 72)) C 68 15 rfl rfl rfl rfl ki_Mo (by decide) kw1698 kd_Mo_lookAtStatements_225 rfl ?_
    refine zk_iload_n C kd_Mo_lookAtStatements_228 rfl 2 rfl rfl ?_
    obtain ⟨q2, e⟩ := zd_g e
    refine zs_iald C 72 rfl (zd_vp q2) kd_Mo_lookAtStatements_229 rfl ?_
    refine zk_bipush (v := 11) C kd_Mo_lookAtStatements_230 (by decide) rfl ?_
    refine zk_icmp_eq (tgt := 248) C kd_Mo_lookAtStatements_232 (by decide) rfl (fun b3 => ?_) (fun b3 => ?_)
    · replace e := zd_pos b3 e
      refine zk_lvs (lv' := [(0, .ref (S.1 68)), (1, .int x1), (2, .int x2)]) [0, 1, 2] rfl ?_
      exact zb_Mo_lookAtStatements_248 C hR hk219 h x1 x2 e
    · replace e := zd_neg b3 e
      refine zk_aload_n C kd_Mo_lookAtStatements_235 rfl 0 rfl rfl ?_
      refine zs_get (v := .ref (S.1 100)) C 68 51 rfl rfl rfl rfl ki_Mo (by decide) kw1734 kd_Mo_lookAtStatements_236 rfl ?_
      refine zk_iload_n C kd_Mo_lookAtStatements_239 rfl 2 rfl rfl ?_
      refine zs_iald C 100 rfl (zd_vp q2) kd_Mo_lookAtStatements_240 rfl ?_
      refine zk_if_eq (tgt := 248) C kd_Mo_lookAtStatements_241 (by decide) rfl (fun b4 => ?_) (fun b4 => ?_)
      · replace e := zd_pos b4 e
        refine zk_lvs (lv' := [(0, .ref (S.1 68)), (1, .int x1), (2, .int x2)]) [0, 1, 2] rfl ?_
        exact zb_Mo_lookAtStatements_248 C hR hk219 h x1 x2 e
      · replace e := zd_neg b4 e
        refine zk_iconst (v := 1) C kd_Mo_lookAtStatements_244 (by decide) rfl ?_
        refine zk_goto (tgt := 249) C kd_Mo_lookAtStatements_245 (by decide) ?_
        refine zk_lvs (lv' := [(0, .ref (S.1 68)), (1, .int x1), (2, .int x2)]) [0, 1, 2] rfl ?_
        exact zb_Mo_lookAtStatements_249 C hR hk219 h x1 x2 1 e
theorem zl_Mo_lookAtStatements_219 {X : zkj_T} {S : zs_T} {P : ze_T} {l : Launch} {D : va_G} {sz0 : Nat} {rh : zs_H} (C : zk_C X km_Mo_lookAtStatements (zs_G S l D sz0) { frames := 8, cells := 8, slots := 28, locals := 226 } (ze_E P)) (hR : zkj_R X (zd_PV S rh) (none)) (n : Nat) : ∀ (h : zs_H) (x1 : Int32) (x2 : Int32), f_Mo_lookAtStatements_L219 n h x1 x2 = some rh → zk_Ab X (zs_W S h) 0 0 219 [(0, .ref (S.1 68)), (1, .int x1), (2, .int x2)] [] := by
  induction n with
  | zero => intro h x1 x2 e; exact zd_no e
  | succ n ih => intro h x1 x2 e; exact zb_Mo_lookAtStatements_219 (k219 := f_Mo_lookAtStatements_L219  n) C hR ih h x1 x2 e
set_option maxHeartbeats 4000000 in
set_option maxRecDepth 100000 in
theorem zb_Mo_lookAtStatements_200 {X : zkj_T} {S : zs_T} {P : ze_T} {l : Launch} {D : va_G} {sz0 : Nat} {rh : zs_H} (C : zk_C X km_Mo_lookAtStatements (zs_G S l D sz0) { frames := 8, cells := 8, slots := 28, locals := 226 } (ze_E P)) (hR : zkj_R X (zd_PV S rh) (none)) (h : zs_H) (y0 : Int32) (y1 : Int32) (e : f_Mo_lookAtStatements_200 h y0 y1 = some rh) : zk_Ab X (zs_W S h) 0 0 200 [] [.int y0, .int y1, .ref (S.1 102)] := by
  unfold f_Mo_lookAtStatements_200 at e
  obtain ⟨q1, e⟩ := zd_g e
  refine zs_iast C 102 rfl (zd_vp q1) kd_Mo_lookAtStatements_200 rfl ?_
  refine zk_goto (tgt := 443) C kd_Mo_lookAtStatements_201 (by decide) ?_
  refine zk_widen (c1 := 8) (s1 := 28) (by decide) (by decide) ?_
  exact zk_vret C hR kd_Mo_lookAtStatements_443 rfl rfl (zd_rV e)
set_option maxHeartbeats 4000000 in
set_option maxRecDepth 100000 in
theorem zb_Mo_lookAtStatements_113 {X : zkj_T} {S : zs_T} {P : ze_T} {l : Launch} {D : va_G} {sz0 : Nat} {rh : zs_H} (C : zk_C X km_Mo_lookAtStatements (zs_G S l D sz0) { frames := 8, cells := 8, slots := 28, locals := 226 } (ze_E P)) (hR : zkj_R X (zd_PV S rh) (none)) (h : zs_H) (x1 : Int32) (y0 : Int32) (e : f_Mo_lookAtStatements_113 h x1 y0 = some rh) : zk_Ab X (zs_W S h) 0 0 113 [(1, .int x1)] [.int y0, .ref (S.1 68)] := by
  unfold f_Mo_lookAtStatements_113 at e
  refine zk_bipush (v := 31) C kd_Mo_lookAtStatements_113 (by decide) rfl ?_
  refine zk_iload_n C kd_Mo_lookAtStatements_115 rfl 0 rfl rfl ?_
  obtain ⟨h2, c1, e⟩ := zd_b e
  refine zs_callV (k := 68) (rn := { frames := 1, cells := 0, slots := 0, locals := 22 }) (As := [.int y0, .int 31, .int x1]) (rest := []) C (zc_Mo_rule h y0 31 x1 c1) ku_Mo_rule kw2260 kv_Mo_rule rfl ⟨by decide, by decide⟩ ⟨by decide, by decide⟩ rfl rfl rfl (Nat.le_of_ble_eq_true rfl) kd_Mo_lookAtStatements_116 rfl (c1 := 0) (s1 := 0) rfl rfl (fun v w hp => ?_)
  obtain ⟨rfl, rfl⟩ := hp
  refine zk_stk (r' := []) rfl ?_
  refine zk_goto (tgt := 443) C kd_Mo_lookAtStatements_119 (by decide) ?_
  refine zk_widen (c1 := 8) (s1 := 28) (by decide) (by decide) ?_
  exact zk_vret C hR kd_Mo_lookAtStatements_443 rfl rfl (zd_rV e)
set_option maxHeartbeats 4000000 in
set_option maxRecDepth 100000 in
theorem zb_Mo_lookAtStatements_112 {X : zkj_T} {S : zs_T} {P : ze_T} {l : Launch} {D : va_G} {sz0 : Nat} {rh : zs_H} (C : zk_C X km_Mo_lookAtStatements (zs_G S l D sz0) { frames := 8, cells := 8, slots := 28, locals := 226 } (ze_E P)) (hR : zkj_R X (zd_PV S rh) (none)) (h : zs_H) (x1 : Int32) (e : f_Mo_lookAtStatements_112 h x1 = some rh) : zk_Ab X (zs_W S h) 0 0 112 [(1, .int x1)] [.ref (S.1 68)] := by
  unfold f_Mo_lookAtStatements_112 at e
  refine zk_iconst (v := 0) C kd_Mo_lookAtStatements_112 (by decide) rfl ?_
  refine zk_lvs (lv' := [(1, .int x1)]) [0] rfl ?_
  exact zb_Mo_lookAtStatements_113 C hR h x1 0 e
set_option maxHeartbeats 4000000 in
set_option maxRecDepth 100000 in
theorem zc_Mo_lookAtStatements {l : Launch} {D : va_G} {sz0 : Nat} {S : zs_T} {P : ze_T} (h : zs_H) (x1 : Int32) {rh : zs_H} (e : f_Mo_lookAtStatements h x1 = some rh) : zk_Sp (zs_G S l D sz0) (ze_E P) km_Mo_lookAtStatements { frames := 8, cells := 8, slots := 28, locals := 226 } [.ref (S.1 68), .int x1] (zs_W S h) (zd_PV S rh) := by
  refine zk_met ku_Mo_lookAtStatements (Nat.le_of_ble_eq_true rfl) (ze_Em P) ?_
  intro X C hR
  refine zk_lvs (lv' := [(0, .ref (S.1 68)), (1, .int x1)]) [0, 1] rfl ?_
  unfold f_Mo_lookAtStatements at e
  refine zk_aload_n C kd_Mo_lookAtStatements_0 rfl 0 rfl rfl ?_
  refine zs_get (v := .ref (S.1 72)) C 68 15 rfl rfl rfl rfl ki_Mo (by decide) kw1698 kd_Mo_lookAtStatements_1 rfl ?_
  refine zk_iload_n C kd_Mo_lookAtStatements_4 rfl 1 rfl rfl ?_
  obtain ⟨q1, e⟩ := zd_g e
  refine zs_iald C 72 rfl (zd_vp q1) kd_Mo_lookAtStatements_5 rfl ?_
  by_cases b2 : (h.2.1 72 x1.toNatClampNeg) = 12
  · replace e := zd_pos b2 e
    refine zk_tableIn (tgt := 56) C kd_Mo_lookAtStatements_6 (by rw [b2]; decide) (by rw [b2]; decide) (by rw [b2]; rfl) (by decide) ?_
    refine zk_aload_n C kd_Mo_lookAtStatements_56 rfl 0 rfl rfl ?_
    refine zk_aload_n C kd_Mo_lookAtStatements_57 rfl 0 rfl rfl ?_
    refine zs_get (v := .ref (S.1 74)) C 68 17 rfl rfl rfl rfl ki_Mo (by decide) kw1700 kd_Mo_lookAtStatements_58 rfl ?_
    refine zk_aload_n C kd_Mo_lookAtStatements_61 rfl 0 rfl rfl ?_
    refine zs_get (v := .ref (S.1 76)) C 68 19 rfl rfl rfl rfl ki_Mo (by decide) kw1702 kd_Mo_lookAtStatements_62 rfl ?_
    refine zk_iload_n C kd_Mo_lookAtStatements_65 rfl 1 rfl rfl ?_
    refine zs_iald C 76 rfl (zd_vp q1) kd_Mo_lookAtStatements_66 rfl ?_
    obtain ⟨q3, e⟩ := zd_g e
    refine zs_iald C 74 rfl (zd_vp q3) kd_Mo_lookAtStatements_67 rfl ?_
    refine zk_iload_n C kd_Mo_lookAtStatements_68 rfl 1 rfl rfl ?_
    obtain ⟨h5, c4, e⟩ := zd_b e
    refine zs_callV (k := 68) (rn := { frames := 2, cells := 0, slots := 0, locals := 45 }) (As := [.int (h.2.1 74 (h.2.1 76 x1.toNatClampNeg).toNatClampNeg), .int x1]) (rest := []) C (zc_Mo_lookAtAssigned h (h.2.1 74 (h.2.1 76 x1.toNatClampNeg).toNatClampNeg) x1 c4) ku_Mo_lookAtAssigned kw2343 kv_Mo_lookAtAssigned rfl ⟨by decide, by decide⟩ ⟨by decide, by decide⟩ rfl rfl rfl (Nat.le_of_ble_eq_true rfl) kd_Mo_lookAtStatements_69 rfl (c1 := 0) (s1 := 0) rfl rfl (fun v w hp => ?_)
    obtain ⟨rfl, rfl⟩ := hp
    refine zk_stk (r' := []) rfl ?_
    refine zk_aload_n C kd_Mo_lookAtStatements_72 rfl 0 rfl rfl ?_
    refine zk_aload_n C kd_Mo_lookAtStatements_73 rfl 0 rfl rfl ?_
    refine zs_get (v := .int (h5.1 68 29)) C 68 29 rfl rfl rfl rfl ki_Mo (by decide) kw1712 kd_Mo_lookAtStatements_74 rfl ?_
    refine zk_if_ne (tgt := 112) C kd_Mo_lookAtStatements_77 (by decide) rfl (fun b6 => ?_) (fun b6 => ?_)
    · replace e := zd_neg b6 e
      refine zk_lvs (lv' := [(1, .int x1)]) [1] rfl ?_
      exact zb_Mo_lookAtStatements_112 C hR h5 x1 e
    · replace e := zd_pos b6 e
      refine zk_aload_n C kd_Mo_lookAtStatements_80 rfl 0 rfl rfl ?_
      refine zs_get (v := .ref (S.1 100)) C 68 51 rfl rfl rfl rfl ki_Mo (by decide) kw1734 kd_Mo_lookAtStatements_81 rfl ?_
      refine zk_aload_n C kd_Mo_lookAtStatements_84 rfl 0 rfl rfl ?_
      refine zs_get (v := .ref (S.1 77)) C 68 20 rfl rfl rfl rfl ki_Mo (by decide) kw1703 kd_Mo_lookAtStatements_85 rfl ?_
      refine zk_iload_n C kd_Mo_lookAtStatements_88 rfl 1 rfl rfl ?_
      obtain ⟨q7, e⟩ := zd_g e
      refine zs_iald C 77 rfl (zd_vp q7) kd_Mo_lookAtStatements_89 rfl ?_
      obtain ⟨q8, e⟩ := zd_g e
      refine zs_iald C 100 rfl (zd_vp q8) kd_Mo_lookAtStatements_90 rfl ?_
      refine zk_aload_n C kd_Mo_lookAtStatements_91 rfl 0 rfl rfl ?_
      refine zs_get (v := .ref (S.1 100)) C 68 51 rfl rfl rfl rfl ki_Mo (by decide) kw1734 kd_Mo_lookAtStatements_92 rfl ?_
      refine zk_aload_n C kd_Mo_lookAtStatements_95 rfl 0 rfl rfl ?_
      refine zs_get (v := .ref (S.1 76)) C 68 19 rfl rfl rfl rfl ki_Mo (by decide) kw1702 kd_Mo_lookAtStatements_96 rfl ?_
      refine zk_iload_n C kd_Mo_lookAtStatements_99 rfl 1 rfl rfl ?_
      refine zs_iald C 76 rfl (zd_vp q7) kd_Mo_lookAtStatements_100 rfl ?_
      obtain ⟨q9, e⟩ := zd_g e
      refine zs_iald C 100 rfl (zd_vp q9) kd_Mo_lookAtStatements_101 rfl ?_
      refine zk_callS (rn := { frames := 0, cells := 0, slots := 0, locals := 0 }) (As := [.int (h5.2.1 100 (h5.2.1 77 x1.toNatClampNeg).toNatClampNeg), .int (h5.2.1 100 (h5.2.1 76 x1.toNatClampNeg).toNatClampNeg)]) (rest := [.ref (S.1 68)]) C (zc_Mo_fits h5 (h5.2.1 100 (h5.2.1 77 x1.toNatClampNeg).toNatClampNeg) (h5.2.1 100 (h5.2.1 76 x1.toNatClampNeg).toNatClampNeg)) ku_Mo_fits kw2351 ks_Mo_fits rfl ⟨by decide, by decide⟩ ⟨by decide, by decide⟩ rfl (Nat.le_of_ble_eq_true rfl) kd_Mo_lookAtStatements_102 rfl (c1 := 0) (s1 := 0) rfl rfl (fun v w hp => ?_)
      obtain ⟨rfl, rfl, z10⟩ := hp
      refine zk_stk (r' := [.int (f_Mo_fits (h5.2.1 100 (h5.2.1 77 x1.toNatClampNeg).toNatClampNeg) (h5.2.1 100 (h5.2.1 76 x1.toNatClampNeg).toNatClampNeg)), .ref (S.1 68)]) rfl ?_
      refine zk_if_ne (tgt := 112) C kd_Mo_lookAtStatements_105 (by decide) rfl (fun b11 => ?_) (fun b11 => ?_)
      · replace e := zd_neg b11 e
        refine zk_lvs (lv' := [(1, .int x1)]) [1] rfl ?_
        exact zb_Mo_lookAtStatements_112 C hR h5 x1 e
      · replace e := zd_pos b11 e
        refine zk_iconst (v := 1) C kd_Mo_lookAtStatements_108 (by decide) rfl ?_
        refine zk_goto (tgt := 113) C kd_Mo_lookAtStatements_109 (by decide) ?_
        refine zk_lvs (lv' := [(1, .int x1)]) [1] rfl ?_
        exact zb_Mo_lookAtStatements_113 C hR h5 x1 1 e
  replace e := zd_neg b2 e
  by_cases b12 : (h.2.1 72 x1.toNatClampNeg) = 13
  · replace e := zd_pos b12 e
    refine zk_tableIn (tgt := 122) C kd_Mo_lookAtStatements_6 (by rw [b12]; decide) (by rw [b12]; decide) (by rw [b12]; rfl) (by decide) ?_
    refine zk_aload_n C kd_Mo_lookAtStatements_122 rfl 0 rfl rfl ?_
    refine zk_iload_n C kd_Mo_lookAtStatements_123 rfl 1 rfl rfl ?_
    obtain ⟨h14, c13, e⟩ := zd_b e
    refine zs_callV (k := 68) (rn := { frames := 2, cells := 0, slots := 0, locals := 45 }) (As := [.int x1]) (rest := []) C (zc_Mo_lookAtInstance h x1 c13) ku_Mo_lookAtInstance kw2354 kv_Mo_lookAtInstance rfl ⟨by decide, by decide⟩ ⟨by decide, by decide⟩ rfl rfl rfl (Nat.le_of_ble_eq_true rfl) kd_Mo_lookAtStatements_124 rfl (c1 := 0) (s1 := 0) rfl rfl (fun v w hp => ?_)
    obtain ⟨rfl, rfl⟩ := hp
    refine zk_stk (r' := []) rfl ?_
    refine zk_aload_n C kd_Mo_lookAtStatements_127 rfl 0 rfl rfl ?_
    refine zs_get (v := .int (h14.1 68 29)) C 68 29 rfl rfl rfl rfl ki_Mo (by decide) kw1712 kd_Mo_lookAtStatements_128 rfl ?_
    refine zk_if_ne (tgt := 443) C kd_Mo_lookAtStatements_131 (by decide) rfl (fun b15 => ?_) (fun b15 => ?_)
    · replace e := zd_neg b15 e
      refine zk_widen (c1 := 8) (s1 := 28) (by decide) (by decide) ?_
      exact zk_vret C hR kd_Mo_lookAtStatements_443 rfl rfl (zd_rV e)
    · replace e := zd_pos b15 e
      refine zk_aload_n C kd_Mo_lookAtStatements_134 rfl 0 rfl rfl ?_
      refine zk_aload_n C kd_Mo_lookAtStatements_135 rfl 0 rfl rfl ?_
      refine zs_get (v := .int (h14.1 68 54)) C 68 54 rfl rfl rfl rfl ki_Mo (by decide) kw1737 kd_Mo_lookAtStatements_136 rfl ?_
      refine zk_aload_n C kd_Mo_lookAtStatements_139 rfl 0 rfl rfl ?_
      refine zs_get (v := .ref (S.1 74)) C 68 17 rfl rfl rfl rfl ki_Mo (by decide) kw1700 kd_Mo_lookAtStatements_140 rfl ?_
      refine zk_iload_n C kd_Mo_lookAtStatements_143 rfl 1 rfl rfl ?_
      obtain ⟨q16, e⟩ := zd_g e
      refine zs_iald C 74 rfl (zd_vp q16) kd_Mo_lookAtStatements_144 rfl ?_
      obtain ⟨v18, c17, e⟩ := zd_b e
      refine zs_callV (k := 68) (rn := { frames := 0, cells := 0, slots := 0, locals := 0 }) (As := [.int (h14.1 68 54), .int (h14.2.1 74 x1.toNatClampNeg)]) (rest := []) C (zc_Mo_variable h14 (h14.1 68 54) (h14.2.1 74 x1.toNatClampNeg) c17) ku_Mo_variable kw2327 kv_Mo_variable rfl ⟨by decide, by decide⟩ ⟨by decide, by decide⟩ rfl rfl rfl (Nat.le_of_ble_eq_true rfl) kd_Mo_lookAtStatements_145 rfl (c1 := 0) (s1 := 0) rfl rfl (fun v w hp => ?_)
      obtain ⟨rfl, rfl⟩ := hp
      refine zk_stk (r' := [.int v18]) rfl ?_
      refine zk_istore_n (lv' := [(2, _), (0, _), (1, _)]) C kd_Mo_lookAtStatements_148 rfl (by decide) rfl rfl ?_
      refine zk_aload_n C kd_Mo_lookAtStatements_149 rfl 1 rfl rfl ?_
      refine zs_get (v := .ref (S.1 101)) C 68 52 rfl rfl rfl rfl ki_Mo (by decide) kw1735 kd_Mo_lookAtStatements_150 rfl ?_
      refine zk_iload_n C kd_Mo_lookAtStatements_153 rfl 2 rfl rfl ?_
      refine zk_aload_n C kd_Mo_lookAtStatements_154 rfl 1 rfl rfl ?_
      refine zs_get (v := .ref (S.1 94)) C 68 45 rfl rfl rfl rfl ki_Mo (by decide) kw1728 kd_Mo_lookAtStatements_155 rfl ?_
      refine zk_iload_n C kd_Mo_lookAtStatements_158 rfl 0 rfl rfl ?_
      obtain ⟨q19, e⟩ := zd_g e
      refine zs_iald C 94 rfl (zd_vp q19) kd_Mo_lookAtStatements_159 rfl ?_
      refine zs_iast C 101 rfl (zd_vp q16) kd_Mo_lookAtStatements_160 rfl ?_
      refine zk_aload_n C kd_Mo_lookAtStatements_161 rfl 1 rfl rfl ?_
      refine zs_get (v := .ref (S.1 102)) C 68 53 rfl rfl rfl rfl ki_Mo (by decide) kw1736 kd_Mo_lookAtStatements_162 rfl ?_
      refine zk_iload_n C kd_Mo_lookAtStatements_165 rfl 2 rfl rfl ?_
      refine zk_aload_n C kd_Mo_lookAtStatements_166 rfl 1 rfl rfl ?_
      refine zs_get (v := .ref (S.1 93)) C 68 44 rfl rfl rfl rfl ki_Mo (by decide) kw1727 kd_Mo_lookAtStatements_167 rfl ?_
      refine zk_iload_n C kd_Mo_lookAtStatements_170 rfl 0 rfl rfl ?_
      refine zs_iald C 93 rfl (zd_vp q19) kd_Mo_lookAtStatements_171 rfl ?_
      refine zk_stk (r' := [.int (h14.2.1 93 v18.toNatClampNeg), .int x1, .ref (S.1 102)]) rfl ?_
      refine zk_ldcw (v := 100000) C kw1988 kd_Mo_lookAtStatements_172 rfl ?_
      refine zk_icmp_lt (tgt := 194) C kd_Mo_lookAtStatements_175 (by decide) rfl (fun b20 => ?_) (fun b20 => ?_)
      · replace e := zd_pos b20 e
        refine zk_aload_n C kd_Mo_lookAtStatements_194 rfl 1 rfl rfl ?_
        refine zs_get (v := .ref (S.1 93)) C 68 44 rfl rfl rfl rfl ki_Mo (by decide) kw1727 kd_Mo_lookAtStatements_195 rfl ?_
        refine zk_iload_n C kd_Mo_lookAtStatements_198 rfl 0 rfl rfl ?_
        refine zs_iald C 93 rfl (zd_vp q19) kd_Mo_lookAtStatements_199 rfl ?_
        refine zk_stk (r' := [.int (h14.2.1 93 v18.toNatClampNeg), .int x1, .ref (S.1 102)]) rfl ?_
        refine zk_lvs (lv' := []) [] rfl ?_
        exact zb_Mo_lookAtStatements_200 C hR (zs_uM h14 101 x1.toNatClampNeg (h14.2.1 94 v18.toNatClampNeg)) (h14.2.1 93 v18.toNatClampNeg) x1 e
      · replace e := zd_neg b20 e
        refine zk_bipush (v := 100) C kd_Mo_lookAtStatements_178 (by decide) rfl ?_
        refine zk_aload_n C kd_Mo_lookAtStatements_180 rfl 1 rfl rfl ?_
        refine zs_get (v := .ref (S.1 93)) C 68 44 rfl rfl rfl rfl ki_Mo (by decide) kw1727 kd_Mo_lookAtStatements_181 rfl ?_
        refine zk_iload_n C kd_Mo_lookAtStatements_184 rfl 0 rfl rfl ?_
        refine zs_iald C 93 rfl (zd_vp q19) kd_Mo_lookAtStatements_185 rfl ?_
        refine zk_stk (r' := [.int (h14.2.1 93 v18.toNatClampNeg), .int 100, .int x1, .ref (S.1 102)]) rfl ?_
        refine zk_iadd C kd_Mo_lookAtStatements_186 rfl ?_
        refine zk_ldcw (v := 100000) C kw1988 kd_Mo_lookAtStatements_187 rfl ?_
        refine zk_isub C kd_Mo_lookAtStatements_190 rfl ?_
        refine zk_goto (tgt := 200) C kd_Mo_lookAtStatements_191 (by decide) ?_
        refine zk_lvs (lv' := []) [] rfl ?_
        exact zb_Mo_lookAtStatements_200 C hR (zs_uM h14 101 x1.toNatClampNeg (h14.2.1 94 v18.toNatClampNeg)) ((100 + (h14.2.1 93 v18.toNatClampNeg)) - 100000) x1 e
  replace e := zd_neg b12 e
  by_cases b21 : (h.2.1 72 x1.toNatClampNeg) = 14
  · replace e := zd_pos b21 e
    refine zk_tableIn (tgt := 204) C kd_Mo_lookAtStatements_6 (by rw [b21]; decide) (by rw [b21]; decide) (by rw [b21]; rfl) (by decide) ?_
    refine zk_aload_n C kd_Mo_lookAtStatements_204 rfl 0 rfl rfl ?_
    refine zk_iload_n C kd_Mo_lookAtStatements_205 rfl 1 rfl rfl ?_
    obtain ⟨h23, c22, e⟩ := zd_b e
    refine zs_callV (k := 68) (rn := { frames := 7, cells := 8, slots := 28, locals := 202 }) (As := [.int x1]) (rest := []) C (zc_Mo_lookAtParameter h x1 c22) ku_Mo_lookAtParameter kw2358 kv_Mo_lookAtParameter rfl ⟨by decide, by decide⟩ ⟨by decide, by decide⟩ rfl rfl rfl (Nat.le_of_ble_eq_true rfl) kd_Mo_lookAtStatements_206 rfl (c1 := 8) (s1 := 28) rfl rfl (fun v w hp => ?_)
    obtain ⟨rfl, rfl⟩ := hp
    refine zk_stk (r' := []) rfl ?_
    refine zk_goto (tgt := 443) C kd_Mo_lookAtStatements_209 (by decide) ?_
    exact zk_vret C hR kd_Mo_lookAtStatements_443 rfl rfl (zd_rV e)
  replace e := zd_neg b21 e
  by_cases b24 : (h.2.1 72 x1.toNatClampNeg) = 15
  · replace e := zd_pos b24 e
    refine zk_tableIn (tgt := 212) C kd_Mo_lookAtStatements_6 (by rw [b24]; decide) (by rw [b24]; decide) (by rw [b24]; rfl) (by decide) ?_
    refine zk_aload_n C kd_Mo_lookAtStatements_212 rfl 0 rfl rfl ?_
    refine zs_get (v := .ref (S.1 76)) C 68 19 rfl rfl rfl rfl ki_Mo (by decide) kw1702 kd_Mo_lookAtStatements_213 rfl ?_
    refine zk_iload_n C kd_Mo_lookAtStatements_216 rfl 1 rfl rfl ?_
    refine zs_iald C 76 rfl (zd_vp q1) kd_Mo_lookAtStatements_217 rfl ?_
    refine zk_istore_n (lv' := [(2, _), (0, _), (1, _)]) C kd_Mo_lookAtStatements_218 rfl (by decide) rfl rfl ?_
    refine zk_lvs (lv' := [(0, .ref (S.1 68)), (1, .int x1), (2, .int (h.2.1 76 x1.toNatClampNeg))]) [1, 2, 0] rfl ?_
    exact zl_Mo_lookAtStatements_219 C hR zF h x1 (h.2.1 76 x1.toNatClampNeg) e
  replace e := zd_neg b24 e
  by_cases b25 : (h.2.1 72 x1.toNatClampNeg) = 16
  · replace e := zd_pos b25 e
    refine zk_tableIn (tgt := 268) C kd_Mo_lookAtStatements_6 (by rw [b25]; decide) (by rw [b25]; decide) (by rw [b25]; rfl) (by decide) ?_
    refine zk_aload_n C kd_Mo_lookAtStatements_268 rfl 0 rfl rfl ?_
    refine zk_aload_n C kd_Mo_lookAtStatements_269 rfl 0 rfl rfl ?_
    refine zs_get (v := .ref (S.1 100)) C 68 51 rfl rfl rfl rfl ki_Mo (by decide) kw1734 kd_Mo_lookAtStatements_270 rfl ?_
    refine zk_aload_n C kd_Mo_lookAtStatements_273 rfl 0 rfl rfl ?_
    refine zs_get (v := .ref (S.1 76)) C 68 19 rfl rfl rfl rfl ki_Mo (by decide) kw1702 kd_Mo_lookAtStatements_274 rfl ?_
    refine zk_iload_n C kd_Mo_lookAtStatements_277 rfl 1 rfl rfl ?_
    refine zs_iald C 76 rfl (zd_vp q1) kd_Mo_lookAtStatements_278 rfl ?_
    obtain ⟨q26, e⟩ := zd_g e
    refine zs_iald C 100 rfl (zd_vp q26) kd_Mo_lookAtStatements_279 rfl ?_
    refine zk_callS (rn := { frames := 0, cells := 0, slots := 0, locals := 0 }) (As := [.int (h.2.1 100 (h.2.1 76 x1.toNatClampNeg).toNatClampNeg)]) (rest := [.ref (S.1 68)]) C (zc_Mo_isNumber h (h.2.1 100 (h.2.1 76 x1.toNatClampNeg).toNatClampNeg)) ku_Mo_isNumber kw2469 ks_Mo_isNumber rfl ⟨by decide, by decide⟩ ⟨by decide, by decide⟩ rfl (Nat.le_of_ble_eq_true rfl) kd_Mo_lookAtStatements_280 rfl (c1 := 0) (s1 := 0) rfl rfl (fun v w hp => ?_)
    obtain ⟨rfl, rfl, z27⟩ := hp
    refine zk_stk (r' := [.int (f_Mo_isNumber (h.2.1 100 (h.2.1 76 x1.toNatClampNeg).toNatClampNeg)), .ref (S.1 68)]) rfl ?_
    refine zk_if_ne (tgt := 290) C kd_Mo_lookAtStatements_283 (by decide) rfl (fun b28 => ?_) (fun b28 => ?_)
    · replace e := zd_neg b28 e
      refine zk_iconst (v := 0) C kd_Mo_lookAtStatements_290 (by decide) rfl ?_
      refine zk_lvs (lv' := [(1, .int x1)]) [1] rfl ?_
      exact zb_Mo_lookAtStatements_291 C hR h x1 0 e
    · replace e := zd_pos b28 e
      refine zk_iconst (v := 1) C kd_Mo_lookAtStatements_286 (by decide) rfl ?_
      refine zk_goto (tgt := 291) C kd_Mo_lookAtStatements_287 (by decide) ?_
      refine zk_lvs (lv' := [(1, .int x1)]) [1] rfl ?_
      exact zb_Mo_lookAtStatements_291 C hR h x1 1 e
  replace e := zd_neg b25 e
  by_cases b29 : (h.2.1 72 x1.toNatClampNeg) = 18
  · replace e := zd_pos b29 e
    refine zk_tableIn (tgt := 300) C kd_Mo_lookAtStatements_6 (by rw [b29]; decide) (by rw [b29]; decide) (by rw [b29]; rfl) (by decide) ?_
    refine zk_aload_n C kd_Mo_lookAtStatements_300 rfl 0 rfl rfl ?_
    refine zk_aload_n C kd_Mo_lookAtStatements_301 rfl 0 rfl rfl ?_
    refine zs_get (v := .ref (S.1 72)) C 68 15 rfl rfl rfl rfl ki_Mo (by decide) kw1698 kd_Mo_lookAtStatements_302 rfl ?_
    refine zk_aload_n C kd_Mo_lookAtStatements_305 rfl 0 rfl rfl ?_
    refine zs_get (v := .ref (S.1 76)) C 68 19 rfl rfl rfl rfl ki_Mo (by decide) kw1702 kd_Mo_lookAtStatements_306 rfl ?_
    refine zk_iload_n C kd_Mo_lookAtStatements_309 rfl 1 rfl rfl ?_
    refine zs_iald C 76 rfl (zd_vp q1) kd_Mo_lookAtStatements_310 rfl ?_
    obtain ⟨q30, e⟩ := zd_g e
    refine zs_iald C 72 rfl (zd_vp q30) kd_Mo_lookAtStatements_311 rfl ?_
    refine zk_bipush (v := 31) C kd_Mo_lookAtStatements_312 (by decide) rfl ?_
    refine zk_icmp_eq (tgt := 358) C kd_Mo_lookAtStatements_314 (by decide) rfl (fun b31 => ?_) (fun b31 => ?_)
    · replace e := zd_pos b31 e
      refine zk_lvs (lv' := [(1, .int x1)]) [1] rfl ?_
      exact zb_Mo_lookAtStatements_358 C hR h x1 e
    · replace e := zd_neg b31 e
      refine zk_aload_n C kd_Mo_lookAtStatements_317 rfl 0 rfl rfl ?_
      refine zs_get (v := .ref (S.1 72)) C 68 15 rfl rfl rfl rfl ki_Mo (by decide) kw1698 kd_Mo_lookAtStatements_318 rfl ?_
      refine zk_aload_n C kd_Mo_lookAtStatements_321 rfl 0 rfl rfl ?_
      refine zs_get (v := .ref (S.1 77)) C 68 20 rfl rfl rfl rfl ki_Mo (by decide) kw1703 kd_Mo_lookAtStatements_322 rfl ?_
      refine zk_iload_n C kd_Mo_lookAtStatements_325 rfl 1 rfl rfl ?_
      refine zs_iald C 77 rfl (zd_vp q1) kd_Mo_lookAtStatements_326 rfl ?_
      obtain ⟨q32, e⟩ := zd_g e
      refine zs_iald C 72 rfl (zd_vp q32) kd_Mo_lookAtStatements_327 rfl ?_
      refine zk_bipush (v := 31) C kd_Mo_lookAtStatements_328 (by decide) rfl ?_
      refine zk_icmp_eq (tgt := 358) C kd_Mo_lookAtStatements_330 (by decide) rfl (fun b33 => ?_) (fun b33 => ?_)
      · replace e := zd_pos b33 e
        refine zk_lvs (lv' := [(1, .int x1)]) [1] rfl ?_
        exact zb_Mo_lookAtStatements_358 C hR h x1 e
      · replace e := zd_neg b33 e
        refine zk_aload_n C kd_Mo_lookAtStatements_333 rfl 0 rfl rfl ?_
        refine zs_get (v := .ref (S.1 74)) C 68 17 rfl rfl rfl rfl ki_Mo (by decide) kw1700 kd_Mo_lookAtStatements_334 rfl ?_
        refine zk_aload_n C kd_Mo_lookAtStatements_337 rfl 0 rfl rfl ?_
        refine zs_get (v := .ref (S.1 76)) C 68 19 rfl rfl rfl rfl ki_Mo (by decide) kw1702 kd_Mo_lookAtStatements_338 rfl ?_
        refine zk_iload_n C kd_Mo_lookAtStatements_341 rfl 1 rfl rfl ?_
        refine zs_iald C 76 rfl (zd_vp q1) kd_Mo_lookAtStatements_342 rfl ?_
        refine zs_iald C 74 rfl (zd_vp q30) kd_Mo_lookAtStatements_343 rfl ?_
        refine zk_aload_n C kd_Mo_lookAtStatements_344 rfl 0 rfl rfl ?_
        refine zs_get (v := .ref (S.1 74)) C 68 17 rfl rfl rfl rfl ki_Mo (by decide) kw1700 kd_Mo_lookAtStatements_345 rfl ?_
        refine zk_aload_n C kd_Mo_lookAtStatements_348 rfl 0 rfl rfl ?_
        refine zs_get (v := .ref (S.1 77)) C 68 20 rfl rfl rfl rfl ki_Mo (by decide) kw1703 kd_Mo_lookAtStatements_349 rfl ?_
        refine zk_iload_n C kd_Mo_lookAtStatements_352 rfl 1 rfl rfl ?_
        refine zs_iald C 77 rfl (zd_vp q1) kd_Mo_lookAtStatements_353 rfl ?_
        refine zs_iald C 74 rfl (zd_vp q32) kd_Mo_lookAtStatements_354 rfl ?_
        refine zk_icmp_le (tgt := 362) C kd_Mo_lookAtStatements_355 (by decide) rfl (fun b34 => ?_) (fun b34 => ?_)
        · replace e := zd_pos b34 e
          refine zk_iconst (v := 0) C kd_Mo_lookAtStatements_362 (by decide) rfl ?_
          refine zk_lvs (lv' := [(1, .int x1)]) [1] rfl ?_
          exact zb_Mo_lookAtStatements_363 C hR h x1 0 e
        · replace e := zd_neg b34 e
          refine zk_lvs (lv' := [(1, .int x1)]) [1] rfl ?_
          exact zb_Mo_lookAtStatements_358 C hR h x1 e
  replace e := zd_neg b29 e
  by_cases b35 : (h.2.1 72 x1.toNatClampNeg) = 19
  · replace e := zd_pos b35 e
    refine zk_tableIn (tgt := 372) C kd_Mo_lookAtStatements_6 (by rw [b35]; decide) (by rw [b35]; decide) (by rw [b35]; rfl) (by decide) ?_
    refine zk_aload_n C kd_Mo_lookAtStatements_372 rfl 0 rfl rfl ?_
    refine zk_iload_n C kd_Mo_lookAtStatements_373 rfl 1 rfl rfl ?_
    obtain ⟨h37, c36, e⟩ := zd_b e
    refine zs_callV (k := 68) (rn := { frames := 3, cells := 0, slots := 0, locals := 69 }) (As := [.int x1]) (rest := []) C (zc_Mo_lookAtLoop h x1 c36) ku_Mo_lookAtLoop kw2472 kv_Mo_lookAtLoop rfl ⟨by decide, by decide⟩ ⟨by decide, by decide⟩ rfl rfl rfl (Nat.le_of_ble_eq_true rfl) kd_Mo_lookAtStatements_374 rfl (c1 := 0) (s1 := 0) rfl rfl (fun v w hp => ?_)
    obtain ⟨rfl, rfl⟩ := hp
    refine zk_stk (r' := []) rfl ?_
    refine zk_goto (tgt := 443) C kd_Mo_lookAtStatements_377 (by decide) ?_
    refine zk_widen (c1 := 8) (s1 := 28) (by decide) (by decide) ?_
    exact zk_vret C hR kd_Mo_lookAtStatements_443 rfl rfl (zd_rV e)
  replace e := zd_neg b35 e
  by_cases b38 : (h.2.1 72 x1.toNatClampNeg) = 20
  · replace e := zd_pos b38 e
    refine zk_tableIn (tgt := 380) C kd_Mo_lookAtStatements_6 (by rw [b38]; decide) (by rw [b38]; decide) (by rw [b38]; rfl) (by decide) ?_
    refine zk_iconst (v := 0) C kd_Mo_lookAtStatements_380 (by decide) rfl ?_
    refine zk_istore_n (lv' := [(2, _), (0, _), (1, _)]) C kd_Mo_lookAtStatements_381 rfl (by decide) rfl rfl ?_
    refine zk_aload_n C kd_Mo_lookAtStatements_382 rfl 1 rfl rfl ?_
    refine zs_get (v := .ref (S.1 75)) C 68 18 rfl rfl rfl rfl ki_Mo (by decide) kw1701 kd_Mo_lookAtStatements_383 rfl ?_
    refine zk_iload_n C kd_Mo_lookAtStatements_386 rfl 2 rfl rfl ?_
    refine zs_iald C 75 rfl (zd_vp q1) kd_Mo_lookAtStatements_387 rfl ?_
    refine zk_istore_n (lv' := [(3, _), (2, _), (0, _), (1, _)]) C kd_Mo_lookAtStatements_388 rfl (by decide) rfl rfl ?_
    refine zk_lvs (lv' := [(0, .ref (S.1 68)), (1, .int x1), (2, .int 0), (3, .int (h.2.1 75 x1.toNatClampNeg))]) [2, 3, 1, 0] rfl ?_
    exact zl_Mo_lookAtStatements_389 C hR zF h x1 0 (h.2.1 75 x1.toNatClampNeg) e
  replace e := zd_neg b38 e
  refine zd_tableD (tgt := 443) C kd_Mo_lookAtStatements_6 (by decide) [12, 13, 14, 15, 16, 18, 19, 20] (by decide +kernel) (by have n0 := lv_neT b2 (a := 12) (by decide); have n1 := lv_neT b12 (a := 13) (by decide); have n2 := lv_neT b21 (a := 14) (by decide); have n3 := lv_neT b24 (a := 15) (by decide); have n4 := lv_neT b25 (a := 16) (by decide); have n5 := lv_neT b29 (a := 18) (by decide); have n6 := lv_neT b35 (a := 19) (by decide); have n7 := lv_neT b38 (a := 20) (by decide); simp only [List.mem_cons, List.not_mem_nil, or_false, not_or]; exact ⟨n0, n1, n2, n3, n4, n5, n6, n7⟩) ?_
  refine zk_widen (c1 := 8) (s1 := 28) (by decide) (by decide) ?_
  exact zk_vret C hR kd_Mo_lookAtStatements_443 rfl rfl (zd_rV e)
set_option maxHeartbeats 4000000 in
set_option maxRecDepth 100000 in
theorem zb_Mo_lookAtExpressions_144 {X : zkj_T} {S : zs_T} {P : ze_T} {l : Launch} {D : va_G} {sz0 : Nat} {rh : zs_H} (C : zk_C X km_Mo_lookAtExpressions (zs_G S l D sz0) { frames := 8, cells := 8, slots := 28, locals := 225 } (ze_E P)) (hR : zkj_R X (zd_PV S rh) (none)) (h : zs_H) (x1 : Int32) (y0 : Int32) (e : f_Mo_lookAtExpressions_144 h x1 y0 = some rh) : zk_Ab X (zs_W S h) 0 0 144 [(0, .ref (S.1 68)), (1, .int x1)] [.int y0, .ref (S.1 68)] := by
  unfold f_Mo_lookAtExpressions_144 at e
  refine zk_bipush (v := 28) C kd_Mo_lookAtExpressions_144 (by decide) rfl ?_
  refine zk_iload_n C kd_Mo_lookAtExpressions_146 rfl 1 rfl rfl ?_
  obtain ⟨h2, c1, e⟩ := zd_b e
  refine zs_callV (k := 68) (rn := { frames := 1, cells := 0, slots := 0, locals := 22 }) (As := [.int y0, .int 28, .int x1]) (rest := []) C (zc_Mo_rule h y0 28 x1 c1) ku_Mo_rule kw2260 kv_Mo_rule rfl ⟨by decide, by decide⟩ ⟨by decide, by decide⟩ rfl rfl rfl (Nat.le_of_ble_eq_true rfl) kd_Mo_lookAtExpressions_147 rfl (c1 := 0) (s1 := 0) rfl rfl (fun v w hp => ?_)
  obtain ⟨rfl, rfl⟩ := hp
  refine zk_stk (r' := []) rfl ?_
  refine zk_aload_n C kd_Mo_lookAtExpressions_150 rfl 0 rfl rfl ?_
  refine zs_get (v := .ref (S.1 100)) C 68 51 rfl rfl rfl rfl ki_Mo (by decide) kw1734 kd_Mo_lookAtExpressions_151 rfl ?_
  refine zk_iload_n C kd_Mo_lookAtExpressions_154 rfl 1 rfl rfl ?_
  refine zk_aload_n C kd_Mo_lookAtExpressions_155 rfl 0 rfl rfl ?_
  refine zs_get (v := .ref (S.1 100)) C 68 51 rfl rfl rfl rfl ki_Mo (by decide) kw1734 kd_Mo_lookAtExpressions_156 rfl ?_
  refine zk_aload_n C kd_Mo_lookAtExpressions_159 rfl 0 rfl rfl ?_
  refine zs_get (v := .ref (S.1 76)) C 68 19 rfl rfl rfl rfl ki_Mo (by decide) kw1702 kd_Mo_lookAtExpressions_160 rfl ?_
  refine zk_iload_n C kd_Mo_lookAtExpressions_163 rfl 1 rfl rfl ?_
  obtain ⟨q3, e⟩ := zd_g e
  refine zs_iald C 76 rfl (zd_vp q3) kd_Mo_lookAtExpressions_164 rfl ?_
  obtain ⟨q4, e⟩ := zd_g e
  refine zs_iald C 100 rfl (zd_vp q4) kd_Mo_lookAtExpressions_165 rfl ?_
  refine zs_iast C 100 rfl (zd_vp q3) kd_Mo_lookAtExpressions_166 rfl ?_
  refine zk_widen (c1 := 8) (s1 := 28) (by decide) (by decide) ?_
  exact zk_vret C hR kd_Mo_lookAtExpressions_167 rfl rfl (zd_rV e)
set_option maxHeartbeats 4000000 in
set_option maxRecDepth 100000 in
theorem zb_Mo_lookAtExpressions_143 {X : zkj_T} {S : zs_T} {P : ze_T} {l : Launch} {D : va_G} {sz0 : Nat} {rh : zs_H} (C : zk_C X km_Mo_lookAtExpressions (zs_G S l D sz0) { frames := 8, cells := 8, slots := 28, locals := 225 } (ze_E P)) (hR : zkj_R X (zd_PV S rh) (none)) (h : zs_H) (x1 : Int32) (e : f_Mo_lookAtExpressions_143 h x1 = some rh) : zk_Ab X (zs_W S h) 0 0 143 [(0, .ref (S.1 68)), (1, .int x1)] [.ref (S.1 68)] := by
  unfold f_Mo_lookAtExpressions_143 at e
  refine zk_iconst (v := 0) C kd_Mo_lookAtExpressions_143 (by decide) rfl ?_
  refine zk_lvs (lv' := [(0, .ref (S.1 68)), (1, .int x1)]) [0, 1] rfl ?_
  exact zb_Mo_lookAtExpressions_144 C hR h x1 0 e
set_option maxHeartbeats 4000000 in
set_option maxRecDepth 100000 in
theorem zb_Mo_lookAtExpressions_66 {X : zkj_T} {S : zs_T} {P : ze_T} {l : Launch} {D : va_G} {sz0 : Nat} {rh : zs_H} (C : zk_C X km_Mo_lookAtExpressions (zs_G S l D sz0) { frames := 8, cells := 8, slots := 28, locals := 225 } (ze_E P)) (hR : zkj_R X (zd_PV S rh) (none)) (h : zs_H) (y0 : Int32) (y1 : Int32) (e : f_Mo_lookAtExpressions_66 h y0 y1 = some rh) : zk_Ab X (zs_W S h) 0 0 66 [] [.int y0, .int y1, .ref (S.1 100)] := by
  unfold f_Mo_lookAtExpressions_66 at e
  obtain ⟨q1, e⟩ := zd_g e
  refine zs_iast C 100 rfl (zd_vp q1) kd_Mo_lookAtExpressions_66 rfl ?_
  refine zk_goto (tgt := 167) C kd_Mo_lookAtExpressions_67 (by decide) ?_
  refine zk_widen (c1 := 8) (s1 := 28) (by decide) (by decide) ?_
  exact zk_vret C hR kd_Mo_lookAtExpressions_167 rfl rfl (zd_rV e)
set_option maxHeartbeats 4000000 in
set_option maxRecDepth 100000 in
theorem zc_Mo_lookAtExpressions {l : Launch} {D : va_G} {sz0 : Nat} {S : zs_T} {P : ze_T} (h : zs_H) (x1 : Int32) {rh : zs_H} (e : f_Mo_lookAtExpressions h x1 = some rh) : zk_Sp (zs_G S l D sz0) (ze_E P) km_Mo_lookAtExpressions { frames := 8, cells := 8, slots := 28, locals := 225 } [.ref (S.1 68), .int x1] (zs_W S h) (zd_PV S rh) := by
  refine zk_met ku_Mo_lookAtExpressions (Nat.le_of_ble_eq_true rfl) (ze_Em P) ?_
  intro X C hR
  refine zk_lvs (lv' := [(0, .ref (S.1 68)), (1, .int x1)]) [0, 1] rfl ?_
  unfold f_Mo_lookAtExpressions at e
  refine zk_aload_n C kd_Mo_lookAtExpressions_0 rfl 0 rfl rfl ?_
  refine zs_get (v := .ref (S.1 72)) C 68 15 rfl rfl rfl rfl ki_Mo (by decide) kw1698 kd_Mo_lookAtExpressions_1 rfl ?_
  refine zk_iload_n C kd_Mo_lookAtExpressions_4 rfl 1 rfl rfl ?_
  obtain ⟨q1, e⟩ := zd_g e
  refine zs_iald C 72 rfl (zd_vp q1) kd_Mo_lookAtExpressions_5 rfl ?_
  by_cases b2 : (h.2.1 72 x1.toNatClampNeg) = 30
  · replace e := zd_pos b2 e
    refine zk_tableIn (tgt := 44) C kd_Mo_lookAtExpressions_6 (by rw [b2]; decide) (by rw [b2]; decide) (by rw [b2]; rfl) (by decide) ?_
    refine zk_aload_n C kd_Mo_lookAtExpressions_44 rfl 0 rfl rfl ?_
    refine zs_get (v := .ref (S.1 100)) C 68 51 rfl rfl rfl rfl ki_Mo (by decide) kw1734 kd_Mo_lookAtExpressions_45 rfl ?_
    refine zk_iload_n C kd_Mo_lookAtExpressions_48 rfl 1 rfl rfl ?_
    refine zk_aload_n C kd_Mo_lookAtExpressions_49 rfl 0 rfl rfl ?_
    refine zs_get (v := .ref (S.1 74)) C 68 17 rfl rfl rfl rfl ki_Mo (by decide) kw1700 kd_Mo_lookAtExpressions_50 rfl ?_
    refine zk_iload_n C kd_Mo_lookAtExpressions_53 rfl 1 rfl rfl ?_
    refine zs_iald C 74 rfl (zd_vp q1) kd_Mo_lookAtExpressions_54 rfl ?_
    refine zk_sipush (v := 32767) C kd_Mo_lookAtExpressions_55 (by decide) rfl ?_
    refine zk_icmp_le (tgt := 65) C kd_Mo_lookAtExpressions_58 (by decide) rfl (fun b3 => ?_) (fun b3 => ?_)
    · replace e := zd_pos b3 e
      refine zk_iconst (v := 1) C kd_Mo_lookAtExpressions_65 (by decide) rfl ?_
      refine zk_lvs (lv' := []) [] rfl ?_
      exact zb_Mo_lookAtExpressions_66 C hR h 1 x1 e
    · replace e := zd_neg b3 e
      refine zk_iconst (v := 2) C kd_Mo_lookAtExpressions_61 (by decide) rfl ?_
      refine zk_goto (tgt := 66) C kd_Mo_lookAtExpressions_62 (by decide) ?_
      refine zk_lvs (lv' := []) [] rfl ?_
      exact zb_Mo_lookAtExpressions_66 C hR h 2 x1 e
  replace e := zd_neg b2 e
  by_cases b4 : (h.2.1 72 x1.toNatClampNeg) = 31
  · replace e := zd_pos b4 e
    refine zk_tableIn (tgt := 70) C kd_Mo_lookAtExpressions_6 (by rw [b4]; decide) (by rw [b4]; decide) (by rw [b4]; rfl) (by decide) ?_
    refine zk_aload_n C kd_Mo_lookAtExpressions_70 rfl 0 rfl rfl ?_
    refine zs_get (v := .ref (S.1 100)) C 68 51 rfl rfl rfl rfl ki_Mo (by decide) kw1734 kd_Mo_lookAtExpressions_71 rfl ?_
    refine zk_iload_n C kd_Mo_lookAtExpressions_74 rfl 1 rfl rfl ?_
    refine zk_iconst (v := 0) C kd_Mo_lookAtExpressions_75 (by decide) rfl ?_
    refine zs_iast C 100 rfl (zd_vp q1) kd_Mo_lookAtExpressions_76 rfl ?_
    refine zk_goto (tgt := 167) C kd_Mo_lookAtExpressions_77 (by decide) ?_
    refine zk_widen (c1 := 8) (s1 := 28) (by decide) (by decide) ?_
    exact zk_vret C hR kd_Mo_lookAtExpressions_167 rfl rfl (zd_rV e)
  replace e := zd_neg b4 e
  by_cases b5 : (h.2.1 72 x1.toNatClampNeg) = 32
  · replace e := zd_pos b5 e
    refine zk_tableIn (tgt := 80) C kd_Mo_lookAtExpressions_6 (by rw [b5]; decide) (by rw [b5]; decide) (by rw [b5]; rfl) (by decide) ?_
    refine zk_aload_n C kd_Mo_lookAtExpressions_80 rfl 0 rfl rfl ?_
    refine zk_iload_n C kd_Mo_lookAtExpressions_81 rfl 1 rfl rfl ?_
    obtain ⟨h7, c6, e⟩ := zd_b e
    refine zs_callV (k := 68) (rn := { frames := 2, cells := 0, slots := 0, locals := 45 }) (As := [.int x1]) (rest := []) C (zc_Mo_lookAtElement h x1 c6) ku_Mo_lookAtElement kw2489 kv_Mo_lookAtElement rfl ⟨by decide, by decide⟩ ⟨by decide, by decide⟩ rfl rfl rfl (Nat.le_of_ble_eq_true rfl) kd_Mo_lookAtExpressions_82 rfl (c1 := 0) (s1 := 0) rfl rfl (fun v w hp => ?_)
    obtain ⟨rfl, rfl⟩ := hp
    refine zk_stk (r' := []) rfl ?_
    refine zk_goto (tgt := 167) C kd_Mo_lookAtExpressions_85 (by decide) ?_
    refine zk_widen (c1 := 8) (s1 := 28) (by decide) (by decide) ?_
    exact zk_vret C hR kd_Mo_lookAtExpressions_167 rfl rfl (zd_rV e)
  replace e := zd_neg b5 e
  by_cases b8 : (h.2.1 72 x1.toNatClampNeg) = 33
  · replace e := zd_pos b8 e
    refine zk_tableIn (tgt := 88) C kd_Mo_lookAtExpressions_6 (by rw [b8]; decide) (by rw [b8]; decide) (by rw [b8]; rfl) (by decide) ?_
    refine zk_aload_n C kd_Mo_lookAtExpressions_88 rfl 0 rfl rfl ?_
    refine zk_iload_n C kd_Mo_lookAtExpressions_89 rfl 1 rfl rfl ?_
    obtain ⟨h10, c9, e⟩ := zd_b e
    refine zs_callV (k := 68) (rn := { frames := 7, cells := 8, slots := 28, locals := 202 }) (As := [.int x1]) (rest := []) C (zc_Mo_lookAtOutput h x1 c9) ku_Mo_lookAtOutput kw2493 kv_Mo_lookAtOutput rfl ⟨by decide, by decide⟩ ⟨by decide, by decide⟩ rfl rfl rfl (Nat.le_of_ble_eq_true rfl) kd_Mo_lookAtExpressions_90 rfl (c1 := 8) (s1 := 28) rfl rfl (fun v w hp => ?_)
    obtain ⟨rfl, rfl⟩ := hp
    refine zk_stk (r' := []) rfl ?_
    refine zk_goto (tgt := 167) C kd_Mo_lookAtExpressions_93 (by decide) ?_
    exact zk_vret C hR kd_Mo_lookAtExpressions_167 rfl rfl (zd_rV e)
  replace e := zd_neg b8 e
  by_cases b11 : (h.2.1 72 x1.toNatClampNeg) = 34
  · replace e := zd_pos b11 e
    refine zk_tableIn (tgt := 96) C kd_Mo_lookAtExpressions_6 (by rw [b11]; decide) (by rw [b11]; decide) (by rw [b11]; rfl) (by decide) ?_
    refine zk_aload_n C kd_Mo_lookAtExpressions_96 rfl 0 rfl rfl ?_
    refine zk_iload_n C kd_Mo_lookAtExpressions_97 rfl 1 rfl rfl ?_
    obtain ⟨h13, c12, e⟩ := zd_b e
    refine zs_callV (k := 68) (rn := { frames := 5, cells := 0, slots := 0, locals := 111 }) (As := [.int x1]) (rest := []) C (zc_Mo_lookAtCall h x1 c12) ku_Mo_lookAtCall kw2497 kv_Mo_lookAtCall rfl ⟨by decide, by decide⟩ ⟨by decide, by decide⟩ rfl rfl rfl (Nat.le_of_ble_eq_true rfl) kd_Mo_lookAtExpressions_98 rfl (c1 := 0) (s1 := 0) rfl rfl (fun v w hp => ?_)
    obtain ⟨rfl, rfl⟩ := hp
    refine zk_stk (r' := []) rfl ?_
    refine zk_goto (tgt := 167) C kd_Mo_lookAtExpressions_101 (by decide) ?_
    refine zk_widen (c1 := 8) (s1 := 28) (by decide) (by decide) ?_
    exact zk_vret C hR kd_Mo_lookAtExpressions_167 rfl rfl (zd_rV e)
  replace e := zd_neg b11 e
  by_cases b14 : (h.2.1 72 x1.toNatClampNeg) = 35
  · replace e := zd_pos b14 e
    refine zk_tableIn (tgt := 104) C kd_Mo_lookAtExpressions_6 (by rw [b14]; decide) (by rw [b14]; decide) (by rw [b14]; rfl) (by decide) ?_
    refine zk_aload_n C kd_Mo_lookAtExpressions_104 rfl 0 rfl rfl ?_
    refine zk_iload_n C kd_Mo_lookAtExpressions_105 rfl 1 rfl rfl ?_
    obtain ⟨h16, c15, e⟩ := zd_b e
    refine zs_callV (k := 68) (rn := { frames := 2, cells := 0, slots := 0, locals := 45 }) (As := [.int x1]) (rest := []) C (zc_Mo_lookAtTwo h x1 c15) ku_Mo_lookAtTwo kw2512 kv_Mo_lookAtTwo rfl ⟨by decide, by decide⟩ ⟨by decide, by decide⟩ rfl rfl rfl (Nat.le_of_ble_eq_true rfl) kd_Mo_lookAtExpressions_106 rfl (c1 := 0) (s1 := 0) rfl rfl (fun v w hp => ?_)
    obtain ⟨rfl, rfl⟩ := hp
    refine zk_stk (r' := []) rfl ?_
    refine zk_goto (tgt := 167) C kd_Mo_lookAtExpressions_109 (by decide) ?_
    refine zk_widen (c1 := 8) (s1 := 28) (by decide) (by decide) ?_
    exact zk_vret C hR kd_Mo_lookAtExpressions_167 rfl rfl (zd_rV e)
  replace e := zd_neg b14 e
  refine zk_tableOut (tgt := 112) C kd_Mo_lookAtExpressions_6 (by have := lv_neT b2 (a := 30) (by decide); have := lv_neT b4 (a := 31) (by decide); have := lv_neT b5 (a := 32) (by decide); have := lv_neT b8 (a := 33) (by decide); have := lv_neT b11 (a := 34) (by decide); have := lv_neT b14 (a := 35) (by decide); omega) (by decide) ?_
  refine zk_aload_n C kd_Mo_lookAtExpressions_112 rfl 0 rfl rfl ?_
  refine zk_aload_n C kd_Mo_lookAtExpressions_113 rfl 0 rfl rfl ?_
  refine zs_get (v := .ref (S.1 74)) C 68 17 rfl rfl rfl rfl ki_Mo (by decide) kw1700 kd_Mo_lookAtExpressions_114 rfl ?_
  refine zk_iload_n C kd_Mo_lookAtExpressions_117 rfl 1 rfl rfl ?_
  refine zs_iald C 74 rfl (zd_vp q1) kd_Mo_lookAtExpressions_118 rfl ?_
  refine zk_if_ne (tgt := 143) C kd_Mo_lookAtExpressions_119 (by decide) rfl (fun b17 => ?_) (fun b17 => ?_)
  · replace e := zd_neg b17 e
    refine zk_lvs (lv' := [(0, .ref (S.1 68)), (1, .int x1)]) [0, 1] rfl ?_
    exact zb_Mo_lookAtExpressions_143 C hR h x1 e
  · replace e := zd_pos b17 e
    refine zk_aload_n C kd_Mo_lookAtExpressions_122 rfl 0 rfl rfl ?_
    refine zs_get (v := .ref (S.1 100)) C 68 51 rfl rfl rfl rfl ki_Mo (by decide) kw1734 kd_Mo_lookAtExpressions_123 rfl ?_
    refine zk_aload_n C kd_Mo_lookAtExpressions_126 rfl 0 rfl rfl ?_
    refine zs_get (v := .ref (S.1 76)) C 68 19 rfl rfl rfl rfl ki_Mo (by decide) kw1702 kd_Mo_lookAtExpressions_127 rfl ?_
    refine zk_iload_n C kd_Mo_lookAtExpressions_130 rfl 1 rfl rfl ?_
    refine zs_iald C 76 rfl (zd_vp q1) kd_Mo_lookAtExpressions_131 rfl ?_
    obtain ⟨q18, e⟩ := zd_g e
    refine zs_iald C 100 rfl (zd_vp q18) kd_Mo_lookAtExpressions_132 rfl ?_
    refine zk_callS (rn := { frames := 0, cells := 0, slots := 0, locals := 0 }) (As := [.int (h.2.1 100 (h.2.1 76 x1.toNatClampNeg).toNatClampNeg)]) (rest := [.ref (S.1 68)]) C (zc_Mo_isNumber h (h.2.1 100 (h.2.1 76 x1.toNatClampNeg).toNatClampNeg)) ku_Mo_isNumber kw2469 ks_Mo_isNumber rfl ⟨by decide, by decide⟩ ⟨by decide, by decide⟩ rfl (Nat.le_of_ble_eq_true rfl) kd_Mo_lookAtExpressions_133 rfl (c1 := 0) (s1 := 0) rfl rfl (fun v w hp => ?_)
    obtain ⟨rfl, rfl, z19⟩ := hp
    refine zk_stk (r' := [.int (f_Mo_isNumber (h.2.1 100 (h.2.1 76 x1.toNatClampNeg).toNatClampNeg)), .ref (S.1 68)]) rfl ?_
    refine zk_if_ne (tgt := 143) C kd_Mo_lookAtExpressions_136 (by decide) rfl (fun b20 => ?_) (fun b20 => ?_)
    · replace e := zd_neg b20 e
      refine zk_lvs (lv' := [(0, .ref (S.1 68)), (1, .int x1)]) [0, 1] rfl ?_
      exact zb_Mo_lookAtExpressions_143 C hR h x1 e
    · replace e := zd_pos b20 e
      refine zk_iconst (v := 1) C kd_Mo_lookAtExpressions_139 (by decide) rfl ?_
      refine zk_goto (tgt := 144) C kd_Mo_lookAtExpressions_140 (by decide) ?_
      refine zk_lvs (lv' := [(0, .ref (S.1 68)), (1, .int x1)]) [0, 1] rfl ?_
      exact zb_Mo_lookAtExpressions_144 C hR h x1 1 e
