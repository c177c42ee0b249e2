theorem kw1714 : Jvm.Cond.fieldLink "PlantKeeperModel" (513 : Nat) "PlantKeeperModel" "hand" "Z" ∈ zk_BW := zk_inT 1714 (by decide +kernel) rfl
theorem kw1715 : Jvm.Cond.fieldLink "PlantKeeperModel" (516 : Nat) "PlantKeeperModel" "many" "I" ∈ zk_BW := zk_inT 1715 (by decide +kernel) rfl
theorem kw1985 : Jvm.Cond.instanceMethod ({ cls := "PlantKeeperModel", name := "load", desc := "(I)I" } : Jvm.MethodName) ∈ zk_BW := zk_inT 1985 (by decide +kernel) rfl
theorem kw1986 : Jvm.Cond.selects "PlantKeeperModel" ({ cls := "PlantKeeperModel", name := "load", desc := "(I)I" } : Jvm.MethodName) ({ cls := "PlantKeeperModel", name := "load", desc := "(I)I" } : Jvm.MethodName) ∈ zk_BW := zk_inT 1986 (by decide +kernel) rfl
theorem kw1987 : Jvm.Cond.code ({ cls := "PlantKeeperModel", name := "load", desc := "(I)I" } : Jvm.MethodName) prog_14_method_165_code (3 : Nat) (Option.some FieldType.int) ∈ zk_BW := zk_inT 1987 (by decide +kernel) rfl
theorem kw1993 : Jvm.Cond.methodLink "PlantKeeperModel" (853 : Nat) ({ cls := "PlantKeeperModel", name := "judge", desc := "()I" } : Jvm.MethodName) ∈ zk_BW := zk_inT 1993 (by decide +kernel) rfl
theorem kw1995 : Jvm.Cond.instanceMethod ({ cls := "PlantKeeperModel", name := "judge", desc := "()I" } : Jvm.MethodName) ∈ zk_BW := zk_inT 1995 (by decide +kernel) rfl
theorem kw1996 : Jvm.Cond.code ({ cls := "PlantKeeperModel", name := "judge", desc := "()I" } : Jvm.MethodName) prog_14_method_80_code (2 : Nat) (Option.some FieldType.int) ∈ zk_BW := zk_inT 1996 (by decide +kernel) rfl
theorem kw1997 : Jvm.Cond.methodLink "PlantKeeperModel" (510 : Nat) ({ cls := "PlantKeeperModel", name := "readText", desc := "()I" } : Jvm.MethodName) ∈ zk_BW := zk_inT 1997 (by decide +kernel) rfl
theorem kw2516 : Jvm.Cond.methodLink "PlantKeeperModel" (859 : Nat) ({ cls := "PlantKeeperModel", name := "generate", desc := "()Z" } : Jvm.MethodName) ∈ zk_BW := zk_inT 2516 (by decide +kernel) rfl
theorem kw2660 : Jvm.Cond.methodLink "PlantKeeperModel" (862 : Nat) ({ cls := "PlantKeeperModel", name := "refuse", desc := "(II)V" } : Jvm.MethodName) ∈ zk_BW := zk_inT 2660 (by decide +kernel) rfl
theorem kw2664 : Jvm.Cond.methodLink "PlantKeeperModel" (865 : Nat) ({ cls := "PlantKeeperModel", name := "isDeep", desc := "(I)Z" } : Jvm.MethodName) ∈ zk_BW := zk_inT 2664 (by decide +kernel) rfl
theorem kw2680 : Jvm.Cond.methodLink "PlantKeeperModel" (868 : Nat) ({ cls := "PlantKeeperModel", name := "sumOf", desc := "(I)J" } : Jvm.MethodName) ∈ zk_BW := zk_inT 2680 (by decide +kernel) rfl
theorem kw2698 : Jvm.Cond.constantLong "PlantKeeperModel" (872 : Nat) (1000000000 : Int64) ∈ zk_BW := zk_inT 2698 (by decide +kernel) rfl
abbrev kc_Mo_judge : ByteArray := prog_14_method_80_code
def km_Mo_judge : zk_MT := (⟨"PlantKeeperModel", "judge", "()I"⟩, kc_Mo_judge, 2, some .int, 0)
theorem ku_Mo_judge : zk_My km_Mo_judge := ⟨kw1996, kw17, by decide, by decide, by decide, by decide +kernel⟩
theorem kv_Mo_judge : zk_Mv km_Mo_judge := ⟨kw1995, zk_inS 148 (q := (⟨"PlantKeeperModel", "judge", "()I"⟩, 96)) (by decide +kernel)⟩
abbrev kc_Mo_load : ByteArray := prog_14_method_165_code
def km_Mo_load : zk_MT := (⟨"PlantKeeperModel", "load", "(I)I"⟩, kc_Mo_load, 3, some .int, 1)
theorem ku_Mo_load : zk_My km_Mo_load := ⟨kw1987, kw17, by decide, by decide, by decide, by decide +kernel⟩
theorem kv_Mo_load : zk_Mv km_Mo_load := ⟨kw1985, kw1986⟩
theorem kd_Mo_judge_0 : decode kc_Mo_judge 0 = .ok (.aload_n 0, 1) := by decide +kernel
theorem kd_Mo_judge_1 : decode kc_Mo_judge 1 = .ok (.aload_n 0, 1) := by decide +kernel
theorem kd_Mo_judge_2 : decode kc_Mo_judge 2 = .ok (.invokevirtual 510, 3) := by decide +kernel
theorem kd_Mo_judge_5 : decode kc_Mo_judge 5 = .ok (.putfield 445, 3) := by decide +kernel
theorem kd_Mo_judge_8 : decode kc_Mo_judge 8 = .ok (.aload_n 0, 1) := by decide +kernel
theorem kd_Mo_judge_9 : decode kc_Mo_judge 9 = .ok (.aload_n 0, 1) := by decide +kernel
theorem kd_Mo_judge_10 : decode kc_Mo_judge 10 = .ok (.getfield 178, 3) := by decide +kernel
theorem kd_Mo_judge_13 : decode kc_Mo_judge 13 = .ok (.putfield 448, 3) := by decide +kernel
theorem kd_Mo_judge_16 : decode kc_Mo_judge 16 = .ok (.aload_n 0, 1) := by decide +kernel
theorem kd_Mo_judge_17 : decode kc_Mo_judge 17 = .ok (.iconst 0, 1) := by decide +kernel
theorem kd_Mo_judge_18 : decode kc_Mo_judge 18 = .ok (.putfield 462, 3) := by decide +kernel
theorem kd_Mo_judge_21 : decode kc_Mo_judge 21 = .ok (.aload_n 0, 1) := by decide +kernel
theorem kd_Mo_judge_22 : decode kc_Mo_judge 22 = .ok (.iconst 0, 1) := by decide +kernel
theorem kd_Mo_judge_23 : decode kc_Mo_judge 23 = .ok (.putfield 465, 3) := by decide +kernel
theorem kd_Mo_judge_26 : decode kc_Mo_judge 26 = .ok (.aload_n 0, 1) := by decide +kernel
theorem kd_Mo_judge_27 : decode kc_Mo_judge 27 = .ok (.iconst 0, 1) := by decide +kernel
theorem kd_Mo_judge_28 : decode kc_Mo_judge 28 = .ok (.putfield 513, 3) := by decide +kernel
theorem kd_Mo_judge_31 : decode kc_Mo_judge 31 = .ok (.aload_n 0, 1) := by decide +kernel
theorem kd_Mo_judge_32 : decode kc_Mo_judge 32 = .ok (.getfield 445, 3) := by decide +kernel
theorem kd_Mo_judge_35 : decode kc_Mo_judge 35 = .ok (.ifCond .ne 93, 3) := by decide +kernel
theorem kd_Mo_judge_38 : decode kc_Mo_judge 38 = .ok (.aload_n 0, 1) := by decide +kernel
theorem kd_Mo_judge_39 : decode kc_Mo_judge 39 = .ok (.iconst 0, 1) := by decide +kernel
theorem kd_Mo_judge_40 : decode kc_Mo_judge 40 = .ok (.putfield 516, 3) := by decide +kernel
theorem kd_Mo_judge_43 : decode kc_Mo_judge 43 = .ok (.iconst 0, 1) := by decide +kernel
theorem kd_Mo_judge_44 : decode kc_Mo_judge 44 = .ok (.istore_n 1, 1) := by decide +kernel
theorem kd_Mo_judge_45 : decode kc_Mo_judge 45 = .ok (.iload_n 1, 1) := by decide +kernel
theorem kd_Mo_judge_46 : decode kc_Mo_judge 46 = .ok (.aload_n 0, 1) := by decide +kernel
theorem kd_Mo_judge_47 : decode kc_Mo_judge 47 = .ok (.getfield 315, 3) := by decide +kernel
theorem kd_Mo_judge_50 : decode kc_Mo_judge 50 = .ok (.if_icmp .ge 57, 3) := by decide +kernel
theorem kd_Mo_judge_53 : decode kc_Mo_judge 53 = .ok (.aload_n 0, 1) := by decide +kernel
theorem kd_Mo_judge_54 : decode kc_Mo_judge 54 = .ok (.getfield 106, 3) := by decide +kernel
theorem kd_Mo_judge_57 : decode kc_Mo_judge 57 = .ok (.iload_n 1, 1) := by decide +kernel
theorem kd_Mo_judge_58 : decode kc_Mo_judge 58 = .ok (.iconst (-1), 1) := by decide +kernel
theorem kd_Mo_judge_59 : decode kc_Mo_judge 59 = .ok (.iastore, 1) := by decide +kernel
theorem kd_Mo_judge_60 : decode kc_Mo_judge 60 = .ok (.aload_n 0, 1) := by decide +kernel
theorem kd_Mo_judge_61 : decode kc_Mo_judge 61 = .ok (.getfield 109, 3) := by decide +kernel
theorem kd_Mo_judge_64 : decode kc_Mo_judge 64 = .ok (.iload_n 1, 1) := by decide +kernel
theorem kd_Mo_judge_65 : decode kc_Mo_judge 65 = .ok (.iconst (-1), 1) := by decide +kernel
theorem kd_Mo_judge_66 : decode kc_Mo_judge 66 = .ok (.iastore, 1) := by decide +kernel
theorem kd_Mo_judge_67 : decode kc_Mo_judge 67 = .ok (.aload_n 0, 1) := by decide +kernel
theorem kd_Mo_judge_68 : decode kc_Mo_judge 68 = .ok (.getfield 112, 3) := by decide +kernel
theorem kd_Mo_judge_71 : decode kc_Mo_judge 71 = .ok (.iload_n 1, 1) := by decide +kernel
theorem kd_Mo_judge_72 : decode kc_Mo_judge 72 = .ok (.iconst (-1), 1) := by decide +kernel
theorem kd_Mo_judge_73 : decode kc_Mo_judge 73 = .ok (.iastore, 1) := by decide +kernel
theorem kd_Mo_judge_74 : decode kc_Mo_judge 74 = .ok (.aload_n 0, 1) := by decide +kernel
theorem kd_Mo_judge_75 : decode kc_Mo_judge 75 = .ok (.dup, 1) := by decide +kernel
theorem kd_Mo_judge_76 : decode kc_Mo_judge 76 = .ok (.getfield 516, 3) := by decide +kernel
theorem kd_Mo_judge_79 : decode kc_Mo_judge 79 = .ok (.iload_n 1, 1) := by decide +kernel
theorem kd_Mo_judge_80 : decode kc_Mo_judge 80 = .ok (.ifCond .eq 12, 3) := by decide +kernel
theorem kd_Mo_judge_83 : decode kc_Mo_judge 83 = .ok (.aload_n 0, 1) := by decide +kernel
theorem kd_Mo_judge_84 : decode kc_Mo_judge 84 = .ok (.getfield 31, 3) := by decide +kernel
theorem kd_Mo_judge_87 : decode kc_Mo_judge 87 = .ok (.iload_n 1, 1) := by decide +kernel
theorem kd_Mo_judge_88 : decode kc_Mo_judge 88 = .ok (.iaload, 1) := by decide +kernel
theorem kd_Mo_judge_89 : decode kc_Mo_judge 89 = .ok (.ifCond .lt 7, 3) := by decide +kernel
theorem kd_Mo_judge_92 : decode kc_Mo_judge 92 = .ok (.iconst 1, 1) := by decide +kernel
theorem kd_Mo_judge_93 : decode kc_Mo_judge 93 = .ok (.goto 4, 3) := by decide +kernel
theorem kd_Mo_judge_96 : decode kc_Mo_judge 96 = .ok (.iconst 0, 1) := by decide +kernel
theorem kd_Mo_judge_97 : decode kc_Mo_judge 97 = .ok (.iadd, 1) := by decide +kernel
theorem kd_Mo_judge_98 : decode kc_Mo_judge 98 = .ok (.putfield 516, 3) := by decide +kernel
theorem kd_Mo_judge_101 : decode kc_Mo_judge 101 = .ok (.iinc 1 1, 3) := by decide +kernel
theorem kd_Mo_judge_104 : decode kc_Mo_judge 104 = .ok (.goto (-59), 3) := by decide +kernel
theorem kd_Mo_judge_107 : decode kc_Mo_judge 107 = .ok (.aload_n 0, 1) := by decide +kernel
theorem kd_Mo_judge_108 : decode kc_Mo_judge 108 = .ok (.iconst 0, 1) := by decide +kernel
theorem kd_Mo_judge_109 : decode kc_Mo_judge 109 = .ok (.invokevirtual 519, 3) := by decide +kernel
theorem kd_Mo_judge_112 : decode kc_Mo_judge 112 = .ok (.aload_n 0, 1) := by decide +kernel
theorem kd_Mo_judge_113 : decode kc_Mo_judge 113 = .ok (.aload_n 0, 1) := by decide +kernel
theorem kd_Mo_judge_114 : decode kc_Mo_judge 114 = .ok (.getfield 445, 3) := by decide +kernel
theorem kd_Mo_judge_117 : decode kc_Mo_judge 117 = .ok (.ifCond .ne 7, 3) := by decide +kernel
theorem kd_Mo_judge_120 : decode kc_Mo_judge 120 = .ok (.iconst 1, 1) := by decide +kernel
theorem kd_Mo_judge_121 : decode kc_Mo_judge 121 = .ok (.goto 4, 3) := by decide +kernel
theorem kd_Mo_judge_124 : decode kc_Mo_judge 124 = .ok (.iconst 0, 1) := by decide +kernel
theorem kd_Mo_judge_125 : decode kc_Mo_judge 125 = .ok (.putfield 513, 3) := by decide +kernel
theorem kd_Mo_judge_128 : decode kc_Mo_judge 128 = .ok (.aload_n 0, 1) := by decide +kernel
theorem kd_Mo_judge_129 : decode kc_Mo_judge 129 = .ok (.getfield 445, 3) := by decide +kernel
theorem kd_Mo_judge_132 : decode kc_Mo_judge 132 = .ok (.ireturn, 1) := by decide +kernel
theorem kd_Mo_load_0 : decode kc_Mo_load 0 = .ok (.iload_n 1, 1) := by decide +kernel
theorem kd_Mo_load_1 : decode kc_Mo_load 1 = .ok (.bipush 100, 2) := by decide +kernel
theorem kd_Mo_load_3 : decode kc_Mo_load 3 = .ok (.if_icmp .lt 10, 3) := by decide +kernel
theorem kd_Mo_load_6 : decode kc_Mo_load 6 = .ok (.iload_n 1, 1) := by decide +kernel
theorem kd_Mo_load_7 : decode kc_Mo_load 7 = .ok (.ldc_w 498, 3) := by decide +kernel
theorem kd_Mo_load_10 : decode kc_Mo_load 10 = .ok (.if_icmp .le 5, 3) := by decide +kernel
theorem kd_Mo_load_13 : decode kc_Mo_load 13 = .ok (.iconst (-1), 1) := by decide +kernel
theorem kd_Mo_load_14 : decode kc_Mo_load 14 = .ok (.ireturn, 1) := by decide +kernel
theorem kd_Mo_load_15 : decode kc_Mo_load 15 = .ok (.aload_n 0, 1) := by decide +kernel
theorem kd_Mo_load_16 : decode kc_Mo_load 16 = .ok (.aload_n 0, 1) := by decide +kernel
theorem kd_Mo_load_17 : decode kc_Mo_load 17 = .ok (.invokevirtual 850, 3) := by decide +kernel
theorem kd_Mo_load_20 : decode kc_Mo_load 20 = .ok (.putfield 184, 3) := by decide +kernel
theorem kd_Mo_load_23 : decode kc_Mo_load 23 = .ok (.iconst 0, 1) := by decide +kernel
theorem kd_Mo_load_24 : decode kc_Mo_load 24 = .ok (.istore_n 2, 1) := by decide +kernel
theorem kd_Mo_load_25 : decode kc_Mo_load 25 = .ok (.iload_n 2, 1) := by decide +kernel
theorem kd_Mo_load_26 : decode kc_Mo_load 26 = .ok (.aload_n 0, 1) := by decide +kernel
theorem kd_Mo_load_27 : decode kc_Mo_load 27 = .ok (.getfield 184, 3) := by decide +kernel
theorem kd_Mo_load_30 : decode kc_Mo_load 30 = .ok (.if_icmp .ge 21, 3) := by decide +kernel
theorem kd_Mo_load_33 : decode kc_Mo_load 33 = .ok (.aload_n 0, 1) := by decide +kernel
theorem kd_Mo_load_34 : decode kc_Mo_load 34 = .ok (.getfield 7, 3) := by decide +kernel
theorem kd_Mo_load_37 : decode kc_Mo_load 37 = .ok (.iload_n 2, 1) := by decide +kernel
theorem kd_Mo_load_38 : decode kc_Mo_load 38 = .ok (.aload_n 0, 1) := by decide +kernel
theorem kd_Mo_load_39 : decode kc_Mo_load 39 = .ok (.getfield 156, 3) := by decide +kernel
theorem kd_Mo_load_42 : decode kc_Mo_load 42 = .ok (.iload_n 2, 1) := by decide +kernel
theorem kd_Mo_load_43 : decode kc_Mo_load 43 = .ok (.baload, 1) := by decide +kernel
theorem kd_Mo_load_44 : decode kc_Mo_load 44 = .ok (.bastore, 1) := by decide +kernel
theorem kd_Mo_load_45 : decode kc_Mo_load 45 = .ok (.iinc 2 1, 3) := by decide +kernel
theorem kd_Mo_load_48 : decode kc_Mo_load 48 = .ok (.goto (-23), 3) := by decide +kernel
theorem kd_Mo_load_51 : decode kc_Mo_load 51 = .ok (.aload_n 0, 1) := by decide +kernel
theorem kd_Mo_load_52 : decode kc_Mo_load 52 = .ok (.aload_n 0, 1) := by decide +kernel
theorem kd_Mo_load_53 : decode kc_Mo_load 53 = .ok (.invokevirtual 853, 3) := by decide +kernel
theorem kd_Mo_load_56 : decode kc_Mo_load 56 = .ok (.putfield 856, 3) := by decide +kernel
theorem kd_Mo_load_59 : decode kc_Mo_load 59 = .ok (.aload_n 0, 1) := by decide +kernel
theorem kd_Mo_load_60 : decode kc_Mo_load 60 = .ok (.aload_n 0, 1) := by decide +kernel
theorem kd_Mo_load_61 : decode kc_Mo_load 61 = .ok (.getfield 448, 3) := by decide +kernel
theorem kd_Mo_load_64 : decode kc_Mo_load 64 = .ok (.putfield 159, 3) := by decide +kernel
theorem kd_Mo_load_67 : decode kc_Mo_load 67 = .ok (.aload_n 0, 1) := by decide +kernel
theorem kd_Mo_load_68 : decode kc_Mo_load 68 = .ok (.getfield 856, 3) := by decide +kernel
theorem kd_Mo_load_71 : decode kc_Mo_load 71 = .ok (.ifCond .ne 17, 3) := by decide +kernel
theorem kd_Mo_load_74 : decode kc_Mo_load 74 = .ok (.aload_n 0, 1) := by decide +kernel
theorem kd_Mo_load_75 : decode kc_Mo_load 75 = .ok (.invokevirtual 859, 3) := by decide +kernel
theorem kd_Mo_load_78 : decode kc_Mo_load 78 = .ok (.ifCond .ne 10, 3) := by decide +kernel
theorem kd_Mo_load_81 : decode kc_Mo_load 81 = .ok (.aload_n 0, 1) := by decide +kernel
theorem kd_Mo_load_82 : decode kc_Mo_load 82 = .ok (.bipush 50, 2) := by decide +kernel
theorem kd_Mo_load_84 : decode kc_Mo_load 84 = .ok (.iconst 0, 1) := by decide +kernel
theorem kd_Mo_load_85 : decode kc_Mo_load 85 = .ok (.invokevirtual 862, 3) := by decide +kernel
theorem kd_Mo_load_88 : decode kc_Mo_load 88 = .ok (.iconst 0, 1) := by decide +kernel
theorem kd_Mo_load_89 : decode kc_Mo_load 89 = .ok (.istore_n 2, 1) := by decide +kernel
theorem kd_Mo_load_90 : decode kc_Mo_load 90 = .ok (.iload_n 2, 1) := by decide +kernel
theorem kd_Mo_load_91 : decode kc_Mo_load 91 = .ok (.aload_n 0, 1) := by decide +kernel
theorem kd_Mo_load_92 : decode kc_Mo_load 92 = .ok (.getfield 462, 3) := by decide +kernel
theorem kd_Mo_load_95 : decode kc_Mo_load 95 = .ok (.if_icmp .ge 85, 3) := by decide +kernel
theorem kd_Mo_load_98 : decode kc_Mo_load 98 = .ok (.aload_n 0, 1) := by decide +kernel
theorem kd_Mo_load_99 : decode kc_Mo_load 99 = .ok (.getfield 856, 3) := by decide +kernel
theorem kd_Mo_load_102 : decode kc_Mo_load 102 = .ok (.ifCond .ne 78, 3) := by decide +kernel
theorem kd_Mo_load_105 : decode kc_Mo_load 105 = .ok (.aload_n 0, 1) := by decide +kernel
theorem kd_Mo_load_106 : decode kc_Mo_load 106 = .ok (.iload_n 2, 1) := by decide +kernel
theorem kd_Mo_load_107 : decode kc_Mo_load 107 = .ok (.invokevirtual 865, 3) := by decide +kernel
theorem kd_Mo_load_110 : decode kc_Mo_load 110 = .ok (.ifCond .eq 23, 3) := by decide +kernel
theorem kd_Mo_load_113 : decode kc_Mo_load 113 = .ok (.aload_n 0, 1) := by decide +kernel
theorem kd_Mo_load_114 : decode kc_Mo_load 114 = .ok (.bipush 51, 2) := by decide +kernel
theorem kd_Mo_load_116 : decode kc_Mo_load 116 = .ok (.aload_n 0, 1) := by decide +kernel
theorem kd_Mo_load_117 : decode kc_Mo_load 117 = .ok (.getfield 25, 3) := by decide +kernel
theorem kd_Mo_load_120 : decode kc_Mo_load 120 = .ok (.aload_n 0, 1) := by decide +kernel
theorem kd_Mo_load_121 : decode kc_Mo_load 121 = .ok (.getfield 58, 3) := by decide +kernel
theorem kd_Mo_load_124 : decode kc_Mo_load 124 = .ok (.iload_n 2, 1) := by decide +kernel
theorem kd_Mo_load_125 : decode kc_Mo_load 125 = .ok (.iaload, 1) := by decide +kernel
theorem kd_Mo_load_126 : decode kc_Mo_load 126 = .ok (.iaload, 1) := by decide +kernel
theorem kd_Mo_load_127 : decode kc_Mo_load 127 = .ok (.invokevirtual 862, 3) := by decide +kernel
theorem kd_Mo_load_130 : decode kc_Mo_load 130 = .ok (.goto 44, 3) := by decide +kernel
theorem kd_Mo_load_133 : decode kc_Mo_load 133 = .ok (.aload_n 0, 1) := by decide +kernel
theorem kd_Mo_load_134 : decode kc_Mo_load 134 = .ok (.getfield 133, 3) := by decide +kernel
theorem kd_Mo_load_137 : decode kc_Mo_load 137 = .ok (.iload_n 2, 1) := by decide +kernel
theorem kd_Mo_load_138 : decode kc_Mo_load 138 = .ok (.aload_n 0, 1) := by decide +kernel
theorem kd_Mo_load_139 : decode kc_Mo_load 139 = .ok (.iload_n 2, 1) := by decide +kernel
theorem kd_Mo_load_140 : decode kc_Mo_load 140 = .ok (.invokevirtual 868, 3) := by decide +kernel
theorem kd_Mo_load_143 : decode kc_Mo_load 143 = .ok (.lastore, 1) := by decide +kernel
theorem kd_Mo_load_144 : decode kc_Mo_load 144 = .ok (.aload_n 0, 1) := by decide +kernel
theorem kd_Mo_load_145 : decode kc_Mo_load 145 = .ok (.getfield 133, 3) := by decide +kernel
theorem kd_Mo_load_148 : decode kc_Mo_load 148 = .ok (.iload_n 2, 1) := by decide +kernel
theorem kd_Mo_load_149 : decode kc_Mo_load 149 = .ok (.laload, 1) := by decide +kernel
theorem kd_Mo_load_150 : decode kc_Mo_load 150 = .ok (.ldc2_w 872, 3) := by decide +kernel
theorem kd_Mo_load_153 : decode kc_Mo_load 153 = .ok (.lcmp, 1) := by decide +kernel
theorem kd_Mo_load_154 : decode kc_Mo_load 154 = .ok (.ifCond .le 20, 3) := by decide +kernel
theorem kd_Mo_load_157 : decode kc_Mo_load 157 = .ok (.aload_n 0, 1) := by decide +kernel
theorem kd_Mo_load_158 : decode kc_Mo_load 158 = .ok (.bipush 52, 2) := by decide +kernel
theorem kd_Mo_load_160 : decode kc_Mo_load 160 = .ok (.aload_n 0, 1) := by decide +kernel
theorem kd_Mo_load_161 : decode kc_Mo_load 161 = .ok (.getfield 25, 3) := by decide +kernel
theorem kd_Mo_load_164 : decode kc_Mo_load 164 = .ok (.aload_n 0, 1) := by decide +kernel
theorem kd_Mo_load_165 : decode kc_Mo_load 165 = .ok (.getfield 58, 3) := by decide +kernel
theorem kd_Mo_load_168 : decode kc_Mo_load 168 = .ok (.iload_n 2, 1) := by decide +kernel
theorem kd_Mo_load_169 : decode kc_Mo_load 169 = .ok (.iaload, 1) := by decide +kernel
theorem kd_Mo_load_170 : decode kc_Mo_load 170 = .ok (.iaload, 1) := by decide +kernel
theorem kd_Mo_load_171 : decode kc_Mo_load 171 = .ok (.invokevirtual 862, 3) := by decide +kernel
theorem kd_Mo_load_174 : decode kc_Mo_load 174 = .ok (.iinc 2 1, 3) := by decide +kernel
theorem kd_Mo_load_177 : decode kc_Mo_load 177 = .ok (.goto (-87), 3) := by decide +kernel
theorem kd_Mo_load_180 : decode kc_Mo_load 180 = .ok (.aload_n 0, 1) := by decide +kernel
theorem kd_Mo_load_181 : decode kc_Mo_load 181 = .ok (.getfield 856, 3) := by decide +kernel
theorem kd_Mo_load_184 : decode kc_Mo_load 184 = .ok (.ifCond .ne 42, 3) := by decide +kernel
theorem kd_Mo_load_187 : decode kc_Mo_load 187 = .ok (.aload_n 0, 1) := by decide +kernel
theorem kd_Mo_load_188 : decode kc_Mo_load 188 = .ok (.getfield 133, 3) := by decide +kernel
theorem kd_Mo_load_191 : decode kc_Mo_load 191 = .ok (.aload_n 0, 1) := by decide +kernel
theorem kd_Mo_load_192 : decode kc_Mo_load 192 = .ok (.getfield 462, 3) := by decide +kernel
theorem kd_Mo_load_195 : decode kc_Mo_load 195 = .ok (.iconst 1, 1) := by decide +kernel
theorem kd_Mo_load_196 : decode kc_Mo_load 196 = .ok (.isub, 1) := by decide +kernel
theorem kd_Mo_load_197 : decode kc_Mo_load 197 = .ok (.laload, 1) := by decide +kernel
theorem kd_Mo_load_198 : decode kc_Mo_load 198 = .ok (.iload_n 1, 1) := by decide +kernel
theorem kd_Mo_load_199 : decode kc_Mo_load 199 = .ok (.i2l, 1) := by decide +kernel
theorem kd_Mo_load_200 : decode kc_Mo_load 200 = .ok (.lcmp, 1) := by decide +kernel
theorem kd_Mo_load_201 : decode kc_Mo_load 201 = .ok (.ifCond .le 25, 3) := by decide +kernel
theorem kd_Mo_load_204 : decode kc_Mo_load 204 = .ok (.aload_n 0, 1) := by decide +kernel
theorem kd_Mo_load_205 : decode kc_Mo_load 205 = .ok (.bipush 53, 2) := by decide +kernel
theorem kd_Mo_load_207 : decode kc_Mo_load 207 = .ok (.aload_n 0, 1) := by decide +kernel
theorem kd_Mo_load_208 : decode kc_Mo_load 208 = .ok (.getfield 25, 3) := by decide +kernel
theorem kd_Mo_load_211 : decode kc_Mo_load 211 = .ok (.aload_n 0, 1) := by decide +kernel
theorem kd_Mo_load_212 : decode kc_Mo_load 212 = .ok (.getfield 58, 3) := by decide +kernel
theorem kd_Mo_load_215 : decode kc_Mo_load 215 = .ok (.aload_n 0, 1) := by decide +kernel
theorem kd_Mo_load_216 : decode kc_Mo_load 216 = .ok (.getfield 462, 3) := by decide +kernel
theorem kd_Mo_load_219 : decode kc_Mo_load 219 = .ok (.iconst 1, 1) := by decide +kernel
theorem kd_Mo_load_220 : decode kc_Mo_load 220 = .ok (.isub, 1) := by decide +kernel
theorem kd_Mo_load_221 : decode kc_Mo_load 221 = .ok (.iaload, 1) := by decide +kernel
theorem kd_Mo_load_222 : decode kc_Mo_load 222 = .ok (.iaload, 1) := by decide +kernel
theorem kd_Mo_load_223 : decode kc_Mo_load 223 = .ok (.invokevirtual 862, 3) := by decide +kernel
theorem kd_Mo_load_226 : decode kc_Mo_load 226 = .ok (.aload_n 0, 1) := by decide +kernel
theorem kd_Mo_load_227 : decode kc_Mo_load 227 = .ok (.aload_n 0, 1) := by decide +kernel
theorem kd_Mo_load_228 : decode kc_Mo_load 228 = .ok (.getfield 856, 3) := by decide +kernel
theorem kd_Mo_load_231 : decode kc_Mo_load 231 = .ok (.ifCond .ne 7, 3) := by decide +kernel
theorem kd_Mo_load_234 : decode kc_Mo_load 234 = .ok (.iconst 1, 1) := by decide +kernel
theorem kd_Mo_load_235 : decode kc_Mo_load 235 = .ok (.goto 4, 3) := by decide +kernel
theorem kd_Mo_load_238 : decode kc_Mo_load 238 = .ok (.iconst 0, 1) := by decide +kernel
theorem kd_Mo_load_239 : decode kc_Mo_load 239 = .ok (.putfield 874, 3) := by decide +kernel
theorem kd_Mo_load_242 : decode kc_Mo_load 242 = .ok (.aload_n 0, 1) := by decide +kernel
theorem kd_Mo_load_243 : decode kc_Mo_load 243 = .ok (.getfield 874, 3) := by decide +kernel
theorem kd_Mo_load_246 : decode kc_Mo_load 246 = .ok (.ifCond .eq 27, 3) := by decide +kernel
theorem kd_Mo_load_249 : decode kc_Mo_load 249 = .ok (.aload_n 0, 1) := by decide +kernel
theorem kd_Mo_load_250 : decode kc_Mo_load 250 = .ok (.iconst 0, 1) := by decide +kernel
theorem kd_Mo_load_251 : decode kc_Mo_load 251 = .ok (.putfield 832, 3) := by decide +kernel
theorem kd_Mo_load_254 : decode kc_Mo_load 254 = .ok (.aload_n 0, 1) := by decide +kernel
theorem kd_Mo_load_255 : decode kc_Mo_load 255 = .ok (.iconst 0, 1) := by decide +kernel
theorem kd_Mo_load_256 : decode kc_Mo_load 256 = .ok (.putfield 817, 3) := by decide +kernel
theorem kd_Mo_load_259 : decode kc_Mo_load 259 = .ok (.aload_n 0, 1) := by decide +kernel
theorem kd_Mo_load_260 : decode kc_Mo_load 260 = .ok (.iconst 0, 1) := by decide +kernel
theorem kd_Mo_load_261 : decode kc_Mo_load 261 = .ok (.putfield 877, 3) := by decide +kernel
theorem kd_Mo_load_264 : decode kc_Mo_load 264 = .ok (.aload_n 0, 1) := by decide +kernel
theorem kd_Mo_load_265 : decode kc_Mo_load 265 = .ok (.iconst 0, 1) := by decide +kernel
theorem kd_Mo_load_266 : decode kc_Mo_load 266 = .ok (.putfield 880, 3) := by decide +kernel
theorem kd_Mo_load_269 : decode kc_Mo_load 269 = .ok (.aload_n 0, 1) := by decide +kernel
theorem kd_Mo_load_270 : decode kc_Mo_load 270 = .ok (.invokevirtual 883, 3) := by decide +kernel
theorem kd_Mo_load_273 : decode kc_Mo_load 273 = .ok (.aload_n 0, 1) := by decide +kernel
theorem kd_Mo_load_274 : decode kc_Mo_load 274 = .ok (.getfield 856, 3) := by decide +kernel
theorem kd_Mo_load_277 : decode kc_Mo_load 277 = .ok (.ireturn, 1) := by decide +kernel
/-! judge and load: K bounds the calls that may make Strings. -/
def jk_H (K : Nat) (Pz : zs_H → Prop) : Prop := (∀ h i v, Pz h → Pz (zs_uM h 100 i v)) ∧ (∀ h i v, Pz h → Pz (zs_uM h 101 i v)) ∧ (∀ h i v, Pz h → Pz (zs_uM h 102 i v)) ∧ (∀ h v, Pz h → Pz (zs_uF h 68 32 v)) ∧ (∀ h gh, Pz h → f_Mo_look 500 h 0 = some gh → ∃ cc, cc ≤ K ∧ c_Mo_look 500 h 0 = some (gh, cc))
def jk_J (Pz : zs_H → Prop) (g : zs_H) : Prop := ∀ h3, f_Mo_readText g = some (0, h3) → Pz (zs_uF (zs_uF (zs_uF (zs_uF (zs_uF (zs_uF h3 68 29 0) 68 30 (h3.1 68 11)) 68 33 0) 68 41 0) 68 31 0) 68 32 0)
/-- the text is copied -/
def jl_25 (k : zs_H → Int32 → Option zs_H) (h : zs_H) (x2 : Int32) : Option zs_H := if (h.1 68 1) ≤ x2 then some h else (if zd_in x2 16384 then k (zs_uM h 69 x2.toNatClampNeg (vp_nar .byte (h.2.1 116 x2.toNatClampNeg))) (x2 + 1) else none)
def jl_L25 : Nat → zs_H → Int32 → Option zs_H := zd_it (fun k => jl_25 k) (fun _ _ => none)
set_option maxHeartbeats 4000000 in
set_option maxRecDepth 100000 in
theorem zb_Mo_judge_97 {X : zkj_T} {S : zs_T} {P : ze_T} {l : Launch} {D : va_G} {sz0 : Nat} {K : Nat} {Pz : zs_H → Prop} {rv : Int32} {rh : zs_H} (HK : jk_H K Pz) (C : zk_C X km_Mo_judge (zs_G S l D sz0) { frames := 1208, cells := 8 * K, slots := 28 * K, locals := 29389 } (ze_E P)) (hR : zkj_R X (zd_PI S rv rh) (some .int)) {k45 : zs_H → Int32 → (Option (Int32 × zs_H))} (hk45 : ∀ (h : zs_H) (x1 : Int32), Pz h → k45 h x1 = some (rv, rh) → zk_Ab X (zs_W S h) 0 0 45 [(0, .ref (S.1 68)), (1, .int x1)] []) (h : zs_H) (x1 : Int32) (y0 : Int32) (y1 : Int32) (hP : Pz h) (e : f_Mo_judge_97 k45 h x1 y0 y1 = some (rv, rh)) : zk_Ab X (zs_W S h) 0 0 97 [(0, .ref (S.1 68)), (1, .int x1)] [.int y0, .int y1, .ref (S.1 68)] := by
  unfold f_Mo_judge_97 at e
  refine zk_iadd C kd_Mo_judge_97 rfl ?_
  refine zs_put (ty := .int) C 68 32 (y1 + y0) rfl rfl rfl rfl ki_Mo ky_Mo ko_Mo kn_Mo (by decide) kw1715 rfl rfl rfl rfl (by decide) kd_Mo_judge_98 rfl ?_
  refine zk_iinc (v := (x1 + 1)) (lv' := [(1, _), (0, _)]) C kd_Mo_judge_101 1 rfl rfl (by decide) rfl rfl ?_
  refine zk_goto (tgt := 45) C kd_Mo_judge_104 (by decide) ?_
  refine zk_lvs (lv' := [(0, .ref (S.1 68)), (1, .int (x1 + 1))]) [1, 0] rfl ?_
  exact hk45 (zs_uF h 68 32 (y1 + y0)) (x1 + 1) (HK.2.2.2.1 _ _ hP) e
set_option maxHeartbeats 4000000 in
set_option maxRecDepth 100000 in
theorem zb_Mo_judge_92 {X : zkj_T} {S : zs_T} {P : ze_T} {l : Launch} {D : va_G} {sz0 : Nat} {K : Nat} {Pz : zs_H → Prop} {rv : Int32} {rh : zs_H} (HK : jk_H K Pz) (C : zk_C X km_Mo_judge (zs_G S l D sz0) { frames := 1208, cells := 8 * K, slots := 28 * K, locals := 29389 } (ze_E P)) (hR : zkj_R X (zd_PI S rv rh) (some .int)) {k45 : zs_H → Int32 → (Option (Int32 × zs_H))} (hk45 : ∀ (h : zs_H) (x1 : Int32), Pz h → k45 h x1 = some (rv, rh) → zk_Ab X (zs_W S h) 0 0 45 [(0, .ref (S.1 68)), (1, .int x1)] []) (h : zs_H) (x1 : Int32) (y0 : Int32) (hP : Pz h) (e : f_Mo_judge_92 k45 h x1 y0 = some (rv, rh)) : zk_Ab X (zs_W S h) 0 0 92 [(0, .ref (S.1 68)), (1, .int x1)] [.int y0, .ref (S.1 68)] := by
  unfold f_Mo_judge_92 at e
  refine zk_iconst (v := 1) C kd_Mo_judge_92 (by decide) rfl ?_
  refine zk_goto (tgt := 97) C kd_Mo_judge_93 (by decide) ?_
  refine zk_lvs (lv' := [(0, .ref (S.1 68)), (1, .int x1)]) [0, 1] rfl ?_
  exact zb_Mo_judge_97 HK C hR hk45 h x1 1 y0 hP e
set_option maxHeartbeats 4000000 in
set_option maxRecDepth 100000 in
theorem zb_Mo_judge_128 {X : zkj_T} {S : zs_T} {P : ze_T} {l : Launch} {D : va_G} {sz0 : Nat} {K : Nat} {rv : Int32} {rh : zs_H} (C : zk_C X km_Mo_judge (zs_G S l D sz0) { frames := 1208, cells := 8 * K, slots := 28 * K, locals := 29389 } (ze_E P)) (hR : zkj_R X (zd_PI S rv rh) (some .int)) (h : zs_H) (e : f_Mo_judge_128 h = some (rv, rh)) : zk_Ab X (zs_W S h) (8 * K) (28 * K) 128 [(0, .ref (S.1 68))] [] := by
  unfold f_Mo_judge_128 at e
  refine zk_aload_n C kd_Mo_judge_128 rfl 0 rfl rfl ?_
  refine zs_get (v := .int (h.1 68 29)) C 68 29 rfl rfl rfl rfl ki_Mo (by decide) kw1712 kd_Mo_judge_129 rfl ?_
  exact zk_iret C hR kd_Mo_judge_132 rfl rfl (zd_rIS e)
set_option maxHeartbeats 4000000 in
set_option maxRecDepth 100000 in
theorem zb_Mo_judge_125 {X : zkj_T} {S : zs_T} {P : ze_T} {l : Launch} {D : va_G} {sz0 : Nat} {K : Nat} {rv : Int32} {rh : zs_H} (C : zk_C X km_Mo_judge (zs_G S l D sz0) { frames := 1208, cells := 8 * K, slots := 28 * K, locals := 29389 } (ze_E P)) (hR : zkj_R X (zd_PI S rv rh) (some .int)) (h : zs_H) (y0 : Int32) (e : f_Mo_judge_125 h y0 = some (rv, rh)) : zk_Ab X (zs_W S h) (8 * K) (28 * K) 125 [(0, .ref (S.1 68))] [.int y0, .ref (S.1 68)] := by
  unfold f_Mo_judge_125 at e
  obtain ⟨q1, e⟩ := zd_g e
  refine zs_put (ty := .boolean) C 68 31 y0 rfl rfl rfl rfl ki_Mo ky_Mo ko_Mo kn_Mo (by decide) kw1714 rfl rfl (zd_nb q1) (zd_fb q1) (by decide) kd_Mo_judge_125 rfl ?_
  refine zk_lvs (lv' := [(0, .ref (S.1 68))]) [0] rfl ?_
  exact zb_Mo_judge_128 C hR (zs_uF h 68 31 y0) e
set_option maxHeartbeats 4000000 in
set_option maxRecDepth 100000 in
theorem zb_Mo_judge_45 {X : zkj_T} {S : zs_T} {P : ze_T} {l : Launch} {D : va_G} {sz0 : Nat} {K : Nat} {Pz : zs_H → Prop} {rv : Int32} {rh : zs_H} (HK : jk_H K Pz) (C : zk_C X km_Mo_judge (zs_G S l D sz0) { frames := 1208, cells := 8 * K, slots := 28 * K, locals := 29389 } (ze_E P)) (hR : zkj_R X (zd_PI S rv rh) (some .int)) {k45 : zs_H → Int32 → (Option (Int32 × zs_H))} (hk45 : ∀ (h : zs_H) (x1 : Int32), Pz h → k45 h x1 = some (rv, rh) → zk_Ab X (zs_W S h) 0 0 45 [(0, .ref (S.1 68)), (1, .int x1)] []) (h : zs_H) (x1 : Int32) (hP : Pz h) (e : f_Mo_judge_45 k45 h x1 = some (rv, rh)) : zk_Ab X (zs_W S h) 0 0 45 [(0, .ref (S.1 68)), (1, .int x1)] [] := by
  unfold f_Mo_judge_45 at e
  refine zk_iload_n C kd_Mo_judge_45 rfl 1 rfl rfl ?_
  refine zk_aload_n C kd_Mo_judge_46 rfl 0 rfl rfl ?_
  refine zs_get (v := .int (h.1 68 14)) C 68 14 rfl rfl rfl rfl ki_Mo (by decide) kw1697 kd_Mo_judge_47 rfl ?_
  refine zk_icmp_ge (tgt := 107) C kd_Mo_judge_50 (by decide) rfl (fun b1 => ?_) (fun b1 => ?_)
  · replace e := zd_pos b1 e
    refine zk_aload_n C kd_Mo_judge_107 rfl 0 rfl rfl ?_
    refine zk_iconst (v := 0) C kd_Mo_judge_108 (by decide) rfl ?_
    obtain ⟨h3, c2, e⟩ := zd_b e
    obtain ⟨cc, hcc, c2⟩ := HK.2.2.2.2 h h3 hP c2
    refine zs_callV (k := 68) (rn := { frames := 404 + 500, cells := 8 * cc, slots := 28 * cc, locals := 10092 + 23 * 500 }) (As := [.int 0]) (rest := []) C (jzc_Mo_look h 0 c2) ku_Mo_look kw2248 kv_Mo_look rfl ⟨by show 404 + 500 + 1 ≤ 1208; decide, by show 8 + (3 + 11) + (10092 + 23 * 500) ≤ 29389; decide⟩ ⟨by show 0 + 8 * cc ≤ 8 * K; omega, by show 0 + 28 * cc ≤ 28 * K; omega⟩ rfl rfl rfl (Nat.le_of_ble_eq_true rfl) kd_Mo_judge_109 rfl (c1 := 8 * cc) (s1 := 28 * cc) (Nat.zero_add _) (Nat.zero_add _) (fun v w hp => ?_)
    obtain ⟨rfl, rfl⟩ := hp
    refine zk_stk (r' := []) rfl ?_
    refine zk_widen (c1 := 8 * K) (s1 := 28 * K) (by omega) (by omega) ?_
    refine zk_aload_n C kd_Mo_judge_112 rfl 0 rfl rfl ?_
    refine zk_aload_n C kd_Mo_judge_113 rfl 0 rfl rfl ?_
    refine zs_get (v := .int (h3.1 68 29)) C 68 29 rfl rfl rfl rfl ki_Mo (by decide) kw1712 kd_Mo_judge_114 rfl ?_
    refine zk_if_ne (tgt := 124) C kd_Mo_judge_117 (by decide) rfl (fun b4 => ?_) (fun b4 => ?_)
    · replace e := zd_neg b4 e
      refine zk_iconst (v := 0) C kd_Mo_judge_124 (by decide) rfl ?_
      refine zk_lvs (lv' := [(0, .ref (S.1 68))]) [0] rfl ?_
      exact zb_Mo_judge_125 C hR h3 0 e
    · replace e := zd_pos b4 e
      refine zk_iconst (v := 1) C kd_Mo_judge_120 (by decide) rfl ?_
      refine zk_goto (tgt := 125) C kd_Mo_judge_121 (by decide) ?_
      refine zk_lvs (lv' := [(0, .ref (S.1 68))]) [0] rfl ?_
      exact zb_Mo_judge_125 C hR h3 1 e
  · replace e := zd_neg b1 e
    refine zk_aload_n C kd_Mo_judge_53 rfl 0 rfl rfl ?_
    refine zs_get (v := .ref (S.1 100)) C 68 51 rfl rfl rfl rfl ki_Mo (by decide) kw1734 kd_Mo_judge_54 rfl ?_
    refine zk_iload_n C kd_Mo_judge_57 rfl 1 rfl rfl ?_
    refine zk_iconst (v := (-1)) C kd_Mo_judge_58 (by decide) rfl ?_
    obtain ⟨q5, e⟩ := zd_g e
    refine zs_iast C 100 rfl (zd_vp q5) kd_Mo_judge_59 rfl ?_
    refine zk_aload_n C kd_Mo_judge_60 rfl 0 rfl rfl ?_
    refine zs_get (v := .ref (S.1 101)) C 68 52 rfl rfl rfl rfl ki_Mo (by decide) kw1735 kd_Mo_judge_61 rfl ?_
    refine zk_iload_n C kd_Mo_judge_64 rfl 1 rfl rfl ?_
    refine zk_iconst (v := (-1)) C kd_Mo_judge_65 (by decide) rfl ?_
    refine zs_iast C 101 rfl (zd_vp q5) kd_Mo_judge_66 rfl ?_
    refine zk_aload_n C kd_Mo_judge_67 rfl 0 rfl rfl ?_
    refine zs_get (v := .ref (S.1 102)) C 68 53 rfl rfl rfl rfl ki_Mo (by decide) kw1736 kd_Mo_judge_68 rfl ?_
    refine zk_iload_n C kd_Mo_judge_71 rfl 1 rfl rfl ?_
    refine zk_iconst (v := (-1)) C kd_Mo_judge_72 (by decide) rfl ?_
    refine zs_iast C 102 rfl (zd_vp q5) kd_Mo_judge_73 rfl ?_
    refine zk_aload_n C kd_Mo_judge_74 rfl 0 rfl rfl ?_
    refine zk_dup C kd_Mo_judge_75 rfl rfl ?_
    refine zs_get (v := .int (h.1 68 32)) C 68 32 rfl rfl rfl rfl ki_Mo (by decide) kw1715 kd_Mo_judge_76 rfl ?_
    refine zk_iload_n C kd_Mo_judge_79 rfl 1 rfl rfl ?_
    refine zk_if_eq (tgt := 92) C kd_Mo_judge_80 (by decide) rfl (fun b6 => ?_) (fun b6 => ?_)
    · replace e := zd_pos b6 e
      refine zk_lvs (lv' := [(0, .ref (S.1 68)), (1, .int x1)]) [0, 1] rfl ?_
      exact zb_Mo_judge_92 HK C hR hk45 (zs_uM (zs_uM (zs_uM h 100 x1.toNatClampNeg (-1)) 101 x1.toNatClampNeg (-1)) 102 x1.toNatClampNeg (-1)) x1 (h.1 68 32) (HK.2.2.1 _ _ _ (HK.2.1 _ _ _ (HK.1 _ _ _ hP))) e
    · replace e := zd_neg b6 e
      refine zk_aload_n C kd_Mo_judge_83 rfl 0 rfl rfl ?_
      refine zs_get (v := .ref (S.1 75)) C 68 18 rfl rfl rfl rfl ki_Mo (by decide) kw1701 kd_Mo_judge_84 rfl ?_
      refine zk_iload_n C kd_Mo_judge_87 rfl 1 rfl rfl ?_
      refine zs_iald C 75 rfl (zd_vp q5) kd_Mo_judge_88 rfl ?_
      refine zk_stk (r' := [.int (h.2.1 75 x1.toNatClampNeg), .int (h.1 68 32), .ref (S.1 68)]) rfl ?_
      refine zk_if_lt (tgt := 96) C kd_Mo_judge_89 (by decide) rfl (fun b7 => ?_) (fun b7 => ?_)
      · replace e := zd_pos b7 e
        refine zk_iconst (v := 0) C kd_Mo_judge_96 (by decide) rfl ?_
        refine zk_lvs (lv' := [(0, .ref (S.1 68)), (1, .int x1)]) [0, 1] rfl ?_
        exact zb_Mo_judge_97 HK C hR hk45 (zs_uM (zs_uM (zs_uM h 100 x1.toNatClampNeg (-1)) 101 x1.toNatClampNeg (-1)) 102 x1.toNatClampNeg (-1)) x1 0 (h.1 68 32) (HK.2.2.1 _ _ _ (HK.2.1 _ _ _ (HK.1 _ _ _ hP))) e
      · replace e := zd_neg b7 e
        refine zk_lvs (lv' := [(0, .ref (S.1 68)), (1, .int x1)]) [0, 1] rfl ?_
        exact zb_Mo_judge_92 HK C hR hk45 (zs_uM (zs_uM (zs_uM h 100 x1.toNatClampNeg (-1)) 101 x1.toNatClampNeg (-1)) 102 x1.toNatClampNeg (-1)) x1 (h.1 68 32) (HK.2.2.1 _ _ _ (HK.2.1 _ _ _ (HK.1 _ _ _ hP))) e
theorem zl_Mo_judge_45 {X : zkj_T} {S : zs_T} {P : ze_T} {l : Launch} {D : va_G} {sz0 : Nat} {K : Nat} {Pz : zs_H → Prop} {rv : Int32} {rh : zs_H} (HK : jk_H K Pz) (C : zk_C X km_Mo_judge (zs_G S l D sz0) { frames := 1208, cells := 8 * K, slots := 28 * K, locals := 29389 } (ze_E P)) (hR : zkj_R X (zd_PI S rv rh) (some .int)) (n : Nat) : ∀ (h : zs_H) (x1 : Int32), Pz h → f_Mo_judge_L45 n h x1 = some (rv, rh) → zk_Ab X (zs_W S h) 0 0 45 [(0, .ref (S.1 68)), (1, .int x1)] [] := by
  induction n with
  | zero => intro h x1 hP e; exact zd_no e
  | succ n ih => intro h x1 hP e; exact zb_Mo_judge_45 (k45 := f_Mo_judge_L45 n) HK C hR ih h x1 hP e
set_option maxHeartbeats 4000000 in
set_option maxRecDepth 100000 in
theorem zc_Mo_judge {l : Launch} {D : va_G} {sz0 : Nat} {K : Nat} {Pz : zs_H → Prop} {S : zs_T} {P : ze_T} (HK : jk_H K Pz) (h : zs_H) (hJ : jk_J Pz h) {rv : Int32} {rh : zs_H} (e : f_Mo_judge h = some (rv, rh)) : zk_Sp (zs_G S l D sz0) (ze_E P) km_Mo_judge { frames := 1208, cells := 8 * K, slots := 28 * K, locals := 29389 } [.ref (S.1 68)] (zs_W S h) (zd_PI S rv rh) := by
  refine zk_met ku_Mo_judge (Nat.le_of_ble_eq_true rfl) (ze_Em P) ?_
  intro X C hR
  refine zk_lvs (lv' := [(0, .ref (S.1 68))]) [0] rfl ?_
  unfold f_Mo_judge at e
  refine zk_aload_n C kd_Mo_judge_0 rfl 0 rfl rfl ?_
  refine zk_aload_n C kd_Mo_judge_1 rfl 0 rfl rfl ?_
  obtain ⟨v2, h3, c1, e⟩ := zd_Be e
  refine zs_callV (k := 68) (rn := { frames := 1207, cells := 0, slots := 0, locals := 29368 }) (As := []) (rest := [.ref (S.1 68)]) C (zc_Mo_readText h c1) ku_Mo_readText kw1997 kv_Mo_readText rfl ⟨by show 1207 + 1 ≤ 1208; decide, by show 8 + (2 + 11) + (29368) ≤ 29389; decide⟩ ⟨by show 0 + 0 ≤ 8 * K; omega, by show 0 + 0 ≤ 28 * K; omega⟩ rfl rfl rfl (Nat.le_of_ble_eq_true rfl) kd_Mo_judge_2 rfl (c1 := 0) (s1 := 0) rfl rfl (fun v w hp => ?_)
  obtain ⟨rfl, rfl⟩ := hp
  refine zk_stk (r' := [.int v2, .ref (S.1 68)]) rfl ?_
  refine zs_put (ty := .int) C 68 29 v2 rfl rfl rfl rfl ki_Mo ky_Mo ko_Mo kn_Mo (by decide) kw1712 rfl rfl rfl rfl (by decide) kd_Mo_judge_5 rfl ?_
  refine zk_aload_n C kd_Mo_judge_8 rfl 0 rfl rfl ?_
  refine zk_aload_n C kd_Mo_judge_9 rfl 0 rfl rfl ?_
  refine zs_get (v := .int (h3.1 68 11)) C 68 11 rfl rfl rfl rfl ki_Mo (by decide) kw1694 kd_Mo_judge_10 rfl ?_
  refine zs_put (ty := .int) C 68 30 (h3.1 68 11) rfl rfl rfl rfl ki_Mo ky_Mo ko_Mo kn_Mo (by decide) kw1713 rfl rfl rfl rfl (by decide) kd_Mo_judge_13 rfl ?_
  refine zk_aload_n C kd_Mo_judge_16 rfl 0 rfl rfl ?_
  refine zk_iconst (v := 0) C kd_Mo_judge_17 (by decide) rfl ?_
  refine zs_put (ty := .int) C 68 33 0 rfl rfl rfl rfl ki_Mo ky_Mo ko_Mo kn_Mo (by decide) kw1716 rfl rfl rfl rfl (by decide) kd_Mo_judge_18 rfl ?_
  refine zk_aload_n C kd_Mo_judge_21 rfl 0 rfl rfl ?_
  refine zk_iconst (v := 0) C kd_Mo_judge_22 (by decide) rfl ?_
  refine zs_put (ty := .int) C 68 41 0 rfl rfl rfl rfl ki_Mo ky_Mo ko_Mo kn_Mo (by decide) kw1724 rfl rfl rfl rfl (by decide) kd_Mo_judge_23 rfl ?_
  refine zk_aload_n C kd_Mo_judge_26 rfl 0 rfl rfl ?_
  refine zk_iconst (v := 0) C kd_Mo_judge_27 (by decide) rfl ?_
  refine zs_put (ty := .boolean) C 68 31 0 rfl rfl rfl rfl ki_Mo ky_Mo ko_Mo kn_Mo (by decide) kw1714 rfl rfl rfl rfl (by decide) kd_Mo_judge_28 rfl ?_
  refine zk_aload_n C kd_Mo_judge_31 rfl 0 rfl rfl ?_
  refine zs_get (v := .int v2) C 68 29 rfl rfl rfl rfl ki_Mo (by decide) kw1712 kd_Mo_judge_32 rfl ?_
  refine zk_if_ne (tgt := 128) C kd_Mo_judge_35 (by decide) rfl (fun b4 => ?_) (fun b4 => ?_)
  · replace e := zd_neg b4 e
    refine zk_lvs (lv' := [(0, .ref (S.1 68))]) [0] rfl ?_
    refine zk_widen (c1 := 8 * K) (s1 := 28 * K) (by omega) (by omega) ?_
    exact zb_Mo_judge_128 C hR (zs_uF (zs_uF (zs_uF (zs_uF (zs_uF h3 68 29 v2) 68 30 (h3.1 68 11)) 68 33 0) 68 41 0) 68 31 0) e
  · replace e := zd_pos b4 e
    refine zk_aload_n C kd_Mo_judge_38 rfl 0 rfl rfl ?_
    refine zk_iconst (v := 0) C kd_Mo_judge_39 (by decide) rfl ?_
    refine zs_put (ty := .int) C 68 32 0 rfl rfl rfl rfl ki_Mo ky_Mo ko_Mo kn_Mo (by decide) kw1715 rfl rfl rfl rfl (by decide) kd_Mo_judge_40 rfl ?_
    refine zk_iconst (v := 0) C kd_Mo_judge_43 (by decide) rfl ?_
    refine zk_istore_n (lv' := [(1, _), (0, _)]) C kd_Mo_judge_44 rfl (by decide) rfl rfl ?_
    refine zk_lvs (lv' := [(0, .ref (S.1 68)), (1, .int 0)]) [1, 0] rfl ?_
    exact zl_Mo_judge_45 HK C hR zF (zs_uF (zs_uF (zs_uF (zs_uF (zs_uF (zs_uF h3 68 29 v2) 68 30 (h3.1 68 11)) 68 33 0) 68 41 0) 68 31 0) 68 32 0) 0 (by subst b4; exact hJ h3 c1) e
set_option maxHeartbeats 4000000 in
set_option maxRecDepth 100000 in
theorem zb_Mo_load_174 {X : zkj_T} {S : zs_T} {P : ze_T} {l : Launch} {D : va_G} {sz0 : Nat} {K : Nat} {rv : Int32} {rh : zs_H} (C : zk_C X km_Mo_load (zs_G S l D sz0) { frames := 1809, cells := 8 * K, slots := 28 * K, locals := 46205 } (ze_E P)) (hR : zkj_R X (zd_PI S rv rh) (some .int)) {k90 : zs_H → Int32 → Int32 → (Option (Int32 × zs_H))} (hk90 : ∀ (h : zs_H) (x1 : Int32) (x2 : Int32), k90 h x1 x2 = some (rv, rh) → zk_Ab X (zs_W S h) (8 * K) (28 * K) 90 [(0, .ref (S.1 68)), (1, .int x1), (2, .int x2)] []) (h : zs_H) (x1 : Int32) (x2 : Int32) (e : f_Mo_load_174 k90 h x1 x2 = some (rv, rh)) : zk_Ab X (zs_W S h) (8 * K) (28 * K) 174 [(0, .ref (S.1 68)), (1, .int x1), (2, .int x2)] [] := by
  unfold f_Mo_load_174 at e
  refine zk_iinc (v := (x2 + 1)) (lv' := [(2, _), (0, _), (1, _)]) C kd_Mo_load_174 2 rfl rfl (by decide) rfl rfl ?_
  refine zk_goto (tgt := 90) C kd_Mo_load_177 (by decide) ?_
  refine zk_lvs (lv' := [(0, .ref (S.1 68)), (1, .int x1), (2, .int (x2 + 1))]) [1, 2, 0] rfl ?_
  exact hk90 h x1 (x2 + 1) e
set_option maxHeartbeats 4000000 in
set_option maxRecDepth 100000 in
theorem zb_Mo_load_273 {X : zkj_T} {S : zs_T} {P : ze_T} {l : Launch} {D : va_G} {sz0 : Nat} {K : Nat} {rv : Int32} {rh : zs_H} (C : zk_C X km_Mo_load (zs_G S l D sz0) { frames := 1809, cells := 8 * K, slots := 28 * K, locals := 46205 } (ze_E P)) (hR : zkj_R X (zd_PI S rv rh) (some .int)) (h : zs_H) (e : f_Mo_load_273 h = some (rv, rh)) : zk_Ab X (zs_W S h) (8 * K) (28 * K) 273 [(0, .ref (S.1 68))] [] := by
  unfold f_Mo_load_273 at e
  refine zk_aload_n C kd_Mo_load_273 rfl 0 rfl rfl ?_
  refine zs_get (v := .int (h.1 68 80)) C 68 80 rfl rfl rfl rfl ki_Mo (by decide) kw1763 kd_Mo_load_274 rfl ?_
  exact zk_iret C hR kd_Mo_load_277 rfl rfl (zd_rIS e)
set_option maxHeartbeats 4000000 in
set_option maxRecDepth 100000 in
theorem zb_Mo_load_239 {X : zkj_T} {S : zs_T} {P : ze_T} {l : Launch} {D : va_G} {sz0 : Nat} {K : Nat} {rv : Int32} {rh : zs_H} (C : zk_C X km_Mo_load (zs_G S l D sz0) { frames := 1809, cells := 8 * K, slots := 28 * K, locals := 46205 } (ze_E P)) (hR : zkj_R X (zd_PI S rv rh) (some .int)) (h : zs_H) (y0 : Int32) (e : f_Mo_load_239 h y0 = some (rv, rh)) : zk_Ab X (zs_W S h) (8 * K) (28 * K) 239 [(0, .ref (S.1 68))] [.int y0, .ref (S.1 68)] := by
  unfold f_Mo_load_239 at e
  obtain ⟨q1, e⟩ := zd_g e
  refine zs_put (ty := .boolean) C 68 82 y0 rfl rfl rfl rfl ki_Mo ky_Mo ko_Mo kn_Mo (by decide) kw1765 rfl rfl (zd_nb q1) (zd_fb q1) (by decide) kd_Mo_load_239 rfl ?_
  refine zk_aload_n C kd_Mo_load_242 rfl 0 rfl rfl ?_
  refine zs_get (v := .int y0) C 68 82 rfl rfl rfl rfl ki_Mo (by decide) kw1765 kd_Mo_load_243 rfl ?_
  refine zk_if_eq (tgt := 273) C kd_Mo_load_246 (by decide) rfl (fun b2 => ?_) (fun b2 => ?_)
  · replace e := zd_pos b2 e
    refine zk_lvs (lv' := [(0, .ref (S.1 68))]) [0] rfl ?_
    exact zb_Mo_load_273 C hR (zs_uF h 68 82 y0) e
  · replace e := zd_neg b2 e
    refine zk_aload_n C kd_Mo_load_249 rfl 0 rfl rfl ?_
    refine zk_iconst (v := 0) C kd_Mo_load_250 (by decide) rfl ?_
    refine zs_put (ty := .int) C 68 73 0 rfl rfl rfl rfl ki_Mo ky_Mo ko_Mo kn_Mo (by decide) kw1756 rfl rfl rfl rfl (by decide) kd_Mo_load_251 rfl ?_
    refine zk_aload_n C kd_Mo_load_254 rfl 0 rfl rfl ?_
    refine zk_iconst (v := 0) C kd_Mo_load_255 (by decide) rfl ?_
    refine zs_put (ty := .int) C 68 74 0 rfl rfl rfl rfl ki_Mo ky_Mo ko_Mo kn_Mo (by decide) kw1757 rfl rfl rfl rfl (by decide) kd_Mo_load_256 rfl ?_
    refine zk_aload_n C kd_Mo_load_259 rfl 0 rfl rfl ?_
    refine zk_iconst (v := 0) C kd_Mo_load_260 (by decide) rfl ?_
    refine zs_put (ty := .int) C 68 84 0 rfl rfl rfl rfl ki_Mo ky_Mo ko_Mo kn_Mo (by decide) kw1767 rfl rfl rfl rfl (by decide) kd_Mo_load_261 rfl ?_
    refine zk_aload_n C kd_Mo_load_264 rfl 0 rfl rfl ?_
    refine zk_iconst (v := 0) C kd_Mo_load_265 (by decide) rfl ?_
    refine zs_put (ty := .int) C 68 85 0 rfl rfl rfl rfl ki_Mo ky_Mo ko_Mo kn_Mo (by decide) kw1768 rfl rfl rfl rfl (by decide) kd_Mo_load_266 rfl ?_
    refine zk_aload_n C kd_Mo_load_269 rfl 0 rfl rfl ?_
    obtain ⟨h4, c3, e⟩ := zd_b e
    refine zs_callV (k := 68) (rn := { frames := 403, cells := 0, slots := 0, locals := 10070 }) (As := []) (rest := []) C (zc_Mo_anew (zs_uF (zs_uF (zs_uF (zs_uF (zs_uF h 68 82 y0) 68 73 0) 68 74 0) 68 84 0) 68 85 0) c3) ku_Mo_anew kw2699 kv_Mo_anew rfl ⟨by show 403 + 1 ≤ 1809; decide, by show 8 + (1 + 11) + (10070) ≤ 46205; decide⟩ ⟨by show 8 * K + 0 ≤ 8 * K; omega, by show 28 * K + 0 ≤ 28 * K; omega⟩ rfl rfl rfl (Nat.le_of_ble_eq_true rfl) kd_Mo_load_270 rfl (c1 := 8 * K) (s1 := 28 * K) rfl rfl (fun v w hp => ?_)
    obtain ⟨rfl, rfl⟩ := hp
    refine zk_stk (r' := []) rfl ?_
    refine zk_lvs (lv' := [(0, .ref (S.1 68))]) [0] rfl ?_
    exact zb_Mo_load_273 C hR h4 e
set_option maxHeartbeats 4000000 in
set_option maxRecDepth 100000 in
theorem zb_Mo_load_226 {X : zkj_T} {S : zs_T} {P : ze_T} {l : Launch} {D : va_G} {sz0 : Nat} {K : Nat} {rv : Int32} {rh : zs_H} (C : zk_C X km_Mo_load (zs_G S l D sz0) { frames := 1809, cells := 8 * K, slots := 28 * K, locals := 46205 } (ze_E P)) (hR : zkj_R X (zd_PI S rv rh) (some .int)) (h : zs_H) (e : f_Mo_load_226 h = some (rv, rh)) : zk_Ab X (zs_W S h) (8 * K) (28 * K) 226 [(0, .ref (S.1 68))] [] := by
  unfold f_Mo_load_226 at e
  refine zk_aload_n C kd_Mo_load_226 rfl 0 rfl rfl ?_
  refine zk_aload_n C kd_Mo_load_227 rfl 0 rfl rfl ?_
  refine zs_get (v := .int (h.1 68 80)) C 68 80 rfl rfl rfl rfl ki_Mo (by decide) kw1763 kd_Mo_load_228 rfl ?_
  refine zk_if_ne (tgt := 238) C kd_Mo_load_231 (by decide) rfl (fun b1 => ?_) (fun b1 => ?_)
  · replace e := zd_neg b1 e
    refine zk_iconst (v := 0) C kd_Mo_load_238 (by decide) rfl ?_
    refine zk_lvs (lv' := [(0, .ref (S.1 68))]) [0] rfl ?_
    exact zb_Mo_load_239 C hR h 0 e
  · replace e := zd_pos b1 e
    refine zk_iconst (v := 1) C kd_Mo_load_234 (by decide) rfl ?_
    refine zk_goto (tgt := 239) C kd_Mo_load_235 (by decide) ?_
    refine zk_lvs (lv' := [(0, .ref (S.1 68))]) [0] rfl ?_
    exact zb_Mo_load_239 C hR h 1 e
set_option maxHeartbeats 4000000 in
set_option maxRecDepth 100000 in
theorem zb_Mo_load_180 {X : zkj_T} {S : zs_T} {P : ze_T} {l : Launch} {D : va_G} {sz0 : Nat} {K : Nat} {rv : Int32} {rh : zs_H} (C : zk_C X km_Mo_load (zs_G S l D sz0) { frames := 1809, cells := 8 * K, slots := 28 * K, locals := 46205 } (ze_E P)) (hR : zkj_R X (zd_PI S rv rh) (some .int)) (h : zs_H) (x1 : Int32) (e : f_Mo_load_180 h x1 = some (rv, rh)) : zk_Ab X (zs_W S h) (8 * K) (28 * K) 180 [(0, .ref (S.1 68)), (1, .int x1)] [] := by
  unfold f_Mo_load_180 at e
  refine zk_aload_n C kd_Mo_load_180 rfl 0 rfl rfl ?_
  refine zs_get (v := .int (h.1 68 80)) C 68 80 rfl rfl rfl rfl ki_Mo (by decide) kw1763 kd_Mo_load_181 rfl ?_
  refine zk_if_ne (tgt := 226) C kd_Mo_load_184 (by decide) rfl (fun b1 => ?_) (fun b1 => ?_)
  · replace e := zd_neg b1 e
    refine zk_lvs (lv' := [(0, .ref (S.1 68))]) [0] rfl ?_
    exact zb_Mo_load_226 C hR h e
  · replace e := zd_pos b1 e
    refine zk_aload_n C kd_Mo_load_187 rfl 0 rfl rfl ?_
    refine zs_get (v := .ref (S.1 109)) C 68 65 rfl rfl rfl rfl ki_Mo (by decide) kw1748 kd_Mo_load_188 rfl ?_
    refine zk_aload_n C kd_Mo_load_191 rfl 0 rfl rfl ?_
    refine zs_get (v := .int (h.1 68 33)) C 68 33 rfl rfl rfl rfl ki_Mo (by decide) kw1716 kd_Mo_load_192 rfl ?_
    refine zk_iconst (v := 1) C kd_Mo_load_195 (by decide) rfl ?_
    refine zk_isub C kd_Mo_load_196 rfl ?_
    obtain ⟨q2, e⟩ := zd_g e
    refine zs_lald C 109 rfl (zd_vp q2) kd_Mo_load_197 rfl ?_
    refine zk_iload_n C kd_Mo_load_198 rfl 1 rfl rfl ?_
    refine zk_i2l C kd_Mo_load_199 rfl ?_
    refine zk_lcmp C kd_Mo_load_200 rfl ?_
    refine zk_if_le (tgt := 226) C kd_Mo_load_201 (by decide) rfl (fun b3 => ?_) (fun b3 => ?_)
    · replace e := zd_pos (zd_cle.mp b3) e
      refine zk_lvs (lv' := [(0, .ref (S.1 68))]) [0] rfl ?_
      exact zb_Mo_load_226 C hR h e
    · replace e := zd_neg (fun z => b3 (zd_cle.mpr z)) e
      refine zk_aload_n C kd_Mo_load_204 rfl 0 rfl rfl ?_
      refine zk_bipush (v := 53) C kd_Mo_load_205 (by decide) rfl ?_
      refine zk_aload_n C kd_Mo_load_207 rfl 0 rfl rfl ?_
      refine zs_get (v := .ref (S.1 73)) C 68 16 rfl rfl rfl rfl ki_Mo (by decide) kw1699 kd_Mo_load_208 rfl ?_
      refine zk_aload_n C kd_Mo_load_211 rfl 0 rfl rfl ?_
      refine zs_get (v := .ref (S.1 84)) C 68 34 rfl rfl rfl rfl ki_Mo (by decide) kw1717 kd_Mo_load_212 rfl ?_
      refine zk_aload_n C kd_Mo_load_215 rfl 0 rfl rfl ?_
      refine zs_get (v := .int (h.1 68 33)) C 68 33 rfl rfl rfl rfl ki_Mo (by decide) kw1716 kd_Mo_load_216 rfl ?_
      refine zk_iconst (v := 1) C kd_Mo_load_219 (by decide) rfl ?_
      refine zk_isub C kd_Mo_load_220 rfl ?_
      obtain ⟨q4, e⟩ := zd_g e
      refine zs_iald C 84 rfl (zd_vp q4) kd_Mo_load_221 rfl ?_
      obtain ⟨q5, e⟩ := zd_g e
      refine zs_iald C 73 rfl (zd_vp q5) kd_Mo_load_222 rfl ?_
      obtain ⟨h7, c6, e⟩ := zd_b e
      refine zs_callV (k := 68) (rn := { frames := 0, cells := 0, slots := 0, locals := 0 }) (As := [.int 53, .int (h.2.1 73 (h.2.1 84 ((h.1 68 33) - 1).toNatClampNeg).toNatClampNeg)]) (rest := []) C (zc_Mo_refuse h 53 (h.2.1 73 (h.2.1 84 ((h.1 68 33) - 1).toNatClampNeg).toNatClampNeg) c6) ku_Mo_refuse kw2660 kv_Mo_refuse rfl ⟨by show 0 + 1 ≤ 1809; decide, by show 8 + (3 + 11) + (0) ≤ 46205; decide⟩ ⟨by show 8 * K + 0 ≤ 8 * K; omega, by show 28 * K + 0 ≤ 28 * K; omega⟩ rfl rfl rfl (Nat.le_of_ble_eq_true rfl) kd_Mo_load_223 rfl (c1 := 8 * K) (s1 := 28 * K) rfl rfl (fun v w hp => ?_)
      obtain ⟨rfl, rfl⟩ := hp
      refine zk_stk (r' := []) rfl ?_
      refine zk_lvs (lv' := [(0, .ref (S.1 68))]) [0] rfl ?_
      exact zb_Mo_load_226 C hR h7 e
set_option maxHeartbeats 4000000 in
set_option maxRecDepth 100000 in
theorem zb_Mo_load_90 {X : zkj_T} {S : zs_T} {P : ze_T} {l : Launch} {D : va_G} {sz0 : Nat} {K : Nat} {rv : Int32} {rh : zs_H} (C : zk_C X km_Mo_load (zs_G S l D sz0) { frames := 1809, cells := 8 * K, slots := 28 * K, locals := 46205 } (ze_E P)) (hR : zkj_R X (zd_PI S rv rh) (some .int)) {k90 : zs_H → Int32 → Int32 → (Option (Int32 × zs_H))} (hk90 : ∀ (h : zs_H) (x1 : Int32) (x2 : Int32), k90 h x1 x2 = some (rv, rh) → zk_Ab X (zs_W S h) (8 * K) (28 * K) 90 [(0, .ref (S.1 68)), (1, .int x1), (2, .int x2)] []) (h : zs_H) (x1 : Int32) (x2 : Int32) (e : f_Mo_load_90 k90 h x1 x2 = some (rv, rh)) : zk_Ab X (zs_W S h) (8 * K) (28 * K) 90 [(0, .ref (S.1 68)), (1, .int x1), (2, .int x2)] [] := by
  unfold f_Mo_load_90 at e
  refine zk_iload_n C kd_Mo_load_90 rfl 2 rfl rfl ?_
  refine zk_aload_n C kd_Mo_load_91 rfl 0 rfl rfl ?_
  refine zs_get (v := .int (h.1 68 33)) C 68 33 rfl rfl rfl rfl ki_Mo (by decide) kw1716 kd_Mo_load_92 rfl ?_
  refine zk_icmp_ge (tgt := 180) C kd_Mo_load_95 (by decide) rfl (fun b1 => ?_) (fun b1 => ?_)
  · replace e := zd_pos b1 e
    refine zk_lvs (lv' := [(0, .ref (S.1 68)), (1, .int x1)]) [0, 1] rfl ?_
    exact zb_Mo_load_180 C hR h x1 e
  · replace e := zd_neg b1 e
    refine zk_aload_n C kd_Mo_load_98 rfl 0 rfl rfl ?_
    refine zs_get (v := .int (h.1 68 80)) C 68 80 rfl rfl rfl rfl ki_Mo (by decide) kw1763 kd_Mo_load_99 rfl ?_
    refine zk_if_ne (tgt := 180) C kd_Mo_load_102 (by decide) rfl (fun b2 => ?_) (fun b2 => ?_)
    · replace e := zd_neg b2 e
      refine zk_lvs (lv' := [(0, .ref (S.1 68)), (1, .int x1)]) [0, 1] rfl ?_
      exact zb_Mo_load_180 C hR h x1 e
    · replace e := zd_pos b2 e
      refine zk_aload_n C kd_Mo_load_105 rfl 0 rfl rfl ?_
      refine zk_iload_n C kd_Mo_load_106 rfl 2 rfl rfl ?_
      obtain ⟨v4, h5, c3, e⟩ := zd_Be e
      refine zs_callV (k := 68) (rn := { frames := 2, cells := 0, slots := 0, locals := 44 }) (As := [.int x2]) (rest := []) C (zc_Mo_isDeep h x2 c3) ku_Mo_isDeep kw2664 kv_Mo_isDeep rfl ⟨by show 2 + 1 ≤ 1809; decide, by show 8 + (7 + 11) + (44) ≤ 46205; decide⟩ ⟨by show 8 * K + 0 ≤ 8 * K; omega, by show 28 * K + 0 ≤ 28 * K; omega⟩ rfl rfl rfl (Nat.le_of_ble_eq_true rfl) kd_Mo_load_107 rfl (c1 := 8 * K) (s1 := 28 * K) rfl rfl (fun v w hp => ?_)
      obtain ⟨rfl, rfl, z6⟩ := hp
      refine zk_stk (r' := [.int v4]) rfl ?_
      refine zk_if_eq (tgt := 133) C kd_Mo_load_110 (by decide) rfl (fun b7 => ?_) (fun b7 => ?_)
      · replace e := zd_pos b7 e
        refine zk_aload_n C kd_Mo_load_133 rfl 0 rfl rfl ?_
        refine zs_get (v := .ref (S.1 109)) C 68 65 rfl rfl rfl rfl ki_Mo (by decide) kw1748 kd_Mo_load_134 rfl ?_
        refine zk_iload_n C kd_Mo_load_137 rfl 2 rfl rfl ?_
        refine zk_aload_n C kd_Mo_load_138 rfl 0 rfl rfl ?_
        refine zk_iload_n C kd_Mo_load_139 rfl 2 rfl rfl ?_
        obtain ⟨v9, h10, c8, e⟩ := zd_Be e
        refine zs_callV (k := 68) (rn := { frames := 4, cells := 0, slots := 0, locals := 105 }) (As := [.int x2]) (rest := [.int x2, .ref (S.1 109)]) C (zc_Mo_sumOf h5 x2 c8) ku_Mo_sumOf kw2680 kv_Mo_sumOf rfl ⟨by show 4 + 1 ≤ 1809; decide, by show 8 + (6 + 11) + (105) ≤ 46205; decide⟩ ⟨by show 8 * K + 0 ≤ 8 * K; omega, by show 28 * K + 0 ≤ 28 * K; omega⟩ rfl rfl rfl (Nat.le_of_ble_eq_true rfl) kd_Mo_load_140 rfl (c1 := 8 * K) (s1 := 28 * K) rfl rfl (fun v w hp => ?_)
        obtain ⟨rfl, rfl⟩ := hp
        refine zk_stk (r' := [.long v9, .int x2, .ref (S.1 109)]) rfl ?_
        obtain ⟨q11, e⟩ := zd_g e
        refine zs_last C 109 rfl (zd_vp q11) kd_Mo_load_143 rfl ?_
        refine zk_aload_n C kd_Mo_load_144 rfl 0 rfl rfl ?_
        refine zs_get (v := .ref (S.1 109)) C 68 65 rfl rfl rfl rfl ki_Mo (by decide) kw1748 kd_Mo_load_145 rfl ?_
        refine zk_iload_n C kd_Mo_load_148 rfl 2 rfl rfl ?_
        refine zs_lald C 109 rfl (zd_vp q11) kd_Mo_load_149 rfl ?_
        refine zk_stk (r' := [.long v9]) (by simp only [zd_mm, zd_ll]) ?_
        refine zk_ldc2 (v := 1000000000) C kw2698 kd_Mo_load_150 rfl ?_
        refine zk_lcmp C kd_Mo_load_153 rfl ?_
        refine zk_if_le (tgt := 174) C kd_Mo_load_154 (by decide) rfl (fun b12 => ?_) (fun b12 => ?_)
        · replace e := zd_pos (zd_cle.mp b12) e
          refine zk_lvs (lv' := [(0, .ref (S.1 68)), (1, .int x1), (2, .int x2)]) [0, 1, 2] rfl ?_
          exact zb_Mo_load_174 C hR hk90 (zs_uL h10 109 x2.toNatClampNeg v9) x1 x2 e
        · replace e := zd_neg (fun z => b12 (zd_cle.mpr z)) e
          refine zk_aload_n C kd_Mo_load_157 rfl 0 rfl rfl ?_
          refine zk_bipush (v := 52) C kd_Mo_load_158 (by decide) rfl ?_
          refine zk_aload_n C kd_Mo_load_160 rfl 0 rfl rfl ?_
          refine zs_get (v := .ref (S.1 73)) C 68 16 rfl rfl rfl rfl ki_Mo (by decide) kw1699 kd_Mo_load_161 rfl ?_
          refine zk_aload_n C kd_Mo_load_164 rfl 0 rfl rfl ?_
          refine zs_get (v := .ref (S.1 84)) C 68 34 rfl rfl rfl rfl ki_Mo (by decide) kw1717 kd_Mo_load_165 rfl ?_
          refine zk_iload_n C kd_Mo_load_168 rfl 2 rfl rfl ?_
          obtain ⟨q13, e⟩ := zd_g e
          refine zs_iald C 84 rfl (zd_vp q13) kd_Mo_load_169 rfl ?_
          refine zk_stk (r' := [.int (h10.2.1 84 x2.toNatClampNeg), .ref (S.1 73), .int 52, .ref (S.1 68)]) rfl ?_
          obtain ⟨q14, e⟩ := zd_g e
          refine zs_iald C 73 rfl (zd_vp q14) kd_Mo_load_170 rfl ?_
          refine zk_stk (r' := [.int (h10.2.1 73 (h10.2.1 84 x2.toNatClampNeg).toNatClampNeg), .int 52, .ref (S.1 68)]) rfl ?_
          obtain ⟨h16, c15, e⟩ := zd_b e
          refine zs_callV (k := 68) (rn := { frames := 0, cells := 0, slots := 0, locals := 0 }) (As := [.int 52, .int (h10.2.1 73 (h10.2.1 84 x2.toNatClampNeg).toNatClampNeg)]) (rest := []) C (zc_Mo_refuse (zs_uL h10 109 x2.toNatClampNeg v9) 52 (h10.2.1 73 (h10.2.1 84 x2.toNatClampNeg).toNatClampNeg) c15) ku_Mo_refuse kw2660 kv_Mo_refuse rfl ⟨by show 0 + 1 ≤ 1809; decide, by show 8 + (3 + 11) + (0) ≤ 46205; decide⟩ ⟨by show 8 * K + 0 ≤ 8 * K; omega, by show 28 * K + 0 ≤ 28 * K; omega⟩ rfl rfl rfl (Nat.le_of_ble_eq_true rfl) kd_Mo_load_171 rfl (c1 := 8 * K) (s1 := 28 * K) rfl rfl (fun v w hp => ?_)
          obtain ⟨rfl, rfl⟩ := hp
          refine zk_stk (r' := []) rfl ?_
          refine zk_lvs (lv' := [(0, .ref (S.1 68)), (1, .int x1), (2, .int x2)]) [0, 1, 2] rfl ?_
          exact zb_Mo_load_174 C hR hk90 h16 x1 x2 e
      · replace e := zd_neg b7 e
        refine zk_aload_n C kd_Mo_load_113 rfl 0 rfl rfl ?_
        refine zk_bipush (v := 51) C kd_Mo_load_114 (by decide) rfl ?_
        refine zk_aload_n C kd_Mo_load_116 rfl 0 rfl rfl ?_
        refine zs_get (v := .ref (S.1 73)) C 68 16 rfl rfl rfl rfl ki_Mo (by decide) kw1699 kd_Mo_load_117 rfl ?_
        refine zk_aload_n C kd_Mo_load_120 rfl 0 rfl rfl ?_
        refine zs_get (v := .ref (S.1 84)) C 68 34 rfl rfl rfl rfl ki_Mo (by decide) kw1717 kd_Mo_load_121 rfl ?_
        refine zk_iload_n C kd_Mo_load_124 rfl 2 rfl rfl ?_
        obtain ⟨q17, e⟩ := zd_g e
        refine zs_iald C 84 rfl (zd_vp q17) kd_Mo_load_125 rfl ?_
        obtain ⟨q18, e⟩ := zd_g e
        refine zs_iald C 73 rfl (zd_vp q18) kd_Mo_load_126 rfl ?_
        obtain ⟨h20, c19, e⟩ := zd_b e
        refine zs_callV (k := 68) (rn := { frames := 0, cells := 0, slots := 0, locals := 0 }) (As := [.int 51, .int (h5.2.1 73 (h5.2.1 84 x2.toNatClampNeg).toNatClampNeg)]) (rest := []) C (zc_Mo_refuse h5 51 (h5.2.1 73 (h5.2.1 84 x2.toNatClampNeg).toNatClampNeg) c19) ku_Mo_refuse kw2660 kv_Mo_refuse rfl ⟨by show 0 + 1 ≤ 1809; decide, by show 8 + (3 + 11) + (0) ≤ 46205; decide⟩ ⟨by show 8 * K + 0 ≤ 8 * K; omega, by show 28 * K + 0 ≤ 28 * K; omega⟩ rfl rfl rfl (Nat.le_of_ble_eq_true rfl) kd_Mo_load_127 rfl (c1 := 8 * K) (s1 := 28 * K) rfl rfl (fun v w hp => ?_)
        obtain ⟨rfl, rfl⟩ := hp
        refine zk_stk (r' := []) rfl ?_
        refine zk_goto (tgt := 174) C kd_Mo_load_130 (by decide) ?_
        refine zk_lvs (lv' := [(0, .ref (S.1 68)), (1, .int x1), (2, .int x2)]) [0, 1, 2] rfl ?_
        exact zb_Mo_load_174 C hR hk90 h20 x1 x2 e
theorem zl_Mo_load_90 {X : zkj_T} {S : zs_T} {P : ze_T} {l : Launch} {D : va_G} {sz0 : Nat} {K : Nat} {rv : Int32} {rh : zs_H} (C : zk_C X km_Mo_load (zs_G S l D sz0) { frames := 1809, cells := 8 * K, slots := 28 * K, locals := 46205 } (ze_E P)) (hR : zkj_R X (zd_PI S rv rh) (some .int)) (n : Nat) : ∀ (h : zs_H) (x1 : Int32) (x2 : Int32), f_Mo_load_L90 n h x1 x2 = some (rv, rh) → zk_Ab X (zs_W S h) (8 * K) (28 * K) 90 [(0, .ref (S.1 68)), (1, .int x1), (2, .int x2)] [] := by
  induction n with
  | zero => intro h x1 x2 e; exact zd_no e
  | succ n ih => intro h x1 x2 e; exact zb_Mo_load_90 (k90 := f_Mo_load_L90  n) C hR ih h x1 x2 e
set_option maxHeartbeats 4000000 in
set_option maxRecDepth 100000 in
theorem zb_Mo_load_88 {X : zkj_T} {S : zs_T} {P : ze_T} {l : Launch} {D : va_G} {sz0 : Nat} {K : Nat} {rv : Int32} {rh : zs_H} (C : zk_C X km_Mo_load (zs_G S l D sz0) { frames := 1809, cells := 8 * K, slots := 28 * K, locals := 46205 } (ze_E P)) (hR : zkj_R X (zd_PI S rv rh) (some .int)) (h : zs_H) (x1 : Int32) (e : f_Mo_load_88 h x1 = some (rv, rh)) : zk_Ab X (zs_W S h) (8 * K) (28 * K) 88 [(0, .ref (S.1 68)), (1, .int x1)] [] := by
  unfold f_Mo_load_88 at e
  refine zk_iconst (v := 0) C kd_Mo_load_88 (by decide) rfl ?_
  refine zk_istore_n (lv' := [(2, _), (0, _), (1, _)]) C kd_Mo_load_89 rfl (by decide) rfl rfl ?_
  refine zk_lvs (lv' := [(0, .ref (S.1 68)), (1, .int x1), (2, .int 0)]) [1, 2, 0] rfl ?_
  exact zl_Mo_load_90 C hR zF h x1 0 e
set_option maxHeartbeats 4000000 in
set_option maxRecDepth 100000 in
theorem zb_Mo_load_25 {X : zkj_T} {S : zs_T} {P : ze_T} {l : Launch} {D : va_G} {sz0 : Nat} {K : Nat} {Pz : zs_H → Prop} {rv : Int32} {rh : zs_H} (HK : jk_H K Pz) (C : zk_C X km_Mo_load (zs_G S l D sz0) { frames := 1809, cells := 8 * K, slots := 28 * K, locals := 46205 } (ze_E P)) (hR : zkj_R X (zd_PI S rv rh) (some .int)) {k25 : zs_H → Int32 → Int32 → (Option (Int32 × zs_H))} {kq : zs_H → Int32 → Option zs_H} (hk25 : ∀ (h : zs_H) (x1 : Int32) (x2 : Int32), (∀ g, kq h x2 = some g → jk_J Pz g) → k25 h x1 x2 = some (rv, rh) → zk_Ab X (zs_W S h) 0 0 25 [(0, .ref (S.1 68)), (1, .int x1), (2, .int x2)] []) (h : zs_H) (x1 : Int32) (x2 : Int32) (hJ : ∀ g, jl_25 kq h x2 = some g → jk_J Pz g) (e : f_Mo_load_25 k25 h x1 x2 = some (rv, rh)) : zk_Ab X (zs_W S h) 0 0 25 [(0, .ref (S.1 68)), (1, .int x1), (2, .int x2)] [] := by
  unfold f_Mo_load_25 at e
  refine zk_iload_n C kd_Mo_load_25 rfl 2 rfl rfl ?_
  refine zk_aload_n C kd_Mo_load_26 rfl 0 rfl rfl ?_
  refine zs_get (v := .int (h.1 68 1)) C 68 1 rfl rfl rfl rfl ki_Mo (by decide) kw1684 kd_Mo_load_27 rfl ?_
  refine zk_icmp_ge (tgt := 51) C kd_Mo_load_30 (by decide) rfl (fun b1 => ?_) (fun b1 => ?_)
  · replace e := zd_pos b1 e
    refine zk_aload_n C kd_Mo_load_51 rfl 0 rfl rfl ?_
    refine zk_aload_n C kd_Mo_load_52 rfl 0 rfl rfl ?_
    obtain ⟨v3, h4, c2, e⟩ := zd_Be e
    refine zs_callV (k := 68) (rn := { frames := 1208, cells := 8 * K, slots := 28 * K, locals := 29389 }) (As := []) (rest := [.ref (S.1 68)]) C (zc_Mo_judge HK h (hJ h (if_pos b1)) c2) ku_Mo_judge kw1993 kv_Mo_judge rfl ⟨by show 1208 + 1 ≤ 1809; decide, by show 8 + (2 + 11) + (29389) ≤ 46205; decide⟩ ⟨by show 0 + 8 * K ≤ 8 * K; omega, by show 0 + 28 * K ≤ 28 * K; omega⟩ rfl rfl rfl (Nat.le_of_ble_eq_true rfl) kd_Mo_load_53 rfl (c1 := 8 * K) (s1 := 28 * K) (Nat.zero_add _) (Nat.zero_add _) (fun v w hp => ?_)
    obtain ⟨rfl, rfl⟩ := hp
    refine zk_stk (r' := [.int v3, .ref (S.1 68)]) rfl ?_
    refine zs_put (ty := .int) C 68 80 v3 rfl rfl rfl rfl ki_Mo ky_Mo ko_Mo kn_Mo (by decide) kw1763 rfl rfl rfl rfl (by decide) kd_Mo_load_56 rfl ?_
    refine zk_aload_n C kd_Mo_load_59 rfl 0 rfl rfl ?_
    refine zk_aload_n C kd_Mo_load_60 rfl 0 rfl rfl ?_
    refine zs_get (v := .int (h4.1 68 30)) C 68 30 rfl rfl rfl rfl ki_Mo (by decide) kw1713 kd_Mo_load_61 rfl ?_
    refine zs_put (ty := .int) C 68 81 (h4.1 68 30) rfl rfl rfl rfl ki_Mo ky_Mo ko_Mo kn_Mo (by decide) kw1764 rfl rfl rfl rfl (by decide) kd_Mo_load_64 rfl ?_
    refine zk_aload_n C kd_Mo_load_67 rfl 0 rfl rfl ?_
    refine zs_get (v := .int v3) C 68 80 rfl rfl rfl rfl ki_Mo (by decide) kw1763 kd_Mo_load_68 rfl ?_
    refine zk_if_ne (tgt := 88) C kd_Mo_load_71 (by decide) rfl (fun b5 => ?_) (fun b5 => ?_)
    · replace e := zd_neg b5 e
      refine zk_lvs (lv' := [(0, .ref (S.1 68)), (1, .int x1)]) [0, 1] rfl ?_
      exact zb_Mo_load_88 C hR (zs_uF (zs_uF h4 68 80 v3) 68 81 (h4.1 68 30)) x1 e
    · replace e := zd_pos b5 e
      refine zk_aload_n C kd_Mo_load_74 rfl 0 rfl rfl ?_
      obtain ⟨v7, h8, c6, e⟩ := zd_Be e
      refine zs_callV (k := 68) (rn := { frames := 1808, cells := 0, slots := 0, locals := 46183 }) (As := []) (rest := []) C (zc_Mo_generate (zs_uF (zs_uF h4 68 80 v3) 68 81 (h4.1 68 30)) c6) ku_Mo_generate kw2516 kv_Mo_generate rfl ⟨by show 1808 + 1 ≤ 1809; decide, by show 8 + (3 + 11) + (46183) ≤ 46205; decide⟩ ⟨by show 8 * K + 0 ≤ 8 * K; omega, by show 28 * K + 0 ≤ 28 * K; omega⟩ rfl rfl rfl (Nat.le_of_ble_eq_true rfl) kd_Mo_load_75 rfl (c1 := 8 * K) (s1 := 28 * K) rfl rfl (fun v w hp => ?_)
      obtain ⟨rfl, rfl, z9⟩ := hp
      refine zk_stk (r' := [.int v7]) rfl ?_
      refine zk_if_ne (tgt := 88) C kd_Mo_load_78 (by decide) rfl (fun b10 => ?_) (fun b10 => ?_)
      · replace e := zd_neg b10 e
        refine zk_lvs (lv' := [(0, .ref (S.1 68)), (1, .int x1)]) [0, 1] rfl ?_
        exact zb_Mo_load_88 C hR h8 x1 e
      · replace e := zd_pos b10 e
        refine zk_aload_n C kd_Mo_load_81 rfl 0 rfl rfl ?_
        refine zk_bipush (v := 50) C kd_Mo_load_82 (by decide) rfl ?_
        refine zk_iconst (v := 0) C kd_Mo_load_84 (by decide) rfl ?_
        obtain ⟨h12, c11, e⟩ := zd_b e
        refine zs_callV (k := 68) (rn := { frames := 0, cells := 0, slots := 0, locals := 0 }) (As := [.int 50, .int 0]) (rest := []) C (zc_Mo_refuse h8 50 0 c11) ku_Mo_refuse kw2660 kv_Mo_refuse rfl ⟨by show 0 + 1 ≤ 1809; decide, by show 8 + (3 + 11) + (0) ≤ 46205; decide⟩ ⟨by show 8 * K + 0 ≤ 8 * K; omega, by show 28 * K + 0 ≤ 28 * K; omega⟩ rfl rfl rfl (Nat.le_of_ble_eq_true rfl) kd_Mo_load_85 rfl (c1 := 8 * K) (s1 := 28 * K) rfl rfl (fun v w hp => ?_)
        obtain ⟨rfl, rfl⟩ := hp
        refine zk_stk (r' := []) rfl ?_
        refine zk_lvs (lv' := [(0, .ref (S.1 68)), (1, .int x1)]) [0, 1] rfl ?_
        exact zb_Mo_load_88 C hR h12 x1 e
  · replace e := zd_neg b1 e
    refine zk_aload_n C kd_Mo_load_33 rfl 0 rfl rfl ?_
    refine zs_get (v := .ref (S.1 69)) C 68 2 rfl rfl rfl rfl ki_Mo (by decide) kw1685 kd_Mo_load_34 rfl ?_
    refine zk_iload_n C kd_Mo_load_37 rfl 2 rfl rfl ?_
    refine zk_aload_n C kd_Mo_load_38 rfl 0 rfl rfl ?_
    refine zs_get (v := .ref (S.1 116)) C 68 79 rfl rfl rfl rfl ki_Mo (by decide) kw1762 kd_Mo_load_39 rfl ?_
    refine zk_iload_n C kd_Mo_load_42 rfl 2 rfl rfl ?_
    obtain ⟨q13, e⟩ := zd_g e
    refine zs_bald C 116 rfl (zd_vp q13) kd_Mo_load_43 rfl ?_
    refine zs_bast C 69 rfl (zd_vp q13) kd_Mo_load_44 rfl ?_
    refine zk_iinc (v := (x2 + 1)) (lv' := [(2, _), (0, _), (1, _)]) C kd_Mo_load_45 2 rfl rfl (by decide) rfl rfl ?_
    refine zk_goto (tgt := 25) C kd_Mo_load_48 (by decide) ?_
    refine zk_lvs (lv' := [(0, .ref (S.1 68)), (1, .int x1), (2, .int (x2 + 1))]) [1, 2, 0] rfl ?_
    exact hk25 (zs_uM h 69 x2.toNatClampNeg (vp_nar .byte (h.2.1 116 x2.toNatClampNeg))) x1 (x2 + 1) (fun g q => hJ g (by unfold jl_25; rw [if_neg b1, if_pos q13]; exact q)) e
theorem zl_Mo_load_25 {X : zkj_T} {S : zs_T} {P : ze_T} {l : Launch} {D : va_G} {sz0 : Nat} {K : Nat} {Pz : zs_H → Prop} {rv : Int32} {rh : zs_H} (HK : jk_H K Pz) (C : zk_C X km_Mo_load (zs_G S l D sz0) { frames := 1809, cells := 8 * K, slots := 28 * K, locals := 46205 } (ze_E P)) (hR : zkj_R X (zd_PI S rv rh) (some .int)) (n : Nat) : ∀ (h : zs_H) (x1 : Int32) (x2 : Int32), (∀ g, jl_L25 n h x2 = some g → jk_J Pz g) → f_Mo_load_L25 n h x1 x2 = some (rv, rh) → zk_Ab X (zs_W S h) 0 0 25 [(0, .ref (S.1 68)), (1, .int x1), (2, .int x2)] [] := by
  induction n with
  | zero => intro h x1 x2 hJ e; exact zd_no e
  | succ n ih => intro h x1 x2 hJ e; exact zb_Mo_load_25 (k25 := f_Mo_load_L25 n) (kq := jl_L25 n) HK C hR ih h x1 x2 hJ e
set_option maxHeartbeats 4000000 in
set_option maxRecDepth 100000 in
theorem zc_Mo_load {l : Launch} {D : va_G} {sz0 : Nat} {K : Nat} {Pz : zs_H → Prop} {S : zs_T} {P : ze_T} (HK : jk_H K Pz) (h : zs_H) (x1 : Int32) (hJ : ¬ x1 < 100 → x1 ≤ 100000 → ∀ v h5 g, f_Mo_useTape h = some (v, h5) → jl_L25 zF (zs_uF h5 68 1 v) 0 = some g → jk_J Pz g) {rv : Int32} {rh : zs_H} (e : f_Mo_load h x1 = some (rv, rh)) : zk_Sp (zs_G S l D sz0) (ze_E P) km_Mo_load { frames := 1809, cells := 8 * K, slots := 28 * K, locals := 46205 } [.ref (S.1 68), .int x1] (zs_W S h) (zd_PI S rv rh) := by
  refine zk_met ku_Mo_load (Nat.le_of_ble_eq_true rfl) (ze_Em P) ?_
  intro X C hR
  refine zk_lvs (lv' := [(0, .ref (S.1 68)), (1, .int x1)]) [0, 1] rfl ?_
  unfold f_Mo_load at e
  refine zk_iload_n C kd_Mo_load_0 rfl 1 rfl rfl ?_
  refine zk_bipush (v := 100) C kd_Mo_load_1 (by decide) rfl ?_
  refine zk_icmp_lt (tgt := 13) C kd_Mo_load_3 (by decide) rfl (fun b1 => ?_) (fun b1 => ?_)
  · replace e := zd_pos b1 e
    refine zk_iconst (v := (-1)) C kd_Mo_load_13 (by decide) rfl ?_
    refine zk_widen (c1 := 8 * K) (s1 := 28 * K) (by omega) (by omega) ?_
    exact zk_iret C hR kd_Mo_load_14 rfl rfl (zd_rIS e)
  · replace e := zd_neg b1 e
    refine zk_iload_n C kd_Mo_load_6 rfl 1 rfl rfl ?_
    refine zk_ldcw (v := 100000) C kw1988 kd_Mo_load_7 rfl ?_
    refine zk_icmp_le (tgt := 15) C kd_Mo_load_10 (by decide) rfl (fun b2 => ?_) (fun b2 => ?_)
    · replace e := zd_pos b2 e
      refine zk_aload_n C kd_Mo_load_15 rfl 0 rfl rfl ?_
      refine zk_aload_n C kd_Mo_load_16 rfl 0 rfl rfl ?_
      obtain ⟨v4, h5, c3, e⟩ := zd_Be e
      refine zs_callV (k := 68) (rn := { frames := 0, cells := 0, slots := 0, locals := 0 }) (As := []) (rest := [.ref (S.1 68)]) C (zc_Mo_useTape h c3) ku_Mo_useTape kw1989 kv_Mo_useTape rfl ⟨by show 0 + 1 ≤ 1809; decide, by show 8 + (2 + 11) + (0) ≤ 46205; decide⟩ ⟨by show 0 + 0 ≤ 8 * K; omega, by show 0 + 0 ≤ 28 * K; omega⟩ rfl rfl rfl (Nat.le_of_ble_eq_true rfl) kd_Mo_load_17 rfl (c1 := 0) (s1 := 0) rfl rfl (fun v w hp => ?_)
      obtain ⟨rfl, rfl⟩ := hp
      refine zk_stk (r' := [.int v4, .ref (S.1 68)]) rfl ?_
      refine zs_put (ty := .int) C 68 1 v4 rfl rfl rfl rfl ki_Mo ky_Mo ko_Mo kn_Mo (by decide) kw1684 rfl rfl rfl rfl (by decide) kd_Mo_load_20 rfl ?_
      refine zk_iconst (v := 0) C kd_Mo_load_23 (by decide) rfl ?_
      refine zk_istore_n (lv' := [(2, _), (0, _), (1, _)]) C kd_Mo_load_24 rfl (by decide) rfl rfl ?_
      refine zk_lvs (lv' := [(0, .ref (S.1 68)), (1, .int x1), (2, .int 0)]) [1, 2, 0] rfl ?_
      exact zl_Mo_load_25 HK C hR zF (zs_uF h5 68 1 v4) x1 0 (fun g q => hJ b1 b2 v4 h5 g c3 q) e
    · replace e := zd_neg b2 e
      refine zk_iconst (v := (-1)) C kd_Mo_load_13 (by decide) rfl ?_
      refine zk_widen (c1 := 8 * K) (s1 := 28 * K) (by omega) (by omega) ?_
      exact zk_iret C hR kd_Mo_load_14 rfl rfl (zd_rIS e)
