theorem kw1973 : Jvm.Cond.instanceMethod ({ cls := "PlantKeeperModel", name := "feed", desc := "(IIIII)I" } : Jvm.MethodName) ∈ zk_BW := zk_inT 1973 (by decide +kernel) rfl
theorem kw1974 : Jvm.Cond.selects "PlantKeeperModel" ({ cls := "PlantKeeperModel", name := "feed", desc := "(IIIII)I" } : Jvm.MethodName) ({ cls := "PlantKeeperModel", name := "feed", desc := "(IIIII)I" } : Jvm.MethodName) ∈ zk_BW := zk_inT 1974 (by decide +kernel) rfl
theorem kw1975 : Jvm.Cond.code ({ cls := "PlantKeeperModel", name := "feed", desc := "(IIIII)I" } : Jvm.MethodName) prog_14_method_162_code (6 : Nat) (Option.some FieldType.int) ∈ zk_BW := zk_inT 1975 (by decide +kernel) rfl
theorem kw1976 : Jvm.Cond.methodLink "PlantKeeperModel" (847 : Nat) ({ cls := "PlantKeeperModel", name := "bring", desc := "(I)V" } : Jvm.MethodName) ∈ zk_BW := zk_inT 1976 (by decide +kernel) rfl
theorem kw1978 : Jvm.Cond.instanceMethod ({ cls := "PlantKeeperModel", name := "bring", desc := "(I)V" } : Jvm.MethodName) ∈ zk_BW := zk_inT 1978 (by decide +kernel) rfl
theorem kw1979 : Jvm.Cond.code ({ cls := "PlantKeeperModel", name := "bring", desc := "(I)V" } : Jvm.MethodName) prog_14_method_161_code (3 : Nat) (Option.none : Option FieldType) ∈ zk_BW := zk_inT 1979 (by decide +kernel) rfl
theorem kw1981 : Jvm.Cond.instanceMethod ({ cls := "PlantKeeperModel", name := "end", desc := "(I)I" } : Jvm.MethodName) ∈ zk_BW := zk_inT 1981 (by decide +kernel) rfl
theorem kw1982 : Jvm.Cond.selects "PlantKeeperModel" ({ cls := "PlantKeeperModel", name := "end", desc := "(I)I" } : Jvm.MethodName) ({ cls := "PlantKeeperModel", name := "end", desc := "(I)I" } : Jvm.MethodName) ∈ zk_BW := zk_inT 1982 (by decide +kernel) rfl
theorem kw1983 : Jvm.Cond.code ({ cls := "PlantKeeperModel", name := "end", desc := "(I)I" } : Jvm.MethodName) prog_14_method_163_code (2 : Nat) (Option.some FieldType.int) ∈ zk_BW := zk_inT 1983 (by decide +kernel) rfl
theorem kw2682 : Jvm.Cond.instanceMethod ({ cls := "PlantKeeperModel", name := "sumOf", desc := "(I)J" } : Jvm.MethodName) ∈ zk_BW := zk_inT 2682 (by decide +kernel) rfl
theorem kw2683 : Jvm.Cond.code ({ cls := "PlantKeeperModel", name := "sumOf", desc := "(I)J" } : Jvm.MethodName) prog_14_method_145_code (6 : Nat) (Option.some FieldType.long) ∈ zk_BW := zk_inT 2683 (by decide +kernel) rfl
theorem kw2684 : Jvm.Cond.methodLink "PlantKeeperModel" (780 : Nat) ({ cls := "PlantKeeperModel", name := "greatest", desc := "(IIII)J" } : Jvm.MethodName) ∈ zk_BW := zk_inT 2684 (by decide +kernel) rfl
theorem kw2686 : Jvm.Cond.instanceMethod ({ cls := "PlantKeeperModel", name := "greatest", desc := "(IIII)J" } : Jvm.MethodName) ∈ zk_BW := zk_inT 2686 (by decide +kernel) rfl
theorem kw2687 : Jvm.Cond.code ({ cls := "PlantKeeperModel", name := "greatest", desc := "(IIII)J" } : Jvm.MethodName) prog_14_method_147_code (6 : Nat) (Option.some FieldType.long) ∈ zk_BW := zk_inT 2687 (by decide +kernel) rfl
theorem kw2688 : Jvm.Cond.methodLink "PlantKeeperModel" (792 : Nat) ({ cls := "PlantKeeperModel", name := "greatestFrom", desc := "(IIII)J" } : Jvm.MethodName) ∈ zk_BW := zk_inT 2688 (by decide +kernel) rfl
abbrev kc_Mo_bring : ByteArray := prog_14_method_161_code
def km_Mo_bring : zk_MT := (⟨"PlantKeeperModel", "bring", "(I)V"⟩, kc_Mo_bring, 3, none, 1)
theorem ku_Mo_bring : zk_My km_Mo_bring := ⟨kw1979, kw17, by decide, by decide, by decide, by decide +kernel⟩
theorem kv_Mo_bring : zk_Mv km_Mo_bring := ⟨kw1978, zk_inS 146 (q := (⟨"PlantKeeperModel", "bring", "(I)V"⟩, 96)) (by decide +kernel)⟩
abbrev kc_Mo_end : ByteArray := prog_14_method_163_code
def km_Mo_end : zk_MT := (⟨"PlantKeeperModel", "end", "(I)I"⟩, kc_Mo_end, 2, some .int, 1)
theorem ku_Mo_end : zk_My km_Mo_end := ⟨kw1983, kw17, by decide, by decide, by decide, by decide +kernel⟩
theorem kv_Mo_end : zk_Mv km_Mo_end := ⟨kw1981, kw1982⟩
abbrev kc_Mo_feed : ByteArray := prog_14_method_162_code
def km_Mo_feed : zk_MT := (⟨"PlantKeeperModel", "feed", "(IIIII)I"⟩, kc_Mo_feed, 6, some .int, 5)
theorem ku_Mo_feed : zk_My km_Mo_feed := ⟨kw1975, kw17, by decide, by decide, by decide, by decide +kernel⟩
theorem kv_Mo_feed : zk_Mv km_Mo_feed := ⟨kw1973, kw1974⟩
abbrev kc_Mo_greatest : ByteArray := prog_14_method_147_code
def km_Mo_greatest : zk_MT := (⟨"PlantKeeperModel", "greatest", "(IIII)J"⟩, kc_Mo_greatest, 6, some .long, 4)
theorem ku_Mo_greatest : zk_My km_Mo_greatest := ⟨kw2687, kw17, by decide, by decide, by decide, by decide +kernel⟩
theorem kv_Mo_greatest : zk_Mv km_Mo_greatest := ⟨kw2686, zk_inS 284 (q := (⟨"PlantKeeperModel", "greatest", "(IIII)J"⟩, 96)) (by decide +kernel)⟩
abbrev kc_Mo_sumOf : ByteArray := prog_14_method_145_code
def km_Mo_sumOf : zk_MT := (⟨"PlantKeeperModel", "sumOf", "(I)J"⟩, kc_Mo_sumOf, 6, some .long, 1)
theorem ku_Mo_sumOf : zk_My km_Mo_sumOf := ⟨kw2683, kw17, by decide, by decide, by decide, by decide +kernel⟩
theorem kv_Mo_sumOf : zk_Mv km_Mo_sumOf := ⟨kw2682, zk_inS 283 (q := (⟨"PlantKeeperModel", "sumOf", "(I)J"⟩, 96)) (by decide +kernel)⟩
theorem kd_Mo_bring_0 : decode kc_Mo_bring 0 = .ok (.bipush 24, 2) := by decide +kernel
theorem kd_Mo_bring_2 : decode kc_Mo_bring 2 = .ok (.istore_n 2, 1) := by decide +kernel
theorem kd_Mo_bring_3 : decode kc_Mo_bring 3 = .ok (.iload_n 2, 1) := by decide +kernel
theorem kd_Mo_bring_4 : decode kc_Mo_bring 4 = .ok (.ifCond .lt 32, 3) := by decide +kernel
theorem kd_Mo_bring_7 : decode kc_Mo_bring 7 = .ok (.aload_n 0, 1) := by decide +kernel
theorem kd_Mo_bring_8 : decode kc_Mo_bring 8 = .ok (.getfield 156, 3) := by decide +kernel
theorem kd_Mo_bring_11 : decode kc_Mo_bring 11 = .ok (.aload_n 0, 1) := by decide +kernel
theorem kd_Mo_bring_12 : decode kc_Mo_bring 12 = .ok (.getfield 844, 3) := by decide +kernel
theorem kd_Mo_bring_15 : decode kc_Mo_bring 15 = .ok (.iload_n 1, 1) := by decide +kernel
theorem kd_Mo_bring_16 : decode kc_Mo_bring 16 = .ok (.iload_n 2, 1) := by decide +kernel
theorem kd_Mo_bring_17 : decode kc_Mo_bring 17 = .ok (.ishr, 1) := by decide +kernel
theorem kd_Mo_bring_18 : decode kc_Mo_bring 18 = .ok (.i2b, 1) := by decide +kernel
theorem kd_Mo_bring_19 : decode kc_Mo_bring 19 = .ok (.bastore, 1) := by decide +kernel
theorem kd_Mo_bring_20 : decode kc_Mo_bring 20 = .ok (.aload_n 0, 1) := by decide +kernel
theorem kd_Mo_bring_21 : decode kc_Mo_bring 21 = .ok (.dup, 1) := by decide +kernel
theorem kd_Mo_bring_22 : decode kc_Mo_bring 22 = .ok (.getfield 844, 3) := by decide +kernel
theorem kd_Mo_bring_25 : decode kc_Mo_bring 25 = .ok (.iconst 1, 1) := by decide +kernel
theorem kd_Mo_bring_26 : decode kc_Mo_bring 26 = .ok (.iadd, 1) := by decide +kernel
theorem kd_Mo_bring_27 : decode kc_Mo_bring 27 = .ok (.putfield 844, 3) := by decide +kernel
theorem kd_Mo_bring_30 : decode kc_Mo_bring 30 = .ok (.iinc 2 (-8), 3) := by decide +kernel
theorem kd_Mo_bring_33 : decode kc_Mo_bring 33 = .ok (.goto (-30), 3) := by decide +kernel
theorem kd_Mo_bring_36 : decode kc_Mo_bring 36 = .ok (.return_, 1) := by decide +kernel
theorem kd_Mo_end_0 : decode kc_Mo_end 0 = .ok (.iload_n 1, 1) := by decide +kernel
theorem kd_Mo_end_1 : decode kc_Mo_end 1 = .ok (.ifCond .lt 18, 3) := by decide +kernel
theorem kd_Mo_end_4 : decode kc_Mo_end 4 = .ok (.iload_n 1, 1) := by decide +kernel
theorem kd_Mo_end_5 : decode kc_Mo_end 5 = .ok (.bipush 20, 2) := by decide +kernel
theorem kd_Mo_end_7 : decode kc_Mo_end 7 = .ok (.if_icmp .gt 12, 3) := by decide +kernel
theorem kd_Mo_end_10 : decode kc_Mo_end 10 = .ok (.aload_n 0, 1) := by decide +kernel
theorem kd_Mo_end_11 : decode kc_Mo_end 11 = .ok (.getfield 844, 3) := by decide +kernel
theorem kd_Mo_end_14 : decode kc_Mo_end 14 = .ok (.bipush 20, 2) := by decide +kernel
theorem kd_Mo_end_16 : decode kc_Mo_end 16 = .ok (.if_icmp .ge 5, 3) := by decide +kernel
theorem kd_Mo_end_19 : decode kc_Mo_end 19 = .ok (.iconst (-1), 1) := by decide +kernel
theorem kd_Mo_end_20 : decode kc_Mo_end 20 = .ok (.ireturn, 1) := by decide +kernel
theorem kd_Mo_end_21 : decode kc_Mo_end 21 = .ok (.aload_n 0, 1) := by decide +kernel
theorem kd_Mo_end_22 : decode kc_Mo_end 22 = .ok (.aload_n 0, 1) := by decide +kernel
theorem kd_Mo_end_23 : decode kc_Mo_end 23 = .ok (.getfield 844, 3) := by decide +kernel
theorem kd_Mo_end_26 : decode kc_Mo_end 26 = .ok (.bipush 20, 2) := by decide +kernel
theorem kd_Mo_end_28 : decode kc_Mo_end 28 = .ok (.isub, 1) := by decide +kernel
theorem kd_Mo_end_29 : decode kc_Mo_end 29 = .ok (.iload_n 1, 1) := by decide +kernel
theorem kd_Mo_end_30 : decode kc_Mo_end 30 = .ok (.iadd, 1) := by decide +kernel
theorem kd_Mo_end_31 : decode kc_Mo_end 31 = .ok (.putfield 844, 3) := by decide +kernel
theorem kd_Mo_end_34 : decode kc_Mo_end 34 = .ok (.aload_n 0, 1) := by decide +kernel
theorem kd_Mo_end_35 : decode kc_Mo_end 35 = .ok (.getfield 844, 3) := by decide +kernel
theorem kd_Mo_end_38 : decode kc_Mo_end 38 = .ok (.ireturn, 1) := by decide +kernel
theorem kd_Mo_feed_0 : decode kc_Mo_feed 0 = .ok (.aload_n 0, 1) := by decide +kernel
theorem kd_Mo_feed_1 : decode kc_Mo_feed 1 = .ok (.getfield 844, 3) := by decide +kernel
theorem kd_Mo_feed_4 : decode kc_Mo_feed 4 = .ok (.bipush 20, 2) := by decide +kernel
theorem kd_Mo_feed_6 : decode kc_Mo_feed 6 = .ok (.iadd, 1) := by decide +kernel
theorem kd_Mo_feed_7 : decode kc_Mo_feed 7 = .ok (.sipush 16384, 3) := by decide +kernel
theorem kd_Mo_feed_10 : decode kc_Mo_feed 10 = .ok (.if_icmp .le 5, 3) := by decide +kernel
theorem kd_Mo_feed_13 : decode kc_Mo_feed 13 = .ok (.iconst (-1), 1) := by decide +kernel
theorem kd_Mo_feed_14 : decode kc_Mo_feed 14 = .ok (.ireturn, 1) := by decide +kernel
theorem kd_Mo_feed_15 : decode kc_Mo_feed 15 = .ok (.aload_n 0, 1) := by decide +kernel
theorem kd_Mo_feed_16 : decode kc_Mo_feed 16 = .ok (.iload_n 1, 1) := by decide +kernel
theorem kd_Mo_feed_17 : decode kc_Mo_feed 17 = .ok (.invokevirtual 847, 3) := by decide +kernel
theorem kd_Mo_feed_20 : decode kc_Mo_feed 20 = .ok (.aload_n 0, 1) := by decide +kernel
theorem kd_Mo_feed_21 : decode kc_Mo_feed 21 = .ok (.iload_n 2, 1) := by decide +kernel
theorem kd_Mo_feed_22 : decode kc_Mo_feed 22 = .ok (.invokevirtual 847, 3) := by decide +kernel
theorem kd_Mo_feed_25 : decode kc_Mo_feed 25 = .ok (.aload_n 0, 1) := by decide +kernel
theorem kd_Mo_feed_26 : decode kc_Mo_feed 26 = .ok (.iload_n 3, 1) := by decide +kernel
theorem kd_Mo_feed_27 : decode kc_Mo_feed 27 = .ok (.invokevirtual 847, 3) := by decide +kernel
theorem kd_Mo_feed_30 : decode kc_Mo_feed 30 = .ok (.aload_n 0, 1) := by decide +kernel
theorem kd_Mo_feed_31 : decode kc_Mo_feed 31 = .ok (.iload 4, 2) := by decide +kernel
theorem kd_Mo_feed_33 : decode kc_Mo_feed 33 = .ok (.invokevirtual 847, 3) := by decide +kernel
theorem kd_Mo_feed_36 : decode kc_Mo_feed 36 = .ok (.aload_n 0, 1) := by decide +kernel
theorem kd_Mo_feed_37 : decode kc_Mo_feed 37 = .ok (.iload 5, 2) := by decide +kernel
theorem kd_Mo_feed_39 : decode kc_Mo_feed 39 = .ok (.invokevirtual 847, 3) := by decide +kernel
theorem kd_Mo_feed_42 : decode kc_Mo_feed 42 = .ok (.aload_n 0, 1) := by decide +kernel
theorem kd_Mo_feed_43 : decode kc_Mo_feed 43 = .ok (.getfield 844, 3) := by decide +kernel
theorem kd_Mo_feed_46 : decode kc_Mo_feed 46 = .ok (.ireturn, 1) := by decide +kernel
theorem kd_Mo_greatest_0 : decode kc_Mo_greatest 0 = .ok (.aload_n 0, 1) := by decide +kernel
theorem kd_Mo_greatest_1 : decode kc_Mo_greatest 1 = .ok (.getfield 115, 3) := by decide +kernel
theorem kd_Mo_greatest_4 : decode kc_Mo_greatest 4 = .ok (.iload_n 1, 1) := by decide +kernel
theorem kd_Mo_greatest_5 : decode kc_Mo_greatest 5 = .ok (.iaload, 1) := by decide +kernel
theorem kd_Mo_greatest_6 : decode kc_Mo_greatest 6 = .ok (.iload_n 2, 1) := by decide +kernel
theorem kd_Mo_greatest_7 : decode kc_Mo_greatest 7 = .ok (.iadd, 1) := by decide +kernel
theorem kd_Mo_greatest_8 : decode kc_Mo_greatest 8 = .ok (.istore 5, 2) := by decide +kernel
theorem kd_Mo_greatest_10 : decode kc_Mo_greatest 10 = .ok (.aload_n 0, 1) := by decide +kernel
theorem kd_Mo_greatest_11 : decode kc_Mo_greatest 11 = .ok (.getfield 118, 3) := by decide +kernel
theorem kd_Mo_greatest_14 : decode kc_Mo_greatest 14 = .ok (.iload 5, 2) := by decide +kernel
theorem kd_Mo_greatest_16 : decode kc_Mo_greatest 16 = .ok (.iaload, 1) := by decide +kernel
theorem kd_Mo_greatest_17 : decode kc_Mo_greatest 17 = .ok (.tableswitch 169 10 18 #[75, 96, 169, 51, 61, 138, 138, 169, 75], 51) := by decide +kernel
theorem kd_Mo_greatest_68 : decode kc_Mo_greatest 68 = .ok (.aload_n 0, 1) := by decide +kernel
theorem kd_Mo_greatest_69 : decode kc_Mo_greatest 69 = .ok (.iload_n 1, 1) := by decide +kernel
theorem kd_Mo_greatest_70 : decode kc_Mo_greatest 70 = .ok (.iload_n 2, 1) := by decide +kernel
theorem kd_Mo_greatest_71 : decode kc_Mo_greatest 71 = .ok (.iload_n 3, 1) := by decide +kernel
theorem kd_Mo_greatest_72 : decode kc_Mo_greatest 72 = .ok (.iload 4, 2) := by decide +kernel
theorem kd_Mo_greatest_74 : decode kc_Mo_greatest 74 = .ok (.invokevirtual 792, 3) := by decide +kernel
theorem kd_Mo_greatest_77 : decode kc_Mo_greatest 77 = .ok (.lreturn, 1) := by decide +kernel
theorem kd_Mo_greatest_78 : decode kc_Mo_greatest 78 = .ok (.iload_n 3, 1) := by decide +kernel
theorem kd_Mo_greatest_79 : decode kc_Mo_greatest 79 = .ok (.iload 4, 2) := by decide +kernel
theorem kd_Mo_greatest_81 : decode kc_Mo_greatest 81 = .ok (.if_icmp .ne 7, 3) := by decide +kernel
theorem kd_Mo_greatest_84 : decode kc_Mo_greatest 84 = .ok (.lconst 1, 1) := by decide +kernel
theorem kd_Mo_greatest_85 : decode kc_Mo_greatest 85 = .ok (.goto 6, 3) := by decide +kernel
theorem kd_Mo_greatest_88 : decode kc_Mo_greatest 88 = .ok (.ldc2_w 262, 3) := by decide +kernel
theorem kd_Mo_greatest_91 : decode kc_Mo_greatest 91 = .ok (.lreturn, 1) := by decide +kernel
theorem kd_Mo_greatest_92 : decode kc_Mo_greatest 92 = .ok (.lconst 1, 1) := by decide +kernel
theorem kd_Mo_greatest_93 : decode kc_Mo_greatest 93 = .ok (.aload_n 0, 1) := by decide +kernel
theorem kd_Mo_greatest_94 : decode kc_Mo_greatest 94 = .ok (.getfield 147, 3) := by decide +kernel
theorem kd_Mo_greatest_97 : decode kc_Mo_greatest 97 = .ok (.bipush 62, 2) := by decide +kernel
theorem kd_Mo_greatest_99 : decode kc_Mo_greatest 99 = .ok (.aload_n 0, 1) := by decide +kernel
theorem kd_Mo_greatest_100 : decode kc_Mo_greatest 100 = .ok (.iload_n 1, 1) := by decide +kernel
theorem kd_Mo_greatest_101 : decode kc_Mo_greatest 101 = .ok (.iload_n 2, 1) := by decide +kernel
theorem kd_Mo_greatest_102 : decode kc_Mo_greatest 102 = .ok (.invokevirtual 777, 3) := by decide +kernel
theorem kd_Mo_greatest_105 : decode kc_Mo_greatest 105 = .ok (.imul, 1) := by decide +kernel
theorem kd_Mo_greatest_106 : decode kc_Mo_greatest 106 = .ok (.iload_n 3, 1) := by decide +kernel
theorem kd_Mo_greatest_107 : decode kc_Mo_greatest 107 = .ok (.iadd, 1) := by decide +kernel
theorem kd_Mo_greatest_108 : decode kc_Mo_greatest 108 = .ok (.laload, 1) := by decide +kernel
theorem kd_Mo_greatest_109 : decode kc_Mo_greatest 109 = .ok (.invokestatic 795, 3) := by decide +kernel
theorem kd_Mo_greatest_112 : decode kc_Mo_greatest 112 = .ok (.lreturn, 1) := by decide +kernel
theorem kd_Mo_greatest_113 : decode kc_Mo_greatest 113 = .ok (.lconst 1, 1) := by decide +kernel
theorem kd_Mo_greatest_114 : decode kc_Mo_greatest 114 = .ok (.aload_n 0, 1) := by decide +kernel
theorem kd_Mo_greatest_115 : decode kc_Mo_greatest 115 = .ok (.getfield 147, 3) := by decide +kernel
theorem kd_Mo_greatest_118 : decode kc_Mo_greatest 118 = .ok (.bipush 62, 2) := by decide +kernel
theorem kd_Mo_greatest_120 : decode kc_Mo_greatest 120 = .ok (.iload_n 2, 1) := by decide +kernel
theorem kd_Mo_greatest_121 : decode kc_Mo_greatest 121 = .ok (.iconst 1, 1) := by decide +kernel
theorem kd_Mo_greatest_122 : decode kc_Mo_greatest 122 = .ok (.iadd, 1) := by decide +kernel
theorem kd_Mo_greatest_123 : decode kc_Mo_greatest 123 = .ok (.imul, 1) := by decide +kernel
theorem kd_Mo_greatest_124 : decode kc_Mo_greatest 124 = .ok (.iload_n 3, 1) := by decide +kernel
theorem kd_Mo_greatest_125 : decode kc_Mo_greatest 125 = .ok (.iadd, 1) := by decide +kernel
theorem kd_Mo_greatest_126 : decode kc_Mo_greatest 126 = .ok (.laload, 1) := by decide +kernel
theorem kd_Mo_greatest_127 : decode kc_Mo_greatest 127 = .ok (.invokestatic 795, 3) := by decide +kernel
theorem kd_Mo_greatest_130 : decode kc_Mo_greatest 130 = .ok (.lconst 1, 1) := by decide +kernel
theorem kd_Mo_greatest_131 : decode kc_Mo_greatest 131 = .ok (.aload_n 0, 1) := by decide +kernel
theorem kd_Mo_greatest_132 : decode kc_Mo_greatest 132 = .ok (.getfield 147, 3) := by decide +kernel
theorem kd_Mo_greatest_135 : decode kc_Mo_greatest 135 = .ok (.bipush 62, 2) := by decide +kernel
theorem kd_Mo_greatest_137 : decode kc_Mo_greatest 137 = .ok (.aload_n 0, 1) := by decide +kernel
theorem kd_Mo_greatest_138 : decode kc_Mo_greatest 138 = .ok (.getfield 121, 3) := by decide +kernel
theorem kd_Mo_greatest_141 : decode kc_Mo_greatest 141 = .ok (.iload 5, 2) := by decide +kernel
theorem kd_Mo_greatest_143 : decode kc_Mo_greatest 143 = .ok (.iaload, 1) := by decide +kernel
theorem kd_Mo_greatest_144 : decode kc_Mo_greatest 144 = .ok (.imul, 1) := by decide +kernel
theorem kd_Mo_greatest_145 : decode kc_Mo_greatest 145 = .ok (.iload_n 3, 1) := by decide +kernel
theorem kd_Mo_greatest_146 : decode kc_Mo_greatest 146 = .ok (.iadd, 1) := by decide +kernel
theorem kd_Mo_greatest_147 : decode kc_Mo_greatest 147 = .ok (.laload, 1) := by decide +kernel
theorem kd_Mo_greatest_148 : decode kc_Mo_greatest 148 = .ok (.invokestatic 795, 3) := by decide +kernel
theorem kd_Mo_greatest_151 : decode kc_Mo_greatest 151 = .ok (.invokestatic 798, 3) := by decide +kernel
theorem kd_Mo_greatest_154 : decode kc_Mo_greatest 154 = .ok (.lreturn, 1) := by decide +kernel
theorem kd_Mo_greatest_155 : decode kc_Mo_greatest 155 = .ok (.lconst 1, 1) := by decide +kernel
theorem kd_Mo_greatest_156 : decode kc_Mo_greatest 156 = .ok (.aload_n 0, 1) := by decide +kernel
theorem kd_Mo_greatest_157 : decode kc_Mo_greatest 157 = .ok (.getfield 133, 3) := by decide +kernel
theorem kd_Mo_greatest_160 : decode kc_Mo_greatest 160 = .ok (.aload_n 0, 1) := by decide +kernel
theorem kd_Mo_greatest_161 : decode kc_Mo_greatest 161 = .ok (.getfield 121, 3) := by decide +kernel
theorem kd_Mo_greatest_164 : decode kc_Mo_greatest 164 = .ok (.iload 5, 2) := by decide +kernel
theorem kd_Mo_greatest_166 : decode kc_Mo_greatest 166 = .ok (.iaload, 1) := by decide +kernel
theorem kd_Mo_greatest_167 : decode kc_Mo_greatest 167 = .ok (.laload, 1) := by decide +kernel
theorem kd_Mo_greatest_168 : decode kc_Mo_greatest 168 = .ok (.ladd, 1) := by decide +kernel
theorem kd_Mo_greatest_169 : decode kc_Mo_greatest 169 = .ok (.aload_n 0, 1) := by decide +kernel
theorem kd_Mo_greatest_170 : decode kc_Mo_greatest 170 = .ok (.getfield 147, 3) := by decide +kernel
theorem kd_Mo_greatest_173 : decode kc_Mo_greatest 173 = .ok (.bipush 62, 2) := by decide +kernel
theorem kd_Mo_greatest_175 : decode kc_Mo_greatest 175 = .ok (.iload_n 2, 1) := by decide +kernel
theorem kd_Mo_greatest_176 : decode kc_Mo_greatest 176 = .ok (.iconst 1, 1) := by decide +kernel
theorem kd_Mo_greatest_177 : decode kc_Mo_greatest 177 = .ok (.iadd, 1) := by decide +kernel
theorem kd_Mo_greatest_178 : decode kc_Mo_greatest 178 = .ok (.imul, 1) := by decide +kernel
theorem kd_Mo_greatest_179 : decode kc_Mo_greatest 179 = .ok (.iload_n 3, 1) := by decide +kernel
theorem kd_Mo_greatest_180 : decode kc_Mo_greatest 180 = .ok (.iadd, 1) := by decide +kernel
theorem kd_Mo_greatest_181 : decode kc_Mo_greatest 181 = .ok (.laload, 1) := by decide +kernel
theorem kd_Mo_greatest_182 : decode kc_Mo_greatest 182 = .ok (.invokestatic 795, 3) := by decide +kernel
theorem kd_Mo_greatest_185 : decode kc_Mo_greatest 185 = .ok (.lreturn, 1) := by decide +kernel
theorem kd_Mo_greatest_186 : decode kc_Mo_greatest 186 = .ok (.lconst 1, 1) := by decide +kernel
theorem kd_Mo_greatest_187 : decode kc_Mo_greatest 187 = .ok (.aload_n 0, 1) := by decide +kernel
theorem kd_Mo_greatest_188 : decode kc_Mo_greatest 188 = .ok (.getfield 147, 3) := by decide +kernel
theorem kd_Mo_greatest_191 : decode kc_Mo_greatest 191 = .ok (.bipush 62, 2) := by decide +kernel
theorem kd_Mo_greatest_193 : decode kc_Mo_greatest 193 = .ok (.iload_n 2, 1) := by decide +kernel
theorem kd_Mo_greatest_194 : decode kc_Mo_greatest 194 = .ok (.iconst 1, 1) := by decide +kernel
theorem kd_Mo_greatest_195 : decode kc_Mo_greatest 195 = .ok (.iadd, 1) := by decide +kernel
theorem kd_Mo_greatest_196 : decode kc_Mo_greatest 196 = .ok (.imul, 1) := by decide +kernel
theorem kd_Mo_greatest_197 : decode kc_Mo_greatest 197 = .ok (.iload_n 3, 1) := by decide +kernel
theorem kd_Mo_greatest_198 : decode kc_Mo_greatest 198 = .ok (.iadd, 1) := by decide +kernel
theorem kd_Mo_greatest_199 : decode kc_Mo_greatest 199 = .ok (.laload, 1) := by decide +kernel
theorem kd_Mo_greatest_200 : decode kc_Mo_greatest 200 = .ok (.invokestatic 795, 3) := by decide +kernel
theorem kd_Mo_greatest_203 : decode kc_Mo_greatest 203 = .ok (.lreturn, 1) := by decide +kernel
theorem kd_Mo_sumOf_0 : decode kc_Mo_sumOf 0 = .ok (.aload_n 0, 1) := by decide +kernel
theorem kd_Mo_sumOf_1 : decode kc_Mo_sumOf 1 = .ok (.iload_n 1, 1) := by decide +kernel
theorem kd_Mo_sumOf_2 : decode kc_Mo_sumOf 2 = .ok (.invokevirtual 768, 3) := by decide +kernel
theorem kd_Mo_sumOf_5 : decode kc_Mo_sumOf 5 = .ok (.istore_n 2, 1) := by decide +kernel
theorem kd_Mo_sumOf_6 : decode kc_Mo_sumOf 6 = .ok (.iload_n 2, 1) := by decide +kernel
theorem kd_Mo_sumOf_7 : decode kc_Mo_sumOf 7 = .ok (.istore_n 3, 1) := by decide +kernel
theorem kd_Mo_sumOf_8 : decode kc_Mo_sumOf 8 = .ok (.iload_n 3, 1) := by decide +kernel
theorem kd_Mo_sumOf_9 : decode kc_Mo_sumOf 9 = .ok (.ifCond .lt 93, 3) := by decide +kernel
theorem kd_Mo_sumOf_12 : decode kc_Mo_sumOf 12 = .ok (.iload_n 3, 1) := by decide +kernel
theorem kd_Mo_sumOf_13 : decode kc_Mo_sumOf 13 = .ok (.iload_n 2, 1) := by decide +kernel
theorem kd_Mo_sumOf_14 : decode kc_Mo_sumOf 14 = .ok (.if_icmp .ne 7, 3) := by decide +kernel
theorem kd_Mo_sumOf_17 : decode kc_Mo_sumOf 17 = .ok (.iconst 0, 1) := by decide +kernel
theorem kd_Mo_sumOf_18 : decode kc_Mo_sumOf 18 = .ok (.goto 16, 3) := by decide +kernel
theorem kd_Mo_sumOf_21 : decode kc_Mo_sumOf 21 = .ok (.aload_n 0, 1) := by decide +kernel
theorem kd_Mo_sumOf_22 : decode kc_Mo_sumOf 22 = .ok (.getfield 130, 3) := by decide +kernel
theorem kd_Mo_sumOf_25 : decode kc_Mo_sumOf 25 = .ok (.aload_n 0, 1) := by decide +kernel
theorem kd_Mo_sumOf_26 : decode kc_Mo_sumOf 26 = .ok (.getfield 115, 3) := by decide +kernel
theorem kd_Mo_sumOf_29 : decode kc_Mo_sumOf 29 = .ok (.iload_n 1, 1) := by decide +kernel
theorem kd_Mo_sumOf_30 : decode kc_Mo_sumOf 30 = .ok (.iaload, 1) := by decide +kernel
theorem kd_Mo_sumOf_31 : decode kc_Mo_sumOf 31 = .ok (.iload_n 3, 1) := by decide +kernel
theorem kd_Mo_sumOf_32 : decode kc_Mo_sumOf 32 = .ok (.iadd, 1) := by decide +kernel
theorem kd_Mo_sumOf_33 : decode kc_Mo_sumOf 33 = .ok (.iaload, 1) := by decide +kernel
theorem kd_Mo_sumOf_34 : decode kc_Mo_sumOf 34 = .ok (.istore 4, 2) := by decide +kernel
theorem kd_Mo_sumOf_36 : decode kc_Mo_sumOf 36 = .ok (.iconst 0, 1) := by decide +kernel
theorem kd_Mo_sumOf_37 : decode kc_Mo_sumOf 37 = .ok (.istore 5, 2) := by decide +kernel
theorem kd_Mo_sumOf_39 : decode kc_Mo_sumOf 39 = .ok (.iload 5, 2) := by decide +kernel
theorem kd_Mo_sumOf_41 : decode kc_Mo_sumOf 41 = .ok (.bipush 62, 2) := by decide +kernel
theorem kd_Mo_sumOf_43 : decode kc_Mo_sumOf 43 = .ok (.if_icmp .ge 53, 3) := by decide +kernel
theorem kd_Mo_sumOf_46 : decode kc_Mo_sumOf 46 = .ok (.aload_n 0, 1) := by decide +kernel
theorem kd_Mo_sumOf_47 : decode kc_Mo_sumOf 47 = .ok (.getfield 147, 3) := by decide +kernel
theorem kd_Mo_sumOf_50 : decode kc_Mo_sumOf 50 = .ok (.bipush 62, 2) := by decide +kernel
theorem kd_Mo_sumOf_52 : decode kc_Mo_sumOf 52 = .ok (.iload_n 3, 1) := by decide +kernel
theorem kd_Mo_sumOf_53 : decode kc_Mo_sumOf 53 = .ok (.imul, 1) := by decide +kernel
theorem kd_Mo_sumOf_54 : decode kc_Mo_sumOf 54 = .ok (.iload 5, 2) := by decide +kernel
theorem kd_Mo_sumOf_56 : decode kc_Mo_sumOf 56 = .ok (.iadd, 1) := by decide +kernel
theorem kd_Mo_sumOf_57 : decode kc_Mo_sumOf 57 = .ok (.iload 5, 2) := by decide +kernel
theorem kd_Mo_sumOf_59 : decode kc_Mo_sumOf 59 = .ok (.iload 4, 2) := by decide +kernel
theorem kd_Mo_sumOf_61 : decode kc_Mo_sumOf 61 = .ok (.if_icmp .le 9, 3) := by decide +kernel
theorem kd_Mo_sumOf_64 : decode kc_Mo_sumOf 64 = .ok (.ldc2_w 262, 3) := by decide +kernel
theorem kd_Mo_sumOf_67 : decode kc_Mo_sumOf 67 = .ok (.goto 22, 3) := by decide +kernel
theorem kd_Mo_sumOf_70 : decode kc_Mo_sumOf 70 = .ok (.iload_n 3, 1) := by decide +kernel
theorem kd_Mo_sumOf_71 : decode kc_Mo_sumOf 71 = .ok (.iload_n 2, 1) := by decide +kernel
theorem kd_Mo_sumOf_72 : decode kc_Mo_sumOf 72 = .ok (.if_icmp .ne 7, 3) := by decide +kernel
theorem kd_Mo_sumOf_75 : decode kc_Mo_sumOf 75 = .ok (.lconst 0, 1) := by decide +kernel
theorem kd_Mo_sumOf_76 : decode kc_Mo_sumOf 76 = .ok (.goto 13, 3) := by decide +kernel
theorem kd_Mo_sumOf_79 : decode kc_Mo_sumOf 79 = .ok (.aload_n 0, 1) := by decide +kernel
theorem kd_Mo_sumOf_80 : decode kc_Mo_sumOf 80 = .ok (.iload_n 1, 1) := by decide +kernel
theorem kd_Mo_sumOf_81 : decode kc_Mo_sumOf 81 = .ok (.iload_n 3, 1) := by decide +kernel
theorem kd_Mo_sumOf_82 : decode kc_Mo_sumOf 82 = .ok (.iload 5, 2) := by decide +kernel
theorem kd_Mo_sumOf_84 : decode kc_Mo_sumOf 84 = .ok (.iload 4, 2) := by decide +kernel
theorem kd_Mo_sumOf_86 : decode kc_Mo_sumOf 86 = .ok (.invokevirtual 780, 3) := by decide +kernel
theorem kd_Mo_sumOf_89 : decode kc_Mo_sumOf 89 = .ok (.lastore, 1) := by decide +kernel
theorem kd_Mo_sumOf_90 : decode kc_Mo_sumOf 90 = .ok (.iinc 5 1, 3) := by decide +kernel
theorem kd_Mo_sumOf_93 : decode kc_Mo_sumOf 93 = .ok (.goto (-54), 3) := by decide +kernel
theorem kd_Mo_sumOf_96 : decode kc_Mo_sumOf 96 = .ok (.iinc 3 (-1), 3) := by decide +kernel
theorem kd_Mo_sumOf_99 : decode kc_Mo_sumOf 99 = .ok (.goto (-91), 3) := by decide +kernel
theorem kd_Mo_sumOf_102 : decode kc_Mo_sumOf 102 = .ok (.aload_n 0, 1) := by decide +kernel
theorem kd_Mo_sumOf_103 : decode kc_Mo_sumOf 103 = .ok (.getfield 147, 3) := by decide +kernel
theorem kd_Mo_sumOf_106 : decode kc_Mo_sumOf 106 = .ok (.iconst 0, 1) := by decide +kernel
theorem kd_Mo_sumOf_107 : decode kc_Mo_sumOf 107 = .ok (.laload, 1) := by decide +kernel
theorem kd_Mo_sumOf_108 : decode kc_Mo_sumOf 108 = .ok (.lreturn, 1) := by decide +kernel
set_option maxHeartbeats 4000000 in
set_option maxRecDepth 100000 in
theorem zc_Mo_greatest {l : Launch} {D : va_G} {sz0 : Nat} {S : zs_T} {P : ze_T} (h : zs_H) (x1 : Int32) (x2 : Int32) (x3 : Int32) (x4 : Int32) {rv : Int64} (e : f_Mo_greatest h x1 x2 x3 x4 = some rv) : zk_Sp (zs_G S l D sz0) (ze_E P) km_Mo_greatest { frames := 3, cells := 0, slots := 0, locals := 80 } [.ref (S.1 68), .int x1, .int x2, .int x3, .int x4] (zs_W S h) (zd_PJ S rv h) := by
  refine zk_met ku_Mo_greatest (Nat.le_of_ble_eq_true rfl) (ze_Em P) ?_
  intro X C hR
  refine zk_lvs (lv' := [(0, .ref (S.1 68)), (1, .int x1), (2, .int x2), (3, .int x3), (4, .int x4)]) [0, 1, 2, 3, 4] rfl ?_
  unfold f_Mo_greatest at e
  refine zk_aload_n C kd_Mo_greatest_0 rfl 0 rfl rfl ?_
  refine zs_get (v := .ref (S.1 103)) C 68 57 rfl rfl rfl rfl ki_Mo (by decide) kw1740 kd_Mo_greatest_1 rfl ?_
  refine zk_iload_n C kd_Mo_greatest_4 rfl 1 rfl rfl ?_
  obtain ⟨q1, e⟩ := zd_g e
  refine zs_iald C 103 rfl (zd_vp q1) kd_Mo_greatest_5 rfl ?_
  refine zk_iload_n C kd_Mo_greatest_6 rfl 2 rfl rfl ?_
  refine zk_iadd C kd_Mo_greatest_7 rfl ?_
  refine zk_istore (lv' := [(5, _), (0, _), (1, _), (2, _), (3, _), (4, _)]) C kd_Mo_greatest_8 (by decide) rfl rfl ?_
  refine zk_aload_n C kd_Mo_greatest_10 rfl 1 rfl rfl ?_
  refine zs_get (v := .ref (S.1 104)) C 68 59 rfl rfl rfl rfl ki_Mo (by decide) kw1742 kd_Mo_greatest_11 rfl ?_
  refine zk_iload C kd_Mo_greatest_14 0 rfl rfl ?_
  obtain ⟨q2, e⟩ := zd_g e
  refine zs_iald C 104 rfl (zd_vp q2) kd_Mo_greatest_16 rfl ?_
  by_cases b3 : (h.2.1 104 ((h.2.1 103 x1.toNatClampNeg) + x2).toNatClampNeg) = 10
  · replace e := zd_pos b3 e
    refine zk_tableIn (tgt := 92) C kd_Mo_greatest_17 (by rw [b3]; decide) (by rw [b3]; decide) (by rw [b3]; rfl) (by decide) ?_
    refine zk_lconst (v := 1) C kd_Mo_greatest_92 (by decide) rfl ?_
    refine zk_aload_n C kd_Mo_greatest_93 rfl 1 rfl rfl ?_
    refine zs_get (v := .ref (S.1 113)) C 68 71 rfl rfl rfl rfl ki_Mo (by decide) kw1754 kd_Mo_greatest_94 rfl ?_
    refine zk_bipush (v := 62) C kd_Mo_greatest_97 (by decide) rfl ?_
    refine zk_aload_n C kd_Mo_greatest_99 rfl 1 rfl rfl ?_
    refine zk_iload_n C kd_Mo_greatest_100 rfl 2 rfl rfl ?_
    refine zk_iload_n C kd_Mo_greatest_101 rfl 3 rfl rfl ?_
    obtain ⟨v5, c4, e⟩ := zd_b e
    refine zs_callV (k := 68) (rn := { frames := 1, cells := 0, slots := 0, locals := 21 }) (As := [.int x1, .int x2]) (rest := [.int 62, .ref (S.1 113), .long 1]) C (zc_Mo_target h x1 x2 c4) ku_Mo_target kw2676 kv_Mo_target rfl ⟨by decide, by decide⟩ ⟨by decide, by decide⟩ rfl rfl rfl (Nat.le_of_ble_eq_true rfl) kd_Mo_greatest_102 rfl (c1 := 0) (s1 := 0) rfl rfl (fun v w hp => ?_)
    obtain ⟨rfl, rfl⟩ := hp
    refine zk_stk (r' := [.int v5, .int 62, .ref (S.1 113), .long 1]) rfl ?_
    refine zk_imul C kd_Mo_greatest_105 rfl ?_
    refine zk_iload_n C kd_Mo_greatest_106 rfl 4 rfl rfl ?_
    refine zk_iadd C kd_Mo_greatest_107 rfl ?_
    obtain ⟨q6, e⟩ := zd_g e
    refine zs_lald C 113 rfl (zd_vp q6) kd_Mo_greatest_108 rfl ?_
    refine zk_callS (rn := { frames := 1, cells := 0, slots := 0, locals := 23 }) (As := [.long 1, .long (h.2.2 113 ((62 * v5) + x3).toNatClampNeg)]) (rest := []) C (zc_Mo_more h (1 : Int64) (h.2.2 113 ((62 * v5) + x3).toNatClampNeg)) ku_Mo_more kw2692 ks_Mo_more rfl ⟨by decide, by decide⟩ ⟨by decide, by decide⟩ rfl (Nat.le_of_ble_eq_true rfl) kd_Mo_greatest_109 rfl (c1 := 0) (s1 := 0) rfl rfl (fun v w hp => ?_)
    obtain ⟨rfl, rfl⟩ := hp
    refine zk_stk (r' := [.long (f_Mo_more (1 : Int64) (h.2.2 113 ((62 * v5) + x3).toNatClampNeg))]) rfl ?_
    exact zk_lret C hR kd_Mo_greatest_112 rfl rfl (zd_rJO e)
  replace e := zd_neg b3 e
  by_cases b7 : (h.2.1 104 ((h.2.1 103 x1.toNatClampNeg) + x2).toNatClampNeg) = 11
  · replace e := zd_pos b7 e
    refine zk_tableIn (tgt := 113) C kd_Mo_greatest_17 (by rw [b7]; decide) (by rw [b7]; decide) (by rw [b7]; rfl) (by decide) ?_
    refine zk_lconst (v := 1) C kd_Mo_greatest_113 (by decide) rfl ?_
    refine zk_aload_n C kd_Mo_greatest_114 rfl 1 rfl rfl ?_
    refine zs_get (v := .ref (S.1 113)) C 68 71 rfl rfl rfl rfl ki_Mo (by decide) kw1754 kd_Mo_greatest_115 rfl ?_
    refine zk_bipush (v := 62) C kd_Mo_greatest_118 (by decide) rfl ?_
    refine zk_iload_n C kd_Mo_greatest_120 rfl 3 rfl rfl ?_
    refine zk_iconst (v := 1) C kd_Mo_greatest_121 (by decide) rfl ?_
    refine zk_iadd C kd_Mo_greatest_122 rfl ?_
    refine zk_imul C kd_Mo_greatest_123 rfl ?_
    refine zk_iload_n C kd_Mo_greatest_124 rfl 4 rfl rfl ?_
    refine zk_iadd C kd_Mo_greatest_125 rfl ?_
    obtain ⟨q8, e⟩ := zd_g e
    refine zs_lald C 113 rfl (zd_vp q8) kd_Mo_greatest_126 rfl ?_
    refine zk_callS (rn := { frames := 1, cells := 0, slots := 0, locals := 23 }) (As := [.long 1, .long (h.2.2 113 ((62 * (x2 + 1)) + x3).toNatClampNeg)]) (rest := []) C (zc_Mo_more h (1 : Int64) (h.2.2 113 ((62 * (x2 + 1)) + x3).toNatClampNeg)) ku_Mo_more kw2692 ks_Mo_more rfl ⟨by decide, by decide⟩ ⟨by decide, by decide⟩ rfl (Nat.le_of_ble_eq_true rfl) kd_Mo_greatest_127 rfl (c1 := 0) (s1 := 0) rfl rfl (fun v w hp => ?_)
    obtain ⟨rfl, rfl⟩ := hp
    refine zk_stk (r' := [.long (f_Mo_more (1 : Int64) (h.2.2 113 ((62 * (x2 + 1)) + x3).toNatClampNeg))]) rfl ?_
    refine zk_lconst (v := 1) C kd_Mo_greatest_130 (by decide) rfl ?_
    refine zk_aload_n C kd_Mo_greatest_131 rfl 1 rfl rfl ?_
    refine zs_get (v := .ref (S.1 113)) C 68 71 rfl rfl rfl rfl ki_Mo (by decide) kw1754 kd_Mo_greatest_132 rfl ?_
    refine zk_bipush (v := 62) C kd_Mo_greatest_135 (by decide) rfl ?_
    refine zk_aload_n C kd_Mo_greatest_137 rfl 1 rfl rfl ?_
    refine zs_get (v := .ref (S.1 105)) C 68 60 rfl rfl rfl rfl ki_Mo (by decide) kw1743 kd_Mo_greatest_138 rfl ?_
    refine zk_iload C kd_Mo_greatest_141 0 rfl rfl ?_
    refine zs_iald C 105 rfl (zd_vp q2) kd_Mo_greatest_143 rfl ?_
    refine zk_imul C kd_Mo_greatest_144 rfl ?_
    refine zk_iload_n C kd_Mo_greatest_145 rfl 4 rfl rfl ?_
    refine zk_iadd C kd_Mo_greatest_146 rfl ?_
    obtain ⟨q9, e⟩ := zd_g e
    refine zs_lald C 113 rfl (zd_vp q9) kd_Mo_greatest_147 rfl ?_
    refine zk_callS (rn := { frames := 1, cells := 0, slots := 0, locals := 23 }) (As := [.long 1, .long (h.2.2 113 ((62 * (h.2.1 105 ((h.2.1 103 x1.toNatClampNeg) + x2).toNatClampNeg)) + x3).toNatClampNeg)]) (rest := [.long (f_Mo_more (1 : Int64) (h.2.2 113 ((62 * (x2 + 1)) + x3).toNatClampNeg))]) C (zc_Mo_more h (1 : Int64) (h.2.2 113 ((62 * (h.2.1 105 ((h.2.1 103 x1.toNatClampNeg) + x2).toNatClampNeg)) + x3).toNatClampNeg)) ku_Mo_more kw2692 ks_Mo_more rfl ⟨by decide, by decide⟩ ⟨by decide, by decide⟩ rfl (Nat.le_of_ble_eq_true rfl) kd_Mo_greatest_148 rfl (c1 := 0) (s1 := 0) rfl rfl (fun v w hp => ?_)
    obtain ⟨rfl, rfl⟩ := hp
    refine zk_stk (r' := [.long (f_Mo_more (1 : Int64) (h.2.2 113 ((62 * (h.2.1 105 ((h.2.1 103 x1.toNatClampNeg) + x2).toNatClampNeg)) + x3).toNatClampNeg)), .long (f_Mo_more (1 : Int64) (h.2.2 113 ((62 * (x2 + 1)) + x3).toNatClampNeg))]) rfl ?_
    refine zk_mmaxl C kw2697 kw1428 kw19 (by decide) (Nat.le_of_ble_eq_true rfl) (Nat.le_refl _) (Nat.le_refl _) kd_Mo_greatest_151 rfl ?_
    exact zk_lret C hR kd_Mo_greatest_154 rfl rfl (zd_rJO e)
  replace e := zd_neg b7 e
  by_cases b10 : (h.2.1 104 ((h.2.1 103 x1.toNatClampNeg) + x2).toNatClampNeg) = 13
  · replace e := zd_pos b10 e
    refine zk_tableIn (tgt := 68) C kd_Mo_greatest_17 (by rw [b10]; decide) (by rw [b10]; decide) (by rw [b10]; rfl) (by decide) ?_
    refine zk_aload_n C kd_Mo_greatest_68 rfl 1 rfl rfl ?_
    refine zk_iload_n C kd_Mo_greatest_69 rfl 2 rfl rfl ?_
    refine zk_iload_n C kd_Mo_greatest_70 rfl 3 rfl rfl ?_
    refine zk_iload_n C kd_Mo_greatest_71 rfl 4 rfl rfl ?_
    refine zk_iload C kd_Mo_greatest_72 5 rfl rfl ?_
    obtain ⟨v12, c11, e⟩ := zd_b e
    refine zs_callV (k := 68) (rn := { frames := 2, cells := 0, slots := 0, locals := 46 }) (As := [.int x1, .int x2, .int x3, .int x4]) (rest := []) C (zc_Mo_greatestFrom h x1 x2 x3 x4 c11) ku_Mo_greatestFrom kw2688 kv_Mo_greatestFrom rfl ⟨by decide, by decide⟩ ⟨by decide, by decide⟩ rfl rfl rfl (Nat.le_of_ble_eq_true rfl) kd_Mo_greatest_74 rfl (c1 := 0) (s1 := 0) rfl rfl (fun v w hp => ?_)
    obtain ⟨rfl, rfl⟩ := hp
    refine zk_stk (r' := [.long v12]) rfl ?_
    exact zk_lret C hR kd_Mo_greatest_77 rfl rfl (zd_rJO e)
  replace e := zd_neg b10 e
  by_cases b13 : (h.2.1 104 ((h.2.1 103 x1.toNatClampNeg) + x2).toNatClampNeg) = 14
  · replace e := zd_pos b13 e
    refine zk_tableIn (tgt := 78) C kd_Mo_greatest_17 (by rw [b13]; decide) (by rw [b13]; decide) (by rw [b13]; rfl) (by decide) ?_
    refine zk_iload_n C kd_Mo_greatest_78 rfl 4 rfl rfl ?_
    refine zk_iload C kd_Mo_greatest_79 5 rfl rfl ?_
    refine zk_icmp_ne (tgt := 88) C kd_Mo_greatest_81 (by decide) rfl (fun b14 => ?_) (fun b14 => ?_)
    · replace e := zd_neg b14 e
      refine zk_ldc2 (v := (-1)) C kw2029 kd_Mo_greatest_88 rfl ?_
      exact zk_lret C hR kd_Mo_greatest_91 rfl rfl (zd_rJO e)
    · replace e := zd_pos b14 e
      refine zk_lconst (v := 1) C kd_Mo_greatest_84 (by decide) rfl ?_
      refine zk_goto (tgt := 91) C kd_Mo_greatest_85 (by decide) ?_
      exact zk_lret C hR kd_Mo_greatest_91 rfl rfl (zd_rJO e)
  replace e := zd_neg b13 e
  by_cases b15 : (h.2.1 104 ((h.2.1 103 x1.toNatClampNeg) + x2).toNatClampNeg) = 15
  · replace e := zd_pos b15 e
    refine zk_tableIn (tgt := 155) C kd_Mo_greatest_17 (by rw [b15]; decide) (by rw [b15]; decide) (by rw [b15]; rfl) (by decide) ?_
    refine zk_lconst (v := 1) C kd_Mo_greatest_155 (by decide) rfl ?_
    refine zk_aload_n C kd_Mo_greatest_156 rfl 1 rfl rfl ?_
    refine zs_get (v := .ref (S.1 109)) C 68 65 rfl rfl rfl rfl ki_Mo (by decide) kw1748 kd_Mo_greatest_157 rfl ?_
    refine zk_aload_n C kd_Mo_greatest_160 rfl 1 rfl rfl ?_
    refine zs_get (v := .ref (S.1 105)) C 68 60 rfl rfl rfl rfl ki_Mo (by decide) kw1743 kd_Mo_greatest_161 rfl ?_
    refine zk_iload C kd_Mo_greatest_164 0 rfl rfl ?_
    refine zs_iald C 105 rfl (zd_vp q2) kd_Mo_greatest_166 rfl ?_
    obtain ⟨q16, e⟩ := zd_g e
    refine zs_lald C 109 rfl (zd_vp q16) kd_Mo_greatest_167 rfl ?_
    refine zk_ladd C kd_Mo_greatest_168 rfl ?_
    refine zk_aload_n C kd_Mo_greatest_169 rfl 1 rfl rfl ?_
    refine zs_get (v := .ref (S.1 113)) C 68 71 rfl rfl rfl rfl ki_Mo (by decide) kw1754 kd_Mo_greatest_170 rfl ?_
    refine zk_bipush (v := 62) C kd_Mo_greatest_173 (by decide) rfl ?_
    refine zk_iload_n C kd_Mo_greatest_175 rfl 3 rfl rfl ?_
    refine zk_iconst (v := 1) C kd_Mo_greatest_176 (by decide) rfl ?_
    refine zk_iadd C kd_Mo_greatest_177 rfl ?_
    refine zk_imul C kd_Mo_greatest_178 rfl ?_
    refine zk_iload_n C kd_Mo_greatest_179 rfl 4 rfl rfl ?_
    refine zk_iadd C kd_Mo_greatest_180 rfl ?_
    obtain ⟨q17, e⟩ := zd_g e
    refine zs_lald C 113 rfl (zd_vp q17) kd_Mo_greatest_181 rfl ?_
    refine zk_callS (rn := { frames := 1, cells := 0, slots := 0, locals := 23 }) (As := [.long ((1 : Int64) + (h.2.2 109 (h.2.1 105 ((h.2.1 103 x1.toNatClampNeg) + x2).toNatClampNeg).toNatClampNeg)), .long (h.2.2 113 ((62 * (x2 + 1)) + x3).toNatClampNeg)]) (rest := []) C (zc_Mo_more h ((1 : Int64) + (h.2.2 109 (h.2.1 105 ((h.2.1 103 x1.toNatClampNeg) + x2).toNatClampNeg).toNatClampNeg)) (h.2.2 113 ((62 * (x2 + 1)) + x3).toNatClampNeg)) ku_Mo_more kw2692 ks_Mo_more rfl ⟨by decide, by decide⟩ ⟨by decide, by decide⟩ rfl (Nat.le_of_ble_eq_true rfl) kd_Mo_greatest_182 rfl (c1 := 0) (s1 := 0) rfl rfl (fun v w hp => ?_)
    obtain ⟨rfl, rfl⟩ := hp
    refine zk_stk (r' := [.long (f_Mo_more ((1 : Int64) + (h.2.2 109 (h.2.1 105 ((h.2.1 103 x1.toNatClampNeg) + x2).toNatClampNeg).toNatClampNeg)) (h.2.2 113 ((62 * (x2 + 1)) + x3).toNatClampNeg))]) rfl ?_
    exact zk_lret C hR kd_Mo_greatest_185 rfl rfl (zd_rJO e)
  replace e := zd_neg b15 e
  by_cases b18 : (h.2.1 104 ((h.2.1 103 x1.toNatClampNeg) + x2).toNatClampNeg) = 16
  · replace e := zd_pos b18 e
    refine zk_tableIn (tgt := 155) C kd_Mo_greatest_17 (by rw [b18]; decide) (by rw [b18]; decide) (by rw [b18]; rfl) (by decide) ?_
    refine zk_lconst (v := 1) C kd_Mo_greatest_155 (by decide) rfl ?_
    refine zk_aload_n C kd_Mo_greatest_156 rfl 1 rfl rfl ?_
    refine zs_get (v := .ref (S.1 109)) C 68 65 rfl rfl rfl rfl ki_Mo (by decide) kw1748 kd_Mo_greatest_157 rfl ?_
    refine zk_aload_n C kd_Mo_greatest_160 rfl 1 rfl rfl ?_
    refine zs_get (v := .ref (S.1 105)) C 68 60 rfl rfl rfl rfl ki_Mo (by decide) kw1743 kd_Mo_greatest_161 rfl ?_
    refine zk_iload C kd_Mo_greatest_164 0 rfl rfl ?_
    refine zs_iald C 105 rfl (zd_vp q2) kd_Mo_greatest_166 rfl ?_
    obtain ⟨q19, e⟩ := zd_g e
    refine zs_lald C 109 rfl (zd_vp q19) kd_Mo_greatest_167 rfl ?_
    refine zk_ladd C kd_Mo_greatest_168 rfl ?_
    refine zk_aload_n C kd_Mo_greatest_169 rfl 1 rfl rfl ?_
    refine zs_get (v := .ref (S.1 113)) C 68 71 rfl rfl rfl rfl ki_Mo (by decide) kw1754 kd_Mo_greatest_170 rfl ?_
    refine zk_bipush (v := 62) C kd_Mo_greatest_173 (by decide) rfl ?_
    refine zk_iload_n C kd_Mo_greatest_175 rfl 3 rfl rfl ?_
    refine zk_iconst (v := 1) C kd_Mo_greatest_176 (by decide) rfl ?_
    refine zk_iadd C kd_Mo_greatest_177 rfl ?_
    refine zk_imul C kd_Mo_greatest_178 rfl ?_
    refine zk_iload_n C kd_Mo_greatest_179 rfl 4 rfl rfl ?_
    refine zk_iadd C kd_Mo_greatest_180 rfl ?_
    obtain ⟨q20, e⟩ := zd_g e
    refine zs_lald C 113 rfl (zd_vp q20) kd_Mo_greatest_181 rfl ?_
    refine zk_callS (rn := { frames := 1, cells := 0, slots := 0, locals := 23 }) (As := [.long ((1 : Int64) + (h.2.2 109 (h.2.1 105 ((h.2.1 103 x1.toNatClampNeg) + x2).toNatClampNeg).toNatClampNeg)), .long (h.2.2 113 ((62 * (x2 + 1)) + x3).toNatClampNeg)]) (rest := []) C (zc_Mo_more h ((1 : Int64) + (h.2.2 109 (h.2.1 105 ((h.2.1 103 x1.toNatClampNeg) + x2).toNatClampNeg).toNatClampNeg)) (h.2.2 113 ((62 * (x2 + 1)) + x3).toNatClampNeg)) ku_Mo_more kw2692 ks_Mo_more rfl ⟨by decide, by decide⟩ ⟨by decide, by decide⟩ rfl (Nat.le_of_ble_eq_true rfl) kd_Mo_greatest_182 rfl (c1 := 0) (s1 := 0) rfl rfl (fun v w hp => ?_)
    obtain ⟨rfl, rfl⟩ := hp
    refine zk_stk (r' := [.long (f_Mo_more ((1 : Int64) + (h.2.2 109 (h.2.1 105 ((h.2.1 103 x1.toNatClampNeg) + x2).toNatClampNeg).toNatClampNeg)) (h.2.2 113 ((62 * (x2 + 1)) + x3).toNatClampNeg))]) rfl ?_
    exact zk_lret C hR kd_Mo_greatest_185 rfl rfl (zd_rJO e)
  replace e := zd_neg b18 e
  by_cases b21 : (h.2.1 104 ((h.2.1 103 x1.toNatClampNeg) + x2).toNatClampNeg) = 18
  · replace e := zd_pos b21 e
    refine zk_tableIn (tgt := 92) C kd_Mo_greatest_17 (by rw [b21]; decide) (by rw [b21]; decide) (by rw [b21]; rfl) (by decide) ?_
    refine zk_lconst (v := 1) C kd_Mo_greatest_92 (by decide) rfl ?_
    refine zk_aload_n C kd_Mo_greatest_93 rfl 1 rfl rfl ?_
    refine zs_get (v := .ref (S.1 113)) C 68 71 rfl rfl rfl rfl ki_Mo (by decide) kw1754 kd_Mo_greatest_94 rfl ?_
    refine zk_bipush (v := 62) C kd_Mo_greatest_97 (by decide) rfl ?_
    refine zk_aload_n C kd_Mo_greatest_99 rfl 1 rfl rfl ?_
    refine zk_iload_n C kd_Mo_greatest_100 rfl 2 rfl rfl ?_
    refine zk_iload_n C kd_Mo_greatest_101 rfl 3 rfl rfl ?_
    obtain ⟨v23, c22, e⟩ := zd_b e
    refine zs_callV (k := 68) (rn := { frames := 1, cells := 0, slots := 0, locals := 21 }) (As := [.int x1, .int x2]) (rest := [.int 62, .ref (S.1 113), .long 1]) C (zc_Mo_target h x1 x2 c22) ku_Mo_target kw2676 kv_Mo_target rfl ⟨by decide, by decide⟩ ⟨by decide, by decide⟩ rfl rfl rfl (Nat.le_of_ble_eq_true rfl) kd_Mo_greatest_102 rfl (c1 := 0) (s1 := 0) rfl rfl (fun v w hp => ?_)
    obtain ⟨rfl, rfl⟩ := hp
    refine zk_stk (r' := [.int v23, .int 62, .ref (S.1 113), .long 1]) rfl ?_
    refine zk_imul C kd_Mo_greatest_105 rfl ?_
    refine zk_iload_n C kd_Mo_greatest_106 rfl 4 rfl rfl ?_
    refine zk_iadd C kd_Mo_greatest_107 rfl ?_
    obtain ⟨q24, e⟩ := zd_g e
    refine zs_lald C 113 rfl (zd_vp q24) kd_Mo_greatest_108 rfl ?_
    refine zk_callS (rn := { frames := 1, cells := 0, slots := 0, locals := 23 }) (As := [.long 1, .long (h.2.2 113 ((62 * v23) + x3).toNatClampNeg)]) (rest := []) C (zc_Mo_more h (1 : Int64) (h.2.2 113 ((62 * v23) + x3).toNatClampNeg)) ku_Mo_more kw2692 ks_Mo_more rfl ⟨by decide, by decide⟩ ⟨by decide, by decide⟩ rfl (Nat.le_of_ble_eq_true rfl) kd_Mo_greatest_109 rfl (c1 := 0) (s1 := 0) rfl rfl (fun v w hp => ?_)
    obtain ⟨rfl, rfl⟩ := hp
    refine zk_stk (r' := [.long (f_Mo_more (1 : Int64) (h.2.2 113 ((62 * v23) + x3).toNatClampNeg))]) rfl ?_
    exact zk_lret C hR kd_Mo_greatest_112 rfl rfl (zd_rJO e)
  replace e := zd_neg b21 e
  refine zd_tableD (tgt := 186) C kd_Mo_greatest_17 (by decide) [10, 11, 13, 14, 15, 16, 18] (by decide +kernel) (by have n0 := lv_neT b3 (a := 10) (by decide); have n1 := lv_neT b7 (a := 11) (by decide); have n2 := lv_neT b10 (a := 13) (by decide); have n3 := lv_neT b13 (a := 14) (by decide); have n4 := lv_neT b15 (a := 15) (by decide); have n5 := lv_neT b18 (a := 16) (by decide); have n6 := lv_neT b21 (a := 18) (by decide); simp only [List.mem_cons, List.not_mem_nil, or_false, not_or]; exact ⟨n0, n1, n2, n3, n4, n5, n6⟩) ?_
  refine zk_lconst (v := 1) C kd_Mo_greatest_186 (by decide) rfl ?_
  refine zk_aload_n C kd_Mo_greatest_187 rfl 1 rfl rfl ?_
  refine zs_get (v := .ref (S.1 113)) C 68 71 rfl rfl rfl rfl ki_Mo (by decide) kw1754 kd_Mo_greatest_188 rfl ?_
  refine zk_bipush (v := 62) C kd_Mo_greatest_191 (by decide) rfl ?_
  refine zk_iload_n C kd_Mo_greatest_193 rfl 3 rfl rfl ?_
  refine zk_iconst (v := 1) C kd_Mo_greatest_194 (by decide) rfl ?_
  refine zk_iadd C kd_Mo_greatest_195 rfl ?_
  refine zk_imul C kd_Mo_greatest_196 rfl ?_
  refine zk_iload_n C kd_Mo_greatest_197 rfl 4 rfl rfl ?_
  refine zk_iadd C kd_Mo_greatest_198 rfl ?_
  obtain ⟨q25, e⟩ := zd_g e
  refine zs_lald C 113 rfl (zd_vp q25) kd_Mo_greatest_199 rfl ?_
  refine zk_callS (rn := { frames := 1, cells := 0, slots := 0, locals := 23 }) (As := [.long 1, .long (h.2.2 113 ((62 * (x2 + 1)) + x3).toNatClampNeg)]) (rest := []) C (zc_Mo_more h (1 : Int64) (h.2.2 113 ((62 * (x2 + 1)) + x3).toNatClampNeg)) ku_Mo_more kw2692 ks_Mo_more rfl ⟨by decide, by decide⟩ ⟨by decide, by decide⟩ rfl (Nat.le_of_ble_eq_true rfl) kd_Mo_greatest_200 rfl (c1 := 0) (s1 := 0) rfl rfl (fun v w hp => ?_)
  obtain ⟨rfl, rfl⟩ := hp
  refine zk_stk (r' := [.long (f_Mo_more (1 : Int64) (h.2.2 113 ((62 * (x2 + 1)) + x3).toNatClampNeg))]) rfl ?_
  exact zk_lret C hR kd_Mo_greatest_203 rfl rfl (zd_rJO e)
set_option maxHeartbeats 4000000 in
set_option maxRecDepth 100000 in
theorem zb_Mo_sumOf_89 {X : zkj_T} {S : zs_T} {P : ze_T} {l : Launch} {D : va_G} {sz0 : Nat} {rv : Int64} {rh : zs_H} (C : zk_C X km_Mo_sumOf (zs_G S l D sz0) { frames := 4, cells := 0, slots := 0, locals := 105 } (ze_E P)) (hR : zkj_R X (zd_PJ S rv rh) (some .long)) {k8 : zs_H → Int32 → Int32 → Int32 → (Option (Int64 × zs_H))} (hk8 : ∀ (h : zs_H) (x1 : Int32) (x2 : Int32) (x3 : Int32), k8 h x1 x2 x3 = some (rv, rh) → zk_Ab X (zs_W S h) 0 0 8 [(0, .ref (S.1 68)), (1, .int x1), (2, .int x2), (3, .int x3)] []) {k39 : zs_H → Int32 → Int32 → Int32 → Int32 → Int32 → (Option (Int64 × zs_H))} (hk39 : ∀ (h : zs_H) (x1 : Int32) (x2 : Int32) (x3 : Int32) (x4 : Int32) (x5 : Int32), k39 h x1 x2 x3 x4 x5 = some (rv, rh) → zk_Ab X (zs_W S h) 0 0 39 [(0, .ref (S.1 68)), (1, .int x1), (2, .int x2), (3, .int x3), (4, .int x4), (5, .int x5)] []) (h : zs_H) (x1 : Int32) (x2 : Int32) (x3 : Int32) (x4 : Int32) (x5 : Int32) (y0 : Int64) (y1 : Int32) (e : f_Mo_sumOf_89 k8 k39 h x1 x2 x3 x4 x5 y0 y1 = some (rv, rh)) : zk_Ab X (zs_W S h) 0 0 89 [(0, .ref (S.1 68)), (1, .int x1), (2, .int x2), (3, .int x3), (4, .int x4), (5, .int x5)] [.long y0, .int y1, .ref (S.1 113)] := by
  unfold f_Mo_sumOf_89 at e
  obtain ⟨q1, e⟩ := zd_g e
  refine zs_last C 113 rfl (zd_vp q1) kd_Mo_sumOf_89 rfl ?_
  refine zk_iinc (v := (x5 + 1)) (lv' := [(5, _), (0, _), (1, _), (2, _), (3, _), (4, _)]) C kd_Mo_sumOf_90 5 rfl rfl (by decide) rfl rfl ?_
  refine zk_goto (tgt := 39) C kd_Mo_sumOf_93 (by decide) ?_
  refine zk_lvs (lv' := [(0, .ref (S.1 68)), (1, .int x1), (2, .int x2), (3, .int x3), (4, .int x4), (5, .int (x5 + 1))]) [1, 2, 3, 4, 5, 0] rfl ?_
  exact hk39 (zs_uL h 113 y1.toNatClampNeg y0) x1 x2 x3 x4 (x5 + 1) e
set_option maxHeartbeats 4000000 in
set_option maxRecDepth 100000 in
theorem zb_Mo_sumOf_39 {X : zkj_T} {S : zs_T} {P : ze_T} {l : Launch} {D : va_G} {sz0 : Nat} {rv : Int64} {rh : zs_H} (C : zk_C X km_Mo_sumOf (zs_G S l D sz0) { frames := 4, cells := 0, slots := 0, locals := 105 } (ze_E P)) (hR : zkj_R X (zd_PJ S rv rh) (some .long)) {k8 : zs_H → Int32 → Int32 → Int32 → (Option (Int64 × zs_H))} (hk8 : ∀ (h : zs_H) (x1 : Int32) (x2 : Int32) (x3 : Int32), k8 h x1 x2 x3 = some (rv, rh) → zk_Ab X (zs_W S h) 0 0 8 [(0, .ref (S.1 68)), (1, .int x1), (2, .int x2), (3, .int x3)] []) {k39 : zs_H → Int32 → Int32 → Int32 → Int32 → Int32 → (Option (Int64 × zs_H))} (hk39 : ∀ (h : zs_H) (x1 : Int32) (x2 : Int32) (x3 : Int32) (x4 : Int32) (x5 : Int32), k39 h x1 x2 x3 x4 x5 = some (rv, rh) → zk_Ab X (zs_W S h) 0 0 39 [(0, .ref (S.1 68)), (1, .int x1), (2, .int x2), (3, .int x3), (4, .int x4), (5, .int x5)] []) (h : zs_H) (x1 : Int32) (x2 : Int32) (x3 : Int32) (x4 : Int32) (x5 : Int32) (e : f_Mo_sumOf_39 k8 k39 h x1 x2 x3 x4 x5 = some (rv, rh)) : zk_Ab X (zs_W S h) 0 0 39 [(0, .ref (S.1 68)), (1, .int x1), (2, .int x2), (3, .int x3), (4, .int x4), (5, .int x5)] [] := by
  unfold f_Mo_sumOf_39 at e
  refine zk_iload C kd_Mo_sumOf_39 5 rfl rfl ?_
  refine zk_bipush (v := 62) C kd_Mo_sumOf_41 (by decide) rfl ?_
  refine zk_icmp_ge (tgt := 96) C kd_Mo_sumOf_43 (by decide) rfl (fun b1 => ?_) (fun b1 => ?_)
  · replace e := zd_pos b1 e
    refine zk_iinc (v := (x3 + (-1))) (lv' := [(3, _), (0, _), (1, _), (2, _), (4, _), (5, _)]) C kd_Mo_sumOf_96 3 rfl rfl (by decide) rfl rfl ?_
    refine zk_goto (tgt := 8) C kd_Mo_sumOf_99 (by decide) ?_
    refine zk_lvs (lv' := [(0, .ref (S.1 68)), (1, .int x1), (2, .int x2), (3, .int (x3 + (-1)))]) [1, 2, 3, 0] rfl ?_
    exact hk8 h x1 x2 (x3 + (-1)) e
  · replace e := zd_neg b1 e
    refine zk_aload_n C kd_Mo_sumOf_46 rfl 0 rfl rfl ?_
    refine zs_get (v := .ref (S.1 113)) C 68 71 rfl rfl rfl rfl ki_Mo (by decide) kw1754 kd_Mo_sumOf_47 rfl ?_
    refine zk_bipush (v := 62) C kd_Mo_sumOf_50 (by decide) rfl ?_
    refine zk_iload_n C kd_Mo_sumOf_52 rfl 3 rfl rfl ?_
    refine zk_imul C kd_Mo_sumOf_53 rfl ?_
    refine zk_iload C kd_Mo_sumOf_54 5 rfl rfl ?_
    refine zk_iadd C kd_Mo_sumOf_56 rfl ?_
    refine zk_iload C kd_Mo_sumOf_57 5 rfl rfl ?_
    refine zk_iload C kd_Mo_sumOf_59 4 rfl rfl ?_
    refine zk_icmp_le (tgt := 70) C kd_Mo_sumOf_61 (by decide) rfl (fun b2 => ?_) (fun b2 => ?_)
    · replace e := zd_pos b2 e
      refine zk_iload_n C kd_Mo_sumOf_70 rfl 3 rfl rfl ?_
      refine zk_iload_n C kd_Mo_sumOf_71 rfl 2 rfl rfl ?_
      refine zk_icmp_ne (tgt := 79) C kd_Mo_sumOf_72 (by decide) rfl (fun b3 => ?_) (fun b3 => ?_)
      · replace e := zd_neg b3 e
        refine zk_aload_n C kd_Mo_sumOf_79 rfl 0 rfl rfl ?_
        refine zk_iload_n C kd_Mo_sumOf_80 rfl 1 rfl rfl ?_
        refine zk_iload_n C kd_Mo_sumOf_81 rfl 3 rfl rfl ?_
        refine zk_iload C kd_Mo_sumOf_82 5 rfl rfl ?_
        refine zk_iload C kd_Mo_sumOf_84 4 rfl rfl ?_
        obtain ⟨v5, c4, e⟩ := zd_b e
        refine zs_callV (k := 68) (rn := { frames := 3, cells := 0, slots := 0, locals := 80 }) (As := [.int x1, .int x3, .int x5, .int x4]) (rest := [.int ((62 * x3) + x5), .ref (S.1 113)]) C (zc_Mo_greatest h x1 x3 x5 x4 c4) ku_Mo_greatest kw2684 kv_Mo_greatest rfl ⟨by decide, by decide⟩ ⟨by decide, by decide⟩ rfl rfl rfl (Nat.le_of_ble_eq_true rfl) kd_Mo_sumOf_86 rfl (c1 := 0) (s1 := 0) rfl rfl (fun v w hp => ?_)
        obtain ⟨rfl, rfl⟩ := hp
        refine zk_stk (r' := [.long v5, .int ((62 * x3) + x5), .ref (S.1 113)]) rfl ?_
        refine zk_lvs (lv' := [(0, .ref (S.1 68)), (1, .int x1), (2, .int x2), (3, .int x3), (4, .int x4), (5, .int x5)]) [0, 1, 2, 3, 4, 5] rfl ?_
        exact zb_Mo_sumOf_89 C hR hk8 hk39 h x1 x2 x3 x4 x5 v5 ((62 * x3) + x5) e
      · replace e := zd_pos b3 e
        refine zk_lconst (v := 0) C kd_Mo_sumOf_75 (by decide) rfl ?_
        refine zk_goto (tgt := 89) C kd_Mo_sumOf_76 (by decide) ?_
        refine zk_lvs (lv' := [(0, .ref (S.1 68)), (1, .int x1), (2, .int x2), (3, .int x3), (4, .int x4), (5, .int x5)]) [0, 1, 2, 3, 4, 5] rfl ?_
        exact zb_Mo_sumOf_89 C hR hk8 hk39 h x1 x2 x3 x4 x5 (0 : Int64) ((62 * x3) + x5) e
    · replace e := zd_neg b2 e
      refine zk_ldc2 (v := (-1)) C kw2029 kd_Mo_sumOf_64 rfl ?_
      refine zk_goto (tgt := 89) C kd_Mo_sumOf_67 (by decide) ?_
      refine zk_lvs (lv' := [(0, .ref (S.1 68)), (1, .int x1), (2, .int x2), (3, .int x3), (4, .int x4), (5, .int x5)]) [0, 1, 2, 3, 4, 5] rfl ?_
      exact zb_Mo_sumOf_89 C hR hk8 hk39 h x1 x2 x3 x4 x5 (-1 : Int64) ((62 * x3) + x5) e
theorem zl_Mo_sumOf_39 {X : zkj_T} {S : zs_T} {P : ze_T} {l : Launch} {D : va_G} {sz0 : Nat} {rv : Int64} {rh : zs_H} (C : zk_C X km_Mo_sumOf (zs_G S l D sz0) { frames := 4, cells := 0, slots := 0, locals := 105 } (ze_E P)) (hR : zkj_R X (zd_PJ S rv rh) (some .long)) {k8 : zs_H → Int32 → Int32 → Int32 → (Option (Int64 × zs_H))} (hk8 : ∀ (h : zs_H) (x1 : Int32) (x2 : Int32) (x3 : Int32), k8 h x1 x2 x3 = some (rv, rh) → zk_Ab X (zs_W S h) 0 0 8 [(0, .ref (S.1 68)), (1, .int x1), (2, .int x2), (3, .int x3)] []) (n : Nat) : ∀ (h : zs_H) (x1 : Int32) (x2 : Int32) (x3 : Int32) (x4 : Int32) (x5 : Int32), f_Mo_sumOf_L39 k8 n h x1 x2 x3 x4 x5 = some (rv, rh) → zk_Ab X (zs_W S h) 0 0 39 [(0, .ref (S.1 68)), (1, .int x1), (2, .int x2), (3, .int x3), (4, .int x4), (5, .int x5)] [] := by
  induction n with
  | zero => intro h x1 x2 x3 x4 x5 e; exact zd_no e
  | succ n ih => intro h x1 x2 x3 x4 x5 e; exact zb_Mo_sumOf_39 (k39 := f_Mo_sumOf_L39 k8 n) C hR hk8 ih h x1 x2 x3 x4 x5 e
set_option maxHeartbeats 4000000 in
set_option maxRecDepth 100000 in
theorem zb_Mo_sumOf_34 {X : zkj_T} {S : zs_T} {P : ze_T} {l : Launch} {D : va_G} {sz0 : Nat} {rv : Int64} {rh : zs_H} (C : zk_C X km_Mo_sumOf (zs_G S l D sz0) { frames := 4, cells := 0, slots := 0, locals := 105 } (ze_E P)) (hR : zkj_R X (zd_PJ S rv rh) (some .long)) {k8 : zs_H → Int32 → Int32 → Int32 → (Option (Int64 × zs_H))} (hk8 : ∀ (h : zs_H) (x1 : Int32) (x2 : Int32) (x3 : Int32), k8 h x1 x2 x3 = some (rv, rh) → zk_Ab X (zs_W S h) 0 0 8 [(0, .ref (S.1 68)), (1, .int x1), (2, .int x2), (3, .int x3)] []) (h : zs_H) (x1 : Int32) (x2 : Int32) (x3 : Int32) (y0 : Int32) (e : f_Mo_sumOf_34 k8 h x1 x2 x3 y0 = some (rv, rh)) : zk_Ab X (zs_W S h) 0 0 34 [(0, .ref (S.1 68)), (1, .int x1), (2, .int x2), (3, .int x3)] [.int y0] := by
  unfold f_Mo_sumOf_34 at e
  refine zk_istore (lv' := [(4, _), (0, _), (1, _), (2, _), (3, _)]) C kd_Mo_sumOf_34 (by decide) rfl rfl ?_
  refine zk_iconst (v := 0) C kd_Mo_sumOf_36 (by decide) rfl ?_
  refine zk_istore (lv' := [(5, _), (4, _), (0, _), (1, _), (2, _), (3, _)]) C kd_Mo_sumOf_37 (by decide) rfl rfl ?_
  refine zk_lvs (lv' := [(0, .ref (S.1 68)), (1, .int x1), (2, .int x2), (3, .int x3), (4, .int y0), (5, .int 0)]) [2, 3, 4, 5, 1, 0] rfl ?_
  exact zl_Mo_sumOf_39 C hR hk8 zF h x1 x2 x3 y0 0 e
set_option maxHeartbeats 4000000 in
set_option maxRecDepth 100000 in
theorem zb_Mo_sumOf_8 {X : zkj_T} {S : zs_T} {P : ze_T} {l : Launch} {D : va_G} {sz0 : Nat} {rv : Int64} {rh : zs_H} (C : zk_C X km_Mo_sumOf (zs_G S l D sz0) { frames := 4, cells := 0, slots := 0, locals := 105 } (ze_E P)) (hR : zkj_R X (zd_PJ S rv rh) (some .long)) {k8 : zs_H → Int32 → Int32 → Int32 → (Option (Int64 × zs_H))} (hk8 : ∀ (h : zs_H) (x1 : Int32) (x2 : Int32) (x3 : Int32), k8 h x1 x2 x3 = some (rv, rh) → zk_Ab X (zs_W S h) 0 0 8 [(0, .ref (S.1 68)), (1, .int x1), (2, .int x2), (3, .int x3)] []) (h : zs_H) (x1 : Int32) (x2 : Int32) (x3 : Int32) (e : f_Mo_sumOf_8 k8 h x1 x2 x3 = some (rv, rh)) : zk_Ab X (zs_W S h) 0 0 8 [(0, .ref (S.1 68)), (1, .int x1), (2, .int x2), (3, .int x3)] [] := by
  unfold f_Mo_sumOf_8 at e
  refine zk_iload_n C kd_Mo_sumOf_8 rfl 3 rfl rfl ?_
  refine zk_if_lt (tgt := 102) C kd_Mo_sumOf_9 (by decide) rfl (fun b1 => ?_) (fun b1 => ?_)
  · replace e := zd_pos b1 e
    refine zk_aload_n C kd_Mo_sumOf_102 rfl 0 rfl rfl ?_
    refine zs_get (v := .ref (S.1 113)) C 68 71 rfl rfl rfl rfl ki_Mo (by decide) kw1754 kd_Mo_sumOf_103 rfl ?_
    refine zk_iconst (v := 0) C kd_Mo_sumOf_106 (by decide) rfl ?_
    refine zs_lald C 113 rfl (zp_dec rfl) kd_Mo_sumOf_107 rfl ?_
    refine zk_stk (r' := [.long (h.2.2 113 0)]) rfl ?_
    exact zk_lret C hR kd_Mo_sumOf_108 rfl rfl (zd_rJS e)
  · replace e := zd_neg b1 e
    refine zk_iload_n C kd_Mo_sumOf_12 rfl 3 rfl rfl ?_
    refine zk_iload_n C kd_Mo_sumOf_13 rfl 2 rfl rfl ?_
    refine zk_icmp_ne (tgt := 21) C kd_Mo_sumOf_14 (by decide) rfl (fun b2 => ?_) (fun b2 => ?_)
    · replace e := zd_neg b2 e
      refine zk_aload_n C kd_Mo_sumOf_21 rfl 0 rfl rfl ?_
      refine zs_get (v := .ref (S.1 108)) C 68 63 rfl rfl rfl rfl ki_Mo (by decide) kw1746 kd_Mo_sumOf_22 rfl ?_
      refine zk_aload_n C kd_Mo_sumOf_25 rfl 0 rfl rfl ?_
      refine zs_get (v := .ref (S.1 103)) C 68 57 rfl rfl rfl rfl ki_Mo (by decide) kw1740 kd_Mo_sumOf_26 rfl ?_
      refine zk_iload_n C kd_Mo_sumOf_29 rfl 1 rfl rfl ?_
      obtain ⟨q3, e⟩ := zd_g e
      refine zs_iald C 103 rfl (zd_vp q3) kd_Mo_sumOf_30 rfl ?_
      refine zk_iload_n C kd_Mo_sumOf_31 rfl 3 rfl rfl ?_
      refine zk_iadd C kd_Mo_sumOf_32 rfl ?_
      obtain ⟨q4, e⟩ := zd_g e
      refine zs_iald C 108 rfl (zd_vp q4) kd_Mo_sumOf_33 rfl ?_
      refine zk_lvs (lv' := [(0, .ref (S.1 68)), (1, .int x1), (2, .int x2), (3, .int x3)]) [0, 1, 2, 3] rfl ?_
      exact zb_Mo_sumOf_34 C hR hk8 h x1 x2 x3 (h.2.1 108 ((h.2.1 103 x1.toNatClampNeg) + x3).toNatClampNeg) e
    · replace e := zd_pos b2 e
      refine zk_iconst (v := 0) C kd_Mo_sumOf_17 (by decide) rfl ?_
      refine zk_goto (tgt := 34) C kd_Mo_sumOf_18 (by decide) ?_
      refine zk_lvs (lv' := [(0, .ref (S.1 68)), (1, .int x1), (2, .int x2), (3, .int x3)]) [0, 1, 2, 3] rfl ?_
      exact zb_Mo_sumOf_34 C hR hk8 h x1 x2 x3 0 e
theorem zl_Mo_sumOf_8 {X : zkj_T} {S : zs_T} {P : ze_T} {l : Launch} {D : va_G} {sz0 : Nat} {rv : Int64} {rh : zs_H} (C : zk_C X km_Mo_sumOf (zs_G S l D sz0) { frames := 4, cells := 0, slots := 0, locals := 105 } (ze_E P)) (hR : zkj_R X (zd_PJ S rv rh) (some .long)) (n : Nat) : ∀ (h : zs_H) (x1 : Int32) (x2 : Int32) (x3 : Int32), f_Mo_sumOf_L8 n h x1 x2 x3 = some (rv, rh) → zk_Ab X (zs_W S h) 0 0 8 [(0, .ref (S.1 68)), (1, .int x1), (2, .int x2), (3, .int x3)] [] := by
  induction n with
  | zero => intro h x1 x2 x3 e; exact zd_no e
  | succ n ih => intro h x1 x2 x3 e; exact zb_Mo_sumOf_8 (k8 := f_Mo_sumOf_L8  n) C hR ih h x1 x2 x3 e
set_option maxHeartbeats 4000000 in
set_option maxRecDepth 100000 in
theorem zc_Mo_sumOf {l : Launch} {D : va_G} {sz0 : Nat} {S : zs_T} {P : ze_T} (h : zs_H) (x1 : Int32) {rv : Int64} {rh : zs_H} (e : f_Mo_sumOf h x1 = some (rv, rh)) : zk_Sp (zs_G S l D sz0) (ze_E P) km_Mo_sumOf { frames := 4, cells := 0, slots := 0, locals := 105 } [.ref (S.1 68), .int x1] (zs_W S h) (zd_PJ S rv rh) := by
  refine zk_met ku_Mo_sumOf (Nat.le_of_ble_eq_true rfl) (ze_Em P) ?_
  intro X C hR
  refine zk_lvs (lv' := [(0, .ref (S.1 68)), (1, .int x1)]) [0, 1] rfl ?_
  unfold f_Mo_sumOf at e
  refine zk_aload_n C kd_Mo_sumOf_0 rfl 0 rfl rfl ?_
  refine zk_iload_n C kd_Mo_sumOf_1 rfl 1 rfl rfl ?_
  obtain ⟨v2, c1, e⟩ := zd_b e
  refine zs_callV (k := 68) (rn := { frames := 0, cells := 0, slots := 0, locals := 0 }) (As := [.int x1]) (rest := []) C (zc_Mo_sizeOf h x1 c1) ku_Mo_sizeOf kw2668 kv_Mo_sizeOf rfl ⟨by decide, by decide⟩ ⟨by decide, by decide⟩ rfl rfl rfl (Nat.le_of_ble_eq_true rfl) kd_Mo_sumOf_2 rfl (c1 := 0) (s1 := 0) rfl rfl (fun v w hp => ?_)
  obtain ⟨rfl, rfl⟩ := hp
  refine zk_stk (r' := [.int v2]) rfl ?_
  refine zk_istore_n (lv' := [(2, _), (0, _), (1, _)]) C kd_Mo_sumOf_5 rfl (by decide) rfl rfl ?_
  refine zk_iload_n C kd_Mo_sumOf_6 rfl 0 rfl rfl ?_
  refine zk_istore_n (lv' := [(3, _), (2, _), (0, _), (1, _)]) C kd_Mo_sumOf_7 rfl (by decide) rfl rfl ?_
  refine zk_lvs (lv' := [(0, .ref (S.1 68)), (1, .int x1), (2, .int v2), (3, .int v2)]) [2, 3, 1, 0] rfl ?_
  exact zl_Mo_sumOf_8 C hR zF h x1 v2 v2 e
set_option maxHeartbeats 4000000 in
set_option maxRecDepth 100000 in
theorem zc_Mo_end {l : Launch} {D : va_G} {sz0 : Nat} {S : zs_T} {P : ze_T} (h : zs_H) (x1 : Int32) {rv : Int32} {rh : zs_H} (e : f_Mo_end h x1 = some (rv, rh)) : zk_Sp (zs_G S l D sz0) (ze_E P) km_Mo_end { frames := 0, cells := 0, slots := 0, locals := 0 } [.ref (S.1 68), .int x1] (zs_W S h) (zd_PI S rv rh) := by
  refine zk_met ku_Mo_end (Nat.le_of_ble_eq_true rfl) (ze_Em P) ?_
  intro X C hR
  refine zk_lvs (lv' := [(0, .ref (S.1 68)), (1, .int x1)]) [0, 1] rfl ?_
  unfold f_Mo_end at e
  refine zk_iload_n C kd_Mo_end_0 rfl 1 rfl rfl ?_
  refine zk_if_lt (tgt := 19) C kd_Mo_end_1 (by decide) rfl (fun b1 => ?_) (fun b1 => ?_)
  · replace e := zd_pos b1 e
    refine zk_iconst (v := (-1)) C kd_Mo_end_19 (by decide) rfl ?_
    exact zk_iret C hR kd_Mo_end_20 rfl rfl (zd_rIS e)
  · replace e := zd_neg b1 e
    refine zk_iload_n C kd_Mo_end_4 rfl 1 rfl rfl ?_
    refine zk_bipush (v := 20) C kd_Mo_end_5 (by decide) rfl ?_
    refine zk_icmp_gt (tgt := 19) C kd_Mo_end_7 (by decide) rfl (fun b2 => ?_) (fun b2 => ?_)
    · replace e := zd_pos b2 e
      refine zk_iconst (v := (-1)) C kd_Mo_end_19 (by decide) rfl ?_
      exact zk_iret C hR kd_Mo_end_20 rfl rfl (zd_rIS e)
    · replace e := zd_neg b2 e
      refine zk_aload_n C kd_Mo_end_10 rfl 0 rfl rfl ?_
      refine zs_get (v := .int (h.1 68 78)) C 68 78 rfl rfl rfl rfl ki_Mo (by decide) kw1761 kd_Mo_end_11 rfl ?_
      refine zk_bipush (v := 20) C kd_Mo_end_14 (by decide) rfl ?_
      refine zk_icmp_ge (tgt := 21) C kd_Mo_end_16 (by decide) rfl (fun b3 => ?_) (fun b3 => ?_)
      · replace e := zd_pos b3 e
        refine zk_aload_n C kd_Mo_end_21 rfl 0 rfl rfl ?_
        refine zk_aload_n C kd_Mo_end_22 rfl 0 rfl rfl ?_
        refine zs_get (v := .int (h.1 68 78)) C 68 78 rfl rfl rfl rfl ki_Mo (by decide) kw1761 kd_Mo_end_23 rfl ?_
        refine zk_bipush (v := 20) C kd_Mo_end_26 (by decide) rfl ?_
        refine zk_isub C kd_Mo_end_28 rfl ?_
        refine zk_iload_n C kd_Mo_end_29 rfl 1 rfl rfl ?_
        refine zk_iadd C kd_Mo_end_30 rfl ?_
        refine zs_put (ty := .int) C 68 78 (((h.1 68 78) - 20) + x1) rfl rfl rfl rfl ki_Mo ky_Mo ko_Mo kn_Mo (by decide) kw1761 rfl rfl rfl rfl (by decide) kd_Mo_end_31 rfl ?_
        refine zk_aload_n C kd_Mo_end_34 rfl 0 rfl rfl ?_
        refine zs_get (v := .int (((h.1 68 78) - 20) + x1)) C 68 78 rfl rfl rfl rfl ki_Mo (by decide) kw1761 kd_Mo_end_35 rfl ?_
        exact zk_iret C hR kd_Mo_end_38 rfl rfl (zd_rIS e)
      · replace e := zd_neg b3 e
        refine zk_iconst (v := (-1)) C kd_Mo_end_19 (by decide) rfl ?_
        exact zk_iret C hR kd_Mo_end_20 rfl rfl (zd_rIS e)
set_option maxHeartbeats 4000000 in
set_option maxRecDepth 100000 in
theorem zb_Mo_bring_3 {X : zkj_T} {S : zs_T} {P : ze_T} {l : Launch} {D : va_G} {sz0 : Nat} {rh : zs_H} (C : zk_C X km_Mo_bring (zs_G S l D sz0) { frames := 0, cells := 0, slots := 0, locals := 0 } (ze_E P)) (hR : zkj_R X (zd_PV S rh) (none)) {k3 : zs_H → Int32 → Int32 → (Option zs_H)} (hk3 : ∀ (h : zs_H) (x1 : Int32) (x2 : Int32), k3 h x1 x2 = some rh → zk_Ab X (zs_W S h) 0 0 3 [(0, .ref (S.1 68)), (1, .int x1), (2, .int x2)] []) (h : zs_H) (x1 : Int32) (x2 : Int32) (e : f_Mo_bring_3 k3 h x1 x2 = some rh) : zk_Ab X (zs_W S h) 0 0 3 [(0, .ref (S.1 68)), (1, .int x1), (2, .int x2)] [] := by
  unfold f_Mo_bring_3 at e
  refine zk_iload_n C kd_Mo_bring_3 rfl 2 rfl rfl ?_
  refine zk_if_lt (tgt := 36) C kd_Mo_bring_4 (by decide) rfl (fun b1 => ?_) (fun b1 => ?_)
  · replace e := zd_pos b1 e
    exact zk_vret C hR kd_Mo_bring_36 rfl rfl (zd_rV e)
  · replace e := zd_neg b1 e
    refine zk_aload_n C kd_Mo_bring_7 rfl 0 rfl rfl ?_
    refine zs_get (v := .ref (S.1 116)) C 68 79 rfl rfl rfl rfl ki_Mo (by decide) kw1762 kd_Mo_bring_8 rfl ?_
    refine zk_aload_n C kd_Mo_bring_11 rfl 0 rfl rfl ?_
    refine zs_get (v := .int (h.1 68 78)) C 68 78 rfl rfl rfl rfl ki_Mo (by decide) kw1761 kd_Mo_bring_12 rfl ?_
    refine zk_iload_n C kd_Mo_bring_15 rfl 1 rfl rfl ?_
    refine zk_iload_n C kd_Mo_bring_16 rfl 2 rfl rfl ?_
    refine zk_ishr C kd_Mo_bring_17 rfl ?_
    refine zk_i2b C kd_Mo_bring_18 rfl ?_
    obtain ⟨q2, e⟩ := zd_g e
    refine zs_bast C 116 rfl (zd_vp q2) kd_Mo_bring_19 rfl ?_
    refine zk_aload_n C kd_Mo_bring_20 rfl 0 rfl rfl ?_
    refine zk_dup C kd_Mo_bring_21 rfl rfl ?_
    refine zs_get (v := .int (h.1 68 78)) C 68 78 rfl rfl rfl rfl ki_Mo (by decide) kw1761 kd_Mo_bring_22 rfl ?_
    refine zk_iconst (v := 1) C kd_Mo_bring_25 (by decide) rfl ?_
    refine zk_iadd C kd_Mo_bring_26 rfl ?_
    refine zs_put (ty := .int) C 68 78 ((h.1 68 78) + 1) rfl rfl rfl rfl ki_Mo ky_Mo ko_Mo kn_Mo (by decide) kw1761 rfl rfl rfl rfl (by decide) kd_Mo_bring_27 rfl ?_
    refine zk_iinc (v := (x2 + (-8))) (lv' := [(2, _), (0, _), (1, _)]) C kd_Mo_bring_30 2 rfl rfl (by decide) rfl rfl ?_
    refine zk_goto (tgt := 3) C kd_Mo_bring_33 (by decide) ?_
    refine zk_lvs (lv' := [(0, .ref (S.1 68)), (1, .int x1), (2, .int (x2 + (-8)))]) [1, 2, 0] rfl ?_
    exact hk3 (zs_uF (zs_uM h 116 (h.1 68 78).toNatClampNeg (vp_nar .byte ((x1 >>> (x2 &&& 31)).toInt8.toInt32))) 68 78 ((h.1 68 78) + 1)) x1 (x2 + (-8)) e
theorem zl_Mo_bring_3 {X : zkj_T} {S : zs_T} {P : ze_T} {l : Launch} {D : va_G} {sz0 : Nat} {rh : zs_H} (C : zk_C X km_Mo_bring (zs_G S l D sz0) { frames := 0, cells := 0, slots := 0, locals := 0 } (ze_E P)) (hR : zkj_R X (zd_PV S rh) (none)) (n : Nat) : ∀ (h : zs_H) (x1 : Int32) (x2 : Int32), f_Mo_bring_L3 n h x1 x2 = some rh → zk_Ab X (zs_W S h) 0 0 3 [(0, .ref (S.1 68)), (1, .int x1), (2, .int x2)] [] := by
  induction n with
  | zero => intro h x1 x2 e; exact zd_no e
  | succ n ih => intro h x1 x2 e; exact zb_Mo_bring_3 (k3 := f_Mo_bring_L3  n) C hR ih h x1 x2 e
set_option maxHeartbeats 4000000 in
set_option maxRecDepth 100000 in
theorem zc_Mo_bring {l : Launch} {D : va_G} {sz0 : Nat} {S : zs_T} {P : ze_T} (h : zs_H) (x1 : Int32) {rh : zs_H} (e : f_Mo_bring h x1 = some rh) : zk_Sp (zs_G S l D sz0) (ze_E P) km_Mo_bring { frames := 0, cells := 0, slots := 0, locals := 0 } [.ref (S.1 68), .int x1] (zs_W S h) (zd_PV S rh) := by
  refine zk_met ku_Mo_bring (Nat.le_of_ble_eq_true rfl) (ze_Em P) ?_
  intro X C hR
  refine zk_lvs (lv' := [(0, .ref (S.1 68)), (1, .int x1)]) [0, 1] rfl ?_
  unfold f_Mo_bring at e
  refine zk_bipush (v := 24) C kd_Mo_bring_0 (by decide) rfl ?_
  refine zk_istore_n (lv' := [(2, _), (0, _), (1, _)]) C kd_Mo_bring_2 rfl (by decide) rfl rfl ?_
  refine zk_lvs (lv' := [(0, .ref (S.1 68)), (1, .int x1), (2, .int 24)]) [1, 2, 0] rfl ?_
  exact zl_Mo_bring_3 C hR zF h x1 24 e
set_option maxHeartbeats 4000000 in
set_option maxRecDepth 100000 in
theorem zc_Mo_feed {l : Launch} {D : va_G} {sz0 : Nat} {S : zs_T} {P : ze_T} (h : zs_H) (x1 : Int32) (x2 : Int32) (x3 : Int32) (x4 : Int32) (x5 : Int32) {rv : Int32} {rh : zs_H} (e : f_Mo_feed h x1 x2 x3 x4 x5 = some (rv, rh)) : zk_Sp (zs_G S l D sz0) (ze_E P) km_Mo_feed { frames := 1, cells := 0, slots := 0, locals := 22 } [.ref (S.1 68), .int x1, .int x2, .int x3, .int x4, .int x5] (zs_W S h) (zd_PI S rv rh) := by
  refine zk_met ku_Mo_feed (Nat.le_of_ble_eq_true rfl) (ze_Em P) ?_
  intro X C hR
  refine zk_lvs (lv' := [(0, .ref (S.1 68)), (1, .int x1), (2, .int x2), (3, .int x3), (4, .int x4), (5, .int x5)]) [0, 1, 2, 3, 4, 5] rfl ?_
  unfold f_Mo_feed at e
  refine zk_aload_n C kd_Mo_feed_0 rfl 0 rfl rfl ?_
  refine zs_get (v := .int (h.1 68 78)) C 68 78 rfl rfl rfl rfl ki_Mo (by decide) kw1761 kd_Mo_feed_1 rfl ?_
  refine zk_bipush (v := 20) C kd_Mo_feed_4 (by decide) rfl ?_
  refine zk_iadd C kd_Mo_feed_6 rfl ?_
  refine zk_sipush (v := 16384) C kd_Mo_feed_7 (by decide) rfl ?_
  refine zk_icmp_le (tgt := 15) C kd_Mo_feed_10 (by decide) rfl (fun b1 => ?_) (fun b1 => ?_)
  · replace e := zd_pos b1 e
    refine zk_aload_n C kd_Mo_feed_15 rfl 0 rfl rfl ?_
    refine zk_iload_n C kd_Mo_feed_16 rfl 1 rfl rfl ?_
    obtain ⟨h3, c2, e⟩ := zd_b e
    refine zs_callV (k := 68) (rn := { frames := 0, cells := 0, slots := 0, locals := 0 }) (As := [.int x1]) (rest := []) C (zc_Mo_bring h x1 c2) ku_Mo_bring kw1976 kv_Mo_bring rfl ⟨by decide, by decide⟩ ⟨by decide, by decide⟩ rfl rfl rfl (Nat.le_of_ble_eq_true rfl) kd_Mo_feed_17 rfl (c1 := 0) (s1 := 0) rfl rfl (fun v w hp => ?_)
    obtain ⟨rfl, rfl⟩ := hp
    refine zk_stk (r' := []) rfl ?_
    refine zk_aload_n C kd_Mo_feed_20 rfl 0 rfl rfl ?_
    refine zk_iload_n C kd_Mo_feed_21 rfl 2 rfl rfl ?_
    obtain ⟨h5, c4, e⟩ := zd_b e
    refine zs_callV (k := 68) (rn := { frames := 0, cells := 0, slots := 0, locals := 0 }) (As := [.int x2]) (rest := []) C (zc_Mo_bring h3 x2 c4) ku_Mo_bring kw1976 kv_Mo_bring rfl ⟨by decide, by decide⟩ ⟨by decide, by decide⟩ rfl rfl rfl (Nat.le_of_ble_eq_true rfl) kd_Mo_feed_22 rfl (c1 := 0) (s1 := 0) rfl rfl (fun v w hp => ?_)
    obtain ⟨rfl, rfl⟩ := hp
    refine zk_stk (r' := []) rfl ?_
    refine zk_aload_n C kd_Mo_feed_25 rfl 0 rfl rfl ?_
    refine zk_iload_n C kd_Mo_feed_26 rfl 3 rfl rfl ?_
    obtain ⟨h7, c6, e⟩ := zd_b e
    refine zs_callV (k := 68) (rn := { frames := 0, cells := 0, slots := 0, locals := 0 }) (As := [.int x3]) (rest := []) C (zc_Mo_bring h5 x3 c6) ku_Mo_bring kw1976 kv_Mo_bring rfl ⟨by decide, by decide⟩ ⟨by decide, by decide⟩ rfl rfl rfl (Nat.le_of_ble_eq_true rfl) kd_Mo_feed_27 rfl (c1 := 0) (s1 := 0) rfl rfl (fun v w hp => ?_)
    obtain ⟨rfl, rfl⟩ := hp
    refine zk_stk (r' := []) rfl ?_
    refine zk_aload_n C kd_Mo_feed_30 rfl 0 rfl rfl ?_
    refine zk_iload C kd_Mo_feed_31 4 rfl rfl ?_
    obtain ⟨h9, c8, e⟩ := zd_b e
    refine zs_callV (k := 68) (rn := { frames := 0, cells := 0, slots := 0, locals := 0 }) (As := [.int x4]) (rest := []) C (zc_Mo_bring h7 x4 c8) ku_Mo_bring kw1976 kv_Mo_bring rfl ⟨by decide, by decide⟩ ⟨by decide, by decide⟩ rfl rfl rfl (Nat.le_of_ble_eq_true rfl) kd_Mo_feed_33 rfl (c1 := 0) (s1 := 0) rfl rfl (fun v w hp => ?_)
    obtain ⟨rfl, rfl⟩ := hp
    refine zk_stk (r' := []) rfl ?_
    refine zk_aload_n C kd_Mo_feed_36 rfl 0 rfl rfl ?_
    refine zk_iload C kd_Mo_feed_37 5 rfl rfl ?_
    obtain ⟨h11, c10, e⟩ := zd_b e
    refine zs_callV (k := 68) (rn := { frames := 0, cells := 0, slots := 0, locals := 0 }) (As := [.int x5]) (rest := []) C (zc_Mo_bring h9 x5 c10) ku_Mo_bring kw1976 kv_Mo_bring rfl ⟨by decide, by decide⟩ ⟨by decide, by decide⟩ rfl rfl rfl (Nat.le_of_ble_eq_true rfl) kd_Mo_feed_39 rfl (c1 := 0) (s1 := 0) rfl rfl (fun v w hp => ?_)
    obtain ⟨rfl, rfl⟩ := hp
    refine zk_stk (r' := []) rfl ?_
    refine zk_aload_n C kd_Mo_feed_42 rfl 0 rfl rfl ?_
    refine zs_get (v := .int (h11.1 68 78)) C 68 78 rfl rfl rfl rfl ki_Mo (by decide) kw1761 kd_Mo_feed_43 rfl ?_
    exact zk_iret C hR kd_Mo_feed_46 rfl rfl (zd_rIS e)
  · replace e := zd_neg b1 e
    refine zk_iconst (v := (-1)) C kd_Mo_feed_13 (by decide) rfl ?_
    exact zk_iret C hR kd_Mo_feed_14 rfl rfl (zd_rIS e)
set_option maxHeartbeats 4000000 in
set_option maxRecDepth 100000 in
theorem zb_Ar_fill_c62_5 {X : zkj_T} {S : zs_T} {P : ze_T} {l : Launch} {D : va_G} {sz0 : Nat} {rh : zs_H} (C : zk_C X km_Ar_fill (zs_G S l D sz0) { frames := 0, cells := 0, slots := 0, locals := 0 } (ze_E P)) (hR : zkj_R X (zd_PV S rh) (none)) {k5 : zs_H → Int32 → Int32 → Int32 → (Option zs_H)} (hk5 : ∀ (h : zs_H) (x1 : Int32) (x2 : Int32) (x3 : Int32), k5 h x1 x2 x3 = some rh → zk_Ab X (zs_W S h) 0 0 5 [(0, .ref (S.1 62)), (1, .int x1), (2, .int x2), (3, .int x3)] []) (h : zs_H) (x1 : Int32) (x2 : Int32) (x3 : Int32) (e : f_Ar_fill_c62_5 k5 h x1 x2 x3 = some rh) : zk_Ab X (zs_W S h) 0 0 5 [(0, .ref (S.1 62)), (1, .int x1), (2, .int x2), (3, .int x3)] [] := by
  unfold f_Ar_fill_c62_5 at e
  refine zk_iload_n C kd_Ar_fill_5 rfl 2 rfl rfl ?_
  refine zk_iload_n C kd_Ar_fill_6 rfl 3 rfl rfl ?_
  refine zk_icmp_ge (tgt := 20) C kd_Ar_fill_7 (by decide) rfl (fun b1 => ?_) (fun b1 => ?_)
  · replace e := zd_pos b1 e
    exact zk_vret C hR kd_Ar_fill_20 rfl rfl (zd_rV e)
  · replace e := zd_neg b1 e
    refine zk_aload_n C kd_Ar_fill_10 rfl 0 rfl rfl ?_
    refine zk_iload_n C kd_Ar_fill_11 rfl 2 rfl rfl ?_
    refine zk_iload_n C kd_Ar_fill_12 rfl 1 rfl rfl ?_
    obtain ⟨q2, e⟩ := zd_g e
    refine zs_iast C 62 rfl (zd_vp q2) kd_Ar_fill_13 rfl ?_
    refine zk_iinc (v := (x2 + 1)) (lv' := [(2, _), (0, _), (1, _), (3, _)]) C kd_Ar_fill_14 2 rfl rfl (by decide) rfl rfl ?_
    refine zk_goto (tgt := 5) C kd_Ar_fill_17 (by decide) ?_
    refine zk_lvs (lv' := [(0, .ref (S.1 62)), (1, .int x1), (2, .int (x2 + 1)), (3, .int x3)]) [1, 2, 0, 3] rfl ?_
    exact hk5 (zs_uM h 62 x2.toNatClampNeg x1) x1 (x2 + 1) x3 e
theorem zl_Ar_fill_c62_5 {X : zkj_T} {S : zs_T} {P : ze_T} {l : Launch} {D : va_G} {sz0 : Nat} {rh : zs_H} (C : zk_C X km_Ar_fill (zs_G S l D sz0) { frames := 0, cells := 0, slots := 0, locals := 0 } (ze_E P)) (hR : zkj_R X (zd_PV S rh) (none)) (n : Nat) : ∀ (h : zs_H) (x1 : Int32) (x2 : Int32) (x3 : Int32), f_Ar_fill_c62_L5 n h x1 x2 x3 = some rh → zk_Ab X (zs_W S h) 0 0 5 [(0, .ref (S.1 62)), (1, .int x1), (2, .int x2), (3, .int x3)] [] := by
  induction n with
  | zero => intro h x1 x2 x3 e; exact zd_no e
  | succ n ih => intro h x1 x2 x3 e; exact zb_Ar_fill_c62_5 (k5 := f_Ar_fill_c62_L5  n) C hR ih h x1 x2 x3 e
set_option maxHeartbeats 4000000 in
set_option maxRecDepth 100000 in
theorem zc_Ar_fill_c62 {l : Launch} {D : va_G} {sz0 : Nat} {S : zs_T} {P : ze_T} (h : zs_H) (x1 : Int32) {rh : zs_H} (e : f_Ar_fill_c62 h x1 = some rh) : zk_Sp (zs_G S l D sz0) (ze_E P) km_Ar_fill { frames := 0, cells := 0, slots := 0, locals := 0 } [.ref (S.1 62), .int x1] (zs_W S h) (zd_PV S rh) := by
  refine zk_met ku_Ar_fill (Nat.le_of_ble_eq_true rfl) (ze_Em P) ?_
  intro X C hR
  refine zk_lvs (lv' := [(0, .ref (S.1 62)), (1, .int x1)]) [0, 1] rfl ?_
  unfold f_Ar_fill_c62 at e
  refine zk_iconst (v := 0) C kd_Ar_fill_0 (by decide) rfl ?_
  refine zk_istore_n (lv' := [(2, _), (0, _), (1, _)]) C kd_Ar_fill_1 rfl (by decide) rfl rfl ?_
  refine zk_aload_n C kd_Ar_fill_2 rfl 1 rfl rfl ?_
  refine zs_alen (v := 8192) C 62 rfl (by decide) rfl kd_Ar_fill_3 rfl ?_
  refine zk_istore_n (lv' := [(3, _), (2, _), (0, _), (1, _)]) C kd_Ar_fill_4 rfl (by decide) rfl rfl ?_
  refine zk_lvs (lv' := [(0, .ref (S.1 62)), (1, .int x1), (2, .int 0), (3, .int 8192)]) [2, 3, 1, 0] rfl ?_
  exact zl_Ar_fill_c62_5 C hR zF h x1 0 8192 e
set_option maxHeartbeats 4000000 in
set_option maxRecDepth 100000 in
theorem zb_Ar_fill_c65_5 {X : zkj_T} {S : zs_T} {P : ze_T} {l : Launch} {D : va_G} {sz0 : Nat} {rh : zs_H} (C : zk_C X km_Ar_fill (zs_G S l D sz0) { frames := 0, cells := 0, slots := 0, locals := 0 } (ze_E P)) (hR : zkj_R X (zd_PV S rh) (none)) {k5 : zs_H → Int32 → Int32 → Int32 → (Option zs_H)} (hk5 : ∀ (h : zs_H) (x1 : Int32) (x2 : Int32) (x3 : Int32), k5 h x1 x2 x3 = some rh → zk_Ab X (zs_W S h) 0 0 5 [(0, .ref (S.1 65)), (1, .int x1), (2, .int x2), (3, .int x3)] []) (h : zs_H) (x1 : Int32) (x2 : Int32) (x3 : Int32) (e : f_Ar_fill_c65_5 k5 h x1 x2 x3 = some rh) : zk_Ab X (zs_W S h) 0 0 5 [(0, .ref (S.1 65)), (1, .int x1), (2, .int x2), (3, .int x3)] [] := by
  unfold f_Ar_fill_c65_5 at e
  refine zk_iload_n C kd_Ar_fill_5 rfl 2 rfl rfl ?_
  refine zk_iload_n C kd_Ar_fill_6 rfl 3 rfl rfl ?_
  refine zk_icmp_ge (tgt := 20) C kd_Ar_fill_7 (by decide) rfl (fun b1 => ?_) (fun b1 => ?_)
  · replace e := zd_pos b1 e
    exact zk_vret C hR kd_Ar_fill_20 rfl rfl (zd_rV e)
  · replace e := zd_neg b1 e
    refine zk_aload_n C kd_Ar_fill_10 rfl 0 rfl rfl ?_
    refine zk_iload_n C kd_Ar_fill_11 rfl 2 rfl rfl ?_
    refine zk_iload_n C kd_Ar_fill_12 rfl 1 rfl rfl ?_
    obtain ⟨q2, e⟩ := zd_g e
    refine zs_iast C 65 rfl (zd_vp q2) kd_Ar_fill_13 rfl ?_
    refine zk_iinc (v := (x2 + 1)) (lv' := [(2, _), (0, _), (1, _), (3, _)]) C kd_Ar_fill_14 2 rfl rfl (by decide) rfl rfl ?_
    refine zk_goto (tgt := 5) C kd_Ar_fill_17 (by decide) ?_
    refine zk_lvs (lv' := [(0, .ref (S.1 65)), (1, .int x1), (2, .int (x2 + 1)), (3, .int x3)]) [1, 2, 0, 3] rfl ?_
    exact hk5 (zs_uM h 65 x2.toNatClampNeg x1) x1 (x2 + 1) x3 e
theorem zl_Ar_fill_c65_5 {X : zkj_T} {S : zs_T} {P : ze_T} {l : Launch} {D : va_G} {sz0 : Nat} {rh : zs_H} (C : zk_C X km_Ar_fill (zs_G S l D sz0) { frames := 0, cells := 0, slots := 0, locals := 0 } (ze_E P)) (hR : zkj_R X (zd_PV S rh) (none)) (n : Nat) : ∀ (h : zs_H) (x1 : Int32) (x2 : Int32) (x3 : Int32), f_Ar_fill_c65_L5 n h x1 x2 x3 = some rh → zk_Ab X (zs_W S h) 0 0 5 [(0, .ref (S.1 65)), (1, .int x1), (2, .int x2), (3, .int x3)] [] := by
  induction n with
  | zero => intro h x1 x2 x3 e; exact zd_no e
  | succ n ih => intro h x1 x2 x3 e; exact zb_Ar_fill_c65_5 (k5 := f_Ar_fill_c65_L5  n) C hR ih h x1 x2 x3 e
set_option maxHeartbeats 4000000 in
set_option maxRecDepth 100000 in
theorem zc_Ar_fill_c65 {l : Launch} {D : va_G} {sz0 : Nat} {S : zs_T} {P : ze_T} (h : zs_H) (x1 : Int32) {rh : zs_H} (e : f_Ar_fill_c65 h x1 = some rh) : zk_Sp (zs_G S l D sz0) (ze_E P) km_Ar_fill { frames := 0, cells := 0, slots := 0, locals := 0 } [.ref (S.1 65), .int x1] (zs_W S h) (zd_PV S rh) := by
  refine zk_met ku_Ar_fill (Nat.le_of_ble_eq_true rfl) (ze_Em P) ?_
  intro X C hR
  refine zk_lvs (lv' := [(0, .ref (S.1 65)), (1, .int x1)]) [0, 1] rfl ?_
  unfold f_Ar_fill_c65 at e
  refine zk_iconst (v := 0) C kd_Ar_fill_0 (by decide) rfl ?_
  refine zk_istore_n (lv' := [(2, _), (0, _), (1, _)]) C kd_Ar_fill_1 rfl (by decide) rfl rfl ?_
  refine zk_aload_n C kd_Ar_fill_2 rfl 1 rfl rfl ?_
  refine zs_alen (v := 16) C 65 rfl (by decide) rfl kd_Ar_fill_3 rfl ?_
  refine zk_istore_n (lv' := [(3, _), (2, _), (0, _), (1, _)]) C kd_Ar_fill_4 rfl (by decide) rfl rfl ?_
  refine zk_lvs (lv' := [(0, .ref (S.1 65)), (1, .int x1), (2, .int 0), (3, .int 16)]) [2, 3, 1, 0] rfl ?_
  exact zl_Ar_fill_c65_5 C hR zF h x1 0 16 e
set_option maxHeartbeats 4000000 in
set_option maxRecDepth 100000 in
theorem zb_Ar_fill_c7_5 {X : zkj_T} {S : zs_T} {P : ze_T} {l : Launch} {D : va_G} {sz0 : Nat} {rh : zs_H} (C : zk_C X km_Ar_fill (zs_G S l D sz0) { frames := 0, cells := 0, slots := 0, locals := 0 } (ze_E P)) (hR : zkj_R X (zd_PV S rh) (none)) {k5 : zs_H → Int32 → Int32 → Int32 → (Option zs_H)} (hk5 : ∀ (h : zs_H) (x1 : Int32) (x2 : Int32) (x3 : Int32), k5 h x1 x2 x3 = some rh → zk_Ab X (zs_W S h) 0 0 5 [(0, .ref (S.1 7)), (1, .int x1), (2, .int x2), (3, .int x3)] []) (h : zs_H) (x1 : Int32) (x2 : Int32) (x3 : Int32) (e : f_Ar_fill_c7_5 k5 h x1 x2 x3 = some rh) : zk_Ab X (zs_W S h) 0 0 5 [(0, .ref (S.1 7)), (1, .int x1), (2, .int x2), (3, .int x3)] [] := by
  unfold f_Ar_fill_c7_5 at e
  refine zk_iload_n C kd_Ar_fill_5 rfl 2 rfl rfl ?_
  refine zk_iload_n C kd_Ar_fill_6 rfl 3 rfl rfl ?_
  refine zk_icmp_ge (tgt := 20) C kd_Ar_fill_7 (by decide) rfl (fun b1 => ?_) (fun b1 => ?_)
  · replace e := zd_pos b1 e
    exact zk_vret C hR kd_Ar_fill_20 rfl rfl (zd_rV e)
  · replace e := zd_neg b1 e
    refine zk_aload_n C kd_Ar_fill_10 rfl 0 rfl rfl ?_
    refine zk_iload_n C kd_Ar_fill_11 rfl 2 rfl rfl ?_
    refine zk_iload_n C kd_Ar_fill_12 rfl 1 rfl rfl ?_
    obtain ⟨q2, e⟩ := zd_g e
    refine zs_iast C 7 rfl (zd_vp q2) kd_Ar_fill_13 rfl ?_
    refine zk_iinc (v := (x2 + 1)) (lv' := [(2, _), (0, _), (1, _), (3, _)]) C kd_Ar_fill_14 2 rfl rfl (by decide) rfl rfl ?_
    refine zk_goto (tgt := 5) C kd_Ar_fill_17 (by decide) ?_
    refine zk_lvs (lv' := [(0, .ref (S.1 7)), (1, .int x1), (2, .int (x2 + 1)), (3, .int x3)]) [1, 2, 0, 3] rfl ?_
    exact hk5 (zs_uM h 7 x2.toNatClampNeg x1) x1 (x2 + 1) x3 e
theorem zl_Ar_fill_c7_5 {X : zkj_T} {S : zs_T} {P : ze_T} {l : Launch} {D : va_G} {sz0 : Nat} {rh : zs_H} (C : zk_C X km_Ar_fill (zs_G S l D sz0) { frames := 0, cells := 0, slots := 0, locals := 0 } (ze_E P)) (hR : zkj_R X (zd_PV S rh) (none)) (n : Nat) : ∀ (h : zs_H) (x1 : Int32) (x2 : Int32) (x3 : Int32), f_Ar_fill_c7_L5 n h x1 x2 x3 = some rh → zk_Ab X (zs_W S h) 0 0 5 [(0, .ref (S.1 7)), (1, .int x1), (2, .int x2), (3, .int x3)] [] := by
  induction n with
  | zero => intro h x1 x2 x3 e; exact zd_no e
  | succ n ih => intro h x1 x2 x3 e; exact zb_Ar_fill_c7_5 (k5 := f_Ar_fill_c7_L5  n) C hR ih h x1 x2 x3 e
set_option maxHeartbeats 4000000 in
set_option maxRecDepth 100000 in
theorem zc_Ar_fill_c7 {l : Launch} {D : va_G} {sz0 : Nat} {S : zs_T} {P : ze_T} (h : zs_H) (x1 : Int32) {rh : zs_H} (e : f_Ar_fill_c7 h x1 = some rh) : zk_Sp (zs_G S l D sz0) (ze_E P) km_Ar_fill { frames := 0, cells := 0, slots := 0, locals := 0 } [.ref (S.1 7), .int x1] (zs_W S h) (zd_PV S rh) := by
  refine zk_met ku_Ar_fill (Nat.le_of_ble_eq_true rfl) (ze_Em P) ?_
  intro X C hR
  refine zk_lvs (lv' := [(0, .ref (S.1 7)), (1, .int x1)]) [0, 1] rfl ?_
  unfold f_Ar_fill_c7 at e
  refine zk_iconst (v := 0) C kd_Ar_fill_0 (by decide) rfl ?_
  refine zk_istore_n (lv' := [(2, _), (0, _), (1, _)]) C kd_Ar_fill_1 rfl (by decide) rfl rfl ?_
  refine zk_aload_n C kd_Ar_fill_2 rfl 1 rfl rfl ?_
  refine zs_alen (v := 1024) C 7 rfl (by decide) rfl kd_Ar_fill_3 rfl ?_
  refine zk_istore_n (lv' := [(3, _), (2, _), (0, _), (1, _)]) C kd_Ar_fill_4 rfl (by decide) rfl rfl ?_
  refine zk_lvs (lv' := [(0, .ref (S.1 7)), (1, .int x1), (2, .int 0), (3, .int 1024)]) [2, 3, 1, 0] rfl ?_
  exact zl_Ar_fill_c7_5 C hR zF h x1 0 1024 e
set_option maxHeartbeats 4000000 in
set_option maxRecDepth 100000 in
theorem zb_Sl_indexOfChar_v4_7 {X : zkj_T} {S : zs_T} {P : ze_T} {l : Launch} {D : va_G} {sz0 : Nat} {rv : Int32} {h : zs_H} (C : zk_C X km_Sl_indexOfChar (zs_G S l D sz0) { frames := 0, cells := 0, slots := 0, locals := 0 } (ze_E P)) (hR : zkj_R X (zd_PI S rv h) (some .int)) {k7 : Int32 → Int32 → Int32 → (Option Int32)} (hk7 : ∀ (x3 : Int32) (x4 : Int32) (x5 : Int32), k7 x3 x4 x5 = some rv → zk_Ab X (zs_W S h) 0 0 7 [(0, .ref (P.2.1 4)), (3, .int x3), (4, .int x4), (5, .int x5)] []) (x3 : Int32) (x4 : Int32) (x5 : Int32) (e : f_Sl_indexOfChar_v4_7 k7 x3 x4 x5 = some rv) : zk_Ab X (zs_W S h) 0 0 7 [(0, .ref (P.2.1 4)), (3, .int x3), (4, .int x4), (5, .int x5)] [] := by
  unfold f_Sl_indexOfChar_v4_7 at e
  refine zk_iload C kd_Sl_indexOfChar_7 3 rfl rfl ?_
  refine zk_iload_n C kd_Sl_indexOfChar_9 rfl 1 rfl rfl ?_
  refine zk_icmp_ge (tgt := 31) C kd_Sl_indexOfChar_10 (by decide) rfl (fun b1 => ?_) (fun b1 => ?_)
  · replace e := zd_pos b1 e
    refine zk_iconst (v := (-1)) C kd_Sl_indexOfChar_31 (by decide) rfl ?_
    exact zk_iret C hR kd_Sl_indexOfChar_32 rfl rfl (zd_rIO e)
  · replace e := zd_neg b1 e
    refine zk_aload_n C kd_Sl_indexOfChar_13 rfl 0 rfl rfl ?_
    refine zk_iload C kd_Sl_indexOfChar_14 3 rfl rfl ?_
    obtain ⟨q2, e⟩ := zd_g e
    refine ze_vld C (by decide) (zd_vp q2) kd_Sl_indexOfChar_16 rfl ?_
    refine zk_stk (r' := [.int (ze_f 4 x5.toNatClampNeg)]) rfl ?_
    refine zk_iload C kd_Sl_indexOfChar_17 2 rfl rfl ?_
    refine zk_icmp_ne (tgt := 25) C kd_Sl_indexOfChar_19 (by decide) rfl (fun b3 => ?_) (fun b3 => ?_)
    · replace e := zd_neg b3 e
      refine zk_iinc (v := (x5 + 1)) (lv' := [(5, _), (0, _), (3, _), (4, _)]) C kd_Sl_indexOfChar_25 3 rfl rfl (by decide) rfl rfl ?_
      refine zk_goto (tgt := 7) C kd_Sl_indexOfChar_28 (by decide) ?_
      refine zk_lvs (lv' := [(0, .ref (P.2.1 4)), (3, .int x3), (4, .int x4), (5, .int (x5 + 1))]) [1, 2, 3, 0] rfl ?_
      exact hk7 x3 x4 (x5 + 1) e
    · replace e := zd_pos b3 e
      refine zk_iload C kd_Sl_indexOfChar_22 3 rfl rfl ?_
      exact zk_iret C hR kd_Sl_indexOfChar_24 rfl rfl (zd_rIO e)
theorem zl_Sl_indexOfChar_v4_7 {X : zkj_T} {S : zs_T} {P : ze_T} {l : Launch} {D : va_G} {sz0 : Nat} {rv : Int32} {h : zs_H} (C : zk_C X km_Sl_indexOfChar (zs_G S l D sz0) { frames := 0, cells := 0, slots := 0, locals := 0 } (ze_E P)) (hR : zkj_R X (zd_PI S rv h) (some .int)) (n : Nat) : ∀ (x3 : Int32) (x4 : Int32) (x5 : Int32), f_Sl_indexOfChar_v4_L7 n x3 x4 x5 = some rv → zk_Ab X (zs_W S h) 0 0 7 [(0, .ref (P.2.1 4)), (3, .int x3), (4, .int x4), (5, .int x5)] [] := by
  induction n with
  | zero => intro x3 x4 x5 e; exact zd_no e
  | succ n ih => intro x3 x4 x5 e; exact zb_Sl_indexOfChar_v4_7 (k7 := f_Sl_indexOfChar_v4_L7  n) C hR ih x3 x4 x5 e
set_option maxHeartbeats 4000000 in
set_option maxRecDepth 100000 in
theorem zc_Sl_indexOfChar_v4 {l : Launch} {D : va_G} {sz0 : Nat} {S : zs_T} {P : ze_T} (h : zs_H) (x1 : Int32) (x2 : Int32) (x3 : Int32) {rv : Int32} (e : f_Sl_indexOfChar_v4 x1 x2 x3 = some rv) : zk_Sp (zs_G S l D sz0) (ze_E P) km_Sl_indexOfChar { frames := 0, cells := 0, slots := 0, locals := 0 } [.ref (P.2.1 4), .int x1, .int x2, .int x3] (zs_W S h) (zd_PI S rv h) := by
  refine zk_met ku_Sl_indexOfChar (Nat.le_of_ble_eq_true rfl) (ze_Em P) ?_
  intro X C hR
  refine zk_lvs (lv' := [(0, .ref (P.2.1 4)), (1, .int x1), (2, .int x2), (3, .int x3)]) [0, 1, 2, 3] rfl ?_
  unfold f_Sl_indexOfChar_v4 at e
  refine zk_iload_n C kd_Sl_indexOfChar_0 rfl 1 rfl rfl ?_
  refine zk_i2b C kd_Sl_indexOfChar_1 rfl ?_
  refine zk_istore (lv' := [(4, _), (0, _), (1, _), (2, _), (3, _)]) C kd_Sl_indexOfChar_2 (by decide) rfl rfl ?_
  refine zk_iload_n C kd_Sl_indexOfChar_4 rfl 3 rfl rfl ?_
  refine zk_istore (lv' := [(5, _), (4, _), (0, _), (1, _), (2, _), (3, _)]) C kd_Sl_indexOfChar_5 (by decide) rfl rfl ?_
  refine zk_lvs (lv' := [(0, .ref (P.2.1 4)), (3, .int x3), (4, .int (x1.toInt8.toInt32)), (5, .int x2)]) [2, 5, 1, 0] rfl ?_
  exact zl_Sl_indexOfChar_v4_7 C hR zF x3 (x1.toInt8.toInt32) x2 e
set_option maxHeartbeats 4000000 in
set_option maxRecDepth 100000 in
theorem zc_Sl_indexOf_v4 {l : Launch} {D : va_G} {sz0 : Nat} {S : zs_T} {P : ze_T} (h : zs_H) (x1 : Int32) (x2 : Int32) (x3 : Int32) {rv : Int32} (e : f_Sl_indexOf_v4 x1 x2 x3 = some rv) : zk_Sp (zs_G S l D sz0) (ze_E P) km_Sl_indexOf { frames := 1, cells := 0, slots := 0, locals := 25 } [.ref (P.2.1 4), .int x1, .int x2, .int x3] (zs_W S h) (zd_PI S rv h) := by
  refine zk_met ku_Sl_indexOf (Nat.le_of_ble_eq_true rfl) (ze_Em P) ?_
  intro X C hR
  refine zk_lvs (lv' := [(0, .ref (P.2.1 4)), (1, .int x1), (2, .int x2), (3, .int x3)]) [0, 1, 2, 3] rfl ?_
  unfold f_Sl_indexOf_v4 at e
  refine zk_iload_n C kd_Sl_indexOf_0 rfl 1 rfl rfl ?_
  refine zk_callS (rn := { frames := 0, cells := 0, slots := 0, locals := 0 }) (As := [.int x1]) (rest := []) C (zc_Sl_canEncode h x1) ku_Sl_canEncode kw811 ks_Sl_canEncode rfl ⟨by decide, by decide⟩ ⟨by decide, by decide⟩ rfl (Nat.le_of_ble_eq_true rfl) kd_Sl_indexOf_1 rfl (c1 := 0) (s1 := 0) rfl rfl (fun v w hp => ?_)
  obtain ⟨rfl, rfl, z1⟩ := hp
  refine zk_stk (r' := [.int (f_Sl_canEncode x1)]) rfl ?_
  refine zk_if_ne (tgt := 9) C kd_Sl_indexOf_4 (by decide) rfl (fun b2 => ?_) (fun b2 => ?_)
  · replace e := zd_neg b2 e
    refine zk_iload_n C kd_Sl_indexOf_9 rfl 2 rfl rfl ?_
    refine zk_iconst (v := 0) C kd_Sl_indexOf_10 (by decide) rfl ?_
    refine zk_mmax C kw814 kw797 kw19 (by decide) (Nat.le_of_ble_eq_true rfl) (Nat.le_refl _) (Nat.le_refl _) kd_Sl_indexOf_11 rfl ?_
    refine zk_istore_n (lv' := [(2, _), (0, _), (1, _), (3, _)]) C kd_Sl_indexOf_14 rfl (by decide) rfl rfl ?_
    refine zk_iload_n C kd_Sl_indexOf_15 rfl 3 rfl rfl ?_
    refine zk_aload_n C kd_Sl_indexOf_16 rfl 1 rfl rfl ?_
    refine ze_vlen C (by decide) kd_Sl_indexOf_17 rfl ?_
    refine zk_stk (r' := [.int 3, .int x3]) rfl ?_
    refine zk_mmin C kw815 kw816 kw19 (by decide) (Nat.le_of_ble_eq_true rfl) (Nat.le_refl _) (Nat.le_refl _) kd_Sl_indexOf_18 rfl ?_
    refine zk_istore_n (lv' := [(3, _), (2, _), (0, _), (1, _)]) C kd_Sl_indexOf_21 rfl (by decide) rfl rfl ?_
    refine zk_iload_n C kd_Sl_indexOf_22 rfl 1 rfl rfl ?_
    refine zk_iload_n C kd_Sl_indexOf_23 rfl 0 rfl rfl ?_
    refine zk_icmp_lt (tgt := 29) C kd_Sl_indexOf_24 (by decide) rfl (fun b3 => ?_) (fun b3 => ?_)
    · replace e := zd_pos b3 e
      refine zk_aload_n C kd_Sl_indexOf_29 rfl 2 rfl rfl ?_
      refine zk_iload_n C kd_Sl_indexOf_30 rfl 3 rfl rfl ?_
      refine zk_iload_n C kd_Sl_indexOf_31 rfl 1 rfl rfl ?_
      refine zk_iload_n C kd_Sl_indexOf_32 rfl 0 rfl rfl ?_
      obtain ⟨v5, c4, e⟩ := zd_b e
      refine zk_callS (rn := { frames := 0, cells := 0, slots := 0, locals := 0 }) (As := [.ref (P.2.1 4), .int x1, .int (zd_max x2 0), .int (zd_min x3 3)]) (rest := []) C (zc_Sl_indexOfChar_v4 h x1 (zd_max x2 0) (zd_min x3 3) c4) ku_Sl_indexOfChar kw818 ks_Sl_indexOfChar rfl ⟨by decide, by decide⟩ ⟨by decide, by decide⟩ rfl (Nat.le_of_ble_eq_true rfl) kd_Sl_indexOf_33 rfl (c1 := 0) (s1 := 0) rfl rfl (fun v w hp => ?_)
      obtain ⟨rfl, rfl⟩ := hp
      refine zk_stk (r' := [.int v5]) rfl ?_
      exact zk_iret C hR kd_Sl_indexOf_36 rfl rfl (zd_rIO e)
    · replace e := zd_neg b3 e
      refine zk_iconst (v := (-1)) C kd_Sl_indexOf_27 (by decide) rfl ?_
      exact zk_iret C hR kd_Sl_indexOf_28 rfl rfl (zd_rIO e)
  · replace e := zd_pos b2 e
    refine zk_iconst (v := (-1)) C kd_Sl_indexOf_7 (by decide) rfl ?_
    exact zk_iret C hR kd_Sl_indexOf_8 rfl rfl (zd_rIO e)
set_option maxHeartbeats 4000000 in
set_option maxRecDepth 100000 in
theorem zc_St_indexOf2_s4 {l : Launch} {D : va_G} {sz0 : Nat} {S : zs_T} {P : ze_T} (h : zs_H) (x1 : Int32) (x2 : Int32) {rv : Int32} (e : f_St_indexOf2_s4 h x1 x2 = some rv) : zk_Sp (zs_G S l D sz0) (ze_E P) km_St_indexOf2 { frames := 2, cells := 0, slots := 0, locals := 48 } [.ref (P.1 4), .int x1, .int x2] (zs_W S h) (zd_PI S rv h) := by
  refine zk_met ku_St_indexOf2 (Nat.le_of_ble_eq_true rfl) (ze_Em P) ?_
  intro X C hR
  refine zk_lvs (lv' := [(0, .ref (P.1 4)), (1, .int x1), (2, .int x2)]) [0, 1, 2] rfl ?_
  unfold f_St_indexOf2_s4 at e
  refine zk_aload_n C kd_St_indexOf2_0 rfl 0 rfl rfl ?_
  refine ze_callStr (i := 4) (As := []) (rest := []) C (cs_isLatin1 (zs_W S h) 4 (by decide)) ku_St_isLatin1 kw57 kv_St_isLatin1 (by decide) rfl rfl ⟨by decide, by decide⟩ ⟨by decide, by decide⟩ rfl (Nat.le_of_ble_eq_true rfl) kd_St_indexOf2_1 rfl (c1 := 0) (s1 := 0) rfl rfl (fun v w hp => ?_)
  obtain ⟨rfl, rfl⟩ := hp
  refine zk_stk (r' := [.int 1]) rfl ?_
  refine zk_if_eq (tgt := 23) C kd_St_indexOf2_4 (by decide) rfl (fun b1 => absurd b1 (by decide)) (fun b1 => ?_)
  refine zk_aload_n C kd_St_indexOf2_7 rfl 0 rfl rfl ?_
  refine ze_value (i := 4) C (by decide) kw2416 kd_St_indexOf2_8 rfl ?_
  refine zk_iload_n C kd_St_indexOf2_11 rfl 1 rfl rfl ?_
  refine zk_iload_n C kd_St_indexOf2_12 rfl 2 rfl rfl ?_
  refine zk_aload_n C kd_St_indexOf2_13 rfl 0 rfl rfl ?_
  refine ze_callStr (i := 4) (As := []) (rest := [.int x2, .int x1, .ref (P.2.1 4)]) C (cs_length (zs_W S h) 4 (by decide)) ku_St_length kw807 kv_St_length (by decide) rfl rfl ⟨by decide, by decide⟩ ⟨by decide, by decide⟩ rfl (Nat.le_of_ble_eq_true rfl) kd_St_indexOf2_14 rfl (c1 := 0) (s1 := 0) rfl rfl (fun v w hp => ?_)
  obtain ⟨rfl, rfl⟩ := hp
  refine zk_stk (r' := [.int 3, .int x2, .int x1, .ref (P.2.1 4)]) rfl ?_
  obtain ⟨v3, c2, e⟩ := zd_b e
  refine zk_callS (rn := { frames := 1, cells := 0, slots := 0, locals := 25 }) (As := [.ref (P.2.1 4), .int x1, .int x2, .int 3]) (rest := []) C (zc_Sl_indexOf_v4 h x1 x2 3 c2) ku_Sl_indexOf kw808 ks_Sl_indexOf rfl ⟨by decide, by decide⟩ ⟨by decide, by decide⟩ rfl (Nat.le_of_ble_eq_true rfl) kd_St_indexOf2_17 rfl (c1 := 0) (s1 := 0) rfl rfl (fun v w hp => ?_)
  obtain ⟨rfl, rfl⟩ := hp
  refine zk_stk (r' := [.int v3]) rfl ?_
  refine zk_goto (tgt := 36) C kd_St_indexOf2_20 (by decide) ?_
  exact zk_iret C hR kd_St_indexOf2_36 rfl rfl (zd_rIO e)
set_option maxHeartbeats 4000000 in
set_option maxRecDepth 100000 in
theorem zc_St_indexOf_s4 {l : Launch} {D : va_G} {sz0 : Nat} {S : zs_T} {P : ze_T} (h : zs_H) (x1 : Int32) {rv : Int32} (e : f_St_indexOf_s4 h x1 = some rv) : zk_Sp (zs_G S l D sz0) (ze_E P) km_St_indexOf { frames := 3, cells := 0, slots := 0, locals := 70 } [.ref (P.1 4), .int x1] (zs_W S h) (zd_PI S rv h) := by
  refine zk_met ku_St_indexOf (Nat.le_of_ble_eq_true rfl) (ze_Em P) ?_
  intro X C hR
  refine zk_lvs (lv' := [(0, .ref (P.1 4)), (1, .int x1)]) [0, 1] rfl ?_
  unfold f_St_indexOf_s4 at e
  refine zk_aload_n C kd_St_indexOf_0 rfl 0 rfl rfl ?_
  refine zk_iload_n C kd_St_indexOf_1 rfl 1 rfl rfl ?_
  refine zk_iconst (v := 0) C kd_St_indexOf_2 (by decide) rfl ?_
  obtain ⟨v2, c1, e⟩ := zd_b e
  refine ze_callStr (i := 4) (rn := { frames := 2, cells := 0, slots := 0, locals := 48 }) (As := [.int x1, .int 0]) (rest := []) C (zc_St_indexOf2_s4 h x1 0 c1) ku_St_indexOf2 kw803 kv_St_indexOf2 (by decide) rfl rfl ⟨by decide, by decide⟩ ⟨by decide, by decide⟩ rfl (Nat.le_of_ble_eq_true rfl) kd_St_indexOf_3 rfl (c1 := 0) (s1 := 0) rfl rfl (fun v w hp => ?_)
  obtain ⟨rfl, rfl⟩ := hp
  refine zk_stk (r' := [.int v2]) rfl ?_
  exact zk_iret C hR kd_St_indexOf_6 rfl rfl (zd_rIO e)
set_option maxHeartbeats 4000000 in
set_option maxRecDepth 100000 in
theorem zb_Sl_indexOfChar_v5_7 {X : zkj_T} {S : zs_T} {P : ze_T} {l : Launch} {D : va_G} {sz0 : Nat} {rv : Int32} {h : zs_H} (C : zk_C X km_Sl_indexOfChar (zs_G S l D sz0) { frames := 0, cells := 0, slots := 0, locals := 0 } (ze_E P)) (hR : zkj_R X (zd_PI S rv h) (some .int)) {k7 : Int32 → Int32 → Int32 → (Option Int32)} (hk7 : ∀ (x3 : Int32) (x4 : Int32) (x5 : Int32), k7 x3 x4 x5 = some rv → zk_Ab X (zs_W S h) 0 0 7 [(0, .ref (P.2.1 5)), (3, .int x3), (4, .int x4), (5, .int x5)] []) (x3 : Int32) (x4 : Int32) (x5 : Int32) (e : f_Sl_indexOfChar_v5_7 k7 x3 x4 x5 = some rv) : zk_Ab X (zs_W S h) 0 0 7 [(0, .ref (P.2.1 5)), (3, .int x3), (4, .int x4), (5, .int x5)] [] := by
  unfold f_Sl_indexOfChar_v5_7 at e
  refine zk_iload C kd_Sl_indexOfChar_7 3 rfl rfl ?_
  refine zk_iload_n C kd_Sl_indexOfChar_9 rfl 1 rfl rfl ?_
  refine zk_icmp_ge (tgt := 31) C kd_Sl_indexOfChar_10 (by decide) rfl (fun b1 => ?_) (fun b1 => ?_)
  · replace e := zd_pos b1 e
    refine zk_iconst (v := (-1)) C kd_Sl_indexOfChar_31 (by decide) rfl ?_
    exact zk_iret C hR kd_Sl_indexOfChar_32 rfl rfl (zd_rIO e)
  · replace e := zd_neg b1 e
    refine zk_aload_n C kd_Sl_indexOfChar_13 rfl 0 rfl rfl ?_
    refine zk_iload C kd_Sl_indexOfChar_14 3 rfl rfl ?_
    obtain ⟨q2, e⟩ := zd_g e
    refine ze_vld C (by decide) (zd_vp q2) kd_Sl_indexOfChar_16 rfl ?_
    refine zk_stk (r' := [.int (ze_f 5 x5.toNatClampNeg)]) rfl ?_
    refine zk_iload C kd_Sl_indexOfChar_17 2 rfl rfl ?_
    refine zk_icmp_ne (tgt := 25) C kd_Sl_indexOfChar_19 (by decide) rfl (fun b3 => ?_) (fun b3 => ?_)
    · replace e := zd_neg b3 e
      refine zk_iinc (v := (x5 + 1)) (lv' := [(5, _), (0, _), (3, _), (4, _)]) C kd_Sl_indexOfChar_25 3 rfl rfl (by decide) rfl rfl ?_
      refine zk_goto (tgt := 7) C kd_Sl_indexOfChar_28 (by decide) ?_
      refine zk_lvs (lv' := [(0, .ref (P.2.1 5)), (3, .int x3), (4, .int x4), (5, .int (x5 + 1))]) [1, 2, 3, 0] rfl ?_
      exact hk7 x3 x4 (x5 + 1) e
    · replace e := zd_pos b3 e
      refine zk_iload C kd_Sl_indexOfChar_22 3 rfl rfl ?_
      exact zk_iret C hR kd_Sl_indexOfChar_24 rfl rfl (zd_rIO e)
theorem zl_Sl_indexOfChar_v5_7 {X : zkj_T} {S : zs_T} {P : ze_T} {l : Launch} {D : va_G} {sz0 : Nat} {rv : Int32} {h : zs_H} (C : zk_C X km_Sl_indexOfChar (zs_G S l D sz0) { frames := 0, cells := 0, slots := 0, locals := 0 } (ze_E P)) (hR : zkj_R X (zd_PI S rv h) (some .int)) (n : Nat) : ∀ (x3 : Int32) (x4 : Int32) (x5 : Int32), f_Sl_indexOfChar_v5_L7 n x3 x4 x5 = some rv → zk_Ab X (zs_W S h) 0 0 7 [(0, .ref (P.2.1 5)), (3, .int x3), (4, .int x4), (5, .int x5)] [] := by
  induction n with
  | zero => intro x3 x4 x5 e; exact zd_no e
  | succ n ih => intro x3 x4 x5 e; exact zb_Sl_indexOfChar_v5_7 (k7 := f_Sl_indexOfChar_v5_L7  n) C hR ih x3 x4 x5 e
set_option maxHeartbeats 4000000 in
set_option maxRecDepth 100000 in
theorem zc_Sl_indexOfChar_v5 {l : Launch} {D : va_G} {sz0 : Nat} {S : zs_T} {P : ze_T} (h : zs_H) (x1 : Int32) (x2 : Int32) (x3 : Int32) {rv : Int32} (e : f_Sl_indexOfChar_v5 x1 x2 x3 = some rv) : zk_Sp (zs_G S l D sz0) (ze_E P) km_Sl_indexOfChar { frames := 0, cells := 0, slots := 0, locals := 0 } [.ref (P.2.1 5), .int x1, .int x2, .int x3] (zs_W S h) (zd_PI S rv h) := by
  refine zk_met ku_Sl_indexOfChar (Nat.le_of_ble_eq_true rfl) (ze_Em P) ?_
  intro X C hR
  refine zk_lvs (lv' := [(0, .ref (P.2.1 5)), (1, .int x1), (2, .int x2), (3, .int x3)]) [0, 1, 2, 3] rfl ?_
  unfold f_Sl_indexOfChar_v5 at e
  refine zk_iload_n C kd_Sl_indexOfChar_0 rfl 1 rfl rfl ?_
  refine zk_i2b C kd_Sl_indexOfChar_1 rfl ?_
  refine zk_istore (lv' := [(4, _), (0, _), (1, _), (2, _), (3, _)]) C kd_Sl_indexOfChar_2 (by decide) rfl rfl ?_
  refine zk_iload_n C kd_Sl_indexOfChar_4 rfl 3 rfl rfl ?_
  refine zk_istore (lv' := [(5, _), (4, _), (0, _), (1, _), (2, _), (3, _)]) C kd_Sl_indexOfChar_5 (by decide) rfl rfl ?_
  refine zk_lvs (lv' := [(0, .ref (P.2.1 5)), (3, .int x3), (4, .int (x1.toInt8.toInt32)), (5, .int x2)]) [2, 5, 1, 0] rfl ?_
  exact zl_Sl_indexOfChar_v5_7 C hR zF x3 (x1.toInt8.toInt32) x2 e
set_option maxHeartbeats 4000000 in
set_option maxRecDepth 100000 in
theorem zc_Sl_indexOf_v5 {l : Launch} {D : va_G} {sz0 : Nat} {S : zs_T} {P : ze_T} (h : zs_H) (x1 : Int32) (x2 : Int32) (x3 : Int32) {rv : Int32} (e : f_Sl_indexOf_v5 x1 x2 x3 = some rv) : zk_Sp (zs_G S l D sz0) (ze_E P) km_Sl_indexOf { frames := 1, cells := 0, slots := 0, locals := 25 } [.ref (P.2.1 5), .int x1, .int x2, .int x3] (zs_W S h) (zd_PI S rv h) := by
  refine zk_met ku_Sl_indexOf (Nat.le_of_ble_eq_true rfl) (ze_Em P) ?_
  intro X C hR
  refine zk_lvs (lv' := [(0, .ref (P.2.1 5)), (1, .int x1), (2, .int x2), (3, .int x3)]) [0, 1, 2, 3] rfl ?_
  unfold f_Sl_indexOf_v5 at e
  refine zk_iload_n C kd_Sl_indexOf_0 rfl 1 rfl rfl ?_
  refine zk_callS (rn := { frames := 0, cells := 0, slots := 0, locals := 0 }) (As := [.int x1]) (rest := []) C (zc_Sl_canEncode h x1) ku_Sl_canEncode kw811 ks_Sl_canEncode rfl ⟨by decide, by decide⟩ ⟨by decide, by decide⟩ rfl (Nat.le_of_ble_eq_true rfl) kd_Sl_indexOf_1 rfl (c1 := 0) (s1 := 0) rfl rfl (fun v w hp => ?_)
  obtain ⟨rfl, rfl, z1⟩ := hp
  refine zk_stk (r' := [.int (f_Sl_canEncode x1)]) rfl ?_
  refine zk_if_ne (tgt := 9) C kd_Sl_indexOf_4 (by decide) rfl (fun b2 => ?_) (fun b2 => ?_)
  · replace e := zd_neg b2 e
    refine zk_iload_n C kd_Sl_indexOf_9 rfl 2 rfl rfl ?_
    refine zk_iconst (v := 0) C kd_Sl_indexOf_10 (by decide) rfl ?_
    refine zk_mmax C kw814 kw797 kw19 (by decide) (Nat.le_of_ble_eq_true rfl) (Nat.le_refl _) (Nat.le_refl _) kd_Sl_indexOf_11 rfl ?_
    refine zk_istore_n (lv' := [(2, _), (0, _), (1, _), (3, _)]) C kd_Sl_indexOf_14 rfl (by decide) rfl rfl ?_
    refine zk_iload_n C kd_Sl_indexOf_15 rfl 3 rfl rfl ?_
    refine zk_aload_n C kd_Sl_indexOf_16 rfl 1 rfl rfl ?_
    refine ze_vlen C (by decide) kd_Sl_indexOf_17 rfl ?_
    refine zk_stk (r' := [.int 2, .int x3]) rfl ?_
    refine zk_mmin C kw815 kw816 kw19 (by decide) (Nat.le_of_ble_eq_true rfl) (Nat.le_refl _) (Nat.le_refl _) kd_Sl_indexOf_18 rfl ?_
    refine zk_istore_n (lv' := [(3, _), (2, _), (0, _), (1, _)]) C kd_Sl_indexOf_21 rfl (by decide) rfl rfl ?_
    refine zk_iload_n C kd_Sl_indexOf_22 rfl 1 rfl rfl ?_
    refine zk_iload_n C kd_Sl_indexOf_23 rfl 0 rfl rfl ?_
    refine zk_icmp_lt (tgt := 29) C kd_Sl_indexOf_24 (by decide) rfl (fun b3 => ?_) (fun b3 => ?_)
    · replace e := zd_pos b3 e
      refine zk_aload_n C kd_Sl_indexOf_29 rfl 2 rfl rfl ?_
      refine zk_iload_n C kd_Sl_indexOf_30 rfl 3 rfl rfl ?_
      refine zk_iload_n C kd_Sl_indexOf_31 rfl 1 rfl rfl ?_
      refine zk_iload_n C kd_Sl_indexOf_32 rfl 0 rfl rfl ?_
      obtain ⟨v5, c4, e⟩ := zd_b e
      refine zk_callS (rn := { frames := 0, cells := 0, slots := 0, locals := 0 }) (As := [.ref (P.2.1 5), .int x1, .int (zd_max x2 0), .int (zd_min x3 2)]) (rest := []) C (zc_Sl_indexOfChar_v5 h x1 (zd_max x2 0) (zd_min x3 2) c4) ku_Sl_indexOfChar kw818 ks_Sl_indexOfChar rfl ⟨by decide, by decide⟩ ⟨by decide, by decide⟩ rfl (Nat.le_of_ble_eq_true rfl) kd_Sl_indexOf_33 rfl (c1 := 0) (s1 := 0) rfl rfl (fun v w hp => ?_)
      obtain ⟨rfl, rfl⟩ := hp
      refine zk_stk (r' := [.int v5]) rfl ?_
      exact zk_iret C hR kd_Sl_indexOf_36 rfl rfl (zd_rIO e)
    · replace e := zd_neg b3 e
      refine zk_iconst (v := (-1)) C kd_Sl_indexOf_27 (by decide) rfl ?_
      exact zk_iret C hR kd_Sl_indexOf_28 rfl rfl (zd_rIO e)
  · replace e := zd_pos b2 e
    refine zk_iconst (v := (-1)) C kd_Sl_indexOf_7 (by decide) rfl ?_
    exact zk_iret C hR kd_Sl_indexOf_8 rfl rfl (zd_rIO e)
set_option maxHeartbeats 4000000 in
set_option maxRecDepth 100000 in
theorem zc_St_indexOf2_s5 {l : Launch} {D : va_G} {sz0 : Nat} {S : zs_T} {P : ze_T} (h : zs_H) (x1 : Int32) (x2 : Int32) {rv : Int32} (e : f_St_indexOf2_s5 h x1 x2 = some rv) : zk_Sp (zs_G S l D sz0) (ze_E P) km_St_indexOf2 { frames := 2, cells := 0, slots := 0, locals := 48 } [.ref (P.1 5), .int x1, .int x2] (zs_W S h) (zd_PI S rv h) := by
  refine zk_met ku_St_indexOf2 (Nat.le_of_ble_eq_true rfl) (ze_Em P) ?_
  intro X C hR
  refine zk_lvs (lv' := [(0, .ref (P.1 5)), (1, .int x1), (2, .int x2)]) [0, 1, 2] rfl ?_
  unfold f_St_indexOf2_s5 at e
  refine zk_aload_n C kd_St_indexOf2_0 rfl 0 rfl rfl ?_
  refine ze_callStr (i := 5) (As := []) (rest := []) C (cs_isLatin1 (zs_W S h) 5 (by decide)) ku_St_isLatin1 kw57 kv_St_isLatin1 (by decide) rfl rfl ⟨by decide, by decide⟩ ⟨by decide, by decide⟩ rfl (Nat.le_of_ble_eq_true rfl) kd_St_indexOf2_1 rfl (c1 := 0) (s1 := 0) rfl rfl (fun v w hp => ?_)
  obtain ⟨rfl, rfl⟩ := hp
  refine zk_stk (r' := [.int 1]) rfl ?_
  refine zk_if_eq (tgt := 23) C kd_St_indexOf2_4 (by decide) rfl (fun b1 => absurd b1 (by decide)) (fun b1 => ?_)
  refine zk_aload_n C kd_St_indexOf2_7 rfl 0 rfl rfl ?_
  refine ze_value (i := 5) C (by decide) kw2416 kd_St_indexOf2_8 rfl ?_
  refine zk_iload_n C kd_St_indexOf2_11 rfl 1 rfl rfl ?_
  refine zk_iload_n C kd_St_indexOf2_12 rfl 2 rfl rfl ?_
  refine zk_aload_n C kd_St_indexOf2_13 rfl 0 rfl rfl ?_
  refine ze_callStr (i := 5) (As := []) (rest := [.int x2, .int x1, .ref (P.2.1 5)]) C (cs_length (zs_W S h) 5 (by decide)) ku_St_length kw807 kv_St_length (by decide) rfl rfl ⟨by decide, by decide⟩ ⟨by decide, by decide⟩ rfl (Nat.le_of_ble_eq_true rfl) kd_St_indexOf2_14 rfl (c1 := 0) (s1 := 0) rfl rfl (fun v w hp => ?_)
  obtain ⟨rfl, rfl⟩ := hp
  refine zk_stk (r' := [.int 2, .int x2, .int x1, .ref (P.2.1 5)]) rfl ?_
  obtain ⟨v3, c2, e⟩ := zd_b e
  refine zk_callS (rn := { frames := 1, cells := 0, slots := 0, locals := 25 }) (As := [.ref (P.2.1 5), .int x1, .int x2, .int 2]) (rest := []) C (zc_Sl_indexOf_v5 h x1 x2 2 c2) ku_Sl_indexOf kw808 ks_Sl_indexOf rfl ⟨by decide, by decide⟩ ⟨by decide, by decide⟩ rfl (Nat.le_of_ble_eq_true rfl) kd_St_indexOf2_17 rfl (c1 := 0) (s1 := 0) rfl rfl (fun v w hp => ?_)
  obtain ⟨rfl, rfl⟩ := hp
  refine zk_stk (r' := [.int v3]) rfl ?_
  refine zk_goto (tgt := 36) C kd_St_indexOf2_20 (by decide) ?_
  exact zk_iret C hR kd_St_indexOf2_36 rfl rfl (zd_rIO e)
set_option maxHeartbeats 4000000 in
set_option maxRecDepth 100000 in
theorem zc_St_indexOf_s5 {l : Launch} {D : va_G} {sz0 : Nat} {S : zs_T} {P : ze_T} (h : zs_H) (x1 : Int32) {rv : Int32} (e : f_St_indexOf_s5 h x1 = some rv) : zk_Sp (zs_G S l D sz0) (ze_E P) km_St_indexOf { frames := 3, cells := 0, slots := 0, locals := 70 } [.ref (P.1 5), .int x1] (zs_W S h) (zd_PI S rv h) := by
  refine zk_met ku_St_indexOf (Nat.le_of_ble_eq_true rfl) (ze_Em P) ?_
  intro X C hR
  refine zk_lvs (lv' := [(0, .ref (P.1 5)), (1, .int x1)]) [0, 1] rfl ?_
  unfold f_St_indexOf_s5 at e
  refine zk_aload_n C kd_St_indexOf_0 rfl 0 rfl rfl ?_
  refine zk_iload_n C kd_St_indexOf_1 rfl 1 rfl rfl ?_
  refine zk_iconst (v := 0) C kd_St_indexOf_2 (by decide) rfl ?_
  obtain ⟨v2, c1, e⟩ := zd_b e
  refine ze_callStr (i := 5) (rn := { frames := 2, cells := 0, slots := 0, locals := 48 }) (As := [.int x1, .int 0]) (rest := []) C (zc_St_indexOf2_s5 h x1 0 c1) ku_St_indexOf2 kw803 kv_St_indexOf2 (by decide) rfl rfl ⟨by decide, by decide⟩ ⟨by decide, by decide⟩ rfl (Nat.le_of_ble_eq_true rfl) kd_St_indexOf_3 rfl (c1 := 0) (s1 := 0) rfl rfl (fun v w hp => ?_)
  obtain ⟨rfl, rfl⟩ := hp
  refine zk_stk (r' := [.int v2]) rfl ?_
  exact zk_iret C hR kd_St_indexOf_6 rfl rfl (zd_rIO e)
set_option maxHeartbeats 4000000 in
set_option maxRecDepth 100000 in
theorem zb_Sl_indexOfChar_v6_7 {X : zkj_T} {S : zs_T} {P : ze_T} {l : Launch} {D : va_G} {sz0 : Nat} {rv : Int32} {h : zs_H} (C : zk_C X km_Sl_indexOfChar (zs_G S l D sz0) { frames := 0, cells := 0, slots := 0, locals := 0 } (ze_E P)) (hR : zkj_R X (zd_PI S rv h) (some .int)) {k7 : Int32 → Int32 → Int32 → (Option Int32)} (hk7 : ∀ (x3 : Int32) (x4 : Int32) (x5 : Int32), k7 x3 x4 x5 = some rv → zk_Ab X (zs_W S h) 0 0 7 [(0, .ref (P.2.1 6)), (3, .int x3), (4, .int x4), (5, .int x5)] []) (x3 : Int32) (x4 : Int32) (x5 : Int32) (e : f_Sl_indexOfChar_v6_7 k7 x3 x4 x5 = some rv) : zk_Ab X (zs_W S h) 0 0 7 [(0, .ref (P.2.1 6)), (3, .int x3), (4, .int x4), (5, .int x5)] [] := by
  unfold f_Sl_indexOfChar_v6_7 at e
  refine zk_iload C kd_Sl_indexOfChar_7 3 rfl rfl ?_
  refine zk_iload_n C kd_Sl_indexOfChar_9 rfl 1 rfl rfl ?_
  refine zk_icmp_ge (tgt := 31) C kd_Sl_indexOfChar_10 (by decide) rfl (fun b1 => ?_) (fun b1 => ?_)
  · replace e := zd_pos b1 e
    refine zk_iconst (v := (-1)) C kd_Sl_indexOfChar_31 (by decide) rfl ?_
    exact zk_iret C hR kd_Sl_indexOfChar_32 rfl rfl (zd_rIO e)
  · replace e := zd_neg b1 e
    refine zk_aload_n C kd_Sl_indexOfChar_13 rfl 0 rfl rfl ?_
    refine zk_iload C kd_Sl_indexOfChar_14 3 rfl rfl ?_
    obtain ⟨q2, e⟩ := zd_g e
    refine ze_vld C (by decide) (zd_vp q2) kd_Sl_indexOfChar_16 rfl ?_
    refine zk_stk (r' := [.int (ze_f 6 x5.toNatClampNeg)]) rfl ?_
    refine zk_iload C kd_Sl_indexOfChar_17 2 rfl rfl ?_
    refine zk_icmp_ne (tgt := 25) C kd_Sl_indexOfChar_19 (by decide) rfl (fun b3 => ?_) (fun b3 => ?_)
    · replace e := zd_neg b3 e
      refine zk_iinc (v := (x5 + 1)) (lv' := [(5, _), (0, _), (3, _), (4, _)]) C kd_Sl_indexOfChar_25 3 rfl rfl (by decide) rfl rfl ?_
      refine zk_goto (tgt := 7) C kd_Sl_indexOfChar_28 (by decide) ?_
      refine zk_lvs (lv' := [(0, .ref (P.2.1 6)), (3, .int x3), (4, .int x4), (5, .int (x5 + 1))]) [1, 2, 3, 0] rfl ?_
      exact hk7 x3 x4 (x5 + 1) e
    · replace e := zd_pos b3 e
      refine zk_iload C kd_Sl_indexOfChar_22 3 rfl rfl ?_
      exact zk_iret C hR kd_Sl_indexOfChar_24 rfl rfl (zd_rIO e)
theorem zl_Sl_indexOfChar_v6_7 {X : zkj_T} {S : zs_T} {P : ze_T} {l : Launch} {D : va_G} {sz0 : Nat} {rv : Int32} {h : zs_H} (C : zk_C X km_Sl_indexOfChar (zs_G S l D sz0) { frames := 0, cells := 0, slots := 0, locals := 0 } (ze_E P)) (hR : zkj_R X (zd_PI S rv h) (some .int)) (n : Nat) : ∀ (x3 : Int32) (x4 : Int32) (x5 : Int32), f_Sl_indexOfChar_v6_L7 n x3 x4 x5 = some rv → zk_Ab X (zs_W S h) 0 0 7 [(0, .ref (P.2.1 6)), (3, .int x3), (4, .int x4), (5, .int x5)] [] := by
  induction n with
  | zero => intro x3 x4 x5 e; exact zd_no e
  | succ n ih => intro x3 x4 x5 e; exact zb_Sl_indexOfChar_v6_7 (k7 := f_Sl_indexOfChar_v6_L7  n) C hR ih x3 x4 x5 e
set_option maxHeartbeats 4000000 in
set_option maxRecDepth 100000 in
theorem zc_Sl_indexOfChar_v6 {l : Launch} {D : va_G} {sz0 : Nat} {S : zs_T} {P : ze_T} (h : zs_H) (x1 : Int32) (x2 : Int32) (x3 : Int32) {rv : Int32} (e : f_Sl_indexOfChar_v6 x1 x2 x3 = some rv) : zk_Sp (zs_G S l D sz0) (ze_E P) km_Sl_indexOfChar { frames := 0, cells := 0, slots := 0, locals := 0 } [.ref (P.2.1 6), .int x1, .int x2, .int x3] (zs_W S h) (zd_PI S rv h) := by
  refine zk_met ku_Sl_indexOfChar (Nat.le_of_ble_eq_true rfl) (ze_Em P) ?_
  intro X C hR
  refine zk_lvs (lv' := [(0, .ref (P.2.1 6)), (1, .int x1), (2, .int x2), (3, .int x3)]) [0, 1, 2, 3] rfl ?_
  unfold f_Sl_indexOfChar_v6 at e
  refine zk_iload_n C kd_Sl_indexOfChar_0 rfl 1 rfl rfl ?_
  refine zk_i2b C kd_Sl_indexOfChar_1 rfl ?_
  refine zk_istore (lv' := [(4, _), (0, _), (1, _), (2, _), (3, _)]) C kd_Sl_indexOfChar_2 (by decide) rfl rfl ?_
  refine zk_iload_n C kd_Sl_indexOfChar_4 rfl 3 rfl rfl ?_
  refine zk_istore (lv' := [(5, _), (4, _), (0, _), (1, _), (2, _), (3, _)]) C kd_Sl_indexOfChar_5 (by decide) rfl rfl ?_
  refine zk_lvs (lv' := [(0, .ref (P.2.1 6)), (3, .int x3), (4, .int (x1.toInt8.toInt32)), (5, .int x2)]) [2, 5, 1, 0] rfl ?_
  exact zl_Sl_indexOfChar_v6_7 C hR zF x3 (x1.toInt8.toInt32) x2 e
set_option maxHeartbeats 4000000 in
set_option maxRecDepth 100000 in
theorem zc_Sl_indexOf_v6 {l : Launch} {D : va_G} {sz0 : Nat} {S : zs_T} {P : ze_T} (h : zs_H) (x1 : Int32) (x2 : Int32) (x3 : Int32) {rv : Int32} (e : f_Sl_indexOf_v6 x1 x2 x3 = some rv) : zk_Sp (zs_G S l D sz0) (ze_E P) km_Sl_indexOf { frames := 1, cells := 0, slots := 0, locals := 25 } [.ref (P.2.1 6), .int x1, .int x2, .int x3] (zs_W S h) (zd_PI S rv h) := by
  refine zk_met ku_Sl_indexOf (Nat.le_of_ble_eq_true rfl) (ze_Em P) ?_
  intro X C hR
  refine zk_lvs (lv' := [(0, .ref (P.2.1 6)), (1, .int x1), (2, .int x2), (3, .int x3)]) [0, 1, 2, 3] rfl ?_
  unfold f_Sl_indexOf_v6 at e
  refine zk_iload_n C kd_Sl_indexOf_0 rfl 1 rfl rfl ?_
  refine zk_callS (rn := { frames := 0, cells := 0, slots := 0, locals := 0 }) (As := [.int x1]) (rest := []) C (zc_Sl_canEncode h x1) ku_Sl_canEncode kw811 ks_Sl_canEncode rfl ⟨by decide, by decide⟩ ⟨by decide, by decide⟩ rfl (Nat.le_of_ble_eq_true rfl) kd_Sl_indexOf_1 rfl (c1 := 0) (s1 := 0) rfl rfl (fun v w hp => ?_)
  obtain ⟨rfl, rfl, z1⟩ := hp
  refine zk_stk (r' := [.int (f_Sl_canEncode x1)]) rfl ?_
  refine zk_if_ne (tgt := 9) C kd_Sl_indexOf_4 (by decide) rfl (fun b2 => ?_) (fun b2 => ?_)
  · replace e := zd_neg b2 e
    refine zk_iload_n C kd_Sl_indexOf_9 rfl 2 rfl rfl ?_
    refine zk_iconst (v := 0) C kd_Sl_indexOf_10 (by decide) rfl ?_
    refine zk_mmax C kw814 kw797 kw19 (by decide) (Nat.le_of_ble_eq_true rfl) (Nat.le_refl _) (Nat.le_refl _) kd_Sl_indexOf_11 rfl ?_
    refine zk_istore_n (lv' := [(2, _), (0, _), (1, _), (3, _)]) C kd_Sl_indexOf_14 rfl (by decide) rfl rfl ?_
    refine zk_iload_n C kd_Sl_indexOf_15 rfl 3 rfl rfl ?_
    refine zk_aload_n C kd_Sl_indexOf_16 rfl 1 rfl rfl ?_
    refine ze_vlen C (by decide) kd_Sl_indexOf_17 rfl ?_
    refine zk_stk (r' := [.int 17, .int x3]) rfl ?_
    refine zk_mmin C kw815 kw816 kw19 (by decide) (Nat.le_of_ble_eq_true rfl) (Nat.le_refl _) (Nat.le_refl _) kd_Sl_indexOf_18 rfl ?_
    refine zk_istore_n (lv' := [(3, _), (2, _), (0, _), (1, _)]) C kd_Sl_indexOf_21 rfl (by decide) rfl rfl ?_
    refine zk_iload_n C kd_Sl_indexOf_22 rfl 1 rfl rfl ?_
    refine zk_iload_n C kd_Sl_indexOf_23 rfl 0 rfl rfl ?_
    refine zk_icmp_lt (tgt := 29) C kd_Sl_indexOf_24 (by decide) rfl (fun b3 => ?_) (fun b3 => ?_)
    · replace e := zd_pos b3 e
      refine zk_aload_n C kd_Sl_indexOf_29 rfl 2 rfl rfl ?_
      refine zk_iload_n C kd_Sl_indexOf_30 rfl 3 rfl rfl ?_
      refine zk_iload_n C kd_Sl_indexOf_31 rfl 1 rfl rfl ?_
      refine zk_iload_n C kd_Sl_indexOf_32 rfl 0 rfl rfl ?_
      obtain ⟨v5, c4, e⟩ := zd_b e
      refine zk_callS (rn := { frames := 0, cells := 0, slots := 0, locals := 0 }) (As := [.ref (P.2.1 6), .int x1, .int (zd_max x2 0), .int (zd_min x3 17)]) (rest := []) C (zc_Sl_indexOfChar_v6 h x1 (zd_max x2 0) (zd_min x3 17) c4) ku_Sl_indexOfChar kw818 ks_Sl_indexOfChar rfl ⟨by decide, by decide⟩ ⟨by decide, by decide⟩ rfl (Nat.le_of_ble_eq_true rfl) kd_Sl_indexOf_33 rfl (c1 := 0) (s1 := 0) rfl rfl (fun v w hp => ?_)
      obtain ⟨rfl, rfl⟩ := hp
      refine zk_stk (r' := [.int v5]) rfl ?_
      exact zk_iret C hR kd_Sl_indexOf_36 rfl rfl (zd_rIO e)
    · replace e := zd_neg b3 e
      refine zk_iconst (v := (-1)) C kd_Sl_indexOf_27 (by decide) rfl ?_
      exact zk_iret C hR kd_Sl_indexOf_28 rfl rfl (zd_rIO e)
  · replace e := zd_pos b2 e
    refine zk_iconst (v := (-1)) C kd_Sl_indexOf_7 (by decide) rfl ?_
    exact zk_iret C hR kd_Sl_indexOf_8 rfl rfl (zd_rIO e)
set_option maxHeartbeats 4000000 in
set_option maxRecDepth 100000 in
theorem zc_St_indexOf2_s6 {l : Launch} {D : va_G} {sz0 : Nat} {S : zs_T} {P : ze_T} (h : zs_H) (x1 : Int32) (x2 : Int32) {rv : Int32} (e : f_St_indexOf2_s6 h x1 x2 = some rv) : zk_Sp (zs_G S l D sz0) (ze_E P) km_St_indexOf2 { frames := 2, cells := 0, slots := 0, locals := 48 } [.ref (P.1 6), .int x1, .int x2] (zs_W S h) (zd_PI S rv h) := by
  refine zk_met ku_St_indexOf2 (Nat.le_of_ble_eq_true rfl) (ze_Em P) ?_
  intro X C hR
  refine zk_lvs (lv' := [(0, .ref (P.1 6)), (1, .int x1), (2, .int x2)]) [0, 1, 2] rfl ?_
  unfold f_St_indexOf2_s6 at e
  refine zk_aload_n C kd_St_indexOf2_0 rfl 0 rfl rfl ?_
  refine ze_callStr (i := 6) (As := []) (rest := []) C (cs_isLatin1 (zs_W S h) 6 (by decide)) ku_St_isLatin1 kw57 kv_St_isLatin1 (by decide) rfl rfl ⟨by decide, by decide⟩ ⟨by decide, by decide⟩ rfl (Nat.le_of_ble_eq_true rfl) kd_St_indexOf2_1 rfl (c1 := 0) (s1 := 0) rfl rfl (fun v w hp => ?_)
  obtain ⟨rfl, rfl⟩ := hp
  refine zk_stk (r' := [.int 1]) rfl ?_
  refine zk_if_eq (tgt := 23) C kd_St_indexOf2_4 (by decide) rfl (fun b1 => absurd b1 (by decide)) (fun b1 => ?_)
  refine zk_aload_n C kd_St_indexOf2_7 rfl 0 rfl rfl ?_
  refine ze_value (i := 6) C (by decide) kw2416 kd_St_indexOf2_8 rfl ?_
  refine zk_iload_n C kd_St_indexOf2_11 rfl 1 rfl rfl ?_
  refine zk_iload_n C kd_St_indexOf2_12 rfl 2 rfl rfl ?_
  refine zk_aload_n C kd_St_indexOf2_13 rfl 0 rfl rfl ?_
  refine ze_callStr (i := 6) (As := []) (rest := [.int x2, .int x1, .ref (P.2.1 6)]) C (cs_length (zs_W S h) 6 (by decide)) ku_St_length kw807 kv_St_length (by decide) rfl rfl ⟨by decide, by decide⟩ ⟨by decide, by decide⟩ rfl (Nat.le_of_ble_eq_true rfl) kd_St_indexOf2_14 rfl (c1 := 0) (s1 := 0) rfl rfl (fun v w hp => ?_)
  obtain ⟨rfl, rfl⟩ := hp
  refine zk_stk (r' := [.int 17, .int x2, .int x1, .ref (P.2.1 6)]) rfl ?_
  obtain ⟨v3, c2, e⟩ := zd_b e
  refine zk_callS (rn := { frames := 1, cells := 0, slots := 0, locals := 25 }) (As := [.ref (P.2.1 6), .int x1, .int x2, .int 17]) (rest := []) C (zc_Sl_indexOf_v6 h x1 x2 17 c2) ku_Sl_indexOf kw808 ks_Sl_indexOf rfl ⟨by decide, by decide⟩ ⟨by decide, by decide⟩ rfl (Nat.le_of_ble_eq_true rfl) kd_St_indexOf2_17 rfl (c1 := 0) (s1 := 0) rfl rfl (fun v w hp => ?_)
  obtain ⟨rfl, rfl⟩ := hp
  refine zk_stk (r' := [.int v3]) rfl ?_
  refine zk_goto (tgt := 36) C kd_St_indexOf2_20 (by decide) ?_
  exact zk_iret C hR kd_St_indexOf2_36 rfl rfl (zd_rIO e)
set_option maxHeartbeats 4000000 in
set_option maxRecDepth 100000 in
theorem zc_St_indexOf_s6 {l : Launch} {D : va_G} {sz0 : Nat} {S : zs_T} {P : ze_T} (h : zs_H) (x1 : Int32) {rv : Int32} (e : f_St_indexOf_s6 h x1 = some rv) : zk_Sp (zs_G S l D sz0) (ze_E P) km_St_indexOf { frames := 3, cells := 0, slots := 0, locals := 70 } [.ref (P.1 6), .int x1] (zs_W S h) (zd_PI S rv h) := by
  refine zk_met ku_St_indexOf (Nat.le_of_ble_eq_true rfl) (ze_Em P) ?_
  intro X C hR
  refine zk_lvs (lv' := [(0, .ref (P.1 6)), (1, .int x1)]) [0, 1] rfl ?_
  unfold f_St_indexOf_s6 at e
  refine zk_aload_n C kd_St_indexOf_0 rfl 0 rfl rfl ?_
  refine zk_iload_n C kd_St_indexOf_1 rfl 1 rfl rfl ?_
  refine zk_iconst (v := 0) C kd_St_indexOf_2 (by decide) rfl ?_
  obtain ⟨v2, c1, e⟩ := zd_b e
  refine ze_callStr (i := 6) (rn := { frames := 2, cells := 0, slots := 0, locals := 48 }) (As := [.int x1, .int 0]) (rest := []) C (zc_St_indexOf2_s6 h x1 0 c1) ku_St_indexOf2 kw803 kv_St_indexOf2 (by decide) rfl rfl ⟨by decide, by decide⟩ ⟨by decide, by decide⟩ rfl (Nat.le_of_ble_eq_true rfl) kd_St_indexOf_3 rfl (c1 := 0) (s1 := 0) rfl rfl (fun v w hp => ?_)
  obtain ⟨rfl, rfl⟩ := hp
  refine zk_stk (r' := [.int v2]) rfl ?_
  exact zk_iret C hR kd_St_indexOf_6 rfl rfl (zd_rIO e)
set_option maxHeartbeats 4000000 in
set_option maxRecDepth 100000 in
theorem zb_Ar_fill_c36_5 {X : zkj_T} {S : zs_T} {P : ze_T} {l : Launch} {D : va_G} {sz0 : Nat} {rh : zs_H} (C : zk_C X km_Ar_fill (zs_G S l D sz0) { frames := 0, cells := 0, slots := 0, locals := 0 } (ze_E P)) (hR : zkj_R X (zd_PV S rh) (none)) {k5 : zs_H → Int32 → Int32 → Int32 → (Option zs_H)} (hk5 : ∀ (h : zs_H) (x1 : Int32) (x2 : Int32) (x3 : Int32), k5 h x1 x2 x3 = some rh → zk_Ab X (zs_W S h) 0 0 5 [(0, .ref (S.1 36)), (1, .int x1), (2, .int x2), (3, .int x3)] []) (h : zs_H) (x1 : Int32) (x2 : Int32) (x3 : Int32) (e : f_Ar_fill_c36_5 k5 h x1 x2 x3 = some rh) : zk_Ab X (zs_W S h) 0 0 5 [(0, .ref (S.1 36)), (1, .int x1), (2, .int x2), (3, .int x3)] [] := by
  unfold f_Ar_fill_c36_5 at e
  refine zk_iload_n C kd_Ar_fill_5 rfl 2 rfl rfl ?_
  refine zk_iload_n C kd_Ar_fill_6 rfl 3 rfl rfl ?_
  refine zk_icmp_ge (tgt := 20) C kd_Ar_fill_7 (by decide) rfl (fun b1 => ?_) (fun b1 => ?_)
  · replace e := zd_pos b1 e
    exact zk_vret C hR kd_Ar_fill_20 rfl rfl (zd_rV e)
  · replace e := zd_neg b1 e
    refine zk_aload_n C kd_Ar_fill_10 rfl 0 rfl rfl ?_
    refine zk_iload_n C kd_Ar_fill_11 rfl 2 rfl rfl ?_
    refine zk_iload_n C kd_Ar_fill_12 rfl 1 rfl rfl ?_
    obtain ⟨q2, e⟩ := zd_g e
    refine zs_iast C 36 rfl (zd_vp q2) kd_Ar_fill_13 rfl ?_
    refine zk_iinc (v := (x2 + 1)) (lv' := [(2, _), (0, _), (1, _), (3, _)]) C kd_Ar_fill_14 2 rfl rfl (by decide) rfl rfl ?_
    refine zk_goto (tgt := 5) C kd_Ar_fill_17 (by decide) ?_
    refine zk_lvs (lv' := [(0, .ref (S.1 36)), (1, .int x1), (2, .int (x2 + 1)), (3, .int x3)]) [1, 2, 0, 3] rfl ?_
    exact hk5 (zs_uM h 36 x2.toNatClampNeg x1) x1 (x2 + 1) x3 e
theorem zl_Ar_fill_c36_5 {X : zkj_T} {S : zs_T} {P : ze_T} {l : Launch} {D : va_G} {sz0 : Nat} {rh : zs_H} (C : zk_C X km_Ar_fill (zs_G S l D sz0) { frames := 0, cells := 0, slots := 0, locals := 0 } (ze_E P)) (hR : zkj_R X (zd_PV S rh) (none)) (n : Nat) : ∀ (h : zs_H) (x1 : Int32) (x2 : Int32) (x3 : Int32), f_Ar_fill_c36_L5 n h x1 x2 x3 = some rh → zk_Ab X (zs_W S h) 0 0 5 [(0, .ref (S.1 36)), (1, .int x1), (2, .int x2), (3, .int x3)] [] := by
  induction n with
  | zero => intro h x1 x2 x3 e; exact zd_no e
  | succ n ih => intro h x1 x2 x3 e; exact zb_Ar_fill_c36_5 (k5 := f_Ar_fill_c36_L5  n) C hR ih h x1 x2 x3 e
set_option maxHeartbeats 4000000 in
set_option maxRecDepth 100000 in
theorem zc_Ar_fill_c36 {l : Launch} {D : va_G} {sz0 : Nat} {S : zs_T} {P : ze_T} (h : zs_H) (x1 : Int32) {rh : zs_H} (e : f_Ar_fill_c36 h x1 = some rh) : zk_Sp (zs_G S l D sz0) (ze_E P) km_Ar_fill { frames := 0, cells := 0, slots := 0, locals := 0 } [.ref (S.1 36), .int x1] (zs_W S h) (zd_PV S rh) := by
  refine zk_met ku_Ar_fill (Nat.le_of_ble_eq_true rfl) (ze_Em P) ?_
  intro X C hR
  refine zk_lvs (lv' := [(0, .ref (S.1 36)), (1, .int x1)]) [0, 1] rfl ?_
  unfold f_Ar_fill_c36 at e
  refine zk_iconst (v := 0) C kd_Ar_fill_0 (by decide) rfl ?_
  refine zk_istore_n (lv' := [(2, _), (0, _), (1, _)]) C kd_Ar_fill_1 rfl (by decide) rfl rfl ?_
  refine zk_aload_n C kd_Ar_fill_2 rfl 1 rfl rfl ?_
  refine zs_alen (v := 6000) C 36 rfl (by decide) rfl kd_Ar_fill_3 rfl ?_
  refine zk_istore_n (lv' := [(3, _), (2, _), (0, _), (1, _)]) C kd_Ar_fill_4 rfl (by decide) rfl rfl ?_
  refine zk_lvs (lv' := [(0, .ref (S.1 36)), (1, .int x1), (2, .int 0), (3, .int 6000)]) [2, 3, 1, 0] rfl ?_
  exact zl_Ar_fill_c36_5 C hR zF h x1 0 6000 e
set_option maxHeartbeats 4000000 in
set_option maxRecDepth 100000 in
theorem zb_Ar_fill_c37_5 {X : zkj_T} {S : zs_T} {P : ze_T} {l : Launch} {D : va_G} {sz0 : Nat} {rh : zs_H} (C : zk_C X km_Ar_fill (zs_G S l D sz0) { frames := 0, cells := 0, slots := 0, locals := 0 } (ze_E P)) (hR : zkj_R X (zd_PV S rh) (none)) {k5 : zs_H → Int32 → Int32 → Int32 → (Option zs_H)} (hk5 : ∀ (h : zs_H) (x1 : Int32) (x2 : Int32) (x3 : Int32), k5 h x1 x2 x3 = some rh → zk_Ab X (zs_W S h) 0 0 5 [(0, .ref (S.1 37)), (1, .int x1), (2, .int x2), (3, .int x3)] []) (h : zs_H) (x1 : Int32) (x2 : Int32) (x3 : Int32) (e : f_Ar_fill_c37_5 k5 h x1 x2 x3 = some rh) : zk_Ab X (zs_W S h) 0 0 5 [(0, .ref (S.1 37)), (1, .int x1), (2, .int x2), (3, .int x3)] [] := by
  unfold f_Ar_fill_c37_5 at e
  refine zk_iload_n C kd_Ar_fill_5 rfl 2 rfl rfl ?_
  refine zk_iload_n C kd_Ar_fill_6 rfl 3 rfl rfl ?_
  refine zk_icmp_ge (tgt := 20) C kd_Ar_fill_7 (by decide) rfl (fun b1 => ?_) (fun b1 => ?_)
  · replace e := zd_pos b1 e
    exact zk_vret C hR kd_Ar_fill_20 rfl rfl (zd_rV e)
  · replace e := zd_neg b1 e
    refine zk_aload_n C kd_Ar_fill_10 rfl 0 rfl rfl ?_
    refine zk_iload_n C kd_Ar_fill_11 rfl 2 rfl rfl ?_
    refine zk_iload_n C kd_Ar_fill_12 rfl 1 rfl rfl ?_
    obtain ⟨q2, e⟩ := zd_g e
    refine zs_iast C 37 rfl (zd_vp q2) kd_Ar_fill_13 rfl ?_
    refine zk_iinc (v := (x2 + 1)) (lv' := [(2, _), (0, _), (1, _), (3, _)]) C kd_Ar_fill_14 2 rfl rfl (by decide) rfl rfl ?_
    refine zk_goto (tgt := 5) C kd_Ar_fill_17 (by decide) ?_
    refine zk_lvs (lv' := [(0, .ref (S.1 37)), (1, .int x1), (2, .int (x2 + 1)), (3, .int x3)]) [1, 2, 0, 3] rfl ?_
    exact hk5 (zs_uM h 37 x2.toNatClampNeg x1) x1 (x2 + 1) x3 e
theorem zl_Ar_fill_c37_5 {X : zkj_T} {S : zs_T} {P : ze_T} {l : Launch} {D : va_G} {sz0 : Nat} {rh : zs_H} (C : zk_C X km_Ar_fill (zs_G S l D sz0) { frames := 0, cells := 0, slots := 0, locals := 0 } (ze_E P)) (hR : zkj_R X (zd_PV S rh) (none)) (n : Nat) : ∀ (h : zs_H) (x1 : Int32) (x2 : Int32) (x3 : Int32), f_Ar_fill_c37_L5 n h x1 x2 x3 = some rh → zk_Ab X (zs_W S h) 0 0 5 [(0, .ref (S.1 37)), (1, .int x1), (2, .int x2), (3, .int x3)] [] := by
  induction n with
  | zero => intro h x1 x2 x3 e; exact zd_no e
  | succ n ih => intro h x1 x2 x3 e; exact zb_Ar_fill_c37_5 (k5 := f_Ar_fill_c37_L5  n) C hR ih h x1 x2 x3 e
set_option maxHeartbeats 4000000 in
set_option maxRecDepth 100000 in
theorem zc_Ar_fill_c37 {l : Launch} {D : va_G} {sz0 : Nat} {S : zs_T} {P : ze_T} (h : zs_H) (x1 : Int32) {rh : zs_H} (e : f_Ar_fill_c37 h x1 = some rh) : zk_Sp (zs_G S l D sz0) (ze_E P) km_Ar_fill { frames := 0, cells := 0, slots := 0, locals := 0 } [.ref (S.1 37), .int x1] (zs_W S h) (zd_PV S rh) := by
  refine zk_met ku_Ar_fill (Nat.le_of_ble_eq_true rfl) (ze_Em P) ?_
  intro X C hR
  refine zk_lvs (lv' := [(0, .ref (S.1 37)), (1, .int x1)]) [0, 1] rfl ?_
  unfold f_Ar_fill_c37 at e
  refine zk_iconst (v := 0) C kd_Ar_fill_0 (by decide) rfl ?_
  refine zk_istore_n (lv' := [(2, _), (0, _), (1, _)]) C kd_Ar_fill_1 rfl (by decide) rfl rfl ?_
  refine zk_aload_n C kd_Ar_fill_2 rfl 1 rfl rfl ?_
  refine zs_alen (v := 6000) C 37 rfl (by decide) rfl kd_Ar_fill_3 rfl ?_
  refine zk_istore_n (lv' := [(3, _), (2, _), (0, _), (1, _)]) C kd_Ar_fill_4 rfl (by decide) rfl rfl ?_
  refine zk_lvs (lv' := [(0, .ref (S.1 37)), (1, .int x1), (2, .int 0), (3, .int 6000)]) [2, 3, 1, 0] rfl ?_
  exact zl_Ar_fill_c37_5 C hR zF h x1 0 6000 e
