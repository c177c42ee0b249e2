theorem kw1759 : Jvm.Cond.fieldLink "PlantKeeperModel" (811 : Nat) "PlantKeeperModel" "high" "I" ∈ zk_BW := zk_inT 1759 (by decide +kernel) rfl
theorem kw2565 : Jvm.Cond.static ({ cls := "PlantKeeperModel", name := "one", desc := "(II)I" } : Jvm.MethodName) ∈ zk_BW := zk_inT 2565 (by decide +kernel) rfl
theorem kw2566 : Jvm.Cond.code ({ cls := "PlantKeeperModel", name := "one", desc := "(II)I" } : Jvm.MethodName) prog_14_method_151_code (2 : Nat) (Option.some FieldType.int) ∈ zk_BW := zk_inT 2566 (by decide +kernel) rfl
theorem kw2577 : Jvm.Cond.static ({ cls := "PlantKeeperModel", name := "two", desc := "(III)I" } : Jvm.MethodName) ∈ zk_BW := zk_inT 2577 (by decide +kernel) rfl
theorem kw2578 : Jvm.Cond.code ({ cls := "PlantKeeperModel", name := "two", desc := "(III)I" } : Jvm.MethodName) prog_14_method_150_code (3 : Nat) (Option.some FieldType.int) ∈ zk_BW := zk_inT 2578 (by decide +kernel) rfl
theorem kw2579 : Jvm.Cond.constantLong "PlantKeeperModel" (806 : Nat) (4294967295 : Int64) ∈ zk_BW := zk_inT 2579 (by decide +kernel) rfl
theorem kw2754 : Jvm.Cond.instanceMethod ({ cls := "PlantKeeperModel", name := "lay", desc := "(I)V" } : Jvm.MethodName) ∈ zk_BW := zk_inT 2754 (by decide +kernel) rfl
theorem kw2755 : Jvm.Cond.code ({ cls := "PlantKeeperModel", name := "lay", desc := "(I)V" } : Jvm.MethodName) prog_14_method_154_code (2 : Nat) (Option.none : Option FieldType) ∈ zk_BW := zk_inT 2755 (by decide +kernel) rfl
theorem kw2758 : Jvm.Cond.instanceMethod ({ cls := "PlantKeeperModel", name := "timers", desc := "(II)V" } : Jvm.MethodName) ∈ zk_BW := zk_inT 2758 (by decide +kernel) rfl
set_option maxRecDepth 1000000 in
theorem kw2759 : Jvm.Cond.code ({ cls := "PlantKeeperModel", name := "timers", desc := "(II)V" } : Jvm.MethodName) prog_14_method_160_code (7 : Nat) (Option.none : Option FieldType) ∈ zk_BW := zk_inT 2759 (by with_unfolding_all exact rfl) rfl
theorem kw2760 : Jvm.Cond.methodLink "PlantKeeperModel" (835 : Nat) ({ cls := "PlantKeeperModel", name := "on", desc := "(I)Z" } : Jvm.MethodName) ∈ zk_BW := zk_inT 2760 (by decide +kernel) rfl
theorem kw2764 : Jvm.Cond.methodLink "PlantKeeperModel" (838 : Nat) ({ cls := "PlantKeeperModel", name := "grown", desc := "(II)I" } : Jvm.MethodName) ∈ zk_BW := zk_inT 2764 (by decide +kernel) rfl
theorem kw2768 : Jvm.Cond.methodLink "PlantKeeperModel" (841 : Nat) ({ cls := "PlantKeeperModel", name := "turn", desc := "(IZ)V" } : Jvm.MethodName) ∈ zk_BW := zk_inT 2768 (by decide +kernel) rfl
abbrev kc_Mo_lay : ByteArray := prog_14_method_154_code
def km_Mo_lay : zk_MT := (⟨"PlantKeeperModel", "lay", "(I)V"⟩, kc_Mo_lay, 2, none, 1)
theorem ku_Mo_lay : zk_My km_Mo_lay := ⟨kw2755, kw17, by decide, by decide, by decide, by decide +kernel⟩
theorem kv_Mo_lay : zk_Mv km_Mo_lay := ⟨kw2754, zk_inS 292 (q := (⟨"PlantKeeperModel", "lay", "(I)V"⟩, 96)) (by decide +kernel)⟩
abbrev kc_Mo_one : ByteArray := prog_14_method_151_code
def km_Mo_one : zk_MT := (⟨"PlantKeeperModel", "one", "(II)I"⟩, kc_Mo_one, 2, some .int, 2)
theorem ku_Mo_one : zk_My km_Mo_one := ⟨kw2566, kw17, by decide, by decide, by decide, by decide +kernel⟩
theorem ks_Mo_one : Cond.static km_Mo_one.1 ∈ zk_BW := kw2565
abbrev kc_Mo_timers : ByteArray := prog_14_method_160_code
def km_Mo_timers : zk_MT := (⟨"PlantKeeperModel", "timers", "(II)V"⟩, kc_Mo_timers, 7, none, 2)
theorem ku_Mo_timers : zk_My km_Mo_timers := ⟨kw2759, kw17, by decide, by decide, by decide, by decide +kernel⟩
theorem kv_Mo_timers : zk_Mv km_Mo_timers := ⟨kw2758, zk_inS 293 (q := (⟨"PlantKeeperModel", "timers", "(II)V"⟩, 96)) (by decide +kernel)⟩
abbrev kc_Mo_two : ByteArray := prog_14_method_150_code
def km_Mo_two : zk_MT := (⟨"PlantKeeperModel", "two", "(III)I"⟩, kc_Mo_two, 3, some .int, 3)
theorem ku_Mo_two : zk_My km_Mo_two := ⟨kw2578, kw17, by decide, by decide, by decide, by decide +kernel⟩
theorem ks_Mo_two : Cond.static km_Mo_two.1 ∈ zk_BW := kw2577
theorem kd_Mo_lay_0 : decode kc_Mo_lay 0 = .ok (.aload_n 0, 1) := by decide +kernel
theorem kd_Mo_lay_1 : decode kc_Mo_lay 1 = .ok (.getfield 153, 3) := by decide +kernel
theorem kd_Mo_lay_4 : decode kc_Mo_lay 4 = .ok (.aload_n 0, 1) := by decide +kernel
theorem kd_Mo_lay_5 : decode kc_Mo_lay 5 = .ok (.getfield 811, 3) := by decide +kernel
theorem kd_Mo_lay_8 : decode kc_Mo_lay 8 = .ok (.iload_n 1, 1) := by decide +kernel
theorem kd_Mo_lay_9 : decode kc_Mo_lay 9 = .ok (.iastore, 1) := by decide +kernel
theorem kd_Mo_lay_10 : decode kc_Mo_lay 10 = .ok (.aload_n 0, 1) := by decide +kernel
theorem kd_Mo_lay_11 : decode kc_Mo_lay 11 = .ok (.dup, 1) := by decide +kernel
theorem kd_Mo_lay_12 : decode kc_Mo_lay 12 = .ok (.getfield 811, 3) := by decide +kernel
theorem kd_Mo_lay_15 : decode kc_Mo_lay 15 = .ok (.iconst 1, 1) := by decide +kernel
theorem kd_Mo_lay_16 : decode kc_Mo_lay 16 = .ok (.iadd, 1) := by decide +kernel
theorem kd_Mo_lay_17 : decode kc_Mo_lay 17 = .ok (.putfield 811, 3) := by decide +kernel
theorem kd_Mo_lay_20 : decode kc_Mo_lay 20 = .ok (.return_, 1) := by decide +kernel
theorem kd_Mo_one_0 : decode kc_Mo_one 0 = .ok (.iload_n 0, 1) := by decide +kernel
theorem kd_Mo_one_1 : decode kc_Mo_one 1 = .ok (.tableswitch 96 0 6 #[43, 49, 52, 62, 66, 80, 91], 43) := by decide +kernel
theorem kd_Mo_one_44 : decode kc_Mo_one 44 = .ok (.iload_n 1, 1) := by decide +kernel
theorem kd_Mo_one_45 : decode kc_Mo_one 45 = .ok (.ineg, 1) := by decide +kernel
theorem kd_Mo_one_46 : decode kc_Mo_one 46 = .ok (.invokestatic 803, 3) := by decide +kernel
theorem kd_Mo_one_49 : decode kc_Mo_one 49 = .ok (.ireturn, 1) := by decide +kernel
theorem kd_Mo_one_50 : decode kc_Mo_one 50 = .ok (.iload_n 1, 1) := by decide +kernel
theorem kd_Mo_one_51 : decode kc_Mo_one 51 = .ok (.ineg, 1) := by decide +kernel
theorem kd_Mo_one_52 : decode kc_Mo_one 52 = .ok (.ireturn, 1) := by decide +kernel
theorem kd_Mo_one_53 : decode kc_Mo_one 53 = .ok (.iload_n 1, 1) := by decide +kernel
theorem kd_Mo_one_54 : decode kc_Mo_one 54 = .ok (.ifCond .ne 7, 3) := by decide +kernel
theorem kd_Mo_one_57 : decode kc_Mo_one 57 = .ok (.iconst 1, 1) := by decide +kernel
theorem kd_Mo_one_58 : decode kc_Mo_one 58 = .ok (.goto 4, 3) := by decide +kernel
theorem kd_Mo_one_61 : decode kc_Mo_one 61 = .ok (.iconst 0, 1) := by decide +kernel
theorem kd_Mo_one_62 : decode kc_Mo_one 62 = .ok (.ireturn, 1) := by decide +kernel
theorem kd_Mo_one_63 : decode kc_Mo_one 63 = .ok (.iconst (-1), 1) := by decide +kernel
theorem kd_Mo_one_64 : decode kc_Mo_one 64 = .ok (.iload_n 1, 1) := by decide +kernel
theorem kd_Mo_one_65 : decode kc_Mo_one 65 = .ok (.isub, 1) := by decide +kernel
theorem kd_Mo_one_66 : decode kc_Mo_one 66 = .ok (.ireturn, 1) := by decide +kernel
theorem kd_Mo_one_67 : decode kc_Mo_one 67 = .ok (.iload_n 1, 1) := by decide +kernel
theorem kd_Mo_one_68 : decode kc_Mo_one 68 = .ok (.ifCond .ge 8, 3) := by decide +kernel
theorem kd_Mo_one_71 : decode kc_Mo_one 71 = .ok (.iload_n 1, 1) := by decide +kernel
theorem kd_Mo_one_72 : decode kc_Mo_one 72 = .ok (.ineg, 1) := by decide +kernel
theorem kd_Mo_one_73 : decode kc_Mo_one 73 = .ok (.goto 4, 3) := by decide +kernel
theorem kd_Mo_one_76 : decode kc_Mo_one 76 = .ok (.iload_n 1, 1) := by decide +kernel
theorem kd_Mo_one_77 : decode kc_Mo_one 77 = .ok (.invokestatic 803, 3) := by decide +kernel
theorem kd_Mo_one_80 : decode kc_Mo_one 80 = .ok (.ireturn, 1) := by decide +kernel
theorem kd_Mo_one_81 : decode kc_Mo_one 81 = .ok (.iload_n 1, 1) := by decide +kernel
theorem kd_Mo_one_82 : decode kc_Mo_one 82 = .ok (.ifCond .ge 8, 3) := by decide +kernel
theorem kd_Mo_one_85 : decode kc_Mo_one 85 = .ok (.iload_n 1, 1) := by decide +kernel
theorem kd_Mo_one_86 : decode kc_Mo_one 86 = .ok (.ineg, 1) := by decide +kernel
theorem kd_Mo_one_87 : decode kc_Mo_one 87 = .ok (.goto 4, 3) := by decide +kernel
theorem kd_Mo_one_90 : decode kc_Mo_one 90 = .ok (.iload_n 1, 1) := by decide +kernel
theorem kd_Mo_one_91 : decode kc_Mo_one 91 = .ok (.ireturn, 1) := by decide +kernel
theorem kd_Mo_one_92 : decode kc_Mo_one 92 = .ok (.iload_n 1, 1) := by decide +kernel
theorem kd_Mo_one_93 : decode kc_Mo_one 93 = .ok (.invokestatic 803, 3) := by decide +kernel
theorem kd_Mo_one_96 : decode kc_Mo_one 96 = .ok (.ireturn, 1) := by decide +kernel
theorem kd_Mo_one_97 : decode kc_Mo_one 97 = .ok (.iload_n 1, 1) := by decide +kernel
theorem kd_Mo_one_98 : decode kc_Mo_one 98 = .ok (.ifCond .ne 7, 3) := by decide +kernel
theorem kd_Mo_one_101 : decode kc_Mo_one 101 = .ok (.iconst 0, 1) := by decide +kernel
theorem kd_Mo_one_102 : decode kc_Mo_one 102 = .ok (.goto 4, 3) := by decide +kernel
theorem kd_Mo_one_105 : decode kc_Mo_one 105 = .ok (.iconst 1, 1) := by decide +kernel
theorem kd_Mo_one_106 : decode kc_Mo_one 106 = .ok (.ireturn, 1) := by decide +kernel
theorem kd_Mo_timers_0 : decode kc_Mo_timers 0 = .ok (.aload_n 0, 1) := by decide +kernel
theorem kd_Mo_timers_1 : decode kc_Mo_timers 1 = .ok (.iload_n 2, 1) := by decide +kernel
theorem kd_Mo_timers_2 : decode kc_Mo_timers 2 = .ok (.invokevirtual 835, 3) := by decide +kernel
theorem kd_Mo_timers_5 : decode kc_Mo_timers 5 = .ok (.istore_n 3, 1) := by decide +kernel
theorem kd_Mo_timers_6 : decode kc_Mo_timers 6 = .ok (.aload_n 0, 1) := by decide +kernel
theorem kd_Mo_timers_7 : decode kc_Mo_timers 7 = .ok (.iload_n 2, 1) := by decide +kernel
theorem kd_Mo_timers_8 : decode kc_Mo_timers 8 = .ok (.iload_n 1, 1) := by decide +kernel
theorem kd_Mo_timers_9 : decode kc_Mo_timers 9 = .ok (.iconst 3, 1) := by decide +kernel
theorem kd_Mo_timers_10 : decode kc_Mo_timers 10 = .ok (.if_icmp .ge 7, 3) := by decide +kernel
theorem kd_Mo_timers_13 : decode kc_Mo_timers 13 = .ok (.iconst 4, 1) := by decide +kernel
theorem kd_Mo_timers_14 : decode kc_Mo_timers 14 = .ok (.goto 13, 3) := by decide +kernel
theorem kd_Mo_timers_17 : decode kc_Mo_timers 17 = .ok (.iload_n 1, 1) := by decide +kernel
theorem kd_Mo_timers_18 : decode kc_Mo_timers 18 = .ok (.iconst 5, 1) := by decide +kernel
theorem kd_Mo_timers_19 : decode kc_Mo_timers 19 = .ok (.if_icmp .ge 7, 3) := by decide +kernel
theorem kd_Mo_timers_22 : decode kc_Mo_timers 22 = .ok (.iconst 5, 1) := by decide +kernel
theorem kd_Mo_timers_23 : decode kc_Mo_timers 23 = .ok (.goto 4, 3) := by decide +kernel
theorem kd_Mo_timers_26 : decode kc_Mo_timers 26 = .ok (.iconst 2, 1) := by decide +kernel
theorem kd_Mo_timers_27 : decode kc_Mo_timers 27 = .ok (.iadd, 1) := by decide +kernel
theorem kd_Mo_timers_28 : decode kc_Mo_timers 28 = .ok (.invokevirtual 835, 3) := by decide +kernel
theorem kd_Mo_timers_31 : decode kc_Mo_timers 31 = .ok (.istore 4, 2) := by decide +kernel
theorem kd_Mo_timers_33 : decode kc_Mo_timers 33 = .ok (.aload_n 0, 1) := by decide +kernel
theorem kd_Mo_timers_34 : decode kc_Mo_timers 34 = .ok (.getfield 150, 3) := by decide +kernel
theorem kd_Mo_timers_37 : decode kc_Mo_timers 37 = .ok (.iload_n 2, 1) := by decide +kernel
theorem kd_Mo_timers_38 : decode kc_Mo_timers 38 = .ok (.iconst 1, 1) := by decide +kernel
theorem kd_Mo_timers_39 : decode kc_Mo_timers 39 = .ok (.iadd, 1) := by decide +kernel
theorem kd_Mo_timers_40 : decode kc_Mo_timers 40 = .ok (.iaload, 1) := by decide +kernel
theorem kd_Mo_timers_41 : decode kc_Mo_timers 41 = .ok (.ifCond .le 14, 3) := by decide +kernel
theorem kd_Mo_timers_44 : decode kc_Mo_timers 44 = .ok (.aload_n 0, 1) := by decide +kernel
theorem kd_Mo_timers_45 : decode kc_Mo_timers 45 = .ok (.getfield 150, 3) := by decide +kernel
theorem kd_Mo_timers_48 : decode kc_Mo_timers 48 = .ok (.iload_n 2, 1) := by decide +kernel
theorem kd_Mo_timers_49 : decode kc_Mo_timers 49 = .ok (.iconst 1, 1) := by decide +kernel
theorem kd_Mo_timers_50 : decode kc_Mo_timers 50 = .ok (.iadd, 1) := by decide +kernel
theorem kd_Mo_timers_51 : decode kc_Mo_timers 51 = .ok (.iaload, 1) := by decide +kernel
theorem kd_Mo_timers_52 : decode kc_Mo_timers 52 = .ok (.goto 4, 3) := by decide +kernel
theorem kd_Mo_timers_55 : decode kc_Mo_timers 55 = .ok (.iconst 0, 1) := by decide +kernel
theorem kd_Mo_timers_56 : decode kc_Mo_timers 56 = .ok (.istore 5, 2) := by decide +kernel
theorem kd_Mo_timers_58 : decode kc_Mo_timers 58 = .ok (.iload_n 1, 1) := by decide +kernel
theorem kd_Mo_timers_59 : decode kc_Mo_timers 59 = .ok (.tableswitch 592 0 7 #[45, 105, 222, 320, 413, 505, 529, 553], 45) := by decide +kernel
theorem kd_Mo_timers_104 : decode kc_Mo_timers 104 = .ok (.aload_n 0, 1) := by decide +kernel
theorem kd_Mo_timers_105 : decode kc_Mo_timers 105 = .ok (.getfield 150, 3) := by decide +kernel
theorem kd_Mo_timers_108 : decode kc_Mo_timers 108 = .ok (.iload_n 2, 1) := by decide +kernel
theorem kd_Mo_timers_109 : decode kc_Mo_timers 109 = .ok (.iconst 3, 1) := by decide +kernel
theorem kd_Mo_timers_110 : decode kc_Mo_timers 110 = .ok (.iadd, 1) := by decide +kernel
theorem kd_Mo_timers_111 : decode kc_Mo_timers 111 = .ok (.iload_n 3, 1) := by decide +kernel
theorem kd_Mo_timers_112 : decode kc_Mo_timers 112 = .ok (.ifCond .eq 18, 3) := by decide +kernel
theorem kd_Mo_timers_115 : decode kc_Mo_timers 115 = .ok (.iload 4, 2) := by decide +kernel
theorem kd_Mo_timers_117 : decode kc_Mo_timers 117 = .ok (.ifCond .eq 13, 3) := by decide +kernel
theorem kd_Mo_timers_120 : decode kc_Mo_timers 120 = .ok (.aload_n 0, 1) := by decide +kernel
theorem kd_Mo_timers_121 : decode kc_Mo_timers 121 = .ok (.iload_n 2, 1) := by decide +kernel
theorem kd_Mo_timers_122 : decode kc_Mo_timers 122 = .ok (.iload 5, 2) := by decide +kernel
theorem kd_Mo_timers_124 : decode kc_Mo_timers 124 = .ok (.invokevirtual 838, 3) := by decide +kernel
theorem kd_Mo_timers_127 : decode kc_Mo_timers 127 = .ok (.goto 4, 3) := by decide +kernel
theorem kd_Mo_timers_130 : decode kc_Mo_timers 130 = .ok (.iconst 0, 1) := by decide +kernel
theorem kd_Mo_timers_131 : decode kc_Mo_timers 131 = .ok (.iastore, 1) := by decide +kernel
theorem kd_Mo_timers_132 : decode kc_Mo_timers 132 = .ok (.aload_n 0, 1) := by decide +kernel
theorem kd_Mo_timers_133 : decode kc_Mo_timers 133 = .ok (.iload_n 2, 1) := by decide +kernel
theorem kd_Mo_timers_134 : decode kc_Mo_timers 134 = .ok (.iconst 2, 1) := by decide +kernel
theorem kd_Mo_timers_135 : decode kc_Mo_timers 135 = .ok (.iadd, 1) := by decide +kernel
theorem kd_Mo_timers_136 : decode kc_Mo_timers 136 = .ok (.iload_n 3, 1) := by decide +kernel
theorem kd_Mo_timers_137 : decode kc_Mo_timers 137 = .ok (.ifCond .eq 20, 3) := by decide +kernel
theorem kd_Mo_timers_140 : decode kc_Mo_timers 140 = .ok (.aload_n 0, 1) := by decide +kernel
theorem kd_Mo_timers_141 : decode kc_Mo_timers 141 = .ok (.getfield 150, 3) := by decide +kernel
theorem kd_Mo_timers_144 : decode kc_Mo_timers 144 = .ok (.iload_n 2, 1) := by decide +kernel
theorem kd_Mo_timers_145 : decode kc_Mo_timers 145 = .ok (.iconst 3, 1) := by decide +kernel
theorem kd_Mo_timers_146 : decode kc_Mo_timers 146 = .ok (.iadd, 1) := by decide +kernel
theorem kd_Mo_timers_147 : decode kc_Mo_timers 147 = .ok (.iaload, 1) := by decide +kernel
theorem kd_Mo_timers_148 : decode kc_Mo_timers 148 = .ok (.iload 5, 2) := by decide +kernel
theorem kd_Mo_timers_150 : decode kc_Mo_timers 150 = .ok (.if_icmp .lt 7, 3) := by decide +kernel
theorem kd_Mo_timers_153 : decode kc_Mo_timers 153 = .ok (.iconst 1, 1) := by decide +kernel
theorem kd_Mo_timers_154 : decode kc_Mo_timers 154 = .ok (.goto 4, 3) := by decide +kernel
theorem kd_Mo_timers_157 : decode kc_Mo_timers 157 = .ok (.iconst 0, 1) := by decide +kernel
theorem kd_Mo_timers_158 : decode kc_Mo_timers 158 = .ok (.invokevirtual 841, 3) := by decide +kernel
theorem kd_Mo_timers_161 : decode kc_Mo_timers 161 = .ok (.goto 526, 3) := by decide +kernel
theorem kd_Mo_timers_164 : decode kc_Mo_timers 164 = .ok (.iload_n 3, 1) := by decide +kernel
theorem kd_Mo_timers_165 : decode kc_Mo_timers 165 = .ok (.ifCond .ne 22, 3) := by decide +kernel
theorem kd_Mo_timers_168 : decode kc_Mo_timers 168 = .ok (.iload 4, 2) := by decide +kernel
theorem kd_Mo_timers_170 : decode kc_Mo_timers 170 = .ok (.ifCond .ne 17, 3) := by decide +kernel
theorem kd_Mo_timers_173 : decode kc_Mo_timers 173 = .ok (.aload_n 0, 1) := by decide +kernel
theorem kd_Mo_timers_174 : decode kc_Mo_timers 174 = .ok (.iload_n 2, 1) := by decide +kernel
theorem kd_Mo_timers_175 : decode kc_Mo_timers 175 = .ok (.iconst 2, 1) := by decide +kernel
theorem kd_Mo_timers_176 : decode kc_Mo_timers 176 = .ok (.iadd, 1) := by decide +kernel
theorem kd_Mo_timers_177 : decode kc_Mo_timers 177 = .ok (.invokevirtual 835, 3) := by decide +kernel
theorem kd_Mo_timers_180 : decode kc_Mo_timers 180 = .ok (.ifCond .eq 7, 3) := by decide +kernel
theorem kd_Mo_timers_183 : decode kc_Mo_timers 183 = .ok (.iconst 1, 1) := by decide +kernel
theorem kd_Mo_timers_184 : decode kc_Mo_timers 184 = .ok (.goto 4, 3) := by decide +kernel
theorem kd_Mo_timers_187 : decode kc_Mo_timers 187 = .ok (.iconst 0, 1) := by decide +kernel
theorem kd_Mo_timers_188 : decode kc_Mo_timers 188 = .ok (.istore 6, 2) := by decide +kernel
theorem kd_Mo_timers_190 : decode kc_Mo_timers 190 = .ok (.aload_n 0, 1) := by decide +kernel
theorem kd_Mo_timers_191 : decode kc_Mo_timers 191 = .ok (.getfield 150, 3) := by decide +kernel
theorem kd_Mo_timers_194 : decode kc_Mo_timers 194 = .ok (.iload_n 2, 1) := by decide +kernel
theorem kd_Mo_timers_195 : decode kc_Mo_timers 195 = .ok (.iconst 3, 1) := by decide +kernel
theorem kd_Mo_timers_196 : decode kc_Mo_timers 196 = .ok (.iadd, 1) := by decide +kernel
theorem kd_Mo_timers_197 : decode kc_Mo_timers 197 = .ok (.iload_n 3, 1) := by decide +kernel
theorem kd_Mo_timers_198 : decode kc_Mo_timers 198 = .ok (.ifCond .ne 8, 3) := by decide +kernel
theorem kd_Mo_timers_201 : decode kc_Mo_timers 201 = .ok (.iload 4, 2) := by decide +kernel
theorem kd_Mo_timers_203 : decode kc_Mo_timers 203 = .ok (.ifCond .eq 7, 3) := by decide +kernel
theorem kd_Mo_timers_206 : decode kc_Mo_timers 206 = .ok (.iconst 0, 1) := by decide +kernel
theorem kd_Mo_timers_207 : decode kc_Mo_timers 207 = .ok (.goto 26, 3) := by decide +kernel
theorem kd_Mo_timers_210 : decode kc_Mo_timers 210 = .ok (.iload 6, 2) := by decide +kernel
theorem kd_Mo_timers_212 : decode kc_Mo_timers 212 = .ok (.ifCond .eq 13, 3) := by decide +kernel
theorem kd_Mo_timers_215 : decode kc_Mo_timers 215 = .ok (.aload_n 0, 1) := by decide +kernel
theorem kd_Mo_timers_216 : decode kc_Mo_timers 216 = .ok (.iload_n 2, 1) := by decide +kernel
theorem kd_Mo_timers_217 : decode kc_Mo_timers 217 = .ok (.iload 5, 2) := by decide +kernel
theorem kd_Mo_timers_219 : decode kc_Mo_timers 219 = .ok (.invokevirtual 838, 3) := by decide +kernel
theorem kd_Mo_timers_222 : decode kc_Mo_timers 222 = .ok (.goto 11, 3) := by decide +kernel
theorem kd_Mo_timers_225 : decode kc_Mo_timers 225 = .ok (.aload_n 0, 1) := by decide +kernel
theorem kd_Mo_timers_226 : decode kc_Mo_timers 226 = .ok (.getfield 150, 3) := by decide +kernel
theorem kd_Mo_timers_229 : decode kc_Mo_timers 229 = .ok (.iload_n 2, 1) := by decide +kernel
theorem kd_Mo_timers_230 : decode kc_Mo_timers 230 = .ok (.iconst 3, 1) := by decide +kernel
theorem kd_Mo_timers_231 : decode kc_Mo_timers 231 = .ok (.iadd, 1) := by decide +kernel
theorem kd_Mo_timers_232 : decode kc_Mo_timers 232 = .ok (.iaload, 1) := by decide +kernel
theorem kd_Mo_timers_233 : decode kc_Mo_timers 233 = .ok (.iastore, 1) := by decide +kernel
theorem kd_Mo_timers_234 : decode kc_Mo_timers 234 = .ok (.aload_n 0, 1) := by decide +kernel
theorem kd_Mo_timers_235 : decode kc_Mo_timers 235 = .ok (.iload_n 2, 1) := by decide +kernel
theorem kd_Mo_timers_236 : decode kc_Mo_timers 236 = .ok (.iconst 2, 1) := by decide +kernel
theorem kd_Mo_timers_237 : decode kc_Mo_timers 237 = .ok (.iadd, 1) := by decide +kernel
theorem kd_Mo_timers_238 : decode kc_Mo_timers 238 = .ok (.iload_n 3, 1) := by decide +kernel
theorem kd_Mo_timers_239 : decode kc_Mo_timers 239 = .ok (.ifCond .ne 31, 3) := by decide +kernel
theorem kd_Mo_timers_242 : decode kc_Mo_timers 242 = .ok (.iload 4, 2) := by decide +kernel
theorem kd_Mo_timers_244 : decode kc_Mo_timers 244 = .ok (.ifCond .eq 8, 3) := by decide +kernel
theorem kd_Mo_timers_247 : decode kc_Mo_timers 247 = .ok (.iload 5, 2) := by decide +kernel
theorem kd_Mo_timers_249 : decode kc_Mo_timers 249 = .ok (.ifCond .gt 21, 3) := by decide +kernel
theorem kd_Mo_timers_252 : decode kc_Mo_timers 252 = .ok (.iload 6, 2) := by decide +kernel
theorem kd_Mo_timers_254 : decode kc_Mo_timers 254 = .ok (.ifCond .eq 20, 3) := by decide +kernel
theorem kd_Mo_timers_257 : decode kc_Mo_timers 257 = .ok (.aload_n 0, 1) := by decide +kernel
theorem kd_Mo_timers_258 : decode kc_Mo_timers 258 = .ok (.getfield 150, 3) := by decide +kernel
theorem kd_Mo_timers_261 : decode kc_Mo_timers 261 = .ok (.iload_n 2, 1) := by decide +kernel
theorem kd_Mo_timers_262 : decode kc_Mo_timers 262 = .ok (.iconst 3, 1) := by decide +kernel
theorem kd_Mo_timers_263 : decode kc_Mo_timers 263 = .ok (.iadd, 1) := by decide +kernel
theorem kd_Mo_timers_264 : decode kc_Mo_timers 264 = .ok (.iaload, 1) := by decide +kernel
theorem kd_Mo_timers_265 : decode kc_Mo_timers 265 = .ok (.iload 5, 2) := by decide +kernel
theorem kd_Mo_timers_267 : decode kc_Mo_timers 267 = .ok (.if_icmp .ge 7, 3) := by decide +kernel
theorem kd_Mo_timers_270 : decode kc_Mo_timers 270 = .ok (.iconst 1, 1) := by decide +kernel
theorem kd_Mo_timers_271 : decode kc_Mo_timers 271 = .ok (.goto 4, 3) := by decide +kernel
theorem kd_Mo_timers_274 : decode kc_Mo_timers 274 = .ok (.iconst 0, 1) := by decide +kernel
theorem kd_Mo_timers_275 : decode kc_Mo_timers 275 = .ok (.invokevirtual 841, 3) := by decide +kernel
theorem kd_Mo_timers_278 : decode kc_Mo_timers 278 = .ok (.goto 409, 3) := by decide +kernel
theorem kd_Mo_timers_281 : decode kc_Mo_timers 281 = .ok (.aload_n 0, 1) := by decide +kernel
theorem kd_Mo_timers_282 : decode kc_Mo_timers 282 = .ok (.iload_n 2, 1) := by decide +kernel
theorem kd_Mo_timers_283 : decode kc_Mo_timers 283 = .ok (.iconst 2, 1) := by decide +kernel
theorem kd_Mo_timers_284 : decode kc_Mo_timers 284 = .ok (.iadd, 1) := by decide +kernel
theorem kd_Mo_timers_285 : decode kc_Mo_timers 285 = .ok (.invokevirtual 835, 3) := by decide +kernel
theorem kd_Mo_timers_288 : decode kc_Mo_timers 288 = .ok (.ifCond .eq 39, 3) := by decide +kernel
theorem kd_Mo_timers_291 : decode kc_Mo_timers 291 = .ok (.aload_n 0, 1) := by decide +kernel
theorem kd_Mo_timers_292 : decode kc_Mo_timers 292 = .ok (.getfield 150, 3) := by decide +kernel
theorem kd_Mo_timers_295 : decode kc_Mo_timers 295 = .ok (.iload_n 2, 1) := by decide +kernel
theorem kd_Mo_timers_296 : decode kc_Mo_timers 296 = .ok (.iconst 3, 1) := by decide +kernel
theorem kd_Mo_timers_297 : decode kc_Mo_timers 297 = .ok (.iadd, 1) := by decide +kernel
theorem kd_Mo_timers_298 : decode kc_Mo_timers 298 = .ok (.aload_n 0, 1) := by decide +kernel
theorem kd_Mo_timers_299 : decode kc_Mo_timers 299 = .ok (.iload_n 2, 1) := by decide +kernel
theorem kd_Mo_timers_300 : decode kc_Mo_timers 300 = .ok (.iload 5, 2) := by decide +kernel
theorem kd_Mo_timers_302 : decode kc_Mo_timers 302 = .ok (.invokevirtual 838, 3) := by decide +kernel
theorem kd_Mo_timers_305 : decode kc_Mo_timers 305 = .ok (.iastore, 1) := by decide +kernel
theorem kd_Mo_timers_306 : decode kc_Mo_timers 306 = .ok (.aload_n 0, 1) := by decide +kernel
theorem kd_Mo_timers_307 : decode kc_Mo_timers 307 = .ok (.getfield 150, 3) := by decide +kernel
theorem kd_Mo_timers_310 : decode kc_Mo_timers 310 = .ok (.iload_n 2, 1) := by decide +kernel
theorem kd_Mo_timers_311 : decode kc_Mo_timers 311 = .ok (.iconst 3, 1) := by decide +kernel
theorem kd_Mo_timers_312 : decode kc_Mo_timers 312 = .ok (.iadd, 1) := by decide +kernel
theorem kd_Mo_timers_313 : decode kc_Mo_timers 313 = .ok (.iaload, 1) := by decide +kernel
theorem kd_Mo_timers_314 : decode kc_Mo_timers 314 = .ok (.iload 5, 2) := by decide +kernel
theorem kd_Mo_timers_316 : decode kc_Mo_timers 316 = .ok (.if_icmp .lt 11, 3) := by decide +kernel
theorem kd_Mo_timers_319 : decode kc_Mo_timers 319 = .ok (.aload_n 0, 1) := by decide +kernel
theorem kd_Mo_timers_320 : decode kc_Mo_timers 320 = .ok (.iload_n 2, 1) := by decide +kernel
theorem kd_Mo_timers_321 : decode kc_Mo_timers 321 = .ok (.iconst 2, 1) := by decide +kernel
theorem kd_Mo_timers_322 : decode kc_Mo_timers 322 = .ok (.iadd, 1) := by decide +kernel
theorem kd_Mo_timers_323 : decode kc_Mo_timers 323 = .ok (.iconst 0, 1) := by decide +kernel
theorem kd_Mo_timers_324 : decode kc_Mo_timers 324 = .ok (.invokevirtual 841, 3) := by decide +kernel
theorem kd_Mo_timers_327 : decode kc_Mo_timers 327 = .ok (.aload_n 0, 1) := by decide +kernel
theorem kd_Mo_timers_328 : decode kc_Mo_timers 328 = .ok (.iload_n 2, 1) := by decide +kernel
theorem kd_Mo_timers_329 : decode kc_Mo_timers 329 = .ok (.iconst 2, 1) := by decide +kernel
theorem kd_Mo_timers_330 : decode kc_Mo_timers 330 = .ok (.iadd, 1) := by decide +kernel
theorem kd_Mo_timers_331 : decode kc_Mo_timers 331 = .ok (.invokevirtual 835, 3) := by decide +kernel
theorem kd_Mo_timers_334 : decode kc_Mo_timers 334 = .ok (.ifCond .ne 353, 3) := by decide +kernel
theorem kd_Mo_timers_337 : decode kc_Mo_timers 337 = .ok (.iload_n 3, 1) := by decide +kernel
theorem kd_Mo_timers_338 : decode kc_Mo_timers 338 = .ok (.ifCond .eq 8, 3) := by decide +kernel
theorem kd_Mo_timers_341 : decode kc_Mo_timers 341 = .ok (.iload 4, 2) := by decide +kernel
theorem kd_Mo_timers_343 : decode kc_Mo_timers 343 = .ok (.ifCond .ne 344, 3) := by decide +kernel
theorem kd_Mo_timers_346 : decode kc_Mo_timers 346 = .ok (.aload_n 0, 1) := by decide +kernel
theorem kd_Mo_timers_347 : decode kc_Mo_timers 347 = .ok (.getfield 150, 3) := by decide +kernel
theorem kd_Mo_timers_350 : decode kc_Mo_timers 350 = .ok (.iload_n 2, 1) := by decide +kernel
theorem kd_Mo_timers_351 : decode kc_Mo_timers 351 = .ok (.iconst 3, 1) := by decide +kernel
theorem kd_Mo_timers_352 : decode kc_Mo_timers 352 = .ok (.iadd, 1) := by decide +kernel
theorem kd_Mo_timers_353 : decode kc_Mo_timers 353 = .ok (.iconst 0, 1) := by decide +kernel
theorem kd_Mo_timers_354 : decode kc_Mo_timers 354 = .ok (.iastore, 1) := by decide +kernel
theorem kd_Mo_timers_355 : decode kc_Mo_timers 355 = .ok (.aload_n 0, 1) := by decide +kernel
theorem kd_Mo_timers_356 : decode kc_Mo_timers 356 = .ok (.iload_n 2, 1) := by decide +kernel
theorem kd_Mo_timers_357 : decode kc_Mo_timers 357 = .ok (.iconst 2, 1) := by decide +kernel
theorem kd_Mo_timers_358 : decode kc_Mo_timers 358 = .ok (.iadd, 1) := by decide +kernel
theorem kd_Mo_timers_359 : decode kc_Mo_timers 359 = .ok (.iload_n 3, 1) := by decide +kernel
theorem kd_Mo_timers_360 : decode kc_Mo_timers 360 = .ok (.ifCond .eq 12, 3) := by decide +kernel
theorem kd_Mo_timers_363 : decode kc_Mo_timers 363 = .ok (.iload 5, 2) := by decide +kernel
theorem kd_Mo_timers_365 : decode kc_Mo_timers 365 = .ok (.ifCond .le 7, 3) := by decide +kernel
theorem kd_Mo_timers_368 : decode kc_Mo_timers 368 = .ok (.iconst 1, 1) := by decide +kernel
theorem kd_Mo_timers_369 : decode kc_Mo_timers 369 = .ok (.goto 4, 3) := by decide +kernel
theorem kd_Mo_timers_372 : decode kc_Mo_timers 372 = .ok (.iconst 0, 1) := by decide +kernel
theorem kd_Mo_timers_373 : decode kc_Mo_timers 373 = .ok (.invokevirtual 841, 3) := by decide +kernel
theorem kd_Mo_timers_376 : decode kc_Mo_timers 376 = .ok (.goto 311, 3) := by decide +kernel
theorem kd_Mo_timers_379 : decode kc_Mo_timers 379 = .ok (.aload_n 0, 1) := by decide +kernel
theorem kd_Mo_timers_380 : decode kc_Mo_timers 380 = .ok (.getfield 150, 3) := by decide +kernel
theorem kd_Mo_timers_383 : decode kc_Mo_timers 383 = .ok (.iload_n 2, 1) := by decide +kernel
theorem kd_Mo_timers_384 : decode kc_Mo_timers 384 = .ok (.iconst 4, 1) := by decide +kernel
theorem kd_Mo_timers_385 : decode kc_Mo_timers 385 = .ok (.iadd, 1) := by decide +kernel
theorem kd_Mo_timers_386 : decode kc_Mo_timers 386 = .ok (.aload_n 0, 1) := by decide +kernel
theorem kd_Mo_timers_387 : decode kc_Mo_timers 387 = .ok (.iload_n 2, 1) := by decide +kernel
theorem kd_Mo_timers_388 : decode kc_Mo_timers 388 = .ok (.iconst 1, 1) := by decide +kernel
theorem kd_Mo_timers_389 : decode kc_Mo_timers 389 = .ok (.iadd, 1) := by decide +kernel
theorem kd_Mo_timers_390 : decode kc_Mo_timers 390 = .ok (.invokevirtual 835, 3) := by decide +kernel
theorem kd_Mo_timers_393 : decode kc_Mo_timers 393 = .ok (.ifCond .eq 7, 3) := by decide +kernel
theorem kd_Mo_timers_396 : decode kc_Mo_timers 396 = .ok (.iconst 0, 1) := by decide +kernel
theorem kd_Mo_timers_397 : decode kc_Mo_timers 397 = .ok (.goto 40, 3) := by decide +kernel
theorem kd_Mo_timers_400 : decode kc_Mo_timers 400 = .ok (.aload_n 0, 1) := by decide +kernel
theorem kd_Mo_timers_401 : decode kc_Mo_timers 401 = .ok (.getfield 150, 3) := by decide +kernel
theorem kd_Mo_timers_404 : decode kc_Mo_timers 404 = .ok (.iload_n 2, 1) := by decide +kernel
theorem kd_Mo_timers_405 : decode kc_Mo_timers 405 = .ok (.iconst 4, 1) := by decide +kernel
theorem kd_Mo_timers_406 : decode kc_Mo_timers 406 = .ok (.iadd, 1) := by decide +kernel
theorem kd_Mo_timers_407 : decode kc_Mo_timers 407 = .ok (.iaload, 1) := by decide +kernel
theorem kd_Mo_timers_408 : decode kc_Mo_timers 408 = .ok (.iload_n 3, 1) := by decide +kernel
theorem kd_Mo_timers_409 : decode kc_Mo_timers 409 = .ok (.ifCond .eq 26, 3) := by decide +kernel
theorem kd_Mo_timers_412 : decode kc_Mo_timers 412 = .ok (.iload 4, 2) := by decide +kernel
theorem kd_Mo_timers_414 : decode kc_Mo_timers 414 = .ok (.ifCond .ne 21, 3) := by decide +kernel
theorem kd_Mo_timers_417 : decode kc_Mo_timers 417 = .ok (.aload_n 0, 1) := by decide +kernel
theorem kd_Mo_timers_418 : decode kc_Mo_timers 418 = .ok (.getfield 150, 3) := by decide +kernel
theorem kd_Mo_timers_421 : decode kc_Mo_timers 421 = .ok (.iload_n 2, 1) := by decide +kernel
theorem kd_Mo_timers_422 : decode kc_Mo_timers 422 = .ok (.iconst 4, 1) := by decide +kernel
theorem kd_Mo_timers_423 : decode kc_Mo_timers 423 = .ok (.iadd, 1) := by decide +kernel
theorem kd_Mo_timers_424 : decode kc_Mo_timers 424 = .ok (.iaload, 1) := by decide +kernel
theorem kd_Mo_timers_425 : decode kc_Mo_timers 425 = .ok (.sipush 32767, 3) := by decide +kernel
theorem kd_Mo_timers_428 : decode kc_Mo_timers 428 = .ok (.if_icmp .ge 7, 3) := by decide +kernel
theorem kd_Mo_timers_431 : decode kc_Mo_timers 431 = .ok (.iconst 1, 1) := by decide +kernel
theorem kd_Mo_timers_432 : decode kc_Mo_timers 432 = .ok (.goto 4, 3) := by decide +kernel
theorem kd_Mo_timers_435 : decode kc_Mo_timers 435 = .ok (.iconst 0, 1) := by decide +kernel
theorem kd_Mo_timers_436 : decode kc_Mo_timers 436 = .ok (.iadd, 1) := by decide +kernel
theorem kd_Mo_timers_437 : decode kc_Mo_timers 437 = .ok (.iastore, 1) := by decide +kernel
theorem kd_Mo_timers_438 : decode kc_Mo_timers 438 = .ok (.aload_n 0, 1) := by decide +kernel
theorem kd_Mo_timers_439 : decode kc_Mo_timers 439 = .ok (.iload_n 2, 1) := by decide +kernel
theorem kd_Mo_timers_440 : decode kc_Mo_timers 440 = .ok (.iconst 3, 1) := by decide +kernel
theorem kd_Mo_timers_441 : decode kc_Mo_timers 441 = .ok (.iadd, 1) := by decide +kernel
theorem kd_Mo_timers_442 : decode kc_Mo_timers 442 = .ok (.aload_n 0, 1) := by decide +kernel
theorem kd_Mo_timers_443 : decode kc_Mo_timers 443 = .ok (.getfield 150, 3) := by decide +kernel
theorem kd_Mo_timers_446 : decode kc_Mo_timers 446 = .ok (.iload_n 2, 1) := by decide +kernel
theorem kd_Mo_timers_447 : decode kc_Mo_timers 447 = .ok (.iconst 4, 1) := by decide +kernel
theorem kd_Mo_timers_448 : decode kc_Mo_timers 448 = .ok (.iadd, 1) := by decide +kernel
theorem kd_Mo_timers_449 : decode kc_Mo_timers 449 = .ok (.iaload, 1) := by decide +kernel
theorem kd_Mo_timers_450 : decode kc_Mo_timers 450 = .ok (.aload_n 0, 1) := by decide +kernel
theorem kd_Mo_timers_451 : decode kc_Mo_timers 451 = .ok (.getfield 150, 3) := by decide +kernel
theorem kd_Mo_timers_454 : decode kc_Mo_timers 454 = .ok (.iload_n 2, 1) := by decide +kernel
theorem kd_Mo_timers_455 : decode kc_Mo_timers 455 = .ok (.iconst 2, 1) := by decide +kernel
theorem kd_Mo_timers_456 : decode kc_Mo_timers 456 = .ok (.iadd, 1) := by decide +kernel
theorem kd_Mo_timers_457 : decode kc_Mo_timers 457 = .ok (.iaload, 1) := by decide +kernel
theorem kd_Mo_timers_458 : decode kc_Mo_timers 458 = .ok (.if_icmp .lt 7, 3) := by decide +kernel
theorem kd_Mo_timers_461 : decode kc_Mo_timers 461 = .ok (.iconst 1, 1) := by decide +kernel
theorem kd_Mo_timers_462 : decode kc_Mo_timers 462 = .ok (.goto 4, 3) := by decide +kernel
theorem kd_Mo_timers_465 : decode kc_Mo_timers 465 = .ok (.iconst 0, 1) := by decide +kernel
theorem kd_Mo_timers_466 : decode kc_Mo_timers 466 = .ok (.invokevirtual 841, 3) := by decide +kernel
theorem kd_Mo_timers_469 : decode kc_Mo_timers 469 = .ok (.goto 218, 3) := by decide +kernel
theorem kd_Mo_timers_472 : decode kc_Mo_timers 472 = .ok (.aload_n 0, 1) := by decide +kernel
theorem kd_Mo_timers_473 : decode kc_Mo_timers 473 = .ok (.getfield 150, 3) := by decide +kernel
theorem kd_Mo_timers_476 : decode kc_Mo_timers 476 = .ok (.iload_n 2, 1) := by decide +kernel
theorem kd_Mo_timers_477 : decode kc_Mo_timers 477 = .ok (.iconst 4, 1) := by decide +kernel
theorem kd_Mo_timers_478 : decode kc_Mo_timers 478 = .ok (.iadd, 1) := by decide +kernel
theorem kd_Mo_timers_479 : decode kc_Mo_timers 479 = .ok (.aload_n 0, 1) := by decide +kernel
theorem kd_Mo_timers_480 : decode kc_Mo_timers 480 = .ok (.iload_n 2, 1) := by decide +kernel
theorem kd_Mo_timers_481 : decode kc_Mo_timers 481 = .ok (.iconst 1, 1) := by decide +kernel
theorem kd_Mo_timers_482 : decode kc_Mo_timers 482 = .ok (.iadd, 1) := by decide +kernel
theorem kd_Mo_timers_483 : decode kc_Mo_timers 483 = .ok (.invokevirtual 835, 3) := by decide +kernel
theorem kd_Mo_timers_486 : decode kc_Mo_timers 486 = .ok (.ifCond .eq 14, 3) := by decide +kernel
theorem kd_Mo_timers_489 : decode kc_Mo_timers 489 = .ok (.aload_n 0, 1) := by decide +kernel
theorem kd_Mo_timers_490 : decode kc_Mo_timers 490 = .ok (.getfield 150, 3) := by decide +kernel
theorem kd_Mo_timers_493 : decode kc_Mo_timers 493 = .ok (.iload_n 2, 1) := by decide +kernel
theorem kd_Mo_timers_494 : decode kc_Mo_timers 494 = .ok (.iconst 2, 1) := by decide +kernel
theorem kd_Mo_timers_495 : decode kc_Mo_timers 495 = .ok (.iadd, 1) := by decide +kernel
theorem kd_Mo_timers_496 : decode kc_Mo_timers 496 = .ok (.iaload, 1) := by decide +kernel
theorem kd_Mo_timers_497 : decode kc_Mo_timers 497 = .ok (.goto 40, 3) := by decide +kernel
theorem kd_Mo_timers_500 : decode kc_Mo_timers 500 = .ok (.aload_n 0, 1) := by decide +kernel
theorem kd_Mo_timers_501 : decode kc_Mo_timers 501 = .ok (.getfield 150, 3) := by decide +kernel
theorem kd_Mo_timers_504 : decode kc_Mo_timers 504 = .ok (.iload_n 2, 1) := by decide +kernel
theorem kd_Mo_timers_505 : decode kc_Mo_timers 505 = .ok (.iconst 4, 1) := by decide +kernel
theorem kd_Mo_timers_506 : decode kc_Mo_timers 506 = .ok (.iadd, 1) := by decide +kernel
theorem kd_Mo_timers_507 : decode kc_Mo_timers 507 = .ok (.iaload, 1) := by decide +kernel
theorem kd_Mo_timers_508 : decode kc_Mo_timers 508 = .ok (.iload_n 3, 1) := by decide +kernel
theorem kd_Mo_timers_509 : decode kc_Mo_timers 509 = .ok (.ifCond .eq 26, 3) := by decide +kernel
theorem kd_Mo_timers_512 : decode kc_Mo_timers 512 = .ok (.iload 4, 2) := by decide +kernel
theorem kd_Mo_timers_514 : decode kc_Mo_timers 514 = .ok (.ifCond .ne 21, 3) := by decide +kernel
theorem kd_Mo_timers_517 : decode kc_Mo_timers 517 = .ok (.aload_n 0, 1) := by decide +kernel
theorem kd_Mo_timers_518 : decode kc_Mo_timers 518 = .ok (.getfield 150, 3) := by decide +kernel
theorem kd_Mo_timers_521 : decode kc_Mo_timers 521 = .ok (.iload_n 2, 1) := by decide +kernel
theorem kd_Mo_timers_522 : decode kc_Mo_timers 522 = .ok (.iconst 4, 1) := by decide +kernel
theorem kd_Mo_timers_523 : decode kc_Mo_timers 523 = .ok (.iadd, 1) := by decide +kernel
theorem kd_Mo_timers_524 : decode kc_Mo_timers 524 = .ok (.iaload, 1) := by decide +kernel
theorem kd_Mo_timers_525 : decode kc_Mo_timers 525 = .ok (.sipush (-32768), 3) := by decide +kernel
theorem kd_Mo_timers_528 : decode kc_Mo_timers 528 = .ok (.if_icmp .le 7, 3) := by decide +kernel
theorem kd_Mo_timers_531 : decode kc_Mo_timers 531 = .ok (.iconst 1, 1) := by decide +kernel
theorem kd_Mo_timers_532 : decode kc_Mo_timers 532 = .ok (.goto 4, 3) := by decide +kernel
theorem kd_Mo_timers_535 : decode kc_Mo_timers 535 = .ok (.iconst 0, 1) := by decide +kernel
theorem kd_Mo_timers_536 : decode kc_Mo_timers 536 = .ok (.isub, 1) := by decide +kernel
theorem kd_Mo_timers_537 : decode kc_Mo_timers 537 = .ok (.iastore, 1) := by decide +kernel
theorem kd_Mo_timers_538 : decode kc_Mo_timers 538 = .ok (.aload_n 0, 1) := by decide +kernel
theorem kd_Mo_timers_539 : decode kc_Mo_timers 539 = .ok (.iload_n 2, 1) := by decide +kernel
theorem kd_Mo_timers_540 : decode kc_Mo_timers 540 = .ok (.iconst 3, 1) := by decide +kernel
theorem kd_Mo_timers_541 : decode kc_Mo_timers 541 = .ok (.iadd, 1) := by decide +kernel
theorem kd_Mo_timers_542 : decode kc_Mo_timers 542 = .ok (.aload_n 0, 1) := by decide +kernel
theorem kd_Mo_timers_543 : decode kc_Mo_timers 543 = .ok (.getfield 150, 3) := by decide +kernel
theorem kd_Mo_timers_546 : decode kc_Mo_timers 546 = .ok (.iload_n 2, 1) := by decide +kernel
theorem kd_Mo_timers_547 : decode kc_Mo_timers 547 = .ok (.iconst 4, 1) := by decide +kernel
theorem kd_Mo_timers_548 : decode kc_Mo_timers 548 = .ok (.iadd, 1) := by decide +kernel
theorem kd_Mo_timers_549 : decode kc_Mo_timers 549 = .ok (.iaload, 1) := by decide +kernel
theorem kd_Mo_timers_550 : decode kc_Mo_timers 550 = .ok (.ifCond .gt 7, 3) := by decide +kernel
theorem kd_Mo_timers_553 : decode kc_Mo_timers 553 = .ok (.iconst 1, 1) := by decide +kernel
theorem kd_Mo_timers_554 : decode kc_Mo_timers 554 = .ok (.goto 4, 3) := by decide +kernel
theorem kd_Mo_timers_557 : decode kc_Mo_timers 557 = .ok (.iconst 0, 1) := by decide +kernel
theorem kd_Mo_timers_558 : decode kc_Mo_timers 558 = .ok (.invokevirtual 841, 3) := by decide +kernel
theorem kd_Mo_timers_561 : decode kc_Mo_timers 561 = .ok (.goto 126, 3) := by decide +kernel
theorem kd_Mo_timers_564 : decode kc_Mo_timers 564 = .ok (.aload_n 0, 1) := by decide +kernel
theorem kd_Mo_timers_565 : decode kc_Mo_timers 565 = .ok (.iload_n 2, 1) := by decide +kernel
theorem kd_Mo_timers_566 : decode kc_Mo_timers 566 = .ok (.iconst 1, 1) := by decide +kernel
theorem kd_Mo_timers_567 : decode kc_Mo_timers 567 = .ok (.iadd, 1) := by decide +kernel
theorem kd_Mo_timers_568 : decode kc_Mo_timers 568 = .ok (.iload_n 3, 1) := by decide +kernel
theorem kd_Mo_timers_569 : decode kc_Mo_timers 569 = .ok (.ifCond .eq 12, 3) := by decide +kernel
theorem kd_Mo_timers_572 : decode kc_Mo_timers 572 = .ok (.iload 4, 2) := by decide +kernel
theorem kd_Mo_timers_574 : decode kc_Mo_timers 574 = .ok (.ifCond .ne 7, 3) := by decide +kernel
theorem kd_Mo_timers_577 : decode kc_Mo_timers 577 = .ok (.iconst 1, 1) := by decide +kernel
theorem kd_Mo_timers_578 : decode kc_Mo_timers 578 = .ok (.goto 4, 3) := by decide +kernel
theorem kd_Mo_timers_581 : decode kc_Mo_timers 581 = .ok (.iconst 0, 1) := by decide +kernel
theorem kd_Mo_timers_582 : decode kc_Mo_timers 582 = .ok (.invokevirtual 841, 3) := by decide +kernel
theorem kd_Mo_timers_585 : decode kc_Mo_timers 585 = .ok (.goto 102, 3) := by decide +kernel
theorem kd_Mo_timers_588 : decode kc_Mo_timers 588 = .ok (.aload_n 0, 1) := by decide +kernel
theorem kd_Mo_timers_589 : decode kc_Mo_timers 589 = .ok (.iload_n 2, 1) := by decide +kernel
theorem kd_Mo_timers_590 : decode kc_Mo_timers 590 = .ok (.iconst 1, 1) := by decide +kernel
theorem kd_Mo_timers_591 : decode kc_Mo_timers 591 = .ok (.iadd, 1) := by decide +kernel
theorem kd_Mo_timers_592 : decode kc_Mo_timers 592 = .ok (.iload_n 3, 1) := by decide +kernel
theorem kd_Mo_timers_593 : decode kc_Mo_timers 593 = .ok (.ifCond .ne 12, 3) := by decide +kernel
theorem kd_Mo_timers_596 : decode kc_Mo_timers 596 = .ok (.iload 4, 2) := by decide +kernel
theorem kd_Mo_timers_598 : decode kc_Mo_timers 598 = .ok (.ifCond .eq 7, 3) := by decide +kernel
theorem kd_Mo_timers_601 : decode kc_Mo_timers 601 = .ok (.iconst 1, 1) := by decide +kernel
theorem kd_Mo_timers_602 : decode kc_Mo_timers 602 = .ok (.goto 4, 3) := by decide +kernel
theorem kd_Mo_timers_605 : decode kc_Mo_timers 605 = .ok (.iconst 0, 1) := by decide +kernel
theorem kd_Mo_timers_606 : decode kc_Mo_timers 606 = .ok (.invokevirtual 841, 3) := by decide +kernel
theorem kd_Mo_timers_609 : decode kc_Mo_timers 609 = .ok (.goto 78, 3) := by decide +kernel
theorem kd_Mo_timers_612 : decode kc_Mo_timers 612 = .ok (.aload_n 0, 1) := by decide +kernel
theorem kd_Mo_timers_613 : decode kc_Mo_timers 613 = .ok (.iload_n 2, 1) := by decide +kernel
theorem kd_Mo_timers_614 : decode kc_Mo_timers 614 = .ok (.iconst 2, 1) := by decide +kernel
theorem kd_Mo_timers_615 : decode kc_Mo_timers 615 = .ok (.iadd, 1) := by decide +kernel
theorem kd_Mo_timers_616 : decode kc_Mo_timers 616 = .ok (.iload_n 3, 1) := by decide +kernel
theorem kd_Mo_timers_617 : decode kc_Mo_timers 617 = .ok (.ifCond .ne 23, 3) := by decide +kernel
theorem kd_Mo_timers_620 : decode kc_Mo_timers 620 = .ok (.aload_n 0, 1) := by decide +kernel
theorem kd_Mo_timers_621 : decode kc_Mo_timers 621 = .ok (.iload_n 2, 1) := by decide +kernel
theorem kd_Mo_timers_622 : decode kc_Mo_timers 622 = .ok (.iconst 1, 1) := by decide +kernel
theorem kd_Mo_timers_623 : decode kc_Mo_timers 623 = .ok (.iadd, 1) := by decide +kernel
theorem kd_Mo_timers_624 : decode kc_Mo_timers 624 = .ok (.invokevirtual 835, 3) := by decide +kernel
theorem kd_Mo_timers_627 : decode kc_Mo_timers 627 = .ok (.ifCond .ne 17, 3) := by decide +kernel
theorem kd_Mo_timers_630 : decode kc_Mo_timers 630 = .ok (.aload_n 0, 1) := by decide +kernel
theorem kd_Mo_timers_631 : decode kc_Mo_timers 631 = .ok (.iload_n 2, 1) := by decide +kernel
theorem kd_Mo_timers_632 : decode kc_Mo_timers 632 = .ok (.iconst 2, 1) := by decide +kernel
theorem kd_Mo_timers_633 : decode kc_Mo_timers 633 = .ok (.iadd, 1) := by decide +kernel
theorem kd_Mo_timers_634 : decode kc_Mo_timers 634 = .ok (.invokevirtual 835, 3) := by decide +kernel
theorem kd_Mo_timers_637 : decode kc_Mo_timers 637 = .ok (.ifCond .eq 7, 3) := by decide +kernel
theorem kd_Mo_timers_640 : decode kc_Mo_timers 640 = .ok (.iconst 1, 1) := by decide +kernel
theorem kd_Mo_timers_641 : decode kc_Mo_timers 641 = .ok (.goto 4, 3) := by decide +kernel
theorem kd_Mo_timers_644 : decode kc_Mo_timers 644 = .ok (.iconst 0, 1) := by decide +kernel
theorem kd_Mo_timers_645 : decode kc_Mo_timers 645 = .ok (.invokevirtual 841, 3) := by decide +kernel
theorem kd_Mo_timers_648 : decode kc_Mo_timers 648 = .ok (.goto 39, 3) := by decide +kernel
theorem kd_Mo_timers_651 : decode kc_Mo_timers 651 = .ok (.aload_n 0, 1) := by decide +kernel
theorem kd_Mo_timers_652 : decode kc_Mo_timers 652 = .ok (.iload_n 2, 1) := by decide +kernel
theorem kd_Mo_timers_653 : decode kc_Mo_timers 653 = .ok (.iconst 2, 1) := by decide +kernel
theorem kd_Mo_timers_654 : decode kc_Mo_timers 654 = .ok (.iadd, 1) := by decide +kernel
theorem kd_Mo_timers_655 : decode kc_Mo_timers 655 = .ok (.aload_n 0, 1) := by decide +kernel
theorem kd_Mo_timers_656 : decode kc_Mo_timers 656 = .ok (.iload_n 2, 1) := by decide +kernel
theorem kd_Mo_timers_657 : decode kc_Mo_timers 657 = .ok (.iconst 1, 1) := by decide +kernel
theorem kd_Mo_timers_658 : decode kc_Mo_timers 658 = .ok (.iadd, 1) := by decide +kernel
theorem kd_Mo_timers_659 : decode kc_Mo_timers 659 = .ok (.invokevirtual 835, 3) := by decide +kernel
theorem kd_Mo_timers_662 : decode kc_Mo_timers 662 = .ok (.ifCond .ne 21, 3) := by decide +kernel
theorem kd_Mo_timers_665 : decode kc_Mo_timers 665 = .ok (.iload_n 3, 1) := by decide +kernel
theorem kd_Mo_timers_666 : decode kc_Mo_timers 666 = .ok (.ifCond .ne 13, 3) := by decide +kernel
theorem kd_Mo_timers_669 : decode kc_Mo_timers 669 = .ok (.aload_n 0, 1) := by decide +kernel
theorem kd_Mo_timers_670 : decode kc_Mo_timers 670 = .ok (.iload_n 2, 1) := by decide +kernel
theorem kd_Mo_timers_671 : decode kc_Mo_timers 671 = .ok (.iconst 2, 1) := by decide +kernel
theorem kd_Mo_timers_672 : decode kc_Mo_timers 672 = .ok (.iadd, 1) := by decide +kernel
theorem kd_Mo_timers_673 : decode kc_Mo_timers 673 = .ok (.invokevirtual 835, 3) := by decide +kernel
theorem kd_Mo_timers_676 : decode kc_Mo_timers 676 = .ok (.ifCond .eq 7, 3) := by decide +kernel
theorem kd_Mo_timers_679 : decode kc_Mo_timers 679 = .ok (.iconst 1, 1) := by decide +kernel
theorem kd_Mo_timers_680 : decode kc_Mo_timers 680 = .ok (.goto 4, 3) := by decide +kernel
theorem kd_Mo_timers_683 : decode kc_Mo_timers 683 = .ok (.iconst 0, 1) := by decide +kernel
theorem kd_Mo_timers_684 : decode kc_Mo_timers 684 = .ok (.invokevirtual 841, 3) := by decide +kernel
theorem kd_Mo_timers_687 : decode kc_Mo_timers 687 = .ok (.iload_n 1, 1) := by decide +kernel
theorem kd_Mo_timers_688 : decode kc_Mo_timers 688 = .ok (.bipush 7, 2) := by decide +kernel
theorem kd_Mo_timers_690 : decode kc_Mo_timers 690 = .ok (.if_icmp .ge 29, 3) := by decide +kernel
theorem kd_Mo_timers_693 : decode kc_Mo_timers 693 = .ok (.aload_n 0, 1) := by decide +kernel
theorem kd_Mo_timers_694 : decode kc_Mo_timers 694 = .ok (.iload_n 2, 1) := by decide +kernel
theorem kd_Mo_timers_695 : decode kc_Mo_timers 695 = .ok (.iload_n 1, 1) := by decide +kernel
theorem kd_Mo_timers_696 : decode kc_Mo_timers 696 = .ok (.iconst 3, 1) := by decide +kernel
theorem kd_Mo_timers_697 : decode kc_Mo_timers 697 = .ok (.if_icmp .ge 7, 3) := by decide +kernel
theorem kd_Mo_timers_700 : decode kc_Mo_timers 700 = .ok (.iconst 4, 1) := by decide +kernel
theorem kd_Mo_timers_701 : decode kc_Mo_timers 701 = .ok (.goto 13, 3) := by decide +kernel
theorem kd_Mo_timers_704 : decode kc_Mo_timers 704 = .ok (.iload_n 1, 1) := by decide +kernel
theorem kd_Mo_timers_705 : decode kc_Mo_timers 705 = .ok (.iconst 5, 1) := by decide +kernel
theorem kd_Mo_timers_706 : decode kc_Mo_timers 706 = .ok (.if_icmp .ge 7, 3) := by decide +kernel
theorem kd_Mo_timers_709 : decode kc_Mo_timers 709 = .ok (.iconst 5, 1) := by decide +kernel
theorem kd_Mo_timers_710 : decode kc_Mo_timers 710 = .ok (.goto 4, 3) := by decide +kernel
theorem kd_Mo_timers_713 : decode kc_Mo_timers 713 = .ok (.iconst 2, 1) := by decide +kernel
theorem kd_Mo_timers_714 : decode kc_Mo_timers 714 = .ok (.iadd, 1) := by decide +kernel
theorem kd_Mo_timers_715 : decode kc_Mo_timers 715 = .ok (.iload_n 3, 1) := by decide +kernel
theorem kd_Mo_timers_716 : decode kc_Mo_timers 716 = .ok (.invokevirtual 841, 3) := by decide +kernel
theorem kd_Mo_timers_719 : decode kc_Mo_timers 719 = .ok (.iload_n 1, 1) := by decide +kernel
theorem kd_Mo_timers_720 : decode kc_Mo_timers 720 = .ok (.iconst 3, 1) := by decide +kernel
theorem kd_Mo_timers_721 : decode kc_Mo_timers 721 = .ok (.if_icmp .ge 15, 3) := by decide +kernel
theorem kd_Mo_timers_724 : decode kc_Mo_timers 724 = .ok (.aload_n 0, 1) := by decide +kernel
theorem kd_Mo_timers_725 : decode kc_Mo_timers 725 = .ok (.getfield 150, 3) := by decide +kernel
theorem kd_Mo_timers_728 : decode kc_Mo_timers 728 = .ok (.iload_n 2, 1) := by decide +kernel
theorem kd_Mo_timers_729 : decode kc_Mo_timers 729 = .ok (.iconst 5, 1) := by decide +kernel
theorem kd_Mo_timers_730 : decode kc_Mo_timers 730 = .ok (.iadd, 1) := by decide +kernel
theorem kd_Mo_timers_731 : decode kc_Mo_timers 731 = .ok (.aload_n 0, 1) := by decide +kernel
theorem kd_Mo_timers_732 : decode kc_Mo_timers 732 = .ok (.getfield 832, 3) := by decide +kernel
theorem kd_Mo_timers_735 : decode kc_Mo_timers 735 = .ok (.iastore, 1) := by decide +kernel
theorem kd_Mo_timers_736 : decode kc_Mo_timers 736 = .ok (.return_, 1) := by decide +kernel
theorem kd_Mo_two_0 : decode kc_Mo_two 0 = .ok (.iload_n 0, 1) := by decide +kernel
theorem kd_Mo_two_1 : decode kc_Mo_two 1 = .ok (.tableswitch 343 0 23 #[111, 118, 125, 132, 139, 146, 150, 154, 158, 162, 166, 170, 174, 178, 189, 200, 211, 222, 233, 244, 265, 290, 308, 332], 111) := by decide +kernel
theorem kd_Mo_two_112 : decode kc_Mo_two 112 = .ok (.iload_n 1, 1) := by decide +kernel
theorem kd_Mo_two_113 : decode kc_Mo_two 113 = .ok (.iload_n 2, 1) := by decide +kernel
theorem kd_Mo_two_114 : decode kc_Mo_two 114 = .ok (.iadd, 1) := by decide +kernel
theorem kd_Mo_two_115 : decode kc_Mo_two 115 = .ok (.invokestatic 803, 3) := by decide +kernel
theorem kd_Mo_two_118 : decode kc_Mo_two 118 = .ok (.ireturn, 1) := by decide +kernel
theorem kd_Mo_two_119 : decode kc_Mo_two 119 = .ok (.iload_n 1, 1) := by decide +kernel
theorem kd_Mo_two_120 : decode kc_Mo_two 120 = .ok (.iload_n 2, 1) := by decide +kernel
theorem kd_Mo_two_121 : decode kc_Mo_two 121 = .ok (.isub, 1) := by decide +kernel
theorem kd_Mo_two_122 : decode kc_Mo_two 122 = .ok (.invokestatic 803, 3) := by decide +kernel
theorem kd_Mo_two_125 : decode kc_Mo_two 125 = .ok (.ireturn, 1) := by decide +kernel
theorem kd_Mo_two_126 : decode kc_Mo_two 126 = .ok (.iload_n 1, 1) := by decide +kernel
theorem kd_Mo_two_127 : decode kc_Mo_two 127 = .ok (.iload_n 2, 1) := by decide +kernel
theorem kd_Mo_two_128 : decode kc_Mo_two 128 = .ok (.imul, 1) := by decide +kernel
theorem kd_Mo_two_129 : decode kc_Mo_two 129 = .ok (.invokestatic 803, 3) := by decide +kernel
theorem kd_Mo_two_132 : decode kc_Mo_two 132 = .ok (.ireturn, 1) := by decide +kernel
theorem kd_Mo_two_133 : decode kc_Mo_two 133 = .ok (.iload_n 1, 1) := by decide +kernel
theorem kd_Mo_two_134 : decode kc_Mo_two 134 = .ok (.iload_n 2, 1) := by decide +kernel
theorem kd_Mo_two_135 : decode kc_Mo_two 135 = .ok (.idiv, 1) := by decide +kernel
theorem kd_Mo_two_136 : decode kc_Mo_two 136 = .ok (.invokestatic 803, 3) := by decide +kernel
theorem kd_Mo_two_139 : decode kc_Mo_two 139 = .ok (.ireturn, 1) := by decide +kernel
theorem kd_Mo_two_140 : decode kc_Mo_two 140 = .ok (.iload_n 1, 1) := by decide +kernel
theorem kd_Mo_two_141 : decode kc_Mo_two 141 = .ok (.iload_n 2, 1) := by decide +kernel
theorem kd_Mo_two_142 : decode kc_Mo_two 142 = .ok (.irem, 1) := by decide +kernel
theorem kd_Mo_two_143 : decode kc_Mo_two 143 = .ok (.invokestatic 803, 3) := by decide +kernel
theorem kd_Mo_two_146 : decode kc_Mo_two 146 = .ok (.ireturn, 1) := by decide +kernel
theorem kd_Mo_two_147 : decode kc_Mo_two 147 = .ok (.iload_n 1, 1) := by decide +kernel
theorem kd_Mo_two_148 : decode kc_Mo_two 148 = .ok (.iload_n 2, 1) := by decide +kernel
theorem kd_Mo_two_149 : decode kc_Mo_two 149 = .ok (.iadd, 1) := by decide +kernel
theorem kd_Mo_two_150 : decode kc_Mo_two 150 = .ok (.ireturn, 1) := by decide +kernel
theorem kd_Mo_two_151 : decode kc_Mo_two 151 = .ok (.iload_n 1, 1) := by decide +kernel
theorem kd_Mo_two_152 : decode kc_Mo_two 152 = .ok (.iload_n 2, 1) := by decide +kernel
theorem kd_Mo_two_153 : decode kc_Mo_two 153 = .ok (.isub, 1) := by decide +kernel
theorem kd_Mo_two_154 : decode kc_Mo_two 154 = .ok (.ireturn, 1) := by decide +kernel
theorem kd_Mo_two_155 : decode kc_Mo_two 155 = .ok (.iload_n 1, 1) := by decide +kernel
theorem kd_Mo_two_156 : decode kc_Mo_two 156 = .ok (.iload_n 2, 1) := by decide +kernel
theorem kd_Mo_two_157 : decode kc_Mo_two 157 = .ok (.imul, 1) := by decide +kernel
theorem kd_Mo_two_158 : decode kc_Mo_two 158 = .ok (.ireturn, 1) := by decide +kernel
theorem kd_Mo_two_159 : decode kc_Mo_two 159 = .ok (.iload_n 1, 1) := by decide +kernel
theorem kd_Mo_two_160 : decode kc_Mo_two 160 = .ok (.iload_n 2, 1) := by decide +kernel
theorem kd_Mo_two_161 : decode kc_Mo_two 161 = .ok (.idiv, 1) := by decide +kernel
theorem kd_Mo_two_162 : decode kc_Mo_two 162 = .ok (.ireturn, 1) := by decide +kernel
theorem kd_Mo_two_163 : decode kc_Mo_two 163 = .ok (.iload_n 1, 1) := by decide +kernel
theorem kd_Mo_two_164 : decode kc_Mo_two 164 = .ok (.iload_n 2, 1) := by decide +kernel
theorem kd_Mo_two_165 : decode kc_Mo_two 165 = .ok (.irem, 1) := by decide +kernel
theorem kd_Mo_two_166 : decode kc_Mo_two 166 = .ok (.ireturn, 1) := by decide +kernel
theorem kd_Mo_two_167 : decode kc_Mo_two 167 = .ok (.iload_n 1, 1) := by decide +kernel
theorem kd_Mo_two_168 : decode kc_Mo_two 168 = .ok (.iload_n 2, 1) := by decide +kernel
theorem kd_Mo_two_169 : decode kc_Mo_two 169 = .ok (.iand, 1) := by decide +kernel
theorem kd_Mo_two_170 : decode kc_Mo_two 170 = .ok (.ireturn, 1) := by decide +kernel
theorem kd_Mo_two_171 : decode kc_Mo_two 171 = .ok (.iload_n 1, 1) := by decide +kernel
theorem kd_Mo_two_172 : decode kc_Mo_two 172 = .ok (.iload_n 2, 1) := by decide +kernel
theorem kd_Mo_two_173 : decode kc_Mo_two 173 = .ok (.ior, 1) := by decide +kernel
theorem kd_Mo_two_174 : decode kc_Mo_two 174 = .ok (.ireturn, 1) := by decide +kernel
theorem kd_Mo_two_175 : decode kc_Mo_two 175 = .ok (.iload_n 1, 1) := by decide +kernel
theorem kd_Mo_two_176 : decode kc_Mo_two 176 = .ok (.iload_n 2, 1) := by decide +kernel
theorem kd_Mo_two_177 : decode kc_Mo_two 177 = .ok (.ixor, 1) := by decide +kernel
theorem kd_Mo_two_178 : decode kc_Mo_two 178 = .ok (.ireturn, 1) := by decide +kernel
theorem kd_Mo_two_179 : decode kc_Mo_two 179 = .ok (.iload_n 1, 1) := by decide +kernel
theorem kd_Mo_two_180 : decode kc_Mo_two 180 = .ok (.iload_n 2, 1) := by decide +kernel
theorem kd_Mo_two_181 : decode kc_Mo_two 181 = .ok (.if_icmp .ne 7, 3) := by decide +kernel
theorem kd_Mo_two_184 : decode kc_Mo_two 184 = .ok (.iconst 1, 1) := by decide +kernel
theorem kd_Mo_two_185 : decode kc_Mo_two 185 = .ok (.goto 4, 3) := by decide +kernel
theorem kd_Mo_two_188 : decode kc_Mo_two 188 = .ok (.iconst 0, 1) := by decide +kernel
theorem kd_Mo_two_189 : decode kc_Mo_two 189 = .ok (.ireturn, 1) := by decide +kernel
theorem kd_Mo_two_190 : decode kc_Mo_two 190 = .ok (.iload_n 1, 1) := by decide +kernel
theorem kd_Mo_two_191 : decode kc_Mo_two 191 = .ok (.iload_n 2, 1) := by decide +kernel
theorem kd_Mo_two_192 : decode kc_Mo_two 192 = .ok (.if_icmp .eq 7, 3) := by decide +kernel
theorem kd_Mo_two_195 : decode kc_Mo_two 195 = .ok (.iconst 1, 1) := by decide +kernel
theorem kd_Mo_two_196 : decode kc_Mo_two 196 = .ok (.goto 4, 3) := by decide +kernel
theorem kd_Mo_two_199 : decode kc_Mo_two 199 = .ok (.iconst 0, 1) := by decide +kernel
theorem kd_Mo_two_200 : decode kc_Mo_two 200 = .ok (.ireturn, 1) := by decide +kernel
theorem kd_Mo_two_201 : decode kc_Mo_two 201 = .ok (.iload_n 1, 1) := by decide +kernel
theorem kd_Mo_two_202 : decode kc_Mo_two 202 = .ok (.iload_n 2, 1) := by decide +kernel
theorem kd_Mo_two_203 : decode kc_Mo_two 203 = .ok (.if_icmp .ge 7, 3) := by decide +kernel
theorem kd_Mo_two_206 : decode kc_Mo_two 206 = .ok (.iconst 1, 1) := by decide +kernel
theorem kd_Mo_two_207 : decode kc_Mo_two 207 = .ok (.goto 4, 3) := by decide +kernel
theorem kd_Mo_two_210 : decode kc_Mo_two 210 = .ok (.iconst 0, 1) := by decide +kernel
theorem kd_Mo_two_211 : decode kc_Mo_two 211 = .ok (.ireturn, 1) := by decide +kernel
theorem kd_Mo_two_212 : decode kc_Mo_two 212 = .ok (.iload_n 1, 1) := by decide +kernel
theorem kd_Mo_two_213 : decode kc_Mo_two 213 = .ok (.iload_n 2, 1) := by decide +kernel
theorem kd_Mo_two_214 : decode kc_Mo_two 214 = .ok (.if_icmp .le 7, 3) := by decide +kernel
theorem kd_Mo_two_217 : decode kc_Mo_two 217 = .ok (.iconst 1, 1) := by decide +kernel
theorem kd_Mo_two_218 : decode kc_Mo_two 218 = .ok (.goto 4, 3) := by decide +kernel
theorem kd_Mo_two_221 : decode kc_Mo_two 221 = .ok (.iconst 0, 1) := by decide +kernel
theorem kd_Mo_two_222 : decode kc_Mo_two 222 = .ok (.ireturn, 1) := by decide +kernel
theorem kd_Mo_two_223 : decode kc_Mo_two 223 = .ok (.iload_n 1, 1) := by decide +kernel
theorem kd_Mo_two_224 : decode kc_Mo_two 224 = .ok (.iload_n 2, 1) := by decide +kernel
theorem kd_Mo_two_225 : decode kc_Mo_two 225 = .ok (.if_icmp .gt 7, 3) := by decide +kernel
theorem kd_Mo_two_228 : decode kc_Mo_two 228 = .ok (.iconst 1, 1) := by decide +kernel
theorem kd_Mo_two_229 : decode kc_Mo_two 229 = .ok (.goto 4, 3) := by decide +kernel
theorem kd_Mo_two_232 : decode kc_Mo_two 232 = .ok (.iconst 0, 1) := by decide +kernel
theorem kd_Mo_two_233 : decode kc_Mo_two 233 = .ok (.ireturn, 1) := by decide +kernel
theorem kd_Mo_two_234 : decode kc_Mo_two 234 = .ok (.iload_n 1, 1) := by decide +kernel
theorem kd_Mo_two_235 : decode kc_Mo_two 235 = .ok (.iload_n 2, 1) := by decide +kernel
theorem kd_Mo_two_236 : decode kc_Mo_two 236 = .ok (.if_icmp .lt 7, 3) := by decide +kernel
theorem kd_Mo_two_239 : decode kc_Mo_two 239 = .ok (.iconst 1, 1) := by decide +kernel
theorem kd_Mo_two_240 : decode kc_Mo_two 240 = .ok (.goto 4, 3) := by decide +kernel
theorem kd_Mo_two_243 : decode kc_Mo_two 243 = .ok (.iconst 0, 1) := by decide +kernel
theorem kd_Mo_two_244 : decode kc_Mo_two 244 = .ok (.ireturn, 1) := by decide +kernel
theorem kd_Mo_two_245 : decode kc_Mo_two 245 = .ok (.iload_n 2, 1) := by decide +kernel
theorem kd_Mo_two_246 : decode kc_Mo_two 246 = .ok (.ifCond .lt 9, 3) := by decide +kernel
theorem kd_Mo_two_249 : decode kc_Mo_two 249 = .ok (.iload_n 2, 1) := by decide +kernel
theorem kd_Mo_two_250 : decode kc_Mo_two 250 = .ok (.bipush 15, 2) := by decide +kernel
theorem kd_Mo_two_252 : decode kc_Mo_two 252 = .ok (.if_icmp .le 7, 3) := by decide +kernel
theorem kd_Mo_two_255 : decode kc_Mo_two 255 = .ok (.iconst 0, 1) := by decide +kernel
theorem kd_Mo_two_256 : decode kc_Mo_two 256 = .ok (.goto 9, 3) := by decide +kernel
theorem kd_Mo_two_259 : decode kc_Mo_two 259 = .ok (.iload_n 1, 1) := by decide +kernel
theorem kd_Mo_two_260 : decode kc_Mo_two 260 = .ok (.iload_n 2, 1) := by decide +kernel
theorem kd_Mo_two_261 : decode kc_Mo_two 261 = .ok (.ishl, 1) := by decide +kernel
theorem kd_Mo_two_262 : decode kc_Mo_two 262 = .ok (.invokestatic 803, 3) := by decide +kernel
theorem kd_Mo_two_265 : decode kc_Mo_two 265 = .ok (.ireturn, 1) := by decide +kernel
theorem kd_Mo_two_266 : decode kc_Mo_two 266 = .ok (.iload_n 2, 1) := by decide +kernel
theorem kd_Mo_two_267 : decode kc_Mo_two 267 = .ok (.ifCond .lt 9, 3) := by decide +kernel
theorem kd_Mo_two_270 : decode kc_Mo_two 270 = .ok (.iload_n 2, 1) := by decide +kernel
theorem kd_Mo_two_271 : decode kc_Mo_two 271 = .ok (.bipush 15, 2) := by decide +kernel
theorem kd_Mo_two_273 : decode kc_Mo_two 273 = .ok (.if_icmp .le 7, 3) := by decide +kernel
theorem kd_Mo_two_276 : decode kc_Mo_two 276 = .ok (.iconst 0, 1) := by decide +kernel
theorem kd_Mo_two_277 : decode kc_Mo_two 277 = .ok (.goto 13, 3) := by decide +kernel
theorem kd_Mo_two_280 : decode kc_Mo_two 280 = .ok (.iload_n 1, 1) := by decide +kernel
theorem kd_Mo_two_281 : decode kc_Mo_two 281 = .ok (.ldc_w 801, 3) := by decide +kernel
theorem kd_Mo_two_284 : decode kc_Mo_two 284 = .ok (.iand, 1) := by decide +kernel
theorem kd_Mo_two_285 : decode kc_Mo_two 285 = .ok (.iload_n 2, 1) := by decide +kernel
theorem kd_Mo_two_286 : decode kc_Mo_two 286 = .ok (.ishr, 1) := by decide +kernel
theorem kd_Mo_two_287 : decode kc_Mo_two 287 = .ok (.invokestatic 803, 3) := by decide +kernel
theorem kd_Mo_two_290 : decode kc_Mo_two 290 = .ok (.ireturn, 1) := by decide +kernel
theorem kd_Mo_two_291 : decode kc_Mo_two 291 = .ok (.iload_n 2, 1) := by decide +kernel
theorem kd_Mo_two_292 : decode kc_Mo_two 292 = .ok (.ifCond .lt 9, 3) := by decide +kernel
theorem kd_Mo_two_295 : decode kc_Mo_two 295 = .ok (.iload_n 2, 1) := by decide +kernel
theorem kd_Mo_two_296 : decode kc_Mo_two 296 = .ok (.bipush 31, 2) := by decide +kernel
theorem kd_Mo_two_298 : decode kc_Mo_two 298 = .ok (.if_icmp .le 7, 3) := by decide +kernel
theorem kd_Mo_two_301 : decode kc_Mo_two 301 = .ok (.iconst 0, 1) := by decide +kernel
theorem kd_Mo_two_302 : decode kc_Mo_two 302 = .ok (.goto 6, 3) := by decide +kernel
theorem kd_Mo_two_305 : decode kc_Mo_two 305 = .ok (.iload_n 1, 1) := by decide +kernel
theorem kd_Mo_two_306 : decode kc_Mo_two 306 = .ok (.iload_n 2, 1) := by decide +kernel
theorem kd_Mo_two_307 : decode kc_Mo_two 307 = .ok (.ishl, 1) := by decide +kernel
theorem kd_Mo_two_308 : decode kc_Mo_two 308 = .ok (.ireturn, 1) := by decide +kernel
theorem kd_Mo_two_309 : decode kc_Mo_two 309 = .ok (.iload_n 2, 1) := by decide +kernel
theorem kd_Mo_two_310 : decode kc_Mo_two 310 = .ok (.ifCond .lt 9, 3) := by decide +kernel
theorem kd_Mo_two_313 : decode kc_Mo_two 313 = .ok (.iload_n 2, 1) := by decide +kernel
theorem kd_Mo_two_314 : decode kc_Mo_two 314 = .ok (.bipush 31, 2) := by decide +kernel
theorem kd_Mo_two_316 : decode kc_Mo_two 316 = .ok (.if_icmp .le 7, 3) := by decide +kernel
theorem kd_Mo_two_319 : decode kc_Mo_two 319 = .ok (.iconst 0, 1) := by decide +kernel
theorem kd_Mo_two_320 : decode kc_Mo_two 320 = .ok (.goto 12, 3) := by decide +kernel
theorem kd_Mo_two_323 : decode kc_Mo_two 323 = .ok (.iload_n 1, 1) := by decide +kernel
theorem kd_Mo_two_324 : decode kc_Mo_two 324 = .ok (.i2l, 1) := by decide +kernel
theorem kd_Mo_two_325 : decode kc_Mo_two 325 = .ok (.ldc2_w 806, 3) := by decide +kernel
theorem kd_Mo_two_328 : decode kc_Mo_two 328 = .ok (.land, 1) := by decide +kernel
theorem kd_Mo_two_329 : decode kc_Mo_two 329 = .ok (.iload_n 2, 1) := by decide +kernel
theorem kd_Mo_two_330 : decode kc_Mo_two 330 = .ok (.lshr, 1) := by decide +kernel
theorem kd_Mo_two_331 : decode kc_Mo_two 331 = .ok (.l2i, 1) := by decide +kernel
theorem kd_Mo_two_332 : decode kc_Mo_two 332 = .ok (.ireturn, 1) := by decide +kernel
theorem kd_Mo_two_333 : decode kc_Mo_two 333 = .ok (.iload_n 1, 1) := by decide +kernel
theorem kd_Mo_two_334 : decode kc_Mo_two 334 = .ok (.iload_n 2, 1) := by decide +kernel
theorem kd_Mo_two_335 : decode kc_Mo_two 335 = .ok (.if_icmp .ge 7, 3) := by decide +kernel
theorem kd_Mo_two_338 : decode kc_Mo_two 338 = .ok (.iload_n 1, 1) := by decide +kernel
theorem kd_Mo_two_339 : decode kc_Mo_two 339 = .ok (.goto 4, 3) := by decide +kernel
theorem kd_Mo_two_342 : decode kc_Mo_two 342 = .ok (.iload_n 2, 1) := by decide +kernel
theorem kd_Mo_two_343 : decode kc_Mo_two 343 = .ok (.ireturn, 1) := by decide +kernel
theorem kd_Mo_two_344 : decode kc_Mo_two 344 = .ok (.iload_n 1, 1) := by decide +kernel
theorem kd_Mo_two_345 : decode kc_Mo_two 345 = .ok (.iload_n 2, 1) := by decide +kernel
theorem kd_Mo_two_346 : decode kc_Mo_two 346 = .ok (.if_icmp .le 7, 3) := by decide +kernel
theorem kd_Mo_two_349 : decode kc_Mo_two 349 = .ok (.iload_n 1, 1) := by decide +kernel
theorem kd_Mo_two_350 : decode kc_Mo_two 350 = .ok (.goto 4, 3) := by decide +kernel
theorem kd_Mo_two_353 : decode kc_Mo_two 353 = .ok (.iload_n 2, 1) := by decide +kernel
theorem kd_Mo_two_354 : decode kc_Mo_two 354 = .ok (.ireturn, 1) := by decide +kernel
set_option maxHeartbeats 4000000 in
set_option maxRecDepth 100000 in
theorem zb_Mo_timers_719 {X : zkj_T} {S : zs_T} {P : ze_T} {l : Launch} {D : va_G} {sz0 : Nat} {rh : zs_H} (C : zk_C X km_Mo_timers (zs_G S l D sz0) { frames := 1, cells := 0, slots := 0, locals := 24 } (ze_E P)) (hR : zkj_R X (zd_PV S rh) (none)) (h : zs_H) (x1 : Int32) (x2 : Int32) (e : f_Mo_timers_719 h x1 x2 = some rh) : zk_Ab X (zs_W S h) 0 0 719 [(0, .ref (S.1 68)), (1, .int x1), (2, .int x2)] [] := by
  unfold f_Mo_timers_719 at e
  refine zk_iload_n C kd_Mo_timers_719 rfl 1 rfl rfl ?_
  refine zk_iconst (v := 3) C kd_Mo_timers_720 (by decide) rfl ?_
  refine zk_icmp_ge (tgt := 736) C kd_Mo_timers_721 (by decide) rfl (fun b1 => ?_) (fun b1 => ?_)
  · replace e := zd_pos b1 e
    exact zk_vret C hR kd_Mo_timers_736 rfl rfl (zd_rV e)
  · replace e := zd_neg b1 e
    refine zk_aload_n C kd_Mo_timers_724 rfl 0 rfl rfl ?_
    refine zs_get (v := .ref (S.1 114)) C 68 72 rfl rfl rfl rfl ki_Mo (by decide) kw1755 kd_Mo_timers_725 rfl ?_
    refine zk_iload_n C kd_Mo_timers_728 rfl 2 rfl rfl ?_
    refine zk_iconst (v := 5) C kd_Mo_timers_729 (by decide) rfl ?_
    refine zk_iadd C kd_Mo_timers_730 rfl ?_
    refine zk_aload_n C kd_Mo_timers_731 rfl 0 rfl rfl ?_
    refine zs_get (v := .int (h.1 68 73)) C 68 73 rfl rfl rfl rfl ki_Mo (by decide) kw1756 kd_Mo_timers_732 rfl ?_
    obtain ⟨q2, e⟩ := zd_g e
    refine zs_iast C 114 rfl (zd_vp q2) kd_Mo_timers_735 rfl ?_
    exact zk_vret C hR kd_Mo_timers_736 rfl rfl (zd_rV e)
set_option maxHeartbeats 4000000 in
set_option maxRecDepth 100000 in
theorem zb_Mo_timers_714 {X : zkj_T} {S : zs_T} {P : ze_T} {l : Launch} {D : va_G} {sz0 : Nat} {rh : zs_H} (C : zk_C X km_Mo_timers (zs_G S l D sz0) { frames := 1, cells := 0, slots := 0, locals := 24 } (ze_E P)) (hR : zkj_R X (zd_PV S rh) (none)) (h : zs_H) (x1 : Int32) (x2 : Int32) (x3 : Int32) (y0 : Int32) (y1 : Int32) (e : f_Mo_timers_714 h x1 x2 x3 y0 y1 = some rh) : zk_Ab X (zs_W S h) 0 0 714 [(0, .ref (S.1 68)), (1, .int x1), (2, .int x2), (3, .int x3)] [.int y0, .int y1, .ref (S.1 68)] := by
  unfold f_Mo_timers_714 at e
  refine zk_iadd C kd_Mo_timers_714 rfl ?_
  refine zk_iload_n C kd_Mo_timers_715 rfl 3 rfl rfl ?_
  obtain ⟨h2, c1, e⟩ := zd_b e
  refine zs_callV (k := 68) (rn := { frames := 0, cells := 0, slots := 0, locals := 0 }) (As := [.int (y1 + y0), .int x3]) (rest := []) C (zc_Mo_turn h (y1 + y0) x3 c1) ku_Mo_turn kw2768 kv_Mo_turn rfl ⟨by decide, by decide⟩ ⟨by decide, by decide⟩ rfl rfl rfl (Nat.le_of_ble_eq_true rfl) kd_Mo_timers_716 rfl (c1 := 0) (s1 := 0) rfl rfl (fun v w hp => ?_)
  obtain ⟨rfl, rfl⟩ := hp
  refine zk_stk (r' := []) rfl ?_
  refine zk_lvs (lv' := [(0, .ref (S.1 68)), (1, .int x1), (2, .int x2)]) [0, 1, 2] rfl ?_
  exact zb_Mo_timers_719 C hR h2 x1 x2 e
set_option maxHeartbeats 4000000 in
set_option maxRecDepth 100000 in
theorem zb_Mo_timers_687 {X : zkj_T} {S : zs_T} {P : ze_T} {l : Launch} {D : va_G} {sz0 : Nat} {rh : zs_H} (C : zk_C X km_Mo_timers (zs_G S l D sz0) { frames := 1, cells := 0, slots := 0, locals := 24 } (ze_E P)) (hR : zkj_R X (zd_PV S rh) (none)) (h : zs_H) (x1 : Int32) (x2 : Int32) (x3 : Int32) (e : f_Mo_timers_687 h x1 x2 x3 = some rh) : zk_Ab X (zs_W S h) 0 0 687 [(0, .ref (S.1 68)), (1, .int x1), (2, .int x2), (3, .int x3)] [] := by
  unfold f_Mo_timers_687 at e
  refine zk_iload_n C kd_Mo_timers_687 rfl 1 rfl rfl ?_
  refine zk_bipush (v := 7) C kd_Mo_timers_688 (by decide) rfl ?_
  refine zk_icmp_ge (tgt := 719) C kd_Mo_timers_690 (by decide) rfl (fun b1 => ?_) (fun b1 => ?_)
  · replace e := zd_pos b1 e
    refine zk_lvs (lv' := [(0, .ref (S.1 68)), (1, .int x1), (2, .int x2)]) [0, 1, 2] rfl ?_
    exact zb_Mo_timers_719 C hR h x1 x2 e
  · replace e := zd_neg b1 e
    refine zk_aload_n C kd_Mo_timers_693 rfl 0 rfl rfl ?_
    refine zk_iload_n C kd_Mo_timers_694 rfl 2 rfl rfl ?_
    refine zk_iload_n C kd_Mo_timers_695 rfl 1 rfl rfl ?_
    refine zk_iconst (v := 3) C kd_Mo_timers_696 (by decide) rfl ?_
    refine zk_icmp_ge (tgt := 704) C kd_Mo_timers_697 (by decide) rfl (fun b2 => ?_) (fun b2 => ?_)
    · replace e := zd_pos b2 e
      refine zk_iload_n C kd_Mo_timers_704 rfl 1 rfl rfl ?_
      refine zk_iconst (v := 5) C kd_Mo_timers_705 (by decide) rfl ?_
      refine zk_icmp_ge (tgt := 713) C kd_Mo_timers_706 (by decide) rfl (fun b3 => ?_) (fun b3 => ?_)
      · replace e := zd_pos b3 e
        refine zk_iconst (v := 2) C kd_Mo_timers_713 (by decide) rfl ?_
        refine zk_lvs (lv' := [(0, .ref (S.1 68)), (1, .int x1), (2, .int x2), (3, .int x3)]) [0, 1, 2, 3] rfl ?_
        exact zb_Mo_timers_714 C hR h x1 x2 x3 2 x2 e
      · replace e := zd_neg b3 e
        refine zk_iconst (v := 5) C kd_Mo_timers_709 (by decide) rfl ?_
        refine zk_goto (tgt := 714) C kd_Mo_timers_710 (by decide) ?_
        refine zk_lvs (lv' := [(0, .ref (S.1 68)), (1, .int x1), (2, .int x2), (3, .int x3)]) [0, 1, 2, 3] rfl ?_
        exact zb_Mo_timers_714 C hR h x1 x2 x3 5 x2 e
    · replace e := zd_neg b2 e
      refine zk_iconst (v := 4) C kd_Mo_timers_700 (by decide) rfl ?_
      refine zk_goto (tgt := 714) C kd_Mo_timers_701 (by decide) ?_
      refine zk_lvs (lv' := [(0, .ref (S.1 68)), (1, .int x1), (2, .int x2), (3, .int x3)]) [0, 1, 2, 3] rfl ?_
      exact zb_Mo_timers_714 C hR h x1 x2 x3 4 x2 e
set_option maxHeartbeats 4000000 in
set_option maxRecDepth 100000 in
theorem zb_Mo_timers_684 {X : zkj_T} {S : zs_T} {P : ze_T} {l : Launch} {D : va_G} {sz0 : Nat} {rh : zs_H} (C : zk_C X km_Mo_timers (zs_G S l D sz0) { frames := 1, cells := 0, slots := 0, locals := 24 } (ze_E P)) (hR : zkj_R X (zd_PV S rh) (none)) (h : zs_H) (x1 : Int32) (x2 : Int32) (x3 : Int32) (y0 : Int32) (y1 : Int32) (e : f_Mo_timers_684 h x1 x2 x3 y0 y1 = some rh) : zk_Ab X (zs_W S h) 0 0 684 [(0, .ref (S.1 68)), (1, .int x1), (2, .int x2), (3, .int x3)] [.int y0, .int y1, .ref (S.1 68)] := by
  unfold f_Mo_timers_684 at e
  obtain ⟨h2, c1, e⟩ := zd_b e
  refine zs_callV (k := 68) (rn := { frames := 0, cells := 0, slots := 0, locals := 0 }) (As := [.int y1, .int y0]) (rest := []) C (zc_Mo_turn h y1 y0 c1) ku_Mo_turn kw2768 kv_Mo_turn rfl ⟨by decide, by decide⟩ ⟨by decide, by decide⟩ rfl rfl rfl (Nat.le_of_ble_eq_true rfl) kd_Mo_timers_684 rfl (c1 := 0) (s1 := 0) rfl rfl (fun v w hp => ?_)
  obtain ⟨rfl, rfl⟩ := hp
  refine zk_stk (r' := []) rfl ?_
  refine zk_lvs (lv' := [(0, .ref (S.1 68)), (1, .int x1), (2, .int x2), (3, .int x3)]) [0, 1, 2, 3] rfl ?_
  exact zb_Mo_timers_687 C hR h2 x1 x2 x3 e
set_option maxHeartbeats 4000000 in
set_option maxRecDepth 100000 in
theorem zb_Mo_timers_679 {X : zkj_T} {S : zs_T} {P : ze_T} {l : Launch} {D : va_G} {sz0 : Nat} {rh : zs_H} (C : zk_C X km_Mo_timers (zs_G S l D sz0) { frames := 1, cells := 0, slots := 0, locals := 24 } (ze_E P)) (hR : zkj_R X (zd_PV S rh) (none)) (h : zs_H) (x1 : Int32) (x2 : Int32) (x3 : Int32) (y0 : Int32) (e : f_Mo_timers_679 h x1 x2 x3 y0 = some rh) : zk_Ab X (zs_W S h) 0 0 679 [(0, .ref (S.1 68)), (1, .int x1), (2, .int x2), (3, .int x3)] [.int y0, .ref (S.1 68)] := by
  unfold f_Mo_timers_679 at e
  refine zk_iconst (v := 1) C kd_Mo_timers_679 (by decide) rfl ?_
  refine zk_goto (tgt := 684) C kd_Mo_timers_680 (by decide) ?_
  refine zk_lvs (lv' := [(0, .ref (S.1 68)), (1, .int x1), (2, .int x2), (3, .int x3)]) [0, 1, 2, 3] rfl ?_
  exact zb_Mo_timers_684 C hR h x1 x2 x3 1 y0 e
set_option maxHeartbeats 4000000 in
set_option maxRecDepth 100000 in
theorem zb_Mo_timers_683 {X : zkj_T} {S : zs_T} {P : ze_T} {l : Launch} {D : va_G} {sz0 : Nat} {rh : zs_H} (C : zk_C X km_Mo_timers (zs_G S l D sz0) { frames := 1, cells := 0, slots := 0, locals := 24 } (ze_E P)) (hR : zkj_R X (zd_PV S rh) (none)) (h : zs_H) (x1 : Int32) (x2 : Int32) (x3 : Int32) (y0 : Int32) (e : f_Mo_timers_683 h x1 x2 x3 y0 = some rh) : zk_Ab X (zs_W S h) 0 0 683 [(0, .ref (S.1 68)), (1, .int x1), (2, .int x2), (3, .int x3)] [.int y0, .ref (S.1 68)] := by
  unfold f_Mo_timers_683 at e
  refine zk_iconst (v := 0) C kd_Mo_timers_683 (by decide) rfl ?_
  refine zk_lvs (lv' := [(0, .ref (S.1 68)), (1, .int x1), (2, .int x2), (3, .int x3)]) [0, 1, 2, 3] rfl ?_
  exact zb_Mo_timers_684 C hR h x1 x2 x3 0 y0 e
set_option maxHeartbeats 4000000 in
set_option maxRecDepth 100000 in
theorem zb_Mo_timers_645 {X : zkj_T} {S : zs_T} {P : ze_T} {l : Launch} {D : va_G} {sz0 : Nat} {rh : zs_H} (C : zk_C X km_Mo_timers (zs_G S l D sz0) { frames := 1, cells := 0, slots := 0, locals := 24 } (ze_E P)) (hR : zkj_R X (zd_PV S rh) (none)) (h : zs_H) (x1 : Int32) (x2 : Int32) (x3 : Int32) (y0 : Int32) (y1 : Int32) (e : f_Mo_timers_645 h x1 x2 x3 y0 y1 = some rh) : zk_Ab X (zs_W S h) 0 0 645 [(0, .ref (S.1 68)), (1, .int x1), (2, .int x2), (3, .int x3)] [.int y0, .int y1, .ref (S.1 68)] := by
  unfold f_Mo_timers_645 at e
  obtain ⟨h2, c1, e⟩ := zd_b e
  refine zs_callV (k := 68) (rn := { frames := 0, cells := 0, slots := 0, locals := 0 }) (As := [.int y1, .int y0]) (rest := []) C (zc_Mo_turn h y1 y0 c1) ku_Mo_turn kw2768 kv_Mo_turn rfl ⟨by decide, by decide⟩ ⟨by decide, by decide⟩ rfl rfl rfl (Nat.le_of_ble_eq_true rfl) kd_Mo_timers_645 rfl (c1 := 0) (s1 := 0) rfl rfl (fun v w hp => ?_)
  obtain ⟨rfl, rfl⟩ := hp
  refine zk_stk (r' := []) rfl ?_
  refine zk_goto (tgt := 687) C kd_Mo_timers_648 (by decide) ?_
  refine zk_lvs (lv' := [(0, .ref (S.1 68)), (1, .int x1), (2, .int x2), (3, .int x3)]) [0, 1, 2, 3] rfl ?_
  exact zb_Mo_timers_687 C hR h2 x1 x2 x3 e
set_option maxHeartbeats 4000000 in
set_option maxRecDepth 100000 in
theorem zb_Mo_timers_640 {X : zkj_T} {S : zs_T} {P : ze_T} {l : Launch} {D : va_G} {sz0 : Nat} {rh : zs_H} (C : zk_C X km_Mo_timers (zs_G S l D sz0) { frames := 1, cells := 0, slots := 0, locals := 24 } (ze_E P)) (hR : zkj_R X (zd_PV S rh) (none)) (h : zs_H) (x1 : Int32) (x2 : Int32) (x3 : Int32) (y0 : Int32) (e : f_Mo_timers_640 h x1 x2 x3 y0 = some rh) : zk_Ab X (zs_W S h) 0 0 640 [(0, .ref (S.1 68)), (1, .int x1), (2, .int x2), (3, .int x3)] [.int y0, .ref (S.1 68)] := by
  unfold f_Mo_timers_640 at e
  refine zk_iconst (v := 1) C kd_Mo_timers_640 (by decide) rfl ?_
  refine zk_goto (tgt := 645) C kd_Mo_timers_641 (by decide) ?_
  refine zk_lvs (lv' := [(0, .ref (S.1 68)), (1, .int x1), (2, .int x2), (3, .int x3)]) [0, 1, 2, 3] rfl ?_
  exact zb_Mo_timers_645 C hR h x1 x2 x3 1 y0 e
set_option maxHeartbeats 4000000 in
set_option maxRecDepth 100000 in
theorem zb_Mo_timers_644 {X : zkj_T} {S : zs_T} {P : ze_T} {l : Launch} {D : va_G} {sz0 : Nat} {rh : zs_H} (C : zk_C X km_Mo_timers (zs_G S l D sz0) { frames := 1, cells := 0, slots := 0, locals := 24 } (ze_E P)) (hR : zkj_R X (zd_PV S rh) (none)) (h : zs_H) (x1 : Int32) (x2 : Int32) (x3 : Int32) (y0 : Int32) (e : f_Mo_timers_644 h x1 x2 x3 y0 = some rh) : zk_Ab X (zs_W S h) 0 0 644 [(0, .ref (S.1 68)), (1, .int x1), (2, .int x2), (3, .int x3)] [.int y0, .ref (S.1 68)] := by
  unfold f_Mo_timers_644 at e
  refine zk_iconst (v := 0) C kd_Mo_timers_644 (by decide) rfl ?_
  refine zk_lvs (lv' := [(0, .ref (S.1 68)), (1, .int x1), (2, .int x2), (3, .int x3)]) [0, 1, 2, 3] rfl ?_
  exact zb_Mo_timers_645 C hR h x1 x2 x3 0 y0 e
set_option maxHeartbeats 4000000 in
set_option maxRecDepth 100000 in
theorem zb_Mo_timers_606 {X : zkj_T} {S : zs_T} {P : ze_T} {l : Launch} {D : va_G} {sz0 : Nat} {rh : zs_H} (C : zk_C X km_Mo_timers (zs_G S l D sz0) { frames := 1, cells := 0, slots := 0, locals := 24 } (ze_E P)) (hR : zkj_R X (zd_PV S rh) (none)) (h : zs_H) (x1 : Int32) (x2 : Int32) (x3 : Int32) (y0 : Int32) (y1 : Int32) (e : f_Mo_timers_606 h x1 x2 x3 y0 y1 = some rh) : zk_Ab X (zs_W S h) 0 0 606 [(0, .ref (S.1 68)), (1, .int x1), (2, .int x2), (3, .int x3)] [.int y0, .int y1, .ref (S.1 68)] := by
  unfold f_Mo_timers_606 at e
  obtain ⟨h2, c1, e⟩ := zd_b e
  refine zs_callV (k := 68) (rn := { frames := 0, cells := 0, slots := 0, locals := 0 }) (As := [.int y1, .int y0]) (rest := []) C (zc_Mo_turn h y1 y0 c1) ku_Mo_turn kw2768 kv_Mo_turn rfl ⟨by decide, by decide⟩ ⟨by decide, by decide⟩ rfl rfl rfl (Nat.le_of_ble_eq_true rfl) kd_Mo_timers_606 rfl (c1 := 0) (s1 := 0) rfl rfl (fun v w hp => ?_)
  obtain ⟨rfl, rfl⟩ := hp
  refine zk_stk (r' := []) rfl ?_
  refine zk_goto (tgt := 687) C kd_Mo_timers_609 (by decide) ?_
  refine zk_lvs (lv' := [(0, .ref (S.1 68)), (1, .int x1), (2, .int x2), (3, .int x3)]) [0, 1, 2, 3] rfl ?_
  exact zb_Mo_timers_687 C hR h2 x1 x2 x3 e
set_option maxHeartbeats 4000000 in
set_option maxRecDepth 100000 in
theorem zb_Mo_timers_605 {X : zkj_T} {S : zs_T} {P : ze_T} {l : Launch} {D : va_G} {sz0 : Nat} {rh : zs_H} (C : zk_C X km_Mo_timers (zs_G S l D sz0) { frames := 1, cells := 0, slots := 0, locals := 24 } (ze_E P)) (hR : zkj_R X (zd_PV S rh) (none)) (h : zs_H) (x1 : Int32) (x2 : Int32) (x3 : Int32) (y0 : Int32) (e : f_Mo_timers_605 h x1 x2 x3 y0 = some rh) : zk_Ab X (zs_W S h) 0 0 605 [(0, .ref (S.1 68)), (1, .int x1), (2, .int x2), (3, .int x3)] [.int y0, .ref (S.1 68)] := by
  unfold f_Mo_timers_605 at e
  refine zk_iconst (v := 0) C kd_Mo_timers_605 (by decide) rfl ?_
  refine zk_lvs (lv' := [(0, .ref (S.1 68)), (1, .int x1), (2, .int x2), (3, .int x3)]) [0, 1, 2, 3] rfl ?_
  exact zb_Mo_timers_606 C hR h x1 x2 x3 0 y0 e
set_option maxHeartbeats 4000000 in
set_option maxRecDepth 100000 in
theorem zb_Mo_timers_582 {X : zkj_T} {S : zs_T} {P : ze_T} {l : Launch} {D : va_G} {sz0 : Nat} {rh : zs_H} (C : zk_C X km_Mo_timers (zs_G S l D sz0) { frames := 1, cells := 0, slots := 0, locals := 24 } (ze_E P)) (hR : zkj_R X (zd_PV S rh) (none)) (h : zs_H) (x1 : Int32) (x2 : Int32) (x3 : Int32) (y0 : Int32) (y1 : Int32) (e : f_Mo_timers_582 h x1 x2 x3 y0 y1 = some rh) : zk_Ab X (zs_W S h) 0 0 582 [(0, .ref (S.1 68)), (1, .int x1), (2, .int x2), (3, .int x3)] [.int y0, .int y1, .ref (S.1 68)] := by
  unfold f_Mo_timers_582 at e
  obtain ⟨h2, c1, e⟩ := zd_b e
  refine zs_callV (k := 68) (rn := { frames := 0, cells := 0, slots := 0, locals := 0 }) (As := [.int y1, .int y0]) (rest := []) C (zc_Mo_turn h y1 y0 c1) ku_Mo_turn kw2768 kv_Mo_turn rfl ⟨by decide, by decide⟩ ⟨by decide, by decide⟩ rfl rfl rfl (Nat.le_of_ble_eq_true rfl) kd_Mo_timers_582 rfl (c1 := 0) (s1 := 0) rfl rfl (fun v w hp => ?_)
  obtain ⟨rfl, rfl⟩ := hp
  refine zk_stk (r' := []) rfl ?_
  refine zk_goto (tgt := 687) C kd_Mo_timers_585 (by decide) ?_
  refine zk_lvs (lv' := [(0, .ref (S.1 68)), (1, .int x1), (2, .int x2), (3, .int x3)]) [0, 1, 2, 3] rfl ?_
  exact zb_Mo_timers_687 C hR h2 x1 x2 x3 e
set_option maxHeartbeats 4000000 in
set_option maxRecDepth 100000 in
theorem zb_Mo_timers_581 {X : zkj_T} {S : zs_T} {P : ze_T} {l : Launch} {D : va_G} {sz0 : Nat} {rh : zs_H} (C : zk_C X km_Mo_timers (zs_G S l D sz0) { frames := 1, cells := 0, slots := 0, locals := 24 } (ze_E P)) (hR : zkj_R X (zd_PV S rh) (none)) (h : zs_H) (x1 : Int32) (x2 : Int32) (x3 : Int32) (y0 : Int32) (e : f_Mo_timers_581 h x1 x2 x3 y0 = some rh) : zk_Ab X (zs_W S h) 0 0 581 [(0, .ref (S.1 68)), (1, .int x1), (2, .int x2), (3, .int x3)] [.int y0, .ref (S.1 68)] := by
  unfold f_Mo_timers_581 at e
  refine zk_iconst (v := 0) C kd_Mo_timers_581 (by decide) rfl ?_
  refine zk_lvs (lv' := [(0, .ref (S.1 68)), (1, .int x1), (2, .int x2), (3, .int x3)]) [0, 1, 2, 3] rfl ?_
  exact zb_Mo_timers_582 C hR h x1 x2 x3 0 y0 e
set_option maxHeartbeats 4000000 in
set_option maxRecDepth 100000 in
theorem zb_Mo_timers_558 {X : zkj_T} {S : zs_T} {P : ze_T} {l : Launch} {D : va_G} {sz0 : Nat} {rh : zs_H} (C : zk_C X km_Mo_timers (zs_G S l D sz0) { frames := 1, cells := 0, slots := 0, locals := 24 } (ze_E P)) (hR : zkj_R X (zd_PV S rh) (none)) (h : zs_H) (x1 : Int32) (x2 : Int32) (x3 : Int32) (y0 : Int32) (y1 : Int32) (e : f_Mo_timers_558 h x1 x2 x3 y0 y1 = some rh) : zk_Ab X (zs_W S h) 0 0 558 [(0, .ref (S.1 68)), (1, .int x1), (2, .int x2), (3, .int x3)] [.int y0, .int y1, .ref (S.1 68)] := by
  unfold f_Mo_timers_558 at e
  obtain ⟨h2, c1, e⟩ := zd_b e
  refine zs_callV (k := 68) (rn := { frames := 0, cells := 0, slots := 0, locals := 0 }) (As := [.int y1, .int y0]) (rest := []) C (zc_Mo_turn h y1 y0 c1) ku_Mo_turn kw2768 kv_Mo_turn rfl ⟨by decide, by decide⟩ ⟨by decide, by decide⟩ rfl rfl rfl (Nat.le_of_ble_eq_true rfl) kd_Mo_timers_558 rfl (c1 := 0) (s1 := 0) rfl rfl (fun v w hp => ?_)
  obtain ⟨rfl, rfl⟩ := hp
  refine zk_stk (r' := []) rfl ?_
  refine zk_goto (tgt := 687) C kd_Mo_timers_561 (by decide) ?_
  refine zk_lvs (lv' := [(0, .ref (S.1 68)), (1, .int x1), (2, .int x2), (3, .int x3)]) [0, 1, 2, 3] rfl ?_
  exact zb_Mo_timers_687 C hR h2 x1 x2 x3 e
set_option maxHeartbeats 4000000 in
set_option maxRecDepth 100000 in
theorem zb_Mo_timers_537 {X : zkj_T} {S : zs_T} {P : ze_T} {l : Launch} {D : va_G} {sz0 : Nat} {rh : zs_H} (C : zk_C X km_Mo_timers (zs_G S l D sz0) { frames := 1, cells := 0, slots := 0, locals := 24 } (ze_E P)) (hR : zkj_R X (zd_PV S rh) (none)) (h : zs_H) (x1 : Int32) (x2 : Int32) (x3 : Int32) (y0 : Int32) (y1 : Int32) (e : f_Mo_timers_537 h x1 x2 x3 y0 y1 = some rh) : zk_Ab X (zs_W S h) 0 0 537 [(0, .ref (S.1 68)), (1, .int x1), (2, .int x2), (3, .int x3)] [.int y0, .int y1, .ref (S.1 114)] := by
  unfold f_Mo_timers_537 at e
  obtain ⟨q1, e⟩ := zd_g e
  refine zs_iast C 114 rfl (zd_vp q1) kd_Mo_timers_537 rfl ?_
  refine zk_aload_n C kd_Mo_timers_538 rfl 0 rfl rfl ?_
  refine zk_iload_n C kd_Mo_timers_539 rfl 2 rfl rfl ?_
  refine zk_iconst (v := 3) C kd_Mo_timers_540 (by decide) rfl ?_
  refine zk_iadd C kd_Mo_timers_541 rfl ?_
  refine zk_aload_n C kd_Mo_timers_542 rfl 0 rfl rfl ?_
  refine zs_get (v := .ref (S.1 114)) C 68 72 rfl rfl rfl rfl ki_Mo (by decide) kw1755 kd_Mo_timers_543 rfl ?_
  refine zk_iload_n C kd_Mo_timers_546 rfl 2 rfl rfl ?_
  refine zk_iconst (v := 4) C kd_Mo_timers_547 (by decide) rfl ?_
  refine zk_iadd C kd_Mo_timers_548 rfl ?_
  obtain ⟨q2, e⟩ := zd_g e
  refine zs_iald C 114 rfl (zd_vp q2) kd_Mo_timers_549 rfl ?_
  refine zk_stk (r' := [.int ((zs_uM h 114 y1.toNatClampNeg y0).2.1 114 (x2 + 4).toNatClampNeg), .int (x2 + 3), .ref (S.1 68)]) rfl ?_
  refine zk_if_gt (tgt := 557) C kd_Mo_timers_550 (by decide) rfl (fun b3 => ?_) (fun b3 => ?_)
  · replace e := zd_pos b3 e
    refine zk_iconst (v := 0) C kd_Mo_timers_557 (by decide) rfl ?_
    refine zk_lvs (lv' := [(0, .ref (S.1 68)), (1, .int x1), (2, .int x2), (3, .int x3)]) [0, 1, 2, 3] rfl ?_
    exact zb_Mo_timers_558 C hR (zs_uM h 114 y1.toNatClampNeg y0) x1 x2 x3 0 (x2 + 3) e
  · replace e := zd_neg b3 e
    refine zk_iconst (v := 1) C kd_Mo_timers_553 (by decide) rfl ?_
    refine zk_goto (tgt := 558) C kd_Mo_timers_554 (by decide) ?_
    refine zk_lvs (lv' := [(0, .ref (S.1 68)), (1, .int x1), (2, .int x2), (3, .int x3)]) [0, 1, 2, 3] rfl ?_
    exact zb_Mo_timers_558 C hR (zs_uM h 114 y1.toNatClampNeg y0) x1 x2 x3 1 (x2 + 3) e
set_option maxHeartbeats 4000000 in
set_option maxRecDepth 100000 in
theorem zb_Mo_timers_536 {X : zkj_T} {S : zs_T} {P : ze_T} {l : Launch} {D : va_G} {sz0 : Nat} {rh : zs_H} (C : zk_C X km_Mo_timers (zs_G S l D sz0) { frames := 1, cells := 0, slots := 0, locals := 24 } (ze_E P)) (hR : zkj_R X (zd_PV S rh) (none)) (h : zs_H) (x1 : Int32) (x2 : Int32) (x3 : Int32) (y0 : Int32) (y1 : Int32) (y2 : Int32) (e : f_Mo_timers_536 h x1 x2 x3 y0 y1 y2 = some rh) : zk_Ab X (zs_W S h) 0 0 536 [(0, .ref (S.1 68)), (1, .int x1), (2, .int x2), (3, .int x3)] [.int y0, .int y1, .int y2, .ref (S.1 114)] := by
  unfold f_Mo_timers_536 at e
  refine zk_isub C kd_Mo_timers_536 rfl ?_
  refine zk_lvs (lv' := [(0, .ref (S.1 68)), (1, .int x1), (2, .int x2), (3, .int x3)]) [0, 1, 2, 3] rfl ?_
  exact zb_Mo_timers_537 C hR h x1 x2 x3 (y1 - y0) y2 e
set_option maxHeartbeats 4000000 in
set_option maxRecDepth 100000 in
theorem zb_Mo_timers_535 {X : zkj_T} {S : zs_T} {P : ze_T} {l : Launch} {D : va_G} {sz0 : Nat} {rh : zs_H} (C : zk_C X km_Mo_timers (zs_G S l D sz0) { frames := 1, cells := 0, slots := 0, locals := 24 } (ze_E P)) (hR : zkj_R X (zd_PV S rh) (none)) (h : zs_H) (x1 : Int32) (x2 : Int32) (x3 : Int32) (y0 : Int32) (y1 : Int32) (e : f_Mo_timers_535 h x1 x2 x3 y0 y1 = some rh) : zk_Ab X (zs_W S h) 0 0 535 [(0, .ref (S.1 68)), (1, .int x1), (2, .int x2), (3, .int x3)] [.int y0, .int y1, .ref (S.1 114)] := by
  unfold f_Mo_timers_535 at e
  refine zk_iconst (v := 0) C kd_Mo_timers_535 (by decide) rfl ?_
  refine zk_lvs (lv' := [(0, .ref (S.1 68)), (1, .int x1), (2, .int x2), (3, .int x3)]) [0, 1, 2, 3] rfl ?_
  exact zb_Mo_timers_536 C hR h x1 x2 x3 0 y0 y1 e
set_option maxHeartbeats 4000000 in
set_option maxRecDepth 100000 in
theorem zb_Mo_timers_466 {X : zkj_T} {S : zs_T} {P : ze_T} {l : Launch} {D : va_G} {sz0 : Nat} {rh : zs_H} (C : zk_C X km_Mo_timers (zs_G S l D sz0) { frames := 1, cells := 0, slots := 0, locals := 24 } (ze_E P)) (hR : zkj_R X (zd_PV S rh) (none)) (h : zs_H) (x1 : Int32) (x2 : Int32) (x3 : Int32) (y0 : Int32) (y1 : Int32) (e : f_Mo_timers_466 h x1 x2 x3 y0 y1 = some rh) : zk_Ab X (zs_W S h) 0 0 466 [(0, .ref (S.1 68)), (1, .int x1), (2, .int x2), (3, .int x3)] [.int y0, .int y1, .ref (S.1 68)] := by
  unfold f_Mo_timers_466 at e
  obtain ⟨h2, c1, e⟩ := zd_b e
  refine zs_callV (k := 68) (rn := { frames := 0, cells := 0, slots := 0, locals := 0 }) (As := [.int y1, .int y0]) (rest := []) C (zc_Mo_turn h y1 y0 c1) ku_Mo_turn kw2768 kv_Mo_turn rfl ⟨by decide, by decide⟩ ⟨by decide, by decide⟩ rfl rfl rfl (Nat.le_of_ble_eq_true rfl) kd_Mo_timers_466 rfl (c1 := 0) (s1 := 0) rfl rfl (fun v w hp => ?_)
  obtain ⟨rfl, rfl⟩ := hp
  refine zk_stk (r' := []) rfl ?_
  refine zk_goto (tgt := 687) C kd_Mo_timers_469 (by decide) ?_
  refine zk_lvs (lv' := [(0, .ref (S.1 68)), (1, .int x1), (2, .int x2), (3, .int x3)]) [0, 1, 2, 3] rfl ?_
  exact zb_Mo_timers_687 C hR h2 x1 x2 x3 e
set_option maxHeartbeats 4000000 in
set_option maxRecDepth 100000 in
theorem zb_Mo_timers_437 {X : zkj_T} {S : zs_T} {P : ze_T} {l : Launch} {D : va_G} {sz0 : Nat} {rh : zs_H} (C : zk_C X km_Mo_timers (zs_G S l D sz0) { frames := 1, cells := 0, slots := 0, locals := 24 } (ze_E P)) (hR : zkj_R X (zd_PV S rh) (none)) (h : zs_H) (x1 : Int32) (x2 : Int32) (x3 : Int32) (y0 : Int32) (y1 : Int32) (e : f_Mo_timers_437 h x1 x2 x3 y0 y1 = some rh) : zk_Ab X (zs_W S h) 0 0 437 [(0, .ref (S.1 68)), (1, .int x1), (2, .int x2), (3, .int x3)] [.int y0, .int y1, .ref (S.1 114)] := by
  unfold f_Mo_timers_437 at e
  obtain ⟨q1, e⟩ := zd_g e
  refine zs_iast C 114 rfl (zd_vp q1) kd_Mo_timers_437 rfl ?_
  refine zk_aload_n C kd_Mo_timers_438 rfl 0 rfl rfl ?_
  refine zk_iload_n C kd_Mo_timers_439 rfl 2 rfl rfl ?_
  refine zk_iconst (v := 3) C kd_Mo_timers_440 (by decide) rfl ?_
  refine zk_iadd C kd_Mo_timers_441 rfl ?_
  refine zk_aload_n C kd_Mo_timers_442 rfl 0 rfl rfl ?_
  refine zs_get (v := .ref (S.1 114)) C 68 72 rfl rfl rfl rfl ki_Mo (by decide) kw1755 kd_Mo_timers_443 rfl ?_
  refine zk_iload_n C kd_Mo_timers_446 rfl 2 rfl rfl ?_
  refine zk_iconst (v := 4) C kd_Mo_timers_447 (by decide) rfl ?_
  refine zk_iadd C kd_Mo_timers_448 rfl ?_
  obtain ⟨q2, e⟩ := zd_g e
  refine zs_iald C 114 rfl (zd_vp q2) kd_Mo_timers_449 rfl ?_
  refine zk_stk (r' := [.int ((zs_uM h 114 y1.toNatClampNeg y0).2.1 114 (x2 + 4).toNatClampNeg), .int (x2 + 3), .ref (S.1 68)]) rfl ?_
  refine zk_aload_n C kd_Mo_timers_450 rfl 0 rfl rfl ?_
  refine zs_get (v := .ref (S.1 114)) C 68 72 rfl rfl rfl rfl ki_Mo (by decide) kw1755 kd_Mo_timers_451 rfl ?_
  refine zk_iload_n C kd_Mo_timers_454 rfl 2 rfl rfl ?_
  refine zk_iconst (v := 2) C kd_Mo_timers_455 (by decide) rfl ?_
  refine zk_iadd C kd_Mo_timers_456 rfl ?_
  obtain ⟨q3, e⟩ := zd_g e
  refine zs_iald C 114 rfl (zd_vp q3) kd_Mo_timers_457 rfl ?_
  refine zk_stk (r' := [.int ((zs_uM h 114 y1.toNatClampNeg y0).2.1 114 (x2 + 2).toNatClampNeg), .int ((zs_uM h 114 y1.toNatClampNeg y0).2.1 114 (x2 + 4).toNatClampNeg), .int (x2 + 3), .ref (S.1 68)]) rfl ?_
  refine zk_icmp_lt (tgt := 465) C kd_Mo_timers_458 (by decide) rfl (fun b4 => ?_) (fun b4 => ?_)
  · replace e := zd_pos b4 e
    refine zk_iconst (v := 0) C kd_Mo_timers_465 (by decide) rfl ?_
    refine zk_lvs (lv' := [(0, .ref (S.1 68)), (1, .int x1), (2, .int x2), (3, .int x3)]) [0, 1, 2, 3] rfl ?_
    exact zb_Mo_timers_466 C hR (zs_uM h 114 y1.toNatClampNeg y0) x1 x2 x3 0 (x2 + 3) e
  · replace e := zd_neg b4 e
    refine zk_iconst (v := 1) C kd_Mo_timers_461 (by decide) rfl ?_
    refine zk_goto (tgt := 466) C kd_Mo_timers_462 (by decide) ?_
    refine zk_lvs (lv' := [(0, .ref (S.1 68)), (1, .int x1), (2, .int x2), (3, .int x3)]) [0, 1, 2, 3] rfl ?_
    exact zb_Mo_timers_466 C hR (zs_uM h 114 y1.toNatClampNeg y0) x1 x2 x3 1 (x2 + 3) e
set_option maxHeartbeats 4000000 in
set_option maxRecDepth 100000 in
theorem zb_Mo_timers_436 {X : zkj_T} {S : zs_T} {P : ze_T} {l : Launch} {D : va_G} {sz0 : Nat} {rh : zs_H} (C : zk_C X km_Mo_timers (zs_G S l D sz0) { frames := 1, cells := 0, slots := 0, locals := 24 } (ze_E P)) (hR : zkj_R X (zd_PV S rh) (none)) (h : zs_H) (x1 : Int32) (x2 : Int32) (x3 : Int32) (y0 : Int32) (y1 : Int32) (y2 : Int32) (e : f_Mo_timers_436 h x1 x2 x3 y0 y1 y2 = some rh) : zk_Ab X (zs_W S h) 0 0 436 [(0, .ref (S.1 68)), (1, .int x1), (2, .int x2), (3, .int x3)] [.int y0, .int y1, .int y2, .ref (S.1 114)] := by
  unfold f_Mo_timers_436 at e
  refine zk_iadd C kd_Mo_timers_436 rfl ?_
  refine zk_lvs (lv' := [(0, .ref (S.1 68)), (1, .int x1), (2, .int x2), (3, .int x3)]) [0, 1, 2, 3] rfl ?_
  exact zb_Mo_timers_437 C hR h x1 x2 x3 (y1 + y0) y2 e
set_option maxHeartbeats 4000000 in
set_option maxRecDepth 100000 in
theorem zb_Mo_timers_435 {X : zkj_T} {S : zs_T} {P : ze_T} {l : Launch} {D : va_G} {sz0 : Nat} {rh : zs_H} (C : zk_C X km_Mo_timers (zs_G S l D sz0) { frames := 1, cells := 0, slots := 0, locals := 24 } (ze_E P)) (hR : zkj_R X (zd_PV S rh) (none)) (h : zs_H) (x1 : Int32) (x2 : Int32) (x3 : Int32) (y0 : Int32) (y1 : Int32) (e : f_Mo_timers_435 h x1 x2 x3 y0 y1 = some rh) : zk_Ab X (zs_W S h) 0 0 435 [(0, .ref (S.1 68)), (1, .int x1), (2, .int x2), (3, .int x3)] [.int y0, .int y1, .ref (S.1 114)] := by
  unfold f_Mo_timers_435 at e
  refine zk_iconst (v := 0) C kd_Mo_timers_435 (by decide) rfl ?_
  refine zk_lvs (lv' := [(0, .ref (S.1 68)), (1, .int x1), (2, .int x2), (3, .int x3)]) [0, 1, 2, 3] rfl ?_
  exact zb_Mo_timers_436 C hR h x1 x2 x3 0 y0 y1 e
set_option maxHeartbeats 4000000 in
set_option maxRecDepth 100000 in
theorem zb_Mo_timers_373 {X : zkj_T} {S : zs_T} {P : ze_T} {l : Launch} {D : va_G} {sz0 : Nat} {rh : zs_H} (C : zk_C X km_Mo_timers (zs_G S l D sz0) { frames := 1, cells := 0, slots := 0, locals := 24 } (ze_E P)) (hR : zkj_R X (zd_PV S rh) (none)) (h : zs_H) (x1 : Int32) (x2 : Int32) (x3 : Int32) (y0 : Int32) (y1 : Int32) (e : f_Mo_timers_373 h x1 x2 x3 y0 y1 = some rh) : zk_Ab X (zs_W S h) 0 0 373 [(0, .ref (S.1 68)), (1, .int x1), (2, .int x2), (3, .int x3)] [.int y0, .int y1, .ref (S.1 68)] := by
  unfold f_Mo_timers_373 at e
  obtain ⟨h2, c1, e⟩ := zd_b e
  refine zs_callV (k := 68) (rn := { frames := 0, cells := 0, slots := 0, locals := 0 }) (As := [.int y1, .int y0]) (rest := []) C (zc_Mo_turn h y1 y0 c1) ku_Mo_turn kw2768 kv_Mo_turn rfl ⟨by decide, by decide⟩ ⟨by decide, by decide⟩ rfl rfl rfl (Nat.le_of_ble_eq_true rfl) kd_Mo_timers_373 rfl (c1 := 0) (s1 := 0) rfl rfl (fun v w hp => ?_)
  obtain ⟨rfl, rfl⟩ := hp
  refine zk_stk (r' := []) rfl ?_
  refine zk_goto (tgt := 687) C kd_Mo_timers_376 (by decide) ?_
  refine zk_lvs (lv' := [(0, .ref (S.1 68)), (1, .int x1), (2, .int x2), (3, .int x3)]) [0, 1, 2, 3] rfl ?_
  exact zb_Mo_timers_687 C hR h2 x1 x2 x3 e
set_option maxHeartbeats 4000000 in
set_option maxRecDepth 100000 in
theorem zb_Mo_timers_372 {X : zkj_T} {S : zs_T} {P : ze_T} {l : Launch} {D : va_G} {sz0 : Nat} {rh : zs_H} (C : zk_C X km_Mo_timers (zs_G S l D sz0) { frames := 1, cells := 0, slots := 0, locals := 24 } (ze_E P)) (hR : zkj_R X (zd_PV S rh) (none)) (h : zs_H) (x1 : Int32) (x2 : Int32) (x3 : Int32) (y0 : Int32) (e : f_Mo_timers_372 h x1 x2 x3 y0 = some rh) : zk_Ab X (zs_W S h) 0 0 372 [(0, .ref (S.1 68)), (1, .int x1), (2, .int x2), (3, .int x3)] [.int y0, .ref (S.1 68)] := by
  unfold f_Mo_timers_372 at e
  refine zk_iconst (v := 0) C kd_Mo_timers_372 (by decide) rfl ?_
  refine zk_lvs (lv' := [(0, .ref (S.1 68)), (1, .int x1), (2, .int x2), (3, .int x3)]) [0, 1, 2, 3] rfl ?_
  exact zb_Mo_timers_373 C hR h x1 x2 x3 0 y0 e
set_option maxHeartbeats 4000000 in
set_option maxRecDepth 100000 in
theorem zb_Mo_timers_346 {X : zkj_T} {S : zs_T} {P : ze_T} {l : Launch} {D : va_G} {sz0 : Nat} {rh : zs_H} (C : zk_C X km_Mo_timers (zs_G S l D sz0) { frames := 1, cells := 0, slots := 0, locals := 24 } (ze_E P)) (hR : zkj_R X (zd_PV S rh) (none)) (h : zs_H) (x1 : Int32) (x2 : Int32) (x3 : Int32) (x5 : Int32) (e : f_Mo_timers_346 h x1 x2 x3 x5 = some rh) : zk_Ab X (zs_W S h) 0 0 346 [(0, .ref (S.1 68)), (1, .int x1), (2, .int x2), (3, .int x3), (5, .int x5)] [] := by
  unfold f_Mo_timers_346 at e
  refine zk_aload_n C kd_Mo_timers_346 rfl 0 rfl rfl ?_
  refine zs_get (v := .ref (S.1 114)) C 68 72 rfl rfl rfl rfl ki_Mo (by decide) kw1755 kd_Mo_timers_347 rfl ?_
  refine zk_iload_n C kd_Mo_timers_350 rfl 2 rfl rfl ?_
  refine zk_iconst (v := 3) C kd_Mo_timers_351 (by decide) rfl ?_
  refine zk_iadd C kd_Mo_timers_352 rfl ?_
  refine zk_iconst (v := 0) C kd_Mo_timers_353 (by decide) rfl ?_
  obtain ⟨q1, e⟩ := zd_g e
  refine zs_iast C 114 rfl (zd_vp q1) kd_Mo_timers_354 rfl ?_
  refine zk_aload_n C kd_Mo_timers_355 rfl 0 rfl rfl ?_
  refine zk_iload_n C kd_Mo_timers_356 rfl 2 rfl rfl ?_
  refine zk_iconst (v := 2) C kd_Mo_timers_357 (by decide) rfl ?_
  refine zk_iadd C kd_Mo_timers_358 rfl ?_
  refine zk_iload_n C kd_Mo_timers_359 rfl 3 rfl rfl ?_
  refine zk_if_eq (tgt := 372) C kd_Mo_timers_360 (by decide) rfl (fun b2 => ?_) (fun b2 => ?_)
  · replace e := zd_pos b2 e
    refine zk_lvs (lv' := [(0, .ref (S.1 68)), (1, .int x1), (2, .int x2), (3, .int x3)]) [0, 1, 2, 3] rfl ?_
    exact zb_Mo_timers_372 C hR (zs_uM h 114 (x2 + 3).toNatClampNeg 0) x1 x2 x3 (x2 + 2) e
  · replace e := zd_neg b2 e
    refine zk_iload C kd_Mo_timers_363 4 rfl rfl ?_
    refine zk_if_le (tgt := 372) C kd_Mo_timers_365 (by decide) rfl (fun b3 => ?_) (fun b3 => ?_)
    · replace e := zd_pos b3 e
      refine zk_lvs (lv' := [(0, .ref (S.1 68)), (1, .int x1), (2, .int x2), (3, .int x3)]) [0, 1, 2, 3] rfl ?_
      exact zb_Mo_timers_372 C hR (zs_uM h 114 (x2 + 3).toNatClampNeg 0) x1 x2 x3 (x2 + 2) e
    · replace e := zd_neg b3 e
      refine zk_iconst (v := 1) C kd_Mo_timers_368 (by decide) rfl ?_
      refine zk_goto (tgt := 373) C kd_Mo_timers_369 (by decide) ?_
      refine zk_lvs (lv' := [(0, .ref (S.1 68)), (1, .int x1), (2, .int x2), (3, .int x3)]) [0, 1, 2, 3] rfl ?_
      exact zb_Mo_timers_373 C hR (zs_uM h 114 (x2 + 3).toNatClampNeg 0) x1 x2 x3 1 (x2 + 2) e
set_option maxHeartbeats 4000000 in
set_option maxRecDepth 100000 in
theorem zb_Mo_timers_327 {X : zkj_T} {S : zs_T} {P : ze_T} {l : Launch} {D : va_G} {sz0 : Nat} {rh : zs_H} (C : zk_C X km_Mo_timers (zs_G S l D sz0) { frames := 1, cells := 0, slots := 0, locals := 24 } (ze_E P)) (hR : zkj_R X (zd_PV S rh) (none)) (h : zs_H) (x1 : Int32) (x2 : Int32) (x3 : Int32) (x4 : Int32) (x5 : Int32) (e : f_Mo_timers_327 h x1 x2 x3 x4 x5 = some rh) : zk_Ab X (zs_W S h) 0 0 327 [(0, .ref (S.1 68)), (1, .int x1), (2, .int x2), (3, .int x3), (4, .int x4), (5, .int x5)] [] := by
  unfold f_Mo_timers_327 at e
  refine zk_aload_n C kd_Mo_timers_327 rfl 0 rfl rfl ?_
  refine zk_iload_n C kd_Mo_timers_328 rfl 2 rfl rfl ?_
  refine zk_iconst (v := 2) C kd_Mo_timers_329 (by decide) rfl ?_
  refine zk_iadd C kd_Mo_timers_330 rfl ?_
  obtain ⟨v2, c1, e⟩ := zd_b e
  refine zs_callV (k := 68) (rn := { frames := 0, cells := 0, slots := 0, locals := 0 }) (As := [.int (x2 + 2)]) (rest := []) C (zc_Mo_on h (x2 + 2) c1) ku_Mo_on kw2760 kv_Mo_on rfl ⟨by decide, by decide⟩ ⟨by decide, by decide⟩ rfl rfl rfl (Nat.le_of_ble_eq_true rfl) kd_Mo_timers_331 rfl (c1 := 0) (s1 := 0) rfl rfl (fun v w hp => ?_)
  obtain ⟨rfl, rfl, z3⟩ := hp
  refine zk_stk (r' := [.int v2]) rfl ?_
  refine zk_if_ne (tgt := 687) C kd_Mo_timers_334 (by decide) rfl (fun b4 => ?_) (fun b4 => ?_)
  · replace e := zd_neg b4 e
    refine zk_lvs (lv' := [(0, .ref (S.1 68)), (1, .int x1), (2, .int x2), (3, .int x3)]) [0, 1, 2, 3] rfl ?_
    exact zb_Mo_timers_687 C hR h x1 x2 x3 e
  · replace e := zd_pos b4 e
    refine zk_iload_n C kd_Mo_timers_337 rfl 3 rfl rfl ?_
    refine zk_if_eq (tgt := 346) C kd_Mo_timers_338 (by decide) rfl (fun b5 => ?_) (fun b5 => ?_)
    · replace e := zd_pos b5 e
      refine zk_lvs (lv' := [(0, .ref (S.1 68)), (1, .int x1), (2, .int x2), (3, .int x3), (5, .int x5)]) [0, 1, 2, 3, 5] rfl ?_
      exact zb_Mo_timers_346 C hR h x1 x2 x3 x5 e
    · replace e := zd_neg b5 e
      refine zk_iload C kd_Mo_timers_341 4 rfl rfl ?_
      refine zk_if_ne (tgt := 687) C kd_Mo_timers_343 (by decide) rfl (fun b6 => ?_) (fun b6 => ?_)
      · replace e := zd_neg b6 e
        refine zk_lvs (lv' := [(0, .ref (S.1 68)), (1, .int x1), (2, .int x2), (3, .int x3)]) [0, 1, 2, 3] rfl ?_
        exact zb_Mo_timers_687 C hR h x1 x2 x3 e
      · replace e := zd_pos b6 e
        refine zk_lvs (lv' := [(0, .ref (S.1 68)), (1, .int x1), (2, .int x2), (3, .int x3), (5, .int x5)]) [0, 1, 2, 3, 5] rfl ?_
        exact zb_Mo_timers_346 C hR h x1 x2 x3 x5 e
set_option maxHeartbeats 4000000 in
set_option maxRecDepth 100000 in
theorem zb_Mo_timers_275 {X : zkj_T} {S : zs_T} {P : ze_T} {l : Launch} {D : va_G} {sz0 : Nat} {rh : zs_H} (C : zk_C X km_Mo_timers (zs_G S l D sz0) { frames := 1, cells := 0, slots := 0, locals := 24 } (ze_E P)) (hR : zkj_R X (zd_PV S rh) (none)) (h : zs_H) (x1 : Int32) (x2 : Int32) (x3 : Int32) (y0 : Int32) (y1 : Int32) (e : f_Mo_timers_275 h x1 x2 x3 y0 y1 = some rh) : zk_Ab X (zs_W S h) 0 0 275 [(0, .ref (S.1 68)), (1, .int x1), (2, .int x2), (3, .int x3)] [.int y0, .int y1, .ref (S.1 68)] := by
  unfold f_Mo_timers_275 at e
  obtain ⟨h2, c1, e⟩ := zd_b e
  refine zs_callV (k := 68) (rn := { frames := 0, cells := 0, slots := 0, locals := 0 }) (As := [.int y1, .int y0]) (rest := []) C (zc_Mo_turn h y1 y0 c1) ku_Mo_turn kw2768 kv_Mo_turn rfl ⟨by decide, by decide⟩ ⟨by decide, by decide⟩ rfl rfl rfl (Nat.le_of_ble_eq_true rfl) kd_Mo_timers_275 rfl (c1 := 0) (s1 := 0) rfl rfl (fun v w hp => ?_)
  obtain ⟨rfl, rfl⟩ := hp
  refine zk_stk (r' := []) rfl ?_
  refine zk_goto (tgt := 687) C kd_Mo_timers_278 (by decide) ?_
  refine zk_lvs (lv' := [(0, .ref (S.1 68)), (1, .int x1), (2, .int x2), (3, .int x3)]) [0, 1, 2, 3] rfl ?_
  exact zb_Mo_timers_687 C hR h2 x1 x2 x3 e
set_option maxHeartbeats 4000000 in
set_option maxRecDepth 100000 in
theorem zb_Mo_timers_270 {X : zkj_T} {S : zs_T} {P : ze_T} {l : Launch} {D : va_G} {sz0 : Nat} {rh : zs_H} (C : zk_C X km_Mo_timers (zs_G S l D sz0) { frames := 1, cells := 0, slots := 0, locals := 24 } (ze_E P)) (hR : zkj_R X (zd_PV S rh) (none)) (h : zs_H) (x1 : Int32) (x2 : Int32) (x3 : Int32) (y0 : Int32) (e : f_Mo_timers_270 h x1 x2 x3 y0 = some rh) : zk_Ab X (zs_W S h) 0 0 270 [(0, .ref (S.1 68)), (1, .int x1), (2, .int x2), (3, .int x3)] [.int y0, .ref (S.1 68)] := by
  unfold f_Mo_timers_270 at e
  refine zk_iconst (v := 1) C kd_Mo_timers_270 (by decide) rfl ?_
  refine zk_goto (tgt := 275) C kd_Mo_timers_271 (by decide) ?_
  refine zk_lvs (lv' := [(0, .ref (S.1 68)), (1, .int x1), (2, .int x2), (3, .int x3)]) [0, 1, 2, 3] rfl ?_
  exact zb_Mo_timers_275 C hR h x1 x2 x3 1 y0 e
set_option maxHeartbeats 4000000 in
set_option maxRecDepth 100000 in
theorem zb_Mo_timers_274 {X : zkj_T} {S : zs_T} {P : ze_T} {l : Launch} {D : va_G} {sz0 : Nat} {rh : zs_H} (C : zk_C X km_Mo_timers (zs_G S l D sz0) { frames := 1, cells := 0, slots := 0, locals := 24 } (ze_E P)) (hR : zkj_R X (zd_PV S rh) (none)) (h : zs_H) (x1 : Int32) (x2 : Int32) (x3 : Int32) (y0 : Int32) (e : f_Mo_timers_274 h x1 x2 x3 y0 = some rh) : zk_Ab X (zs_W S h) 0 0 274 [(0, .ref (S.1 68)), (1, .int x1), (2, .int x2), (3, .int x3)] [.int y0, .ref (S.1 68)] := by
  unfold f_Mo_timers_274 at e
  refine zk_iconst (v := 0) C kd_Mo_timers_274 (by decide) rfl ?_
  refine zk_lvs (lv' := [(0, .ref (S.1 68)), (1, .int x1), (2, .int x2), (3, .int x3)]) [0, 1, 2, 3] rfl ?_
  exact zb_Mo_timers_275 C hR h x1 x2 x3 0 y0 e
set_option maxHeartbeats 4000000 in
set_option maxRecDepth 100000 in
theorem zb_Mo_timers_252 {X : zkj_T} {S : zs_T} {P : ze_T} {l : Launch} {D : va_G} {sz0 : Nat} {rh : zs_H} (C : zk_C X km_Mo_timers (zs_G S l D sz0) { frames := 1, cells := 0, slots := 0, locals := 24 } (ze_E P)) (hR : zkj_R X (zd_PV S rh) (none)) (h : zs_H) (x1 : Int32) (x2 : Int32) (x3 : Int32) (x5 : Int32) (x6 : Int32) (y0 : Int32) (e : f_Mo_timers_252 h x1 x2 x3 x5 x6 y0 = some rh) : zk_Ab X (zs_W S h) 0 0 252 [(0, .ref (S.1 68)), (1, .int x1), (2, .int x2), (3, .int x3), (5, .int x5), (6, .int x6)] [.int y0, .ref (S.1 68)] := by
  unfold f_Mo_timers_252 at e
  refine zk_iload C kd_Mo_timers_252 5 rfl rfl ?_
  refine zk_if_eq (tgt := 274) C kd_Mo_timers_254 (by decide) rfl (fun b1 => ?_) (fun b1 => ?_)
  · replace e := zd_pos b1 e
    refine zk_lvs (lv' := [(0, .ref (S.1 68)), (1, .int x1), (2, .int x2), (3, .int x3)]) [0, 1, 2, 3] rfl ?_
    exact zb_Mo_timers_274 C hR h x1 x2 x3 y0 e
  · replace e := zd_neg b1 e
    refine zk_aload_n C kd_Mo_timers_257 rfl 0 rfl rfl ?_
    refine zs_get (v := .ref (S.1 114)) C 68 72 rfl rfl rfl rfl ki_Mo (by decide) kw1755 kd_Mo_timers_258 rfl ?_
    refine zk_iload_n C kd_Mo_timers_261 rfl 2 rfl rfl ?_
    refine zk_iconst (v := 3) C kd_Mo_timers_262 (by decide) rfl ?_
    refine zk_iadd C kd_Mo_timers_263 rfl ?_
    obtain ⟨q2, e⟩ := zd_g e
    refine zs_iald C 114 rfl (zd_vp q2) kd_Mo_timers_264 rfl ?_
    refine zk_iload C kd_Mo_timers_265 4 rfl rfl ?_
    refine zk_icmp_ge (tgt := 274) C kd_Mo_timers_267 (by decide) rfl (fun b3 => ?_) (fun b3 => ?_)
    · replace e := zd_pos b3 e
      refine zk_lvs (lv' := [(0, .ref (S.1 68)), (1, .int x1), (2, .int x2), (3, .int x3)]) [0, 1, 2, 3] rfl ?_
      exact zb_Mo_timers_274 C hR h x1 x2 x3 y0 e
    · replace e := zd_neg b3 e
      refine zk_lvs (lv' := [(0, .ref (S.1 68)), (1, .int x1), (2, .int x2), (3, .int x3)]) [0, 1, 2, 3] rfl ?_
      exact zb_Mo_timers_270 C hR h x1 x2 x3 y0 e
set_option maxHeartbeats 4000000 in
set_option maxRecDepth 100000 in
theorem zb_Mo_timers_233 {X : zkj_T} {S : zs_T} {P : ze_T} {l : Launch} {D : va_G} {sz0 : Nat} {rh : zs_H} (C : zk_C X km_Mo_timers (zs_G S l D sz0) { frames := 1, cells := 0, slots := 0, locals := 24 } (ze_E P)) (hR : zkj_R X (zd_PV S rh) (none)) (h : zs_H) (x1 : Int32) (x2 : Int32) (x3 : Int32) (x4 : Int32) (x5 : Int32) (x6 : Int32) (y0 : Int32) (y1 : Int32) (e : f_Mo_timers_233 h x1 x2 x3 x4 x5 x6 y0 y1 = some rh) : zk_Ab X (zs_W S h) 0 0 233 [(0, .ref (S.1 68)), (1, .int x1), (2, .int x2), (3, .int x3), (4, .int x4), (5, .int x5), (6, .int x6)] [.int y0, .int y1, .ref (S.1 114)] := by
  unfold f_Mo_timers_233 at e
  obtain ⟨q1, e⟩ := zd_g e
  refine zs_iast C 114 rfl (zd_vp q1) kd_Mo_timers_233 rfl ?_
  refine zk_aload_n C kd_Mo_timers_234 rfl 0 rfl rfl ?_
  refine zk_iload_n C kd_Mo_timers_235 rfl 2 rfl rfl ?_
  refine zk_iconst (v := 2) C kd_Mo_timers_236 (by decide) rfl ?_
  refine zk_iadd C kd_Mo_timers_237 rfl ?_
  refine zk_iload_n C kd_Mo_timers_238 rfl 3 rfl rfl ?_
  refine zk_if_ne (tgt := 270) C kd_Mo_timers_239 (by decide) rfl (fun b2 => ?_) (fun b2 => ?_)
  · replace e := zd_neg b2 e
    refine zk_lvs (lv' := [(0, .ref (S.1 68)), (1, .int x1), (2, .int x2), (3, .int x3)]) [0, 1, 2, 3] rfl ?_
    exact zb_Mo_timers_270 C hR (zs_uM h 114 y1.toNatClampNeg y0) x1 x2 x3 (x2 + 2) e
  · replace e := zd_pos b2 e
    refine zk_iload C kd_Mo_timers_242 4 rfl rfl ?_
    refine zk_if_eq (tgt := 252) C kd_Mo_timers_244 (by decide) rfl (fun b3 => ?_) (fun b3 => ?_)
    · replace e := zd_pos b3 e
      refine zk_lvs (lv' := [(0, .ref (S.1 68)), (1, .int x1), (2, .int x2), (3, .int x3), (5, .int x5), (6, .int x6)]) [0, 1, 2, 3, 5, 6] rfl ?_
      exact zb_Mo_timers_252 C hR (zs_uM h 114 y1.toNatClampNeg y0) x1 x2 x3 x5 x6 (x2 + 2) e
    · replace e := zd_neg b3 e
      refine zk_iload C kd_Mo_timers_247 5 rfl rfl ?_
      refine zk_if_gt (tgt := 270) C kd_Mo_timers_249 (by decide) rfl (fun b4 => ?_) (fun b4 => ?_)
      · replace e := zd_pos b4 e
        refine zk_lvs (lv' := [(0, .ref (S.1 68)), (1, .int x1), (2, .int x2), (3, .int x3)]) [0, 1, 2, 3] rfl ?_
        exact zb_Mo_timers_270 C hR (zs_uM h 114 y1.toNatClampNeg y0) x1 x2 x3 (x2 + 2) e
      · replace e := zd_neg b4 e
        refine zk_lvs (lv' := [(0, .ref (S.1 68)), (1, .int x1), (2, .int x2), (3, .int x3), (5, .int x5), (6, .int x6)]) [0, 1, 2, 3, 5, 6] rfl ?_
        exact zb_Mo_timers_252 C hR (zs_uM h 114 y1.toNatClampNeg y0) x1 x2 x3 x5 x6 (x2 + 2) e
set_option maxHeartbeats 4000000 in
set_option maxRecDepth 100000 in
theorem zb_Mo_timers_206 {X : zkj_T} {S : zs_T} {P : ze_T} {l : Launch} {D : va_G} {sz0 : Nat} {rh : zs_H} (C : zk_C X km_Mo_timers (zs_G S l D sz0) { frames := 1, cells := 0, slots := 0, locals := 24 } (ze_E P)) (hR : zkj_R X (zd_PV S rh) (none)) (h : zs_H) (x1 : Int32) (x2 : Int32) (x3 : Int32) (x4 : Int32) (x5 : Int32) (x6 : Int32) (y0 : Int32) (e : f_Mo_timers_206 h x1 x2 x3 x4 x5 x6 y0 = some rh) : zk_Ab X (zs_W S h) 0 0 206 [(0, .ref (S.1 68)), (1, .int x1), (2, .int x2), (3, .int x3), (4, .int x4), (5, .int x5), (6, .int x6)] [.int y0, .ref (S.1 114)] := by
  unfold f_Mo_timers_206 at e
  refine zk_iconst (v := 0) C kd_Mo_timers_206 (by decide) rfl ?_
  refine zk_goto (tgt := 233) C kd_Mo_timers_207 (by decide) ?_
  refine zk_lvs (lv' := [(0, .ref (S.1 68)), (1, .int x1), (2, .int x2), (3, .int x3), (4, .int x4), (5, .int x5), (6, .int x6)]) [0, 1, 2, 3, 4, 5, 6] rfl ?_
  exact zb_Mo_timers_233 C hR h x1 x2 x3 x4 x5 x6 0 y0 e
set_option maxHeartbeats 4000000 in
set_option maxRecDepth 100000 in
theorem zb_Mo_timers_188 {X : zkj_T} {S : zs_T} {P : ze_T} {l : Launch} {D : va_G} {sz0 : Nat} {rh : zs_H} (C : zk_C X km_Mo_timers (zs_G S l D sz0) { frames := 1, cells := 0, slots := 0, locals := 24 } (ze_E P)) (hR : zkj_R X (zd_PV S rh) (none)) (h : zs_H) (x1 : Int32) (x2 : Int32) (x3 : Int32) (x4 : Int32) (x5 : Int32) (y0 : Int32) (e : f_Mo_timers_188 h x1 x2 x3 x4 x5 y0 = some rh) : zk_Ab X (zs_W S h) 0 0 188 [(0, .ref (S.1 68)), (1, .int x1), (2, .int x2), (3, .int x3), (4, .int x4), (5, .int x5)] [.int y0] := by
  unfold f_Mo_timers_188 at e
  refine zk_istore (lv' := [(6, _), (0, _), (1, _), (2, _), (3, _), (4, _), (5, _)]) C kd_Mo_timers_188 (by decide) rfl rfl ?_
  refine zk_aload_n C kd_Mo_timers_190 rfl 1 rfl rfl ?_
  refine zs_get (v := .ref (S.1 114)) C 68 72 rfl rfl rfl rfl ki_Mo (by decide) kw1755 kd_Mo_timers_191 rfl ?_
  refine zk_iload_n C kd_Mo_timers_194 rfl 3 rfl rfl ?_
  refine zk_iconst (v := 3) C kd_Mo_timers_195 (by decide) rfl ?_
  refine zk_iadd C kd_Mo_timers_196 rfl ?_
  refine zk_iload_n C kd_Mo_timers_197 rfl 4 rfl rfl ?_
  refine zk_if_ne (tgt := 206) C kd_Mo_timers_198 (by decide) rfl (fun b1 => ?_) (fun b1 => ?_)
  · replace e := zd_neg b1 e
    refine zk_lvs (lv' := [(0, .ref (S.1 68)), (1, .int x1), (2, .int x2), (3, .int x3), (4, .int x4), (5, .int x5), (6, .int y0)]) [1, 2, 3, 4, 5, 6, 0] rfl ?_
    exact zb_Mo_timers_206 C hR h x1 x2 x3 x4 x5 y0 (x2 + 3) e
  · replace e := zd_pos b1 e
    refine zk_iload C kd_Mo_timers_201 5 rfl rfl ?_
    refine zk_if_eq (tgt := 210) C kd_Mo_timers_203 (by decide) rfl (fun b2 => ?_) (fun b2 => ?_)
    · replace e := zd_pos b2 e
      refine zk_iload C kd_Mo_timers_210 0 rfl rfl ?_
      refine zk_if_eq (tgt := 225) C kd_Mo_timers_212 (by decide) rfl (fun b3 => ?_) (fun b3 => ?_)
      · replace e := zd_pos b3 e
        refine zk_aload_n C kd_Mo_timers_225 rfl 1 rfl rfl ?_
        refine zs_get (v := .ref (S.1 114)) C 68 72 rfl rfl rfl rfl ki_Mo (by decide) kw1755 kd_Mo_timers_226 rfl ?_
        refine zk_iload_n C kd_Mo_timers_229 rfl 3 rfl rfl ?_
        refine zk_iconst (v := 3) C kd_Mo_timers_230 (by decide) rfl ?_
        refine zk_iadd C kd_Mo_timers_231 rfl ?_
        obtain ⟨q4, e⟩ := zd_g e
        refine zs_iald C 114 rfl (zd_vp q4) kd_Mo_timers_232 rfl ?_
        refine zk_lvs (lv' := [(0, .ref (S.1 68)), (1, .int x1), (2, .int x2), (3, .int x3), (4, .int x4), (5, .int x5), (6, .int y0)]) [1, 2, 3, 4, 5, 6, 0] rfl ?_
        exact zb_Mo_timers_233 C hR h x1 x2 x3 x4 x5 y0 (h.2.1 114 (x2 + 3).toNatClampNeg) (x2 + 3) e
      · replace e := zd_neg b3 e
        refine zk_aload_n C kd_Mo_timers_215 rfl 1 rfl rfl ?_
        refine zk_iload_n C kd_Mo_timers_216 rfl 3 rfl rfl ?_
        refine zk_iload C kd_Mo_timers_217 6 rfl rfl ?_
        obtain ⟨v6, c5, e⟩ := zd_b e
        refine zs_callV (k := 68) (rn := { frames := 0, cells := 0, slots := 0, locals := 0 }) (As := [.int x2, .int x5]) (rest := [.int (x2 + 3), .ref (S.1 114)]) C (zc_Mo_grown h x2 x5 c5) ku_Mo_grown kw2764 kv_Mo_grown rfl ⟨by decide, by decide⟩ ⟨by decide, by decide⟩ rfl rfl rfl (Nat.le_of_ble_eq_true rfl) kd_Mo_timers_219 rfl (c1 := 0) (s1 := 0) rfl rfl (fun v w hp => ?_)
        obtain ⟨rfl, rfl⟩ := hp
        refine zk_stk (r' := [.int v6, .int (x2 + 3), .ref (S.1 114)]) rfl ?_
        refine zk_goto (tgt := 233) C kd_Mo_timers_222 (by decide) ?_
        refine zk_lvs (lv' := [(0, .ref (S.1 68)), (1, .int x1), (2, .int x2), (3, .int x3), (4, .int x4), (5, .int x5), (6, .int y0)]) [1, 2, 3, 4, 5, 6, 0] rfl ?_
        exact zb_Mo_timers_233 C hR h x1 x2 x3 x4 x5 y0 v6 (x2 + 3) e
    · replace e := zd_neg b2 e
      refine zk_lvs (lv' := [(0, .ref (S.1 68)), (1, .int x1), (2, .int x2), (3, .int x3), (4, .int x4), (5, .int x5), (6, .int y0)]) [1, 2, 3, 4, 5, 6, 0] rfl ?_
      exact zb_Mo_timers_206 C hR h x1 x2 x3 x4 x5 y0 (x2 + 3) e
set_option maxHeartbeats 4000000 in
set_option maxRecDepth 100000 in
theorem zb_Mo_timers_187 {X : zkj_T} {S : zs_T} {P : ze_T} {l : Launch} {D : va_G} {sz0 : Nat} {rh : zs_H} (C : zk_C X km_Mo_timers (zs_G S l D sz0) { frames := 1, cells := 0, slots := 0, locals := 24 } (ze_E P)) (hR : zkj_R X (zd_PV S rh) (none)) (h : zs_H) (x1 : Int32) (x2 : Int32) (x3 : Int32) (x4 : Int32) (x5 : Int32) (e : f_Mo_timers_187 h x1 x2 x3 x4 x5 = some rh) : zk_Ab X (zs_W S h) 0 0 187 [(0, .ref (S.1 68)), (1, .int x1), (2, .int x2), (3, .int x3), (4, .int x4), (5, .int x5)] [] := by
  unfold f_Mo_timers_187 at e
  refine zk_iconst (v := 0) C kd_Mo_timers_187 (by decide) rfl ?_
  refine zk_lvs (lv' := [(0, .ref (S.1 68)), (1, .int x1), (2, .int x2), (3, .int x3), (4, .int x4), (5, .int x5)]) [0, 1, 2, 3, 4, 5] rfl ?_
  exact zb_Mo_timers_188 C hR h x1 x2 x3 x4 x5 0 e
set_option maxHeartbeats 4000000 in
set_option maxRecDepth 100000 in
theorem zb_Mo_timers_158 {X : zkj_T} {S : zs_T} {P : ze_T} {l : Launch} {D : va_G} {sz0 : Nat} {rh : zs_H} (C : zk_C X km_Mo_timers (zs_G S l D sz0) { frames := 1, cells := 0, slots := 0, locals := 24 } (ze_E P)) (hR : zkj_R X (zd_PV S rh) (none)) (h : zs_H) (x1 : Int32) (x2 : Int32) (x3 : Int32) (y0 : Int32) (y1 : Int32) (e : f_Mo_timers_158 h x1 x2 x3 y0 y1 = some rh) : zk_Ab X (zs_W S h) 0 0 158 [(0, .ref (S.1 68)), (1, .int x1), (2, .int x2), (3, .int x3)] [.int y0, .int y1, .ref (S.1 68)] := by
  unfold f_Mo_timers_158 at e
  obtain ⟨h2, c1, e⟩ := zd_b e
  refine zs_callV (k := 68) (rn := { frames := 0, cells := 0, slots := 0, locals := 0 }) (As := [.int y1, .int y0]) (rest := []) C (zc_Mo_turn h y1 y0 c1) ku_Mo_turn kw2768 kv_Mo_turn rfl ⟨by decide, by decide⟩ ⟨by decide, by decide⟩ rfl rfl rfl (Nat.le_of_ble_eq_true rfl) kd_Mo_timers_158 rfl (c1 := 0) (s1 := 0) rfl rfl (fun v w hp => ?_)
  obtain ⟨rfl, rfl⟩ := hp
  refine zk_stk (r' := []) rfl ?_
  refine zk_goto (tgt := 687) C kd_Mo_timers_161 (by decide) ?_
  refine zk_lvs (lv' := [(0, .ref (S.1 68)), (1, .int x1), (2, .int x2), (3, .int x3)]) [0, 1, 2, 3] rfl ?_
  exact zb_Mo_timers_687 C hR h2 x1 x2 x3 e
set_option maxHeartbeats 4000000 in
set_option maxRecDepth 100000 in
theorem zb_Mo_timers_157 {X : zkj_T} {S : zs_T} {P : ze_T} {l : Launch} {D : va_G} {sz0 : Nat} {rh : zs_H} (C : zk_C X km_Mo_timers (zs_G S l D sz0) { frames := 1, cells := 0, slots := 0, locals := 24 } (ze_E P)) (hR : zkj_R X (zd_PV S rh) (none)) (h : zs_H) (x1 : Int32) (x2 : Int32) (x3 : Int32) (y0 : Int32) (e : f_Mo_timers_157 h x1 x2 x3 y0 = some rh) : zk_Ab X (zs_W S h) 0 0 157 [(0, .ref (S.1 68)), (1, .int x1), (2, .int x2), (3, .int x3)] [.int y0, .ref (S.1 68)] := by
  unfold f_Mo_timers_157 at e
  refine zk_iconst (v := 0) C kd_Mo_timers_157 (by decide) rfl ?_
  refine zk_lvs (lv' := [(0, .ref (S.1 68)), (1, .int x1), (2, .int x2), (3, .int x3)]) [0, 1, 2, 3] rfl ?_
  exact zb_Mo_timers_158 C hR h x1 x2 x3 0 y0 e
set_option maxHeartbeats 4000000 in
set_option maxRecDepth 100000 in
theorem zb_Mo_timers_131 {X : zkj_T} {S : zs_T} {P : ze_T} {l : Launch} {D : va_G} {sz0 : Nat} {rh : zs_H} (C : zk_C X km_Mo_timers (zs_G S l D sz0) { frames := 1, cells := 0, slots := 0, locals := 24 } (ze_E P)) (hR : zkj_R X (zd_PV S rh) (none)) (h : zs_H) (x1 : Int32) (x2 : Int32) (x3 : Int32) (x5 : Int32) (y0 : Int32) (y1 : Int32) (e : f_Mo_timers_131 h x1 x2 x3 x5 y0 y1 = some rh) : zk_Ab X (zs_W S h) 0 0 131 [(0, .ref (S.1 68)), (1, .int x1), (2, .int x2), (3, .int x3), (5, .int x5)] [.int y0, .int y1, .ref (S.1 114)] := by
  unfold f_Mo_timers_131 at e
  obtain ⟨q1, e⟩ := zd_g e
  refine zs_iast C 114 rfl (zd_vp q1) kd_Mo_timers_131 rfl ?_
  refine zk_aload_n C kd_Mo_timers_132 rfl 0 rfl rfl ?_
  refine zk_iload_n C kd_Mo_timers_133 rfl 2 rfl rfl ?_
  refine zk_iconst (v := 2) C kd_Mo_timers_134 (by decide) rfl ?_
  refine zk_iadd C kd_Mo_timers_135 rfl ?_
  refine zk_iload_n C kd_Mo_timers_136 rfl 3 rfl rfl ?_
  refine zk_if_eq (tgt := 157) C kd_Mo_timers_137 (by decide) rfl (fun b2 => ?_) (fun b2 => ?_)
  · replace e := zd_pos b2 e
    refine zk_lvs (lv' := [(0, .ref (S.1 68)), (1, .int x1), (2, .int x2), (3, .int x3)]) [0, 1, 2, 3] rfl ?_
    exact zb_Mo_timers_157 C hR (zs_uM h 114 y1.toNatClampNeg y0) x1 x2 x3 (x2 + 2) e
  · replace e := zd_neg b2 e
    refine zk_aload_n C kd_Mo_timers_140 rfl 0 rfl rfl ?_
    refine zs_get (v := .ref (S.1 114)) C 68 72 rfl rfl rfl rfl ki_Mo (by decide) kw1755 kd_Mo_timers_141 rfl ?_
    refine zk_iload_n C kd_Mo_timers_144 rfl 2 rfl rfl ?_
    refine zk_iconst (v := 3) C kd_Mo_timers_145 (by decide) rfl ?_
    refine zk_iadd C kd_Mo_timers_146 rfl ?_
    obtain ⟨q3, e⟩ := zd_g e
    refine zs_iald C 114 rfl (zd_vp q3) kd_Mo_timers_147 rfl ?_
    refine zk_stk (r' := [.int ((zs_uM h 114 y1.toNatClampNeg y0).2.1 114 (x2 + 3).toNatClampNeg), .int (x2 + 2), .ref (S.1 68)]) rfl ?_
    refine zk_iload C kd_Mo_timers_148 4 rfl rfl ?_
    refine zk_icmp_lt (tgt := 157) C kd_Mo_timers_150 (by decide) rfl (fun b4 => ?_) (fun b4 => ?_)
    · replace e := zd_pos b4 e
      refine zk_lvs (lv' := [(0, .ref (S.1 68)), (1, .int x1), (2, .int x2), (3, .int x3)]) [0, 1, 2, 3] rfl ?_
      exact zb_Mo_timers_157 C hR (zs_uM h 114 y1.toNatClampNeg y0) x1 x2 x3 (x2 + 2) e
    · replace e := zd_neg b4 e
      refine zk_iconst (v := 1) C kd_Mo_timers_153 (by decide) rfl ?_
      refine zk_goto (tgt := 158) C kd_Mo_timers_154 (by decide) ?_
      refine zk_lvs (lv' := [(0, .ref (S.1 68)), (1, .int x1), (2, .int x2), (3, .int x3)]) [0, 1, 2, 3] rfl ?_
      exact zb_Mo_timers_158 C hR (zs_uM h 114 y1.toNatClampNeg y0) x1 x2 x3 1 (x2 + 2) e
set_option maxHeartbeats 4000000 in
set_option maxRecDepth 100000 in
theorem zb_Mo_timers_130 {X : zkj_T} {S : zs_T} {P : ze_T} {l : Launch} {D : va_G} {sz0 : Nat} {rh : zs_H} (C : zk_C X km_Mo_timers (zs_G S l D sz0) { frames := 1, cells := 0, slots := 0, locals := 24 } (ze_E P)) (hR : zkj_R X (zd_PV S rh) (none)) (h : zs_H) (x1 : Int32) (x2 : Int32) (x3 : Int32) (x5 : Int32) (y0 : Int32) (e : f_Mo_timers_130 h x1 x2 x3 x5 y0 = some rh) : zk_Ab X (zs_W S h) 0 0 130 [(0, .ref (S.1 68)), (1, .int x1), (2, .int x2), (3, .int x3), (5, .int x5)] [.int y0, .ref (S.1 114)] := by
  unfold f_Mo_timers_130 at e
  refine zk_iconst (v := 0) C kd_Mo_timers_130 (by decide) rfl ?_
  refine zk_lvs (lv' := [(0, .ref (S.1 68)), (1, .int x1), (2, .int x2), (3, .int x3), (5, .int x5)]) [0, 1, 2, 3, 4] rfl ?_
  exact zb_Mo_timers_131 C hR h x1 x2 x3 x5 0 y0 e
set_option maxHeartbeats 4000000 in
set_option maxRecDepth 100000 in
theorem zb_Mo_timers_56 {X : zkj_T} {S : zs_T} {P : ze_T} {l : Launch} {D : va_G} {sz0 : Nat} {rh : zs_H} (C : zk_C X km_Mo_timers (zs_G S l D sz0) { frames := 1, cells := 0, slots := 0, locals := 24 } (ze_E P)) (hR : zkj_R X (zd_PV S rh) (none)) (h : zs_H) (x1 : Int32) (x2 : Int32) (x3 : Int32) (x4 : Int32) (y0 : Int32) (e : f_Mo_timers_56 h x1 x2 x3 x4 y0 = some rh) : zk_Ab X (zs_W S h) 0 0 56 [(0, .ref (S.1 68)), (1, .int x1), (2, .int x2), (3, .int x3), (4, .int x4)] [.int y0] := by
  unfold f_Mo_timers_56 at e
  refine zk_istore (lv' := [(5, _), (0, _), (1, _), (2, _), (3, _), (4, _)]) C kd_Mo_timers_56 (by decide) rfl rfl ?_
  refine zk_iload_n C kd_Mo_timers_58 rfl 2 rfl rfl ?_
  by_cases b1 : x1 = 0
  · replace e := zd_pos b1 e
    refine zk_tableIn (tgt := 104) C kd_Mo_timers_59 (by rw [b1]; decide) (by rw [b1]; decide) (by rw [b1]; rfl) (by decide) ?_
    refine zk_aload_n C kd_Mo_timers_104 rfl 1 rfl rfl ?_
    refine zs_get (v := .ref (S.1 114)) C 68 72 rfl rfl rfl rfl ki_Mo (by decide) kw1755 kd_Mo_timers_105 rfl ?_
    refine zk_iload_n C kd_Mo_timers_108 rfl 3 rfl rfl ?_
    refine zk_iconst (v := 3) C kd_Mo_timers_109 (by decide) rfl ?_
    refine zk_iadd C kd_Mo_timers_110 rfl ?_
    refine zk_iload_n C kd_Mo_timers_111 rfl 4 rfl rfl ?_
    refine zk_if_eq (tgt := 130) C kd_Mo_timers_112 (by decide) rfl (fun b2 => ?_) (fun b2 => ?_)
    · replace e := zd_pos b2 e
      refine zk_lvs (lv' := [(0, .ref (S.1 68)), (1, .int x1), (2, .int x2), (3, .int x3), (5, .int y0)]) [1, 2, 3, 4, 0] rfl ?_
      exact zb_Mo_timers_130 C hR h x1 x2 x3 y0 (x2 + 3) e
    · replace e := zd_neg b2 e
      refine zk_iload C kd_Mo_timers_115 5 rfl rfl ?_
      refine zk_if_eq (tgt := 130) C kd_Mo_timers_117 (by decide) rfl (fun b3 => ?_) (fun b3 => ?_)
      · replace e := zd_pos b3 e
        refine zk_lvs (lv' := [(0, .ref (S.1 68)), (1, .int x1), (2, .int x2), (3, .int x3), (5, .int y0)]) [1, 2, 3, 4, 0] rfl ?_
        exact zb_Mo_timers_130 C hR h x1 x2 x3 y0 (x2 + 3) e
      · replace e := zd_neg b3 e
        refine zk_aload_n C kd_Mo_timers_120 rfl 1 rfl rfl ?_
        refine zk_iload_n C kd_Mo_timers_121 rfl 3 rfl rfl ?_
        refine zk_iload C kd_Mo_timers_122 0 rfl rfl ?_
        obtain ⟨v5, c4, e⟩ := zd_b e
        refine zs_callV (k := 68) (rn := { frames := 0, cells := 0, slots := 0, locals := 0 }) (As := [.int x2, .int y0]) (rest := [.int (x2 + 3), .ref (S.1 114)]) C (zc_Mo_grown h x2 y0 c4) ku_Mo_grown kw2764 kv_Mo_grown rfl ⟨by decide, by decide⟩ ⟨by decide, by decide⟩ rfl rfl rfl (Nat.le_of_ble_eq_true rfl) kd_Mo_timers_124 rfl (c1 := 0) (s1 := 0) rfl rfl (fun v w hp => ?_)
        obtain ⟨rfl, rfl⟩ := hp
        refine zk_stk (r' := [.int v5, .int (x2 + 3), .ref (S.1 114)]) rfl ?_
        refine zk_goto (tgt := 131) C kd_Mo_timers_127 (by decide) ?_
        refine zk_lvs (lv' := [(0, .ref (S.1 68)), (1, .int x1), (2, .int x2), (3, .int x3), (5, .int y0)]) [1, 2, 3, 4, 0] rfl ?_
        exact zb_Mo_timers_131 C hR h x1 x2 x3 y0 v5 (x2 + 3) e
  replace e := zd_neg b1 e
  by_cases b6 : x1 = 1
  · replace e := zd_pos b6 e
    refine zk_tableIn (tgt := 164) C kd_Mo_timers_59 (by rw [b6]; decide) (by rw [b6]; decide) (by rw [b6]; rfl) (by decide) ?_
    refine zk_iload_n C kd_Mo_timers_164 rfl 4 rfl rfl ?_
    refine zk_if_ne (tgt := 187) C kd_Mo_timers_165 (by decide) rfl (fun b7 => ?_) (fun b7 => ?_)
    · replace e := zd_neg b7 e
      refine zk_lvs (lv' := [(0, .ref (S.1 68)), (1, .int x1), (2, .int x2), (3, .int x3), (4, .int x4), (5, .int y0)]) [1, 2, 3, 4, 5, 0] rfl ?_
      exact zb_Mo_timers_187 C hR h x1 x2 x3 x4 y0 e
    · replace e := zd_pos b7 e
      refine zk_iload C kd_Mo_timers_168 5 rfl rfl ?_
      refine zk_if_ne (tgt := 187) C kd_Mo_timers_170 (by decide) rfl (fun b8 => ?_) (fun b8 => ?_)
      · replace e := zd_neg b8 e
        refine zk_lvs (lv' := [(0, .ref (S.1 68)), (1, .int x1), (2, .int x2), (3, .int x3), (4, .int x4), (5, .int y0)]) [1, 2, 3, 4, 5, 0] rfl ?_
        exact zb_Mo_timers_187 C hR h x1 x2 x3 x4 y0 e
      · replace e := zd_pos b8 e
        refine zk_aload_n C kd_Mo_timers_173 rfl 1 rfl rfl ?_
        refine zk_iload_n C kd_Mo_timers_174 rfl 3 rfl rfl ?_
        refine zk_iconst (v := 2) C kd_Mo_timers_175 (by decide) rfl ?_
        refine zk_iadd C kd_Mo_timers_176 rfl ?_
        obtain ⟨v10, c9, e⟩ := zd_b e
        refine zs_callV (k := 68) (rn := { frames := 0, cells := 0, slots := 0, locals := 0 }) (As := [.int (x2 + 2)]) (rest := []) C (zc_Mo_on h (x2 + 2) c9) ku_Mo_on kw2760 kv_Mo_on rfl ⟨by decide, by decide⟩ ⟨by decide, by decide⟩ rfl rfl rfl (Nat.le_of_ble_eq_true rfl) kd_Mo_timers_177 rfl (c1 := 0) (s1 := 0) rfl rfl (fun v w hp => ?_)
        obtain ⟨rfl, rfl, z11⟩ := hp
        refine zk_stk (r' := [.int v10]) rfl ?_
        refine zk_if_eq (tgt := 187) C kd_Mo_timers_180 (by decide) rfl (fun b12 => ?_) (fun b12 => ?_)
        · replace e := zd_pos b12 e
          refine zk_lvs (lv' := [(0, .ref (S.1 68)), (1, .int x1), (2, .int x2), (3, .int x3), (4, .int x4), (5, .int y0)]) [1, 2, 3, 4, 5, 0] rfl ?_
          exact zb_Mo_timers_187 C hR h x1 x2 x3 x4 y0 e
        · replace e := zd_neg b12 e
          refine zk_iconst (v := 1) C kd_Mo_timers_183 (by decide) rfl ?_
          refine zk_goto (tgt := 188) C kd_Mo_timers_184 (by decide) ?_
          refine zk_lvs (lv' := [(0, .ref (S.1 68)), (1, .int x1), (2, .int x2), (3, .int x3), (4, .int x4), (5, .int y0)]) [1, 2, 3, 4, 5, 0] rfl ?_
          exact zb_Mo_timers_188 C hR h x1 x2 x3 x4 y0 1 e
  replace e := zd_neg b6 e
  by_cases b13 : x1 = 2
  · replace e := zd_pos b13 e
    refine zk_tableIn (tgt := 281) C kd_Mo_timers_59 (by rw [b13]; decide) (by rw [b13]; decide) (by rw [b13]; rfl) (by decide) ?_
    refine zk_aload_n C kd_Mo_timers_281 rfl 1 rfl rfl ?_
    refine zk_iload_n C kd_Mo_timers_282 rfl 3 rfl rfl ?_
    refine zk_iconst (v := 2) C kd_Mo_timers_283 (by decide) rfl ?_
    refine zk_iadd C kd_Mo_timers_284 rfl ?_
    obtain ⟨v15, c14, e⟩ := zd_b e
    refine zs_callV (k := 68) (rn := { frames := 0, cells := 0, slots := 0, locals := 0 }) (As := [.int (x2 + 2)]) (rest := []) C (zc_Mo_on h (x2 + 2) c14) ku_Mo_on kw2760 kv_Mo_on rfl ⟨by decide, by decide⟩ ⟨by decide, by decide⟩ rfl rfl rfl (Nat.le_of_ble_eq_true rfl) kd_Mo_timers_285 rfl (c1 := 0) (s1 := 0) rfl rfl (fun v w hp => ?_)
    obtain ⟨rfl, rfl, z16⟩ := hp
    refine zk_stk (r' := [.int v15]) rfl ?_
    refine zk_if_eq (tgt := 327) C kd_Mo_timers_288 (by decide) rfl (fun b17 => ?_) (fun b17 => ?_)
    · replace e := zd_pos b17 e
      refine zk_lvs (lv' := [(0, .ref (S.1 68)), (1, .int x1), (2, .int x2), (3, .int x3), (4, .int x4), (5, .int y0)]) [1, 2, 3, 4, 5, 0] rfl ?_
      exact zb_Mo_timers_327 C hR h x1 x2 x3 x4 y0 e
    · replace e := zd_neg b17 e
      refine zk_aload_n C kd_Mo_timers_291 rfl 1 rfl rfl ?_
      refine zs_get (v := .ref (S.1 114)) C 68 72 rfl rfl rfl rfl ki_Mo (by decide) kw1755 kd_Mo_timers_292 rfl ?_
      refine zk_iload_n C kd_Mo_timers_295 rfl 3 rfl rfl ?_
      refine zk_iconst (v := 3) C kd_Mo_timers_296 (by decide) rfl ?_
      refine zk_iadd C kd_Mo_timers_297 rfl ?_
      refine zk_aload_n C kd_Mo_timers_298 rfl 1 rfl rfl ?_
      refine zk_iload_n C kd_Mo_timers_299 rfl 3 rfl rfl ?_
      refine zk_iload C kd_Mo_timers_300 0 rfl rfl ?_
      obtain ⟨v19, c18, e⟩ := zd_b e
      refine zs_callV (k := 68) (rn := { frames := 0, cells := 0, slots := 0, locals := 0 }) (As := [.int x2, .int y0]) (rest := [.int (x2 + 3), .ref (S.1 114)]) C (zc_Mo_grown h x2 y0 c18) ku_Mo_grown kw2764 kv_Mo_grown rfl ⟨by decide, by decide⟩ ⟨by decide, by decide⟩ rfl rfl rfl (Nat.le_of_ble_eq_true rfl) kd_Mo_timers_302 rfl (c1 := 0) (s1 := 0) rfl rfl (fun v w hp => ?_)
      obtain ⟨rfl, rfl⟩ := hp
      refine zk_stk (r' := [.int v19, .int (x2 + 3), .ref (S.1 114)]) rfl ?_
      obtain ⟨q20, e⟩ := zd_g e
      refine zs_iast C 114 rfl (zd_vp q20) kd_Mo_timers_305 rfl ?_
      refine zk_aload_n C kd_Mo_timers_306 rfl 1 rfl rfl ?_
      refine zs_get (v := .ref (S.1 114)) C 68 72 rfl rfl rfl rfl ki_Mo (by decide) kw1755 kd_Mo_timers_307 rfl ?_
      refine zk_iload_n C kd_Mo_timers_310 rfl 3 rfl rfl ?_
      refine zk_iconst (v := 3) C kd_Mo_timers_311 (by decide) rfl ?_
      refine zk_iadd C kd_Mo_timers_312 rfl ?_
      refine zs_iald C 114 rfl (zd_vp q20) kd_Mo_timers_313 rfl ?_
      refine zk_stk (r' := [.int v19]) (by simp only [zd_mm, zd_ll]) ?_
      refine zk_iload C kd_Mo_timers_314 0 rfl rfl ?_
      refine zk_icmp_lt (tgt := 327) C kd_Mo_timers_316 (by decide) rfl (fun b21 => ?_) (fun b21 => ?_)
      · replace e := zd_pos b21 e
        refine zk_lvs (lv' := [(0, .ref (S.1 68)), (1, .int x1), (2, .int x2), (3, .int x3), (4, .int x4), (5, .int y0)]) [1, 2, 3, 4, 5, 0] rfl ?_
        exact zb_Mo_timers_327 C hR (zs_uM h 114 (x2 + 3).toNatClampNeg v19) x1 x2 x3 x4 y0 e
      · replace e := zd_neg b21 e
        refine zk_aload_n C kd_Mo_timers_319 rfl 1 rfl rfl ?_
        refine zk_iload_n C kd_Mo_timers_320 rfl 3 rfl rfl ?_
        refine zk_iconst (v := 2) C kd_Mo_timers_321 (by decide) rfl ?_
        refine zk_iadd C kd_Mo_timers_322 rfl ?_
        refine zk_iconst (v := 0) C kd_Mo_timers_323 (by decide) rfl ?_
        obtain ⟨h23, c22, e⟩ := zd_b e
        refine zs_callV (k := 68) (rn := { frames := 0, cells := 0, slots := 0, locals := 0 }) (As := [.int (x2 + 2), .int 0]) (rest := []) C (zc_Mo_turn (zs_uM h 114 (x2 + 3).toNatClampNeg v19) (x2 + 2) 0 c22) ku_Mo_turn kw2768 kv_Mo_turn rfl ⟨by decide, by decide⟩ ⟨by decide, by decide⟩ rfl rfl rfl (Nat.le_of_ble_eq_true rfl) kd_Mo_timers_324 rfl (c1 := 0) (s1 := 0) rfl rfl (fun v w hp => ?_)
        obtain ⟨rfl, rfl⟩ := hp
        refine zk_stk (r' := []) rfl ?_
        refine zk_lvs (lv' := [(0, .ref (S.1 68)), (1, .int x1), (2, .int x2), (3, .int x3), (4, .int x4), (5, .int y0)]) [1, 2, 3, 4, 5, 0] rfl ?_
        exact zb_Mo_timers_327 C hR h23 x1 x2 x3 x4 y0 e
  replace e := zd_neg b13 e
  by_cases b24 : x1 = 3
  · replace e := zd_pos b24 e
    refine zk_tableIn (tgt := 379) C kd_Mo_timers_59 (by rw [b24]; decide) (by rw [b24]; decide) (by rw [b24]; rfl) (by decide) ?_
    refine zk_aload_n C kd_Mo_timers_379 rfl 1 rfl rfl ?_
    refine zs_get (v := .ref (S.1 114)) C 68 72 rfl rfl rfl rfl ki_Mo (by decide) kw1755 kd_Mo_timers_380 rfl ?_
    refine zk_iload_n C kd_Mo_timers_383 rfl 3 rfl rfl ?_
    refine zk_iconst (v := 4) C kd_Mo_timers_384 (by decide) rfl ?_
    refine zk_iadd C kd_Mo_timers_385 rfl ?_
    refine zk_aload_n C kd_Mo_timers_386 rfl 1 rfl rfl ?_
    refine zk_iload_n C kd_Mo_timers_387 rfl 3 rfl rfl ?_
    refine zk_iconst (v := 1) C kd_Mo_timers_388 (by decide) rfl ?_
    refine zk_iadd C kd_Mo_timers_389 rfl ?_
    obtain ⟨v26, c25, e⟩ := zd_b e
    refine zs_callV (k := 68) (rn := { frames := 0, cells := 0, slots := 0, locals := 0 }) (As := [.int (x2 + 1)]) (rest := [.int (x2 + 4), .ref (S.1 114)]) C (zc_Mo_on h (x2 + 1) c25) ku_Mo_on kw2760 kv_Mo_on rfl ⟨by decide, by decide⟩ ⟨by decide, by decide⟩ rfl rfl rfl (Nat.le_of_ble_eq_true rfl) kd_Mo_timers_390 rfl (c1 := 0) (s1 := 0) rfl rfl (fun v w hp => ?_)
    obtain ⟨rfl, rfl, z27⟩ := hp
    refine zk_stk (r' := [.int v26, .int (x2 + 4), .ref (S.1 114)]) rfl ?_
    refine zk_if_eq (tgt := 400) C kd_Mo_timers_393 (by decide) rfl (fun b28 => ?_) (fun b28 => ?_)
    · replace e := zd_pos b28 e
      refine zk_aload_n C kd_Mo_timers_400 rfl 1 rfl rfl ?_
      refine zs_get (v := .ref (S.1 114)) C 68 72 rfl rfl rfl rfl ki_Mo (by decide) kw1755 kd_Mo_timers_401 rfl ?_
      refine zk_iload_n C kd_Mo_timers_404 rfl 3 rfl rfl ?_
      refine zk_iconst (v := 4) C kd_Mo_timers_405 (by decide) rfl ?_
      refine zk_iadd C kd_Mo_timers_406 rfl ?_
      obtain ⟨q29, e⟩ := zd_g e
      refine zs_iald C 114 rfl (zd_vp q29) kd_Mo_timers_407 rfl ?_
      refine zk_iload_n C kd_Mo_timers_408 rfl 4 rfl rfl ?_
      refine zk_if_eq (tgt := 435) C kd_Mo_timers_409 (by decide) rfl (fun b30 => ?_) (fun b30 => ?_)
      · replace e := zd_pos b30 e
        refine zk_lvs (lv' := [(0, .ref (S.1 68)), (1, .int x1), (2, .int x2), (3, .int x3)]) [1, 2, 3, 4] rfl ?_
        exact zb_Mo_timers_435 C hR h x1 x2 x3 (h.2.1 114 (x2 + 4).toNatClampNeg) (x2 + 4) e
      · replace e := zd_neg b30 e
        refine zk_iload C kd_Mo_timers_412 5 rfl rfl ?_
        refine zk_if_ne (tgt := 435) C kd_Mo_timers_414 (by decide) rfl (fun b31 => ?_) (fun b31 => ?_)
        · replace e := zd_neg b31 e
          refine zk_lvs (lv' := [(0, .ref (S.1 68)), (1, .int x1), (2, .int x2), (3, .int x3)]) [1, 2, 3, 4] rfl ?_
          exact zb_Mo_timers_435 C hR h x1 x2 x3 (h.2.1 114 (x2 + 4).toNatClampNeg) (x2 + 4) e
        · replace e := zd_pos b31 e
          refine zk_aload_n C kd_Mo_timers_417 rfl 1 rfl rfl ?_
          refine zs_get (v := .ref (S.1 114)) C 68 72 rfl rfl rfl rfl ki_Mo (by decide) kw1755 kd_Mo_timers_418 rfl ?_
          refine zk_iload_n C kd_Mo_timers_421 rfl 3 rfl rfl ?_
          refine zk_iconst (v := 4) C kd_Mo_timers_422 (by decide) rfl ?_
          refine zk_iadd C kd_Mo_timers_423 rfl ?_
          refine zs_iald C 114 rfl (zd_vp q29) kd_Mo_timers_424 rfl ?_
          refine zk_sipush (v := 32767) C kd_Mo_timers_425 (by decide) rfl ?_
          refine zk_icmp_ge (tgt := 435) C kd_Mo_timers_428 (by decide) rfl (fun b32 => ?_) (fun b32 => ?_)
          · replace e := zd_pos b32 e
            refine zk_lvs (lv' := [(0, .ref (S.1 68)), (1, .int x1), (2, .int x2), (3, .int x3)]) [1, 2, 3, 4] rfl ?_
            exact zb_Mo_timers_435 C hR h x1 x2 x3 (h.2.1 114 (x2 + 4).toNatClampNeg) (x2 + 4) e
          · replace e := zd_neg b32 e
            refine zk_iconst (v := 1) C kd_Mo_timers_431 (by decide) rfl ?_
            refine zk_goto (tgt := 436) C kd_Mo_timers_432 (by decide) ?_
            refine zk_lvs (lv' := [(0, .ref (S.1 68)), (1, .int x1), (2, .int x2), (3, .int x3)]) [1, 2, 3, 4] rfl ?_
            exact zb_Mo_timers_436 C hR h x1 x2 x3 1 (h.2.1 114 (x2 + 4).toNatClampNeg) (x2 + 4) e
    · replace e := zd_neg b28 e
      refine zk_iconst (v := 0) C kd_Mo_timers_396 (by decide) rfl ?_
      refine zk_goto (tgt := 437) C kd_Mo_timers_397 (by decide) ?_
      refine zk_lvs (lv' := [(0, .ref (S.1 68)), (1, .int x1), (2, .int x2), (3, .int x3)]) [1, 2, 3, 4] rfl ?_
      exact zb_Mo_timers_437 C hR h x1 x2 x3 0 (x2 + 4) e
  replace e := zd_neg b24 e
  by_cases b33 : x1 = 4
  · replace e := zd_pos b33 e
    refine zk_tableIn (tgt := 472) C kd_Mo_timers_59 (by rw [b33]; decide) (by rw [b33]; decide) (by rw [b33]; rfl) (by decide) ?_
    refine zk_aload_n C kd_Mo_timers_472 rfl 1 rfl rfl ?_
    refine zs_get (v := .ref (S.1 114)) C 68 72 rfl rfl rfl rfl ki_Mo (by decide) kw1755 kd_Mo_timers_473 rfl ?_
    refine zk_iload_n C kd_Mo_timers_476 rfl 3 rfl rfl ?_
    refine zk_iconst (v := 4) C kd_Mo_timers_477 (by decide) rfl ?_
    refine zk_iadd C kd_Mo_timers_478 rfl ?_
    refine zk_aload_n C kd_Mo_timers_479 rfl 1 rfl rfl ?_
    refine zk_iload_n C kd_Mo_timers_480 rfl 3 rfl rfl ?_
    refine zk_iconst (v := 1) C kd_Mo_timers_481 (by decide) rfl ?_
    refine zk_iadd C kd_Mo_timers_482 rfl ?_
    obtain ⟨v35, c34, e⟩ := zd_b e
    refine zs_callV (k := 68) (rn := { frames := 0, cells := 0, slots := 0, locals := 0 }) (As := [.int (x2 + 1)]) (rest := [.int (x2 + 4), .ref (S.1 114)]) C (zc_Mo_on h (x2 + 1) c34) ku_Mo_on kw2760 kv_Mo_on rfl ⟨by decide, by decide⟩ ⟨by decide, by decide⟩ rfl rfl rfl (Nat.le_of_ble_eq_true rfl) kd_Mo_timers_483 rfl (c1 := 0) (s1 := 0) rfl rfl (fun v w hp => ?_)
    obtain ⟨rfl, rfl, z36⟩ := hp
    refine zk_stk (r' := [.int v35, .int (x2 + 4), .ref (S.1 114)]) rfl ?_
    refine zk_if_eq (tgt := 500) C kd_Mo_timers_486 (by decide) rfl (fun b37 => ?_) (fun b37 => ?_)
    · replace e := zd_pos b37 e
      refine zk_aload_n C kd_Mo_timers_500 rfl 1 rfl rfl ?_
      refine zs_get (v := .ref (S.1 114)) C 68 72 rfl rfl rfl rfl ki_Mo (by decide) kw1755 kd_Mo_timers_501 rfl ?_
      refine zk_iload_n C kd_Mo_timers_504 rfl 3 rfl rfl ?_
      refine zk_iconst (v := 4) C kd_Mo_timers_505 (by decide) rfl ?_
      refine zk_iadd C kd_Mo_timers_506 rfl ?_
      obtain ⟨q38, e⟩ := zd_g e
      refine zs_iald C 114 rfl (zd_vp q38) kd_Mo_timers_507 rfl ?_
      refine zk_iload_n C kd_Mo_timers_508 rfl 4 rfl rfl ?_
      refine zk_if_eq (tgt := 535) C kd_Mo_timers_509 (by decide) rfl (fun b39 => ?_) (fun b39 => ?_)
      · replace e := zd_pos b39 e
        refine zk_lvs (lv' := [(0, .ref (S.1 68)), (1, .int x1), (2, .int x2), (3, .int x3)]) [1, 2, 3, 4] rfl ?_
        exact zb_Mo_timers_535 C hR h x1 x2 x3 (h.2.1 114 (x2 + 4).toNatClampNeg) (x2 + 4) e
      · replace e := zd_neg b39 e
        refine zk_iload C kd_Mo_timers_512 5 rfl rfl ?_
        refine zk_if_ne (tgt := 535) C kd_Mo_timers_514 (by decide) rfl (fun b40 => ?_) (fun b40 => ?_)
        · replace e := zd_neg b40 e
          refine zk_lvs (lv' := [(0, .ref (S.1 68)), (1, .int x1), (2, .int x2), (3, .int x3)]) [1, 2, 3, 4] rfl ?_
          exact zb_Mo_timers_535 C hR h x1 x2 x3 (h.2.1 114 (x2 + 4).toNatClampNeg) (x2 + 4) e
        · replace e := zd_pos b40 e
          refine zk_aload_n C kd_Mo_timers_517 rfl 1 rfl rfl ?_
          refine zs_get (v := .ref (S.1 114)) C 68 72 rfl rfl rfl rfl ki_Mo (by decide) kw1755 kd_Mo_timers_518 rfl ?_
          refine zk_iload_n C kd_Mo_timers_521 rfl 3 rfl rfl ?_
          refine zk_iconst (v := 4) C kd_Mo_timers_522 (by decide) rfl ?_
          refine zk_iadd C kd_Mo_timers_523 rfl ?_
          refine zs_iald C 114 rfl (zd_vp q38) kd_Mo_timers_524 rfl ?_
          refine zk_sipush (v := (-32768)) C kd_Mo_timers_525 (by decide) rfl ?_
          refine zk_icmp_le (tgt := 535) C kd_Mo_timers_528 (by decide) rfl (fun b41 => ?_) (fun b41 => ?_)
          · replace e := zd_pos b41 e
            refine zk_lvs (lv' := [(0, .ref (S.1 68)), (1, .int x1), (2, .int x2), (3, .int x3)]) [1, 2, 3, 4] rfl ?_
            exact zb_Mo_timers_535 C hR h x1 x2 x3 (h.2.1 114 (x2 + 4).toNatClampNeg) (x2 + 4) e
          · replace e := zd_neg b41 e
            refine zk_iconst (v := 1) C kd_Mo_timers_531 (by decide) rfl ?_
            refine zk_goto (tgt := 536) C kd_Mo_timers_532 (by decide) ?_
            refine zk_lvs (lv' := [(0, .ref (S.1 68)), (1, .int x1), (2, .int x2), (3, .int x3)]) [1, 2, 3, 4] rfl ?_
            exact zb_Mo_timers_536 C hR h x1 x2 x3 1 (h.2.1 114 (x2 + 4).toNatClampNeg) (x2 + 4) e
    · replace e := zd_neg b37 e
      refine zk_aload_n C kd_Mo_timers_489 rfl 1 rfl rfl ?_
      refine zs_get (v := .ref (S.1 114)) C 68 72 rfl rfl rfl rfl ki_Mo (by decide) kw1755 kd_Mo_timers_490 rfl ?_
      refine zk_iload_n C kd_Mo_timers_493 rfl 3 rfl rfl ?_
      refine zk_iconst (v := 2) C kd_Mo_timers_494 (by decide) rfl ?_
      refine zk_iadd C kd_Mo_timers_495 rfl ?_
      obtain ⟨q42, e⟩ := zd_g e
      refine zs_iald C 114 rfl (zd_vp q42) kd_Mo_timers_496 rfl ?_
      refine zk_goto (tgt := 537) C kd_Mo_timers_497 (by decide) ?_
      refine zk_lvs (lv' := [(0, .ref (S.1 68)), (1, .int x1), (2, .int x2), (3, .int x3)]) [1, 2, 3, 4] rfl ?_
      exact zb_Mo_timers_537 C hR h x1 x2 x3 (h.2.1 114 (x2 + 2).toNatClampNeg) (x2 + 4) e
  replace e := zd_neg b33 e
  by_cases b43 : x1 = 5
  · replace e := zd_pos b43 e
    refine zk_tableIn (tgt := 564) C kd_Mo_timers_59 (by rw [b43]; decide) (by rw [b43]; decide) (by rw [b43]; rfl) (by decide) ?_
    refine zk_aload_n C kd_Mo_timers_564 rfl 1 rfl rfl ?_
    refine zk_iload_n C kd_Mo_timers_565 rfl 3 rfl rfl ?_
    refine zk_iconst (v := 1) C kd_Mo_timers_566 (by decide) rfl ?_
    refine zk_iadd C kd_Mo_timers_567 rfl ?_
    refine zk_iload_n C kd_Mo_timers_568 rfl 4 rfl rfl ?_
    refine zk_if_eq (tgt := 581) C kd_Mo_timers_569 (by decide) rfl (fun b44 => ?_) (fun b44 => ?_)
    · replace e := zd_pos b44 e
      refine zk_lvs (lv' := [(0, .ref (S.1 68)), (1, .int x1), (2, .int x2), (3, .int x3)]) [1, 2, 3, 4] rfl ?_
      exact zb_Mo_timers_581 C hR h x1 x2 x3 (x2 + 1) e
    · replace e := zd_neg b44 e
      refine zk_iload C kd_Mo_timers_572 5 rfl rfl ?_
      refine zk_if_ne (tgt := 581) C kd_Mo_timers_574 (by decide) rfl (fun b45 => ?_) (fun b45 => ?_)
      · replace e := zd_neg b45 e
        refine zk_lvs (lv' := [(0, .ref (S.1 68)), (1, .int x1), (2, .int x2), (3, .int x3)]) [1, 2, 3, 4] rfl ?_
        exact zb_Mo_timers_581 C hR h x1 x2 x3 (x2 + 1) e
      · replace e := zd_pos b45 e
        refine zk_iconst (v := 1) C kd_Mo_timers_577 (by decide) rfl ?_
        refine zk_goto (tgt := 582) C kd_Mo_timers_578 (by decide) ?_
        refine zk_lvs (lv' := [(0, .ref (S.1 68)), (1, .int x1), (2, .int x2), (3, .int x3)]) [1, 2, 3, 4] rfl ?_
        exact zb_Mo_timers_582 C hR h x1 x2 x3 1 (x2 + 1) e
  replace e := zd_neg b43 e
  by_cases b46 : x1 = 6
  · replace e := zd_pos b46 e
    refine zk_tableIn (tgt := 588) C kd_Mo_timers_59 (by rw [b46]; decide) (by rw [b46]; decide) (by rw [b46]; rfl) (by decide) ?_
    refine zk_aload_n C kd_Mo_timers_588 rfl 1 rfl rfl ?_
    refine zk_iload_n C kd_Mo_timers_589 rfl 3 rfl rfl ?_
    refine zk_iconst (v := 1) C kd_Mo_timers_590 (by decide) rfl ?_
    refine zk_iadd C kd_Mo_timers_591 rfl ?_
    refine zk_iload_n C kd_Mo_timers_592 rfl 4 rfl rfl ?_
    refine zk_if_ne (tgt := 605) C kd_Mo_timers_593 (by decide) rfl (fun b47 => ?_) (fun b47 => ?_)
    · replace e := zd_neg b47 e
      refine zk_lvs (lv' := [(0, .ref (S.1 68)), (1, .int x1), (2, .int x2), (3, .int x3)]) [1, 2, 3, 4] rfl ?_
      exact zb_Mo_timers_605 C hR h x1 x2 x3 (x2 + 1) e
    · replace e := zd_pos b47 e
      refine zk_iload C kd_Mo_timers_596 5 rfl rfl ?_
      refine zk_if_eq (tgt := 605) C kd_Mo_timers_598 (by decide) rfl (fun b48 => ?_) (fun b48 => ?_)
      · replace e := zd_pos b48 e
        refine zk_lvs (lv' := [(0, .ref (S.1 68)), (1, .int x1), (2, .int x2), (3, .int x3)]) [1, 2, 3, 4] rfl ?_
        exact zb_Mo_timers_605 C hR h x1 x2 x3 (x2 + 1) e
      · replace e := zd_neg b48 e
        refine zk_iconst (v := 1) C kd_Mo_timers_601 (by decide) rfl ?_
        refine zk_goto (tgt := 606) C kd_Mo_timers_602 (by decide) ?_
        refine zk_lvs (lv' := [(0, .ref (S.1 68)), (1, .int x1), (2, .int x2), (3, .int x3)]) [1, 2, 3, 4] rfl ?_
        exact zb_Mo_timers_606 C hR h x1 x2 x3 1 (x2 + 1) e
  replace e := zd_neg b46 e
  by_cases b49 : x1 = 7
  · replace e := zd_pos b49 e
    refine zk_tableIn (tgt := 612) C kd_Mo_timers_59 (by rw [b49]; decide) (by rw [b49]; decide) (by rw [b49]; rfl) (by decide) ?_
    refine zk_aload_n C kd_Mo_timers_612 rfl 1 rfl rfl ?_
    refine zk_iload_n C kd_Mo_timers_613 rfl 3 rfl rfl ?_
    refine zk_iconst (v := 2) C kd_Mo_timers_614 (by decide) rfl ?_
    refine zk_iadd C kd_Mo_timers_615 rfl ?_
    refine zk_iload_n C kd_Mo_timers_616 rfl 4 rfl rfl ?_
    refine zk_if_ne (tgt := 640) C kd_Mo_timers_617 (by decide) rfl (fun b50 => ?_) (fun b50 => ?_)
    · replace e := zd_neg b50 e
      refine zk_lvs (lv' := [(0, .ref (S.1 68)), (1, .int x1), (2, .int x2), (3, .int x3)]) [1, 2, 3, 4] rfl ?_
      exact zb_Mo_timers_640 C hR h x1 x2 x3 (x2 + 2) e
    · replace e := zd_pos b50 e
      refine zk_aload_n C kd_Mo_timers_620 rfl 1 rfl rfl ?_
      refine zk_iload_n C kd_Mo_timers_621 rfl 3 rfl rfl ?_
      refine zk_iconst (v := 1) C kd_Mo_timers_622 (by decide) rfl ?_
      refine zk_iadd C kd_Mo_timers_623 rfl ?_
      obtain ⟨v52, c51, e⟩ := zd_b e
      refine zs_callV (k := 68) (rn := { frames := 0, cells := 0, slots := 0, locals := 0 }) (As := [.int (x2 + 1)]) (rest := [.int (x2 + 2), .ref (S.1 68)]) C (zc_Mo_on h (x2 + 1) c51) ku_Mo_on kw2760 kv_Mo_on rfl ⟨by decide, by decide⟩ ⟨by decide, by decide⟩ rfl rfl rfl (Nat.le_of_ble_eq_true rfl) kd_Mo_timers_624 rfl (c1 := 0) (s1 := 0) rfl rfl (fun v w hp => ?_)
      obtain ⟨rfl, rfl, z53⟩ := hp
      refine zk_stk (r' := [.int v52, .int (x2 + 2), .ref (S.1 68)]) rfl ?_
      refine zk_if_ne (tgt := 644) C kd_Mo_timers_627 (by decide) rfl (fun b54 => ?_) (fun b54 => ?_)
      · replace e := zd_neg b54 e
        refine zk_lvs (lv' := [(0, .ref (S.1 68)), (1, .int x1), (2, .int x2), (3, .int x3)]) [1, 2, 3, 4] rfl ?_
        exact zb_Mo_timers_644 C hR h x1 x2 x3 (x2 + 2) e
      · replace e := zd_pos b54 e
        refine zk_aload_n C kd_Mo_timers_630 rfl 1 rfl rfl ?_
        refine zk_iload_n C kd_Mo_timers_631 rfl 3 rfl rfl ?_
        refine zk_iconst (v := 2) C kd_Mo_timers_632 (by decide) rfl ?_
        refine zk_iadd C kd_Mo_timers_633 rfl ?_
        obtain ⟨v56, c55, e⟩ := zd_b e
        refine zs_callV (k := 68) (rn := { frames := 0, cells := 0, slots := 0, locals := 0 }) (As := [.int (x2 + 2)]) (rest := [.int (x2 + 2), .ref (S.1 68)]) C (zc_Mo_on h (x2 + 2) c55) ku_Mo_on kw2760 kv_Mo_on rfl ⟨by decide, by decide⟩ ⟨by decide, by decide⟩ rfl rfl rfl (Nat.le_of_ble_eq_true rfl) kd_Mo_timers_634 rfl (c1 := 0) (s1 := 0) rfl rfl (fun v w hp => ?_)
        obtain ⟨rfl, rfl, z57⟩ := hp
        refine zk_stk (r' := [.int v56, .int (x2 + 2), .ref (S.1 68)]) rfl ?_
        refine zk_if_eq (tgt := 644) C kd_Mo_timers_637 (by decide) rfl (fun b58 => ?_) (fun b58 => ?_)
        · replace e := zd_pos b58 e
          refine zk_lvs (lv' := [(0, .ref (S.1 68)), (1, .int x1), (2, .int x2), (3, .int x3)]) [1, 2, 3, 4] rfl ?_
          exact zb_Mo_timers_644 C hR h x1 x2 x3 (x2 + 2) e
        · replace e := zd_neg b58 e
          refine zk_lvs (lv' := [(0, .ref (S.1 68)), (1, .int x1), (2, .int x2), (3, .int x3)]) [1, 2, 3, 4] rfl ?_
          exact zb_Mo_timers_640 C hR h x1 x2 x3 (x2 + 2) e
  replace e := zd_neg b49 e
  refine zk_tableOut (tgt := 651) C kd_Mo_timers_59 (by have := lv_neT b1 (a := 0) (by decide); have := lv_neT b6 (a := 1) (by decide); have := lv_neT b13 (a := 2) (by decide); have := lv_neT b24 (a := 3) (by decide); have := lv_neT b33 (a := 4) (by decide); have := lv_neT b43 (a := 5) (by decide); have := lv_neT b46 (a := 6) (by decide); have := lv_neT b49 (a := 7) (by decide); omega) (by decide) ?_
  refine zk_aload_n C kd_Mo_timers_651 rfl 1 rfl rfl ?_
  refine zk_iload_n C kd_Mo_timers_652 rfl 3 rfl rfl ?_
  refine zk_iconst (v := 2) C kd_Mo_timers_653 (by decide) rfl ?_
  refine zk_iadd C kd_Mo_timers_654 rfl ?_
  refine zk_aload_n C kd_Mo_timers_655 rfl 1 rfl rfl ?_
  refine zk_iload_n C kd_Mo_timers_656 rfl 3 rfl rfl ?_
  refine zk_iconst (v := 1) C kd_Mo_timers_657 (by decide) rfl ?_
  refine zk_iadd C kd_Mo_timers_658 rfl ?_
  obtain ⟨v60, c59, e⟩ := zd_b e
  refine zs_callV (k := 68) (rn := { frames := 0, cells := 0, slots := 0, locals := 0 }) (As := [.int (x2 + 1)]) (rest := [.int (x2 + 2), .ref (S.1 68)]) C (zc_Mo_on h (x2 + 1) c59) ku_Mo_on kw2760 kv_Mo_on rfl ⟨by decide, by decide⟩ ⟨by decide, by decide⟩ rfl rfl rfl (Nat.le_of_ble_eq_true rfl) kd_Mo_timers_659 rfl (c1 := 0) (s1 := 0) rfl rfl (fun v w hp => ?_)
  obtain ⟨rfl, rfl, z61⟩ := hp
  refine zk_stk (r' := [.int v60, .int (x2 + 2), .ref (S.1 68)]) rfl ?_
  refine zk_if_ne (tgt := 683) C kd_Mo_timers_662 (by decide) rfl (fun b62 => ?_) (fun b62 => ?_)
  · replace e := zd_neg b62 e
    refine zk_lvs (lv' := [(0, .ref (S.1 68)), (1, .int x1), (2, .int x2), (3, .int x3)]) [1, 2, 3, 4] rfl ?_
    exact zb_Mo_timers_683 C hR h x1 x2 x3 (x2 + 2) e
  · replace e := zd_pos b62 e
    refine zk_iload_n C kd_Mo_timers_665 rfl 4 rfl rfl ?_
    refine zk_if_ne (tgt := 679) C kd_Mo_timers_666 (by decide) rfl (fun b63 => ?_) (fun b63 => ?_)
    · replace e := zd_neg b63 e
      refine zk_lvs (lv' := [(0, .ref (S.1 68)), (1, .int x1), (2, .int x2), (3, .int x3)]) [1, 2, 3, 4] rfl ?_
      exact zb_Mo_timers_679 C hR h x1 x2 x3 (x2 + 2) e
    · replace e := zd_pos b63 e
      refine zk_aload_n C kd_Mo_timers_669 rfl 1 rfl rfl ?_
      refine zk_iload_n C kd_Mo_timers_670 rfl 3 rfl rfl ?_
      refine zk_iconst (v := 2) C kd_Mo_timers_671 (by decide) rfl ?_
      refine zk_iadd C kd_Mo_timers_672 rfl ?_
      obtain ⟨v65, c64, e⟩ := zd_b e
      refine zs_callV (k := 68) (rn := { frames := 0, cells := 0, slots := 0, locals := 0 }) (As := [.int (x2 + 2)]) (rest := [.int (x2 + 2), .ref (S.1 68)]) C (zc_Mo_on h (x2 + 2) c64) ku_Mo_on kw2760 kv_Mo_on rfl ⟨by decide, by decide⟩ ⟨by decide, by decide⟩ rfl rfl rfl (Nat.le_of_ble_eq_true rfl) kd_Mo_timers_673 rfl (c1 := 0) (s1 := 0) rfl rfl (fun v w hp => ?_)
      obtain ⟨rfl, rfl, z66⟩ := hp
      refine zk_stk (r' := [.int v65, .int (x2 + 2), .ref (S.1 68)]) rfl ?_
      refine zk_if_eq (tgt := 683) C kd_Mo_timers_676 (by decide) rfl (fun b67 => ?_) (fun b67 => ?_)
      · replace e := zd_pos b67 e
        refine zk_lvs (lv' := [(0, .ref (S.1 68)), (1, .int x1), (2, .int x2), (3, .int x3)]) [1, 2, 3, 4] rfl ?_
        exact zb_Mo_timers_683 C hR h x1 x2 x3 (x2 + 2) e
      · replace e := zd_neg b67 e
        refine zk_lvs (lv' := [(0, .ref (S.1 68)), (1, .int x1), (2, .int x2), (3, .int x3)]) [1, 2, 3, 4] rfl ?_
        exact zb_Mo_timers_679 C hR h x1 x2 x3 (x2 + 2) e
set_option maxHeartbeats 4000000 in
set_option maxRecDepth 100000 in
theorem zb_Mo_timers_27 {X : zkj_T} {S : zs_T} {P : ze_T} {l : Launch} {D : va_G} {sz0 : Nat} {rh : zs_H} (C : zk_C X km_Mo_timers (zs_G S l D sz0) { frames := 1, cells := 0, slots := 0, locals := 24 } (ze_E P)) (hR : zkj_R X (zd_PV S rh) (none)) (h : zs_H) (x1 : Int32) (x2 : Int32) (x3 : Int32) (y0 : Int32) (y1 : Int32) (e : f_Mo_timers_27 h x1 x2 x3 y0 y1 = some rh) : zk_Ab X (zs_W S h) 0 0 27 [(0, .ref (S.1 68)), (1, .int x1), (2, .int x2), (3, .int x3)] [.int y0, .int y1, .ref (S.1 68)] := by
  unfold f_Mo_timers_27 at e
  refine zk_iadd C kd_Mo_timers_27 rfl ?_
  obtain ⟨v2, c1, e⟩ := zd_b e
  refine zs_callV (k := 68) (rn := { frames := 0, cells := 0, slots := 0, locals := 0 }) (As := [.int (y1 + y0)]) (rest := []) C (zc_Mo_on h (y1 + y0) c1) ku_Mo_on kw2760 kv_Mo_on rfl ⟨by decide, by decide⟩ ⟨by decide, by decide⟩ rfl rfl rfl (Nat.le_of_ble_eq_true rfl) kd_Mo_timers_28 rfl (c1 := 0) (s1 := 0) rfl rfl (fun v w hp => ?_)
  obtain ⟨rfl, rfl, z3⟩ := hp
  refine zk_stk (r' := [.int v2]) rfl ?_
  refine zk_istore (lv' := [(4, _), (0, _), (1, _), (2, _), (3, _)]) C kd_Mo_timers_31 (by decide) rfl rfl ?_
  refine zk_aload_n C kd_Mo_timers_33 rfl 1 rfl rfl ?_
  refine zs_get (v := .ref (S.1 114)) C 68 72 rfl rfl rfl rfl ki_Mo (by decide) kw1755 kd_Mo_timers_34 rfl ?_
  refine zk_iload_n C kd_Mo_timers_37 rfl 3 rfl rfl ?_
  refine zk_iconst (v := 1) C kd_Mo_timers_38 (by decide) rfl ?_
  refine zk_iadd C kd_Mo_timers_39 rfl ?_
  obtain ⟨q4, e⟩ := zd_g e
  refine zs_iald C 114 rfl (zd_vp q4) kd_Mo_timers_40 rfl ?_
  refine zk_if_le (tgt := 55) C kd_Mo_timers_41 (by decide) rfl (fun b5 => ?_) (fun b5 => ?_)
  · replace e := zd_pos b5 e
    refine zk_iconst (v := 0) C kd_Mo_timers_55 (by decide) rfl ?_
    refine zk_lvs (lv' := [(0, .ref (S.1 68)), (1, .int x1), (2, .int x2), (3, .int x3), (4, .int v2)]) [1, 2, 3, 4, 0] rfl ?_
    exact zb_Mo_timers_56 C hR h x1 x2 x3 v2 0 e
  · replace e := zd_neg b5 e
    refine zk_aload_n C kd_Mo_timers_44 rfl 1 rfl rfl ?_
    refine zs_get (v := .ref (S.1 114)) C 68 72 rfl rfl rfl rfl ki_Mo (by decide) kw1755 kd_Mo_timers_45 rfl ?_
    refine zk_iload_n C kd_Mo_timers_48 rfl 3 rfl rfl ?_
    refine zk_iconst (v := 1) C kd_Mo_timers_49 (by decide) rfl ?_
    refine zk_iadd C kd_Mo_timers_50 rfl ?_
    refine zs_iald C 114 rfl (zd_vp q4) kd_Mo_timers_51 rfl ?_
    refine zk_goto (tgt := 56) C kd_Mo_timers_52 (by decide) ?_
    refine zk_lvs (lv' := [(0, .ref (S.1 68)), (1, .int x1), (2, .int x2), (3, .int x3), (4, .int v2)]) [1, 2, 3, 4, 0] rfl ?_
    exact zb_Mo_timers_56 C hR h x1 x2 x3 v2 (h.2.1 114 (x2 + 1).toNatClampNeg) e
set_option maxHeartbeats 4000000 in
set_option maxRecDepth 100000 in
theorem zc_Mo_timers {l : Launch} {D : va_G} {sz0 : Nat} {S : zs_T} {P : ze_T} (h : zs_H) (x1 : Int32) (x2 : Int32) {rh : zs_H} (e : f_Mo_timers h x1 x2 = some rh) : zk_Sp (zs_G S l D sz0) (ze_E P) km_Mo_timers { frames := 1, cells := 0, slots := 0, locals := 24 } [.ref (S.1 68), .int x1, .int x2] (zs_W S h) (zd_PV S rh) := by
  refine zk_met ku_Mo_timers (Nat.le_of_ble_eq_true rfl) (ze_Em P) ?_
  intro X C hR
  refine zk_lvs (lv' := [(0, .ref (S.1 68)), (1, .int x1), (2, .int x2)]) [0, 1, 2] rfl ?_
  unfold f_Mo_timers at e
  refine zk_aload_n C kd_Mo_timers_0 rfl 0 rfl rfl ?_
  refine zk_iload_n C kd_Mo_timers_1 rfl 2 rfl rfl ?_
  obtain ⟨v2, c1, e⟩ := zd_b e
  refine zs_callV (k := 68) (rn := { frames := 0, cells := 0, slots := 0, locals := 0 }) (As := [.int x2]) (rest := []) C (zc_Mo_on h x2 c1) ku_Mo_on kw2760 kv_Mo_on rfl ⟨by decide, by decide⟩ ⟨by decide, by decide⟩ rfl rfl rfl (Nat.le_of_ble_eq_true rfl) kd_Mo_timers_2 rfl (c1 := 0) (s1 := 0) rfl rfl (fun v w hp => ?_)
  obtain ⟨rfl, rfl, z3⟩ := hp
  refine zk_stk (r' := [.int v2]) rfl ?_
  refine zk_istore_n (lv' := [(3, _), (0, _), (1, _), (2, _)]) C kd_Mo_timers_5 rfl (by decide) rfl rfl ?_
  refine zk_aload_n C kd_Mo_timers_6 rfl 1 rfl rfl ?_
  refine zk_iload_n C kd_Mo_timers_7 rfl 3 rfl rfl ?_
  refine zk_iload_n C kd_Mo_timers_8 rfl 2 rfl rfl ?_
  refine zk_iconst (v := 3) C kd_Mo_timers_9 (by decide) rfl ?_
  refine zk_icmp_ge (tgt := 17) C kd_Mo_timers_10 (by decide) rfl (fun b4 => ?_) (fun b4 => ?_)
  · replace e := zd_pos b4 e
    refine zk_iload_n C kd_Mo_timers_17 rfl 2 rfl rfl ?_
    refine zk_iconst (v := 5) C kd_Mo_timers_18 (by decide) rfl ?_
    refine zk_icmp_ge (tgt := 26) C kd_Mo_timers_19 (by decide) rfl (fun b5 => ?_) (fun b5 => ?_)
    · replace e := zd_pos b5 e
      refine zk_iconst (v := 2) C kd_Mo_timers_26 (by decide) rfl ?_
      refine zk_lvs (lv' := [(0, .ref (S.1 68)), (1, .int x1), (2, .int x2), (3, .int v2)]) [1, 2, 3, 0] rfl ?_
      exact zb_Mo_timers_27 C hR h x1 x2 v2 2 x2 e
    · replace e := zd_neg b5 e
      refine zk_iconst (v := 5) C kd_Mo_timers_22 (by decide) rfl ?_
      refine zk_goto (tgt := 27) C kd_Mo_timers_23 (by decide) ?_
      refine zk_lvs (lv' := [(0, .ref (S.1 68)), (1, .int x1), (2, .int x2), (3, .int v2)]) [1, 2, 3, 0] rfl ?_
      exact zb_Mo_timers_27 C hR h x1 x2 v2 5 x2 e
  · replace e := zd_neg b4 e
    refine zk_iconst (v := 4) C kd_Mo_timers_13 (by decide) rfl ?_
    refine zk_goto (tgt := 27) C kd_Mo_timers_14 (by decide) ?_
    refine zk_lvs (lv' := [(0, .ref (S.1 68)), (1, .int x1), (2, .int x2), (3, .int v2)]) [1, 2, 3, 0] rfl ?_
    exact zb_Mo_timers_27 C hR h x1 x2 v2 4 x2 e
set_option maxHeartbeats 4000000 in
set_option maxRecDepth 100000 in
theorem zc_Mo_lay {l : Launch} {D : va_G} {sz0 : Nat} {S : zs_T} {P : ze_T} (h : zs_H) (x1 : Int32) {rh : zs_H} (e : f_Mo_lay h x1 = some rh) : zk_Sp (zs_G S l D sz0) (ze_E P) km_Mo_lay { frames := 0, cells := 0, slots := 0, locals := 0 } [.ref (S.1 68), .int x1] (zs_W S h) (zd_PV S rh) := by
  refine zk_met ku_Mo_lay (Nat.le_of_ble_eq_true rfl) (ze_Em P) ?_
  intro X C hR
  refine zk_lvs (lv' := [(0, .ref (S.1 68)), (1, .int x1)]) [0, 1] rfl ?_
  unfold f_Mo_lay at e
  refine zk_aload_n C kd_Mo_lay_0 rfl 0 rfl rfl ?_
  refine zs_get (v := .ref (S.1 115)) C 68 77 rfl rfl rfl rfl ki_Mo (by decide) kw1760 kd_Mo_lay_1 rfl ?_
  refine zk_aload_n C kd_Mo_lay_4 rfl 0 rfl rfl ?_
  refine zs_get (v := .int (h.1 68 76)) C 68 76 rfl rfl rfl rfl ki_Mo (by decide) kw1759 kd_Mo_lay_5 rfl ?_
  refine zk_iload_n C kd_Mo_lay_8 rfl 1 rfl rfl ?_
  obtain ⟨q1, e⟩ := zd_g e
  refine zs_iast C 115 rfl (zd_vp q1) kd_Mo_lay_9 rfl ?_
  refine zk_aload_n C kd_Mo_lay_10 rfl 0 rfl rfl ?_
  refine zk_dup C kd_Mo_lay_11 rfl rfl ?_
  refine zs_get (v := .int (h.1 68 76)) C 68 76 rfl rfl rfl rfl ki_Mo (by decide) kw1759 kd_Mo_lay_12 rfl ?_
  refine zk_iconst (v := 1) C kd_Mo_lay_15 (by decide) rfl ?_
  refine zk_iadd C kd_Mo_lay_16 rfl ?_
  refine zs_put (ty := .int) C 68 76 ((h.1 68 76) + 1) rfl rfl rfl rfl ki_Mo ky_Mo ko_Mo kn_Mo (by decide) kw1759 rfl rfl rfl rfl (by decide) kd_Mo_lay_17 rfl ?_
  exact zk_vret C hR kd_Mo_lay_20 rfl rfl (zd_rV e)
set_option maxHeartbeats 4000000 in
set_option maxRecDepth 100000 in
theorem zb_Mo_one_77 {X : zkj_T} {S : zs_T} {P : ze_T} {l : Launch} {D : va_G} {sz0 : Nat} {rv : Int32} {h : zs_H} (C : zk_C X km_Mo_one (zs_G S l D sz0) { frames := 1, cells := 0, slots := 0, locals := 21 } (ze_E P)) (hR : zkj_R X (zd_PI S rv h) (some .int)) (y0 : Int32) (e : f_Mo_one_77 y0 = rv) : zk_Ab X (zs_W S h) 0 0 77 [] [.int y0] := by
  unfold f_Mo_one_77 at e
  refine zk_callS (rn := { frames := 0, cells := 0, slots := 0, locals := 0 }) (As := [.int y0]) (rest := []) C (zc_Mo_narrow h y0) ku_Mo_narrow kw2567 ks_Mo_narrow rfl ⟨by decide, by decide⟩ ⟨by decide, by decide⟩ rfl (Nat.le_of_ble_eq_true rfl) kd_Mo_one_77 rfl (c1 := 0) (s1 := 0) rfl rfl (fun v w hp => ?_)
  obtain ⟨rfl, rfl⟩ := hp
  refine zk_stk (r' := [.int (f_Mo_narrow y0)]) rfl ?_
  exact zk_iret C hR kd_Mo_one_80 rfl rfl (zd_rIT e)
set_option maxHeartbeats 4000000 in
set_option maxRecDepth 100000 in
theorem zc_Mo_one {l : Launch} {D : va_G} {sz0 : Nat} {S : zs_T} {P : ze_T} (h : zs_H) (x0 : Int32) (x1 : Int32) : zk_Sp (zs_G S l D sz0) (ze_E P) km_Mo_one { frames := 1, cells := 0, slots := 0, locals := 21 } [.int x0, .int x1] (zs_W S h) (zd_PI S (f_Mo_one x0 x1) h) := by
  obtain ⟨rv, e⟩ : ∃ rv, f_Mo_one x0 x1 = rv := ⟨_, rfl⟩
  rw [e]
  refine zk_met ku_Mo_one (Nat.le_of_ble_eq_true rfl) (ze_Em P) ?_
  intro X C hR
  refine zk_lvs (lv' := [(0, .int x0), (1, .int x1)]) [0, 1] rfl ?_
  unfold f_Mo_one at e
  refine zk_iload_n C kd_Mo_one_0 rfl 0 rfl rfl ?_
  by_cases b1 : x0 = 0
  · replace e := zd_pos b1 e
    refine zk_tableIn (tgt := 44) C kd_Mo_one_1 (by rw [b1]; decide) (by rw [b1]; decide) (by rw [b1]; rfl) (by decide) ?_
    refine zk_iload_n C kd_Mo_one_44 rfl 1 rfl rfl ?_
    refine zk_ineg C kd_Mo_one_45 rfl ?_
    refine zk_callS (rn := { frames := 0, cells := 0, slots := 0, locals := 0 }) (As := [.int (-x1)]) (rest := []) C (zc_Mo_narrow h (-x1)) ku_Mo_narrow kw2567 ks_Mo_narrow rfl ⟨by decide, by decide⟩ ⟨by decide, by decide⟩ rfl (Nat.le_of_ble_eq_true rfl) kd_Mo_one_46 rfl (c1 := 0) (s1 := 0) rfl rfl (fun v w hp => ?_)
    obtain ⟨rfl, rfl⟩ := hp
    refine zk_stk (r' := [.int (f_Mo_narrow (-x1))]) rfl ?_
    exact zk_iret C hR kd_Mo_one_49 rfl rfl (zd_rIT e)
  replace e := zd_neg b1 e
  by_cases b2 : x0 = 1
  · replace e := zd_pos b2 e
    refine zk_tableIn (tgt := 50) C kd_Mo_one_1 (by rw [b2]; decide) (by rw [b2]; decide) (by rw [b2]; rfl) (by decide) ?_
    refine zk_iload_n C kd_Mo_one_50 rfl 1 rfl rfl ?_
    refine zk_ineg C kd_Mo_one_51 rfl ?_
    exact zk_iret C hR kd_Mo_one_52 rfl rfl (zd_rIT e)
  replace e := zd_neg b2 e
  by_cases b3 : x0 = 2
  · replace e := zd_pos b3 e
    refine zk_tableIn (tgt := 53) C kd_Mo_one_1 (by rw [b3]; decide) (by rw [b3]; decide) (by rw [b3]; rfl) (by decide) ?_
    refine zk_iload_n C kd_Mo_one_53 rfl 1 rfl rfl ?_
    refine zk_if_ne (tgt := 61) C kd_Mo_one_54 (by decide) rfl (fun b4 => ?_) (fun b4 => ?_)
    · replace e := zd_neg b4 e
      refine zk_iconst (v := 0) C kd_Mo_one_61 (by decide) rfl ?_
      exact zk_iret C hR kd_Mo_one_62 rfl rfl (zd_rIT e)
    · replace e := zd_pos b4 e
      refine zk_iconst (v := 1) C kd_Mo_one_57 (by decide) rfl ?_
      refine zk_goto (tgt := 62) C kd_Mo_one_58 (by decide) ?_
      exact zk_iret C hR kd_Mo_one_62 rfl rfl (zd_rIT e)
  replace e := zd_neg b3 e
  by_cases b5 : x0 = 3
  · replace e := zd_pos b5 e
    refine zk_tableIn (tgt := 63) C kd_Mo_one_1 (by rw [b5]; decide) (by rw [b5]; decide) (by rw [b5]; rfl) (by decide) ?_
    refine zk_iconst (v := (-1)) C kd_Mo_one_63 (by decide) rfl ?_
    refine zk_iload_n C kd_Mo_one_64 rfl 1 rfl rfl ?_
    refine zk_isub C kd_Mo_one_65 rfl ?_
    exact zk_iret C hR kd_Mo_one_66 rfl rfl (zd_rIT e)
  replace e := zd_neg b5 e
  by_cases b6 : x0 = 4
  · replace e := zd_pos b6 e
    refine zk_tableIn (tgt := 67) C kd_Mo_one_1 (by rw [b6]; decide) (by rw [b6]; decide) (by rw [b6]; rfl) (by decide) ?_
    refine zk_iload_n C kd_Mo_one_67 rfl 1 rfl rfl ?_
    refine zk_if_ge (tgt := 76) C kd_Mo_one_68 (by decide) rfl (fun b7 => ?_) (fun b7 => ?_)
    · replace e := zd_pos b7 e
      refine zk_iload_n C kd_Mo_one_76 rfl 1 rfl rfl ?_
      refine zk_lvs (lv' := []) [] rfl ?_
      exact zb_Mo_one_77 C hR x1 e
    · replace e := zd_neg b7 e
      refine zk_iload_n C kd_Mo_one_71 rfl 1 rfl rfl ?_
      refine zk_ineg C kd_Mo_one_72 rfl ?_
      refine zk_goto (tgt := 77) C kd_Mo_one_73 (by decide) ?_
      refine zk_lvs (lv' := []) [] rfl ?_
      exact zb_Mo_one_77 C hR (-x1) e
  replace e := zd_neg b6 e
  by_cases b8 : x0 = 5
  · replace e := zd_pos b8 e
    refine zk_tableIn (tgt := 81) C kd_Mo_one_1 (by rw [b8]; decide) (by rw [b8]; decide) (by rw [b8]; rfl) (by decide) ?_
    refine zk_iload_n C kd_Mo_one_81 rfl 1 rfl rfl ?_
    refine zk_if_ge (tgt := 90) C kd_Mo_one_82 (by decide) rfl (fun b9 => ?_) (fun b9 => ?_)
    · replace e := zd_pos b9 e
      refine zk_iload_n C kd_Mo_one_90 rfl 1 rfl rfl ?_
      exact zk_iret C hR kd_Mo_one_91 rfl rfl (zd_rIT e)
    · replace e := zd_neg b9 e
      refine zk_iload_n C kd_Mo_one_85 rfl 1 rfl rfl ?_
      refine zk_ineg C kd_Mo_one_86 rfl ?_
      refine zk_goto (tgt := 91) C kd_Mo_one_87 (by decide) ?_
      exact zk_iret C hR kd_Mo_one_91 rfl rfl (zd_rIT e)
  replace e := zd_neg b8 e
  by_cases b10 : x0 = 6
  · replace e := zd_pos b10 e
    refine zk_tableIn (tgt := 92) C kd_Mo_one_1 (by rw [b10]; decide) (by rw [b10]; decide) (by rw [b10]; rfl) (by decide) ?_
    refine zk_iload_n C kd_Mo_one_92 rfl 1 rfl rfl ?_
    refine zk_callS (rn := { frames := 0, cells := 0, slots := 0, locals := 0 }) (As := [.int x1]) (rest := []) C (zc_Mo_narrow h x1) ku_Mo_narrow kw2567 ks_Mo_narrow rfl ⟨by decide, by decide⟩ ⟨by decide, by decide⟩ rfl (Nat.le_of_ble_eq_true rfl) kd_Mo_one_93 rfl (c1 := 0) (s1 := 0) rfl rfl (fun v w hp => ?_)
    obtain ⟨rfl, rfl⟩ := hp
    refine zk_stk (r' := [.int (f_Mo_narrow x1)]) rfl ?_
    exact zk_iret C hR kd_Mo_one_96 rfl rfl (zd_rIT e)
  replace e := zd_neg b10 e
  refine zk_tableOut (tgt := 97) C kd_Mo_one_1 (by have := lv_neT b1 (a := 0) (by decide); have := lv_neT b2 (a := 1) (by decide); have := lv_neT b3 (a := 2) (by decide); have := lv_neT b5 (a := 3) (by decide); have := lv_neT b6 (a := 4) (by decide); have := lv_neT b8 (a := 5) (by decide); have := lv_neT b10 (a := 6) (by decide); omega) (by decide) ?_
  refine zk_iload_n C kd_Mo_one_97 rfl 1 rfl rfl ?_
  refine zk_if_ne (tgt := 105) C kd_Mo_one_98 (by decide) rfl (fun b11 => ?_) (fun b11 => ?_)
  · replace e := zd_neg b11 e
    refine zk_iconst (v := 1) C kd_Mo_one_105 (by decide) rfl ?_
    exact zk_iret C hR kd_Mo_one_106 rfl rfl (zd_rIT e)
  · replace e := zd_pos b11 e
    refine zk_iconst (v := 0) C kd_Mo_one_101 (by decide) rfl ?_
    refine zk_goto (tgt := 106) C kd_Mo_one_102 (by decide) ?_
    exact zk_iret C hR kd_Mo_one_106 rfl rfl (zd_rIT e)
set_option maxHeartbeats 4000000 in
set_option maxRecDepth 100000 in
theorem zc_Mo_two {l : Launch} {D : va_G} {sz0 : Nat} {S : zs_T} {P : ze_T} (h : zs_H) (x0 : Int32) (x1 : Int32) (x2 : Int32) {rv : Int32} (e : f_Mo_two x0 x1 x2 = some rv) : zk_Sp (zs_G S l D sz0) (ze_E P) km_Mo_two { frames := 1, cells := 0, slots := 0, locals := 21 } [.int x0, .int x1, .int x2] (zs_W S h) (zd_PI S rv h) := by
  refine zk_met ku_Mo_two (Nat.le_of_ble_eq_true rfl) (ze_Em P) ?_
  intro X C hR
  refine zk_lvs (lv' := [(0, .int x0), (1, .int x1), (2, .int x2)]) [0, 1, 2] rfl ?_
  unfold f_Mo_two at e
  refine zk_iload_n C kd_Mo_two_0 rfl 0 rfl rfl ?_
  by_cases b1 : x0 = 0
  · replace e := zd_pos b1 e
    refine zk_tableIn (tgt := 112) C kd_Mo_two_1 (by rw [b1]; decide) (by rw [b1]; decide) (by rw [b1]; rfl) (by decide) ?_
    refine zk_iload_n C kd_Mo_two_112 rfl 1 rfl rfl ?_
    refine zk_iload_n C kd_Mo_two_113 rfl 2 rfl rfl ?_
    refine zk_iadd C kd_Mo_two_114 rfl ?_
    refine zk_callS (rn := { frames := 0, cells := 0, slots := 0, locals := 0 }) (As := [.int (x1 + x2)]) (rest := []) C (zc_Mo_narrow h (x1 + x2)) ku_Mo_narrow kw2567 ks_Mo_narrow rfl ⟨by decide, by decide⟩ ⟨by decide, by decide⟩ rfl (Nat.le_of_ble_eq_true rfl) kd_Mo_two_115 rfl (c1 := 0) (s1 := 0) rfl rfl (fun v w hp => ?_)
    obtain ⟨rfl, rfl⟩ := hp
    refine zk_stk (r' := [.int (f_Mo_narrow (x1 + x2))]) rfl ?_
    exact zk_iret C hR kd_Mo_two_118 rfl rfl (zd_rIO e)
  replace e := zd_neg b1 e
  by_cases b2 : x0 = 1
  · replace e := zd_pos b2 e
    refine zk_tableIn (tgt := 119) C kd_Mo_two_1 (by rw [b2]; decide) (by rw [b2]; decide) (by rw [b2]; rfl) (by decide) ?_
    refine zk_iload_n C kd_Mo_two_119 rfl 1 rfl rfl ?_
    refine zk_iload_n C kd_Mo_two_120 rfl 2 rfl rfl ?_
    refine zk_isub C kd_Mo_two_121 rfl ?_
    refine zk_callS (rn := { frames := 0, cells := 0, slots := 0, locals := 0 }) (As := [.int (x1 - x2)]) (rest := []) C (zc_Mo_narrow h (x1 - x2)) ku_Mo_narrow kw2567 ks_Mo_narrow rfl ⟨by decide, by decide⟩ ⟨by decide, by decide⟩ rfl (Nat.le_of_ble_eq_true rfl) kd_Mo_two_122 rfl (c1 := 0) (s1 := 0) rfl rfl (fun v w hp => ?_)
    obtain ⟨rfl, rfl⟩ := hp
    refine zk_stk (r' := [.int (f_Mo_narrow (x1 - x2))]) rfl ?_
    exact zk_iret C hR kd_Mo_two_125 rfl rfl (zd_rIO e)
  replace e := zd_neg b2 e
  by_cases b3 : x0 = 2
  · replace e := zd_pos b3 e
    refine zk_tableIn (tgt := 126) C kd_Mo_two_1 (by rw [b3]; decide) (by rw [b3]; decide) (by rw [b3]; rfl) (by decide) ?_
    refine zk_iload_n C kd_Mo_two_126 rfl 1 rfl rfl ?_
    refine zk_iload_n C kd_Mo_two_127 rfl 2 rfl rfl ?_
    refine zk_imul C kd_Mo_two_128 rfl ?_
    refine zk_callS (rn := { frames := 0, cells := 0, slots := 0, locals := 0 }) (As := [.int (x1 * x2)]) (rest := []) C (zc_Mo_narrow h (x1 * x2)) ku_Mo_narrow kw2567 ks_Mo_narrow rfl ⟨by decide, by decide⟩ ⟨by decide, by decide⟩ rfl (Nat.le_of_ble_eq_true rfl) kd_Mo_two_129 rfl (c1 := 0) (s1 := 0) rfl rfl (fun v w hp => ?_)
    obtain ⟨rfl, rfl⟩ := hp
    refine zk_stk (r' := [.int (f_Mo_narrow (x1 * x2))]) rfl ?_
    exact zk_iret C hR kd_Mo_two_132 rfl rfl (zd_rIO e)
  replace e := zd_neg b3 e
  by_cases b4 : x0 = 3
  · replace e := zd_pos b4 e
    refine zk_tableIn (tgt := 133) C kd_Mo_two_1 (by rw [b4]; decide) (by rw [b4]; decide) (by rw [b4]; rfl) (by decide) ?_
    refine zk_iload_n C kd_Mo_two_133 rfl 1 rfl rfl ?_
    refine zk_iload_n C kd_Mo_two_134 rfl 2 rfl rfl ?_
    obtain ⟨q5, e⟩ := zd_gn e
    refine zk_idiv C kd_Mo_two_135 q5 rfl ?_
    refine zk_callS (rn := { frames := 0, cells := 0, slots := 0, locals := 0 }) (As := [.int (x1 / x2)]) (rest := []) C (zc_Mo_narrow h (x1 / x2)) ku_Mo_narrow kw2567 ks_Mo_narrow rfl ⟨by decide, by decide⟩ ⟨by decide, by decide⟩ rfl (Nat.le_of_ble_eq_true rfl) kd_Mo_two_136 rfl (c1 := 0) (s1 := 0) rfl rfl (fun v w hp => ?_)
    obtain ⟨rfl, rfl⟩ := hp
    refine zk_stk (r' := [.int (f_Mo_narrow (x1 / x2))]) rfl ?_
    exact zk_iret C hR kd_Mo_two_139 rfl rfl (zd_rIO e)
  replace e := zd_neg b4 e
  by_cases b6 : x0 = 4
  · replace e := zd_pos b6 e
    refine zk_tableIn (tgt := 140) C kd_Mo_two_1 (by rw [b6]; decide) (by rw [b6]; decide) (by rw [b6]; rfl) (by decide) ?_
    refine zk_iload_n C kd_Mo_two_140 rfl 1 rfl rfl ?_
    refine zk_iload_n C kd_Mo_two_141 rfl 2 rfl rfl ?_
    obtain ⟨q7, e⟩ := zd_gn e
    refine zk_irem C kd_Mo_two_142 q7 rfl ?_
    refine zk_callS (rn := { frames := 0, cells := 0, slots := 0, locals := 0 }) (As := [.int (x1 - x1 / x2 * x2)]) (rest := []) C (zc_Mo_narrow h (x1 - x1 / x2 * x2)) ku_Mo_narrow kw2567 ks_Mo_narrow rfl ⟨by decide, by decide⟩ ⟨by decide, by decide⟩ rfl (Nat.le_of_ble_eq_true rfl) kd_Mo_two_143 rfl (c1 := 0) (s1 := 0) rfl rfl (fun v w hp => ?_)
    obtain ⟨rfl, rfl⟩ := hp
    refine zk_stk (r' := [.int (f_Mo_narrow (x1 - x1 / x2 * x2))]) rfl ?_
    exact zk_iret C hR kd_Mo_two_146 rfl rfl (zd_rIO e)
  replace e := zd_neg b6 e
  by_cases b8 : x0 = 5
  · replace e := zd_pos b8 e
    refine zk_tableIn (tgt := 147) C kd_Mo_two_1 (by rw [b8]; decide) (by rw [b8]; decide) (by rw [b8]; rfl) (by decide) ?_
    refine zk_iload_n C kd_Mo_two_147 rfl 1 rfl rfl ?_
    refine zk_iload_n C kd_Mo_two_148 rfl 2 rfl rfl ?_
    refine zk_iadd C kd_Mo_two_149 rfl ?_
    exact zk_iret C hR kd_Mo_two_150 rfl rfl (zd_rIO e)
  replace e := zd_neg b8 e
  by_cases b9 : x0 = 6
  · replace e := zd_pos b9 e
    refine zk_tableIn (tgt := 151) C kd_Mo_two_1 (by rw [b9]; decide) (by rw [b9]; decide) (by rw [b9]; rfl) (by decide) ?_
    refine zk_iload_n C kd_Mo_two_151 rfl 1 rfl rfl ?_
    refine zk_iload_n C kd_Mo_two_152 rfl 2 rfl rfl ?_
    refine zk_isub C kd_Mo_two_153 rfl ?_
    exact zk_iret C hR kd_Mo_two_154 rfl rfl (zd_rIO e)
  replace e := zd_neg b9 e
  by_cases b10 : x0 = 7
  · replace e := zd_pos b10 e
    refine zk_tableIn (tgt := 155) C kd_Mo_two_1 (by rw [b10]; decide) (by rw [b10]; decide) (by rw [b10]; rfl) (by decide) ?_
    refine zk_iload_n C kd_Mo_two_155 rfl 1 rfl rfl ?_
    refine zk_iload_n C kd_Mo_two_156 rfl 2 rfl rfl ?_
    refine zk_imul C kd_Mo_two_157 rfl ?_
    exact zk_iret C hR kd_Mo_two_158 rfl rfl (zd_rIO e)
  replace e := zd_neg b10 e
  by_cases b11 : x0 = 8
  · replace e := zd_pos b11 e
    refine zk_tableIn (tgt := 159) C kd_Mo_two_1 (by rw [b11]; decide) (by rw [b11]; decide) (by rw [b11]; rfl) (by decide) ?_
    refine zk_iload_n C kd_Mo_two_159 rfl 1 rfl rfl ?_
    refine zk_iload_n C kd_Mo_two_160 rfl 2 rfl rfl ?_
    obtain ⟨q12, e⟩ := zd_gn e
    refine zk_idiv C kd_Mo_two_161 q12 rfl ?_
    exact zk_iret C hR kd_Mo_two_162 rfl rfl (zd_rIO e)
  replace e := zd_neg b11 e
  by_cases b13 : x0 = 9
  · replace e := zd_pos b13 e
    refine zk_tableIn (tgt := 163) C kd_Mo_two_1 (by rw [b13]; decide) (by rw [b13]; decide) (by rw [b13]; rfl) (by decide) ?_
    refine zk_iload_n C kd_Mo_two_163 rfl 1 rfl rfl ?_
    refine zk_iload_n C kd_Mo_two_164 rfl 2 rfl rfl ?_
    obtain ⟨q14, e⟩ := zd_gn e
    refine zk_irem C kd_Mo_two_165 q14 rfl ?_
    exact zk_iret C hR kd_Mo_two_166 rfl rfl (zd_rIO e)
  replace e := zd_neg b13 e
  by_cases b15 : x0 = 10
  · replace e := zd_pos b15 e
    refine zk_tableIn (tgt := 167) C kd_Mo_two_1 (by rw [b15]; decide) (by rw [b15]; decide) (by rw [b15]; rfl) (by decide) ?_
    refine zk_iload_n C kd_Mo_two_167 rfl 1 rfl rfl ?_
    refine zk_iload_n C kd_Mo_two_168 rfl 2 rfl rfl ?_
    refine zk_iand C kd_Mo_two_169 rfl ?_
    exact zk_iret C hR kd_Mo_two_170 rfl rfl (zd_rIO e)
  replace e := zd_neg b15 e
  by_cases b16 : x0 = 11
  · replace e := zd_pos b16 e
    refine zk_tableIn (tgt := 171) C kd_Mo_two_1 (by rw [b16]; decide) (by rw [b16]; decide) (by rw [b16]; rfl) (by decide) ?_
    refine zk_iload_n C kd_Mo_two_171 rfl 1 rfl rfl ?_
    refine zk_iload_n C kd_Mo_two_172 rfl 2 rfl rfl ?_
    refine zk_ior C kd_Mo_two_173 rfl ?_
    exact zk_iret C hR kd_Mo_two_174 rfl rfl (zd_rIO e)
  replace e := zd_neg b16 e
  by_cases b17 : x0 = 12
  · replace e := zd_pos b17 e
    refine zk_tableIn (tgt := 175) C kd_Mo_two_1 (by rw [b17]; decide) (by rw [b17]; decide) (by rw [b17]; rfl) (by decide) ?_
    refine zk_iload_n C kd_Mo_two_175 rfl 1 rfl rfl ?_
    refine zk_iload_n C kd_Mo_two_176 rfl 2 rfl rfl ?_
    refine zk_ixor C kd_Mo_two_177 rfl ?_
    exact zk_iret C hR kd_Mo_two_178 rfl rfl (zd_rIO e)
  replace e := zd_neg b17 e
  by_cases b18 : x0 = 13
  · replace e := zd_pos b18 e
    refine zk_tableIn (tgt := 179) C kd_Mo_two_1 (by rw [b18]; decide) (by rw [b18]; decide) (by rw [b18]; rfl) (by decide) ?_
    refine zk_iload_n C kd_Mo_two_179 rfl 1 rfl rfl ?_
    refine zk_iload_n C kd_Mo_two_180 rfl 2 rfl rfl ?_
    refine zk_icmp_ne (tgt := 188) C kd_Mo_two_181 (by decide) rfl (fun b19 => ?_) (fun b19 => ?_)
    · replace e := zd_neg b19 e
      refine zk_iconst (v := 0) C kd_Mo_two_188 (by decide) rfl ?_
      exact zk_iret C hR kd_Mo_two_189 rfl rfl (zd_rIO e)
    · replace e := zd_pos b19 e
      refine zk_iconst (v := 1) C kd_Mo_two_184 (by decide) rfl ?_
      refine zk_goto (tgt := 189) C kd_Mo_two_185 (by decide) ?_
      exact zk_iret C hR kd_Mo_two_189 rfl rfl (zd_rIO e)
  replace e := zd_neg b18 e
  by_cases b20 : x0 = 14
  · replace e := zd_pos b20 e
    refine zk_tableIn (tgt := 190) C kd_Mo_two_1 (by rw [b20]; decide) (by rw [b20]; decide) (by rw [b20]; rfl) (by decide) ?_
    refine zk_iload_n C kd_Mo_two_190 rfl 1 rfl rfl ?_
    refine zk_iload_n C kd_Mo_two_191 rfl 2 rfl rfl ?_
    refine zk_icmp_eq (tgt := 199) C kd_Mo_two_192 (by decide) rfl (fun b21 => ?_) (fun b21 => ?_)
    · replace e := zd_pos b21 e
      refine zk_iconst (v := 0) C kd_Mo_two_199 (by decide) rfl ?_
      exact zk_iret C hR kd_Mo_two_200 rfl rfl (zd_rIO e)
    · replace e := zd_neg b21 e
      refine zk_iconst (v := 1) C kd_Mo_two_195 (by decide) rfl ?_
      refine zk_goto (tgt := 200) C kd_Mo_two_196 (by decide) ?_
      exact zk_iret C hR kd_Mo_two_200 rfl rfl (zd_rIO e)
  replace e := zd_neg b20 e
  by_cases b22 : x0 = 15
  · replace e := zd_pos b22 e
    refine zk_tableIn (tgt := 201) C kd_Mo_two_1 (by rw [b22]; decide) (by rw [b22]; decide) (by rw [b22]; rfl) (by decide) ?_
    refine zk_iload_n C kd_Mo_two_201 rfl 1 rfl rfl ?_
    refine zk_iload_n C kd_Mo_two_202 rfl 2 rfl rfl ?_
    refine zk_icmp_ge (tgt := 210) C kd_Mo_two_203 (by decide) rfl (fun b23 => ?_) (fun b23 => ?_)
    · replace e := zd_pos b23 e
      refine zk_iconst (v := 0) C kd_Mo_two_210 (by decide) rfl ?_
      exact zk_iret C hR kd_Mo_two_211 rfl rfl (zd_rIO e)
    · replace e := zd_neg b23 e
      refine zk_iconst (v := 1) C kd_Mo_two_206 (by decide) rfl ?_
      refine zk_goto (tgt := 211) C kd_Mo_two_207 (by decide) ?_
      exact zk_iret C hR kd_Mo_two_211 rfl rfl (zd_rIO e)
  replace e := zd_neg b22 e
  by_cases b24 : x0 = 16
  · replace e := zd_pos b24 e
    refine zk_tableIn (tgt := 212) C kd_Mo_two_1 (by rw [b24]; decide) (by rw [b24]; decide) (by rw [b24]; rfl) (by decide) ?_
    refine zk_iload_n C kd_Mo_two_212 rfl 1 rfl rfl ?_
    refine zk_iload_n C kd_Mo_two_213 rfl 2 rfl rfl ?_
    refine zk_icmp_le (tgt := 221) C kd_Mo_two_214 (by decide) rfl (fun b25 => ?_) (fun b25 => ?_)
    · replace e := zd_pos b25 e
      refine zk_iconst (v := 0) C kd_Mo_two_221 (by decide) rfl ?_
      exact zk_iret C hR kd_Mo_two_222 rfl rfl (zd_rIO e)
    · replace e := zd_neg b25 e
      refine zk_iconst (v := 1) C kd_Mo_two_217 (by decide) rfl ?_
      refine zk_goto (tgt := 222) C kd_Mo_two_218 (by decide) ?_
      exact zk_iret C hR kd_Mo_two_222 rfl rfl (zd_rIO e)
  replace e := zd_neg b24 e
  by_cases b26 : x0 = 17
  · replace e := zd_pos b26 e
    refine zk_tableIn (tgt := 223) C kd_Mo_two_1 (by rw [b26]; decide) (by rw [b26]; decide) (by rw [b26]; rfl) (by decide) ?_
    refine zk_iload_n C kd_Mo_two_223 rfl 1 rfl rfl ?_
    refine zk_iload_n C kd_Mo_two_224 rfl 2 rfl rfl ?_
    refine zk_icmp_gt (tgt := 232) C kd_Mo_two_225 (by decide) rfl (fun b27 => ?_) (fun b27 => ?_)
    · replace e := zd_pos b27 e
      refine zk_iconst (v := 0) C kd_Mo_two_232 (by decide) rfl ?_
      exact zk_iret C hR kd_Mo_two_233 rfl rfl (zd_rIO e)
    · replace e := zd_neg b27 e
      refine zk_iconst (v := 1) C kd_Mo_two_228 (by decide) rfl ?_
      refine zk_goto (tgt := 233) C kd_Mo_two_229 (by decide) ?_
      exact zk_iret C hR kd_Mo_two_233 rfl rfl (zd_rIO e)
  replace e := zd_neg b26 e
  by_cases b28 : x0 = 18
  · replace e := zd_pos b28 e
    refine zk_tableIn (tgt := 234) C kd_Mo_two_1 (by rw [b28]; decide) (by rw [b28]; decide) (by rw [b28]; rfl) (by decide) ?_
    refine zk_iload_n C kd_Mo_two_234 rfl 1 rfl rfl ?_
    refine zk_iload_n C kd_Mo_two_235 rfl 2 rfl rfl ?_
    refine zk_icmp_lt (tgt := 243) C kd_Mo_two_236 (by decide) rfl (fun b29 => ?_) (fun b29 => ?_)
    · replace e := zd_pos b29 e
      refine zk_iconst (v := 0) C kd_Mo_two_243 (by decide) rfl ?_
      exact zk_iret C hR kd_Mo_two_244 rfl rfl (zd_rIO e)
    · replace e := zd_neg b29 e
      refine zk_iconst (v := 1) C kd_Mo_two_239 (by decide) rfl ?_
      refine zk_goto (tgt := 244) C kd_Mo_two_240 (by decide) ?_
      exact zk_iret C hR kd_Mo_two_244 rfl rfl (zd_rIO e)
  replace e := zd_neg b28 e
  by_cases b30 : x0 = 19
  · replace e := zd_pos b30 e
    refine zk_tableIn (tgt := 245) C kd_Mo_two_1 (by rw [b30]; decide) (by rw [b30]; decide) (by rw [b30]; rfl) (by decide) ?_
    refine zk_iload_n C kd_Mo_two_245 rfl 2 rfl rfl ?_
    refine zk_if_lt (tgt := 255) C kd_Mo_two_246 (by decide) rfl (fun b31 => ?_) (fun b31 => ?_)
    · replace e := zd_pos b31 e
      refine zk_iconst (v := 0) C kd_Mo_two_255 (by decide) rfl ?_
      refine zk_goto (tgt := 265) C kd_Mo_two_256 (by decide) ?_
      exact zk_iret C hR kd_Mo_two_265 rfl rfl (zd_rIO e)
    · replace e := zd_neg b31 e
      refine zk_iload_n C kd_Mo_two_249 rfl 2 rfl rfl ?_
      refine zk_bipush (v := 15) C kd_Mo_two_250 (by decide) rfl ?_
      refine zk_icmp_le (tgt := 259) C kd_Mo_two_252 (by decide) rfl (fun b32 => ?_) (fun b32 => ?_)
      · replace e := zd_pos b32 e
        refine zk_iload_n C kd_Mo_two_259 rfl 1 rfl rfl ?_
        refine zk_iload_n C kd_Mo_two_260 rfl 2 rfl rfl ?_
        refine zk_ishl C kd_Mo_two_261 rfl ?_
        refine zk_callS (rn := { frames := 0, cells := 0, slots := 0, locals := 0 }) (As := [.int (x1 <<< (x2 &&& 31))]) (rest := []) C (zc_Mo_narrow h (x1 <<< (x2 &&& 31))) ku_Mo_narrow kw2567 ks_Mo_narrow rfl ⟨by decide, by decide⟩ ⟨by decide, by decide⟩ rfl (Nat.le_of_ble_eq_true rfl) kd_Mo_two_262 rfl (c1 := 0) (s1 := 0) rfl rfl (fun v w hp => ?_)
        obtain ⟨rfl, rfl⟩ := hp
        refine zk_stk (r' := [.int (f_Mo_narrow (x1 <<< (x2 &&& 31)))]) rfl ?_
        exact zk_iret C hR kd_Mo_two_265 rfl rfl (zd_rIO e)
      · replace e := zd_neg b32 e
        refine zk_iconst (v := 0) C kd_Mo_two_255 (by decide) rfl ?_
        refine zk_goto (tgt := 265) C kd_Mo_two_256 (by decide) ?_
        exact zk_iret C hR kd_Mo_two_265 rfl rfl (zd_rIO e)
  replace e := zd_neg b30 e
  by_cases b33 : x0 = 20
  · replace e := zd_pos b33 e
    refine zk_tableIn (tgt := 266) C kd_Mo_two_1 (by rw [b33]; decide) (by rw [b33]; decide) (by rw [b33]; rfl) (by decide) ?_
    refine zk_iload_n C kd_Mo_two_266 rfl 2 rfl rfl ?_
    refine zk_if_lt (tgt := 276) C kd_Mo_two_267 (by decide) rfl (fun b34 => ?_) (fun b34 => ?_)
    · replace e := zd_pos b34 e
      refine zk_iconst (v := 0) C kd_Mo_two_276 (by decide) rfl ?_
      refine zk_goto (tgt := 290) C kd_Mo_two_277 (by decide) ?_
      exact zk_iret C hR kd_Mo_two_290 rfl rfl (zd_rIO e)
    · replace e := zd_neg b34 e
      refine zk_iload_n C kd_Mo_two_270 rfl 2 rfl rfl ?_
      refine zk_bipush (v := 15) C kd_Mo_two_271 (by decide) rfl ?_
      refine zk_icmp_le (tgt := 280) C kd_Mo_two_273 (by decide) rfl (fun b35 => ?_) (fun b35 => ?_)
      · replace e := zd_pos b35 e
        refine zk_iload_n C kd_Mo_two_280 rfl 1 rfl rfl ?_
        refine zk_ldcw (v := 65535) C kw2570 kd_Mo_two_281 rfl ?_
        refine zk_iand C kd_Mo_two_284 rfl ?_
        refine zk_iload_n C kd_Mo_two_285 rfl 2 rfl rfl ?_
        refine zk_ishr C kd_Mo_two_286 rfl ?_
        refine zk_callS (rn := { frames := 0, cells := 0, slots := 0, locals := 0 }) (As := [.int ((x1 &&& 65535) >>> (x2 &&& 31))]) (rest := []) C (zc_Mo_narrow h ((x1 &&& 65535) >>> (x2 &&& 31))) ku_Mo_narrow kw2567 ks_Mo_narrow rfl ⟨by decide, by decide⟩ ⟨by decide, by decide⟩ rfl (Nat.le_of_ble_eq_true rfl) kd_Mo_two_287 rfl (c1 := 0) (s1 := 0) rfl rfl (fun v w hp => ?_)
        obtain ⟨rfl, rfl⟩ := hp
        refine zk_stk (r' := [.int (f_Mo_narrow ((x1 &&& 65535) >>> (x2 &&& 31)))]) rfl ?_
        exact zk_iret C hR kd_Mo_two_290 rfl rfl (zd_rIO e)
      · replace e := zd_neg b35 e
        refine zk_iconst (v := 0) C kd_Mo_two_276 (by decide) rfl ?_
        refine zk_goto (tgt := 290) C kd_Mo_two_277 (by decide) ?_
        exact zk_iret C hR kd_Mo_two_290 rfl rfl (zd_rIO e)
  replace e := zd_neg b33 e
  by_cases b36 : x0 = 21
  · replace e := zd_pos b36 e
    refine zk_tableIn (tgt := 291) C kd_Mo_two_1 (by rw [b36]; decide) (by rw [b36]; decide) (by rw [b36]; rfl) (by decide) ?_
    refine zk_iload_n C kd_Mo_two_291 rfl 2 rfl rfl ?_
    refine zk_if_lt (tgt := 301) C kd_Mo_two_292 (by decide) rfl (fun b37 => ?_) (fun b37 => ?_)
    · replace e := zd_pos b37 e
      refine zk_iconst (v := 0) C kd_Mo_two_301 (by decide) rfl ?_
      refine zk_goto (tgt := 308) C kd_Mo_two_302 (by decide) ?_
      exact zk_iret C hR kd_Mo_two_308 rfl rfl (zd_rIO e)
    · replace e := zd_neg b37 e
      refine zk_iload_n C kd_Mo_two_295 rfl 2 rfl rfl ?_
      refine zk_bipush (v := 31) C kd_Mo_two_296 (by decide) rfl ?_
      refine zk_icmp_le (tgt := 305) C kd_Mo_two_298 (by decide) rfl (fun b38 => ?_) (fun b38 => ?_)
      · replace e := zd_pos b38 e
        refine zk_iload_n C kd_Mo_two_305 rfl 1 rfl rfl ?_
        refine zk_iload_n C kd_Mo_two_306 rfl 2 rfl rfl ?_
        refine zk_ishl C kd_Mo_two_307 rfl ?_
        exact zk_iret C hR kd_Mo_two_308 rfl rfl (zd_rIO e)
      · replace e := zd_neg b38 e
        refine zk_iconst (v := 0) C kd_Mo_two_301 (by decide) rfl ?_
        refine zk_goto (tgt := 308) C kd_Mo_two_302 (by decide) ?_
        exact zk_iret C hR kd_Mo_two_308 rfl rfl (zd_rIO e)
  replace e := zd_neg b36 e
  by_cases b39 : x0 = 22
  · replace e := zd_pos b39 e
    refine zk_tableIn (tgt := 309) C kd_Mo_two_1 (by rw [b39]; decide) (by rw [b39]; decide) (by rw [b39]; rfl) (by decide) ?_
    refine zk_iload_n C kd_Mo_two_309 rfl 2 rfl rfl ?_
    refine zk_if_lt (tgt := 319) C kd_Mo_two_310 (by decide) rfl (fun b40 => ?_) (fun b40 => ?_)
    · replace e := zd_pos b40 e
      refine zk_iconst (v := 0) C kd_Mo_two_319 (by decide) rfl ?_
      refine zk_goto (tgt := 332) C kd_Mo_two_320 (by decide) ?_
      exact zk_iret C hR kd_Mo_two_332 rfl rfl (zd_rIO e)
    · replace e := zd_neg b40 e
      refine zk_iload_n C kd_Mo_two_313 rfl 2 rfl rfl ?_
      refine zk_bipush (v := 31) C kd_Mo_two_314 (by decide) rfl ?_
      refine zk_icmp_le (tgt := 323) C kd_Mo_two_316 (by decide) rfl (fun b41 => ?_) (fun b41 => ?_)
      · replace e := zd_pos b41 e
        refine zk_iload_n C kd_Mo_two_323 rfl 1 rfl rfl ?_
        refine zk_i2l C kd_Mo_two_324 rfl ?_
        refine zk_ldc2 (v := 4294967295) C kw2579 kd_Mo_two_325 rfl ?_
        refine zk_land C kd_Mo_two_328 rfl ?_
        refine zk_iload_n C kd_Mo_two_329 rfl 2 rfl rfl ?_
        refine zk_lshr C kd_Mo_two_330 rfl ?_
        refine zk_l2i C kd_Mo_two_331 rfl ?_
        exact zk_iret C hR kd_Mo_two_332 rfl rfl (zd_rIO e)
      · replace e := zd_neg b41 e
        refine zk_iconst (v := 0) C kd_Mo_two_319 (by decide) rfl ?_
        refine zk_goto (tgt := 332) C kd_Mo_two_320 (by decide) ?_
        exact zk_iret C hR kd_Mo_two_332 rfl rfl (zd_rIO e)
  replace e := zd_neg b39 e
  by_cases b42 : x0 = 23
  · replace e := zd_pos b42 e
    refine zk_tableIn (tgt := 333) C kd_Mo_two_1 (by rw [b42]; decide) (by rw [b42]; decide) (by rw [b42]; rfl) (by decide) ?_
    refine zk_iload_n C kd_Mo_two_333 rfl 1 rfl rfl ?_
    refine zk_iload_n C kd_Mo_two_334 rfl 2 rfl rfl ?_
    refine zk_icmp_ge (tgt := 342) C kd_Mo_two_335 (by decide) rfl (fun b43 => ?_) (fun b43 => ?_)
    · replace e := zd_pos b43 e
      refine zk_iload_n C kd_Mo_two_342 rfl 2 rfl rfl ?_
      exact zk_iret C hR kd_Mo_two_343 rfl rfl (zd_rIO e)
    · replace e := zd_neg b43 e
      refine zk_iload_n C kd_Mo_two_338 rfl 1 rfl rfl ?_
      refine zk_goto (tgt := 343) C kd_Mo_two_339 (by decide) ?_
      exact zk_iret C hR kd_Mo_two_343 rfl rfl (zd_rIO e)
  replace e := zd_neg b42 e
  refine zk_tableOut (tgt := 344) C kd_Mo_two_1 (by have := lv_neT b1 (a := 0) (by decide); have := lv_neT b2 (a := 1) (by decide); have := lv_neT b3 (a := 2) (by decide); have := lv_neT b4 (a := 3) (by decide); have := lv_neT b6 (a := 4) (by decide); have := lv_neT b8 (a := 5) (by decide); have := lv_neT b9 (a := 6) (by decide); have := lv_neT b10 (a := 7) (by decide); have := lv_neT b11 (a := 8) (by decide); have := lv_neT b13 (a := 9) (by decide); have := lv_neT b15 (a := 10) (by decide); have := lv_neT b16 (a := 11) (by decide); have := lv_neT b17 (a := 12) (by decide); have := lv_neT b18 (a := 13) (by decide); have := lv_neT b20 (a := 14) (by decide); have := lv_neT b22 (a := 15) (by decide); have := lv_neT b24 (a := 16) (by decide); have := lv_neT b26 (a := 17) (by decide); have := lv_neT b28 (a := 18) (by decide); have := lv_neT b30 (a := 19) (by decide); have := lv_neT b33 (a := 20) (by decide); have := lv_neT b36 (a := 21) (by decide); have := lv_neT b39 (a := 22) (by decide); have := lv_neT b42 (a := 23) (by decide); omega) (by decide) ?_
  refine zk_iload_n C kd_Mo_two_344 rfl 1 rfl rfl ?_
  refine zk_iload_n C kd_Mo_two_345 rfl 2 rfl rfl ?_
  refine zk_icmp_le (tgt := 353) C kd_Mo_two_346 (by decide) rfl (fun b44 => ?_) (fun b44 => ?_)
  · replace e := zd_pos b44 e
    refine zk_iload_n C kd_Mo_two_353 rfl 2 rfl rfl ?_
    exact zk_iret C hR kd_Mo_two_354 rfl rfl (zd_rIO e)
  · replace e := zd_neg b44 e
    refine zk_iload_n C kd_Mo_two_349 rfl 1 rfl rfl ?_
    refine zk_goto (tgt := 354) C kd_Mo_two_350 (by decide) ?_
    exact zk_iret C hR kd_Mo_two_354 rfl rfl (zd_rIO e)
