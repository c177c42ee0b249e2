theorem kw254 : Jvm.Cond.fieldLink "PlantKeeper$Machine" (83 : Nat) "PlantKeeper$Plan" "place" "[I" ∈ zk_BW := zk_inT 254 (by decide +kernel) rfl
theorem kw403 : Jvm.Cond.fieldLink "PlantKeeper$Machine" (157 : Nat) "PlantKeeper$Code" "op" "[B" ∈ zk_BW := zk_inT 403 (by decide +kernel) rfl
theorem kw406 : Jvm.Cond.fieldLink "PlantKeeper$Machine" (178 : Nat) "PlantKeeper$Code" "a" "[I" ∈ zk_BW := zk_inT 406 (by decide +kernel) rfl
theorem kw409 : Jvm.Cond.fieldLink "PlantKeeper$Machine" (196 : Nat) "PlantKeeper$Code" "b" "[I" ∈ zk_BW := zk_inT 409 (by decide +kernel) rfl
theorem kw411 : Jvm.Cond.fieldLink "PlantKeeper$Machine" (206 : Nat) "PlantKeeper$Code" "c" "[I" ∈ zk_BW := zk_inT 411 (by decide +kernel) rfl
theorem kw535 : Jvm.Cond.fieldLink "PlantKeeper$Machine" (61 : Nat) "PlantKeeper$Machine" "now" "I" ∈ zk_BW := zk_inT 535 (by decide +kernel) rfl
theorem kw1218 : Jvm.Cond.methodLink "PlantKeeper$Code" (35 : Nat) ({ cls := "java/lang/Math", name := "max", desc := "(II)I" } : Jvm.MethodName) ∈ zk_BW := zk_inT 1218 (by decide +kernel) rfl
theorem kw1219 : Jvm.Cond.methodLink "PlantKeeper$Code" (41 : Nat) ({ cls := "java/lang/Math", name := "min", desc := "(II)I" } : Jvm.MethodName) ∈ zk_BW := zk_inT 1219 (by decide +kernel) rfl
theorem kw1231 : Jvm.Cond.static ({ cls := "PlantKeeper$Code", name := "two", desc := "(III)I" } : Jvm.MethodName) ∈ zk_BW := zk_inT 1231 (by decide +kernel) rfl
theorem kw1232 : Jvm.Cond.code ({ cls := "PlantKeeper$Code", name := "two", desc := "(III)I" } : Jvm.MethodName) prog_2_method_12_code (3 : Nat) (Option.some FieldType.int) ∈ zk_BW := zk_inT 1232 (by decide +kernel) rfl
theorem kw1233 : Jvm.Cond.constant "PlantKeeper$Code" (57 : Nat) (65535 : Int32) ∈ zk_BW := zk_inT 1233 (by decide +kernel) rfl
theorem kw1460 : Jvm.Cond.methodLink "PlantKeeper$Machine" (115 : Nat) ({ cls := "PlantKeeper$Machine", name := "become", desc := "(II)V" } : Jvm.MethodName) ∈ zk_BW := zk_inT 1460 (by decide +kernel) rfl
theorem kw1462 : Jvm.Cond.instanceMethod ({ cls := "PlantKeeper$Machine", name := "become", desc := "(II)V" } : Jvm.MethodName) ∈ zk_BW := zk_inT 1462 (by decide +kernel) rfl
theorem kw1463 : Jvm.Cond.code ({ cls := "PlantKeeper$Machine", name := "become", desc := "(II)V" } : Jvm.MethodName) prog_6_method_10_code (3 : Nat) (Option.none : Option FieldType) ∈ zk_BW := zk_inT 1463 (by decide +kernel) rfl
theorem kw1528 : Jvm.Cond.instanceMethod ({ cls := "PlantKeeper$Machine", name := "compute", desc := "(I)I" } : Jvm.MethodName) ∈ zk_BW := zk_inT 1528 (by decide +kernel) rfl
theorem kw1529 : Jvm.Cond.code ({ cls := "PlantKeeper$Machine", name := "compute", desc := "(I)I" } : Jvm.MethodName) prog_6_method_19_code (5 : Nat) (Option.some FieldType.int) ∈ zk_BW := zk_inT 1529 (by decide +kernel) rfl
theorem kw1530 : Jvm.Cond.methodLink "PlantKeeper$Machine" (181 : Nat) ({ cls := "PlantKeeper$Machine", name := "lay", desc := "(I)V" } : Jvm.MethodName) ∈ zk_BW := zk_inT 1530 (by decide +kernel) rfl
theorem kw1534 : Jvm.Cond.methodLink "PlantKeeper$Machine" (185 : Nat) ({ cls := "PlantKeeper$Machine", name := "cellAt", desc := "(I)I" } : Jvm.MethodName) ∈ zk_BW := zk_inT 1534 (by decide +kernel) rfl
theorem kw1538 : Jvm.Cond.methodLink "PlantKeeper$Machine" (188 : Nat) ({ cls := "PlantKeeper$Machine", name := "takeOff", desc := "()I" } : Jvm.MethodName) ∈ zk_BW := zk_inT 1538 (by decide +kernel) rfl
theorem kw1542 : Jvm.Cond.methodLink "PlantKeeper$Machine" (192 : Nat) ({ cls := "PlantKeeper$Machine", name := "element", desc := "(IZ)I" } : Jvm.MethodName) ∈ zk_BW := zk_inT 1542 (by decide +kernel) rfl
theorem kw1544 : Jvm.Cond.instanceMethod ({ cls := "PlantKeeper$Machine", name := "element", desc := "(IZ)I" } : Jvm.MethodName) ∈ zk_BW := zk_inT 1544 (by decide +kernel) rfl
theorem kw1545 : Jvm.Cond.code ({ cls := "PlantKeeper$Machine", name := "element", desc := "(IZ)I" } : Jvm.MethodName) prog_6_method_20_code (7 : Nat) (Option.some FieldType.int) ∈ zk_BW := zk_inT 1545 (by decide +kernel) rfl
theorem kw1546 : Jvm.Cond.methodLink "PlantKeeper$Machine" (199 : Nat) ({ cls := "PlantKeeper$Machine", name := "computeTwo", desc := "(I)I" } : Jvm.MethodName) ∈ zk_BW := zk_inT 1546 (by decide +kernel) rfl
theorem kw1548 : Jvm.Cond.instanceMethod ({ cls := "PlantKeeper$Machine", name := "computeTwo", desc := "(I)I" } : Jvm.MethodName) ∈ zk_BW := zk_inT 1548 (by decide +kernel) rfl
theorem kw1549 : Jvm.Cond.code ({ cls := "PlantKeeper$Machine", name := "computeTwo", desc := "(I)I" } : Jvm.MethodName) prog_6_method_21_code (4 : Nat) (Option.some FieldType.int) ∈ zk_BW := zk_inT 1549 (by decide +kernel) rfl
theorem kw1550 : Jvm.Cond.methodLink "PlantKeeper$Machine" (209 : Nat) ({ cls := "PlantKeeper$Code", name := "isByZero", desc := "(II)Z" } : Jvm.MethodName) ∈ zk_BW := zk_inT 1550 (by decide +kernel) rfl
theorem kw1551 : Jvm.Cond.methodLink "PlantKeeper$Machine" (213 : Nat) ({ cls := "PlantKeeper$Code", name := "two", desc := "(III)I" } : Jvm.MethodName) ∈ zk_BW := zk_inT 1551 (by decide +kernel) rfl
theorem kw1552 : Jvm.Cond.methodLink "PlantKeeper$Machine" (202 : Nat) ({ cls := "PlantKeeper$Code", name := "one", desc := "(II)I" } : Jvm.MethodName) ∈ zk_BW := zk_inT 1552 (by decide +kernel) rfl
theorem kw1563 : Jvm.Cond.instanceMethod ({ cls := "PlantKeeper$Machine", name := "runTimer", desc := "(IIZ)V" } : Jvm.MethodName) ∈ zk_BW := zk_inT 1563 (by decide +kernel) rfl
theorem kw1564 : Jvm.Cond.code ({ cls := "PlantKeeper$Machine", name := "runTimer", desc := "(IIZ)V" } : Jvm.MethodName) prog_6_method_24_code (11 : Nat) (Option.none : Option FieldType) ∈ zk_BW := zk_inT 1564 (by decide +kernel) rfl
theorem kw1565 : Jvm.Cond.methodLink "PlantKeeper$Machine" (228 : Nat) ({ cls := "java/lang/Math", name := "max", desc := "(II)I" } : Jvm.MethodName) ∈ zk_BW := zk_inT 1565 (by decide +kernel) rfl
theorem kw1566 : Jvm.Cond.methodLink "PlantKeeper$Machine" (233 : Nat) ({ cls := "java/lang/Math", name := "min", desc := "(JJ)J" } : Jvm.MethodName) ∈ zk_BW := zk_inT 1566 (by decide +kernel) rfl
theorem kw1569 : Jvm.Cond.instanceMethod ({ cls := "PlantKeeper$Machine", name := "runCounter", desc := "(IIZZ)V" } : Jvm.MethodName) ∈ zk_BW := zk_inT 1569 (by decide +kernel) rfl
theorem kw1570 : Jvm.Cond.code ({ cls := "PlantKeeper$Machine", name := "runCounter", desc := "(IIZZ)V" } : Jvm.MethodName) prog_6_method_25_code (9 : Nat) (Option.none : Option FieldType) ∈ zk_BW := zk_inT 1570 (by decide +kernel) rfl
abbrev kc_Cd_two : ByteArray := prog_2_method_12_code
def km_Cd_two : zk_MT := (⟨"PlantKeeper$Code", "two", "(III)I"⟩, kc_Cd_two, 3, some .int, 3)
theorem ku_Cd_two : zk_My km_Cd_two := ⟨kw1232, kw12, by decide, by decide, by decide, by decide +kernel⟩
theorem ks_Cd_two : Cond.static km_Cd_two.1 ∈ zk_BW := kw1231
abbrev kc_Mc_become : ByteArray := prog_6_method_10_code
def km_Mc_become : zk_MT := (⟨"PlantKeeper$Machine", "become", "(II)V"⟩, kc_Mc_become, 3, none, 2)
theorem ku_Mc_become : zk_My km_Mc_become := ⟨kw1463, kw15, by decide, by decide, by decide, by decide +kernel⟩
theorem kv_Mc_become : zk_Mv km_Mc_become := ⟨kw1462, zk_inS 117 (q := (⟨"PlantKeeper$Machine", "become", "(II)V"⟩, 21)) (by decide +kernel)⟩
abbrev kc_Mc_compute : ByteArray := prog_6_method_19_code
def km_Mc_compute : zk_MT := (⟨"PlantKeeper$Machine", "compute", "(I)I"⟩, kc_Mc_compute, 5, some .int, 1)
theorem ku_Mc_compute : zk_My km_Mc_compute := ⟨kw1529, kw15, by decide, by decide, by decide, by decide +kernel⟩
theorem kv_Mc_compute : zk_Mv km_Mc_compute := ⟨kw1528, zk_inS 123 (q := (⟨"PlantKeeper$Machine", "compute", "(I)I"⟩, 21)) (by decide +kernel)⟩
abbrev kc_Mc_computeTwo : ByteArray := prog_6_method_21_code
def km_Mc_computeTwo : zk_MT := (⟨"PlantKeeper$Machine", "computeTwo", "(I)I"⟩, kc_Mc_computeTwo, 4, some .int, 1)
theorem ku_Mc_computeTwo : zk_My km_Mc_computeTwo := ⟨kw1549, kw15, by decide, by decide, by decide, by decide +kernel⟩
theorem kv_Mc_computeTwo : zk_Mv km_Mc_computeTwo := ⟨kw1548, zk_inS 127 (q := (⟨"PlantKeeper$Machine", "computeTwo", "(I)I"⟩, 21)) (by decide +kernel)⟩
abbrev kc_Mc_element : ByteArray := prog_6_method_20_code
def km_Mc_element : zk_MT := (⟨"PlantKeeper$Machine", "element", "(IZ)I"⟩, kc_Mc_element, 7, some .int, 2)
theorem ku_Mc_element : zk_My km_Mc_element := ⟨kw1545, kw15, by decide, by decide, by decide, by decide +kernel⟩
theorem kv_Mc_element : zk_Mv km_Mc_element := ⟨kw1544, zk_inS 126 (q := (⟨"PlantKeeper$Machine", "element", "(IZ)I"⟩, 21)) (by decide +kernel)⟩
abbrev kc_Mc_runCounter : ByteArray := prog_6_method_25_code
def km_Mc_runCounter : zk_MT := (⟨"PlantKeeper$Machine", "runCounter", "(IIZZ)V"⟩, kc_Mc_runCounter, 9, none, 4)
theorem ku_Mc_runCounter : zk_My km_Mc_runCounter := ⟨kw1570, kw15, by decide, by decide, by decide, by decide +kernel⟩
theorem kv_Mc_runCounter : zk_Mv km_Mc_runCounter := ⟨kw1569, zk_inS 131 (q := (⟨"PlantKeeper$Machine", "runCounter", "(IIZZ)V"⟩, 21)) (by decide +kernel)⟩
abbrev kc_Mc_runTimer : ByteArray := prog_6_method_24_code
def km_Mc_runTimer : zk_MT := (⟨"PlantKeeper$Machine", "runTimer", "(IIZ)V"⟩, kc_Mc_runTimer, 11, none, 3)
theorem ku_Mc_runTimer : zk_My km_Mc_runTimer := ⟨kw1564, kw15, by decide, by decide, by decide, by decide +kernel⟩
theorem kv_Mc_runTimer : zk_Mv km_Mc_runTimer := ⟨kw1563, zk_inS 130 (q := (⟨"PlantKeeper$Machine", "runTimer", "(IIZ)V"⟩, 21)) (by decide +kernel)⟩
theorem kd_Cd_two_0 : decode kc_Cd_two 0 = .ok (.iload_n 0, 1) := by decide +kernel
theorem kd_Cd_two_1 : decode kc_Cd_two 1 = .ok (.tableswitch 349 0 23 #[111, 116, 121, 126, 139, 152, 156, 160, 164, 176, 188, 192, 196, 200, 211, 222, 233, 244, 255, 266, 285, 307, 325, 343], 111) := by decide +kernel
theorem kd_Cd_two_112 : decode kc_Cd_two 112 = .ok (.iload_n 1, 1) := by decide +kernel
theorem kd_Cd_two_113 : decode kc_Cd_two 113 = .ok (.iload_n 2, 1) := by decide +kernel
theorem kd_Cd_two_114 : decode kc_Cd_two 114 = .ok (.iadd, 1) := by decide +kernel
theorem kd_Cd_two_115 : decode kc_Cd_two 115 = .ok (.i2s, 1) := by decide +kernel
theorem kd_Cd_two_116 : decode kc_Cd_two 116 = .ok (.ireturn, 1) := by decide +kernel
theorem kd_Cd_two_117 : decode kc_Cd_two 117 = .ok (.iload_n 1, 1) := by decide +kernel
theorem kd_Cd_two_118 : decode kc_Cd_two 118 = .ok (.iload_n 2, 1) := by decide +kernel
theorem kd_Cd_two_119 : decode kc_Cd_two 119 = .ok (.isub, 1) := by decide +kernel
theorem kd_Cd_two_120 : decode kc_Cd_two 120 = .ok (.i2s, 1) := by decide +kernel
theorem kd_Cd_two_121 : decode kc_Cd_two 121 = .ok (.ireturn, 1) := by decide +kernel
theorem kd_Cd_two_122 : decode kc_Cd_two 122 = .ok (.iload_n 1, 1) := by decide +kernel
theorem kd_Cd_two_123 : decode kc_Cd_two 123 = .ok (.iload_n 2, 1) := by decide +kernel
theorem kd_Cd_two_124 : decode kc_Cd_two 124 = .ok (.imul, 1) := by decide +kernel
theorem kd_Cd_two_125 : decode kc_Cd_two 125 = .ok (.i2s, 1) := by decide +kernel
theorem kd_Cd_two_126 : decode kc_Cd_two 126 = .ok (.ireturn, 1) := by decide +kernel
theorem kd_Cd_two_127 : decode kc_Cd_two 127 = .ok (.iload_n 2, 1) := by decide +kernel
theorem kd_Cd_two_128 : decode kc_Cd_two 128 = .ok (.ifCond .ne 7, 3) := by decide +kernel
theorem kd_Cd_two_131 : decode kc_Cd_two 131 = .ok (.iconst 0, 1) := by decide +kernel
theorem kd_Cd_two_132 : decode kc_Cd_two 132 = .ok (.goto 7, 3) := by decide +kernel
theorem kd_Cd_two_135 : decode kc_Cd_two 135 = .ok (.iload_n 1, 1) := by decide +kernel
theorem kd_Cd_two_136 : decode kc_Cd_two 136 = .ok (.iload_n 2, 1) := by decide +kernel
theorem kd_Cd_two_137 : decode kc_Cd_two 137 = .ok (.idiv, 1) := by decide +kernel
theorem kd_Cd_two_138 : decode kc_Cd_two 138 = .ok (.i2s, 1) := by decide +kernel
theorem kd_Cd_two_139 : decode kc_Cd_two 139 = .ok (.ireturn, 1) := by decide +kernel
theorem kd_Cd_two_140 : decode kc_Cd_two 140 = .ok (.iload_n 2, 1) := by decide +kernel
theorem kd_Cd_two_141 : decode kc_Cd_two 141 = .ok (.ifCond .ne 7, 3) := by decide +kernel
theorem kd_Cd_two_144 : decode kc_Cd_two 144 = .ok (.iconst 0, 1) := by decide +kernel
theorem kd_Cd_two_145 : decode kc_Cd_two 145 = .ok (.goto 7, 3) := by decide +kernel
theorem kd_Cd_two_148 : decode kc_Cd_two 148 = .ok (.iload_n 1, 1) := by decide +kernel
theorem kd_Cd_two_149 : decode kc_Cd_two 149 = .ok (.iload_n 2, 1) := by decide +kernel
theorem kd_Cd_two_150 : decode kc_Cd_two 150 = .ok (.irem, 1) := by decide +kernel
theorem kd_Cd_two_151 : decode kc_Cd_two 151 = .ok (.i2s, 1) := by decide +kernel
theorem kd_Cd_two_152 : decode kc_Cd_two 152 = .ok (.ireturn, 1) := by decide +kernel
theorem kd_Cd_two_153 : decode kc_Cd_two 153 = .ok (.iload_n 1, 1) := by decide +kernel
theorem kd_Cd_two_154 : decode kc_Cd_two 154 = .ok (.iload_n 2, 1) := by decide +kernel
theorem kd_Cd_two_155 : decode kc_Cd_two 155 = .ok (.iadd, 1) := by decide +kernel
theorem kd_Cd_two_156 : decode kc_Cd_two 156 = .ok (.ireturn, 1) := by decide +kernel
theorem kd_Cd_two_157 : decode kc_Cd_two 157 = .ok (.iload_n 1, 1) := by decide +kernel
theorem kd_Cd_two_158 : decode kc_Cd_two 158 = .ok (.iload_n 2, 1) := by decide +kernel
theorem kd_Cd_two_159 : decode kc_Cd_two 159 = .ok (.isub, 1) := by decide +kernel
theorem kd_Cd_two_160 : decode kc_Cd_two 160 = .ok (.ireturn, 1) := by decide +kernel
theorem kd_Cd_two_161 : decode kc_Cd_two 161 = .ok (.iload_n 1, 1) := by decide +kernel
theorem kd_Cd_two_162 : decode kc_Cd_two 162 = .ok (.iload_n 2, 1) := by decide +kernel
theorem kd_Cd_two_163 : decode kc_Cd_two 163 = .ok (.imul, 1) := by decide +kernel
theorem kd_Cd_two_164 : decode kc_Cd_two 164 = .ok (.ireturn, 1) := by decide +kernel
theorem kd_Cd_two_165 : decode kc_Cd_two 165 = .ok (.iload_n 2, 1) := by decide +kernel
theorem kd_Cd_two_166 : decode kc_Cd_two 166 = .ok (.ifCond .ne 7, 3) := by decide +kernel
theorem kd_Cd_two_169 : decode kc_Cd_two 169 = .ok (.iconst 0, 1) := by decide +kernel
theorem kd_Cd_two_170 : decode kc_Cd_two 170 = .ok (.goto 6, 3) := by decide +kernel
theorem kd_Cd_two_173 : decode kc_Cd_two 173 = .ok (.iload_n 1, 1) := by decide +kernel
theorem kd_Cd_two_174 : decode kc_Cd_two 174 = .ok (.iload_n 2, 1) := by decide +kernel
theorem kd_Cd_two_175 : decode kc_Cd_two 175 = .ok (.idiv, 1) := by decide +kernel
theorem kd_Cd_two_176 : decode kc_Cd_two 176 = .ok (.ireturn, 1) := by decide +kernel
theorem kd_Cd_two_177 : decode kc_Cd_two 177 = .ok (.iload_n 2, 1) := by decide +kernel
theorem kd_Cd_two_178 : decode kc_Cd_two 178 = .ok (.ifCond .ne 7, 3) := by decide +kernel
theorem kd_Cd_two_181 : decode kc_Cd_two 181 = .ok (.iconst 0, 1) := by decide +kernel
theorem kd_Cd_two_182 : decode kc_Cd_two 182 = .ok (.goto 6, 3) := by decide +kernel
theorem kd_Cd_two_185 : decode kc_Cd_two 185 = .ok (.iload_n 1, 1) := by decide +kernel
theorem kd_Cd_two_186 : decode kc_Cd_two 186 = .ok (.iload_n 2, 1) := by decide +kernel
theorem kd_Cd_two_187 : decode kc_Cd_two 187 = .ok (.irem, 1) := by decide +kernel
theorem kd_Cd_two_188 : decode kc_Cd_two 188 = .ok (.ireturn, 1) := by decide +kernel
theorem kd_Cd_two_189 : decode kc_Cd_two 189 = .ok (.iload_n 1, 1) := by decide +kernel
theorem kd_Cd_two_190 : decode kc_Cd_two 190 = .ok (.iload_n 2, 1) := by decide +kernel
theorem kd_Cd_two_191 : decode kc_Cd_two 191 = .ok (.iand, 1) := by decide +kernel
theorem kd_Cd_two_192 : decode kc_Cd_two 192 = .ok (.ireturn, 1) := by decide +kernel
theorem kd_Cd_two_193 : decode kc_Cd_two 193 = .ok (.iload_n 1, 1) := by decide +kernel
theorem kd_Cd_two_194 : decode kc_Cd_two 194 = .ok (.iload_n 2, 1) := by decide +kernel
theorem kd_Cd_two_195 : decode kc_Cd_two 195 = .ok (.ior, 1) := by decide +kernel
theorem kd_Cd_two_196 : decode kc_Cd_two 196 = .ok (.ireturn, 1) := by decide +kernel
theorem kd_Cd_two_197 : decode kc_Cd_two 197 = .ok (.iload_n 1, 1) := by decide +kernel
theorem kd_Cd_two_198 : decode kc_Cd_two 198 = .ok (.iload_n 2, 1) := by decide +kernel
theorem kd_Cd_two_199 : decode kc_Cd_two 199 = .ok (.ixor, 1) := by decide +kernel
theorem kd_Cd_two_200 : decode kc_Cd_two 200 = .ok (.ireturn, 1) := by decide +kernel
theorem kd_Cd_two_201 : decode kc_Cd_two 201 = .ok (.iload_n 1, 1) := by decide +kernel
theorem kd_Cd_two_202 : decode kc_Cd_two 202 = .ok (.iload_n 2, 1) := by decide +kernel
theorem kd_Cd_two_203 : decode kc_Cd_two 203 = .ok (.if_icmp .ne 7, 3) := by decide +kernel
theorem kd_Cd_two_206 : decode kc_Cd_two 206 = .ok (.iconst 1, 1) := by decide +kernel
theorem kd_Cd_two_207 : decode kc_Cd_two 207 = .ok (.goto 4, 3) := by decide +kernel
theorem kd_Cd_two_210 : decode kc_Cd_two 210 = .ok (.iconst 0, 1) := by decide +kernel
theorem kd_Cd_two_211 : decode kc_Cd_two 211 = .ok (.ireturn, 1) := by decide +kernel
theorem kd_Cd_two_212 : decode kc_Cd_two 212 = .ok (.iload_n 1, 1) := by decide +kernel
theorem kd_Cd_two_213 : decode kc_Cd_two 213 = .ok (.iload_n 2, 1) := by decide +kernel
theorem kd_Cd_two_214 : decode kc_Cd_two 214 = .ok (.if_icmp .eq 7, 3) := by decide +kernel
theorem kd_Cd_two_217 : decode kc_Cd_two 217 = .ok (.iconst 1, 1) := by decide +kernel
theorem kd_Cd_two_218 : decode kc_Cd_two 218 = .ok (.goto 4, 3) := by decide +kernel
theorem kd_Cd_two_221 : decode kc_Cd_two 221 = .ok (.iconst 0, 1) := by decide +kernel
theorem kd_Cd_two_222 : decode kc_Cd_two 222 = .ok (.ireturn, 1) := by decide +kernel
theorem kd_Cd_two_223 : decode kc_Cd_two 223 = .ok (.iload_n 1, 1) := by decide +kernel
theorem kd_Cd_two_224 : decode kc_Cd_two 224 = .ok (.iload_n 2, 1) := by decide +kernel
theorem kd_Cd_two_225 : decode kc_Cd_two 225 = .ok (.if_icmp .ge 7, 3) := by decide +kernel
theorem kd_Cd_two_228 : decode kc_Cd_two 228 = .ok (.iconst 1, 1) := by decide +kernel
theorem kd_Cd_two_229 : decode kc_Cd_two 229 = .ok (.goto 4, 3) := by decide +kernel
theorem kd_Cd_two_232 : decode kc_Cd_two 232 = .ok (.iconst 0, 1) := by decide +kernel
theorem kd_Cd_two_233 : decode kc_Cd_two 233 = .ok (.ireturn, 1) := by decide +kernel
theorem kd_Cd_two_234 : decode kc_Cd_two 234 = .ok (.iload_n 1, 1) := by decide +kernel
theorem kd_Cd_two_235 : decode kc_Cd_two 235 = .ok (.iload_n 2, 1) := by decide +kernel
theorem kd_Cd_two_236 : decode kc_Cd_two 236 = .ok (.if_icmp .le 7, 3) := by decide +kernel
theorem kd_Cd_two_239 : decode kc_Cd_two 239 = .ok (.iconst 1, 1) := by decide +kernel
theorem kd_Cd_two_240 : decode kc_Cd_two 240 = .ok (.goto 4, 3) := by decide +kernel
theorem kd_Cd_two_243 : decode kc_Cd_two 243 = .ok (.iconst 0, 1) := by decide +kernel
theorem kd_Cd_two_244 : decode kc_Cd_two 244 = .ok (.ireturn, 1) := by decide +kernel
theorem kd_Cd_two_245 : decode kc_Cd_two 245 = .ok (.iload_n 1, 1) := by decide +kernel
theorem kd_Cd_two_246 : decode kc_Cd_two 246 = .ok (.iload_n 2, 1) := by decide +kernel
theorem kd_Cd_two_247 : decode kc_Cd_two 247 = .ok (.if_icmp .gt 7, 3) := by decide +kernel
theorem kd_Cd_two_250 : decode kc_Cd_two 250 = .ok (.iconst 1, 1) := by decide +kernel
theorem kd_Cd_two_251 : decode kc_Cd_two 251 = .ok (.goto 4, 3) := by decide +kernel
theorem kd_Cd_two_254 : decode kc_Cd_two 254 = .ok (.iconst 0, 1) := by decide +kernel
theorem kd_Cd_two_255 : decode kc_Cd_two 255 = .ok (.ireturn, 1) := by decide +kernel
theorem kd_Cd_two_256 : decode kc_Cd_two 256 = .ok (.iload_n 1, 1) := by decide +kernel
theorem kd_Cd_two_257 : decode kc_Cd_two 257 = .ok (.iload_n 2, 1) := by decide +kernel
theorem kd_Cd_two_258 : decode kc_Cd_two 258 = .ok (.if_icmp .lt 7, 3) := by decide +kernel
theorem kd_Cd_two_261 : decode kc_Cd_two 261 = .ok (.iconst 1, 1) := by decide +kernel
theorem kd_Cd_two_262 : decode kc_Cd_two 262 = .ok (.goto 4, 3) := by decide +kernel
theorem kd_Cd_two_265 : decode kc_Cd_two 265 = .ok (.iconst 0, 1) := by decide +kernel
theorem kd_Cd_two_266 : decode kc_Cd_two 266 = .ok (.ireturn, 1) := by decide +kernel
theorem kd_Cd_two_267 : decode kc_Cd_two 267 = .ok (.iload_n 2, 1) := by decide +kernel
theorem kd_Cd_two_268 : decode kc_Cd_two 268 = .ok (.ifCond .lt 9, 3) := by decide +kernel
theorem kd_Cd_two_271 : decode kc_Cd_two 271 = .ok (.iload_n 2, 1) := by decide +kernel
theorem kd_Cd_two_272 : decode kc_Cd_two 272 = .ok (.bipush 15, 2) := by decide +kernel
theorem kd_Cd_two_274 : decode kc_Cd_two 274 = .ok (.if_icmp .le 7, 3) := by decide +kernel
theorem kd_Cd_two_277 : decode kc_Cd_two 277 = .ok (.iconst 0, 1) := by decide +kernel
theorem kd_Cd_two_278 : decode kc_Cd_two 278 = .ok (.goto 7, 3) := by decide +kernel
theorem kd_Cd_two_281 : decode kc_Cd_two 281 = .ok (.iload_n 1, 1) := by decide +kernel
theorem kd_Cd_two_282 : decode kc_Cd_two 282 = .ok (.iload_n 2, 1) := by decide +kernel
theorem kd_Cd_two_283 : decode kc_Cd_two 283 = .ok (.ishl, 1) := by decide +kernel
theorem kd_Cd_two_284 : decode kc_Cd_two 284 = .ok (.i2s, 1) := by decide +kernel
theorem kd_Cd_two_285 : decode kc_Cd_two 285 = .ok (.ireturn, 1) := by decide +kernel
theorem kd_Cd_two_286 : decode kc_Cd_two 286 = .ok (.iload_n 2, 1) := by decide +kernel
theorem kd_Cd_two_287 : decode kc_Cd_two 287 = .ok (.ifCond .lt 9, 3) := by decide +kernel
theorem kd_Cd_two_290 : decode kc_Cd_two 290 = .ok (.iload_n 2, 1) := by decide +kernel
theorem kd_Cd_two_291 : decode kc_Cd_two 291 = .ok (.bipush 15, 2) := by decide +kernel
theorem kd_Cd_two_293 : decode kc_Cd_two 293 = .ok (.if_icmp .le 7, 3) := by decide +kernel
theorem kd_Cd_two_296 : decode kc_Cd_two 296 = .ok (.iconst 0, 1) := by decide +kernel
theorem kd_Cd_two_297 : decode kc_Cd_two 297 = .ok (.goto 10, 3) := by decide +kernel
theorem kd_Cd_two_300 : decode kc_Cd_two 300 = .ok (.iload_n 1, 1) := by decide +kernel
theorem kd_Cd_two_301 : decode kc_Cd_two 301 = .ok (.ldc 57, 2) := by decide +kernel
theorem kd_Cd_two_303 : decode kc_Cd_two 303 = .ok (.iand, 1) := by decide +kernel
theorem kd_Cd_two_304 : decode kc_Cd_two 304 = .ok (.iload_n 2, 1) := by decide +kernel
theorem kd_Cd_two_305 : decode kc_Cd_two 305 = .ok (.ishr, 1) := by decide +kernel
theorem kd_Cd_two_306 : decode kc_Cd_two 306 = .ok (.i2s, 1) := by decide +kernel
theorem kd_Cd_two_307 : decode kc_Cd_two 307 = .ok (.ireturn, 1) := by decide +kernel
theorem kd_Cd_two_308 : decode kc_Cd_two 308 = .ok (.iload_n 2, 1) := by decide +kernel
theorem kd_Cd_two_309 : decode kc_Cd_two 309 = .ok (.ifCond .lt 9, 3) := by decide +kernel
theorem kd_Cd_two_312 : decode kc_Cd_two 312 = .ok (.iload_n 2, 1) := by decide +kernel
theorem kd_Cd_two_313 : decode kc_Cd_two 313 = .ok (.bipush 31, 2) := by decide +kernel
theorem kd_Cd_two_315 : decode kc_Cd_two 315 = .ok (.if_icmp .le 7, 3) := by decide +kernel
theorem kd_Cd_two_318 : decode kc_Cd_two 318 = .ok (.iconst 0, 1) := by decide +kernel
theorem kd_Cd_two_319 : decode kc_Cd_two 319 = .ok (.goto 6, 3) := by decide +kernel
theorem kd_Cd_two_322 : decode kc_Cd_two 322 = .ok (.iload_n 1, 1) := by decide +kernel
theorem kd_Cd_two_323 : decode kc_Cd_two 323 = .ok (.iload_n 2, 1) := by decide +kernel
theorem kd_Cd_two_324 : decode kc_Cd_two 324 = .ok (.ishl, 1) := by decide +kernel
theorem kd_Cd_two_325 : decode kc_Cd_two 325 = .ok (.ireturn, 1) := by decide +kernel
theorem kd_Cd_two_326 : decode kc_Cd_two 326 = .ok (.iload_n 2, 1) := by decide +kernel
theorem kd_Cd_two_327 : decode kc_Cd_two 327 = .ok (.ifCond .lt 9, 3) := by decide +kernel
theorem kd_Cd_two_330 : decode kc_Cd_two 330 = .ok (.iload_n 2, 1) := by decide +kernel
theorem kd_Cd_two_331 : decode kc_Cd_two 331 = .ok (.bipush 31, 2) := by decide +kernel
theorem kd_Cd_two_333 : decode kc_Cd_two 333 = .ok (.if_icmp .le 7, 3) := by decide +kernel
theorem kd_Cd_two_336 : decode kc_Cd_two 336 = .ok (.iconst 0, 1) := by decide +kernel
theorem kd_Cd_two_337 : decode kc_Cd_two 337 = .ok (.goto 6, 3) := by decide +kernel
theorem kd_Cd_two_340 : decode kc_Cd_two 340 = .ok (.iload_n 1, 1) := by decide +kernel
theorem kd_Cd_two_341 : decode kc_Cd_two 341 = .ok (.iload_n 2, 1) := by decide +kernel
theorem kd_Cd_two_342 : decode kc_Cd_two 342 = .ok (.iushr, 1) := by decide +kernel
theorem kd_Cd_two_343 : decode kc_Cd_two 343 = .ok (.ireturn, 1) := by decide +kernel
theorem kd_Cd_two_344 : decode kc_Cd_two 344 = .ok (.iload_n 1, 1) := by decide +kernel
theorem kd_Cd_two_345 : decode kc_Cd_two 345 = .ok (.iload_n 2, 1) := by decide +kernel
theorem kd_Cd_two_346 : decode kc_Cd_two 346 = .ok (.invokestatic 41, 3) := by decide +kernel
theorem kd_Cd_two_349 : decode kc_Cd_two 349 = .ok (.ireturn, 1) := by decide +kernel
theorem kd_Cd_two_350 : decode kc_Cd_two 350 = .ok (.iload_n 1, 1) := by decide +kernel
theorem kd_Cd_two_351 : decode kc_Cd_two 351 = .ok (.iload_n 2, 1) := by decide +kernel
theorem kd_Cd_two_352 : decode kc_Cd_two 352 = .ok (.invokestatic 35, 3) := by decide +kernel
theorem kd_Cd_two_355 : decode kc_Cd_two 355 = .ok (.ireturn, 1) := by decide +kernel
theorem kd_Mc_become_0 : decode kc_Mc_become 0 = .ok (.iload_n 1, 1) := by decide +kernel
theorem kd_Mc_become_1 : decode kc_Mc_become 1 = .ok (.ifCond .lt 19, 3) := by decide +kernel
theorem kd_Mc_become_4 : decode kc_Mc_become 4 = .ok (.iload_n 1, 1) := by decide +kernel
theorem kd_Mc_become_5 : decode kc_Mc_become 5 = .ok (.aload_n 0, 1) := by decide +kernel
theorem kd_Mc_become_6 : decode kc_Mc_become 6 = .ok (.getfield 29, 3) := by decide +kernel
theorem kd_Mc_become_9 : decode kc_Mc_become 9 = .ok (.arraylength, 1) := by decide +kernel
theorem kd_Mc_become_10 : decode kc_Mc_become 10 = .ok (.if_icmp .ge 10, 3) := by decide +kernel
theorem kd_Mc_become_13 : decode kc_Mc_become 13 = .ok (.aload_n 0, 1) := by decide +kernel
theorem kd_Mc_become_14 : decode kc_Mc_become 14 = .ok (.getfield 29, 3) := by decide +kernel
theorem kd_Mc_become_17 : decode kc_Mc_become 17 = .ok (.iload_n 1, 1) := by decide +kernel
theorem kd_Mc_become_18 : decode kc_Mc_become 18 = .ok (.iload_n 2, 1) := by decide +kernel
theorem kd_Mc_become_19 : decode kc_Mc_become 19 = .ok (.iastore, 1) := by decide +kernel
theorem kd_Mc_become_20 : decode kc_Mc_become 20 = .ok (.return_, 1) := by decide +kernel
theorem kd_Mc_compute_0 : decode kc_Mc_compute 0 = .ok (.aload_n 0, 1) := by decide +kernel
theorem kd_Mc_compute_1 : decode kc_Mc_compute 1 = .ok (.getfield 9, 3) := by decide +kernel
theorem kd_Mc_compute_4 : decode kc_Mc_compute 4 = .ok (.getfield 178, 3) := by decide +kernel
theorem kd_Mc_compute_7 : decode kc_Mc_compute 7 = .ok (.iload_n 1, 1) := by decide +kernel
theorem kd_Mc_compute_8 : decode kc_Mc_compute 8 = .ok (.iaload, 1) := by decide +kernel
theorem kd_Mc_compute_9 : decode kc_Mc_compute 9 = .ok (.istore_n 2, 1) := by decide +kernel
theorem kd_Mc_compute_10 : decode kc_Mc_compute 10 = .ok (.aload_n 0, 1) := by decide +kernel
theorem kd_Mc_compute_11 : decode kc_Mc_compute 11 = .ok (.getfield 9, 3) := by decide +kernel
theorem kd_Mc_compute_14 : decode kc_Mc_compute 14 = .ok (.getfield 157, 3) := by decide +kernel
theorem kd_Mc_compute_17 : decode kc_Mc_compute 17 = .ok (.iload_n 1, 1) := by decide +kernel
theorem kd_Mc_compute_18 : decode kc_Mc_compute 18 = .ok (.baload, 1) := by decide +kernel
theorem kd_Mc_compute_19 : decode kc_Mc_compute 19 = .ok (.tableswitch 192 0 8 #[49, 57, 74, 91, 98, 105, 138, 171, 177], 49) := by decide +kernel
theorem kd_Mc_compute_68 : decode kc_Mc_compute 68 = .ok (.aload_n 0, 1) := by decide +kernel
theorem kd_Mc_compute_69 : decode kc_Mc_compute 69 = .ok (.iload_n 2, 1) := by decide +kernel
theorem kd_Mc_compute_70 : decode kc_Mc_compute 70 = .ok (.invokevirtual 181, 3) := by decide +kernel
theorem kd_Mc_compute_73 : decode kc_Mc_compute 73 = .ok (.goto 166, 3) := by decide +kernel
theorem kd_Mc_compute_76 : decode kc_Mc_compute 76 = .ok (.aload_n 0, 1) := by decide +kernel
theorem kd_Mc_compute_77 : decode kc_Mc_compute 77 = .ok (.aload_n 0, 1) := by decide +kernel
theorem kd_Mc_compute_78 : decode kc_Mc_compute 78 = .ok (.aload_n 0, 1) := by decide +kernel
theorem kd_Mc_compute_79 : decode kc_Mc_compute 79 = .ok (.getfield 172, 3) := by decide +kernel
theorem kd_Mc_compute_82 : decode kc_Mc_compute 82 = .ok (.iload_n 2, 1) := by decide +kernel
theorem kd_Mc_compute_83 : decode kc_Mc_compute 83 = .ok (.iadd, 1) := by decide +kernel
theorem kd_Mc_compute_84 : decode kc_Mc_compute 84 = .ok (.invokevirtual 185, 3) := by decide +kernel
theorem kd_Mc_compute_87 : decode kc_Mc_compute 87 = .ok (.invokevirtual 181, 3) := by decide +kernel
theorem kd_Mc_compute_90 : decode kc_Mc_compute 90 = .ok (.goto 149, 3) := by decide +kernel
theorem kd_Mc_compute_93 : decode kc_Mc_compute 93 = .ok (.aload_n 0, 1) := by decide +kernel
theorem kd_Mc_compute_94 : decode kc_Mc_compute 94 = .ok (.aload_n 0, 1) := by decide +kernel
theorem kd_Mc_compute_95 : decode kc_Mc_compute 95 = .ok (.getfield 172, 3) := by decide +kernel
theorem kd_Mc_compute_98 : decode kc_Mc_compute 98 = .ok (.iload_n 2, 1) := by decide +kernel
theorem kd_Mc_compute_99 : decode kc_Mc_compute 99 = .ok (.iadd, 1) := by decide +kernel
theorem kd_Mc_compute_100 : decode kc_Mc_compute 100 = .ok (.aload_n 0, 1) := by decide +kernel
theorem kd_Mc_compute_101 : decode kc_Mc_compute 101 = .ok (.invokevirtual 188, 3) := by decide +kernel
theorem kd_Mc_compute_104 : decode kc_Mc_compute 104 = .ok (.invokevirtual 115, 3) := by decide +kernel
theorem kd_Mc_compute_107 : decode kc_Mc_compute 107 = .ok (.goto 132, 3) := by decide +kernel
theorem kd_Mc_compute_110 : decode kc_Mc_compute 110 = .ok (.aload_n 0, 1) := by decide +kernel
theorem kd_Mc_compute_111 : decode kc_Mc_compute 111 = .ok (.iload_n 1, 1) := by decide +kernel
theorem kd_Mc_compute_112 : decode kc_Mc_compute 112 = .ok (.iconst 0, 1) := by decide +kernel
theorem kd_Mc_compute_113 : decode kc_Mc_compute 113 = .ok (.invokevirtual 192, 3) := by decide +kernel
theorem kd_Mc_compute_116 : decode kc_Mc_compute 116 = .ok (.ireturn, 1) := by decide +kernel
theorem kd_Mc_compute_117 : decode kc_Mc_compute 117 = .ok (.aload_n 0, 1) := by decide +kernel
theorem kd_Mc_compute_118 : decode kc_Mc_compute 118 = .ok (.iload_n 1, 1) := by decide +kernel
theorem kd_Mc_compute_119 : decode kc_Mc_compute 119 = .ok (.iconst 1, 1) := by decide +kernel
theorem kd_Mc_compute_120 : decode kc_Mc_compute 120 = .ok (.invokevirtual 192, 3) := by decide +kernel
theorem kd_Mc_compute_123 : decode kc_Mc_compute 123 = .ok (.ireturn, 1) := by decide +kernel
theorem kd_Mc_compute_124 : decode kc_Mc_compute 124 = .ok (.aload_n 0, 1) := by decide +kernel
theorem kd_Mc_compute_125 : decode kc_Mc_compute 125 = .ok (.aload_n 0, 1) := by decide +kernel
theorem kd_Mc_compute_126 : decode kc_Mc_compute 126 = .ok (.aload_n 0, 1) := by decide +kernel
theorem kd_Mc_compute_127 : decode kc_Mc_compute 127 = .ok (.getfield 15, 3) := by decide +kernel
theorem kd_Mc_compute_130 : decode kc_Mc_compute 130 = .ok (.getfield 83, 3) := by decide +kernel
theorem kd_Mc_compute_133 : decode kc_Mc_compute 133 = .ok (.bipush 9, 2) := by decide +kernel
theorem kd_Mc_compute_135 : decode kc_Mc_compute 135 = .ok (.iload_n 2, 1) := by decide +kernel
theorem kd_Mc_compute_136 : decode kc_Mc_compute 136 = .ok (.iadd, 1) := by decide +kernel
theorem kd_Mc_compute_137 : decode kc_Mc_compute 137 = .ok (.iaload, 1) := by decide +kernel
theorem kd_Mc_compute_138 : decode kc_Mc_compute 138 = .ok (.aload_n 0, 1) := by decide +kernel
theorem kd_Mc_compute_139 : decode kc_Mc_compute 139 = .ok (.getfield 9, 3) := by decide +kernel
theorem kd_Mc_compute_142 : decode kc_Mc_compute 142 = .ok (.getfield 196, 3) := by decide +kernel
theorem kd_Mc_compute_145 : decode kc_Mc_compute 145 = .ok (.iload_n 1, 1) := by decide +kernel
theorem kd_Mc_compute_146 : decode kc_Mc_compute 146 = .ok (.iaload, 1) := by decide +kernel
theorem kd_Mc_compute_147 : decode kc_Mc_compute 147 = .ok (.iadd, 1) := by decide +kernel
theorem kd_Mc_compute_148 : decode kc_Mc_compute 148 = .ok (.invokevirtual 185, 3) := by decide +kernel
theorem kd_Mc_compute_151 : decode kc_Mc_compute 151 = .ok (.invokevirtual 181, 3) := by decide +kernel
theorem kd_Mc_compute_154 : decode kc_Mc_compute 154 = .ok (.goto 85, 3) := by decide +kernel
theorem kd_Mc_compute_157 : decode kc_Mc_compute 157 = .ok (.aload_n 0, 1) := by decide +kernel
theorem kd_Mc_compute_158 : decode kc_Mc_compute 158 = .ok (.aload_n 0, 1) := by decide +kernel
theorem kd_Mc_compute_159 : decode kc_Mc_compute 159 = .ok (.getfield 15, 3) := by decide +kernel
theorem kd_Mc_compute_162 : decode kc_Mc_compute 162 = .ok (.getfield 83, 3) := by decide +kernel
theorem kd_Mc_compute_165 : decode kc_Mc_compute 165 = .ok (.bipush 9, 2) := by decide +kernel
theorem kd_Mc_compute_167 : decode kc_Mc_compute 167 = .ok (.iload_n 2, 1) := by decide +kernel
theorem kd_Mc_compute_168 : decode kc_Mc_compute 168 = .ok (.iadd, 1) := by decide +kernel
theorem kd_Mc_compute_169 : decode kc_Mc_compute 169 = .ok (.iaload, 1) := by decide +kernel
theorem kd_Mc_compute_170 : decode kc_Mc_compute 170 = .ok (.aload_n 0, 1) := by decide +kernel
theorem kd_Mc_compute_171 : decode kc_Mc_compute 171 = .ok (.getfield 9, 3) := by decide +kernel
theorem kd_Mc_compute_174 : decode kc_Mc_compute 174 = .ok (.getfield 196, 3) := by decide +kernel
theorem kd_Mc_compute_177 : decode kc_Mc_compute 177 = .ok (.iload_n 1, 1) := by decide +kernel
theorem kd_Mc_compute_178 : decode kc_Mc_compute 178 = .ok (.iaload, 1) := by decide +kernel
theorem kd_Mc_compute_179 : decode kc_Mc_compute 179 = .ok (.iadd, 1) := by decide +kernel
theorem kd_Mc_compute_180 : decode kc_Mc_compute 180 = .ok (.aload_n 0, 1) := by decide +kernel
theorem kd_Mc_compute_181 : decode kc_Mc_compute 181 = .ok (.invokevirtual 188, 3) := by decide +kernel
theorem kd_Mc_compute_184 : decode kc_Mc_compute 184 = .ok (.invokevirtual 115, 3) := by decide +kernel
theorem kd_Mc_compute_187 : decode kc_Mc_compute 187 = .ok (.goto 52, 3) := by decide +kernel
theorem kd_Mc_compute_190 : decode kc_Mc_compute 190 = .ok (.aload_n 0, 1) := by decide +kernel
theorem kd_Mc_compute_191 : decode kc_Mc_compute 191 = .ok (.iload_n 2, 1) := by decide +kernel
theorem kd_Mc_compute_192 : decode kc_Mc_compute 192 = .ok (.invokevirtual 199, 3) := by decide +kernel
theorem kd_Mc_compute_195 : decode kc_Mc_compute 195 = .ok (.ireturn, 1) := by decide +kernel
theorem kd_Mc_compute_196 : decode kc_Mc_compute 196 = .ok (.aload_n 0, 1) := by decide +kernel
theorem kd_Mc_compute_197 : decode kc_Mc_compute 197 = .ok (.iload_n 2, 1) := by decide +kernel
theorem kd_Mc_compute_198 : decode kc_Mc_compute 198 = .ok (.aload_n 0, 1) := by decide +kernel
theorem kd_Mc_compute_199 : decode kc_Mc_compute 199 = .ok (.invokevirtual 188, 3) := by decide +kernel
theorem kd_Mc_compute_202 : decode kc_Mc_compute 202 = .ok (.invokestatic 202, 3) := by decide +kernel
theorem kd_Mc_compute_205 : decode kc_Mc_compute 205 = .ok (.invokevirtual 181, 3) := by decide +kernel
theorem kd_Mc_compute_208 : decode kc_Mc_compute 208 = .ok (.goto 31, 3) := by decide +kernel
theorem kd_Mc_compute_211 : decode kc_Mc_compute 211 = .ok (.aload_n 0, 1) := by decide +kernel
theorem kd_Mc_compute_212 : decode kc_Mc_compute 212 = .ok (.invokevirtual 188, 3) := by decide +kernel
theorem kd_Mc_compute_215 : decode kc_Mc_compute 215 = .ok (.istore_n 3, 1) := by decide +kernel
theorem kd_Mc_compute_216 : decode kc_Mc_compute 216 = .ok (.aload_n 0, 1) := by decide +kernel
theorem kd_Mc_compute_217 : decode kc_Mc_compute 217 = .ok (.invokevirtual 188, 3) := by decide +kernel
theorem kd_Mc_compute_220 : decode kc_Mc_compute 220 = .ok (.istore 4, 2) := by decide +kernel
theorem kd_Mc_compute_222 : decode kc_Mc_compute 222 = .ok (.aload_n 0, 1) := by decide +kernel
theorem kd_Mc_compute_223 : decode kc_Mc_compute 223 = .ok (.aload_n 0, 1) := by decide +kernel
theorem kd_Mc_compute_224 : decode kc_Mc_compute 224 = .ok (.invokevirtual 188, 3) := by decide +kernel
theorem kd_Mc_compute_227 : decode kc_Mc_compute 227 = .ok (.ifCond .eq 7, 3) := by decide +kernel
theorem kd_Mc_compute_230 : decode kc_Mc_compute 230 = .ok (.iload_n 3, 1) := by decide +kernel
theorem kd_Mc_compute_231 : decode kc_Mc_compute 231 = .ok (.goto 5, 3) := by decide +kernel
theorem kd_Mc_compute_234 : decode kc_Mc_compute 234 = .ok (.iload 4, 2) := by decide +kernel
theorem kd_Mc_compute_236 : decode kc_Mc_compute 236 = .ok (.invokevirtual 181, 3) := by decide +kernel
theorem kd_Mc_compute_239 : decode kc_Mc_compute 239 = .ok (.iconst 0, 1) := by decide +kernel
theorem kd_Mc_compute_240 : decode kc_Mc_compute 240 = .ok (.ireturn, 1) := by decide +kernel
theorem kd_Mc_computeTwo_0 : decode kc_Mc_computeTwo 0 = .ok (.aload_n 0, 1) := by decide +kernel
theorem kd_Mc_computeTwo_1 : decode kc_Mc_computeTwo 1 = .ok (.invokevirtual 188, 3) := by decide +kernel
theorem kd_Mc_computeTwo_4 : decode kc_Mc_computeTwo 4 = .ok (.istore_n 2, 1) := by decide +kernel
theorem kd_Mc_computeTwo_5 : decode kc_Mc_computeTwo 5 = .ok (.aload_n 0, 1) := by decide +kernel
theorem kd_Mc_computeTwo_6 : decode kc_Mc_computeTwo 6 = .ok (.invokevirtual 188, 3) := by decide +kernel
theorem kd_Mc_computeTwo_9 : decode kc_Mc_computeTwo 9 = .ok (.istore_n 3, 1) := by decide +kernel
theorem kd_Mc_computeTwo_10 : decode kc_Mc_computeTwo 10 = .ok (.iload_n 1, 1) := by decide +kernel
theorem kd_Mc_computeTwo_11 : decode kc_Mc_computeTwo 11 = .ok (.iload_n 2, 1) := by decide +kernel
theorem kd_Mc_computeTwo_12 : decode kc_Mc_computeTwo 12 = .ok (.invokestatic 209, 3) := by decide +kernel
theorem kd_Mc_computeTwo_15 : decode kc_Mc_computeTwo 15 = .ok (.ifCond .eq 6, 3) := by decide +kernel
theorem kd_Mc_computeTwo_18 : decode kc_Mc_computeTwo 18 = .ok (.bipush (-3), 2) := by decide +kernel
theorem kd_Mc_computeTwo_20 : decode kc_Mc_computeTwo 20 = .ok (.ireturn, 1) := by decide +kernel
theorem kd_Mc_computeTwo_21 : decode kc_Mc_computeTwo 21 = .ok (.aload_n 0, 1) := by decide +kernel
theorem kd_Mc_computeTwo_22 : decode kc_Mc_computeTwo 22 = .ok (.iload_n 1, 1) := by decide +kernel
theorem kd_Mc_computeTwo_23 : decode kc_Mc_computeTwo 23 = .ok (.iload_n 3, 1) := by decide +kernel
theorem kd_Mc_computeTwo_24 : decode kc_Mc_computeTwo 24 = .ok (.iload_n 2, 1) := by decide +kernel
theorem kd_Mc_computeTwo_25 : decode kc_Mc_computeTwo 25 = .ok (.invokestatic 213, 3) := by decide +kernel
theorem kd_Mc_computeTwo_28 : decode kc_Mc_computeTwo 28 = .ok (.invokevirtual 181, 3) := by decide +kernel
theorem kd_Mc_computeTwo_31 : decode kc_Mc_computeTwo 31 = .ok (.iconst 0, 1) := by decide +kernel
theorem kd_Mc_computeTwo_32 : decode kc_Mc_computeTwo 32 = .ok (.ireturn, 1) := by decide +kernel
theorem kd_Mc_element_0 : decode kc_Mc_element 0 = .ok (.iload_n 2, 1) := by decide +kernel
theorem kd_Mc_element_1 : decode kc_Mc_element 1 = .ok (.ifCond .eq 10, 3) := by decide +kernel
theorem kd_Mc_element_4 : decode kc_Mc_element 4 = .ok (.aload_n 0, 1) := by decide +kernel
theorem kd_Mc_element_5 : decode kc_Mc_element 5 = .ok (.invokevirtual 188, 3) := by decide +kernel
theorem kd_Mc_element_8 : decode kc_Mc_element 8 = .ok (.goto 4, 3) := by decide +kernel
theorem kd_Mc_element_11 : decode kc_Mc_element 11 = .ok (.iconst 0, 1) := by decide +kernel
theorem kd_Mc_element_12 : decode kc_Mc_element 12 = .ok (.istore_n 3, 1) := by decide +kernel
theorem kd_Mc_element_13 : decode kc_Mc_element 13 = .ok (.aload_n 0, 1) := by decide +kernel
theorem kd_Mc_element_14 : decode kc_Mc_element 14 = .ok (.invokevirtual 188, 3) := by decide +kernel
theorem kd_Mc_element_17 : decode kc_Mc_element 17 = .ok (.i2l, 1) := by decide +kernel
theorem kd_Mc_element_18 : decode kc_Mc_element 18 = .ok (.aload_n 0, 1) := by decide +kernel
theorem kd_Mc_element_19 : decode kc_Mc_element 19 = .ok (.getfield 9, 3) := by decide +kernel
theorem kd_Mc_element_22 : decode kc_Mc_element 22 = .ok (.getfield 196, 3) := by decide +kernel
theorem kd_Mc_element_25 : decode kc_Mc_element 25 = .ok (.iload_n 1, 1) := by decide +kernel
theorem kd_Mc_element_26 : decode kc_Mc_element 26 = .ok (.iaload, 1) := by decide +kernel
theorem kd_Mc_element_27 : decode kc_Mc_element 27 = .ok (.i2l, 1) := by decide +kernel
theorem kd_Mc_element_28 : decode kc_Mc_element 28 = .ok (.lsub, 1) := by decide +kernel
theorem kd_Mc_element_29 : decode kc_Mc_element 29 = .ok (.lstore 4, 2) := by decide +kernel
theorem kd_Mc_element_31 : decode kc_Mc_element 31 = .ok (.lload 4, 2) := by decide +kernel
theorem kd_Mc_element_33 : decode kc_Mc_element 33 = .ok (.lconst 0, 1) := by decide +kernel
theorem kd_Mc_element_34 : decode kc_Mc_element 34 = .ok (.lcmp, 1) := by decide +kernel
theorem kd_Mc_element_35 : decode kc_Mc_element 35 = .ok (.ifCond .lt 19, 3) := by decide +kernel
theorem kd_Mc_element_38 : decode kc_Mc_element 38 = .ok (.lload 4, 2) := by decide +kernel
theorem kd_Mc_element_40 : decode kc_Mc_element 40 = .ok (.aload_n 0, 1) := by decide +kernel
theorem kd_Mc_element_41 : decode kc_Mc_element 41 = .ok (.getfield 9, 3) := by decide +kernel
theorem kd_Mc_element_44 : decode kc_Mc_element 44 = .ok (.getfield 206, 3) := by decide +kernel
theorem kd_Mc_element_47 : decode kc_Mc_element 47 = .ok (.iload_n 1, 1) := by decide +kernel
theorem kd_Mc_element_48 : decode kc_Mc_element 48 = .ok (.iaload, 1) := by decide +kernel
theorem kd_Mc_element_49 : decode kc_Mc_element 49 = .ok (.i2l, 1) := by decide +kernel
theorem kd_Mc_element_50 : decode kc_Mc_element 50 = .ok (.lcmp, 1) := by decide +kernel
theorem kd_Mc_element_51 : decode kc_Mc_element 51 = .ok (.ifCond .lt 6, 3) := by decide +kernel
theorem kd_Mc_element_54 : decode kc_Mc_element 54 = .ok (.bipush (-4), 2) := by decide +kernel
theorem kd_Mc_element_56 : decode kc_Mc_element 56 = .ok (.ireturn, 1) := by decide +kernel
theorem kd_Mc_element_57 : decode kc_Mc_element 57 = .ok (.aload_n 0, 1) := by decide +kernel
theorem kd_Mc_element_58 : decode kc_Mc_element 58 = .ok (.getfield 172, 3) := by decide +kernel
theorem kd_Mc_element_61 : decode kc_Mc_element 61 = .ok (.aload_n 0, 1) := by decide +kernel
theorem kd_Mc_element_62 : decode kc_Mc_element 62 = .ok (.getfield 9, 3) := by decide +kernel
theorem kd_Mc_element_65 : decode kc_Mc_element 65 = .ok (.getfield 178, 3) := by decide +kernel
theorem kd_Mc_element_68 : decode kc_Mc_element 68 = .ok (.iload_n 1, 1) := by decide +kernel
theorem kd_Mc_element_69 : decode kc_Mc_element 69 = .ok (.iaload, 1) := by decide +kernel
theorem kd_Mc_element_70 : decode kc_Mc_element 70 = .ok (.iadd, 1) := by decide +kernel
theorem kd_Mc_element_71 : decode kc_Mc_element 71 = .ok (.lload 4, 2) := by decide +kernel
theorem kd_Mc_element_73 : decode kc_Mc_element 73 = .ok (.l2i, 1) := by decide +kernel
theorem kd_Mc_element_74 : decode kc_Mc_element 74 = .ok (.iadd, 1) := by decide +kernel
theorem kd_Mc_element_75 : decode kc_Mc_element 75 = .ok (.istore 6, 2) := by decide +kernel
theorem kd_Mc_element_77 : decode kc_Mc_element 77 = .ok (.iload_n 2, 1) := by decide +kernel
theorem kd_Mc_element_78 : decode kc_Mc_element 78 = .ok (.ifCond .eq 13, 3) := by decide +kernel
theorem kd_Mc_element_81 : decode kc_Mc_element 81 = .ok (.aload_n 0, 1) := by decide +kernel
theorem kd_Mc_element_82 : decode kc_Mc_element 82 = .ok (.iload 6, 2) := by decide +kernel
theorem kd_Mc_element_84 : decode kc_Mc_element 84 = .ok (.iload_n 3, 1) := by decide +kernel
theorem kd_Mc_element_85 : decode kc_Mc_element 85 = .ok (.invokevirtual 115, 3) := by decide +kernel
theorem kd_Mc_element_88 : decode kc_Mc_element 88 = .ok (.goto 13, 3) := by decide +kernel
theorem kd_Mc_element_91 : decode kc_Mc_element 91 = .ok (.aload_n 0, 1) := by decide +kernel
theorem kd_Mc_element_92 : decode kc_Mc_element 92 = .ok (.aload_n 0, 1) := by decide +kernel
theorem kd_Mc_element_93 : decode kc_Mc_element 93 = .ok (.iload 6, 2) := by decide +kernel
theorem kd_Mc_element_95 : decode kc_Mc_element 95 = .ok (.invokevirtual 185, 3) := by decide +kernel
theorem kd_Mc_element_98 : decode kc_Mc_element 98 = .ok (.invokevirtual 181, 3) := by decide +kernel
theorem kd_Mc_element_101 : decode kc_Mc_element 101 = .ok (.iconst 0, 1) := by decide +kernel
theorem kd_Mc_element_102 : decode kc_Mc_element 102 = .ok (.ireturn, 1) := by decide +kernel
theorem kd_Mc_runCounter_0 : decode kc_Mc_runCounter 0 = .ok (.iload_n 3, 1) := by decide +kernel
theorem kd_Mc_runCounter_1 : decode kc_Mc_runCounter 1 = .ok (.ifCond .eq 17, 3) := by decide +kernel
theorem kd_Mc_runCounter_4 : decode kc_Mc_runCounter 4 = .ok (.aload_n 0, 1) := by decide +kernel
theorem kd_Mc_runCounter_5 : decode kc_Mc_runCounter 5 = .ok (.iload_n 2, 1) := by decide +kernel
theorem kd_Mc_runCounter_6 : decode kc_Mc_runCounter 6 = .ok (.iconst 5, 1) := by decide +kernel
theorem kd_Mc_runCounter_7 : decode kc_Mc_runCounter 7 = .ok (.iadd, 1) := by decide +kernel
theorem kd_Mc_runCounter_8 : decode kc_Mc_runCounter 8 = .ok (.invokevirtual 185, 3) := by decide +kernel
theorem kd_Mc_runCounter_11 : decode kc_Mc_runCounter 11 = .ok (.ifCond .ne 7, 3) := by decide +kernel
theorem kd_Mc_runCounter_14 : decode kc_Mc_runCounter 14 = .ok (.iconst 1, 1) := by decide +kernel
theorem kd_Mc_runCounter_15 : decode kc_Mc_runCounter 15 = .ok (.goto 4, 3) := by decide +kernel
theorem kd_Mc_runCounter_18 : decode kc_Mc_runCounter 18 = .ok (.iconst 0, 1) := by decide +kernel
theorem kd_Mc_runCounter_19 : decode kc_Mc_runCounter 19 = .ok (.istore 5, 2) := by decide +kernel
theorem kd_Mc_runCounter_21 : decode kc_Mc_runCounter 21 = .ok (.aload_n 0, 1) := by decide +kernel
theorem kd_Mc_runCounter_22 : decode kc_Mc_runCounter 22 = .ok (.iload_n 2, 1) := by decide +kernel
theorem kd_Mc_runCounter_23 : decode kc_Mc_runCounter 23 = .ok (.iconst 2, 1) := by decide +kernel
theorem kd_Mc_runCounter_24 : decode kc_Mc_runCounter 24 = .ok (.iadd, 1) := by decide +kernel
theorem kd_Mc_runCounter_25 : decode kc_Mc_runCounter 25 = .ok (.invokevirtual 185, 3) := by decide +kernel
theorem kd_Mc_runCounter_28 : decode kc_Mc_runCounter 28 = .ok (.istore 6, 2) := by decide +kernel
theorem kd_Mc_runCounter_30 : decode kc_Mc_runCounter 30 = .ok (.aload_n 0, 1) := by decide +kernel
theorem kd_Mc_runCounter_31 : decode kc_Mc_runCounter 31 = .ok (.iload_n 2, 1) := by decide +kernel
theorem kd_Mc_runCounter_32 : decode kc_Mc_runCounter 32 = .ok (.iconst 4, 1) := by decide +kernel
theorem kd_Mc_runCounter_33 : decode kc_Mc_runCounter 33 = .ok (.iadd, 1) := by decide +kernel
theorem kd_Mc_runCounter_34 : decode kc_Mc_runCounter 34 = .ok (.invokevirtual 185, 3) := by decide +kernel
theorem kd_Mc_runCounter_37 : decode kc_Mc_runCounter 37 = .ok (.istore 7, 2) := by decide +kernel
theorem kd_Mc_runCounter_39 : decode kc_Mc_runCounter 39 = .ok (.iload_n 1, 1) := by decide +kernel
theorem kd_Mc_runCounter_40 : decode kc_Mc_runCounter 40 = .ok (.iconst 3, 1) := by decide +kernel
theorem kd_Mc_runCounter_41 : decode kc_Mc_runCounter 41 = .ok (.if_icmp .ne 7, 3) := by decide +kernel
theorem kd_Mc_runCounter_44 : decode kc_Mc_runCounter 44 = .ok (.iconst 1, 1) := by decide +kernel
theorem kd_Mc_runCounter_45 : decode kc_Mc_runCounter 45 = .ok (.goto 4, 3) := by decide +kernel
theorem kd_Mc_runCounter_48 : decode kc_Mc_runCounter 48 = .ok (.iconst 0, 1) := by decide +kernel
theorem kd_Mc_runCounter_49 : decode kc_Mc_runCounter 49 = .ok (.istore 8, 2) := by decide +kernel
theorem kd_Mc_runCounter_51 : decode kc_Mc_runCounter 51 = .ok (.iload 4, 2) := by decide +kernel
theorem kd_Mc_runCounter_53 : decode kc_Mc_runCounter 53 = .ok (.ifCond .eq 19, 3) := by decide +kernel
theorem kd_Mc_runCounter_56 : decode kc_Mc_runCounter 56 = .ok (.iload 8, 2) := by decide +kernel
theorem kd_Mc_runCounter_58 : decode kc_Mc_runCounter 58 = .ok (.ifCond .eq 7, 3) := by decide +kernel
theorem kd_Mc_runCounter_61 : decode kc_Mc_runCounter 61 = .ok (.iconst 0, 1) := by decide +kernel
theorem kd_Mc_runCounter_62 : decode kc_Mc_runCounter 62 = .ok (.goto 5, 3) := by decide +kernel
theorem kd_Mc_runCounter_65 : decode kc_Mc_runCounter 65 = .ok (.iload 6, 2) := by decide +kernel
theorem kd_Mc_runCounter_67 : decode kc_Mc_runCounter 67 = .ok (.istore 7, 2) := by decide +kernel
theorem kd_Mc_runCounter_69 : decode kc_Mc_runCounter 69 = .ok (.goto 47, 3) := by decide +kernel
theorem kd_Mc_runCounter_72 : decode kc_Mc_runCounter 72 = .ok (.iload 5, 2) := by decide +kernel
theorem kd_Mc_runCounter_74 : decode kc_Mc_runCounter 74 = .ok (.ifCond .eq 42, 3) := by decide +kernel
theorem kd_Mc_runCounter_77 : decode kc_Mc_runCounter 77 = .ok (.iload 8, 2) := by decide +kernel
theorem kd_Mc_runCounter_79 : decode kc_Mc_runCounter 79 = .ok (.ifCond .eq 14, 3) := by decide +kernel
theorem kd_Mc_runCounter_82 : decode kc_Mc_runCounter 82 = .ok (.iload 7, 2) := by decide +kernel
theorem kd_Mc_runCounter_84 : decode kc_Mc_runCounter 84 = .ok (.sipush 32767, 3) := by decide +kernel
theorem kd_Mc_runCounter_87 : decode kc_Mc_runCounter 87 = .ok (.if_icmp .ge 29, 3) := by decide +kernel
theorem kd_Mc_runCounter_90 : decode kc_Mc_runCounter 90 = .ok (.goto 11, 3) := by decide +kernel
theorem kd_Mc_runCounter_93 : decode kc_Mc_runCounter 93 = .ok (.iload 7, 2) := by decide +kernel
theorem kd_Mc_runCounter_95 : decode kc_Mc_runCounter 95 = .ok (.sipush (-32768), 3) := by decide +kernel
theorem kd_Mc_runCounter_98 : decode kc_Mc_runCounter 98 = .ok (.if_icmp .le 18, 3) := by decide +kernel
theorem kd_Mc_runCounter_101 : decode kc_Mc_runCounter 101 = .ok (.iload 7, 2) := by decide +kernel
theorem kd_Mc_runCounter_103 : decode kc_Mc_runCounter 103 = .ok (.iload 8, 2) := by decide +kernel
theorem kd_Mc_runCounter_105 : decode kc_Mc_runCounter 105 = .ok (.ifCond .eq 7, 3) := by decide +kernel
theorem kd_Mc_runCounter_108 : decode kc_Mc_runCounter 108 = .ok (.iconst 1, 1) := by decide +kernel
theorem kd_Mc_runCounter_109 : decode kc_Mc_runCounter 109 = .ok (.goto 4, 3) := by decide +kernel
theorem kd_Mc_runCounter_112 : decode kc_Mc_runCounter 112 = .ok (.iconst (-1), 1) := by decide +kernel
theorem kd_Mc_runCounter_113 : decode kc_Mc_runCounter 113 = .ok (.iadd, 1) := by decide +kernel
theorem kd_Mc_runCounter_114 : decode kc_Mc_runCounter 114 = .ok (.istore 7, 2) := by decide +kernel
theorem kd_Mc_runCounter_116 : decode kc_Mc_runCounter 116 = .ok (.aload_n 0, 1) := by decide +kernel
theorem kd_Mc_runCounter_117 : decode kc_Mc_runCounter 117 = .ok (.iload_n 2, 1) := by decide +kernel
theorem kd_Mc_runCounter_118 : decode kc_Mc_runCounter 118 = .ok (.iconst 3, 1) := by decide +kernel
theorem kd_Mc_runCounter_119 : decode kc_Mc_runCounter 119 = .ok (.iadd, 1) := by decide +kernel
theorem kd_Mc_runCounter_120 : decode kc_Mc_runCounter 120 = .ok (.iload 8, 2) := by decide +kernel
theorem kd_Mc_runCounter_122 : decode kc_Mc_runCounter 122 = .ok (.ifCond .eq 13, 3) := by decide +kernel
theorem kd_Mc_runCounter_125 : decode kc_Mc_runCounter 125 = .ok (.iload 7, 2) := by decide +kernel
theorem kd_Mc_runCounter_127 : decode kc_Mc_runCounter 127 = .ok (.iload 6, 2) := by decide +kernel
theorem kd_Mc_runCounter_129 : decode kc_Mc_runCounter 129 = .ok (.if_icmp .lt 15, 3) := by decide +kernel
theorem kd_Mc_runCounter_132 : decode kc_Mc_runCounter 132 = .ok (.goto 8, 3) := by decide +kernel
theorem kd_Mc_runCounter_135 : decode kc_Mc_runCounter 135 = .ok (.iload 7, 2) := by decide +kernel
theorem kd_Mc_runCounter_137 : decode kc_Mc_runCounter 137 = .ok (.ifCond .gt 7, 3) := by decide +kernel
theorem kd_Mc_runCounter_140 : decode kc_Mc_runCounter 140 = .ok (.iconst 1, 1) := by decide +kernel
theorem kd_Mc_runCounter_141 : decode kc_Mc_runCounter 141 = .ok (.goto 4, 3) := by decide +kernel
theorem kd_Mc_runCounter_144 : decode kc_Mc_runCounter 144 = .ok (.iconst 0, 1) := by decide +kernel
theorem kd_Mc_runCounter_145 : decode kc_Mc_runCounter 145 = .ok (.invokevirtual 115, 3) := by decide +kernel
theorem kd_Mc_runCounter_148 : decode kc_Mc_runCounter 148 = .ok (.aload_n 0, 1) := by decide +kernel
theorem kd_Mc_runCounter_149 : decode kc_Mc_runCounter 149 = .ok (.iload_n 2, 1) := by decide +kernel
theorem kd_Mc_runCounter_150 : decode kc_Mc_runCounter 150 = .ok (.iconst 4, 1) := by decide +kernel
theorem kd_Mc_runCounter_151 : decode kc_Mc_runCounter 151 = .ok (.iadd, 1) := by decide +kernel
theorem kd_Mc_runCounter_152 : decode kc_Mc_runCounter 152 = .ok (.iload 7, 2) := by decide +kernel
theorem kd_Mc_runCounter_154 : decode kc_Mc_runCounter 154 = .ok (.invokevirtual 115, 3) := by decide +kernel
theorem kd_Mc_runCounter_157 : decode kc_Mc_runCounter 157 = .ok (.aload_n 0, 1) := by decide +kernel
theorem kd_Mc_runCounter_158 : decode kc_Mc_runCounter 158 = .ok (.iload_n 2, 1) := by decide +kernel
theorem kd_Mc_runCounter_159 : decode kc_Mc_runCounter 159 = .ok (.iconst 5, 1) := by decide +kernel
theorem kd_Mc_runCounter_160 : decode kc_Mc_runCounter 160 = .ok (.iadd, 1) := by decide +kernel
theorem kd_Mc_runCounter_161 : decode kc_Mc_runCounter 161 = .ok (.iload_n 3, 1) := by decide +kernel
theorem kd_Mc_runCounter_162 : decode kc_Mc_runCounter 162 = .ok (.ifCond .eq 7, 3) := by decide +kernel
theorem kd_Mc_runCounter_165 : decode kc_Mc_runCounter 165 = .ok (.iconst 1, 1) := by decide +kernel
theorem kd_Mc_runCounter_166 : decode kc_Mc_runCounter 166 = .ok (.goto 4, 3) := by decide +kernel
theorem kd_Mc_runCounter_169 : decode kc_Mc_runCounter 169 = .ok (.iconst 0, 1) := by decide +kernel
theorem kd_Mc_runCounter_170 : decode kc_Mc_runCounter 170 = .ok (.invokevirtual 115, 3) := by decide +kernel
theorem kd_Mc_runCounter_173 : decode kc_Mc_runCounter 173 = .ok (.return_, 1) := by decide +kernel
theorem kd_Mc_runTimer_0 : decode kc_Mc_runTimer 0 = .ok (.aload_n 0, 1) := by decide +kernel
theorem kd_Mc_runTimer_1 : decode kc_Mc_runTimer 1 = .ok (.iload_n 2, 1) := by decide +kernel
theorem kd_Mc_runTimer_2 : decode kc_Mc_runTimer 2 = .ok (.iconst 4, 1) := by decide +kernel
theorem kd_Mc_runTimer_3 : decode kc_Mc_runTimer 3 = .ok (.iadd, 1) := by decide +kernel
theorem kd_Mc_runTimer_4 : decode kc_Mc_runTimer 4 = .ok (.invokevirtual 185, 3) := by decide +kernel
theorem kd_Mc_runTimer_7 : decode kc_Mc_runTimer 7 = .ok (.ifCond .eq 7, 3) := by decide +kernel
theorem kd_Mc_runTimer_10 : decode kc_Mc_runTimer 10 = .ok (.iconst 1, 1) := by decide +kernel
theorem kd_Mc_runTimer_11 : decode kc_Mc_runTimer 11 = .ok (.goto 4, 3) := by decide +kernel
theorem kd_Mc_runTimer_14 : decode kc_Mc_runTimer 14 = .ok (.iconst 0, 1) := by decide +kernel
theorem kd_Mc_runTimer_15 : decode kc_Mc_runTimer 15 = .ok (.istore 4, 2) := by decide +kernel
theorem kd_Mc_runTimer_17 : decode kc_Mc_runTimer 17 = .ok (.iconst 0, 1) := by decide +kernel
theorem kd_Mc_runTimer_18 : decode kc_Mc_runTimer 18 = .ok (.aload_n 0, 1) := by decide +kernel
theorem kd_Mc_runTimer_19 : decode kc_Mc_runTimer 19 = .ok (.iload_n 2, 1) := by decide +kernel
theorem kd_Mc_runTimer_20 : decode kc_Mc_runTimer 20 = .ok (.iconst 1, 1) := by decide +kernel
theorem kd_Mc_runTimer_21 : decode kc_Mc_runTimer 21 = .ok (.iadd, 1) := by decide +kernel
theorem kd_Mc_runTimer_22 : decode kc_Mc_runTimer 22 = .ok (.invokevirtual 185, 3) := by decide +kernel
theorem kd_Mc_runTimer_25 : decode kc_Mc_runTimer 25 = .ok (.invokestatic 228, 3) := by decide +kernel
theorem kd_Mc_runTimer_28 : decode kc_Mc_runTimer 28 = .ok (.i2l, 1) := by decide +kernel
theorem kd_Mc_runTimer_29 : decode kc_Mc_runTimer 29 = .ok (.lstore 5, 2) := by decide +kernel
theorem kd_Mc_runTimer_31 : decode kc_Mc_runTimer 31 = .ok (.aload_n 0, 1) := by decide +kernel
theorem kd_Mc_runTimer_32 : decode kc_Mc_runTimer 32 = .ok (.iload_n 2, 1) := by decide +kernel
theorem kd_Mc_runTimer_33 : decode kc_Mc_runTimer 33 = .ok (.iconst 3, 1) := by decide +kernel
theorem kd_Mc_runTimer_34 : decode kc_Mc_runTimer 34 = .ok (.iadd, 1) := by decide +kernel
theorem kd_Mc_runTimer_35 : decode kc_Mc_runTimer 35 = .ok (.invokevirtual 185, 3) := by decide +kernel
theorem kd_Mc_runTimer_38 : decode kc_Mc_runTimer 38 = .ok (.istore 7, 2) := by decide +kernel
theorem kd_Mc_runTimer_40 : decode kc_Mc_runTimer 40 = .ok (.lload 5, 2) := by decide +kernel
theorem kd_Mc_runTimer_42 : decode kc_Mc_runTimer 42 = .ok (.iload 7, 2) := by decide +kernel
theorem kd_Mc_runTimer_44 : decode kc_Mc_runTimer 44 = .ok (.i2l, 1) := by decide +kernel
theorem kd_Mc_runTimer_45 : decode kc_Mc_runTimer 45 = .ok (.aload_n 0, 1) := by decide +kernel
theorem kd_Mc_runTimer_46 : decode kc_Mc_runTimer 46 = .ok (.getfield 61, 3) := by decide +kernel
theorem kd_Mc_runTimer_49 : decode kc_Mc_runTimer 49 = .ok (.i2l, 1) := by decide +kernel
theorem kd_Mc_runTimer_50 : decode kc_Mc_runTimer 50 = .ok (.aload_n 0, 1) := by decide +kernel
theorem kd_Mc_runTimer_51 : decode kc_Mc_runTimer 51 = .ok (.iload_n 2, 1) := by decide +kernel
theorem kd_Mc_runTimer_52 : decode kc_Mc_runTimer 52 = .ok (.iconst 5, 1) := by decide +kernel
theorem kd_Mc_runTimer_53 : decode kc_Mc_runTimer 53 = .ok (.iadd, 1) := by decide +kernel
theorem kd_Mc_runTimer_54 : decode kc_Mc_runTimer 54 = .ok (.invokevirtual 185, 3) := by decide +kernel
theorem kd_Mc_runTimer_57 : decode kc_Mc_runTimer 57 = .ok (.i2l, 1) := by decide +kernel
theorem kd_Mc_runTimer_58 : decode kc_Mc_runTimer 58 = .ok (.lsub, 1) := by decide +kernel
theorem kd_Mc_runTimer_59 : decode kc_Mc_runTimer 59 = .ok (.ladd, 1) := by decide +kernel
theorem kd_Mc_runTimer_60 : decode kc_Mc_runTimer 60 = .ok (.invokestatic 233, 3) := by decide +kernel
theorem kd_Mc_runTimer_63 : decode kc_Mc_runTimer 63 = .ok (.l2i, 1) := by decide +kernel
theorem kd_Mc_runTimer_64 : decode kc_Mc_runTimer 64 = .ok (.istore 8, 2) := by decide +kernel
theorem kd_Mc_runTimer_66 : decode kc_Mc_runTimer 66 = .ok (.aload_n 0, 1) := by decide +kernel
theorem kd_Mc_runTimer_67 : decode kc_Mc_runTimer 67 = .ok (.iload_n 2, 1) := by decide +kernel
theorem kd_Mc_runTimer_68 : decode kc_Mc_runTimer 68 = .ok (.iconst 2, 1) := by decide +kernel
theorem kd_Mc_runTimer_69 : decode kc_Mc_runTimer 69 = .ok (.iadd, 1) := by decide +kernel
theorem kd_Mc_runTimer_70 : decode kc_Mc_runTimer 70 = .ok (.invokevirtual 185, 3) := by decide +kernel
theorem kd_Mc_runTimer_73 : decode kc_Mc_runTimer 73 = .ok (.ifCond .eq 7, 3) := by decide +kernel
theorem kd_Mc_runTimer_76 : decode kc_Mc_runTimer 76 = .ok (.iconst 1, 1) := by decide +kernel
theorem kd_Mc_runTimer_77 : decode kc_Mc_runTimer 77 = .ok (.goto 4, 3) := by decide +kernel
theorem kd_Mc_runTimer_80 : decode kc_Mc_runTimer 80 = .ok (.iconst 0, 1) := by decide +kernel
theorem kd_Mc_runTimer_81 : decode kc_Mc_runTimer 81 = .ok (.istore 9, 2) := by decide +kernel
theorem kd_Mc_runTimer_83 : decode kc_Mc_runTimer 83 = .ok (.iload_n 1, 1) := by decide +kernel
theorem kd_Mc_runTimer_84 : decode kc_Mc_runTimer 84 = .ok (.ifCond .ne 43, 3) := by decide +kernel
theorem kd_Mc_runTimer_87 : decode kc_Mc_runTimer 87 = .ok (.iload_n 3, 1) := by decide +kernel
theorem kd_Mc_runTimer_88 : decode kc_Mc_runTimer 88 = .ok (.ifCond .eq 13, 3) := by decide +kernel
theorem kd_Mc_runTimer_91 : decode kc_Mc_runTimer 91 = .ok (.iload 4, 2) := by decide +kernel
theorem kd_Mc_runTimer_93 : decode kc_Mc_runTimer 93 = .ok (.ifCond .eq 8, 3) := by decide +kernel
theorem kd_Mc_runTimer_96 : decode kc_Mc_runTimer 96 = .ok (.iload 8, 2) := by decide +kernel
theorem kd_Mc_runTimer_98 : decode kc_Mc_runTimer 98 = .ok (.goto 4, 3) := by decide +kernel
theorem kd_Mc_runTimer_101 : decode kc_Mc_runTimer 101 = .ok (.iconst 0, 1) := by decide +kernel
theorem kd_Mc_runTimer_102 : decode kc_Mc_runTimer 102 = .ok (.istore 7, 2) := by decide +kernel
theorem kd_Mc_runTimer_104 : decode kc_Mc_runTimer 104 = .ok (.iload_n 3, 1) := by decide +kernel
theorem kd_Mc_runTimer_105 : decode kc_Mc_runTimer 105 = .ok (.ifCond .eq 16, 3) := by decide +kernel
theorem kd_Mc_runTimer_108 : decode kc_Mc_runTimer 108 = .ok (.iload 7, 2) := by decide +kernel
theorem kd_Mc_runTimer_110 : decode kc_Mc_runTimer 110 = .ok (.i2l, 1) := by decide +kernel
theorem kd_Mc_runTimer_111 : decode kc_Mc_runTimer 111 = .ok (.lload 5, 2) := by decide +kernel
theorem kd_Mc_runTimer_113 : decode kc_Mc_runTimer 113 = .ok (.lcmp, 1) := by decide +kernel
theorem kd_Mc_runTimer_114 : decode kc_Mc_runTimer 114 = .ok (.ifCond .lt 7, 3) := by decide +kernel
theorem kd_Mc_runTimer_117 : decode kc_Mc_runTimer 117 = .ok (.iconst 1, 1) := by decide +kernel
theorem kd_Mc_runTimer_118 : decode kc_Mc_runTimer 118 = .ok (.goto 4, 3) := by decide +kernel
theorem kd_Mc_runTimer_121 : decode kc_Mc_runTimer 121 = .ok (.iconst 0, 1) := by decide +kernel
theorem kd_Mc_runTimer_122 : decode kc_Mc_runTimer 122 = .ok (.istore 9, 2) := by decide +kernel
theorem kd_Mc_runTimer_124 : decode kc_Mc_runTimer 124 = .ok (.goto 159, 3) := by decide +kernel
theorem kd_Mc_runTimer_127 : decode kc_Mc_runTimer 127 = .ok (.iload_n 1, 1) := by decide +kernel
theorem kd_Mc_runTimer_128 : decode kc_Mc_runTimer 128 = .ok (.iconst 1, 1) := by decide +kernel
theorem kd_Mc_runTimer_129 : decode kc_Mc_runTimer 129 = .ok (.if_icmp .ne 94, 3) := by decide +kernel
theorem kd_Mc_runTimer_132 : decode kc_Mc_runTimer 132 = .ok (.iload_n 3, 1) := by decide +kernel
theorem kd_Mc_runTimer_133 : decode kc_Mc_runTimer 133 = .ok (.ifCond .ne 17, 3) := by decide +kernel
theorem kd_Mc_runTimer_136 : decode kc_Mc_runTimer 136 = .ok (.iload 4, 2) := by decide +kernel
theorem kd_Mc_runTimer_138 : decode kc_Mc_runTimer 138 = .ok (.ifCond .ne 12, 3) := by decide +kernel
theorem kd_Mc_runTimer_141 : decode kc_Mc_runTimer 141 = .ok (.iload 9, 2) := by decide +kernel
theorem kd_Mc_runTimer_143 : decode kc_Mc_runTimer 143 = .ok (.ifCond .eq 7, 3) := by decide +kernel
theorem kd_Mc_runTimer_146 : decode kc_Mc_runTimer 146 = .ok (.iconst 1, 1) := by decide +kernel
theorem kd_Mc_runTimer_147 : decode kc_Mc_runTimer 147 = .ok (.goto 4, 3) := by decide +kernel
theorem kd_Mc_runTimer_150 : decode kc_Mc_runTimer 150 = .ok (.iconst 0, 1) := by decide +kernel
theorem kd_Mc_runTimer_151 : decode kc_Mc_runTimer 151 = .ok (.istore 10, 2) := by decide +kernel
theorem kd_Mc_runTimer_153 : decode kc_Mc_runTimer 153 = .ok (.iload 10, 2) := by decide +kernel
theorem kd_Mc_runTimer_155 : decode kc_Mc_runTimer 155 = .ok (.ifCond .eq 8, 3) := by decide +kernel
theorem kd_Mc_runTimer_158 : decode kc_Mc_runTimer 158 = .ok (.iload 8, 2) := by decide +kernel
theorem kd_Mc_runTimer_160 : decode kc_Mc_runTimer 160 = .ok (.goto 18, 3) := by decide +kernel
theorem kd_Mc_runTimer_163 : decode kc_Mc_runTimer 163 = .ok (.iload_n 3, 1) := by decide +kernel
theorem kd_Mc_runTimer_164 : decode kc_Mc_runTimer 164 = .ok (.ifCond .ne 8, 3) := by decide +kernel
theorem kd_Mc_runTimer_167 : decode kc_Mc_runTimer 167 = .ok (.iload 4, 2) := by decide +kernel
theorem kd_Mc_runTimer_169 : decode kc_Mc_runTimer 169 = .ok (.ifCond .eq 7, 3) := by decide +kernel
theorem kd_Mc_runTimer_172 : decode kc_Mc_runTimer 172 = .ok (.iconst 0, 1) := by decide +kernel
theorem kd_Mc_runTimer_173 : decode kc_Mc_runTimer 173 = .ok (.goto 5, 3) := by decide +kernel
theorem kd_Mc_runTimer_176 : decode kc_Mc_runTimer 176 = .ok (.iload 7, 2) := by decide +kernel
theorem kd_Mc_runTimer_178 : decode kc_Mc_runTimer 178 = .ok (.istore 7, 2) := by decide +kernel
theorem kd_Mc_runTimer_180 : decode kc_Mc_runTimer 180 = .ok (.iload_n 3, 1) := by decide +kernel
theorem kd_Mc_runTimer_181 : decode kc_Mc_runTimer 181 = .ok (.ifCond .ne 32, 3) := by decide +kernel
theorem kd_Mc_runTimer_184 : decode kc_Mc_runTimer 184 = .ok (.iload 4, 2) := by decide +kernel
theorem kd_Mc_runTimer_186 : decode kc_Mc_runTimer 186 = .ok (.ifCond .eq 13, 3) := by decide +kernel
theorem kd_Mc_runTimer_189 : decode kc_Mc_runTimer 189 = .ok (.lload 5, 2) := by decide +kernel
theorem kd_Mc_runTimer_191 : decode kc_Mc_runTimer 191 = .ok (.lconst 0, 1) := by decide +kernel
theorem kd_Mc_runTimer_192 : decode kc_Mc_runTimer 192 = .ok (.lcmp, 1) := by decide +kernel
theorem kd_Mc_runTimer_193 : decode kc_Mc_runTimer 193 = .ok (.ifCond .le 24, 3) := by decide +kernel
theorem kd_Mc_runTimer_196 : decode kc_Mc_runTimer 196 = .ok (.goto 17, 3) := by decide +kernel
theorem kd_Mc_runTimer_199 : decode kc_Mc_runTimer 199 = .ok (.iload 10, 2) := by decide +kernel
theorem kd_Mc_runTimer_201 : decode kc_Mc_runTimer 201 = .ok (.ifCond .eq 16, 3) := by decide +kernel
theorem kd_Mc_runTimer_204 : decode kc_Mc_runTimer 204 = .ok (.iload 7, 2) := by decide +kernel
theorem kd_Mc_runTimer_206 : decode kc_Mc_runTimer 206 = .ok (.i2l, 1) := by decide +kernel
theorem kd_Mc_runTimer_207 : decode kc_Mc_runTimer 207 = .ok (.lload 5, 2) := by decide +kernel
theorem kd_Mc_runTimer_209 : decode kc_Mc_runTimer 209 = .ok (.lcmp, 1) := by decide +kernel
theorem kd_Mc_runTimer_210 : decode kc_Mc_runTimer 210 = .ok (.ifCond .ge 7, 3) := by decide +kernel
theorem kd_Mc_runTimer_213 : decode kc_Mc_runTimer 213 = .ok (.iconst 1, 1) := by decide +kernel
theorem kd_Mc_runTimer_214 : decode kc_Mc_runTimer 214 = .ok (.goto 4, 3) := by decide +kernel
theorem kd_Mc_runTimer_217 : decode kc_Mc_runTimer 217 = .ok (.iconst 0, 1) := by decide +kernel
theorem kd_Mc_runTimer_218 : decode kc_Mc_runTimer 218 = .ok (.istore 9, 2) := by decide +kernel
theorem kd_Mc_runTimer_220 : decode kc_Mc_runTimer 220 = .ok (.goto 63, 3) := by decide +kernel
theorem kd_Mc_runTimer_223 : decode kc_Mc_runTimer 223 = .ok (.iload 9, 2) := by decide +kernel
theorem kd_Mc_runTimer_225 : decode kc_Mc_runTimer 225 = .ok (.ifCond .eq 23, 3) := by decide +kernel
theorem kd_Mc_runTimer_228 : decode kc_Mc_runTimer 228 = .ok (.iload 8, 2) := by decide +kernel
theorem kd_Mc_runTimer_230 : decode kc_Mc_runTimer 230 = .ok (.istore 7, 2) := by decide +kernel
theorem kd_Mc_runTimer_232 : decode kc_Mc_runTimer 232 = .ok (.iload 7, 2) := by decide +kernel
theorem kd_Mc_runTimer_234 : decode kc_Mc_runTimer 234 = .ok (.i2l, 1) := by decide +kernel
theorem kd_Mc_runTimer_235 : decode kc_Mc_runTimer 235 = .ok (.lload 5, 2) := by decide +kernel
theorem kd_Mc_runTimer_237 : decode kc_Mc_runTimer 237 = .ok (.lcmp, 1) := by decide +kernel
theorem kd_Mc_runTimer_238 : decode kc_Mc_runTimer 238 = .ok (.ifCond .ge 7, 3) := by decide +kernel
theorem kd_Mc_runTimer_241 : decode kc_Mc_runTimer 241 = .ok (.iconst 1, 1) := by decide +kernel
theorem kd_Mc_runTimer_242 : decode kc_Mc_runTimer 242 = .ok (.goto 4, 3) := by decide +kernel
theorem kd_Mc_runTimer_245 : decode kc_Mc_runTimer 245 = .ok (.iconst 0, 1) := by decide +kernel
theorem kd_Mc_runTimer_246 : decode kc_Mc_runTimer 246 = .ok (.istore 9, 2) := by decide +kernel
theorem kd_Mc_runTimer_248 : decode kc_Mc_runTimer 248 = .ok (.iload 9, 2) := by decide +kernel
theorem kd_Mc_runTimer_250 : decode kc_Mc_runTimer 250 = .ok (.ifCond .ne 33, 3) := by decide +kernel
theorem kd_Mc_runTimer_253 : decode kc_Mc_runTimer 253 = .ok (.iload_n 3, 1) := by decide +kernel
theorem kd_Mc_runTimer_254 : decode kc_Mc_runTimer 254 = .ok (.ifCond .eq 8, 3) := by decide +kernel
theorem kd_Mc_runTimer_257 : decode kc_Mc_runTimer 257 = .ok (.iload 4, 2) := by decide +kernel
theorem kd_Mc_runTimer_259 : decode kc_Mc_runTimer 259 = .ok (.ifCond .ne 24, 3) := by decide +kernel
theorem kd_Mc_runTimer_262 : decode kc_Mc_runTimer 262 = .ok (.iconst 0, 1) := by decide +kernel
theorem kd_Mc_runTimer_263 : decode kc_Mc_runTimer 263 = .ok (.istore 7, 2) := by decide +kernel
theorem kd_Mc_runTimer_265 : decode kc_Mc_runTimer 265 = .ok (.iload_n 3, 1) := by decide +kernel
theorem kd_Mc_runTimer_266 : decode kc_Mc_runTimer 266 = .ok (.ifCond .eq 14, 3) := by decide +kernel
theorem kd_Mc_runTimer_269 : decode kc_Mc_runTimer 269 = .ok (.lload 5, 2) := by decide +kernel
theorem kd_Mc_runTimer_271 : decode kc_Mc_runTimer 271 = .ok (.lconst 0, 1) := by decide +kernel
theorem kd_Mc_runTimer_272 : decode kc_Mc_runTimer 272 = .ok (.lcmp, 1) := by decide +kernel
theorem kd_Mc_runTimer_273 : decode kc_Mc_runTimer 273 = .ok (.ifCond .le 7, 3) := by decide +kernel
theorem kd_Mc_runTimer_276 : decode kc_Mc_runTimer 276 = .ok (.iconst 1, 1) := by decide +kernel
theorem kd_Mc_runTimer_277 : decode kc_Mc_runTimer 277 = .ok (.goto 4, 3) := by decide +kernel
theorem kd_Mc_runTimer_280 : decode kc_Mc_runTimer 280 = .ok (.iconst 0, 1) := by decide +kernel
theorem kd_Mc_runTimer_281 : decode kc_Mc_runTimer 281 = .ok (.istore 9, 2) := by decide +kernel
theorem kd_Mc_runTimer_283 : decode kc_Mc_runTimer 283 = .ok (.aload_n 0, 1) := by decide +kernel
theorem kd_Mc_runTimer_284 : decode kc_Mc_runTimer 284 = .ok (.iload_n 2, 1) := by decide +kernel
theorem kd_Mc_runTimer_285 : decode kc_Mc_runTimer 285 = .ok (.iconst 2, 1) := by decide +kernel
theorem kd_Mc_runTimer_286 : decode kc_Mc_runTimer 286 = .ok (.iadd, 1) := by decide +kernel
theorem kd_Mc_runTimer_287 : decode kc_Mc_runTimer 287 = .ok (.iload 9, 2) := by decide +kernel
theorem kd_Mc_runTimer_289 : decode kc_Mc_runTimer 289 = .ok (.ifCond .eq 7, 3) := by decide +kernel
theorem kd_Mc_runTimer_292 : decode kc_Mc_runTimer 292 = .ok (.iconst 1, 1) := by decide +kernel
theorem kd_Mc_runTimer_293 : decode kc_Mc_runTimer 293 = .ok (.goto 4, 3) := by decide +kernel
theorem kd_Mc_runTimer_296 : decode kc_Mc_runTimer 296 = .ok (.iconst 0, 1) := by decide +kernel
theorem kd_Mc_runTimer_297 : decode kc_Mc_runTimer 297 = .ok (.invokevirtual 115, 3) := by decide +kernel
theorem kd_Mc_runTimer_300 : decode kc_Mc_runTimer 300 = .ok (.aload_n 0, 1) := by decide +kernel
theorem kd_Mc_runTimer_301 : decode kc_Mc_runTimer 301 = .ok (.iload_n 2, 1) := by decide +kernel
theorem kd_Mc_runTimer_302 : decode kc_Mc_runTimer 302 = .ok (.iconst 3, 1) := by decide +kernel
theorem kd_Mc_runTimer_303 : decode kc_Mc_runTimer 303 = .ok (.iadd, 1) := by decide +kernel
theorem kd_Mc_runTimer_304 : decode kc_Mc_runTimer 304 = .ok (.iload 7, 2) := by decide +kernel
theorem kd_Mc_runTimer_306 : decode kc_Mc_runTimer 306 = .ok (.invokevirtual 115, 3) := by decide +kernel
theorem kd_Mc_runTimer_309 : decode kc_Mc_runTimer 309 = .ok (.aload_n 0, 1) := by decide +kernel
theorem kd_Mc_runTimer_310 : decode kc_Mc_runTimer 310 = .ok (.iload_n 2, 1) := by decide +kernel
theorem kd_Mc_runTimer_311 : decode kc_Mc_runTimer 311 = .ok (.iconst 4, 1) := by decide +kernel
theorem kd_Mc_runTimer_312 : decode kc_Mc_runTimer 312 = .ok (.iadd, 1) := by decide +kernel
theorem kd_Mc_runTimer_313 : decode kc_Mc_runTimer 313 = .ok (.iload_n 3, 1) := by decide +kernel
theorem kd_Mc_runTimer_314 : decode kc_Mc_runTimer 314 = .ok (.ifCond .eq 7, 3) := by decide +kernel
theorem kd_Mc_runTimer_317 : decode kc_Mc_runTimer 317 = .ok (.iconst 1, 1) := by decide +kernel
theorem kd_Mc_runTimer_318 : decode kc_Mc_runTimer 318 = .ok (.goto 4, 3) := by decide +kernel
theorem kd_Mc_runTimer_321 : decode kc_Mc_runTimer 321 = .ok (.iconst 0, 1) := by decide +kernel
theorem kd_Mc_runTimer_322 : decode kc_Mc_runTimer 322 = .ok (.invokevirtual 115, 3) := by decide +kernel
theorem kd_Mc_runTimer_325 : decode kc_Mc_runTimer 325 = .ok (.aload_n 0, 1) := by decide +kernel
theorem kd_Mc_runTimer_326 : decode kc_Mc_runTimer 326 = .ok (.iload_n 2, 1) := by decide +kernel
theorem kd_Mc_runTimer_327 : decode kc_Mc_runTimer 327 = .ok (.iconst 5, 1) := by decide +kernel
theorem kd_Mc_runTimer_328 : decode kc_Mc_runTimer 328 = .ok (.iadd, 1) := by decide +kernel
theorem kd_Mc_runTimer_329 : decode kc_Mc_runTimer 329 = .ok (.aload_n 0, 1) := by decide +kernel
theorem kd_Mc_runTimer_330 : decode kc_Mc_runTimer 330 = .ok (.getfield 61, 3) := by decide +kernel
theorem kd_Mc_runTimer_333 : decode kc_Mc_runTimer 333 = .ok (.invokevirtual 115, 3) := by decide +kernel
theorem kd_Mc_runTimer_336 : decode kc_Mc_runTimer 336 = .ok (.return_, 1) := by decide +kernel
set_option maxHeartbeats 4000000 in
set_option maxRecDepth 100000 in
theorem zc_Cd_two {l : Launch} {D : va_G} {sz0 : Nat} {S : zs_T} {P : ze_T} (h : zs_H) (x0 : Int32) (x1 : Int32) (x2 : Int32) {rv : Int32} (e : f_Cd_two x0 x1 x2 = some rv) : zk_Sp (zs_G S l D sz0) (ze_E P) km_Cd_two { frames := 1, cells := 0, slots := 0, locals := 23 } [.int x0, .int x1, .int x2] (zs_W S h) (zd_PI S rv h) := by
  refine zk_met ku_Cd_two (Nat.le_of_ble_eq_true rfl) (ze_Em P) ?_
  intro X C hR
  refine zk_lvs (lv' := [(0, .int x0), (1, .int x1), (2, .int x2)]) [0, 1, 2] rfl ?_
  unfold f_Cd_two at e
  refine zk_iload_n C kd_Cd_two_0 rfl 0 rfl rfl ?_
  by_cases b1 : x0 = 0
  · replace e := zd_pos b1 e
    refine zk_tableIn (tgt := 112) C kd_Cd_two_1 (by rw [b1]; decide) (by rw [b1]; decide) (by rw [b1]; rfl) (by decide) ?_
    refine zk_iload_n C kd_Cd_two_112 rfl 1 rfl rfl ?_
    refine zk_iload_n C kd_Cd_two_113 rfl 2 rfl rfl ?_
    refine zk_iadd C kd_Cd_two_114 rfl ?_
    refine zk_i2s C kd_Cd_two_115 rfl ?_
    exact zk_iret C hR kd_Cd_two_116 rfl rfl (zd_rIO e)
  replace e := zd_neg b1 e
  by_cases b2 : x0 = 1
  · replace e := zd_pos b2 e
    refine zk_tableIn (tgt := 117) C kd_Cd_two_1 (by rw [b2]; decide) (by rw [b2]; decide) (by rw [b2]; rfl) (by decide) ?_
    refine zk_iload_n C kd_Cd_two_117 rfl 1 rfl rfl ?_
    refine zk_iload_n C kd_Cd_two_118 rfl 2 rfl rfl ?_
    refine zk_isub C kd_Cd_two_119 rfl ?_
    refine zk_i2s C kd_Cd_two_120 rfl ?_
    exact zk_iret C hR kd_Cd_two_121 rfl rfl (zd_rIO e)
  replace e := zd_neg b2 e
  by_cases b3 : x0 = 2
  · replace e := zd_pos b3 e
    refine zk_tableIn (tgt := 122) C kd_Cd_two_1 (by rw [b3]; decide) (by rw [b3]; decide) (by rw [b3]; rfl) (by decide) ?_
    refine zk_iload_n C kd_Cd_two_122 rfl 1 rfl rfl ?_
    refine zk_iload_n C kd_Cd_two_123 rfl 2 rfl rfl ?_
    refine zk_imul C kd_Cd_two_124 rfl ?_
    refine zk_i2s C kd_Cd_two_125 rfl ?_
    exact zk_iret C hR kd_Cd_two_126 rfl rfl (zd_rIO e)
  replace e := zd_neg b3 e
  by_cases b4 : x0 = 3
  · replace e := zd_pos b4 e
    refine zk_tableIn (tgt := 127) C kd_Cd_two_1 (by rw [b4]; decide) (by rw [b4]; decide) (by rw [b4]; rfl) (by decide) ?_
    refine zk_iload_n C kd_Cd_two_127 rfl 2 rfl rfl ?_
    refine zk_if_ne (tgt := 135) C kd_Cd_two_128 (by decide) rfl (fun b5 => ?_) (fun b5 => ?_)
    · replace e := zd_neg b5 e
      refine zk_iload_n C kd_Cd_two_135 rfl 1 rfl rfl ?_
      refine zk_iload_n C kd_Cd_two_136 rfl 2 rfl rfl ?_
      obtain ⟨q6, e⟩ := zd_gn e
      refine zk_idiv C kd_Cd_two_137 q6 rfl ?_
      refine zk_i2s C kd_Cd_two_138 rfl ?_
      exact zk_iret C hR kd_Cd_two_139 rfl rfl (zd_rIO e)
    · replace e := zd_pos b5 e
      refine zk_iconst (v := 0) C kd_Cd_two_131 (by decide) rfl ?_
      refine zk_goto (tgt := 139) C kd_Cd_two_132 (by decide) ?_
      exact zk_iret C hR kd_Cd_two_139 rfl rfl (zd_rIO e)
  replace e := zd_neg b4 e
  by_cases b7 : x0 = 4
  · replace e := zd_pos b7 e
    refine zk_tableIn (tgt := 140) C kd_Cd_two_1 (by rw [b7]; decide) (by rw [b7]; decide) (by rw [b7]; rfl) (by decide) ?_
    refine zk_iload_n C kd_Cd_two_140 rfl 2 rfl rfl ?_
    refine zk_if_ne (tgt := 148) C kd_Cd_two_141 (by decide) rfl (fun b8 => ?_) (fun b8 => ?_)
    · replace e := zd_neg b8 e
      refine zk_iload_n C kd_Cd_two_148 rfl 1 rfl rfl ?_
      refine zk_iload_n C kd_Cd_two_149 rfl 2 rfl rfl ?_
      obtain ⟨q9, e⟩ := zd_gn e
      refine zk_irem C kd_Cd_two_150 q9 rfl ?_
      refine zk_i2s C kd_Cd_two_151 rfl ?_
      exact zk_iret C hR kd_Cd_two_152 rfl rfl (zd_rIO e)
    · replace e := zd_pos b8 e
      refine zk_iconst (v := 0) C kd_Cd_two_144 (by decide) rfl ?_
      refine zk_goto (tgt := 152) C kd_Cd_two_145 (by decide) ?_
      exact zk_iret C hR kd_Cd_two_152 rfl rfl (zd_rIO e)
  replace e := zd_neg b7 e
  by_cases b10 : x0 = 5
  · replace e := zd_pos b10 e
    refine zk_tableIn (tgt := 153) C kd_Cd_two_1 (by rw [b10]; decide) (by rw [b10]; decide) (by rw [b10]; rfl) (by decide) ?_
    refine zk_iload_n C kd_Cd_two_153 rfl 1 rfl rfl ?_
    refine zk_iload_n C kd_Cd_two_154 rfl 2 rfl rfl ?_
    refine zk_iadd C kd_Cd_two_155 rfl ?_
    exact zk_iret C hR kd_Cd_two_156 rfl rfl (zd_rIO e)
  replace e := zd_neg b10 e
  by_cases b11 : x0 = 6
  · replace e := zd_pos b11 e
    refine zk_tableIn (tgt := 157) C kd_Cd_two_1 (by rw [b11]; decide) (by rw [b11]; decide) (by rw [b11]; rfl) (by decide) ?_
    refine zk_iload_n C kd_Cd_two_157 rfl 1 rfl rfl ?_
    refine zk_iload_n C kd_Cd_two_158 rfl 2 rfl rfl ?_
    refine zk_isub C kd_Cd_two_159 rfl ?_
    exact zk_iret C hR kd_Cd_two_160 rfl rfl (zd_rIO e)
  replace e := zd_neg b11 e
  by_cases b12 : x0 = 7
  · replace e := zd_pos b12 e
    refine zk_tableIn (tgt := 161) C kd_Cd_two_1 (by rw [b12]; decide) (by rw [b12]; decide) (by rw [b12]; rfl) (by decide) ?_
    refine zk_iload_n C kd_Cd_two_161 rfl 1 rfl rfl ?_
    refine zk_iload_n C kd_Cd_two_162 rfl 2 rfl rfl ?_
    refine zk_imul C kd_Cd_two_163 rfl ?_
    exact zk_iret C hR kd_Cd_two_164 rfl rfl (zd_rIO e)
  replace e := zd_neg b12 e
  by_cases b13 : x0 = 8
  · replace e := zd_pos b13 e
    refine zk_tableIn (tgt := 165) C kd_Cd_two_1 (by rw [b13]; decide) (by rw [b13]; decide) (by rw [b13]; rfl) (by decide) ?_
    refine zk_iload_n C kd_Cd_two_165 rfl 2 rfl rfl ?_
    refine zk_if_ne (tgt := 173) C kd_Cd_two_166 (by decide) rfl (fun b14 => ?_) (fun b14 => ?_)
    · replace e := zd_neg b14 e
      refine zk_iload_n C kd_Cd_two_173 rfl 1 rfl rfl ?_
      refine zk_iload_n C kd_Cd_two_174 rfl 2 rfl rfl ?_
      obtain ⟨q15, e⟩ := zd_gn e
      refine zk_idiv C kd_Cd_two_175 q15 rfl ?_
      exact zk_iret C hR kd_Cd_two_176 rfl rfl (zd_rIO e)
    · replace e := zd_pos b14 e
      refine zk_iconst (v := 0) C kd_Cd_two_169 (by decide) rfl ?_
      refine zk_goto (tgt := 176) C kd_Cd_two_170 (by decide) ?_
      exact zk_iret C hR kd_Cd_two_176 rfl rfl (zd_rIO e)
  replace e := zd_neg b13 e
  by_cases b16 : x0 = 9
  · replace e := zd_pos b16 e
    refine zk_tableIn (tgt := 177) C kd_Cd_two_1 (by rw [b16]; decide) (by rw [b16]; decide) (by rw [b16]; rfl) (by decide) ?_
    refine zk_iload_n C kd_Cd_two_177 rfl 2 rfl rfl ?_
    refine zk_if_ne (tgt := 185) C kd_Cd_two_178 (by decide) rfl (fun b17 => ?_) (fun b17 => ?_)
    · replace e := zd_neg b17 e
      refine zk_iload_n C kd_Cd_two_185 rfl 1 rfl rfl ?_
      refine zk_iload_n C kd_Cd_two_186 rfl 2 rfl rfl ?_
      obtain ⟨q18, e⟩ := zd_gn e
      refine zk_irem C kd_Cd_two_187 q18 rfl ?_
      exact zk_iret C hR kd_Cd_two_188 rfl rfl (zd_rIO e)
    · replace e := zd_pos b17 e
      refine zk_iconst (v := 0) C kd_Cd_two_181 (by decide) rfl ?_
      refine zk_goto (tgt := 188) C kd_Cd_two_182 (by decide) ?_
      exact zk_iret C hR kd_Cd_two_188 rfl rfl (zd_rIO e)
  replace e := zd_neg b16 e
  by_cases b19 : x0 = 10
  · replace e := zd_pos b19 e
    refine zk_tableIn (tgt := 189) C kd_Cd_two_1 (by rw [b19]; decide) (by rw [b19]; decide) (by rw [b19]; rfl) (by decide) ?_
    refine zk_iload_n C kd_Cd_two_189 rfl 1 rfl rfl ?_
    refine zk_iload_n C kd_Cd_two_190 rfl 2 rfl rfl ?_
    refine zk_iand C kd_Cd_two_191 rfl ?_
    exact zk_iret C hR kd_Cd_two_192 rfl rfl (zd_rIO e)
  replace e := zd_neg b19 e
  by_cases b20 : x0 = 11
  · replace e := zd_pos b20 e
    refine zk_tableIn (tgt := 193) C kd_Cd_two_1 (by rw [b20]; decide) (by rw [b20]; decide) (by rw [b20]; rfl) (by decide) ?_
    refine zk_iload_n C kd_Cd_two_193 rfl 1 rfl rfl ?_
    refine zk_iload_n C kd_Cd_two_194 rfl 2 rfl rfl ?_
    refine zk_ior C kd_Cd_two_195 rfl ?_
    exact zk_iret C hR kd_Cd_two_196 rfl rfl (zd_rIO e)
  replace e := zd_neg b20 e
  by_cases b21 : x0 = 12
  · replace e := zd_pos b21 e
    refine zk_tableIn (tgt := 197) C kd_Cd_two_1 (by rw [b21]; decide) (by rw [b21]; decide) (by rw [b21]; rfl) (by decide) ?_
    refine zk_iload_n C kd_Cd_two_197 rfl 1 rfl rfl ?_
    refine zk_iload_n C kd_Cd_two_198 rfl 2 rfl rfl ?_
    refine zk_ixor C kd_Cd_two_199 rfl ?_
    exact zk_iret C hR kd_Cd_two_200 rfl rfl (zd_rIO e)
  replace e := zd_neg b21 e
  by_cases b22 : x0 = 13
  · replace e := zd_pos b22 e
    refine zk_tableIn (tgt := 201) C kd_Cd_two_1 (by rw [b22]; decide) (by rw [b22]; decide) (by rw [b22]; rfl) (by decide) ?_
    refine zk_iload_n C kd_Cd_two_201 rfl 1 rfl rfl ?_
    refine zk_iload_n C kd_Cd_two_202 rfl 2 rfl rfl ?_
    refine zk_icmp_ne (tgt := 210) C kd_Cd_two_203 (by decide) rfl (fun b23 => ?_) (fun b23 => ?_)
    · replace e := zd_neg b23 e
      refine zk_iconst (v := 0) C kd_Cd_two_210 (by decide) rfl ?_
      exact zk_iret C hR kd_Cd_two_211 rfl rfl (zd_rIO e)
    · replace e := zd_pos b23 e
      refine zk_iconst (v := 1) C kd_Cd_two_206 (by decide) rfl ?_
      refine zk_goto (tgt := 211) C kd_Cd_two_207 (by decide) ?_
      exact zk_iret C hR kd_Cd_two_211 rfl rfl (zd_rIO e)
  replace e := zd_neg b22 e
  by_cases b24 : x0 = 14
  · replace e := zd_pos b24 e
    refine zk_tableIn (tgt := 212) C kd_Cd_two_1 (by rw [b24]; decide) (by rw [b24]; decide) (by rw [b24]; rfl) (by decide) ?_
    refine zk_iload_n C kd_Cd_two_212 rfl 1 rfl rfl ?_
    refine zk_iload_n C kd_Cd_two_213 rfl 2 rfl rfl ?_
    refine zk_icmp_eq (tgt := 221) C kd_Cd_two_214 (by decide) rfl (fun b25 => ?_) (fun b25 => ?_)
    · replace e := zd_pos b25 e
      refine zk_iconst (v := 0) C kd_Cd_two_221 (by decide) rfl ?_
      exact zk_iret C hR kd_Cd_two_222 rfl rfl (zd_rIO e)
    · replace e := zd_neg b25 e
      refine zk_iconst (v := 1) C kd_Cd_two_217 (by decide) rfl ?_
      refine zk_goto (tgt := 222) C kd_Cd_two_218 (by decide) ?_
      exact zk_iret C hR kd_Cd_two_222 rfl rfl (zd_rIO e)
  replace e := zd_neg b24 e
  by_cases b26 : x0 = 15
  · replace e := zd_pos b26 e
    refine zk_tableIn (tgt := 223) C kd_Cd_two_1 (by rw [b26]; decide) (by rw [b26]; decide) (by rw [b26]; rfl) (by decide) ?_
    refine zk_iload_n C kd_Cd_two_223 rfl 1 rfl rfl ?_
    refine zk_iload_n C kd_Cd_two_224 rfl 2 rfl rfl ?_
    refine zk_icmp_ge (tgt := 232) C kd_Cd_two_225 (by decide) rfl (fun b27 => ?_) (fun b27 => ?_)
    · replace e := zd_pos b27 e
      refine zk_iconst (v := 0) C kd_Cd_two_232 (by decide) rfl ?_
      exact zk_iret C hR kd_Cd_two_233 rfl rfl (zd_rIO e)
    · replace e := zd_neg b27 e
      refine zk_iconst (v := 1) C kd_Cd_two_228 (by decide) rfl ?_
      refine zk_goto (tgt := 233) C kd_Cd_two_229 (by decide) ?_
      exact zk_iret C hR kd_Cd_two_233 rfl rfl (zd_rIO e)
  replace e := zd_neg b26 e
  by_cases b28 : x0 = 16
  · replace e := zd_pos b28 e
    refine zk_tableIn (tgt := 234) C kd_Cd_two_1 (by rw [b28]; decide) (by rw [b28]; decide) (by rw [b28]; rfl) (by decide) ?_
    refine zk_iload_n C kd_Cd_two_234 rfl 1 rfl rfl ?_
    refine zk_iload_n C kd_Cd_two_235 rfl 2 rfl rfl ?_
    refine zk_icmp_le (tgt := 243) C kd_Cd_two_236 (by decide) rfl (fun b29 => ?_) (fun b29 => ?_)
    · replace e := zd_pos b29 e
      refine zk_iconst (v := 0) C kd_Cd_two_243 (by decide) rfl ?_
      exact zk_iret C hR kd_Cd_two_244 rfl rfl (zd_rIO e)
    · replace e := zd_neg b29 e
      refine zk_iconst (v := 1) C kd_Cd_two_239 (by decide) rfl ?_
      refine zk_goto (tgt := 244) C kd_Cd_two_240 (by decide) ?_
      exact zk_iret C hR kd_Cd_two_244 rfl rfl (zd_rIO e)
  replace e := zd_neg b28 e
  by_cases b30 : x0 = 17
  · replace e := zd_pos b30 e
    refine zk_tableIn (tgt := 245) C kd_Cd_two_1 (by rw [b30]; decide) (by rw [b30]; decide) (by rw [b30]; rfl) (by decide) ?_
    refine zk_iload_n C kd_Cd_two_245 rfl 1 rfl rfl ?_
    refine zk_iload_n C kd_Cd_two_246 rfl 2 rfl rfl ?_
    refine zk_icmp_gt (tgt := 254) C kd_Cd_two_247 (by decide) rfl (fun b31 => ?_) (fun b31 => ?_)
    · replace e := zd_pos b31 e
      refine zk_iconst (v := 0) C kd_Cd_two_254 (by decide) rfl ?_
      exact zk_iret C hR kd_Cd_two_255 rfl rfl (zd_rIO e)
    · replace e := zd_neg b31 e
      refine zk_iconst (v := 1) C kd_Cd_two_250 (by decide) rfl ?_
      refine zk_goto (tgt := 255) C kd_Cd_two_251 (by decide) ?_
      exact zk_iret C hR kd_Cd_two_255 rfl rfl (zd_rIO e)
  replace e := zd_neg b30 e
  by_cases b32 : x0 = 18
  · replace e := zd_pos b32 e
    refine zk_tableIn (tgt := 256) C kd_Cd_two_1 (by rw [b32]; decide) (by rw [b32]; decide) (by rw [b32]; rfl) (by decide) ?_
    refine zk_iload_n C kd_Cd_two_256 rfl 1 rfl rfl ?_
    refine zk_iload_n C kd_Cd_two_257 rfl 2 rfl rfl ?_
    refine zk_icmp_lt (tgt := 265) C kd_Cd_two_258 (by decide) rfl (fun b33 => ?_) (fun b33 => ?_)
    · replace e := zd_pos b33 e
      refine zk_iconst (v := 0) C kd_Cd_two_265 (by decide) rfl ?_
      exact zk_iret C hR kd_Cd_two_266 rfl rfl (zd_rIO e)
    · replace e := zd_neg b33 e
      refine zk_iconst (v := 1) C kd_Cd_two_261 (by decide) rfl ?_
      refine zk_goto (tgt := 266) C kd_Cd_two_262 (by decide) ?_
      exact zk_iret C hR kd_Cd_two_266 rfl rfl (zd_rIO e)
  replace e := zd_neg b32 e
  by_cases b34 : x0 = 19
  · replace e := zd_pos b34 e
    refine zk_tableIn (tgt := 267) C kd_Cd_two_1 (by rw [b34]; decide) (by rw [b34]; decide) (by rw [b34]; rfl) (by decide) ?_
    refine zk_iload_n C kd_Cd_two_267 rfl 2 rfl rfl ?_
    refine zk_if_lt (tgt := 277) C kd_Cd_two_268 (by decide) rfl (fun b35 => ?_) (fun b35 => ?_)
    · replace e := zd_pos b35 e
      refine zk_iconst (v := 0) C kd_Cd_two_277 (by decide) rfl ?_
      refine zk_goto (tgt := 285) C kd_Cd_two_278 (by decide) ?_
      exact zk_iret C hR kd_Cd_two_285 rfl rfl (zd_rIO e)
    · replace e := zd_neg b35 e
      refine zk_iload_n C kd_Cd_two_271 rfl 2 rfl rfl ?_
      refine zk_bipush (v := 15) C kd_Cd_two_272 (by decide) rfl ?_
      refine zk_icmp_le (tgt := 281) C kd_Cd_two_274 (by decide) rfl (fun b36 => ?_) (fun b36 => ?_)
      · replace e := zd_pos b36 e
        refine zk_iload_n C kd_Cd_two_281 rfl 1 rfl rfl ?_
        refine zk_iload_n C kd_Cd_two_282 rfl 2 rfl rfl ?_
        refine zk_ishl C kd_Cd_two_283 rfl ?_
        refine zk_i2s C kd_Cd_two_284 rfl ?_
        exact zk_iret C hR kd_Cd_two_285 rfl rfl (zd_rIO e)
      · replace e := zd_neg b36 e
        refine zk_iconst (v := 0) C kd_Cd_two_277 (by decide) rfl ?_
        refine zk_goto (tgt := 285) C kd_Cd_two_278 (by decide) ?_
        exact zk_iret C hR kd_Cd_two_285 rfl rfl (zd_rIO e)
  replace e := zd_neg b34 e
  by_cases b37 : x0 = 20
  · replace e := zd_pos b37 e
    refine zk_tableIn (tgt := 286) C kd_Cd_two_1 (by rw [b37]; decide) (by rw [b37]; decide) (by rw [b37]; rfl) (by decide) ?_
    refine zk_iload_n C kd_Cd_two_286 rfl 2 rfl rfl ?_
    refine zk_if_lt (tgt := 296) C kd_Cd_two_287 (by decide) rfl (fun b38 => ?_) (fun b38 => ?_)
    · replace e := zd_pos b38 e
      refine zk_iconst (v := 0) C kd_Cd_two_296 (by decide) rfl ?_
      refine zk_goto (tgt := 307) C kd_Cd_two_297 (by decide) ?_
      exact zk_iret C hR kd_Cd_two_307 rfl rfl (zd_rIO e)
    · replace e := zd_neg b38 e
      refine zk_iload_n C kd_Cd_two_290 rfl 2 rfl rfl ?_
      refine zk_bipush (v := 15) C kd_Cd_two_291 (by decide) rfl ?_
      refine zk_icmp_le (tgt := 300) C kd_Cd_two_293 (by decide) rfl (fun b39 => ?_) (fun b39 => ?_)
      · replace e := zd_pos b39 e
        refine zk_iload_n C kd_Cd_two_300 rfl 1 rfl rfl ?_
        refine zk_ldc (v := 65535) C kw1233 kd_Cd_two_301 rfl ?_
        refine zk_iand C kd_Cd_two_303 rfl ?_
        refine zk_iload_n C kd_Cd_two_304 rfl 2 rfl rfl ?_
        refine zk_ishr C kd_Cd_two_305 rfl ?_
        refine zk_i2s C kd_Cd_two_306 rfl ?_
        exact zk_iret C hR kd_Cd_two_307 rfl rfl (zd_rIO e)
      · replace e := zd_neg b39 e
        refine zk_iconst (v := 0) C kd_Cd_two_296 (by decide) rfl ?_
        refine zk_goto (tgt := 307) C kd_Cd_two_297 (by decide) ?_
        exact zk_iret C hR kd_Cd_two_307 rfl rfl (zd_rIO e)
  replace e := zd_neg b37 e
  by_cases b40 : x0 = 21
  · replace e := zd_pos b40 e
    refine zk_tableIn (tgt := 308) C kd_Cd_two_1 (by rw [b40]; decide) (by rw [b40]; decide) (by rw [b40]; rfl) (by decide) ?_
    refine zk_iload_n C kd_Cd_two_308 rfl 2 rfl rfl ?_
    refine zk_if_lt (tgt := 318) C kd_Cd_two_309 (by decide) rfl (fun b41 => ?_) (fun b41 => ?_)
    · replace e := zd_pos b41 e
      refine zk_iconst (v := 0) C kd_Cd_two_318 (by decide) rfl ?_
      refine zk_goto (tgt := 325) C kd_Cd_two_319 (by decide) ?_
      exact zk_iret C hR kd_Cd_two_325 rfl rfl (zd_rIO e)
    · replace e := zd_neg b41 e
      refine zk_iload_n C kd_Cd_two_312 rfl 2 rfl rfl ?_
      refine zk_bipush (v := 31) C kd_Cd_two_313 (by decide) rfl ?_
      refine zk_icmp_le (tgt := 322) C kd_Cd_two_315 (by decide) rfl (fun b42 => ?_) (fun b42 => ?_)
      · replace e := zd_pos b42 e
        refine zk_iload_n C kd_Cd_two_322 rfl 1 rfl rfl ?_
        refine zk_iload_n C kd_Cd_two_323 rfl 2 rfl rfl ?_
        refine zk_ishl C kd_Cd_two_324 rfl ?_
        exact zk_iret C hR kd_Cd_two_325 rfl rfl (zd_rIO e)
      · replace e := zd_neg b42 e
        refine zk_iconst (v := 0) C kd_Cd_two_318 (by decide) rfl ?_
        refine zk_goto (tgt := 325) C kd_Cd_two_319 (by decide) ?_
        exact zk_iret C hR kd_Cd_two_325 rfl rfl (zd_rIO e)
  replace e := zd_neg b40 e
  by_cases b43 : x0 = 22
  · replace e := zd_pos b43 e
    refine zk_tableIn (tgt := 326) C kd_Cd_two_1 (by rw [b43]; decide) (by rw [b43]; decide) (by rw [b43]; rfl) (by decide) ?_
    refine zk_iload_n C kd_Cd_two_326 rfl 2 rfl rfl ?_
    refine zk_if_lt (tgt := 336) C kd_Cd_two_327 (by decide) rfl (fun b44 => ?_) (fun b44 => ?_)
    · replace e := zd_pos b44 e
      refine zk_iconst (v := 0) C kd_Cd_two_336 (by decide) rfl ?_
      refine zk_goto (tgt := 343) C kd_Cd_two_337 (by decide) ?_
      exact zk_iret C hR kd_Cd_two_343 rfl rfl (zd_rIO e)
    · replace e := zd_neg b44 e
      refine zk_iload_n C kd_Cd_two_330 rfl 2 rfl rfl ?_
      refine zk_bipush (v := 31) C kd_Cd_two_331 (by decide) rfl ?_
      refine zk_icmp_le (tgt := 340) C kd_Cd_two_333 (by decide) rfl (fun b45 => ?_) (fun b45 => ?_)
      · replace e := zd_pos b45 e
        refine zk_iload_n C kd_Cd_two_340 rfl 1 rfl rfl ?_
        refine zk_iload_n C kd_Cd_two_341 rfl 2 rfl rfl ?_
        refine zk_iushr C kd_Cd_two_342 rfl ?_
        exact zk_iret C hR kd_Cd_two_343 rfl rfl (zd_rIO e)
      · replace e := zd_neg b45 e
        refine zk_iconst (v := 0) C kd_Cd_two_336 (by decide) rfl ?_
        refine zk_goto (tgt := 343) C kd_Cd_two_337 (by decide) ?_
        exact zk_iret C hR kd_Cd_two_343 rfl rfl (zd_rIO e)
  replace e := zd_neg b43 e
  by_cases b46 : x0 = 23
  · replace e := zd_pos b46 e
    refine zk_tableIn (tgt := 344) C kd_Cd_two_1 (by rw [b46]; decide) (by rw [b46]; decide) (by rw [b46]; rfl) (by decide) ?_
    refine zk_iload_n C kd_Cd_two_344 rfl 1 rfl rfl ?_
    refine zk_iload_n C kd_Cd_two_345 rfl 2 rfl rfl ?_
    refine zk_mmin C kw1219 kw816 kw19 (by decide) (Nat.le_of_ble_eq_true rfl) (Nat.le_refl _) (Nat.le_refl _) kd_Cd_two_346 rfl ?_
    exact zk_iret C hR kd_Cd_two_349 rfl rfl (zd_rIO e)
  replace e := zd_neg b46 e
  refine zk_tableOut (tgt := 350) C kd_Cd_two_1 (by have := lv_neT b1 (a := 0) (by decide); have := lv_neT b2 (a := 1) (by decide); have := lv_neT b3 (a := 2) (by decide); have := lv_neT b4 (a := 3) (by decide); have := lv_neT b7 (a := 4) (by decide); have := lv_neT b10 (a := 5) (by decide); have := lv_neT b11 (a := 6) (by decide); have := lv_neT b12 (a := 7) (by decide); have := lv_neT b13 (a := 8) (by decide); have := lv_neT b16 (a := 9) (by decide); have := lv_neT b19 (a := 10) (by decide); have := lv_neT b20 (a := 11) (by decide); have := lv_neT b21 (a := 12) (by decide); have := lv_neT b22 (a := 13) (by decide); have := lv_neT b24 (a := 14) (by decide); have := lv_neT b26 (a := 15) (by decide); have := lv_neT b28 (a := 16) (by decide); have := lv_neT b30 (a := 17) (by decide); have := lv_neT b32 (a := 18) (by decide); have := lv_neT b34 (a := 19) (by decide); have := lv_neT b37 (a := 20) (by decide); have := lv_neT b40 (a := 21) (by decide); have := lv_neT b43 (a := 22) (by decide); have := lv_neT b46 (a := 23) (by decide); omega) (by decide) ?_
  refine zk_iload_n C kd_Cd_two_350 rfl 1 rfl rfl ?_
  refine zk_iload_n C kd_Cd_two_351 rfl 2 rfl rfl ?_
  refine zk_mmax C kw1218 kw797 kw19 (by decide) (Nat.le_of_ble_eq_true rfl) (Nat.le_refl _) (Nat.le_refl _) kd_Cd_two_352 rfl ?_
  exact zk_iret C hR kd_Cd_two_355 rfl rfl (zd_rIO e)
set_option maxHeartbeats 4000000 in
set_option maxRecDepth 100000 in
theorem zc_Mc_computeTwo {l : Launch} {D : va_G} {sz0 : Nat} {S : zs_T} {P : ze_T} (h : zs_H) (x1 : Int32) {rv : Int32} {rh : zs_H} (e : f_Mc_computeTwo h x1 = some (rv, rh)) : zk_Sp (zs_G S l D sz0) (ze_E P) km_Mc_computeTwo { frames := 2, cells := 0, slots := 0, locals := 45 } [.ref (S.1 58), .int x1] (zs_W S h) (zd_PI S rv rh) := by
  refine zk_met ku_Mc_computeTwo (Nat.le_of_ble_eq_true rfl) (ze_Em P) ?_
  intro X C hR
  refine zk_lvs (lv' := [(0, .ref (S.1 58)), (1, .int x1)]) [0, 1] rfl ?_
  unfold f_Mc_computeTwo at e
  refine zk_aload_n C kd_Mc_computeTwo_0 rfl 0 rfl rfl ?_
  obtain ⟨v2, h3, c1, e⟩ := zd_Be e
  refine zs_callV (k := 58) (rn := { frames := 0, cells := 0, slots := 0, locals := 0 }) (As := []) (rest := []) C (zc_Mc_takeOff h c1) ku_Mc_takeOff kw1538 kv_Mc_takeOff rfl ⟨by decide, by decide⟩ ⟨by decide, by decide⟩ rfl rfl rfl (Nat.le_of_ble_eq_true rfl) kd_Mc_computeTwo_1 rfl (c1 := 0) (s1 := 0) rfl rfl (fun v w hp => ?_)
  obtain ⟨rfl, rfl⟩ := hp
  refine zk_stk (r' := [.int v2]) rfl ?_
  refine zk_istore_n (lv' := [(2, _), (0, _), (1, _)]) C kd_Mc_computeTwo_4 rfl (by decide) rfl rfl ?_
  refine zk_aload_n C kd_Mc_computeTwo_5 rfl 1 rfl rfl ?_
  obtain ⟨v5, h6, c4, e⟩ := zd_Be e
  refine zs_callV (k := 58) (rn := { frames := 0, cells := 0, slots := 0, locals := 0 }) (As := []) (rest := []) C (zc_Mc_takeOff h3 c4) ku_Mc_takeOff kw1538 kv_Mc_takeOff rfl ⟨by decide, by decide⟩ ⟨by decide, by decide⟩ rfl rfl rfl (Nat.le_of_ble_eq_true rfl) kd_Mc_computeTwo_6 rfl (c1 := 0) (s1 := 0) rfl rfl (fun v w hp => ?_)
  obtain ⟨rfl, rfl⟩ := hp
  refine zk_stk (r' := [.int v5]) rfl ?_
  refine zk_istore_n (lv' := [(3, _), (2, _), (0, _), (1, _)]) C kd_Mc_computeTwo_9 rfl (by decide) rfl rfl ?_
  refine zk_iload_n C kd_Mc_computeTwo_10 rfl 3 rfl rfl ?_
  refine zk_iload_n C kd_Mc_computeTwo_11 rfl 1 rfl rfl ?_
  refine zk_callS (rn := { frames := 0, cells := 0, slots := 0, locals := 0 }) (As := [.int x1, .int v2]) (rest := []) C (zc_Cd_isByZero h6 x1 v2) ku_Cd_isByZero kw1550 ks_Cd_isByZero rfl ⟨by decide, by decide⟩ ⟨by decide, by decide⟩ rfl (Nat.le_of_ble_eq_true rfl) kd_Mc_computeTwo_12 rfl (c1 := 0) (s1 := 0) rfl rfl (fun v w hp => ?_)
  obtain ⟨rfl, rfl, z7⟩ := hp
  refine zk_stk (r' := [.int (f_Cd_isByZero x1 v2)]) rfl ?_
  refine zk_if_eq (tgt := 21) C kd_Mc_computeTwo_15 (by decide) rfl (fun b8 => ?_) (fun b8 => ?_)
  · replace e := zd_pos b8 e
    refine zk_aload_n C kd_Mc_computeTwo_21 rfl 2 rfl rfl ?_
    refine zk_iload_n C kd_Mc_computeTwo_22 rfl 3 rfl rfl ?_
    refine zk_iload_n C kd_Mc_computeTwo_23 rfl 0 rfl rfl ?_
    refine zk_iload_n C kd_Mc_computeTwo_24 rfl 1 rfl rfl ?_
    obtain ⟨v10, c9, e⟩ := zd_b e
    refine zk_callS (rn := { frames := 1, cells := 0, slots := 0, locals := 23 }) (As := [.int x1, .int v5, .int v2]) (rest := [.ref (S.1 58)]) C (zc_Cd_two h6 x1 v5 v2 c9) ku_Cd_two kw1551 ks_Cd_two rfl ⟨by decide, by decide⟩ ⟨by decide, by decide⟩ rfl (Nat.le_of_ble_eq_true rfl) kd_Mc_computeTwo_25 rfl (c1 := 0) (s1 := 0) rfl rfl (fun v w hp => ?_)
    obtain ⟨rfl, rfl⟩ := hp
    refine zk_stk (r' := [.int v10, .ref (S.1 58)]) rfl ?_
    obtain ⟨h12, c11, e⟩ := zd_b e
    refine zs_callV (k := 58) (rn := { frames := 0, cells := 0, slots := 0, locals := 0 }) (As := [.int v10]) (rest := []) C (zc_Mc_lay h6 v10 c11) ku_Mc_lay kw1530 kv_Mc_lay rfl ⟨by decide, by decide⟩ ⟨by decide, by decide⟩ rfl rfl rfl (Nat.le_of_ble_eq_true rfl) kd_Mc_computeTwo_28 rfl (c1 := 0) (s1 := 0) rfl rfl (fun v w hp => ?_)
    obtain ⟨rfl, rfl⟩ := hp
    refine zk_stk (r' := []) rfl ?_
    refine zk_iconst (v := 0) C kd_Mc_computeTwo_31 (by decide) rfl ?_
    exact zk_iret C hR kd_Mc_computeTwo_32 rfl rfl (zd_rIS e)
  · replace e := zd_neg b8 e
    refine zk_bipush (v := (-3)) C kd_Mc_computeTwo_18 (by decide) rfl ?_
    exact zk_iret C hR kd_Mc_computeTwo_20 rfl rfl (zd_rIS e)
set_option maxHeartbeats 4000000 in
set_option maxRecDepth 100000 in
theorem zc_Mc_become {l : Launch} {D : va_G} {sz0 : Nat} {S : zs_T} {P : ze_T} (h : zs_H) (x1 : Int32) (x2 : Int32) {rh : zs_H} (e : f_Mc_become h x1 x2 = some rh) : zk_Sp (zs_G S l D sz0) (ze_E P) km_Mc_become { frames := 0, cells := 0, slots := 0, locals := 0 } [.ref (S.1 58), .int x1, .int x2] (zs_W S h) (zd_PV S rh) := by
  refine zk_met ku_Mc_become (Nat.le_of_ble_eq_true rfl) (ze_Em P) ?_
  intro X C hR
  refine zk_lvs (lv' := [(0, .ref (S.1 58)), (1, .int x1), (2, .int x2)]) [0, 1, 2] rfl ?_
  unfold f_Mc_become at e
  refine zk_iload_n C kd_Mc_become_0 rfl 1 rfl rfl ?_
  refine zk_if_lt (tgt := 20) C kd_Mc_become_1 (by decide) rfl (fun b1 => ?_) (fun b1 => ?_)
  · replace e := zd_pos b1 e
    exact zk_vret C hR kd_Mc_become_20 rfl rfl (zd_rV e)
  · replace e := zd_neg b1 e
    refine zk_iload_n C kd_Mc_become_4 rfl 1 rfl rfl ?_
    refine zk_aload_n C kd_Mc_become_5 rfl 0 rfl rfl ?_
    refine zs_get (v := .ref (S.1 62)) C 58 12 rfl rfl rfl rfl ki_Mc (by decide) kw539 kd_Mc_become_6 rfl ?_
    refine zs_alen (v := 8192) C 62 rfl (by decide) rfl kd_Mc_become_9 rfl ?_
    refine zk_icmp_ge (tgt := 20) C kd_Mc_become_10 (by decide) rfl (fun b2 => ?_) (fun b2 => ?_)
    · replace e := zd_pos b2 e
      exact zk_vret C hR kd_Mc_become_20 rfl rfl (zd_rV e)
    · replace e := zd_neg b2 e
      refine zk_aload_n C kd_Mc_become_13 rfl 0 rfl rfl ?_
      refine zs_get (v := .ref (S.1 62)) C 58 12 rfl rfl rfl rfl ki_Mc (by decide) kw539 kd_Mc_become_14 rfl ?_
      refine zk_iload_n C kd_Mc_become_17 rfl 1 rfl rfl ?_
      refine zk_iload_n C kd_Mc_become_18 rfl 2 rfl rfl ?_
      obtain ⟨q3, e⟩ := zd_g e
      refine zs_iast C 62 rfl (zd_vp q3) kd_Mc_become_19 rfl ?_
      exact zk_vret C hR kd_Mc_become_20 rfl rfl (zd_rV e)
set_option maxHeartbeats 4000000 in
set_option maxRecDepth 100000 in
theorem zb_Mc_element_12 {X : zkj_T} {S : zs_T} {P : ze_T} {l : Launch} {D : va_G} {sz0 : Nat} {rv : Int32} {rh : zs_H} (C : zk_C X km_Mc_element (zs_G S l D sz0) { frames := 1, cells := 0, slots := 0, locals := 22 } (ze_E P)) (hR : zkj_R X (zd_PI S rv rh) (some .int)) (h : zs_H) (x1 : Int32) (x2 : Int32) (y0 : Int32) (e : f_Mc_element_12 h x1 x2 y0 = some (rv, rh)) : zk_Ab X (zs_W S h) 0 0 12 [(0, .ref (S.1 58)), (1, .int x1), (2, .int x2)] [.int y0] := by
  unfold f_Mc_element_12 at e
  refine zk_istore_n (lv' := [(3, _), (0, _), (1, _), (2, _)]) C kd_Mc_element_12 rfl (by decide) rfl rfl ?_
  refine zk_aload_n C kd_Mc_element_13 rfl 1 rfl rfl ?_
  obtain ⟨v2, h3, c1, e⟩ := zd_Be e
  refine zs_callV (k := 58) (rn := { frames := 0, cells := 0, slots := 0, locals := 0 }) (As := []) (rest := []) C (zc_Mc_takeOff h c1) ku_Mc_takeOff kw1538 kv_Mc_takeOff rfl ⟨by decide, by decide⟩ ⟨by decide, by decide⟩ rfl rfl rfl (Nat.le_of_ble_eq_true rfl) kd_Mc_element_14 rfl (c1 := 0) (s1 := 0) rfl rfl (fun v w hp => ?_)
  obtain ⟨rfl, rfl⟩ := hp
  refine zk_stk (r' := [.int v2]) rfl ?_
  refine zk_i2l C kd_Mc_element_17 rfl ?_
  refine zk_aload_n C kd_Mc_element_18 rfl 1 rfl rfl ?_
  refine zs_get (v := .ref (S.1 41)) C 58 10 rfl rfl rfl rfl ki_Mc (by decide) kw537 kd_Mc_element_19 rfl ?_
  refine zs_get (v := .ref (S.1 44)) C 41 2 rfl rfl rfl rfl ki_Cd (by decide) kw409 kd_Mc_element_22 rfl ?_
  refine zk_iload_n C kd_Mc_element_25 rfl 2 rfl rfl ?_
  obtain ⟨q4, e⟩ := zd_g e
  refine zs_iald C 44 rfl (zd_vp q4) kd_Mc_element_26 rfl ?_
  refine zk_i2l C kd_Mc_element_27 rfl ?_
  refine zk_lsub C kd_Mc_element_28 rfl ?_
  refine zk_lstore (lv' := [(4, _), (3, _), (0, _), (1, _), (2, _)]) C kd_Mc_element_29 (by decide) rfl rfl ?_
  refine zk_lload C kd_Mc_element_31 0 rfl rfl ?_
  refine zk_lconst (v := 0) C kd_Mc_element_33 (by decide) rfl ?_
  refine zk_lcmp C kd_Mc_element_34 rfl ?_
  refine zk_if_lt (tgt := 54) C kd_Mc_element_35 (by decide) rfl (fun b5 => ?_) (fun b5 => ?_)
  · replace e := zd_pos (zd_clt.mp b5) e
    refine zk_bipush (v := (-4)) C kd_Mc_element_54 (by decide) rfl ?_
    exact zk_iret C hR kd_Mc_element_56 rfl rfl (zd_rIS e)
  · replace e := zd_neg (fun z => b5 (zd_clt.mpr z)) e
    refine zk_lload C kd_Mc_element_38 0 rfl rfl ?_
    refine zk_aload_n C kd_Mc_element_40 rfl 2 rfl rfl ?_
    refine zs_get (v := .ref (S.1 41)) C 58 10 rfl rfl rfl rfl ki_Mc (by decide) kw537 kd_Mc_element_41 rfl ?_
    refine zs_get (v := .ref (S.1 45)) C 41 3 rfl rfl rfl rfl ki_Cd (by decide) kw411 kd_Mc_element_44 rfl ?_
    refine zk_iload_n C kd_Mc_element_47 rfl 3 rfl rfl ?_
    refine zs_iald C 45 rfl (zd_vp q4) kd_Mc_element_48 rfl ?_
    refine zk_i2l C kd_Mc_element_49 rfl ?_
    refine zk_lcmp C kd_Mc_element_50 rfl ?_
    refine zk_if_lt (tgt := 57) C kd_Mc_element_51 (by decide) rfl (fun b6 => ?_) (fun b6 => ?_)
    · replace e := zd_pos (zd_clt.mp b6) e
      refine zk_aload_n C kd_Mc_element_57 rfl 2 rfl rfl ?_
      refine zs_get (v := .int (h3.1 58 20)) C 58 20 rfl rfl rfl rfl ki_Mc (by decide) kw547 kd_Mc_element_58 rfl ?_
      refine zk_aload_n C kd_Mc_element_61 rfl 2 rfl rfl ?_
      refine zs_get (v := .ref (S.1 41)) C 58 10 rfl rfl rfl rfl ki_Mc (by decide) kw537 kd_Mc_element_62 rfl ?_
      refine zs_get (v := .ref (S.1 43)) C 41 1 rfl rfl rfl rfl ki_Cd (by decide) kw406 kd_Mc_element_65 rfl ?_
      refine zk_iload_n C kd_Mc_element_68 rfl 3 rfl rfl ?_
      refine zs_iald C 43 rfl (zd_vp q4) kd_Mc_element_69 rfl ?_
      refine zk_iadd C kd_Mc_element_70 rfl ?_
      refine zk_lload C kd_Mc_element_71 0 rfl rfl ?_
      refine zk_l2i C kd_Mc_element_73 rfl ?_
      refine zk_iadd C kd_Mc_element_74 rfl ?_
      refine zk_istore (lv' := [(6, _), (4, _), (3, _), (0, _), (1, _), (2, _)]) C kd_Mc_element_75 (by decide) rfl rfl ?_
      refine zk_iload_n C kd_Mc_element_77 rfl 5 rfl rfl ?_
      refine zk_if_eq (tgt := 91) C kd_Mc_element_78 (by decide) rfl (fun b7 => ?_) (fun b7 => ?_)
      · replace e := zd_pos b7 e
        refine zk_aload_n C kd_Mc_element_91 rfl 3 rfl rfl ?_
        refine zk_aload_n C kd_Mc_element_92 rfl 3 rfl rfl ?_
        refine zk_iload C kd_Mc_element_93 0 rfl rfl ?_
        obtain ⟨v9, c8, e⟩ := zd_b e
        refine zs_callV (k := 58) (rn := { frames := 0, cells := 0, slots := 0, locals := 0 }) (As := [.int (((h3.1 58 20) + (h3.2.1 43 x1.toNatClampNeg)) + (((v2.toInt64) - ((h3.2.1 44 x1.toNatClampNeg).toInt64)).toInt32))]) (rest := [.ref (S.1 58)]) C (zc_Mc_cellAt h3 (((h3.1 58 20) + (h3.2.1 43 x1.toNatClampNeg)) + (((v2.toInt64) - ((h3.2.1 44 x1.toNatClampNeg).toInt64)).toInt32)) c8) ku_Mc_cellAt kw1534 kv_Mc_cellAt rfl ⟨by decide, by decide⟩ ⟨by decide, by decide⟩ rfl rfl rfl (Nat.le_of_ble_eq_true rfl) kd_Mc_element_95 rfl (c1 := 0) (s1 := 0) rfl rfl (fun v w hp => ?_)
        obtain ⟨rfl, rfl⟩ := hp
        refine zk_stk (r' := [.int v9, .ref (S.1 58)]) rfl ?_
        obtain ⟨h11, c10, e⟩ := zd_b e
        refine zs_callV (k := 58) (rn := { frames := 0, cells := 0, slots := 0, locals := 0 }) (As := [.int v9]) (rest := []) C (zc_Mc_lay h3 v9 c10) ku_Mc_lay kw1530 kv_Mc_lay rfl ⟨by decide, by decide⟩ ⟨by decide, by decide⟩ rfl rfl rfl (Nat.le_of_ble_eq_true rfl) kd_Mc_element_98 rfl (c1 := 0) (s1 := 0) rfl rfl (fun v w hp => ?_)
        obtain ⟨rfl, rfl⟩ := hp
        refine zk_stk (r' := []) rfl ?_
        refine zk_iconst (v := 0) C kd_Mc_element_101 (by decide) rfl ?_
        exact zk_iret C hR kd_Mc_element_102 rfl rfl (zd_rIS e)
      · replace e := zd_neg b7 e
        refine zk_aload_n C kd_Mc_element_81 rfl 3 rfl rfl ?_
        refine zk_iload C kd_Mc_element_82 0 rfl rfl ?_
        refine zk_iload_n C kd_Mc_element_84 rfl 2 rfl rfl ?_
        obtain ⟨h13, c12, e⟩ := zd_b e
        refine zs_callV (k := 58) (rn := { frames := 0, cells := 0, slots := 0, locals := 0 }) (As := [.int (((h3.1 58 20) + (h3.2.1 43 x1.toNatClampNeg)) + (((v2.toInt64) - ((h3.2.1 44 x1.toNatClampNeg).toInt64)).toInt32)), .int y0]) (rest := []) C (zc_Mc_become h3 (((h3.1 58 20) + (h3.2.1 43 x1.toNatClampNeg)) + (((v2.toInt64) - ((h3.2.1 44 x1.toNatClampNeg).toInt64)).toInt32)) y0 c12) ku_Mc_become kw1460 kv_Mc_become rfl ⟨by decide, by decide⟩ ⟨by decide, by decide⟩ rfl rfl rfl (Nat.le_of_ble_eq_true rfl) kd_Mc_element_85 rfl (c1 := 0) (s1 := 0) rfl rfl (fun v w hp => ?_)
        obtain ⟨rfl, rfl⟩ := hp
        refine zk_stk (r' := []) rfl ?_
        refine zk_goto (tgt := 101) C kd_Mc_element_88 (by decide) ?_
        refine zk_iconst (v := 0) C kd_Mc_element_101 (by decide) rfl ?_
        exact zk_iret C hR kd_Mc_element_102 rfl rfl (zd_rIS e)
    · replace e := zd_neg (fun z => b6 (zd_clt.mpr z)) e
      refine zk_bipush (v := (-4)) C kd_Mc_element_54 (by decide) rfl ?_
      exact zk_iret C hR kd_Mc_element_56 rfl rfl (zd_rIS e)
set_option maxHeartbeats 4000000 in
set_option maxRecDepth 100000 in
theorem zc_Mc_element {l : Launch} {D : va_G} {sz0 : Nat} {S : zs_T} {P : ze_T} (h : zs_H) (x1 : Int32) (x2 : Int32) {rv : Int32} {rh : zs_H} (e : f_Mc_element h x1 x2 = some (rv, rh)) : zk_Sp (zs_G S l D sz0) (ze_E P) km_Mc_element { frames := 1, cells := 0, slots := 0, locals := 22 } [.ref (S.1 58), .int x1, .int x2] (zs_W S h) (zd_PI S rv rh) := by
  refine zk_met ku_Mc_element (Nat.le_of_ble_eq_true rfl) (ze_Em P) ?_
  intro X C hR
  refine zk_lvs (lv' := [(0, .ref (S.1 58)), (1, .int x1), (2, .int x2)]) [0, 1, 2] rfl ?_
  unfold f_Mc_element at e
  refine zk_iload_n C kd_Mc_element_0 rfl 2 rfl rfl ?_
  refine zk_if_eq (tgt := 11) C kd_Mc_element_1 (by decide) rfl (fun b1 => ?_) (fun b1 => ?_)
  · replace e := zd_pos b1 e
    refine zk_iconst (v := 0) C kd_Mc_element_11 (by decide) rfl ?_
    refine zk_lvs (lv' := [(0, .ref (S.1 58)), (1, .int x1), (2, .int x2)]) [0, 1, 2] rfl ?_
    exact zb_Mc_element_12 C hR h x1 x2 0 e
  · replace e := zd_neg b1 e
    refine zk_aload_n C kd_Mc_element_4 rfl 0 rfl rfl ?_
    obtain ⟨v3, h4, c2, e⟩ := zd_Be e
    refine zs_callV (k := 58) (rn := { frames := 0, cells := 0, slots := 0, locals := 0 }) (As := []) (rest := []) C (zc_Mc_takeOff h c2) ku_Mc_takeOff kw1538 kv_Mc_takeOff rfl ⟨by decide, by decide⟩ ⟨by decide, by decide⟩ rfl rfl rfl (Nat.le_of_ble_eq_true rfl) kd_Mc_element_5 rfl (c1 := 0) (s1 := 0) rfl rfl (fun v w hp => ?_)
    obtain ⟨rfl, rfl⟩ := hp
    refine zk_stk (r' := [.int v3]) rfl ?_
    refine zk_goto (tgt := 12) C kd_Mc_element_8 (by decide) ?_
    refine zk_lvs (lv' := [(0, .ref (S.1 58)), (1, .int x1), (2, .int x2)]) [0, 1, 2] rfl ?_
    exact zb_Mc_element_12 C hR h4 x1 x2 v3 e
set_option maxHeartbeats 4000000 in
set_option maxRecDepth 100000 in
theorem zb_Mc_compute_236 {X : zkj_T} {S : zs_T} {P : ze_T} {l : Launch} {D : va_G} {sz0 : Nat} {rv : Int32} {rh : zs_H} (C : zk_C X km_Mc_compute (zs_G S l D sz0) { frames := 3, cells := 0, slots := 0, locals := 68 } (ze_E P)) (hR : zkj_R X (zd_PI S rv rh) (some .int)) (h : zs_H) (y0 : Int32) (e : f_Mc_compute_236 h y0 = some (rv, rh)) : zk_Ab X (zs_W S h) 0 0 236 [] [.int y0, .ref (S.1 58)] := by
  unfold f_Mc_compute_236 at e
  obtain ⟨h2, c1, e⟩ := zd_b e
  refine zs_callV (k := 58) (rn := { frames := 0, cells := 0, slots := 0, locals := 0 }) (As := [.int y0]) (rest := []) C (zc_Mc_lay h y0 c1) ku_Mc_lay kw1530 kv_Mc_lay rfl ⟨by decide, by decide⟩ ⟨by decide, by decide⟩ rfl rfl rfl (Nat.le_of_ble_eq_true rfl) kd_Mc_compute_236 rfl (c1 := 0) (s1 := 0) rfl rfl (fun v w hp => ?_)
  obtain ⟨rfl, rfl⟩ := hp
  refine zk_stk (r' := []) rfl ?_
  refine zk_iconst (v := 0) C kd_Mc_compute_239 (by decide) rfl ?_
  exact zk_iret C hR kd_Mc_compute_240 rfl rfl (zd_rIS e)
set_option maxHeartbeats 4000000 in
set_option maxRecDepth 100000 in
theorem zc_Mc_compute {l : Launch} {D : va_G} {sz0 : Nat} {S : zs_T} {P : ze_T} (h : zs_H) (x1 : Int32) {rv : Int32} {rh : zs_H} (e : f_Mc_compute h x1 = some (rv, rh)) : zk_Sp (zs_G S l D sz0) (ze_E P) km_Mc_compute { frames := 3, cells := 0, slots := 0, locals := 68 } [.ref (S.1 58), .int x1] (zs_W S h) (zd_PI S rv rh) := by
  refine zk_met ku_Mc_compute (Nat.le_of_ble_eq_true rfl) (ze_Em P) ?_
  intro X C hR
  refine zk_lvs (lv' := [(0, .ref (S.1 58)), (1, .int x1)]) [0, 1] rfl ?_
  unfold f_Mc_compute at e
  refine zk_aload_n C kd_Mc_compute_0 rfl 0 rfl rfl ?_
  refine zs_get (v := .ref (S.1 41)) C 58 10 rfl rfl rfl rfl ki_Mc (by decide) kw537 kd_Mc_compute_1 rfl ?_
  refine zs_get (v := .ref (S.1 43)) C 41 1 rfl rfl rfl rfl ki_Cd (by decide) kw406 kd_Mc_compute_4 rfl ?_
  refine zk_iload_n C kd_Mc_compute_7 rfl 1 rfl rfl ?_
  obtain ⟨q1, e⟩ := zd_g e
  refine zs_iald C 43 rfl (zd_vp q1) kd_Mc_compute_8 rfl ?_
  refine zk_istore_n (lv' := [(2, _), (0, _), (1, _)]) C kd_Mc_compute_9 rfl (by decide) rfl rfl ?_
  refine zk_aload_n C kd_Mc_compute_10 rfl 1 rfl rfl ?_
  refine zs_get (v := .ref (S.1 41)) C 58 10 rfl rfl rfl rfl ki_Mc (by decide) kw537 kd_Mc_compute_11 rfl ?_
  refine zs_get (v := .ref (S.1 42)) C 41 0 rfl rfl rfl rfl ki_Cd (by decide) kw403 kd_Mc_compute_14 rfl ?_
  refine zk_iload_n C kd_Mc_compute_17 rfl 2 rfl rfl ?_
  refine zs_bald C 42 rfl (zd_vp q1) kd_Mc_compute_18 rfl ?_
  by_cases b2 : (h.2.1 42 x1.toNatClampNeg) = 0
  · replace e := zd_pos b2 e
    refine zk_tableIn (tgt := 68) C kd_Mc_compute_19 (by rw [b2]; decide) (by rw [b2]; decide) (by rw [b2]; rfl) (by decide) ?_
    refine zk_aload_n C kd_Mc_compute_68 rfl 1 rfl rfl ?_
    refine zk_iload_n C kd_Mc_compute_69 rfl 0 rfl rfl ?_
    obtain ⟨h4, c3, e⟩ := zd_b e
    refine zs_callV (k := 58) (rn := { frames := 0, cells := 0, slots := 0, locals := 0 }) (As := [.int (h.2.1 43 x1.toNatClampNeg)]) (rest := []) C (zc_Mc_lay h (h.2.1 43 x1.toNatClampNeg) c3) ku_Mc_lay kw1530 kv_Mc_lay rfl ⟨by decide, by decide⟩ ⟨by decide, by decide⟩ rfl rfl rfl (Nat.le_of_ble_eq_true rfl) kd_Mc_compute_70 rfl (c1 := 0) (s1 := 0) rfl rfl (fun v w hp => ?_)
    obtain ⟨rfl, rfl⟩ := hp
    refine zk_stk (r' := []) rfl ?_
    refine zk_goto (tgt := 239) C kd_Mc_compute_73 (by decide) ?_
    refine zk_iconst (v := 0) C kd_Mc_compute_239 (by decide) rfl ?_
    exact zk_iret C hR kd_Mc_compute_240 rfl rfl (zd_rIS e)
  replace e := zd_neg b2 e
  by_cases b5 : (h.2.1 42 x1.toNatClampNeg) = 1
  · replace e := zd_pos b5 e
    refine zk_tableIn (tgt := 76) C kd_Mc_compute_19 (by rw [b5]; decide) (by rw [b5]; decide) (by rw [b5]; rfl) (by decide) ?_
    refine zk_aload_n C kd_Mc_compute_76 rfl 1 rfl rfl ?_
    refine zk_aload_n C kd_Mc_compute_77 rfl 1 rfl rfl ?_
    refine zk_aload_n C kd_Mc_compute_78 rfl 1 rfl rfl ?_
    refine zs_get (v := .int (h.1 58 20)) C 58 20 rfl rfl rfl rfl ki_Mc (by decide) kw547 kd_Mc_compute_79 rfl ?_
    refine zk_iload_n C kd_Mc_compute_82 rfl 0 rfl rfl ?_
    refine zk_iadd C kd_Mc_compute_83 rfl ?_
    obtain ⟨v7, c6, e⟩ := zd_b e
    refine zs_callV (k := 58) (rn := { frames := 0, cells := 0, slots := 0, locals := 0 }) (As := [.int ((h.1 58 20) + (h.2.1 43 x1.toNatClampNeg))]) (rest := [.ref (S.1 58)]) C (zc_Mc_cellAt h ((h.1 58 20) + (h.2.1 43 x1.toNatClampNeg)) c6) ku_Mc_cellAt kw1534 kv_Mc_cellAt rfl ⟨by decide, by decide⟩ ⟨by decide, by decide⟩ rfl rfl rfl (Nat.le_of_ble_eq_true rfl) kd_Mc_compute_84 rfl (c1 := 0) (s1 := 0) rfl rfl (fun v w hp => ?_)
    obtain ⟨rfl, rfl⟩ := hp
    refine zk_stk (r' := [.int v7, .ref (S.1 58)]) rfl ?_
    obtain ⟨h9, c8, e⟩ := zd_b e
    refine zs_callV (k := 58) (rn := { frames := 0, cells := 0, slots := 0, locals := 0 }) (As := [.int v7]) (rest := []) C (zc_Mc_lay h v7 c8) ku_Mc_lay kw1530 kv_Mc_lay rfl ⟨by decide, by decide⟩ ⟨by decide, by decide⟩ rfl rfl rfl (Nat.le_of_ble_eq_true rfl) kd_Mc_compute_87 rfl (c1 := 0) (s1 := 0) rfl rfl (fun v w hp => ?_)
    obtain ⟨rfl, rfl⟩ := hp
    refine zk_stk (r' := []) rfl ?_
    refine zk_goto (tgt := 239) C kd_Mc_compute_90 (by decide) ?_
    refine zk_iconst (v := 0) C kd_Mc_compute_239 (by decide) rfl ?_
    exact zk_iret C hR kd_Mc_compute_240 rfl rfl (zd_rIS e)
  replace e := zd_neg b5 e
  by_cases b10 : (h.2.1 42 x1.toNatClampNeg) = 2
  · replace e := zd_pos b10 e
    refine zk_tableIn (tgt := 93) C kd_Mc_compute_19 (by rw [b10]; decide) (by rw [b10]; decide) (by rw [b10]; rfl) (by decide) ?_
    refine zk_aload_n C kd_Mc_compute_93 rfl 1 rfl rfl ?_
    refine zk_aload_n C kd_Mc_compute_94 rfl 1 rfl rfl ?_
    refine zs_get (v := .int (h.1 58 20)) C 58 20 rfl rfl rfl rfl ki_Mc (by decide) kw547 kd_Mc_compute_95 rfl ?_
    refine zk_iload_n C kd_Mc_compute_98 rfl 0 rfl rfl ?_
    refine zk_iadd C kd_Mc_compute_99 rfl ?_
    refine zk_aload_n C kd_Mc_compute_100 rfl 1 rfl rfl ?_
    obtain ⟨v12, h13, c11, e⟩ := zd_Be e
    refine zs_callV (k := 58) (rn := { frames := 0, cells := 0, slots := 0, locals := 0 }) (As := []) (rest := [.int ((h.1 58 20) + (h.2.1 43 x1.toNatClampNeg)), .ref (S.1 58)]) C (zc_Mc_takeOff h c11) ku_Mc_takeOff kw1538 kv_Mc_takeOff rfl ⟨by decide, by decide⟩ ⟨by decide, by decide⟩ rfl rfl rfl (Nat.le_of_ble_eq_true rfl) kd_Mc_compute_101 rfl (c1 := 0) (s1 := 0) rfl rfl (fun v w hp => ?_)
    obtain ⟨rfl, rfl⟩ := hp
    refine zk_stk (r' := [.int v12, .int ((h.1 58 20) + (h.2.1 43 x1.toNatClampNeg)), .ref (S.1 58)]) rfl ?_
    obtain ⟨h15, c14, e⟩ := zd_b e
    refine zs_callV (k := 58) (rn := { frames := 0, cells := 0, slots := 0, locals := 0 }) (As := [.int ((h.1 58 20) + (h.2.1 43 x1.toNatClampNeg)), .int v12]) (rest := []) C (zc_Mc_become h13 ((h.1 58 20) + (h.2.1 43 x1.toNatClampNeg)) v12 c14) ku_Mc_become kw1460 kv_Mc_become rfl ⟨by decide, by decide⟩ ⟨by decide, by decide⟩ rfl rfl rfl (Nat.le_of_ble_eq_true rfl) kd_Mc_compute_104 rfl (c1 := 0) (s1 := 0) rfl rfl (fun v w hp => ?_)
    obtain ⟨rfl, rfl⟩ := hp
    refine zk_stk (r' := []) rfl ?_
    refine zk_goto (tgt := 239) C kd_Mc_compute_107 (by decide) ?_
    refine zk_iconst (v := 0) C kd_Mc_compute_239 (by decide) rfl ?_
    exact zk_iret C hR kd_Mc_compute_240 rfl rfl (zd_rIS e)
  replace e := zd_neg b10 e
  by_cases b16 : (h.2.1 42 x1.toNatClampNeg) = 3
  · replace e := zd_pos b16 e
    refine zk_tableIn (tgt := 110) C kd_Mc_compute_19 (by rw [b16]; decide) (by rw [b16]; decide) (by rw [b16]; rfl) (by decide) ?_
    refine zk_aload_n C kd_Mc_compute_110 rfl 1 rfl rfl ?_
    refine zk_iload_n C kd_Mc_compute_111 rfl 2 rfl rfl ?_
    refine zk_iconst (v := 0) C kd_Mc_compute_112 (by decide) rfl ?_
    obtain ⟨v18, h19, c17, e⟩ := zd_Be e
    refine zs_callV (k := 58) (rn := { frames := 1, cells := 0, slots := 0, locals := 22 }) (As := [.int x1, .int 0]) (rest := []) C (zc_Mc_element h x1 0 c17) ku_Mc_element kw1542 kv_Mc_element rfl ⟨by decide, by decide⟩ ⟨by decide, by decide⟩ rfl rfl rfl (Nat.le_of_ble_eq_true rfl) kd_Mc_compute_113 rfl (c1 := 0) (s1 := 0) rfl rfl (fun v w hp => ?_)
    obtain ⟨rfl, rfl⟩ := hp
    refine zk_stk (r' := [.int v18]) rfl ?_
    exact zk_iret C hR kd_Mc_compute_116 rfl rfl (zd_rIS e)
  replace e := zd_neg b16 e
  by_cases b20 : (h.2.1 42 x1.toNatClampNeg) = 4
  · replace e := zd_pos b20 e
    refine zk_tableIn (tgt := 117) C kd_Mc_compute_19 (by rw [b20]; decide) (by rw [b20]; decide) (by rw [b20]; rfl) (by decide) ?_
    refine zk_aload_n C kd_Mc_compute_117 rfl 1 rfl rfl ?_
    refine zk_iload_n C kd_Mc_compute_118 rfl 2 rfl rfl ?_
    refine zk_iconst (v := 1) C kd_Mc_compute_119 (by decide) rfl ?_
    obtain ⟨v22, h23, c21, e⟩ := zd_Be e
    refine zs_callV (k := 58) (rn := { frames := 1, cells := 0, slots := 0, locals := 22 }) (As := [.int x1, .int 1]) (rest := []) C (zc_Mc_element h x1 1 c21) ku_Mc_element kw1542 kv_Mc_element rfl ⟨by decide, by decide⟩ ⟨by decide, by decide⟩ rfl rfl rfl (Nat.le_of_ble_eq_true rfl) kd_Mc_compute_120 rfl (c1 := 0) (s1 := 0) rfl rfl (fun v w hp => ?_)
    obtain ⟨rfl, rfl⟩ := hp
    refine zk_stk (r' := [.int v22]) rfl ?_
    exact zk_iret C hR kd_Mc_compute_123 rfl rfl (zd_rIS e)
  replace e := zd_neg b20 e
  by_cases b24 : (h.2.1 42 x1.toNatClampNeg) = 5
  · replace e := zd_pos b24 e
    refine zk_tableIn (tgt := 124) C kd_Mc_compute_19 (by rw [b24]; decide) (by rw [b24]; decide) (by rw [b24]; rfl) (by decide) ?_
    refine zk_aload_n C kd_Mc_compute_124 rfl 1 rfl rfl ?_
    refine zk_aload_n C kd_Mc_compute_125 rfl 1 rfl rfl ?_
    refine zk_aload_n C kd_Mc_compute_126 rfl 1 rfl rfl ?_
    refine zs_get (v := .ref (S.1 20)) C 58 11 rfl rfl rfl rfl ki_Mc (by decide) kw538 kd_Mc_compute_127 rfl ?_
    refine zs_get (v := .ref (S.1 27)) C 20 6 rfl rfl rfl rfl ki_Pl (by decide) kw254 kd_Mc_compute_130 rfl ?_
    refine zk_bipush (v := 9) C kd_Mc_compute_133 (by decide) rfl ?_
    refine zk_iload_n C kd_Mc_compute_135 rfl 0 rfl rfl ?_
    refine zk_iadd C kd_Mc_compute_136 rfl ?_
    obtain ⟨q25, e⟩ := zd_g e
    refine zs_iald C 27 rfl (zd_vp q25) kd_Mc_compute_137 rfl ?_
    refine zk_aload_n C kd_Mc_compute_138 rfl 1 rfl rfl ?_
    refine zs_get (v := .ref (S.1 41)) C 58 10 rfl rfl rfl rfl ki_Mc (by decide) kw537 kd_Mc_compute_139 rfl ?_
    refine zs_get (v := .ref (S.1 44)) C 41 2 rfl rfl rfl rfl ki_Cd (by decide) kw409 kd_Mc_compute_142 rfl ?_
    refine zk_iload_n C kd_Mc_compute_145 rfl 2 rfl rfl ?_
    refine zs_iald C 44 rfl (zd_vp q1) kd_Mc_compute_146 rfl ?_
    refine zk_iadd C kd_Mc_compute_147 rfl ?_
    obtain ⟨v27, c26, e⟩ := zd_b e
    refine zs_callV (k := 58) (rn := { frames := 0, cells := 0, slots := 0, locals := 0 }) (As := [.int ((h.2.1 27 (9 + (h.2.1 43 x1.toNatClampNeg)).toNatClampNeg) + (h.2.1 44 x1.toNatClampNeg))]) (rest := [.ref (S.1 58)]) C (zc_Mc_cellAt h ((h.2.1 27 (9 + (h.2.1 43 x1.toNatClampNeg)).toNatClampNeg) + (h.2.1 44 x1.toNatClampNeg)) c26) ku_Mc_cellAt kw1534 kv_Mc_cellAt rfl ⟨by decide, by decide⟩ ⟨by decide, by decide⟩ rfl rfl rfl (Nat.le_of_ble_eq_true rfl) kd_Mc_compute_148 rfl (c1 := 0) (s1 := 0) rfl rfl (fun v w hp => ?_)
    obtain ⟨rfl, rfl⟩ := hp
    refine zk_stk (r' := [.int v27, .ref (S.1 58)]) rfl ?_
    obtain ⟨h29, c28, e⟩ := zd_b e
    refine zs_callV (k := 58) (rn := { frames := 0, cells := 0, slots := 0, locals := 0 }) (As := [.int v27]) (rest := []) C (zc_Mc_lay h v27 c28) ku_Mc_lay kw1530 kv_Mc_lay rfl ⟨by decide, by decide⟩ ⟨by decide, by decide⟩ rfl rfl rfl (Nat.le_of_ble_eq_true rfl) kd_Mc_compute_151 rfl (c1 := 0) (s1 := 0) rfl rfl (fun v w hp => ?_)
    obtain ⟨rfl, rfl⟩ := hp
    refine zk_stk (r' := []) rfl ?_
    refine zk_goto (tgt := 239) C kd_Mc_compute_154 (by decide) ?_
    refine zk_iconst (v := 0) C kd_Mc_compute_239 (by decide) rfl ?_
    exact zk_iret C hR kd_Mc_compute_240 rfl rfl (zd_rIS e)
  replace e := zd_neg b24 e
  by_cases b30 : (h.2.1 42 x1.toNatClampNeg) = 6
  · replace e := zd_pos b30 e
    refine zk_tableIn (tgt := 157) C kd_Mc_compute_19 (by rw [b30]; decide) (by rw [b30]; decide) (by rw [b30]; rfl) (by decide) ?_
    refine zk_aload_n C kd_Mc_compute_157 rfl 1 rfl rfl ?_
    refine zk_aload_n C kd_Mc_compute_158 rfl 1 rfl rfl ?_
    refine zs_get (v := .ref (S.1 20)) C 58 11 rfl rfl rfl rfl ki_Mc (by decide) kw538 kd_Mc_compute_159 rfl ?_
    refine zs_get (v := .ref (S.1 27)) C 20 6 rfl rfl rfl rfl ki_Pl (by decide) kw254 kd_Mc_compute_162 rfl ?_
    refine zk_bipush (v := 9) C kd_Mc_compute_165 (by decide) rfl ?_
    refine zk_iload_n C kd_Mc_compute_167 rfl 0 rfl rfl ?_
    refine zk_iadd C kd_Mc_compute_168 rfl ?_
    obtain ⟨q31, e⟩ := zd_g e
    refine zs_iald C 27 rfl (zd_vp q31) kd_Mc_compute_169 rfl ?_
    refine zk_aload_n C kd_Mc_compute_170 rfl 1 rfl rfl ?_
    refine zs_get (v := .ref (S.1 41)) C 58 10 rfl rfl rfl rfl ki_Mc (by decide) kw537 kd_Mc_compute_171 rfl ?_
    refine zs_get (v := .ref (S.1 44)) C 41 2 rfl rfl rfl rfl ki_Cd (by decide) kw409 kd_Mc_compute_174 rfl ?_
    refine zk_iload_n C kd_Mc_compute_177 rfl 2 rfl rfl ?_
    refine zs_iald C 44 rfl (zd_vp q1) kd_Mc_compute_178 rfl ?_
    refine zk_iadd C kd_Mc_compute_179 rfl ?_
    refine zk_aload_n C kd_Mc_compute_180 rfl 1 rfl rfl ?_
    obtain ⟨v33, h34, c32, e⟩ := zd_Be e
    refine zs_callV (k := 58) (rn := { frames := 0, cells := 0, slots := 0, locals := 0 }) (As := []) (rest := [.int ((h.2.1 27 (9 + (h.2.1 43 x1.toNatClampNeg)).toNatClampNeg) + (h.2.1 44 x1.toNatClampNeg)), .ref (S.1 58)]) C (zc_Mc_takeOff h c32) ku_Mc_takeOff kw1538 kv_Mc_takeOff rfl ⟨by decide, by decide⟩ ⟨by decide, by decide⟩ rfl rfl rfl (Nat.le_of_ble_eq_true rfl) kd_Mc_compute_181 rfl (c1 := 0) (s1 := 0) rfl rfl (fun v w hp => ?_)
    obtain ⟨rfl, rfl⟩ := hp
    refine zk_stk (r' := [.int v33, .int ((h.2.1 27 (9 + (h.2.1 43 x1.toNatClampNeg)).toNatClampNeg) + (h.2.1 44 x1.toNatClampNeg)), .ref (S.1 58)]) rfl ?_
    obtain ⟨h36, c35, e⟩ := zd_b e
    refine zs_callV (k := 58) (rn := { frames := 0, cells := 0, slots := 0, locals := 0 }) (As := [.int ((h.2.1 27 (9 + (h.2.1 43 x1.toNatClampNeg)).toNatClampNeg) + (h.2.1 44 x1.toNatClampNeg)), .int v33]) (rest := []) C (zc_Mc_become h34 ((h.2.1 27 (9 + (h.2.1 43 x1.toNatClampNeg)).toNatClampNeg) + (h.2.1 44 x1.toNatClampNeg)) v33 c35) ku_Mc_become kw1460 kv_Mc_become rfl ⟨by decide, by decide⟩ ⟨by decide, by decide⟩ rfl rfl rfl (Nat.le_of_ble_eq_true rfl) kd_Mc_compute_184 rfl (c1 := 0) (s1 := 0) rfl rfl (fun v w hp => ?_)
    obtain ⟨rfl, rfl⟩ := hp
    refine zk_stk (r' := []) rfl ?_
    refine zk_goto (tgt := 239) C kd_Mc_compute_187 (by decide) ?_
    refine zk_iconst (v := 0) C kd_Mc_compute_239 (by decide) rfl ?_
    exact zk_iret C hR kd_Mc_compute_240 rfl rfl (zd_rIS e)
  replace e := zd_neg b30 e
  by_cases b37 : (h.2.1 42 x1.toNatClampNeg) = 7
  · replace e := zd_pos b37 e
    refine zk_tableIn (tgt := 190) C kd_Mc_compute_19 (by rw [b37]; decide) (by rw [b37]; decide) (by rw [b37]; rfl) (by decide) ?_
    refine zk_aload_n C kd_Mc_compute_190 rfl 1 rfl rfl ?_
    refine zk_iload_n C kd_Mc_compute_191 rfl 0 rfl rfl ?_
    obtain ⟨v39, h40, c38, e⟩ := zd_Be e
    refine zs_callV (k := 58) (rn := { frames := 2, cells := 0, slots := 0, locals := 45 }) (As := [.int (h.2.1 43 x1.toNatClampNeg)]) (rest := []) C (zc_Mc_computeTwo h (h.2.1 43 x1.toNatClampNeg) c38) ku_Mc_computeTwo kw1546 kv_Mc_computeTwo rfl ⟨by decide, by decide⟩ ⟨by decide, by decide⟩ rfl rfl rfl (Nat.le_of_ble_eq_true rfl) kd_Mc_compute_192 rfl (c1 := 0) (s1 := 0) rfl rfl (fun v w hp => ?_)
    obtain ⟨rfl, rfl⟩ := hp
    refine zk_stk (r' := [.int v39]) rfl ?_
    exact zk_iret C hR kd_Mc_compute_195 rfl rfl (zd_rIS e)
  replace e := zd_neg b37 e
  by_cases b41 : (h.2.1 42 x1.toNatClampNeg) = 8
  · replace e := zd_pos b41 e
    refine zk_tableIn (tgt := 196) C kd_Mc_compute_19 (by rw [b41]; decide) (by rw [b41]; decide) (by rw [b41]; rfl) (by decide) ?_
    refine zk_aload_n C kd_Mc_compute_196 rfl 1 rfl rfl ?_
    refine zk_iload_n C kd_Mc_compute_197 rfl 0 rfl rfl ?_
    refine zk_aload_n C kd_Mc_compute_198 rfl 1 rfl rfl ?_
    obtain ⟨v43, h44, c42, e⟩ := zd_Be e
    refine zs_callV (k := 58) (rn := { frames := 0, cells := 0, slots := 0, locals := 0 }) (As := []) (rest := [.int (h.2.1 43 x1.toNatClampNeg), .ref (S.1 58)]) C (zc_Mc_takeOff h c42) ku_Mc_takeOff kw1538 kv_Mc_takeOff rfl ⟨by decide, by decide⟩ ⟨by decide, by decide⟩ rfl rfl rfl (Nat.le_of_ble_eq_true rfl) kd_Mc_compute_199 rfl (c1 := 0) (s1 := 0) rfl rfl (fun v w hp => ?_)
    obtain ⟨rfl, rfl⟩ := hp
    refine zk_stk (r' := [.int v43, .int (h.2.1 43 x1.toNatClampNeg), .ref (S.1 58)]) rfl ?_
    refine zk_callS (rn := { frames := 1, cells := 0, slots := 0, locals := 23 }) (As := [.int (h.2.1 43 x1.toNatClampNeg), .int v43]) (rest := [.ref (S.1 58)]) C (zc_Cd_one h44 (h.2.1 43 x1.toNatClampNeg) v43) ku_Cd_one kw1552 ks_Cd_one rfl ⟨by decide, by decide⟩ ⟨by decide, by decide⟩ rfl (Nat.le_of_ble_eq_true rfl) kd_Mc_compute_202 rfl (c1 := 0) (s1 := 0) rfl rfl (fun v w hp => ?_)
    obtain ⟨rfl, rfl⟩ := hp
    refine zk_stk (r' := [.int (f_Cd_one (h.2.1 43 x1.toNatClampNeg) v43), .ref (S.1 58)]) rfl ?_
    obtain ⟨h46, c45, e⟩ := zd_b e
    refine zs_callV (k := 58) (rn := { frames := 0, cells := 0, slots := 0, locals := 0 }) (As := [.int (f_Cd_one (h.2.1 43 x1.toNatClampNeg) v43)]) (rest := []) C (zc_Mc_lay h44 (f_Cd_one (h.2.1 43 x1.toNatClampNeg) v43) c45) ku_Mc_lay kw1530 kv_Mc_lay rfl ⟨by decide, by decide⟩ ⟨by decide, by decide⟩ rfl rfl rfl (Nat.le_of_ble_eq_true rfl) kd_Mc_compute_205 rfl (c1 := 0) (s1 := 0) rfl rfl (fun v w hp => ?_)
    obtain ⟨rfl, rfl⟩ := hp
    refine zk_stk (r' := []) rfl ?_
    refine zk_goto (tgt := 239) C kd_Mc_compute_208 (by decide) ?_
    refine zk_iconst (v := 0) C kd_Mc_compute_239 (by decide) rfl ?_
    exact zk_iret C hR kd_Mc_compute_240 rfl rfl (zd_rIS e)
  replace e := zd_neg b41 e
  refine zk_tableOut (tgt := 211) C kd_Mc_compute_19 (by have := lv_neT b2 (a := 0) (by decide); have := lv_neT b5 (a := 1) (by decide); have := lv_neT b10 (a := 2) (by decide); have := lv_neT b16 (a := 3) (by decide); have := lv_neT b20 (a := 4) (by decide); have := lv_neT b24 (a := 5) (by decide); have := lv_neT b30 (a := 6) (by decide); have := lv_neT b37 (a := 7) (by decide); have := lv_neT b41 (a := 8) (by decide); omega) (by decide) ?_
  refine zk_aload_n C kd_Mc_compute_211 rfl 1 rfl rfl ?_
  obtain ⟨v48, h49, c47, e⟩ := zd_Be e
  refine zs_callV (k := 58) (rn := { frames := 0, cells := 0, slots := 0, locals := 0 }) (As := []) (rest := []) C (zc_Mc_takeOff h c47) ku_Mc_takeOff kw1538 kv_Mc_takeOff rfl ⟨by decide, by decide⟩ ⟨by decide, by decide⟩ rfl rfl rfl (Nat.le_of_ble_eq_true rfl) kd_Mc_compute_212 rfl (c1 := 0) (s1 := 0) rfl rfl (fun v w hp => ?_)
  obtain ⟨rfl, rfl⟩ := hp
  refine zk_stk (r' := [.int v48]) rfl ?_
  refine zk_istore_n (lv' := [(3, _), (2, _), (0, _), (1, _)]) C kd_Mc_compute_215 rfl (by decide) rfl rfl ?_
  refine zk_aload_n C kd_Mc_compute_216 rfl 2 rfl rfl ?_
  obtain ⟨v51, h52, c50, e⟩ := zd_Be e
  refine zs_callV (k := 58) (rn := { frames := 0, cells := 0, slots := 0, locals := 0 }) (As := []) (rest := []) C (zc_Mc_takeOff h49 c50) ku_Mc_takeOff kw1538 kv_Mc_takeOff rfl ⟨by decide, by decide⟩ ⟨by decide, by decide⟩ rfl rfl rfl (Nat.le_of_ble_eq_true rfl) kd_Mc_compute_217 rfl (c1 := 0) (s1 := 0) rfl rfl (fun v w hp => ?_)
  obtain ⟨rfl, rfl⟩ := hp
  refine zk_stk (r' := [.int v51]) rfl ?_
  refine zk_istore (lv' := [(4, _), (3, _), (2, _), (0, _), (1, _)]) C kd_Mc_compute_220 (by decide) rfl rfl ?_
  refine zk_aload_n C kd_Mc_compute_222 rfl 3 rfl rfl ?_
  refine zk_aload_n C kd_Mc_compute_223 rfl 3 rfl rfl ?_
  obtain ⟨v54, h55, c53, e⟩ := zd_Be e
  refine zs_callV (k := 58) (rn := { frames := 0, cells := 0, slots := 0, locals := 0 }) (As := []) (rest := [.ref (S.1 58)]) C (zc_Mc_takeOff h52 c53) ku_Mc_takeOff kw1538 kv_Mc_takeOff rfl ⟨by decide, by decide⟩ ⟨by decide, by decide⟩ rfl rfl rfl (Nat.le_of_ble_eq_true rfl) kd_Mc_compute_224 rfl (c1 := 0) (s1 := 0) rfl rfl (fun v w hp => ?_)
  obtain ⟨rfl, rfl⟩ := hp
  refine zk_stk (r' := [.int v54, .ref (S.1 58)]) rfl ?_
  refine zk_if_eq (tgt := 234) C kd_Mc_compute_227 (by decide) rfl (fun b56 => ?_) (fun b56 => ?_)
  · replace e := zd_pos b56 e
    refine zk_iload C kd_Mc_compute_234 0 rfl rfl ?_
    refine zk_lvs (lv' := []) [] rfl ?_
    exact zb_Mc_compute_236 C hR h55 v51 e
  · replace e := zd_neg b56 e
    refine zk_iload_n C kd_Mc_compute_230 rfl 1 rfl rfl ?_
    refine zk_goto (tgt := 236) C kd_Mc_compute_231 (by decide) ?_
    refine zk_lvs (lv' := []) [] rfl ?_
    exact zb_Mc_compute_236 C hR h55 v48 e
set_option maxHeartbeats 4000000 in
set_option maxRecDepth 100000 in
theorem zb_Mc_runTimer_322 {X : zkj_T} {S : zs_T} {P : ze_T} {l : Launch} {D : va_G} {sz0 : Nat} {rh : zs_H} (C : zk_C X km_Mc_runTimer (zs_G S l D sz0) { frames := 1, cells := 0, slots := 0, locals := 23 } (ze_E P)) (hR : zkj_R X (zd_PV S rh) (none)) (h : zs_H) (x2 : Int32) (y0 : Int32) (y1 : Int32) (e : f_Mc_runTimer_322 h x2 y0 y1 = some rh) : zk_Ab X (zs_W S h) 0 0 322 [(0, .ref (S.1 58)), (2, .int x2)] [.int y0, .int y1, .ref (S.1 58)] := by
  unfold f_Mc_runTimer_322 at e
  obtain ⟨h2, c1, e⟩ := zd_b e
  refine zs_callV (k := 58) (rn := { frames := 0, cells := 0, slots := 0, locals := 0 }) (As := [.int y1, .int y0]) (rest := []) C (zc_Mc_become h y1 y0 c1) ku_Mc_become kw1460 kv_Mc_become rfl ⟨by decide, by decide⟩ ⟨by decide, by decide⟩ rfl rfl rfl (Nat.le_of_ble_eq_true rfl) kd_Mc_runTimer_322 rfl (c1 := 0) (s1 := 0) rfl rfl (fun v w hp => ?_)
  obtain ⟨rfl, rfl⟩ := hp
  refine zk_stk (r' := []) rfl ?_
  refine zk_aload_n C kd_Mc_runTimer_325 rfl 0 rfl rfl ?_
  refine zk_iload_n C kd_Mc_runTimer_326 rfl 1 rfl rfl ?_
  refine zk_iconst (v := 5) C kd_Mc_runTimer_327 (by decide) rfl ?_
  refine zk_iadd C kd_Mc_runTimer_328 rfl ?_
  refine zk_aload_n C kd_Mc_runTimer_329 rfl 0 rfl rfl ?_
  refine zs_get (v := .int (h2.1 58 9)) C 58 9 rfl rfl rfl rfl ki_Mc (by decide) kw535 kd_Mc_runTimer_330 rfl ?_
  obtain ⟨h4, c3, e⟩ := zd_b e
  refine zs_callV (k := 58) (rn := { frames := 0, cells := 0, slots := 0, locals := 0 }) (As := [.int (x2 + 5), .int (h2.1 58 9)]) (rest := []) C (zc_Mc_become h2 (x2 + 5) (h2.1 58 9) c3) ku_Mc_become kw1460 kv_Mc_become rfl ⟨by decide, by decide⟩ ⟨by decide, by decide⟩ rfl rfl rfl (Nat.le_of_ble_eq_true rfl) kd_Mc_runTimer_333 rfl (c1 := 0) (s1 := 0) rfl rfl (fun v w hp => ?_)
  obtain ⟨rfl, rfl⟩ := hp
  refine zk_stk (r' := []) rfl ?_
  exact zk_vret C hR kd_Mc_runTimer_336 rfl rfl (zd_rV e)
set_option maxHeartbeats 4000000 in
set_option maxRecDepth 100000 in
theorem zb_Mc_runTimer_297 {X : zkj_T} {S : zs_T} {P : ze_T} {l : Launch} {D : va_G} {sz0 : Nat} {rh : zs_H} (C : zk_C X km_Mc_runTimer (zs_G S l D sz0) { frames := 1, cells := 0, slots := 0, locals := 23 } (ze_E P)) (hR : zkj_R X (zd_PV S rh) (none)) (h : zs_H) (x2 : Int32) (x3 : Int32) (x7 : Int32) (y0 : Int32) (y1 : Int32) (e : f_Mc_runTimer_297 h x2 x3 x7 y0 y1 = some rh) : zk_Ab X (zs_W S h) 0 0 297 [(0, .ref (S.1 58)), (2, .int x2), (3, .int x3), (7, .int x7)] [.int y0, .int y1, .ref (S.1 58)] := by
  unfold f_Mc_runTimer_297 at e
  obtain ⟨h2, c1, e⟩ := zd_b e
  refine zs_callV (k := 58) (rn := { frames := 0, cells := 0, slots := 0, locals := 0 }) (As := [.int y1, .int y0]) (rest := []) C (zc_Mc_become h y1 y0 c1) ku_Mc_become kw1460 kv_Mc_become rfl ⟨by decide, by decide⟩ ⟨by decide, by decide⟩ rfl rfl rfl (Nat.le_of_ble_eq_true rfl) kd_Mc_runTimer_297 rfl (c1 := 0) (s1 := 0) rfl rfl (fun v w hp => ?_)
  obtain ⟨rfl, rfl⟩ := hp
  refine zk_stk (r' := []) rfl ?_
  refine zk_aload_n C kd_Mc_runTimer_300 rfl 0 rfl rfl ?_
  refine zk_iload_n C kd_Mc_runTimer_301 rfl 1 rfl rfl ?_
  refine zk_iconst (v := 3) C kd_Mc_runTimer_302 (by decide) rfl ?_
  refine zk_iadd C kd_Mc_runTimer_303 rfl ?_
  refine zk_iload C kd_Mc_runTimer_304 3 rfl rfl ?_
  obtain ⟨h4, c3, e⟩ := zd_b e
  refine zs_callV (k := 58) (rn := { frames := 0, cells := 0, slots := 0, locals := 0 }) (As := [.int (x2 + 3), .int x7]) (rest := []) C (zc_Mc_become h2 (x2 + 3) x7 c3) ku_Mc_become kw1460 kv_Mc_become rfl ⟨by decide, by decide⟩ ⟨by decide, by decide⟩ rfl rfl rfl (Nat.le_of_ble_eq_true rfl) kd_Mc_runTimer_306 rfl (c1 := 0) (s1 := 0) rfl rfl (fun v w hp => ?_)
  obtain ⟨rfl, rfl⟩ := hp
  refine zk_stk (r' := []) rfl ?_
  refine zk_aload_n C kd_Mc_runTimer_309 rfl 0 rfl rfl ?_
  refine zk_iload_n C kd_Mc_runTimer_310 rfl 1 rfl rfl ?_
  refine zk_iconst (v := 4) C kd_Mc_runTimer_311 (by decide) rfl ?_
  refine zk_iadd C kd_Mc_runTimer_312 rfl ?_
  refine zk_iload_n C kd_Mc_runTimer_313 rfl 2 rfl rfl ?_
  refine zk_if_eq (tgt := 321) C kd_Mc_runTimer_314 (by decide) rfl (fun b5 => ?_) (fun b5 => ?_)
  · replace e := zd_pos b5 e
    refine zk_iconst (v := 0) C kd_Mc_runTimer_321 (by decide) rfl ?_
    refine zk_lvs (lv' := [(0, .ref (S.1 58)), (2, .int x2)]) [0, 1] rfl ?_
    exact zb_Mc_runTimer_322 C hR h4 x2 0 (x2 + 4) e
  · replace e := zd_neg b5 e
    refine zk_iconst (v := 1) C kd_Mc_runTimer_317 (by decide) rfl ?_
    refine zk_goto (tgt := 322) C kd_Mc_runTimer_318 (by decide) ?_
    refine zk_lvs (lv' := [(0, .ref (S.1 58)), (2, .int x2)]) [0, 1] rfl ?_
    exact zb_Mc_runTimer_322 C hR h4 x2 1 (x2 + 4) e
set_option maxHeartbeats 4000000 in
set_option maxRecDepth 100000 in
theorem zb_Mc_runTimer_283 {X : zkj_T} {S : zs_T} {P : ze_T} {l : Launch} {D : va_G} {sz0 : Nat} {rh : zs_H} (C : zk_C X km_Mc_runTimer (zs_G S l D sz0) { frames := 1, cells := 0, slots := 0, locals := 23 } (ze_E P)) (hR : zkj_R X (zd_PV S rh) (none)) (h : zs_H) (x2 : Int32) (x3 : Int32) (x7 : Int32) (x9 : Int32) (e : f_Mc_runTimer_283 h x2 x3 x7 x9 = some rh) : zk_Ab X (zs_W S h) 0 0 283 [(0, .ref (S.1 58)), (2, .int x2), (3, .int x3), (7, .int x7), (9, .int x9)] [] := by
  unfold f_Mc_runTimer_283 at e
  refine zk_aload_n C kd_Mc_runTimer_283 rfl 0 rfl rfl ?_
  refine zk_iload_n C kd_Mc_runTimer_284 rfl 1 rfl rfl ?_
  refine zk_iconst (v := 2) C kd_Mc_runTimer_285 (by decide) rfl ?_
  refine zk_iadd C kd_Mc_runTimer_286 rfl ?_
  refine zk_iload C kd_Mc_runTimer_287 4 rfl rfl ?_
  refine zk_if_eq (tgt := 296) C kd_Mc_runTimer_289 (by decide) rfl (fun b1 => ?_) (fun b1 => ?_)
  · replace e := zd_pos b1 e
    refine zk_iconst (v := 0) C kd_Mc_runTimer_296 (by decide) rfl ?_
    refine zk_lvs (lv' := [(0, .ref (S.1 58)), (2, .int x2), (3, .int x3), (7, .int x7)]) [0, 1, 2, 3] rfl ?_
    exact zb_Mc_runTimer_297 C hR h x2 x3 x7 0 (x2 + 2) e
  · replace e := zd_neg b1 e
    refine zk_iconst (v := 1) C kd_Mc_runTimer_292 (by decide) rfl ?_
    refine zk_goto (tgt := 297) C kd_Mc_runTimer_293 (by decide) ?_
    refine zk_lvs (lv' := [(0, .ref (S.1 58)), (2, .int x2), (3, .int x3), (7, .int x7)]) [0, 1, 2, 3] rfl ?_
    exact zb_Mc_runTimer_297 C hR h x2 x3 x7 1 (x2 + 2) e
set_option maxHeartbeats 4000000 in
set_option maxRecDepth 100000 in
theorem zb_Mc_runTimer_122 {X : zkj_T} {S : zs_T} {P : ze_T} {l : Launch} {D : va_G} {sz0 : Nat} {rh : zs_H} (C : zk_C X km_Mc_runTimer (zs_G S l D sz0) { frames := 1, cells := 0, slots := 0, locals := 23 } (ze_E P)) (hR : zkj_R X (zd_PV S rh) (none)) (h : zs_H) (x2 : Int32) (x3 : Int32) (x7 : Int32) (y0 : Int32) (e : f_Mc_runTimer_122 h x2 x3 x7 y0 = some rh) : zk_Ab X (zs_W S h) 0 0 122 [(0, .ref (S.1 58)), (2, .int x2), (3, .int x3), (7, .int x7)] [.int y0] := by
  unfold f_Mc_runTimer_122 at e
  refine zk_istore (lv' := [(9, _), (0, _), (2, _), (3, _), (7, _)]) C kd_Mc_runTimer_122 (by decide) rfl rfl ?_
  refine zk_goto (tgt := 283) C kd_Mc_runTimer_124 (by decide) ?_
  refine zk_lvs (lv' := [(0, .ref (S.1 58)), (2, .int x2), (3, .int x3), (7, .int x7), (9, .int y0)]) [1, 2, 3, 4, 0] rfl ?_
  exact zb_Mc_runTimer_283 C hR h x2 x3 x7 y0 e
set_option maxHeartbeats 4000000 in
set_option maxRecDepth 100000 in
theorem zb_Mc_runTimer_121 {X : zkj_T} {S : zs_T} {P : ze_T} {l : Launch} {D : va_G} {sz0 : Nat} {rh : zs_H} (C : zk_C X km_Mc_runTimer (zs_G S l D sz0) { frames := 1, cells := 0, slots := 0, locals := 23 } (ze_E P)) (hR : zkj_R X (zd_PV S rh) (none)) (h : zs_H) (x2 : Int32) (x3 : Int32) (x7 : Int32) (e : f_Mc_runTimer_121 h x2 x3 x7 = some rh) : zk_Ab X (zs_W S h) 0 0 121 [(0, .ref (S.1 58)), (2, .int x2), (3, .int x3), (7, .int x7)] [] := by
  unfold f_Mc_runTimer_121 at e
  refine zk_iconst (v := 0) C kd_Mc_runTimer_121 (by decide) rfl ?_
  refine zk_lvs (lv' := [(0, .ref (S.1 58)), (2, .int x2), (3, .int x3), (7, .int x7)]) [0, 1, 2, 3] rfl ?_
  exact zb_Mc_runTimer_122 C hR h x2 x3 x7 0 e
set_option maxHeartbeats 4000000 in
set_option maxRecDepth 100000 in
theorem zb_Mc_runTimer_102 {X : zkj_T} {S : zs_T} {P : ze_T} {l : Launch} {D : va_G} {sz0 : Nat} {rh : zs_H} (C : zk_C X km_Mc_runTimer (zs_G S l D sz0) { frames := 1, cells := 0, slots := 0, locals := 23 } (ze_E P)) (hR : zkj_R X (zd_PV S rh) (none)) (h : zs_H) (x2 : Int32) (x3 : Int32) (x5 : Int64) (y0 : Int32) (e : f_Mc_runTimer_102 h x2 x3 x5 y0 = some rh) : zk_Ab X (zs_W S h) 0 0 102 [(0, .ref (S.1 58)), (2, .int x2), (3, .int x3), (5, .long x5)] [.int y0] := by
  unfold f_Mc_runTimer_102 at e
  refine zk_istore (lv' := [(7, _), (0, _), (2, _), (3, _), (5, _)]) C kd_Mc_runTimer_102 (by decide) rfl rfl ?_
  refine zk_iload_n C kd_Mc_runTimer_104 rfl 3 rfl rfl ?_
  refine zk_if_eq (tgt := 121) C kd_Mc_runTimer_105 (by decide) rfl (fun b1 => ?_) (fun b1 => ?_)
  · replace e := zd_pos b1 e
    refine zk_lvs (lv' := [(0, .ref (S.1 58)), (2, .int x2), (3, .int x3), (7, .int y0)]) [1, 2, 3, 0] rfl ?_
    exact zb_Mc_runTimer_121 C hR h x2 x3 y0 e
  · replace e := zd_neg b1 e
    refine zk_iload C kd_Mc_runTimer_108 0 rfl rfl ?_
    refine zk_i2l C kd_Mc_runTimer_110 rfl ?_
    refine zk_lload C kd_Mc_runTimer_111 4 rfl rfl ?_
    refine zk_lcmp C kd_Mc_runTimer_113 rfl ?_
    refine zk_if_lt (tgt := 121) C kd_Mc_runTimer_114 (by decide) rfl (fun b2 => ?_) (fun b2 => ?_)
    · replace e := zd_pos (zd_clt.mp b2) e
      refine zk_lvs (lv' := [(0, .ref (S.1 58)), (2, .int x2), (3, .int x3), (7, .int y0)]) [1, 2, 3, 0] rfl ?_
      exact zb_Mc_runTimer_121 C hR h x2 x3 y0 e
    · replace e := zd_neg (fun z => b2 (zd_clt.mpr z)) e
      refine zk_iconst (v := 1) C kd_Mc_runTimer_117 (by decide) rfl ?_
      refine zk_goto (tgt := 122) C kd_Mc_runTimer_118 (by decide) ?_
      refine zk_lvs (lv' := [(0, .ref (S.1 58)), (2, .int x2), (3, .int x3), (7, .int y0)]) [1, 2, 3, 0] rfl ?_
      exact zb_Mc_runTimer_122 C hR h x2 x3 y0 1 e
set_option maxHeartbeats 4000000 in
set_option maxRecDepth 100000 in
theorem zb_Mc_runTimer_101 {X : zkj_T} {S : zs_T} {P : ze_T} {l : Launch} {D : va_G} {sz0 : Nat} {rh : zs_H} (C : zk_C X km_Mc_runTimer (zs_G S l D sz0) { frames := 1, cells := 0, slots := 0, locals := 23 } (ze_E P)) (hR : zkj_R X (zd_PV S rh) (none)) (h : zs_H) (x2 : Int32) (x3 : Int32) (x5 : Int64) (e : f_Mc_runTimer_101 h x2 x3 x5 = some rh) : zk_Ab X (zs_W S h) 0 0 101 [(0, .ref (S.1 58)), (2, .int x2), (3, .int x3), (5, .long x5)] [] := by
  unfold f_Mc_runTimer_101 at e
  refine zk_iconst (v := 0) C kd_Mc_runTimer_101 (by decide) rfl ?_
  refine zk_lvs (lv' := [(0, .ref (S.1 58)), (2, .int x2), (3, .int x3), (5, .long x5)]) [0, 1, 2, 3] rfl ?_
  exact zb_Mc_runTimer_102 C hR h x2 x3 x5 0 e
set_option maxHeartbeats 4000000 in
set_option maxRecDepth 100000 in
theorem zb_Mc_runTimer_218 {X : zkj_T} {S : zs_T} {P : ze_T} {l : Launch} {D : va_G} {sz0 : Nat} {rh : zs_H} (C : zk_C X km_Mc_runTimer (zs_G S l D sz0) { frames := 1, cells := 0, slots := 0, locals := 23 } (ze_E P)) (hR : zkj_R X (zd_PV S rh) (none)) (h : zs_H) (x2 : Int32) (x3 : Int32) (x7 : Int32) (y0 : Int32) (e : f_Mc_runTimer_218 h x2 x3 x7 y0 = some rh) : zk_Ab X (zs_W S h) 0 0 218 [(0, .ref (S.1 58)), (2, .int x2), (3, .int x3), (7, .int x7)] [.int y0] := by
  unfold f_Mc_runTimer_218 at e
  refine zk_istore (lv' := [(9, _), (0, _), (2, _), (3, _), (7, _)]) C kd_Mc_runTimer_218 (by decide) rfl rfl ?_
  refine zk_goto (tgt := 283) C kd_Mc_runTimer_220 (by decide) ?_
  refine zk_lvs (lv' := [(0, .ref (S.1 58)), (2, .int x2), (3, .int x3), (7, .int x7), (9, .int y0)]) [1, 2, 3, 4, 0] rfl ?_
  exact zb_Mc_runTimer_283 C hR h x2 x3 x7 y0 e
set_option maxHeartbeats 4000000 in
set_option maxRecDepth 100000 in
theorem zb_Mc_runTimer_213 {X : zkj_T} {S : zs_T} {P : ze_T} {l : Launch} {D : va_G} {sz0 : Nat} {rh : zs_H} (C : zk_C X km_Mc_runTimer (zs_G S l D sz0) { frames := 1, cells := 0, slots := 0, locals := 23 } (ze_E P)) (hR : zkj_R X (zd_PV S rh) (none)) (h : zs_H) (x2 : Int32) (x3 : Int32) (x7 : Int32) (e : f_Mc_runTimer_213 h x2 x3 x7 = some rh) : zk_Ab X (zs_W S h) 0 0 213 [(0, .ref (S.1 58)), (2, .int x2), (3, .int x3), (7, .int x7)] [] := by
  unfold f_Mc_runTimer_213 at e
  refine zk_iconst (v := 1) C kd_Mc_runTimer_213 (by decide) rfl ?_
  refine zk_goto (tgt := 218) C kd_Mc_runTimer_214 (by decide) ?_
  refine zk_lvs (lv' := [(0, .ref (S.1 58)), (2, .int x2), (3, .int x3), (7, .int x7)]) [0, 1, 2, 3] rfl ?_
  exact zb_Mc_runTimer_218 C hR h x2 x3 x7 1 e
set_option maxHeartbeats 4000000 in
set_option maxRecDepth 100000 in
theorem zb_Mc_runTimer_217 {X : zkj_T} {S : zs_T} {P : ze_T} {l : Launch} {D : va_G} {sz0 : Nat} {rh : zs_H} (C : zk_C X km_Mc_runTimer (zs_G S l D sz0) { frames := 1, cells := 0, slots := 0, locals := 23 } (ze_E P)) (hR : zkj_R X (zd_PV S rh) (none)) (h : zs_H) (x2 : Int32) (x3 : Int32) (x7 : Int32) (e : f_Mc_runTimer_217 h x2 x3 x7 = some rh) : zk_Ab X (zs_W S h) 0 0 217 [(0, .ref (S.1 58)), (2, .int x2), (3, .int x3), (7, .int x7)] [] := by
  unfold f_Mc_runTimer_217 at e
  refine zk_iconst (v := 0) C kd_Mc_runTimer_217 (by decide) rfl ?_
  refine zk_lvs (lv' := [(0, .ref (S.1 58)), (2, .int x2), (3, .int x3), (7, .int x7)]) [0, 1, 2, 3] rfl ?_
  exact zb_Mc_runTimer_218 C hR h x2 x3 x7 0 e
set_option maxHeartbeats 4000000 in
set_option maxRecDepth 100000 in
theorem zb_Mc_runTimer_178 {X : zkj_T} {S : zs_T} {P : ze_T} {l : Launch} {D : va_G} {sz0 : Nat} {rh : zs_H} (C : zk_C X km_Mc_runTimer (zs_G S l D sz0) { frames := 1, cells := 0, slots := 0, locals := 23 } (ze_E P)) (hR : zkj_R X (zd_PV S rh) (none)) (h : zs_H) (x2 : Int32) (x3 : Int32) (x4 : Int32) (x5 : Int64) (x10 : Int32) (y0 : Int32) (e : f_Mc_runTimer_178 h x2 x3 x4 x5 x10 y0 = some rh) : zk_Ab X (zs_W S h) 0 0 178 [(0, .ref (S.1 58)), (2, .int x2), (3, .int x3), (4, .int x4), (5, .long x5), (10, .int x10)] [.int y0] := by
  unfold f_Mc_runTimer_178 at e
  refine zk_istore (lv' := [(7, _), (0, _), (2, _), (3, _), (4, _), (5, _), (10, _)]) C kd_Mc_runTimer_178 (by decide) rfl rfl ?_
  refine zk_iload_n C kd_Mc_runTimer_180 rfl 3 rfl rfl ?_
  refine zk_if_ne (tgt := 213) C kd_Mc_runTimer_181 (by decide) rfl (fun b1 => ?_) (fun b1 => ?_)
  · replace e := zd_neg b1 e
    refine zk_lvs (lv' := [(0, .ref (S.1 58)), (2, .int x2), (3, .int x3), (7, .int y0)]) [1, 2, 3, 0] rfl ?_
    exact zb_Mc_runTimer_213 C hR h x2 x3 y0 e
  · replace e := zd_pos b1 e
    refine zk_iload C kd_Mc_runTimer_184 4 rfl rfl ?_
    refine zk_if_eq (tgt := 199) C kd_Mc_runTimer_186 (by decide) rfl (fun b2 => ?_) (fun b2 => ?_)
    · replace e := zd_pos b2 e
      refine zk_iload C kd_Mc_runTimer_199 6 rfl rfl ?_
      refine zk_if_eq (tgt := 217) C kd_Mc_runTimer_201 (by decide) rfl (fun b3 => ?_) (fun b3 => ?_)
      · replace e := zd_pos b3 e
        refine zk_lvs (lv' := [(0, .ref (S.1 58)), (2, .int x2), (3, .int x3), (7, .int y0)]) [1, 2, 3, 0] rfl ?_
        exact zb_Mc_runTimer_217 C hR h x2 x3 y0 e
      · replace e := zd_neg b3 e
        refine zk_iload C kd_Mc_runTimer_204 0 rfl rfl ?_
        refine zk_i2l C kd_Mc_runTimer_206 rfl ?_
        refine zk_lload C kd_Mc_runTimer_207 5 rfl rfl ?_
        refine zk_lcmp C kd_Mc_runTimer_209 rfl ?_
        refine zk_if_ge (tgt := 217) C kd_Mc_runTimer_210 (by decide) rfl (fun b4 => ?_) (fun b4 => ?_)
        · replace e := zd_pos (zd_cge.mp b4) e
          refine zk_lvs (lv' := [(0, .ref (S.1 58)), (2, .int x2), (3, .int x3), (7, .int y0)]) [1, 2, 3, 0] rfl ?_
          exact zb_Mc_runTimer_217 C hR h x2 x3 y0 e
        · replace e := zd_neg (fun z => b4 (zd_cge.mpr z)) e
          refine zk_lvs (lv' := [(0, .ref (S.1 58)), (2, .int x2), (3, .int x3), (7, .int y0)]) [1, 2, 3, 0] rfl ?_
          exact zb_Mc_runTimer_213 C hR h x2 x3 y0 e
    · replace e := zd_neg b2 e
      refine zk_lload C kd_Mc_runTimer_189 5 rfl rfl ?_
      refine zk_lconst (v := 0) C kd_Mc_runTimer_191 (by decide) rfl ?_
      refine zk_lcmp C kd_Mc_runTimer_192 rfl ?_
      refine zk_if_le (tgt := 217) C kd_Mc_runTimer_193 (by decide) rfl (fun b5 => ?_) (fun b5 => ?_)
      · replace e := zd_pos (zd_cle.mp b5) e
        refine zk_lvs (lv' := [(0, .ref (S.1 58)), (2, .int x2), (3, .int x3), (7, .int y0)]) [1, 2, 3, 0] rfl ?_
        exact zb_Mc_runTimer_217 C hR h x2 x3 y0 e
      · replace e := zd_neg (fun z => b5 (zd_cle.mpr z)) e
        refine zk_goto (tgt := 213) C kd_Mc_runTimer_196 (by decide) ?_
        refine zk_lvs (lv' := [(0, .ref (S.1 58)), (2, .int x2), (3, .int x3), (7, .int y0)]) [1, 2, 3, 0] rfl ?_
        exact zb_Mc_runTimer_213 C hR h x2 x3 y0 e
set_option maxHeartbeats 4000000 in
set_option maxRecDepth 100000 in
theorem zb_Mc_runTimer_172 {X : zkj_T} {S : zs_T} {P : ze_T} {l : Launch} {D : va_G} {sz0 : Nat} {rh : zs_H} (C : zk_C X km_Mc_runTimer (zs_G S l D sz0) { frames := 1, cells := 0, slots := 0, locals := 23 } (ze_E P)) (hR : zkj_R X (zd_PV S rh) (none)) (h : zs_H) (x2 : Int32) (x3 : Int32) (x4 : Int32) (x5 : Int64) (x10 : Int32) (e : f_Mc_runTimer_172 h x2 x3 x4 x5 x10 = some rh) : zk_Ab X (zs_W S h) 0 0 172 [(0, .ref (S.1 58)), (2, .int x2), (3, .int x3), (4, .int x4), (5, .long x5), (10, .int x10)] [] := by
  unfold f_Mc_runTimer_172 at e
  refine zk_iconst (v := 0) C kd_Mc_runTimer_172 (by decide) rfl ?_
  refine zk_goto (tgt := 178) C kd_Mc_runTimer_173 (by decide) ?_
  refine zk_lvs (lv' := [(0, .ref (S.1 58)), (2, .int x2), (3, .int x3), (4, .int x4), (5, .long x5), (10, .int x10)]) [0, 1, 2, 3, 4, 5] rfl ?_
  exact zb_Mc_runTimer_178 C hR h x2 x3 x4 x5 x10 0 e
set_option maxHeartbeats 4000000 in
set_option maxRecDepth 100000 in
theorem zb_Mc_runTimer_151 {X : zkj_T} {S : zs_T} {P : ze_T} {l : Launch} {D : va_G} {sz0 : Nat} {rh : zs_H} (C : zk_C X km_Mc_runTimer (zs_G S l D sz0) { frames := 1, cells := 0, slots := 0, locals := 23 } (ze_E P)) (hR : zkj_R X (zd_PV S rh) (none)) (h : zs_H) (x2 : Int32) (x3 : Int32) (x4 : Int32) (x5 : Int64) (x7 : Int32) (x8 : Int32) (y0 : Int32) (e : f_Mc_runTimer_151 h x2 x3 x4 x5 x7 x8 y0 = some rh) : zk_Ab X (zs_W S h) 0 0 151 [(0, .ref (S.1 58)), (2, .int x2), (3, .int x3), (4, .int x4), (5, .long x5), (7, .int x7), (8, .int x8)] [.int y0] := by
  unfold f_Mc_runTimer_151 at e
  refine zk_istore (lv' := [(10, _), (0, _), (2, _), (3, _), (4, _), (5, _), (7, _), (8, _)]) C kd_Mc_runTimer_151 (by decide) rfl rfl ?_
  refine zk_iload C kd_Mc_runTimer_153 0 rfl rfl ?_
  refine zk_if_eq (tgt := 163) C kd_Mc_runTimer_155 (by decide) rfl (fun b1 => ?_) (fun b1 => ?_)
  · replace e := zd_pos b1 e
    refine zk_iload_n C kd_Mc_runTimer_163 rfl 3 rfl rfl ?_
    refine zk_if_ne (tgt := 172) C kd_Mc_runTimer_164 (by decide) rfl (fun b2 => ?_) (fun b2 => ?_)
    · replace e := zd_neg b2 e
      refine zk_lvs (lv' := [(0, .ref (S.1 58)), (2, .int x2), (3, .int x3), (4, .int x4), (5, .long x5), (10, .int y0)]) [1, 2, 3, 4, 5, 0] rfl ?_
      exact zb_Mc_runTimer_172 C hR h x2 x3 x4 x5 y0 e
    · replace e := zd_pos b2 e
      refine zk_iload C kd_Mc_runTimer_167 4 rfl rfl ?_
      refine zk_if_eq (tgt := 176) C kd_Mc_runTimer_169 (by decide) rfl (fun b3 => ?_) (fun b3 => ?_)
      · replace e := zd_pos b3 e
        refine zk_iload C kd_Mc_runTimer_176 6 rfl rfl ?_
        refine zk_lvs (lv' := [(0, .ref (S.1 58)), (2, .int x2), (3, .int x3), (4, .int x4), (5, .long x5), (10, .int y0)]) [1, 2, 3, 4, 5, 0] rfl ?_
        exact zb_Mc_runTimer_178 C hR h x2 x3 x4 x5 y0 x7 e
      · replace e := zd_neg b3 e
        refine zk_lvs (lv' := [(0, .ref (S.1 58)), (2, .int x2), (3, .int x3), (4, .int x4), (5, .long x5), (10, .int y0)]) [1, 2, 3, 4, 5, 0] rfl ?_
        exact zb_Mc_runTimer_172 C hR h x2 x3 x4 x5 y0 e
  · replace e := zd_neg b1 e
    refine zk_iload C kd_Mc_runTimer_158 7 rfl rfl ?_
    refine zk_goto (tgt := 178) C kd_Mc_runTimer_160 (by decide) ?_
    refine zk_lvs (lv' := [(0, .ref (S.1 58)), (2, .int x2), (3, .int x3), (4, .int x4), (5, .long x5), (10, .int y0)]) [1, 2, 3, 4, 5, 0] rfl ?_
    exact zb_Mc_runTimer_178 C hR h x2 x3 x4 x5 y0 x8 e
set_option maxHeartbeats 4000000 in
set_option maxRecDepth 100000 in
theorem zb_Mc_runTimer_150 {X : zkj_T} {S : zs_T} {P : ze_T} {l : Launch} {D : va_G} {sz0 : Nat} {rh : zs_H} (C : zk_C X km_Mc_runTimer (zs_G S l D sz0) { frames := 1, cells := 0, slots := 0, locals := 23 } (ze_E P)) (hR : zkj_R X (zd_PV S rh) (none)) (h : zs_H) (x2 : Int32) (x3 : Int32) (x4 : Int32) (x5 : Int64) (x7 : Int32) (x8 : Int32) (e : f_Mc_runTimer_150 h x2 x3 x4 x5 x7 x8 = some rh) : zk_Ab X (zs_W S h) 0 0 150 [(0, .ref (S.1 58)), (2, .int x2), (3, .int x3), (4, .int x4), (5, .long x5), (7, .int x7), (8, .int x8)] [] := by
  unfold f_Mc_runTimer_150 at e
  refine zk_iconst (v := 0) C kd_Mc_runTimer_150 (by decide) rfl ?_
  refine zk_lvs (lv' := [(0, .ref (S.1 58)), (2, .int x2), (3, .int x3), (4, .int x4), (5, .long x5), (7, .int x7), (8, .int x8)]) [0, 1, 2, 3, 4, 5, 6] rfl ?_
  exact zb_Mc_runTimer_151 C hR h x2 x3 x4 x5 x7 x8 0 e
set_option maxHeartbeats 4000000 in
set_option maxRecDepth 100000 in
theorem zb_Mc_runTimer_281 {X : zkj_T} {S : zs_T} {P : ze_T} {l : Launch} {D : va_G} {sz0 : Nat} {rh : zs_H} (C : zk_C X km_Mc_runTimer (zs_G S l D sz0) { frames := 1, cells := 0, slots := 0, locals := 23 } (ze_E P)) (hR : zkj_R X (zd_PV S rh) (none)) (h : zs_H) (x2 : Int32) (x3 : Int32) (x7 : Int32) (y0 : Int32) (e : f_Mc_runTimer_281 h x2 x3 x7 y0 = some rh) : zk_Ab X (zs_W S h) 0 0 281 [(0, .ref (S.1 58)), (2, .int x2), (3, .int x3), (7, .int x7)] [.int y0] := by
  unfold f_Mc_runTimer_281 at e
  refine zk_istore (lv' := [(9, _), (0, _), (2, _), (3, _), (7, _)]) C kd_Mc_runTimer_281 (by decide) rfl rfl ?_
  refine zk_lvs (lv' := [(0, .ref (S.1 58)), (2, .int x2), (3, .int x3), (7, .int x7), (9, .int y0)]) [1, 2, 3, 4, 0] rfl ?_
  exact zb_Mc_runTimer_283 C hR h x2 x3 x7 y0 e
set_option maxHeartbeats 4000000 in
set_option maxRecDepth 100000 in
theorem zb_Mc_runTimer_280 {X : zkj_T} {S : zs_T} {P : ze_T} {l : Launch} {D : va_G} {sz0 : Nat} {rh : zs_H} (C : zk_C X km_Mc_runTimer (zs_G S l D sz0) { frames := 1, cells := 0, slots := 0, locals := 23 } (ze_E P)) (hR : zkj_R X (zd_PV S rh) (none)) (h : zs_H) (x2 : Int32) (x3 : Int32) (x7 : Int32) (e : f_Mc_runTimer_280 h x2 x3 x7 = some rh) : zk_Ab X (zs_W S h) 0 0 280 [(0, .ref (S.1 58)), (2, .int x2), (3, .int x3), (7, .int x7)] [] := by
  unfold f_Mc_runTimer_280 at e
  refine zk_iconst (v := 0) C kd_Mc_runTimer_280 (by decide) rfl ?_
  refine zk_lvs (lv' := [(0, .ref (S.1 58)), (2, .int x2), (3, .int x3), (7, .int x7)]) [0, 1, 2, 3] rfl ?_
  exact zb_Mc_runTimer_281 C hR h x2 x3 x7 0 e
set_option maxHeartbeats 4000000 in
set_option maxRecDepth 100000 in
theorem zb_Mc_runTimer_262 {X : zkj_T} {S : zs_T} {P : ze_T} {l : Launch} {D : va_G} {sz0 : Nat} {rh : zs_H} (C : zk_C X km_Mc_runTimer (zs_G S l D sz0) { frames := 1, cells := 0, slots := 0, locals := 23 } (ze_E P)) (hR : zkj_R X (zd_PV S rh) (none)) (h : zs_H) (x2 : Int32) (x3 : Int32) (x5 : Int64) (e : f_Mc_runTimer_262 h x2 x3 x5 = some rh) : zk_Ab X (zs_W S h) 0 0 262 [(0, .ref (S.1 58)), (2, .int x2), (3, .int x3), (5, .long x5)] [] := by
  unfold f_Mc_runTimer_262 at e
  refine zk_iconst (v := 0) C kd_Mc_runTimer_262 (by decide) rfl ?_
  refine zk_istore (lv' := [(7, _), (0, _), (2, _), (3, _), (5, _)]) C kd_Mc_runTimer_263 (by decide) rfl rfl ?_
  refine zk_iload_n C kd_Mc_runTimer_265 rfl 3 rfl rfl ?_
  refine zk_if_eq (tgt := 280) C kd_Mc_runTimer_266 (by decide) rfl (fun b1 => ?_) (fun b1 => ?_)
  · replace e := zd_pos b1 e
    refine zk_lvs (lv' := [(0, .ref (S.1 58)), (2, .int x2), (3, .int x3), (7, .int 0)]) [1, 2, 3, 0] rfl ?_
    exact zb_Mc_runTimer_280 C hR h x2 x3 0 e
  · replace e := zd_neg b1 e
    refine zk_lload C kd_Mc_runTimer_269 4 rfl rfl ?_
    refine zk_lconst (v := 0) C kd_Mc_runTimer_271 (by decide) rfl ?_
    refine zk_lcmp C kd_Mc_runTimer_272 rfl ?_
    refine zk_if_le (tgt := 280) C kd_Mc_runTimer_273 (by decide) rfl (fun b2 => ?_) (fun b2 => ?_)
    · replace e := zd_pos (zd_cle.mp b2) e
      refine zk_lvs (lv' := [(0, .ref (S.1 58)), (2, .int x2), (3, .int x3), (7, .int 0)]) [1, 2, 3, 0] rfl ?_
      exact zb_Mc_runTimer_280 C hR h x2 x3 0 e
    · replace e := zd_neg (fun z => b2 (zd_cle.mpr z)) e
      refine zk_iconst (v := 1) C kd_Mc_runTimer_276 (by decide) rfl ?_
      refine zk_goto (tgt := 281) C kd_Mc_runTimer_277 (by decide) ?_
      refine zk_lvs (lv' := [(0, .ref (S.1 58)), (2, .int x2), (3, .int x3), (7, .int 0)]) [1, 2, 3, 0] rfl ?_
      exact zb_Mc_runTimer_281 C hR h x2 x3 0 1 e
set_option maxHeartbeats 4000000 in
set_option maxRecDepth 100000 in
theorem zb_Mc_runTimer_248 {X : zkj_T} {S : zs_T} {P : ze_T} {l : Launch} {D : va_G} {sz0 : Nat} {rh : zs_H} (C : zk_C X km_Mc_runTimer (zs_G S l D sz0) { frames := 1, cells := 0, slots := 0, locals := 23 } (ze_E P)) (hR : zkj_R X (zd_PV S rh) (none)) (h : zs_H) (x2 : Int32) (x3 : Int32) (x4 : Int32) (x5 : Int64) (x7 : Int32) (x9 : Int32) (e : f_Mc_runTimer_248 h x2 x3 x4 x5 x7 x9 = some rh) : zk_Ab X (zs_W S h) 0 0 248 [(0, .ref (S.1 58)), (2, .int x2), (3, .int x3), (4, .int x4), (5, .long x5), (7, .int x7), (9, .int x9)] [] := by
  unfold f_Mc_runTimer_248 at e
  refine zk_iload C kd_Mc_runTimer_248 6 rfl rfl ?_
  refine zk_if_ne (tgt := 283) C kd_Mc_runTimer_250 (by decide) rfl (fun b1 => ?_) (fun b1 => ?_)
  · replace e := zd_neg b1 e
    refine zk_lvs (lv' := [(0, .ref (S.1 58)), (2, .int x2), (3, .int x3), (7, .int x7), (9, .int x9)]) [0, 1, 2, 5, 6] rfl ?_
    exact zb_Mc_runTimer_283 C hR h x2 x3 x7 x9 e
  · replace e := zd_pos b1 e
    refine zk_iload_n C kd_Mc_runTimer_253 rfl 2 rfl rfl ?_
    refine zk_if_eq (tgt := 262) C kd_Mc_runTimer_254 (by decide) rfl (fun b2 => ?_) (fun b2 => ?_)
    · replace e := zd_pos b2 e
      refine zk_lvs (lv' := [(0, .ref (S.1 58)), (2, .int x2), (3, .int x3), (5, .long x5)]) [0, 1, 2, 4] rfl ?_
      exact zb_Mc_runTimer_262 C hR h x2 x3 x5 e
    · replace e := zd_neg b2 e
      refine zk_iload C kd_Mc_runTimer_257 3 rfl rfl ?_
      refine zk_if_ne (tgt := 283) C kd_Mc_runTimer_259 (by decide) rfl (fun b3 => ?_) (fun b3 => ?_)
      · replace e := zd_neg b3 e
        refine zk_lvs (lv' := [(0, .ref (S.1 58)), (2, .int x2), (3, .int x3), (7, .int x7), (9, .int x9)]) [0, 1, 2, 5, 6] rfl ?_
        exact zb_Mc_runTimer_283 C hR h x2 x3 x7 x9 e
      · replace e := zd_pos b3 e
        refine zk_lvs (lv' := [(0, .ref (S.1 58)), (2, .int x2), (3, .int x3), (5, .long x5)]) [0, 1, 2, 4] rfl ?_
        exact zb_Mc_runTimer_262 C hR h x2 x3 x5 e
set_option maxHeartbeats 4000000 in
set_option maxRecDepth 100000 in
theorem zb_Mc_runTimer_246 {X : zkj_T} {S : zs_T} {P : ze_T} {l : Launch} {D : va_G} {sz0 : Nat} {rh : zs_H} (C : zk_C X km_Mc_runTimer (zs_G S l D sz0) { frames := 1, cells := 0, slots := 0, locals := 23 } (ze_E P)) (hR : zkj_R X (zd_PV S rh) (none)) (h : zs_H) (x2 : Int32) (x3 : Int32) (x4 : Int32) (x5 : Int64) (x7 : Int32) (y0 : Int32) (e : f_Mc_runTimer_246 h x2 x3 x4 x5 x7 y0 = some rh) : zk_Ab X (zs_W S h) 0 0 246 [(0, .ref (S.1 58)), (2, .int x2), (3, .int x3), (4, .int x4), (5, .long x5), (7, .int x7)] [.int y0] := by
  unfold f_Mc_runTimer_246 at e
  refine zk_istore (lv' := [(9, _), (0, _), (2, _), (3, _), (4, _), (5, _), (7, _)]) C kd_Mc_runTimer_246 (by decide) rfl rfl ?_
  refine zk_lvs (lv' := [(0, .ref (S.1 58)), (2, .int x2), (3, .int x3), (4, .int x4), (5, .long x5), (7, .int x7), (9, .int y0)]) [1, 2, 3, 4, 5, 6, 0] rfl ?_
  exact zb_Mc_runTimer_248 C hR h x2 x3 x4 x5 x7 y0 e
set_option maxHeartbeats 4000000 in
set_option maxRecDepth 100000 in
theorem zb_Mc_runTimer_81 {X : zkj_T} {S : zs_T} {P : ze_T} {l : Launch} {D : va_G} {sz0 : Nat} {rh : zs_H} (C : zk_C X km_Mc_runTimer (zs_G S l D sz0) { frames := 1, cells := 0, slots := 0, locals := 23 } (ze_E P)) (hR : zkj_R X (zd_PV S rh) (none)) (h : zs_H) (x1 : Int32) (x2 : Int32) (x3 : Int32) (x4 : Int32) (x5 : Int64) (x7 : Int32) (x8 : Int32) (y0 : Int32) (e : f_Mc_runTimer_81 h x1 x2 x3 x4 x5 x7 x8 y0 = some rh) : zk_Ab X (zs_W S h) 0 0 81 [(0, .ref (S.1 58)), (1, .int x1), (2, .int x2), (3, .int x3), (4, .int x4), (5, .long x5), (7, .int x7), (8, .int x8)] [.int y0] := by
  unfold f_Mc_runTimer_81 at e
  refine zk_istore (lv' := [(9, _), (0, _), (1, _), (2, _), (3, _), (4, _), (5, _), (7, _), (8, _)]) C kd_Mc_runTimer_81 (by decide) rfl rfl ?_
  refine zk_iload_n C kd_Mc_runTimer_83 rfl 2 rfl rfl ?_
  refine zk_if_ne (tgt := 127) C kd_Mc_runTimer_84 (by decide) rfl (fun b1 => ?_) (fun b1 => ?_)
  · replace e := zd_neg b1 e
    refine zk_iload_n C kd_Mc_runTimer_127 rfl 2 rfl rfl ?_
    refine zk_iconst (v := 1) C kd_Mc_runTimer_128 (by decide) rfl ?_
    refine zk_icmp_ne (tgt := 223) C kd_Mc_runTimer_129 (by decide) rfl (fun b2 => ?_) (fun b2 => ?_)
    · replace e := zd_neg b2 e
      refine zk_iload C kd_Mc_runTimer_223 0 rfl rfl ?_
      refine zk_if_eq (tgt := 248) C kd_Mc_runTimer_225 (by decide) rfl (fun b3 => ?_) (fun b3 => ?_)
      · replace e := zd_pos b3 e
        refine zk_lvs (lv' := [(0, .ref (S.1 58)), (2, .int x2), (3, .int x3), (4, .int x4), (5, .long x5), (7, .int x7), (9, .int y0)]) [1, 3, 4, 5, 6, 7, 0] rfl ?_
        exact zb_Mc_runTimer_248 C hR h x2 x3 x4 x5 x7 y0 e
      · replace e := zd_neg b3 e
        refine zk_iload C kd_Mc_runTimer_228 8 rfl rfl ?_
        refine zk_istore (lv' := [(7, _), (9, _), (0, _), (1, _), (2, _), (3, _), (4, _), (5, _), (8, _)]) C kd_Mc_runTimer_230 (by decide) rfl rfl ?_
        refine zk_iload C kd_Mc_runTimer_232 0 rfl rfl ?_
        refine zk_i2l C kd_Mc_runTimer_234 rfl ?_
        refine zk_lload C kd_Mc_runTimer_235 7 rfl rfl ?_
        refine zk_lcmp C kd_Mc_runTimer_237 rfl ?_
        refine zk_if_ge (tgt := 245) C kd_Mc_runTimer_238 (by decide) rfl (fun b4 => ?_) (fun b4 => ?_)
        · replace e := zd_pos (zd_cge.mp b4) e
          refine zk_iconst (v := 0) C kd_Mc_runTimer_245 (by decide) rfl ?_
          refine zk_lvs (lv' := [(0, .ref (S.1 58)), (2, .int x2), (3, .int x3), (4, .int x4), (5, .long x5), (7, .int x8)]) [2, 4, 5, 6, 7, 0] rfl ?_
          exact zb_Mc_runTimer_246 C hR h x2 x3 x4 x5 x8 0 e
        · replace e := zd_neg (fun z => b4 (zd_cge.mpr z)) e
          refine zk_iconst (v := 1) C kd_Mc_runTimer_241 (by decide) rfl ?_
          refine zk_goto (tgt := 246) C kd_Mc_runTimer_242 (by decide) ?_
          refine zk_lvs (lv' := [(0, .ref (S.1 58)), (2, .int x2), (3, .int x3), (4, .int x4), (5, .long x5), (7, .int x8)]) [2, 4, 5, 6, 7, 0] rfl ?_
          exact zb_Mc_runTimer_246 C hR h x2 x3 x4 x5 x8 1 e
    · replace e := zd_pos b2 e
      refine zk_iload_n C kd_Mc_runTimer_132 rfl 4 rfl rfl ?_
      refine zk_if_ne (tgt := 150) C kd_Mc_runTimer_133 (by decide) rfl (fun b5 => ?_) (fun b5 => ?_)
      · replace e := zd_neg b5 e
        refine zk_lvs (lv' := [(0, .ref (S.1 58)), (2, .int x2), (3, .int x3), (4, .int x4), (5, .long x5), (7, .int x7), (8, .int x8)]) [1, 3, 4, 5, 6, 7, 8] rfl ?_
        exact zb_Mc_runTimer_150 C hR h x2 x3 x4 x5 x7 x8 e
      · replace e := zd_pos b5 e
        refine zk_iload C kd_Mc_runTimer_136 5 rfl rfl ?_
        refine zk_if_ne (tgt := 150) C kd_Mc_runTimer_138 (by decide) rfl (fun b6 => ?_) (fun b6 => ?_)
        · replace e := zd_neg b6 e
          refine zk_lvs (lv' := [(0, .ref (S.1 58)), (2, .int x2), (3, .int x3), (4, .int x4), (5, .long x5), (7, .int x7), (8, .int x8)]) [1, 3, 4, 5, 6, 7, 8] rfl ?_
          exact zb_Mc_runTimer_150 C hR h x2 x3 x4 x5 x7 x8 e
        · replace e := zd_pos b6 e
          refine zk_iload C kd_Mc_runTimer_141 0 rfl rfl ?_
          refine zk_if_eq (tgt := 150) C kd_Mc_runTimer_143 (by decide) rfl (fun b7 => ?_) (fun b7 => ?_)
          · replace e := zd_pos b7 e
            refine zk_lvs (lv' := [(0, .ref (S.1 58)), (2, .int x2), (3, .int x3), (4, .int x4), (5, .long x5), (7, .int x7), (8, .int x8)]) [1, 3, 4, 5, 6, 7, 8] rfl ?_
            exact zb_Mc_runTimer_150 C hR h x2 x3 x4 x5 x7 x8 e
          · replace e := zd_neg b7 e
            refine zk_iconst (v := 1) C kd_Mc_runTimer_146 (by decide) rfl ?_
            refine zk_goto (tgt := 151) C kd_Mc_runTimer_147 (by decide) ?_
            refine zk_lvs (lv' := [(0, .ref (S.1 58)), (2, .int x2), (3, .int x3), (4, .int x4), (5, .long x5), (7, .int x7), (8, .int x8)]) [1, 3, 4, 5, 6, 7, 8] rfl ?_
            exact zb_Mc_runTimer_151 C hR h x2 x3 x4 x5 x7 x8 1 e
  · replace e := zd_pos b1 e
    refine zk_iload_n C kd_Mc_runTimer_87 rfl 4 rfl rfl ?_
    refine zk_if_eq (tgt := 101) C kd_Mc_runTimer_88 (by decide) rfl (fun b8 => ?_) (fun b8 => ?_)
    · replace e := zd_pos b8 e
      refine zk_lvs (lv' := [(0, .ref (S.1 58)), (2, .int x2), (3, .int x3), (5, .long x5)]) [1, 3, 4, 6] rfl ?_
      exact zb_Mc_runTimer_101 C hR h x2 x3 x5 e
    · replace e := zd_neg b8 e
      refine zk_iload C kd_Mc_runTimer_91 5 rfl rfl ?_
      refine zk_if_eq (tgt := 101) C kd_Mc_runTimer_93 (by decide) rfl (fun b9 => ?_) (fun b9 => ?_)
      · replace e := zd_pos b9 e
        refine zk_lvs (lv' := [(0, .ref (S.1 58)), (2, .int x2), (3, .int x3), (5, .long x5)]) [1, 3, 4, 6] rfl ?_
        exact zb_Mc_runTimer_101 C hR h x2 x3 x5 e
      · replace e := zd_neg b9 e
        refine zk_iload C kd_Mc_runTimer_96 8 rfl rfl ?_
        refine zk_goto (tgt := 102) C kd_Mc_runTimer_98 (by decide) ?_
        refine zk_lvs (lv' := [(0, .ref (S.1 58)), (2, .int x2), (3, .int x3), (5, .long x5)]) [1, 3, 4, 6] rfl ?_
        exact zb_Mc_runTimer_102 C hR h x2 x3 x5 x8 e
set_option maxHeartbeats 4000000 in
set_option maxRecDepth 100000 in
theorem zb_Mc_runTimer_15 {X : zkj_T} {S : zs_T} {P : ze_T} {l : Launch} {D : va_G} {sz0 : Nat} {rh : zs_H} (C : zk_C X km_Mc_runTimer (zs_G S l D sz0) { frames := 1, cells := 0, slots := 0, locals := 23 } (ze_E P)) (hR : zkj_R X (zd_PV S rh) (none)) (h : zs_H) (x1 : Int32) (x2 : Int32) (x3 : Int32) (y0 : Int32) (e : f_Mc_runTimer_15 h x1 x2 x3 y0 = some rh) : zk_Ab X (zs_W S h) 0 0 15 [(0, .ref (S.1 58)), (1, .int x1), (2, .int x2), (3, .int x3)] [.int y0] := by
  unfold f_Mc_runTimer_15 at e
  refine zk_istore (lv' := [(4, _), (0, _), (1, _), (2, _), (3, _)]) C kd_Mc_runTimer_15 (by decide) rfl rfl ?_
  refine zk_iconst (v := 0) C kd_Mc_runTimer_17 (by decide) rfl ?_
  refine zk_aload_n C kd_Mc_runTimer_18 rfl 1 rfl rfl ?_
  refine zk_iload_n C kd_Mc_runTimer_19 rfl 3 rfl rfl ?_
  refine zk_iconst (v := 1) C kd_Mc_runTimer_20 (by decide) rfl ?_
  refine zk_iadd C kd_Mc_runTimer_21 rfl ?_
  obtain ⟨v2, c1, e⟩ := zd_b e
  refine zs_callV (k := 58) (rn := { frames := 0, cells := 0, slots := 0, locals := 0 }) (As := [.int (x2 + 1)]) (rest := [.int 0]) C (zc_Mc_cellAt h (x2 + 1) c1) ku_Mc_cellAt kw1534 kv_Mc_cellAt rfl ⟨by decide, by decide⟩ ⟨by decide, by decide⟩ rfl rfl rfl (Nat.le_of_ble_eq_true rfl) kd_Mc_runTimer_22 rfl (c1 := 0) (s1 := 0) rfl rfl (fun v w hp => ?_)
  obtain ⟨rfl, rfl⟩ := hp
  refine zk_stk (r' := [.int v2, .int 0]) rfl ?_
  refine zk_mmax C kw1565 kw797 kw19 (by decide) (Nat.le_of_ble_eq_true rfl) (Nat.le_refl _) (Nat.le_refl _) kd_Mc_runTimer_25 rfl ?_
  refine zk_i2l C kd_Mc_runTimer_28 rfl ?_
  refine zk_lstore (lv' := [(5, _), (4, _), (0, _), (1, _), (2, _), (3, _)]) C kd_Mc_runTimer_29 (by decide) rfl rfl ?_
  refine zk_aload_n C kd_Mc_runTimer_31 rfl 2 rfl rfl ?_
  refine zk_iload_n C kd_Mc_runTimer_32 rfl 4 rfl rfl ?_
  refine zk_iconst (v := 3) C kd_Mc_runTimer_33 (by decide) rfl ?_
  refine zk_iadd C kd_Mc_runTimer_34 rfl ?_
  obtain ⟨v4, c3, e⟩ := zd_b e
  refine zs_callV (k := 58) (rn := { frames := 0, cells := 0, slots := 0, locals := 0 }) (As := [.int (x2 + 3)]) (rest := []) C (zc_Mc_cellAt h (x2 + 3) c3) ku_Mc_cellAt kw1534 kv_Mc_cellAt rfl ⟨by decide, by decide⟩ ⟨by decide, by decide⟩ rfl rfl rfl (Nat.le_of_ble_eq_true rfl) kd_Mc_runTimer_35 rfl (c1 := 0) (s1 := 0) rfl rfl (fun v w hp => ?_)
  obtain ⟨rfl, rfl⟩ := hp
  refine zk_stk (r' := [.int v4]) rfl ?_
  refine zk_istore (lv' := [(7, _), (5, _), (4, _), (0, _), (1, _), (2, _), (3, _)]) C kd_Mc_runTimer_38 (by decide) rfl rfl ?_
  refine zk_lload C kd_Mc_runTimer_40 1 rfl rfl ?_
  refine zk_iload C kd_Mc_runTimer_42 0 rfl rfl ?_
  refine zk_i2l C kd_Mc_runTimer_44 rfl ?_
  refine zk_aload_n C kd_Mc_runTimer_45 rfl 3 rfl rfl ?_
  refine zs_get (v := .int (h.1 58 9)) C 58 9 rfl rfl rfl rfl ki_Mc (by decide) kw535 kd_Mc_runTimer_46 rfl ?_
  refine zk_i2l C kd_Mc_runTimer_49 rfl ?_
  refine zk_aload_n C kd_Mc_runTimer_50 rfl 3 rfl rfl ?_
  refine zk_iload_n C kd_Mc_runTimer_51 rfl 5 rfl rfl ?_
  refine zk_iconst (v := 5) C kd_Mc_runTimer_52 (by decide) rfl ?_
  refine zk_iadd C kd_Mc_runTimer_53 rfl ?_
  obtain ⟨v6, c5, e⟩ := zd_b e
  refine zs_callV (k := 58) (rn := { frames := 0, cells := 0, slots := 0, locals := 0 }) (As := [.int (x2 + 5)]) (rest := [.long ((h.1 58 9).toInt64), .long (v4.toInt64), .long ((zd_max 0 v2).toInt64)]) C (zc_Mc_cellAt h (x2 + 5) c5) ku_Mc_cellAt kw1534 kv_Mc_cellAt rfl ⟨by decide, by decide⟩ ⟨by decide, by decide⟩ rfl rfl rfl (Nat.le_of_ble_eq_true rfl) kd_Mc_runTimer_54 rfl (c1 := 0) (s1 := 0) rfl rfl (fun v w hp => ?_)
  obtain ⟨rfl, rfl⟩ := hp
  refine zk_stk (r' := [.int v6, .long ((h.1 58 9).toInt64), .long (v4.toInt64), .long ((zd_max 0 v2).toInt64)]) rfl ?_
  refine zk_i2l C kd_Mc_runTimer_57 rfl ?_
  refine zk_lsub C kd_Mc_runTimer_58 rfl ?_
  refine zk_ladd C kd_Mc_runTimer_59 rfl ?_
  refine zk_mminl C kw1566 kw760 kw19 (by decide) (Nat.le_of_ble_eq_true rfl) (Nat.le_refl _) (Nat.le_refl _) kd_Mc_runTimer_60 rfl ?_
  refine zk_l2i C kd_Mc_runTimer_63 rfl ?_
  refine zk_istore (lv' := [(8, _), (7, _), (5, _), (4, _), (0, _), (1, _), (2, _), (3, _)]) C kd_Mc_runTimer_64 (by decide) rfl rfl ?_
  refine zk_aload_n C kd_Mc_runTimer_66 rfl 4 rfl rfl ?_
  refine zk_iload_n C kd_Mc_runTimer_67 rfl 6 rfl rfl ?_
  refine zk_iconst (v := 2) C kd_Mc_runTimer_68 (by decide) rfl ?_
  refine zk_iadd C kd_Mc_runTimer_69 rfl ?_
  obtain ⟨v8, c7, e⟩ := zd_b e
  refine zs_callV (k := 58) (rn := { frames := 0, cells := 0, slots := 0, locals := 0 }) (As := [.int (x2 + 2)]) (rest := []) C (zc_Mc_cellAt h (x2 + 2) c7) ku_Mc_cellAt kw1534 kv_Mc_cellAt rfl ⟨by decide, by decide⟩ ⟨by decide, by decide⟩ rfl rfl rfl (Nat.le_of_ble_eq_true rfl) kd_Mc_runTimer_70 rfl (c1 := 0) (s1 := 0) rfl rfl (fun v w hp => ?_)
  obtain ⟨rfl, rfl⟩ := hp
  refine zk_stk (r' := [.int v8]) rfl ?_
  refine zk_if_eq (tgt := 80) C kd_Mc_runTimer_73 (by decide) rfl (fun b9 => ?_) (fun b9 => ?_)
  · replace e := zd_pos b9 e
    refine zk_iconst (v := 0) C kd_Mc_runTimer_80 (by decide) rfl ?_
    refine zk_lvs (lv' := [(0, .ref (S.1 58)), (1, .int x1), (2, .int x2), (3, .int x3), (4, .int y0), (5, .long ((zd_max 0 v2).toInt64)), (7, .int v4), (8, .int ((zd_minl ((zd_max 0 v2).toInt64) ((v4.toInt64) + (((h.1 58 9).toInt64) - (v6.toInt64)))).toInt32))]) [4, 5, 6, 7, 3, 2, 1, 0] rfl ?_
    exact zb_Mc_runTimer_81 C hR h x1 x2 x3 y0 ((zd_max 0 v2).toInt64) v4 ((zd_minl ((zd_max 0 v2).toInt64) ((v4.toInt64) + (((h.1 58 9).toInt64) - (v6.toInt64)))).toInt32) 0 e
  · replace e := zd_neg b9 e
    refine zk_iconst (v := 1) C kd_Mc_runTimer_76 (by decide) rfl ?_
    refine zk_goto (tgt := 81) C kd_Mc_runTimer_77 (by decide) ?_
    refine zk_lvs (lv' := [(0, .ref (S.1 58)), (1, .int x1), (2, .int x2), (3, .int x3), (4, .int y0), (5, .long ((zd_max 0 v2).toInt64)), (7, .int v4), (8, .int ((zd_minl ((zd_max 0 v2).toInt64) ((v4.toInt64) + (((h.1 58 9).toInt64) - (v6.toInt64)))).toInt32))]) [4, 5, 6, 7, 3, 2, 1, 0] rfl ?_
    exact zb_Mc_runTimer_81 C hR h x1 x2 x3 y0 ((zd_max 0 v2).toInt64) v4 ((zd_minl ((zd_max 0 v2).toInt64) ((v4.toInt64) + (((h.1 58 9).toInt64) - (v6.toInt64)))).toInt32) 1 e
set_option maxHeartbeats 4000000 in
set_option maxRecDepth 100000 in
theorem zc_Mc_runTimer {l : Launch} {D : va_G} {sz0 : Nat} {S : zs_T} {P : ze_T} (h : zs_H) (x1 : Int32) (x2 : Int32) (x3 : Int32) {rh : zs_H} (e : f_Mc_runTimer h x1 x2 x3 = some rh) : zk_Sp (zs_G S l D sz0) (ze_E P) km_Mc_runTimer { frames := 1, cells := 0, slots := 0, locals := 23 } [.ref (S.1 58), .int x1, .int x2, .int x3] (zs_W S h) (zd_PV S rh) := by
  refine zk_met ku_Mc_runTimer (Nat.le_of_ble_eq_true rfl) (ze_Em P) ?_
  intro X C hR
  refine zk_lvs (lv' := [(0, .ref (S.1 58)), (1, .int x1), (2, .int x2), (3, .int x3)]) [0, 1, 2, 3] rfl ?_
  unfold f_Mc_runTimer at e
  refine zk_aload_n C kd_Mc_runTimer_0 rfl 0 rfl rfl ?_
  refine zk_iload_n C kd_Mc_runTimer_1 rfl 2 rfl rfl ?_
  refine zk_iconst (v := 4) C kd_Mc_runTimer_2 (by decide) rfl ?_
  refine zk_iadd C kd_Mc_runTimer_3 rfl ?_
  obtain ⟨v2, c1, e⟩ := zd_b e
  refine zs_callV (k := 58) (rn := { frames := 0, cells := 0, slots := 0, locals := 0 }) (As := [.int (x2 + 4)]) (rest := []) C (zc_Mc_cellAt h (x2 + 4) c1) ku_Mc_cellAt kw1534 kv_Mc_cellAt rfl ⟨by decide, by decide⟩ ⟨by decide, by decide⟩ rfl rfl rfl (Nat.le_of_ble_eq_true rfl) kd_Mc_runTimer_4 rfl (c1 := 0) (s1 := 0) rfl rfl (fun v w hp => ?_)
  obtain ⟨rfl, rfl⟩ := hp
  refine zk_stk (r' := [.int v2]) rfl ?_
  refine zk_if_eq (tgt := 14) C kd_Mc_runTimer_7 (by decide) rfl (fun b3 => ?_) (fun b3 => ?_)
  · replace e := zd_pos b3 e
    refine zk_iconst (v := 0) C kd_Mc_runTimer_14 (by decide) rfl ?_
    refine zk_lvs (lv' := [(0, .ref (S.1 58)), (1, .int x1), (2, .int x2), (3, .int x3)]) [0, 1, 2, 3] rfl ?_
    exact zb_Mc_runTimer_15 C hR h x1 x2 x3 0 e
  · replace e := zd_neg b3 e
    refine zk_iconst (v := 1) C kd_Mc_runTimer_10 (by decide) rfl ?_
    refine zk_goto (tgt := 15) C kd_Mc_runTimer_11 (by decide) ?_
    refine zk_lvs (lv' := [(0, .ref (S.1 58)), (1, .int x1), (2, .int x2), (3, .int x3)]) [0, 1, 2, 3] rfl ?_
    exact zb_Mc_runTimer_15 C hR h x1 x2 x3 1 e
set_option maxHeartbeats 4000000 in
set_option maxRecDepth 100000 in
theorem zb_Mc_runCounter_170 {X : zkj_T} {S : zs_T} {P : ze_T} {l : Launch} {D : va_G} {sz0 : Nat} {rh : zs_H} (C : zk_C X km_Mc_runCounter (zs_G S l D sz0) { frames := 1, cells := 0, slots := 0, locals := 22 } (ze_E P)) (hR : zkj_R X (zd_PV S rh) (none)) (h : zs_H) (y0 : Int32) (y1 : Int32) (e : f_Mc_runCounter_170 h y0 y1 = some rh) : zk_Ab X (zs_W S h) 0 0 170 [] [.int y0, .int y1, .ref (S.1 58)] := by
  unfold f_Mc_runCounter_170 at e
  obtain ⟨h2, c1, e⟩ := zd_b e
  refine zs_callV (k := 58) (rn := { frames := 0, cells := 0, slots := 0, locals := 0 }) (As := [.int y1, .int y0]) (rest := []) C (zc_Mc_become h y1 y0 c1) ku_Mc_become kw1460 kv_Mc_become rfl ⟨by decide, by decide⟩ ⟨by decide, by decide⟩ rfl rfl rfl (Nat.le_of_ble_eq_true rfl) kd_Mc_runCounter_170 rfl (c1 := 0) (s1 := 0) rfl rfl (fun v w hp => ?_)
  obtain ⟨rfl, rfl⟩ := hp
  refine zk_stk (r' := []) rfl ?_
  exact zk_vret C hR kd_Mc_runCounter_173 rfl rfl (zd_rV e)
set_option maxHeartbeats 4000000 in
set_option maxRecDepth 100000 in
theorem zb_Mc_runCounter_145 {X : zkj_T} {S : zs_T} {P : ze_T} {l : Launch} {D : va_G} {sz0 : Nat} {rh : zs_H} (C : zk_C X km_Mc_runCounter (zs_G S l D sz0) { frames := 1, cells := 0, slots := 0, locals := 22 } (ze_E P)) (hR : zkj_R X (zd_PV S rh) (none)) (h : zs_H) (x2 : Int32) (x3 : Int32) (x7 : Int32) (y0 : Int32) (y1 : Int32) (e : f_Mc_runCounter_145 h x2 x3 x7 y0 y1 = some rh) : zk_Ab X (zs_W S h) 0 0 145 [(0, .ref (S.1 58)), (2, .int x2), (3, .int x3), (7, .int x7)] [.int y0, .int y1, .ref (S.1 58)] := by
  unfold f_Mc_runCounter_145 at e
  obtain ⟨h2, c1, e⟩ := zd_b e
  refine zs_callV (k := 58) (rn := { frames := 0, cells := 0, slots := 0, locals := 0 }) (As := [.int y1, .int y0]) (rest := []) C (zc_Mc_become h y1 y0 c1) ku_Mc_become kw1460 kv_Mc_become rfl ⟨by decide, by decide⟩ ⟨by decide, by decide⟩ rfl rfl rfl (Nat.le_of_ble_eq_true rfl) kd_Mc_runCounter_145 rfl (c1 := 0) (s1 := 0) rfl rfl (fun v w hp => ?_)
  obtain ⟨rfl, rfl⟩ := hp
  refine zk_stk (r' := []) rfl ?_
  refine zk_aload_n C kd_Mc_runCounter_148 rfl 0 rfl rfl ?_
  refine zk_iload_n C kd_Mc_runCounter_149 rfl 1 rfl rfl ?_
  refine zk_iconst (v := 4) C kd_Mc_runCounter_150 (by decide) rfl ?_
  refine zk_iadd C kd_Mc_runCounter_151 rfl ?_
  refine zk_iload C kd_Mc_runCounter_152 3 rfl rfl ?_
  obtain ⟨h4, c3, e⟩ := zd_b e
  refine zs_callV (k := 58) (rn := { frames := 0, cells := 0, slots := 0, locals := 0 }) (As := [.int (x2 + 4), .int x7]) (rest := []) C (zc_Mc_become h2 (x2 + 4) x7 c3) ku_Mc_become kw1460 kv_Mc_become rfl ⟨by decide, by decide⟩ ⟨by decide, by decide⟩ rfl rfl rfl (Nat.le_of_ble_eq_true rfl) kd_Mc_runCounter_154 rfl (c1 := 0) (s1 := 0) rfl rfl (fun v w hp => ?_)
  obtain ⟨rfl, rfl⟩ := hp
  refine zk_stk (r' := []) rfl ?_
  refine zk_aload_n C kd_Mc_runCounter_157 rfl 0 rfl rfl ?_
  refine zk_iload_n C kd_Mc_runCounter_158 rfl 1 rfl rfl ?_
  refine zk_iconst (v := 5) C kd_Mc_runCounter_159 (by decide) rfl ?_
  refine zk_iadd C kd_Mc_runCounter_160 rfl ?_
  refine zk_iload_n C kd_Mc_runCounter_161 rfl 2 rfl rfl ?_
  refine zk_if_eq (tgt := 169) C kd_Mc_runCounter_162 (by decide) rfl (fun b5 => ?_) (fun b5 => ?_)
  · replace e := zd_pos b5 e
    refine zk_iconst (v := 0) C kd_Mc_runCounter_169 (by decide) rfl ?_
    refine zk_lvs (lv' := []) [] rfl ?_
    exact zb_Mc_runCounter_170 C hR h4 0 (x2 + 5) e
  · replace e := zd_neg b5 e
    refine zk_iconst (v := 1) C kd_Mc_runCounter_165 (by decide) rfl ?_
    refine zk_goto (tgt := 170) C kd_Mc_runCounter_166 (by decide) ?_
    refine zk_lvs (lv' := []) [] rfl ?_
    exact zb_Mc_runCounter_170 C hR h4 1 (x2 + 5) e
set_option maxHeartbeats 4000000 in
set_option maxRecDepth 100000 in
theorem zb_Mc_runCounter_140 {X : zkj_T} {S : zs_T} {P : ze_T} {l : Launch} {D : va_G} {sz0 : Nat} {rh : zs_H} (C : zk_C X km_Mc_runCounter (zs_G S l D sz0) { frames := 1, cells := 0, slots := 0, locals := 22 } (ze_E P)) (hR : zkj_R X (zd_PV S rh) (none)) (h : zs_H) (x2 : Int32) (x3 : Int32) (x7 : Int32) (y0 : Int32) (e : f_Mc_runCounter_140 h x2 x3 x7 y0 = some rh) : zk_Ab X (zs_W S h) 0 0 140 [(0, .ref (S.1 58)), (2, .int x2), (3, .int x3), (7, .int x7)] [.int y0, .ref (S.1 58)] := by
  unfold f_Mc_runCounter_140 at e
  refine zk_iconst (v := 1) C kd_Mc_runCounter_140 (by decide) rfl ?_
  refine zk_goto (tgt := 145) C kd_Mc_runCounter_141 (by decide) ?_
  refine zk_lvs (lv' := [(0, .ref (S.1 58)), (2, .int x2), (3, .int x3), (7, .int x7)]) [0, 1, 2, 3] rfl ?_
  exact zb_Mc_runCounter_145 C hR h x2 x3 x7 1 y0 e
set_option maxHeartbeats 4000000 in
set_option maxRecDepth 100000 in
theorem zb_Mc_runCounter_144 {X : zkj_T} {S : zs_T} {P : ze_T} {l : Launch} {D : va_G} {sz0 : Nat} {rh : zs_H} (C : zk_C X km_Mc_runCounter (zs_G S l D sz0) { frames := 1, cells := 0, slots := 0, locals := 22 } (ze_E P)) (hR : zkj_R X (zd_PV S rh) (none)) (h : zs_H) (x2 : Int32) (x3 : Int32) (x7 : Int32) (y0 : Int32) (e : f_Mc_runCounter_144 h x2 x3 x7 y0 = some rh) : zk_Ab X (zs_W S h) 0 0 144 [(0, .ref (S.1 58)), (2, .int x2), (3, .int x3), (7, .int x7)] [.int y0, .ref (S.1 58)] := by
  unfold f_Mc_runCounter_144 at e
  refine zk_iconst (v := 0) C kd_Mc_runCounter_144 (by decide) rfl ?_
  refine zk_lvs (lv' := [(0, .ref (S.1 58)), (2, .int x2), (3, .int x3), (7, .int x7)]) [0, 1, 2, 3] rfl ?_
  exact zb_Mc_runCounter_145 C hR h x2 x3 x7 0 y0 e
set_option maxHeartbeats 4000000 in
set_option maxRecDepth 100000 in
theorem zb_Mc_runCounter_116 {X : zkj_T} {S : zs_T} {P : ze_T} {l : Launch} {D : va_G} {sz0 : Nat} {rh : zs_H} (C : zk_C X km_Mc_runCounter (zs_G S l D sz0) { frames := 1, cells := 0, slots := 0, locals := 22 } (ze_E P)) (hR : zkj_R X (zd_PV S rh) (none)) (h : zs_H) (x2 : Int32) (x3 : Int32) (x6 : Int32) (x7 : Int32) (x8 : Int32) (e : f_Mc_runCounter_116 h x2 x3 x6 x7 x8 = some rh) : zk_Ab X (zs_W S h) 0 0 116 [(0, .ref (S.1 58)), (2, .int x2), (3, .int x3), (6, .int x6), (7, .int x7), (8, .int x8)] [] := by
  unfold f_Mc_runCounter_116 at e
  refine zk_aload_n C kd_Mc_runCounter_116 rfl 0 rfl rfl ?_
  refine zk_iload_n C kd_Mc_runCounter_117 rfl 1 rfl rfl ?_
  refine zk_iconst (v := 3) C kd_Mc_runCounter_118 (by decide) rfl ?_
  refine zk_iadd C kd_Mc_runCounter_119 rfl ?_
  refine zk_iload C kd_Mc_runCounter_120 5 rfl rfl ?_
  refine zk_if_eq (tgt := 135) C kd_Mc_runCounter_122 (by decide) rfl (fun b1 => ?_) (fun b1 => ?_)
  · replace e := zd_pos b1 e
    refine zk_iload C kd_Mc_runCounter_135 4 rfl rfl ?_
    refine zk_if_gt (tgt := 144) C kd_Mc_runCounter_137 (by decide) rfl (fun b2 => ?_) (fun b2 => ?_)
    · replace e := zd_pos b2 e
      refine zk_lvs (lv' := [(0, .ref (S.1 58)), (2, .int x2), (3, .int x3), (7, .int x7)]) [0, 1, 2, 4] rfl ?_
      exact zb_Mc_runCounter_144 C hR h x2 x3 x7 (x2 + 3) e
    · replace e := zd_neg b2 e
      refine zk_lvs (lv' := [(0, .ref (S.1 58)), (2, .int x2), (3, .int x3), (7, .int x7)]) [0, 1, 2, 4] rfl ?_
      exact zb_Mc_runCounter_140 C hR h x2 x3 x7 (x2 + 3) e
  · replace e := zd_neg b1 e
    refine zk_iload C kd_Mc_runCounter_125 4 rfl rfl ?_
    refine zk_iload C kd_Mc_runCounter_127 3 rfl rfl ?_
    refine zk_icmp_lt (tgt := 144) C kd_Mc_runCounter_129 (by decide) rfl (fun b3 => ?_) (fun b3 => ?_)
    · replace e := zd_pos b3 e
      refine zk_lvs (lv' := [(0, .ref (S.1 58)), (2, .int x2), (3, .int x3), (7, .int x7)]) [0, 1, 2, 4] rfl ?_
      exact zb_Mc_runCounter_144 C hR h x2 x3 x7 (x2 + 3) e
    · replace e := zd_neg b3 e
      refine zk_goto (tgt := 140) C kd_Mc_runCounter_132 (by decide) ?_
      refine zk_lvs (lv' := [(0, .ref (S.1 58)), (2, .int x2), (3, .int x3), (7, .int x7)]) [0, 1, 2, 4] rfl ?_
      exact zb_Mc_runCounter_140 C hR h x2 x3 x7 (x2 + 3) e
set_option maxHeartbeats 4000000 in
set_option maxRecDepth 100000 in
theorem zb_Mc_runCounter_67 {X : zkj_T} {S : zs_T} {P : ze_T} {l : Launch} {D : va_G} {sz0 : Nat} {rh : zs_H} (C : zk_C X km_Mc_runCounter (zs_G S l D sz0) { frames := 1, cells := 0, slots := 0, locals := 22 } (ze_E P)) (hR : zkj_R X (zd_PV S rh) (none)) (h : zs_H) (x2 : Int32) (x3 : Int32) (x6 : Int32) (x8 : Int32) (y0 : Int32) (e : f_Mc_runCounter_67 h x2 x3 x6 x8 y0 = some rh) : zk_Ab X (zs_W S h) 0 0 67 [(0, .ref (S.1 58)), (2, .int x2), (3, .int x3), (6, .int x6), (8, .int x8)] [.int y0] := by
  unfold f_Mc_runCounter_67 at e
  refine zk_istore (lv' := [(7, _), (0, _), (2, _), (3, _), (6, _), (8, _)]) C kd_Mc_runCounter_67 (by decide) rfl rfl ?_
  refine zk_goto (tgt := 116) C kd_Mc_runCounter_69 (by decide) ?_
  refine zk_lvs (lv' := [(0, .ref (S.1 58)), (2, .int x2), (3, .int x3), (6, .int x6), (7, .int y0), (8, .int x8)]) [1, 2, 3, 4, 0, 5] rfl ?_
  exact zb_Mc_runCounter_116 C hR h x2 x3 x6 y0 x8 e
set_option maxHeartbeats 4000000 in
set_option maxRecDepth 100000 in
theorem zb_Mc_runCounter_113 {X : zkj_T} {S : zs_T} {P : ze_T} {l : Launch} {D : va_G} {sz0 : Nat} {rh : zs_H} (C : zk_C X km_Mc_runCounter (zs_G S l D sz0) { frames := 1, cells := 0, slots := 0, locals := 22 } (ze_E P)) (hR : zkj_R X (zd_PV S rh) (none)) (h : zs_H) (x2 : Int32) (x3 : Int32) (x6 : Int32) (x8 : Int32) (y0 : Int32) (y1 : Int32) (e : f_Mc_runCounter_113 h x2 x3 x6 x8 y0 y1 = some rh) : zk_Ab X (zs_W S h) 0 0 113 [(0, .ref (S.1 58)), (2, .int x2), (3, .int x3), (6, .int x6), (8, .int x8)] [.int y0, .int y1] := by
  unfold f_Mc_runCounter_113 at e
  refine zk_iadd C kd_Mc_runCounter_113 rfl ?_
  refine zk_istore (lv' := [(7, _), (0, _), (2, _), (3, _), (6, _), (8, _)]) C kd_Mc_runCounter_114 (by decide) rfl rfl ?_
  refine zk_lvs (lv' := [(0, .ref (S.1 58)), (2, .int x2), (3, .int x3), (6, .int x6), (7, .int (y1 + y0)), (8, .int x8)]) [1, 2, 3, 4, 0, 5] rfl ?_
  exact zb_Mc_runCounter_116 C hR h x2 x3 x6 (y1 + y0) x8 e
set_option maxHeartbeats 4000000 in
set_option maxRecDepth 100000 in
theorem zb_Mc_runCounter_101 {X : zkj_T} {S : zs_T} {P : ze_T} {l : Launch} {D : va_G} {sz0 : Nat} {rh : zs_H} (C : zk_C X km_Mc_runCounter (zs_G S l D sz0) { frames := 1, cells := 0, slots := 0, locals := 22 } (ze_E P)) (hR : zkj_R X (zd_PV S rh) (none)) (h : zs_H) (x2 : Int32) (x3 : Int32) (x6 : Int32) (x7 : Int32) (x8 : Int32) (e : f_Mc_runCounter_101 h x2 x3 x6 x7 x8 = some rh) : zk_Ab X (zs_W S h) 0 0 101 [(0, .ref (S.1 58)), (2, .int x2), (3, .int x3), (6, .int x6), (7, .int x7), (8, .int x8)] [] := by
  unfold f_Mc_runCounter_101 at e
  refine zk_iload C kd_Mc_runCounter_101 4 rfl rfl ?_
  refine zk_iload C kd_Mc_runCounter_103 5 rfl rfl ?_
  refine zk_if_eq (tgt := 112) C kd_Mc_runCounter_105 (by decide) rfl (fun b1 => ?_) (fun b1 => ?_)
  · replace e := zd_pos b1 e
    refine zk_iconst (v := (-1)) C kd_Mc_runCounter_112 (by decide) rfl ?_
    refine zk_lvs (lv' := [(0, .ref (S.1 58)), (2, .int x2), (3, .int x3), (6, .int x6), (8, .int x8)]) [0, 1, 2, 3, 5] rfl ?_
    exact zb_Mc_runCounter_113 C hR h x2 x3 x6 x8 (-1) x7 e
  · replace e := zd_neg b1 e
    refine zk_iconst (v := 1) C kd_Mc_runCounter_108 (by decide) rfl ?_
    refine zk_goto (tgt := 113) C kd_Mc_runCounter_109 (by decide) ?_
    refine zk_lvs (lv' := [(0, .ref (S.1 58)), (2, .int x2), (3, .int x3), (6, .int x6), (8, .int x8)]) [0, 1, 2, 3, 5] rfl ?_
    exact zb_Mc_runCounter_113 C hR h x2 x3 x6 x8 1 x7 e
set_option maxHeartbeats 4000000 in
set_option maxRecDepth 100000 in
theorem zb_Mc_runCounter_49 {X : zkj_T} {S : zs_T} {P : ze_T} {l : Launch} {D : va_G} {sz0 : Nat} {rh : zs_H} (C : zk_C X km_Mc_runCounter (zs_G S l D sz0) { frames := 1, cells := 0, slots := 0, locals := 22 } (ze_E P)) (hR : zkj_R X (zd_PV S rh) (none)) (h : zs_H) (x2 : Int32) (x3 : Int32) (x4 : Int32) (x5 : Int32) (x6 : Int32) (x7 : Int32) (y0 : Int32) (e : f_Mc_runCounter_49 h x2 x3 x4 x5 x6 x7 y0 = some rh) : zk_Ab X (zs_W S h) 0 0 49 [(0, .ref (S.1 58)), (2, .int x2), (3, .int x3), (4, .int x4), (5, .int x5), (6, .int x6), (7, .int x7)] [.int y0] := by
  unfold f_Mc_runCounter_49 at e
  refine zk_istore (lv' := [(8, _), (0, _), (2, _), (3, _), (4, _), (5, _), (6, _), (7, _)]) C kd_Mc_runCounter_49 (by decide) rfl rfl ?_
  refine zk_iload C kd_Mc_runCounter_51 4 rfl rfl ?_
  refine zk_if_eq (tgt := 72) C kd_Mc_runCounter_53 (by decide) rfl (fun b1 => ?_) (fun b1 => ?_)
  · replace e := zd_pos b1 e
    refine zk_iload C kd_Mc_runCounter_72 5 rfl rfl ?_
    refine zk_if_eq (tgt := 116) C kd_Mc_runCounter_74 (by decide) rfl (fun b2 => ?_) (fun b2 => ?_)
    · replace e := zd_pos b2 e
      refine zk_lvs (lv' := [(0, .ref (S.1 58)), (2, .int x2), (3, .int x3), (6, .int x6), (7, .int x7), (8, .int y0)]) [1, 2, 3, 6, 7, 0] rfl ?_
      exact zb_Mc_runCounter_116 C hR h x2 x3 x6 x7 y0 e
    · replace e := zd_neg b2 e
      refine zk_iload C kd_Mc_runCounter_77 0 rfl rfl ?_
      refine zk_if_eq (tgt := 93) C kd_Mc_runCounter_79 (by decide) rfl (fun b3 => ?_) (fun b3 => ?_)
      · replace e := zd_pos b3 e
        refine zk_iload C kd_Mc_runCounter_93 7 rfl rfl ?_
        refine zk_sipush (v := (-32768)) C kd_Mc_runCounter_95 (by decide) rfl ?_
        refine zk_icmp_le (tgt := 116) C kd_Mc_runCounter_98 (by decide) rfl (fun b4 => ?_) (fun b4 => ?_)
        · replace e := zd_pos b4 e
          refine zk_lvs (lv' := [(0, .ref (S.1 58)), (2, .int x2), (3, .int x3), (6, .int x6), (7, .int x7), (8, .int y0)]) [1, 2, 3, 6, 7, 0] rfl ?_
          exact zb_Mc_runCounter_116 C hR h x2 x3 x6 x7 y0 e
        · replace e := zd_neg b4 e
          refine zk_lvs (lv' := [(0, .ref (S.1 58)), (2, .int x2), (3, .int x3), (6, .int x6), (7, .int x7), (8, .int y0)]) [1, 2, 3, 6, 7, 0] rfl ?_
          exact zb_Mc_runCounter_101 C hR h x2 x3 x6 x7 y0 e
      · replace e := zd_neg b3 e
        refine zk_iload C kd_Mc_runCounter_82 7 rfl rfl ?_
        refine zk_sipush (v := 32767) C kd_Mc_runCounter_84 (by decide) rfl ?_
        refine zk_icmp_ge (tgt := 116) C kd_Mc_runCounter_87 (by decide) rfl (fun b5 => ?_) (fun b5 => ?_)
        · replace e := zd_pos b5 e
          refine zk_lvs (lv' := [(0, .ref (S.1 58)), (2, .int x2), (3, .int x3), (6, .int x6), (7, .int x7), (8, .int y0)]) [1, 2, 3, 6, 7, 0] rfl ?_
          exact zb_Mc_runCounter_116 C hR h x2 x3 x6 x7 y0 e
        · replace e := zd_neg b5 e
          refine zk_goto (tgt := 101) C kd_Mc_runCounter_90 (by decide) ?_
          refine zk_lvs (lv' := [(0, .ref (S.1 58)), (2, .int x2), (3, .int x3), (6, .int x6), (7, .int x7), (8, .int y0)]) [1, 2, 3, 6, 7, 0] rfl ?_
          exact zb_Mc_runCounter_101 C hR h x2 x3 x6 x7 y0 e
  · replace e := zd_neg b1 e
    refine zk_iload C kd_Mc_runCounter_56 0 rfl rfl ?_
    refine zk_if_eq (tgt := 65) C kd_Mc_runCounter_58 (by decide) rfl (fun b6 => ?_) (fun b6 => ?_)
    · replace e := zd_pos b6 e
      refine zk_iload C kd_Mc_runCounter_65 6 rfl rfl ?_
      refine zk_lvs (lv' := [(0, .ref (S.1 58)), (2, .int x2), (3, .int x3), (6, .int x6), (8, .int y0)]) [1, 2, 3, 6, 0] rfl ?_
      exact zb_Mc_runCounter_67 C hR h x2 x3 x6 y0 x6 e
    · replace e := zd_neg b6 e
      refine zk_iconst (v := 0) C kd_Mc_runCounter_61 (by decide) rfl ?_
      refine zk_goto (tgt := 67) C kd_Mc_runCounter_62 (by decide) ?_
      refine zk_lvs (lv' := [(0, .ref (S.1 58)), (2, .int x2), (3, .int x3), (6, .int x6), (8, .int y0)]) [1, 2, 3, 6, 0] rfl ?_
      exact zb_Mc_runCounter_67 C hR h x2 x3 x6 y0 0 e
set_option maxHeartbeats 4000000 in
set_option maxRecDepth 100000 in
theorem zb_Mc_runCounter_19 {X : zkj_T} {S : zs_T} {P : ze_T} {l : Launch} {D : va_G} {sz0 : Nat} {rh : zs_H} (C : zk_C X km_Mc_runCounter (zs_G S l D sz0) { frames := 1, cells := 0, slots := 0, locals := 22 } (ze_E P)) (hR : zkj_R X (zd_PV S rh) (none)) (h : zs_H) (x1 : Int32) (x2 : Int32) (x3 : Int32) (x4 : Int32) (y0 : Int32) (e : f_Mc_runCounter_19 h x1 x2 x3 x4 y0 = some rh) : zk_Ab X (zs_W S h) 0 0 19 [(0, .ref (S.1 58)), (1, .int x1), (2, .int x2), (3, .int x3), (4, .int x4)] [.int y0] := by
  unfold f_Mc_runCounter_19 at e
  refine zk_istore (lv' := [(5, _), (0, _), (1, _), (2, _), (3, _), (4, _)]) C kd_Mc_runCounter_19 (by decide) rfl rfl ?_
  refine zk_aload_n C kd_Mc_runCounter_21 rfl 1 rfl rfl ?_
  refine zk_iload_n C kd_Mc_runCounter_22 rfl 3 rfl rfl ?_
  refine zk_iconst (v := 2) C kd_Mc_runCounter_23 (by decide) rfl ?_
  refine zk_iadd C kd_Mc_runCounter_24 rfl ?_
  obtain ⟨v2, c1, e⟩ := zd_b e
  refine zs_callV (k := 58) (rn := { frames := 0, cells := 0, slots := 0, locals := 0 }) (As := [.int (x2 + 2)]) (rest := []) C (zc_Mc_cellAt h (x2 + 2) c1) ku_Mc_cellAt kw1534 kv_Mc_cellAt rfl ⟨by decide, by decide⟩ ⟨by decide, by decide⟩ rfl rfl rfl (Nat.le_of_ble_eq_true rfl) kd_Mc_runCounter_25 rfl (c1 := 0) (s1 := 0) rfl rfl (fun v w hp => ?_)
  obtain ⟨rfl, rfl⟩ := hp
  refine zk_stk (r' := [.int v2]) rfl ?_
  refine zk_istore (lv' := [(6, _), (5, _), (0, _), (1, _), (2, _), (3, _), (4, _)]) C kd_Mc_runCounter_28 (by decide) rfl rfl ?_
  refine zk_aload_n C kd_Mc_runCounter_30 rfl 2 rfl rfl ?_
  refine zk_iload_n C kd_Mc_runCounter_31 rfl 4 rfl rfl ?_
  refine zk_iconst (v := 4) C kd_Mc_runCounter_32 (by decide) rfl ?_
  refine zk_iadd C kd_Mc_runCounter_33 rfl ?_
  obtain ⟨v4, c3, e⟩ := zd_b e
  refine zs_callV (k := 58) (rn := { frames := 0, cells := 0, slots := 0, locals := 0 }) (As := [.int (x2 + 4)]) (rest := []) C (zc_Mc_cellAt h (x2 + 4) c3) ku_Mc_cellAt kw1534 kv_Mc_cellAt rfl ⟨by decide, by decide⟩ ⟨by decide, by decide⟩ rfl rfl rfl (Nat.le_of_ble_eq_true rfl) kd_Mc_runCounter_34 rfl (c1 := 0) (s1 := 0) rfl rfl (fun v w hp => ?_)
  obtain ⟨rfl, rfl⟩ := hp
  refine zk_stk (r' := [.int v4]) rfl ?_
  refine zk_istore (lv' := [(7, _), (6, _), (5, _), (0, _), (1, _), (2, _), (3, _), (4, _)]) C kd_Mc_runCounter_37 (by decide) rfl rfl ?_
  refine zk_iload_n C kd_Mc_runCounter_39 rfl 4 rfl rfl ?_
  refine zk_iconst (v := 3) C kd_Mc_runCounter_40 (by decide) rfl ?_
  refine zk_icmp_ne (tgt := 48) C kd_Mc_runCounter_41 (by decide) rfl (fun b5 => ?_) (fun b5 => ?_)
  · replace e := zd_neg b5 e
    refine zk_iconst (v := 0) C kd_Mc_runCounter_48 (by decide) rfl ?_
    refine zk_lvs (lv' := [(0, .ref (S.1 58)), (2, .int x2), (3, .int x3), (4, .int x4), (5, .int y0), (6, .int v2), (7, .int v4)]) [3, 5, 6, 7, 2, 1, 0] rfl ?_
    exact zb_Mc_runCounter_49 C hR h x2 x3 x4 y0 v2 v4 0 e
  · replace e := zd_pos b5 e
    refine zk_iconst (v := 1) C kd_Mc_runCounter_44 (by decide) rfl ?_
    refine zk_goto (tgt := 49) C kd_Mc_runCounter_45 (by decide) ?_
    refine zk_lvs (lv' := [(0, .ref (S.1 58)), (2, .int x2), (3, .int x3), (4, .int x4), (5, .int y0), (6, .int v2), (7, .int v4)]) [3, 5, 6, 7, 2, 1, 0] rfl ?_
    exact zb_Mc_runCounter_49 C hR h x2 x3 x4 y0 v2 v4 1 e
set_option maxHeartbeats 4000000 in
set_option maxRecDepth 100000 in
theorem zb_Mc_runCounter_18 {X : zkj_T} {S : zs_T} {P : ze_T} {l : Launch} {D : va_G} {sz0 : Nat} {rh : zs_H} (C : zk_C X km_Mc_runCounter (zs_G S l D sz0) { frames := 1, cells := 0, slots := 0, locals := 22 } (ze_E P)) (hR : zkj_R X (zd_PV S rh) (none)) (h : zs_H) (x1 : Int32) (x2 : Int32) (x3 : Int32) (x4 : Int32) (e : f_Mc_runCounter_18 h x1 x2 x3 x4 = some rh) : zk_Ab X (zs_W S h) 0 0 18 [(0, .ref (S.1 58)), (1, .int x1), (2, .int x2), (3, .int x3), (4, .int x4)] [] := by
  unfold f_Mc_runCounter_18 at e
  refine zk_iconst (v := 0) C kd_Mc_runCounter_18 (by decide) rfl ?_
  refine zk_lvs (lv' := [(0, .ref (S.1 58)), (1, .int x1), (2, .int x2), (3, .int x3), (4, .int x4)]) [0, 1, 2, 3, 4] rfl ?_
  exact zb_Mc_runCounter_19 C hR h x1 x2 x3 x4 0 e
set_option maxHeartbeats 4000000 in
set_option maxRecDepth 100000 in
theorem zc_Mc_runCounter {l : Launch} {D : va_G} {sz0 : Nat} {S : zs_T} {P : ze_T} (h : zs_H) (x1 : Int32) (x2 : Int32) (x3 : Int32) (x4 : Int32) {rh : zs_H} (e : f_Mc_runCounter h x1 x2 x3 x4 = some rh) : zk_Sp (zs_G S l D sz0) (ze_E P) km_Mc_runCounter { frames := 1, cells := 0, slots := 0, locals := 22 } [.ref (S.1 58), .int x1, .int x2, .int x3, .int x4] (zs_W S h) (zd_PV S rh) := by
  refine zk_met ku_Mc_runCounter (Nat.le_of_ble_eq_true rfl) (ze_Em P) ?_
  intro X C hR
  refine zk_lvs (lv' := [(0, .ref (S.1 58)), (1, .int x1), (2, .int x2), (3, .int x3), (4, .int x4)]) [0, 1, 2, 3, 4] rfl ?_
  unfold f_Mc_runCounter at e
  refine zk_iload_n C kd_Mc_runCounter_0 rfl 3 rfl rfl ?_
  refine zk_if_eq (tgt := 18) C kd_Mc_runCounter_1 (by decide) rfl (fun b1 => ?_) (fun b1 => ?_)
  · replace e := zd_pos b1 e
    refine zk_lvs (lv' := [(0, .ref (S.1 58)), (1, .int x1), (2, .int x2), (3, .int x3), (4, .int x4)]) [0, 1, 2, 3, 4] rfl ?_
    exact zb_Mc_runCounter_18 C hR h x1 x2 x3 x4 e
  · replace e := zd_neg b1 e
    refine zk_aload_n C kd_Mc_runCounter_4 rfl 0 rfl rfl ?_
    refine zk_iload_n C kd_Mc_runCounter_5 rfl 2 rfl rfl ?_
    refine zk_iconst (v := 5) C kd_Mc_runCounter_6 (by decide) rfl ?_
    refine zk_iadd C kd_Mc_runCounter_7 rfl ?_
    obtain ⟨v3, c2, e⟩ := zd_b e
    refine zs_callV (k := 58) (rn := { frames := 0, cells := 0, slots := 0, locals := 0 }) (As := [.int (x2 + 5)]) (rest := []) C (zc_Mc_cellAt h (x2 + 5) c2) ku_Mc_cellAt kw1534 kv_Mc_cellAt rfl ⟨by decide, by decide⟩ ⟨by decide, by decide⟩ rfl rfl rfl (Nat.le_of_ble_eq_true rfl) kd_Mc_runCounter_8 rfl (c1 := 0) (s1 := 0) rfl rfl (fun v w hp => ?_)
    obtain ⟨rfl, rfl⟩ := hp
    refine zk_stk (r' := [.int v3]) rfl ?_
    refine zk_if_ne (tgt := 18) C kd_Mc_runCounter_11 (by decide) rfl (fun b4 => ?_) (fun b4 => ?_)
    · replace e := zd_neg b4 e
      refine zk_lvs (lv' := [(0, .ref (S.1 58)), (1, .int x1), (2, .int x2), (3, .int x3), (4, .int x4)]) [0, 1, 2, 3, 4] rfl ?_
      exact zb_Mc_runCounter_18 C hR h x1 x2 x3 x4 e
    · replace e := zd_pos b4 e
      refine zk_iconst (v := 1) C kd_Mc_runCounter_14 (by decide) rfl ?_
      refine zk_goto (tgt := 19) C kd_Mc_runCounter_15 (by decide) ?_
      refine zk_lvs (lv' := [(0, .ref (S.1 58)), (1, .int x1), (2, .int x2), (3, .int x3), (4, .int x4)]) [0, 1, 2, 3, 4] rfl ?_
      exact zb_Mc_runCounter_19 C hR h x1 x2 x3 x4 1 e
