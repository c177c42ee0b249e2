abbrev km_law : zk_MT := (x, code, 4, ret, 1)
def zl_scr (X : zk_T) (b L : Nat) (xs : Nat → Int32) : Prop := match X with
  | (_, _, _, _, s, _, _, _, _, _, _, _, _, _, sz0, _) => va_X b L xs s s.heap ∧ b < s.heap.size ∧ ¬ zk_A sz0 b
section ZL
variable {X : zk_T} {M : zk_MT} {G : zk_GT} {rm : Room} {E : Nat → State → Prop} {ws : va_W} {cells slots pc n : Nat} {lv : List (Nat × Value)} {r : List Value}
theorem zl_sld {b L : Nat} {xs : Nat → Int32} {i : Int32} (C : zk_C X M G rm E) (hs : zl_scr X b L xs) (hin : vp_in i L) (d : decode M.2.1 pc = .ok (.iaload, 1)) (hpc : pc + 1 = n) (k : zk_Ab X ws cells slots n lv (.int (xs i.toNatClampNeg) :: r)) : zk_Ab X ws cells slots pc lv (.int i :: .ref b :: r) := by
  obtain ⟨p, l, e, R, s, m, args, below, meth, c, Q, D, cl, tys, sz0, nL⟩ := X
  obtain ⟨⟨hx, hb, hml, hown, hts⟩, hK, hsz, hE, hEm, hG9, hnL9, hrm9, hin0⟩ := C; subst hG9; subst hnL9; subst hrm9
  subst hpc
  exact fun H locs ls hP hD hS h => va_sld hx hb hs.1 hs.2.1 hs.2.2 hS hin d (k H locs ls hP hD hS h)
theorem zl_slen {b L : Nat} {xs : Nat → Int32} (C : zk_C X M G rm E) (hs : zl_scr X b L xs) (d : decode M.2.1 pc = .ok (.arraylength, 1)) (hpc : pc + 1 = n) (k : zk_Ab X ws cells slots n lv (.int (Int32.ofNat L) :: r)) : zk_Ab X ws cells slots pc lv (.ref b :: r) := by
  obtain ⟨p, l, e, R, s, m, args, below, meth, c, Q, D, cl, tys, sz0, nL⟩ := X
  obtain ⟨⟨hx, hb, hml, hown, hts⟩, hK, hsz, hE, hEm, hG9, hnL9, hrm9, hin0⟩ := C; subst hG9; subst hnL9; subst hrm9
  subst hpc
  exact fun H locs ls hP hD hS h => va_slen hx hb hs.1 hs.2.1 hs.2.2 hS d (k H locs ls hP hD hS h)
end ZL
theorem kw668 : Jvm.Cond.methodLink "PlantKeeperLaw" (13 : Nat) ({ cls := "PlantKeeper", name := "feed", desc := "(IIIII)I" } : Jvm.MethodName) ∈ zk_BW := zk_inT 668 (by decide +kernel) rfl
theorem kw676 : Jvm.Cond.methodLink "PlantKeeperLaw" (18 : Nat) ({ cls := "PlantKeeper", name := "end", desc := "(I)I" } : Jvm.MethodName) ∈ zk_BW := zk_inT 676 (by decide +kernel) rfl
theorem kw1469 : Jvm.Cond.methodLink "PlantKeeperLaw" (27 : Nat) ({ cls := "PlantKeeper", name := "restart", desc := "()I" } : Jvm.MethodName) ∈ zk_BW := zk_inT 1469 (by decide +kernel) rfl
theorem kw1474 : Jvm.Cond.methodLink "PlantKeeperLaw" (32 : Nat) ({ cls := "PlantKeeper", name := "put", desc := "(III)I" } : Jvm.MethodName) ∈ zk_BW := zk_inT 1474 (by decide +kernel) rfl
theorem kw1489 : Jvm.Cond.methodLink "PlantKeeperLaw" (37 : Nat) ({ cls := "PlantKeeper", name := "get", desc := "(II)I" } : Jvm.MethodName) ∈ zk_BW := zk_inT 1489 (by decide +kernel) rfl
theorem kw1497 : Jvm.Cond.methodLink "PlantKeeperLaw" (42 : Nat) ({ cls := "PlantKeeper", name := "safe", desc := "(III)I" } : Jvm.MethodName) ∈ zk_BW := zk_inT 1497 (by decide +kernel) rfl
theorem kw1501 : Jvm.Cond.methodLink "PlantKeeperLaw" (46 : Nat) ({ cls := "PlantKeeper", name := "scan", desc := "(I)I" } : Jvm.MethodName) ∈ zk_BW := zk_inT 1501 (by decide +kernel) rfl
theorem kw1571 : Jvm.Cond.methodLink "PlantKeeperLaw" (50 : Nat) ({ cls := "PlantKeeper", name := "watch", desc := "()I" } : Jvm.MethodName) ∈ zk_BW := zk_inT 1571 (by decide +kernel) rfl
theorem kw1599 : Jvm.Cond.methodLink "PlantKeeperLaw" (54 : Nat) ({ cls := "PlantKeeper", name := "watched", desc := "()I" } : Jvm.MethodName) ∈ zk_BW := zk_inT 1599 (by decide +kernel) rfl
theorem kw1603 : Jvm.Cond.methodLink "PlantKeeperLaw" (58 : Nat) ({ cls := "PlantKeeper", name := "frame", desc := "()I" } : Jvm.MethodName) ∈ zk_BW := zk_inT 1603 (by decide +kernel) rfl
theorem kw1663 : Jvm.Cond.methodLink "PlantKeeperLaw" (62 : Nat) ({ cls := "PlantKeeper", name := "station", desc := "(I)I" } : Jvm.MethodName) ∈ zk_BW := zk_inT 1663 (by decide +kernel) rfl
theorem kw1667 : Jvm.Cond.methodLink "PlantKeeperLaw" (66 : Nat) ({ cls := "PlantKeeper", name := "byteAt", desc := "(I)I" } : Jvm.MethodName) ∈ zk_BW := zk_inT 1667 (by decide +kernel) rfl
theorem kw1671 : Jvm.Cond.methodLink "PlantKeeperLaw" (70 : Nat) ({ cls := "PlantKeeper", name := "count", desc := "(I)I" } : Jvm.MethodName) ∈ zk_BW := zk_inT 1671 (by decide +kernel) rfl
theorem kw1972 : Jvm.Cond.methodLink "PlantKeeperLaw" (17 : Nat) ({ cls := "PlantKeeperModel", name := "feed", desc := "(IIIII)I" } : Jvm.MethodName) ∈ zk_BW := zk_inT 1972 (by decide +kernel) rfl
theorem kw1980 : Jvm.Cond.methodLink "PlantKeeperLaw" (22 : Nat) ({ cls := "PlantKeeperModel", name := "end", desc := "(I)I" } : Jvm.MethodName) ∈ zk_BW := zk_inT 1980 (by decide +kernel) rfl
theorem kw2715 : Jvm.Cond.methodLink "PlantKeeperLaw" (31 : Nat) ({ cls := "PlantKeeperModel", name := "restart", desc := "()I" } : Jvm.MethodName) ∈ zk_BW := zk_inT 2715 (by decide +kernel) rfl
theorem kw2719 : Jvm.Cond.methodLink "PlantKeeperLaw" (36 : Nat) ({ cls := "PlantKeeperModel", name := "put", desc := "(III)I" } : Jvm.MethodName) ∈ zk_BW := zk_inT 2719 (by decide +kernel) rfl
theorem kw2732 : Jvm.Cond.methodLink "PlantKeeperLaw" (41 : Nat) ({ cls := "PlantKeeperModel", name := "get", desc := "(II)I" } : Jvm.MethodName) ∈ zk_BW := zk_inT 2732 (by decide +kernel) rfl
theorem kw2736 : Jvm.Cond.methodLink "PlantKeeperLaw" (45 : Nat) ({ cls := "PlantKeeperModel", name := "safe", desc := "(III)I" } : Jvm.MethodName) ∈ zk_BW := zk_inT 2736 (by decide +kernel) rfl
theorem kw2740 : Jvm.Cond.methodLink "PlantKeeperLaw" (49 : Nat) ({ cls := "PlantKeeperModel", name := "scan", desc := "(I)I" } : Jvm.MethodName) ∈ zk_BW := zk_inT 2740 (by decide +kernel) rfl
theorem kw2772 : Jvm.Cond.methodLink "PlantKeeperLaw" (53 : Nat) ({ cls := "PlantKeeperModel", name := "watch", desc := "()I" } : Jvm.MethodName) ∈ zk_BW := zk_inT 2772 (by decide +kernel) rfl
theorem kw2816 : Jvm.Cond.methodLink "PlantKeeperLaw" (57 : Nat) ({ cls := "PlantKeeperModel", name := "watched", desc := "()I" } : Jvm.MethodName) ∈ zk_BW := zk_inT 2816 (by decide +kernel) rfl
theorem kw2820 : Jvm.Cond.methodLink "PlantKeeperLaw" (61 : Nat) ({ cls := "PlantKeeperModel", name := "frame", desc := "()I" } : Jvm.MethodName) ∈ zk_BW := zk_inT 2820 (by decide +kernel) rfl
theorem kw2860 : Jvm.Cond.methodLink "PlantKeeperLaw" (65 : Nat) ({ cls := "PlantKeeperModel", name := "station", desc := "(I)I" } : Jvm.MethodName) ∈ zk_BW := zk_inT 2860 (by decide +kernel) rfl
theorem kw2864 : Jvm.Cond.methodLink "PlantKeeperLaw" (69 : Nat) ({ cls := "PlantKeeperModel", name := "byteAt", desc := "(I)I" } : Jvm.MethodName) ∈ zk_BW := zk_inT 2864 (by decide +kernel) rfl
theorem kw2868 : Jvm.Cond.methodLink "PlantKeeperLaw" (73 : Nat) ({ cls := "PlantKeeperModel", name := "count", desc := "(I)I" } : Jvm.MethodName) ∈ zk_BW := zk_inT 2868 (by decide +kernel) rfl
theorem kd_law_0 : decode code 0 = .ok (.new 7, 3) := by decide +kernel
theorem kd_law_3 : decode code 3 = .ok (.dup, 1) := by decide +kernel
theorem kd_law_4 : decode code 4 = .ok (.invokespecial 9, 3) := by decide +kernel
theorem kd_law_7 : decode code 7 = .ok (.astore_n 1, 1) := by decide +kernel
theorem kd_law_8 : decode code 8 = .ok (.new 10, 3) := by decide +kernel
theorem kd_law_11 : decode code 11 = .ok (.dup, 1) := by decide +kernel
theorem kd_law_12 : decode code 12 = .ok (.invokespecial 12, 3) := by decide +kernel
theorem kd_law_15 : decode code 15 = .ok (.astore_n 2, 1) := by decide +kernel
theorem kd_law_16 : decode code 16 = .ok (.iconst 0, 1) := by decide +kernel
theorem kd_law_17 : decode code 17 = .ok (.istore_n 3, 1) := by decide +kernel
theorem kd_law_18 : decode code 18 = .ok (.iload_n 3, 1) := by decide +kernel
theorem kd_law_19 : decode code 19 = .ok (.aload_n 0, 1) := by decide +kernel
theorem kd_law_20 : decode code 20 = .ok (.arraylength, 1) := by decide +kernel
theorem kd_law_21 : decode code 21 = .ok (.bipush 6, 2) := by decide +kernel
theorem kd_law_23 : decode code 23 = .ok (.isub, 1) := by decide +kernel
theorem kd_law_24 : decode code 24 = .ok (.if_icmp .gt 458, 3) := by decide +kernel
theorem kd_law_27 : decode code 27 = .ok (.aload_n 0, 1) := by decide +kernel
theorem kd_law_28 : decode code 28 = .ok (.iload_n 3, 1) := by decide +kernel
theorem kd_law_29 : decode code 29 = .ok (.iaload, 1) := by decide +kernel
theorem kd_law_30 : decode code 30 = .ok (.bipush 15, 2) := by decide +kernel
theorem kd_law_32 : decode code 32 = .ok (.iand, 1) := by decide +kernel
theorem kd_law_33 : decode code 33 = .ok (.tableswitch 443 0 13 #[71, 134, 157, 180, 193, 236, 269, 312, 335, 348, 361, 374, 397, 420], 71) := by decide +kernel
theorem kd_law_104 : decode code 104 = .ok (.aload_n 1, 1) := by decide +kernel
theorem kd_law_105 : decode code 105 = .ok (.aload_n 0, 1) := by decide +kernel
theorem kd_law_106 : decode code 106 = .ok (.iload_n 3, 1) := by decide +kernel
theorem kd_law_107 : decode code 107 = .ok (.iconst 1, 1) := by decide +kernel
theorem kd_law_108 : decode code 108 = .ok (.iadd, 1) := by decide +kernel
theorem kd_law_109 : decode code 109 = .ok (.iaload, 1) := by decide +kernel
theorem kd_law_110 : decode code 110 = .ok (.aload_n 0, 1) := by decide +kernel
theorem kd_law_111 : decode code 111 = .ok (.iload_n 3, 1) := by decide +kernel
theorem kd_law_112 : decode code 112 = .ok (.iconst 2, 1) := by decide +kernel
theorem kd_law_113 : decode code 113 = .ok (.iadd, 1) := by decide +kernel
theorem kd_law_114 : decode code 114 = .ok (.iaload, 1) := by decide +kernel
theorem kd_law_115 : decode code 115 = .ok (.aload_n 0, 1) := by decide +kernel
theorem kd_law_116 : decode code 116 = .ok (.iload_n 3, 1) := by decide +kernel
theorem kd_law_117 : decode code 117 = .ok (.iconst 3, 1) := by decide +kernel
theorem kd_law_118 : decode code 118 = .ok (.iadd, 1) := by decide +kernel
theorem kd_law_119 : decode code 119 = .ok (.iaload, 1) := by decide +kernel
theorem kd_law_120 : decode code 120 = .ok (.aload_n 0, 1) := by decide +kernel
theorem kd_law_121 : decode code 121 = .ok (.iload_n 3, 1) := by decide +kernel
theorem kd_law_122 : decode code 122 = .ok (.iconst 4, 1) := by decide +kernel
theorem kd_law_123 : decode code 123 = .ok (.iadd, 1) := by decide +kernel
theorem kd_law_124 : decode code 124 = .ok (.iaload, 1) := by decide +kernel
theorem kd_law_125 : decode code 125 = .ok (.aload_n 0, 1) := by decide +kernel
theorem kd_law_126 : decode code 126 = .ok (.iload_n 3, 1) := by decide +kernel
theorem kd_law_127 : decode code 127 = .ok (.iconst 5, 1) := by decide +kernel
theorem kd_law_128 : decode code 128 = .ok (.iadd, 1) := by decide +kernel
theorem kd_law_129 : decode code 129 = .ok (.iaload, 1) := by decide +kernel
theorem kd_law_130 : decode code 130 = .ok (.invokevirtual 13, 3) := by decide +kernel
theorem kd_law_133 : decode code 133 = .ok (.aload_n 2, 1) := by decide +kernel
theorem kd_law_134 : decode code 134 = .ok (.aload_n 0, 1) := by decide +kernel
theorem kd_law_135 : decode code 135 = .ok (.iload_n 3, 1) := by decide +kernel
theorem kd_law_136 : decode code 136 = .ok (.iconst 1, 1) := by decide +kernel
theorem kd_law_137 : decode code 137 = .ok (.iadd, 1) := by decide +kernel
theorem kd_law_138 : decode code 138 = .ok (.iaload, 1) := by decide +kernel
theorem kd_law_139 : decode code 139 = .ok (.aload_n 0, 1) := by decide +kernel
theorem kd_law_140 : decode code 140 = .ok (.iload_n 3, 1) := by decide +kernel
theorem kd_law_141 : decode code 141 = .ok (.iconst 2, 1) := by decide +kernel
theorem kd_law_142 : decode code 142 = .ok (.iadd, 1) := by decide +kernel
theorem kd_law_143 : decode code 143 = .ok (.iaload, 1) := by decide +kernel
theorem kd_law_144 : decode code 144 = .ok (.aload_n 0, 1) := by decide +kernel
theorem kd_law_145 : decode code 145 = .ok (.iload_n 3, 1) := by decide +kernel
theorem kd_law_146 : decode code 146 = .ok (.iconst 3, 1) := by decide +kernel
theorem kd_law_147 : decode code 147 = .ok (.iadd, 1) := by decide +kernel
theorem kd_law_148 : decode code 148 = .ok (.iaload, 1) := by decide +kernel
theorem kd_law_149 : decode code 149 = .ok (.aload_n 0, 1) := by decide +kernel
theorem kd_law_150 : decode code 150 = .ok (.iload_n 3, 1) := by decide +kernel
theorem kd_law_151 : decode code 151 = .ok (.iconst 4, 1) := by decide +kernel
theorem kd_law_152 : decode code 152 = .ok (.iadd, 1) := by decide +kernel
theorem kd_law_153 : decode code 153 = .ok (.iaload, 1) := by decide +kernel
theorem kd_law_154 : decode code 154 = .ok (.aload_n 0, 1) := by decide +kernel
theorem kd_law_155 : decode code 155 = .ok (.iload_n 3, 1) := by decide +kernel
theorem kd_law_156 : decode code 156 = .ok (.iconst 5, 1) := by decide +kernel
theorem kd_law_157 : decode code 157 = .ok (.iadd, 1) := by decide +kernel
theorem kd_law_158 : decode code 158 = .ok (.iaload, 1) := by decide +kernel
theorem kd_law_159 : decode code 159 = .ok (.invokevirtual 17, 3) := by decide +kernel
theorem kd_law_162 : decode code 162 = .ok (.if_icmp .eq 314, 3) := by decide +kernel
theorem kd_law_165 : decode code 165 = .ok (.iconst 0, 1) := by decide +kernel
theorem kd_law_166 : decode code 166 = .ok (.ireturn, 1) := by decide +kernel
theorem kd_law_167 : decode code 167 = .ok (.aload_n 1, 1) := by decide +kernel
theorem kd_law_168 : decode code 168 = .ok (.aload_n 0, 1) := by decide +kernel
theorem kd_law_169 : decode code 169 = .ok (.iload_n 3, 1) := by decide +kernel
theorem kd_law_170 : decode code 170 = .ok (.iconst 1, 1) := by decide +kernel
theorem kd_law_171 : decode code 171 = .ok (.iadd, 1) := by decide +kernel
theorem kd_law_172 : decode code 172 = .ok (.iaload, 1) := by decide +kernel
theorem kd_law_173 : decode code 173 = .ok (.invokevirtual 18, 3) := by decide +kernel
theorem kd_law_176 : decode code 176 = .ok (.aload_n 2, 1) := by decide +kernel
theorem kd_law_177 : decode code 177 = .ok (.aload_n 0, 1) := by decide +kernel
theorem kd_law_178 : decode code 178 = .ok (.iload_n 3, 1) := by decide +kernel
theorem kd_law_179 : decode code 179 = .ok (.iconst 1, 1) := by decide +kernel
theorem kd_law_180 : decode code 180 = .ok (.iadd, 1) := by decide +kernel
theorem kd_law_181 : decode code 181 = .ok (.iaload, 1) := by decide +kernel
theorem kd_law_182 : decode code 182 = .ok (.invokevirtual 22, 3) := by decide +kernel
theorem kd_law_185 : decode code 185 = .ok (.if_icmp .eq 291, 3) := by decide +kernel
theorem kd_law_188 : decode code 188 = .ok (.iconst 0, 1) := by decide +kernel
theorem kd_law_189 : decode code 189 = .ok (.ireturn, 1) := by decide +kernel
theorem kd_law_190 : decode code 190 = .ok (.aload_n 1, 1) := by decide +kernel
theorem kd_law_191 : decode code 191 = .ok (.aload_n 0, 1) := by decide +kernel
theorem kd_law_192 : decode code 192 = .ok (.iload_n 3, 1) := by decide +kernel
theorem kd_law_193 : decode code 193 = .ok (.iconst 1, 1) := by decide +kernel
theorem kd_law_194 : decode code 194 = .ok (.iadd, 1) := by decide +kernel
theorem kd_law_195 : decode code 195 = .ok (.iaload, 1) := by decide +kernel
theorem kd_law_196 : decode code 196 = .ok (.invokevirtual 23, 3) := by decide +kernel
theorem kd_law_199 : decode code 199 = .ok (.aload_n 2, 1) := by decide +kernel
theorem kd_law_200 : decode code 200 = .ok (.aload_n 0, 1) := by decide +kernel
theorem kd_law_201 : decode code 201 = .ok (.iload_n 3, 1) := by decide +kernel
theorem kd_law_202 : decode code 202 = .ok (.iconst 1, 1) := by decide +kernel
theorem kd_law_203 : decode code 203 = .ok (.iadd, 1) := by decide +kernel
theorem kd_law_204 : decode code 204 = .ok (.iaload, 1) := by decide +kernel
theorem kd_law_205 : decode code 205 = .ok (.invokevirtual 26, 3) := by decide +kernel
theorem kd_law_208 : decode code 208 = .ok (.if_icmp .eq 268, 3) := by decide +kernel
theorem kd_law_211 : decode code 211 = .ok (.iconst 0, 1) := by decide +kernel
theorem kd_law_212 : decode code 212 = .ok (.ireturn, 1) := by decide +kernel
theorem kd_law_213 : decode code 213 = .ok (.aload_n 1, 1) := by decide +kernel
theorem kd_law_214 : decode code 214 = .ok (.invokevirtual 27, 3) := by decide +kernel
theorem kd_law_217 : decode code 217 = .ok (.aload_n 2, 1) := by decide +kernel
theorem kd_law_218 : decode code 218 = .ok (.invokevirtual 31, 3) := by decide +kernel
theorem kd_law_221 : decode code 221 = .ok (.if_icmp .eq 255, 3) := by decide +kernel
theorem kd_law_224 : decode code 224 = .ok (.iconst 0, 1) := by decide +kernel
theorem kd_law_225 : decode code 225 = .ok (.ireturn, 1) := by decide +kernel
theorem kd_law_226 : decode code 226 = .ok (.aload_n 1, 1) := by decide +kernel
theorem kd_law_227 : decode code 227 = .ok (.aload_n 0, 1) := by decide +kernel
theorem kd_law_228 : decode code 228 = .ok (.iload_n 3, 1) := by decide +kernel
theorem kd_law_229 : decode code 229 = .ok (.iconst 1, 1) := by decide +kernel
theorem kd_law_230 : decode code 230 = .ok (.iadd, 1) := by decide +kernel
theorem kd_law_231 : decode code 231 = .ok (.iaload, 1) := by decide +kernel
theorem kd_law_232 : decode code 232 = .ok (.aload_n 0, 1) := by decide +kernel
theorem kd_law_233 : decode code 233 = .ok (.iload_n 3, 1) := by decide +kernel
theorem kd_law_234 : decode code 234 = .ok (.iconst 2, 1) := by decide +kernel
theorem kd_law_235 : decode code 235 = .ok (.iadd, 1) := by decide +kernel
theorem kd_law_236 : decode code 236 = .ok (.iaload, 1) := by decide +kernel
theorem kd_law_237 : decode code 237 = .ok (.aload_n 0, 1) := by decide +kernel
theorem kd_law_238 : decode code 238 = .ok (.iload_n 3, 1) := by decide +kernel
theorem kd_law_239 : decode code 239 = .ok (.iconst 3, 1) := by decide +kernel
theorem kd_law_240 : decode code 240 = .ok (.iadd, 1) := by decide +kernel
theorem kd_law_241 : decode code 241 = .ok (.iaload, 1) := by decide +kernel
theorem kd_law_242 : decode code 242 = .ok (.invokevirtual 32, 3) := by decide +kernel
theorem kd_law_245 : decode code 245 = .ok (.aload_n 2, 1) := by decide +kernel
theorem kd_law_246 : decode code 246 = .ok (.aload_n 0, 1) := by decide +kernel
theorem kd_law_247 : decode code 247 = .ok (.iload_n 3, 1) := by decide +kernel
theorem kd_law_248 : decode code 248 = .ok (.iconst 1, 1) := by decide +kernel
theorem kd_law_249 : decode code 249 = .ok (.iadd, 1) := by decide +kernel
theorem kd_law_250 : decode code 250 = .ok (.iaload, 1) := by decide +kernel
theorem kd_law_251 : decode code 251 = .ok (.aload_n 0, 1) := by decide +kernel
theorem kd_law_252 : decode code 252 = .ok (.iload_n 3, 1) := by decide +kernel
theorem kd_law_253 : decode code 253 = .ok (.iconst 2, 1) := by decide +kernel
theorem kd_law_254 : decode code 254 = .ok (.iadd, 1) := by decide +kernel
theorem kd_law_255 : decode code 255 = .ok (.iaload, 1) := by decide +kernel
theorem kd_law_256 : decode code 256 = .ok (.aload_n 0, 1) := by decide +kernel
theorem kd_law_257 : decode code 257 = .ok (.iload_n 3, 1) := by decide +kernel
theorem kd_law_258 : decode code 258 = .ok (.iconst 3, 1) := by decide +kernel
theorem kd_law_259 : decode code 259 = .ok (.iadd, 1) := by decide +kernel
theorem kd_law_260 : decode code 260 = .ok (.iaload, 1) := by decide +kernel
theorem kd_law_261 : decode code 261 = .ok (.invokevirtual 36, 3) := by decide +kernel
theorem kd_law_264 : decode code 264 = .ok (.if_icmp .eq 212, 3) := by decide +kernel
theorem kd_law_267 : decode code 267 = .ok (.iconst 0, 1) := by decide +kernel
theorem kd_law_268 : decode code 268 = .ok (.ireturn, 1) := by decide +kernel
theorem kd_law_269 : decode code 269 = .ok (.aload_n 1, 1) := by decide +kernel
theorem kd_law_270 : decode code 270 = .ok (.aload_n 0, 1) := by decide +kernel
theorem kd_law_271 : decode code 271 = .ok (.iload_n 3, 1) := by decide +kernel
theorem kd_law_272 : decode code 272 = .ok (.iconst 1, 1) := by decide +kernel
theorem kd_law_273 : decode code 273 = .ok (.iadd, 1) := by decide +kernel
theorem kd_law_274 : decode code 274 = .ok (.iaload, 1) := by decide +kernel
theorem kd_law_275 : decode code 275 = .ok (.aload_n 0, 1) := by decide +kernel
theorem kd_law_276 : decode code 276 = .ok (.iload_n 3, 1) := by decide +kernel
theorem kd_law_277 : decode code 277 = .ok (.iconst 2, 1) := by decide +kernel
theorem kd_law_278 : decode code 278 = .ok (.iadd, 1) := by decide +kernel
theorem kd_law_279 : decode code 279 = .ok (.iaload, 1) := by decide +kernel
theorem kd_law_280 : decode code 280 = .ok (.invokevirtual 37, 3) := by decide +kernel
theorem kd_law_283 : decode code 283 = .ok (.aload_n 2, 1) := by decide +kernel
theorem kd_law_284 : decode code 284 = .ok (.aload_n 0, 1) := by decide +kernel
theorem kd_law_285 : decode code 285 = .ok (.iload_n 3, 1) := by decide +kernel
theorem kd_law_286 : decode code 286 = .ok (.iconst 1, 1) := by decide +kernel
theorem kd_law_287 : decode code 287 = .ok (.iadd, 1) := by decide +kernel
theorem kd_law_288 : decode code 288 = .ok (.iaload, 1) := by decide +kernel
theorem kd_law_289 : decode code 289 = .ok (.aload_n 0, 1) := by decide +kernel
theorem kd_law_290 : decode code 290 = .ok (.iload_n 3, 1) := by decide +kernel
theorem kd_law_291 : decode code 291 = .ok (.iconst 2, 1) := by decide +kernel
theorem kd_law_292 : decode code 292 = .ok (.iadd, 1) := by decide +kernel
theorem kd_law_293 : decode code 293 = .ok (.iaload, 1) := by decide +kernel
theorem kd_law_294 : decode code 294 = .ok (.invokevirtual 41, 3) := by decide +kernel
theorem kd_law_297 : decode code 297 = .ok (.if_icmp .eq 179, 3) := by decide +kernel
theorem kd_law_300 : decode code 300 = .ok (.iconst 0, 1) := by decide +kernel
theorem kd_law_301 : decode code 301 = .ok (.ireturn, 1) := by decide +kernel
theorem kd_law_302 : decode code 302 = .ok (.aload_n 1, 1) := by decide +kernel
theorem kd_law_303 : decode code 303 = .ok (.aload_n 0, 1) := by decide +kernel
theorem kd_law_304 : decode code 304 = .ok (.iload_n 3, 1) := by decide +kernel
theorem kd_law_305 : decode code 305 = .ok (.iconst 1, 1) := by decide +kernel
theorem kd_law_306 : decode code 306 = .ok (.iadd, 1) := by decide +kernel
theorem kd_law_307 : decode code 307 = .ok (.iaload, 1) := by decide +kernel
theorem kd_law_308 : decode code 308 = .ok (.aload_n 0, 1) := by decide +kernel
theorem kd_law_309 : decode code 309 = .ok (.iload_n 3, 1) := by decide +kernel
theorem kd_law_310 : decode code 310 = .ok (.iconst 2, 1) := by decide +kernel
theorem kd_law_311 : decode code 311 = .ok (.iadd, 1) := by decide +kernel
theorem kd_law_312 : decode code 312 = .ok (.iaload, 1) := by decide +kernel
theorem kd_law_313 : decode code 313 = .ok (.aload_n 0, 1) := by decide +kernel
theorem kd_law_314 : decode code 314 = .ok (.iload_n 3, 1) := by decide +kernel
theorem kd_law_315 : decode code 315 = .ok (.iconst 3, 1) := by decide +kernel
theorem kd_law_316 : decode code 316 = .ok (.iadd, 1) := by decide +kernel
theorem kd_law_317 : decode code 317 = .ok (.iaload, 1) := by decide +kernel
theorem kd_law_318 : decode code 318 = .ok (.invokevirtual 42, 3) := by decide +kernel
theorem kd_law_321 : decode code 321 = .ok (.aload_n 2, 1) := by decide +kernel
theorem kd_law_322 : decode code 322 = .ok (.aload_n 0, 1) := by decide +kernel
theorem kd_law_323 : decode code 323 = .ok (.iload_n 3, 1) := by decide +kernel
theorem kd_law_324 : decode code 324 = .ok (.iconst 1, 1) := by decide +kernel
theorem kd_law_325 : decode code 325 = .ok (.iadd, 1) := by decide +kernel
theorem kd_law_326 : decode code 326 = .ok (.iaload, 1) := by decide +kernel
theorem kd_law_327 : decode code 327 = .ok (.aload_n 0, 1) := by decide +kernel
theorem kd_law_328 : decode code 328 = .ok (.iload_n 3, 1) := by decide +kernel
theorem kd_law_329 : decode code 329 = .ok (.iconst 2, 1) := by decide +kernel
theorem kd_law_330 : decode code 330 = .ok (.iadd, 1) := by decide +kernel
theorem kd_law_331 : decode code 331 = .ok (.iaload, 1) := by decide +kernel
theorem kd_law_332 : decode code 332 = .ok (.aload_n 0, 1) := by decide +kernel
theorem kd_law_333 : decode code 333 = .ok (.iload_n 3, 1) := by decide +kernel
theorem kd_law_334 : decode code 334 = .ok (.iconst 3, 1) := by decide +kernel
theorem kd_law_335 : decode code 335 = .ok (.iadd, 1) := by decide +kernel
theorem kd_law_336 : decode code 336 = .ok (.iaload, 1) := by decide +kernel
theorem kd_law_337 : decode code 337 = .ok (.invokevirtual 45, 3) := by decide +kernel
theorem kd_law_340 : decode code 340 = .ok (.if_icmp .eq 136, 3) := by decide +kernel
theorem kd_law_343 : decode code 343 = .ok (.iconst 0, 1) := by decide +kernel
theorem kd_law_344 : decode code 344 = .ok (.ireturn, 1) := by decide +kernel
theorem kd_law_345 : decode code 345 = .ok (.aload_n 1, 1) := by decide +kernel
theorem kd_law_346 : decode code 346 = .ok (.aload_n 0, 1) := by decide +kernel
theorem kd_law_347 : decode code 347 = .ok (.iload_n 3, 1) := by decide +kernel
theorem kd_law_348 : decode code 348 = .ok (.iconst 1, 1) := by decide +kernel
theorem kd_law_349 : decode code 349 = .ok (.iadd, 1) := by decide +kernel
theorem kd_law_350 : decode code 350 = .ok (.iaload, 1) := by decide +kernel
theorem kd_law_351 : decode code 351 = .ok (.invokevirtual 46, 3) := by decide +kernel
theorem kd_law_354 : decode code 354 = .ok (.aload_n 2, 1) := by decide +kernel
theorem kd_law_355 : decode code 355 = .ok (.aload_n 0, 1) := by decide +kernel
theorem kd_law_356 : decode code 356 = .ok (.iload_n 3, 1) := by decide +kernel
theorem kd_law_357 : decode code 357 = .ok (.iconst 1, 1) := by decide +kernel
theorem kd_law_358 : decode code 358 = .ok (.iadd, 1) := by decide +kernel
theorem kd_law_359 : decode code 359 = .ok (.iaload, 1) := by decide +kernel
theorem kd_law_360 : decode code 360 = .ok (.invokevirtual 49, 3) := by decide +kernel
theorem kd_law_363 : decode code 363 = .ok (.if_icmp .eq 113, 3) := by decide +kernel
theorem kd_law_366 : decode code 366 = .ok (.iconst 0, 1) := by decide +kernel
theorem kd_law_367 : decode code 367 = .ok (.ireturn, 1) := by decide +kernel
theorem kd_law_368 : decode code 368 = .ok (.aload_n 1, 1) := by decide +kernel
theorem kd_law_369 : decode code 369 = .ok (.invokevirtual 50, 3) := by decide +kernel
theorem kd_law_372 : decode code 372 = .ok (.aload_n 2, 1) := by decide +kernel
theorem kd_law_373 : decode code 373 = .ok (.invokevirtual 53, 3) := by decide +kernel
theorem kd_law_376 : decode code 376 = .ok (.if_icmp .eq 100, 3) := by decide +kernel
theorem kd_law_379 : decode code 379 = .ok (.iconst 0, 1) := by decide +kernel
theorem kd_law_380 : decode code 380 = .ok (.ireturn, 1) := by decide +kernel
theorem kd_law_381 : decode code 381 = .ok (.aload_n 1, 1) := by decide +kernel
theorem kd_law_382 : decode code 382 = .ok (.invokevirtual 54, 3) := by decide +kernel
theorem kd_law_385 : decode code 385 = .ok (.aload_n 2, 1) := by decide +kernel
theorem kd_law_386 : decode code 386 = .ok (.invokevirtual 57, 3) := by decide +kernel
theorem kd_law_389 : decode code 389 = .ok (.if_icmp .eq 87, 3) := by decide +kernel
theorem kd_law_392 : decode code 392 = .ok (.iconst 0, 1) := by decide +kernel
theorem kd_law_393 : decode code 393 = .ok (.ireturn, 1) := by decide +kernel
theorem kd_law_394 : decode code 394 = .ok (.aload_n 1, 1) := by decide +kernel
theorem kd_law_395 : decode code 395 = .ok (.invokevirtual 58, 3) := by decide +kernel
theorem kd_law_398 : decode code 398 = .ok (.aload_n 2, 1) := by decide +kernel
theorem kd_law_399 : decode code 399 = .ok (.invokevirtual 61, 3) := by decide +kernel
theorem kd_law_402 : decode code 402 = .ok (.if_icmp .eq 74, 3) := by decide +kernel
theorem kd_law_405 : decode code 405 = .ok (.iconst 0, 1) := by decide +kernel
theorem kd_law_406 : decode code 406 = .ok (.ireturn, 1) := by decide +kernel
theorem kd_law_407 : decode code 407 = .ok (.aload_n 1, 1) := by decide +kernel
theorem kd_law_408 : decode code 408 = .ok (.aload_n 0, 1) := by decide +kernel
theorem kd_law_409 : decode code 409 = .ok (.iload_n 3, 1) := by decide +kernel
theorem kd_law_410 : decode code 410 = .ok (.iconst 1, 1) := by decide +kernel
theorem kd_law_411 : decode code 411 = .ok (.iadd, 1) := by decide +kernel
theorem kd_law_412 : decode code 412 = .ok (.iaload, 1) := by decide +kernel
theorem kd_law_413 : decode code 413 = .ok (.invokevirtual 62, 3) := by decide +kernel
theorem kd_law_416 : decode code 416 = .ok (.aload_n 2, 1) := by decide +kernel
theorem kd_law_417 : decode code 417 = .ok (.aload_n 0, 1) := by decide +kernel
theorem kd_law_418 : decode code 418 = .ok (.iload_n 3, 1) := by decide +kernel
theorem kd_law_419 : decode code 419 = .ok (.iconst 1, 1) := by decide +kernel
theorem kd_law_420 : decode code 420 = .ok (.iadd, 1) := by decide +kernel
theorem kd_law_421 : decode code 421 = .ok (.iaload, 1) := by decide +kernel
theorem kd_law_422 : decode code 422 = .ok (.invokevirtual 65, 3) := by decide +kernel
theorem kd_law_425 : decode code 425 = .ok (.if_icmp .eq 51, 3) := by decide +kernel
theorem kd_law_428 : decode code 428 = .ok (.iconst 0, 1) := by decide +kernel
theorem kd_law_429 : decode code 429 = .ok (.ireturn, 1) := by decide +kernel
theorem kd_law_430 : decode code 430 = .ok (.aload_n 1, 1) := by decide +kernel
theorem kd_law_431 : decode code 431 = .ok (.aload_n 0, 1) := by decide +kernel
theorem kd_law_432 : decode code 432 = .ok (.iload_n 3, 1) := by decide +kernel
theorem kd_law_433 : decode code 433 = .ok (.iconst 1, 1) := by decide +kernel
theorem kd_law_434 : decode code 434 = .ok (.iadd, 1) := by decide +kernel
theorem kd_law_435 : decode code 435 = .ok (.iaload, 1) := by decide +kernel
theorem kd_law_436 : decode code 436 = .ok (.invokevirtual 66, 3) := by decide +kernel
theorem kd_law_439 : decode code 439 = .ok (.aload_n 2, 1) := by decide +kernel
theorem kd_law_440 : decode code 440 = .ok (.aload_n 0, 1) := by decide +kernel
theorem kd_law_441 : decode code 441 = .ok (.iload_n 3, 1) := by decide +kernel
theorem kd_law_442 : decode code 442 = .ok (.iconst 1, 1) := by decide +kernel
theorem kd_law_443 : decode code 443 = .ok (.iadd, 1) := by decide +kernel
theorem kd_law_444 : decode code 444 = .ok (.iaload, 1) := by decide +kernel
theorem kd_law_445 : decode code 445 = .ok (.invokevirtual 69, 3) := by decide +kernel
theorem kd_law_448 : decode code 448 = .ok (.if_icmp .eq 28, 3) := by decide +kernel
theorem kd_law_451 : decode code 451 = .ok (.iconst 0, 1) := by decide +kernel
theorem kd_law_452 : decode code 452 = .ok (.ireturn, 1) := by decide +kernel
theorem kd_law_453 : decode code 453 = .ok (.aload_n 1, 1) := by decide +kernel
theorem kd_law_454 : decode code 454 = .ok (.aload_n 0, 1) := by decide +kernel
theorem kd_law_455 : decode code 455 = .ok (.iload_n 3, 1) := by decide +kernel
theorem kd_law_456 : decode code 456 = .ok (.iconst 1, 1) := by decide +kernel
theorem kd_law_457 : decode code 457 = .ok (.iadd, 1) := by decide +kernel
theorem kd_law_458 : decode code 458 = .ok (.iaload, 1) := by decide +kernel
theorem kd_law_459 : decode code 459 = .ok (.invokevirtual 70, 3) := by decide +kernel
theorem kd_law_462 : decode code 462 = .ok (.aload_n 2, 1) := by decide +kernel
theorem kd_law_463 : decode code 463 = .ok (.aload_n 0, 1) := by decide +kernel
theorem kd_law_464 : decode code 464 = .ok (.iload_n 3, 1) := by decide +kernel
theorem kd_law_465 : decode code 465 = .ok (.iconst 1, 1) := by decide +kernel
theorem kd_law_466 : decode code 466 = .ok (.iadd, 1) := by decide +kernel
theorem kd_law_467 : decode code 467 = .ok (.iaload, 1) := by decide +kernel
theorem kd_law_468 : decode code 468 = .ok (.invokevirtual 73, 3) := by decide +kernel
theorem kd_law_471 : decode code 471 = .ok (.if_icmp .eq 5, 3) := by decide +kernel
theorem kd_law_474 : decode code 474 = .ok (.iconst 0, 1) := by decide +kernel
theorem kd_law_475 : decode code 475 = .ok (.ireturn, 1) := by decide +kernel
theorem kd_law_476 : decode code 476 = .ok (.iinc 3 6, 3) := by decide +kernel
theorem kd_law_479 : decode code 479 = .ok (.goto (-461), 3) := by decide +kernel
theorem kd_law_482 : decode code 482 = .ok (.iconst 1, 1) := by decide +kernel
theorem kd_law_483 : decode code 483 = .ok (.ireturn, 1) := by decide +kernel
set_option maxHeartbeats 4000000 in
set_option maxRecDepth 100000 in
theorem zl_c0 {X : zk_T} {S : zs_T} {P : ze_T} {l : Launch} {D : va_G} {sz0 b : Nat} {xs : Nat → Int32} (C : zk_C X km_law (zs_G S l D sz0) room_1 (ze_E P)) (hs : zl_scr X b 6 xs) (tail : ∀ w : va_W, zk_Ab X w 121 1494679 18 [(0, .ref b), (3, .int 6)] []) : zk_Ab X (zs_W S zs_h0) 121 1494679 104 [(0, .ref b), (1, .ref (S.1 0)), (2, .ref (S.1 68)), (3, .int 0)] [] := by
  refine zk_aload_n C kd_law_104 rfl 1 rfl rfl ?_
  refine zk_aload_n C kd_law_105 rfl 0 rfl rfl ?_
  refine zk_iload_n C kd_law_106 rfl 3 rfl rfl ?_
  refine zk_iconst (v := 1) C kd_law_107 (by decide) rfl ?_
  refine zk_iadd C kd_law_108 rfl ?_
  refine zk_stk (r' := [.int 1, .ref b, .ref (S.1 0)]) (by rw [show (0 : Int32) + 1 = 1 by decide]) ?_
  refine zl_sld C hs (zp_dec rfl) kd_law_109 rfl ?_
  refine zk_stk (r' := [.int (xs 1), .ref (S.1 0)]) rfl ?_
  refine zk_aload_n C kd_law_110 rfl 0 rfl rfl ?_
  refine zk_iload_n C kd_law_111 rfl 3 rfl rfl ?_
  refine zk_iconst (v := 2) C kd_law_112 (by decide) rfl ?_
  refine zk_iadd C kd_law_113 rfl ?_
  refine zk_stk (r' := [.int 2, .ref b, .int (xs 1), .ref (S.1 0)]) (by rw [show (0 : Int32) + 2 = 2 by decide]) ?_
  refine zl_sld C hs (zp_dec rfl) kd_law_114 rfl ?_
  refine zk_stk (r' := [.int (xs 2), .int (xs 1), .ref (S.1 0)]) rfl ?_
  refine zk_aload_n C kd_law_115 rfl 0 rfl rfl ?_
  refine zk_iload_n C kd_law_116 rfl 3 rfl rfl ?_
  refine zk_iconst (v := 3) C kd_law_117 (by decide) rfl ?_
  refine zk_iadd C kd_law_118 rfl ?_
  refine zk_stk (r' := [.int 3, .ref b, .int (xs 2), .int (xs 1), .ref (S.1 0)]) (by rw [show (0 : Int32) + 3 = 3 by decide]) ?_
  refine zl_sld C hs (zp_dec rfl) kd_law_119 rfl ?_
  refine zk_stk (r' := [.int (xs 3), .int (xs 2), .int (xs 1), .ref (S.1 0)]) rfl ?_
  refine zk_aload_n C kd_law_120 rfl 0 rfl rfl ?_
  refine zk_iload_n C kd_law_121 rfl 3 rfl rfl ?_
  refine zk_iconst (v := 4) C kd_law_122 (by decide) rfl ?_
  refine zk_iadd C kd_law_123 rfl ?_
  refine zk_stk (r' := [.int 4, .ref b, .int (xs 3), .int (xs 2), .int (xs 1), .ref (S.1 0)]) (by rw [show (0 : Int32) + 4 = 4 by decide]) ?_
  refine zl_sld C hs (zp_dec rfl) kd_law_124 rfl ?_
  refine zk_stk (r' := [.int (xs 4), .int (xs 3), .int (xs 2), .int (xs 1), .ref (S.1 0)]) rfl ?_
  refine zk_aload_n C kd_law_125 rfl 0 rfl rfl ?_
  refine zk_iload_n C kd_law_126 rfl 3 rfl rfl ?_
  refine zk_iconst (v := 5) C kd_law_127 (by decide) rfl ?_
  refine zk_iadd C kd_law_128 rfl ?_
  refine zk_stk (r' := [.int 5, .ref b, .int (xs 4), .int (xs 3), .int (xs 2), .int (xs 1), .ref (S.1 0)]) (by rw [show (0 : Int32) + 5 = 5 by decide]) ?_
  refine zl_sld C hs (zp_dec rfl) kd_law_129 rfl ?_
  refine zk_stk (r' := [.int (xs 5), .int (xs 4), .int (xs 3), .int (xs 2), .int (xs 1), .ref (S.1 0)]) rfl ?_
  refine zs_callV (k := 0) (rn := { frames := 1, cells := 0, slots := 0, locals := 22 }) (As := [.int (xs 1), .int (xs 2), .int (xs 3), .int (xs 4), .int (xs 5)]) (rest := []) C (zp_feed zs_h0 rfl (xs 1) (xs 2) (xs 3) (xs 4) (xs 5)) ku_Pk_feed kw668 kv_Pk_feed rfl ⟨by decide, by decide⟩ ⟨by decide, by decide⟩ rfl rfl rfl (Nat.le_of_ble_eq_true rfl) kd_law_130 rfl (c1 := 121) (s1 := 1494679) rfl rfl (fun v w hp => ?_)
  obtain ⟨rfl, rfl⟩ := hp
  refine zk_stk (r' := [.int 20]) rfl ?_
  refine zk_aload_n C kd_law_133 rfl 2 rfl rfl ?_
  refine zk_aload_n C kd_law_134 rfl 0 rfl rfl ?_
  refine zk_iload_n C kd_law_135 rfl 3 rfl rfl ?_
  refine zk_iconst (v := 1) C kd_law_136 (by decide) rfl ?_
  refine zk_iadd C kd_law_137 rfl ?_
  refine zk_stk (r' := [.int 1, .ref b, .ref (S.1 68), .int 20]) (by rw [show (0 : Int32) + 1 = 1 by decide]) ?_
  refine zl_sld C hs (zp_dec rfl) kd_law_138 rfl ?_
  refine zk_stk (r' := [.int (xs 1), .ref (S.1 68), .int 20]) rfl ?_
  refine zk_aload_n C kd_law_139 rfl 0 rfl rfl ?_
  refine zk_iload_n C kd_law_140 rfl 3 rfl rfl ?_
  refine zk_iconst (v := 2) C kd_law_141 (by decide) rfl ?_
  refine zk_iadd C kd_law_142 rfl ?_
  refine zk_stk (r' := [.int 2, .ref b, .int (xs 1), .ref (S.1 68), .int 20]) (by rw [show (0 : Int32) + 2 = 2 by decide]) ?_
  refine zl_sld C hs (zp_dec rfl) kd_law_143 rfl ?_
  refine zk_stk (r' := [.int (xs 2), .int (xs 1), .ref (S.1 68), .int 20]) rfl ?_
  refine zk_aload_n C kd_law_144 rfl 0 rfl rfl ?_
  refine zk_iload_n C kd_law_145 rfl 3 rfl rfl ?_
  refine zk_iconst (v := 3) C kd_law_146 (by decide) rfl ?_
  refine zk_iadd C kd_law_147 rfl ?_
  refine zk_stk (r' := [.int 3, .ref b, .int (xs 2), .int (xs 1), .ref (S.1 68), .int 20]) (by rw [show (0 : Int32) + 3 = 3 by decide]) ?_
  refine zl_sld C hs (zp_dec rfl) kd_law_148 rfl ?_
  refine zk_stk (r' := [.int (xs 3), .int (xs 2), .int (xs 1), .ref (S.1 68), .int 20]) rfl ?_
  refine zk_aload_n C kd_law_149 rfl 0 rfl rfl ?_
  refine zk_iload_n C kd_law_150 rfl 3 rfl rfl ?_
  refine zk_iconst (v := 4) C kd_law_151 (by decide) rfl ?_
  refine zk_iadd C kd_law_152 rfl ?_
  refine zk_stk (r' := [.int 4, .ref b, .int (xs 3), .int (xs 2), .int (xs 1), .ref (S.1 68), .int 20]) (by rw [show (0 : Int32) + 4 = 4 by decide]) ?_
  refine zl_sld C hs (zp_dec rfl) kd_law_153 rfl ?_
  refine zk_stk (r' := [.int (xs 4), .int (xs 3), .int (xs 2), .int (xs 1), .ref (S.1 68), .int 20]) rfl ?_
  refine zk_aload_n C kd_law_154 rfl 0 rfl rfl ?_
  refine zk_iload_n C kd_law_155 rfl 3 rfl rfl ?_
  refine zk_iconst (v := 5) C kd_law_156 (by decide) rfl ?_
  refine zk_iadd C kd_law_157 rfl ?_
  refine zk_stk (r' := [.int 5, .ref b, .int (xs 4), .int (xs 3), .int (xs 2), .int (xs 1), .ref (S.1 68), .int 20]) (by rw [show (0 : Int32) + 5 = 5 by decide]) ?_
  refine zl_sld C hs (zp_dec rfl) kd_law_158 rfl ?_
  refine zk_stk (r' := [.int (xs 5), .int (xs 4), .int (xs 3), .int (xs 2), .int (xs 1), .ref (S.1 68), .int 20]) rfl ?_
  refine zs_callV (k := 68) (rn := { frames := 1, cells := 0, slots := 0, locals := 22 }) (As := [.int (xs 1), .int (xs 2), .int (xs 3), .int (xs 4), .int (xs 5)]) (rest := [.int 20]) C (zq_feed (zs_uF (zs_uM (zs_uF (zs_uM (zs_uF (zs_uM (zs_uF (zs_uM (zs_uF (zs_uM (zs_uF (zs_uM (zs_uF (zs_uM (zs_uF (zs_uM (zs_uF (zs_uM (zs_uF (zs_uM (zs_uF (zs_uM (zs_uF (zs_uM (zs_uF (zs_uM (zs_uF (zs_uM (zs_uF (zs_uM (zs_uF (zs_uM (zs_uF (zs_uM (zs_uF (zs_uM (zs_uF (zs_uM (zs_uF (zs_uM zs_h0 1 ((0 : Int32)).toNatClampNeg (vp_nar .byte ((((xs 1) >>> ((24 : Int32) &&& 31))).toInt8.toInt32))) 0 1 1) 1 ((1 : Int32)).toNatClampNeg (vp_nar .byte ((((xs 1) >>> ((16 : Int32) &&& 31))).toInt8.toInt32))) 0 1 2) 1 ((2 : Int32)).toNatClampNeg (vp_nar .byte ((((xs 1) >>> ((8 : Int32) &&& 31))).toInt8.toInt32))) 0 1 3) 1 ((3 : Int32)).toNatClampNeg (vp_nar .byte ((((xs 1) >>> ((0 : Int32) &&& 31))).toInt8.toInt32))) 0 1 4) 1 ((4 : Int32)).toNatClampNeg (vp_nar .byte ((((xs 2) >>> ((24 : Int32) &&& 31))).toInt8.toInt32))) 0 1 5) 1 ((5 : Int32)).toNatClampNeg (vp_nar .byte ((((xs 2) >>> ((16 : Int32) &&& 31))).toInt8.toInt32))) 0 1 6) 1 ((6 : Int32)).toNatClampNeg (vp_nar .byte ((((xs 2) >>> ((8 : Int32) &&& 31))).toInt8.toInt32))) 0 1 7) 1 ((7 : Int32)).toNatClampNeg (vp_nar .byte ((((xs 2) >>> ((0 : Int32) &&& 31))).toInt8.toInt32))) 0 1 8) 1 ((8 : Int32)).toNatClampNeg (vp_nar .byte ((((xs 3) >>> ((24 : Int32) &&& 31))).toInt8.toInt32))) 0 1 9) 1 ((9 : Int32)).toNatClampNeg (vp_nar .byte ((((xs 3) >>> ((16 : Int32) &&& 31))).toInt8.toInt32))) 0 1 10) 1 ((10 : Int32)).toNatClampNeg (vp_nar .byte ((((xs 3) >>> ((8 : Int32) &&& 31))).toInt8.toInt32))) 0 1 11) 1 ((11 : Int32)).toNatClampNeg (vp_nar .byte ((((xs 3) >>> ((0 : Int32) &&& 31))).toInt8.toInt32))) 0 1 12) 1 ((12 : Int32)).toNatClampNeg (vp_nar .byte ((((xs 4) >>> ((24 : Int32) &&& 31))).toInt8.toInt32))) 0 1 13) 1 ((13 : Int32)).toNatClampNeg (vp_nar .byte ((((xs 4) >>> ((16 : Int32) &&& 31))).toInt8.toInt32))) 0 1 14) 1 ((14 : Int32)).toNatClampNeg (vp_nar .byte ((((xs 4) >>> ((8 : Int32) &&& 31))).toInt8.toInt32))) 0 1 15) 1 ((15 : Int32)).toNatClampNeg (vp_nar .byte ((((xs 4) >>> ((0 : Int32) &&& 31))).toInt8.toInt32))) 0 1 16) 1 ((16 : Int32)).toNatClampNeg (vp_nar .byte ((((xs 5) >>> ((24 : Int32) &&& 31))).toInt8.toInt32))) 0 1 17) 1 ((17 : Int32)).toNatClampNeg (vp_nar .byte ((((xs 5) >>> ((16 : Int32) &&& 31))).toInt8.toInt32))) 0 1 18) 1 ((18 : Int32)).toNatClampNeg (vp_nar .byte ((((xs 5) >>> ((8 : Int32) &&& 31))).toInt8.toInt32))) 0 1 19) 1 ((19 : Int32)).toNatClampNeg (vp_nar .byte ((((xs 5) >>> ((0 : Int32) &&& 31))).toInt8.toInt32))) 0 1 20) rfl (xs 1) (xs 2) (xs 3) (xs 4) (xs 5)) ku_Mo_feed kw1972 kv_Mo_feed rfl ⟨by decide, by decide⟩ ⟨by decide, by decide⟩ rfl rfl rfl (Nat.le_of_ble_eq_true rfl) kd_law_159 rfl (c1 := 121) (s1 := 1494679) rfl rfl (fun v w hp => ?_)
  obtain ⟨rfl, rfl⟩ := hp
  refine zk_stk (r' := [.int 20, .int 20]) rfl ?_
  refine zk_icmp_eq (tgt := 476) C kd_law_162 (by decide) rfl (fun h_1 => ?_) (fun h_1 => absurd (by decide) h_1)
  refine zk_iinc (v := 6) (lv' := [(3, _), (0, _), (1, _), (2, _)]) C kd_law_476 3 rfl (by decide) (by decide) rfl rfl ?_
  refine zk_goto (tgt := 18) C kd_law_479 (by decide) ?_
  exact zk_lvs (lv' := [(0, .ref b), (3, .int 6)]) [1, 0] rfl (tail _)
set_option maxHeartbeats 4000000 in
set_option maxRecDepth 100000 in
theorem zl_c1 {X : zk_T} {S : zs_T} {P : ze_T} {l : Launch} {D : va_G} {sz0 b : Nat} {xs : Nat → Int32} (C : zk_C X km_law (zs_G S l D sz0) room_1 (ze_E P)) (hs : zl_scr X b 6 xs) (tail : ∀ w : va_W, zk_Ab X w 121 1494679 18 [(0, .ref b), (3, .int 6)] []) : zk_Ab X (zs_W S zs_h0) 121 1494679 167 [(0, .ref b), (1, .ref (S.1 0)), (2, .ref (S.1 68)), (3, .int 0)] [] := by
  refine zk_aload_n C kd_law_167 rfl 1 rfl rfl ?_
  refine zk_aload_n C kd_law_168 rfl 0 rfl rfl ?_
  refine zk_iload_n C kd_law_169 rfl 3 rfl rfl ?_
  refine zk_iconst (v := 1) C kd_law_170 (by decide) rfl ?_
  refine zk_iadd C kd_law_171 rfl ?_
  refine zk_stk (r' := [.int 1, .ref b, .ref (S.1 0)]) (by rw [show (0 : Int32) + 1 = 1 by decide]) ?_
  refine zl_sld C hs (zp_dec rfl) kd_law_172 rfl ?_
  refine zk_stk (r' := [.int (xs 1), .ref (S.1 0)]) rfl ?_
  refine zs_callV (k := 0) (rn := { frames := 0, cells := 0, slots := 0, locals := 0 }) (As := [.int (xs 1)]) (rest := []) C (zp_end zs_h0 rfl (xs 1)) ku_Pk_end kw676 kv_Pk_end rfl ⟨by decide, by decide⟩ ⟨by decide, by decide⟩ rfl rfl rfl (Nat.le_of_ble_eq_true rfl) kd_law_173 rfl (c1 := 121) (s1 := 1494679) rfl rfl (fun v w hp => ?_)
  rcases hp with ⟨g_1, rfl, rfl⟩ | ⟨g_2, g_3, rfl, rfl⟩ | ⟨g_4, g_5, rfl, rfl⟩
  · refine zk_stk (r' := [.int (-1)]) rfl ?_
    refine zk_aload_n C kd_law_176 rfl 2 rfl rfl ?_
    refine zk_aload_n C kd_law_177 rfl 0 rfl rfl ?_
    refine zk_iload_n C kd_law_178 rfl 3 rfl rfl ?_
    refine zk_iconst (v := 1) C kd_law_179 (by decide) rfl ?_
    refine zk_iadd C kd_law_180 rfl ?_
    refine zk_stk (r' := [.int 1, .ref b, .ref (S.1 68), .int (-1)]) (by rw [show (0 : Int32) + 1 = 1 by decide]) ?_
    refine zl_sld C hs (zp_dec rfl) kd_law_181 rfl ?_
    refine zk_stk (r' := [.int (xs 1), .ref (S.1 68), .int (-1)]) rfl ?_
    refine zs_callV (k := 68) (rn := { frames := 0, cells := 0, slots := 0, locals := 0 }) (As := [.int (xs 1)]) (rest := [.int (-1)]) C (zq_end zs_h0 rfl (xs 1)) ku_Mo_end kw1980 kv_Mo_end rfl ⟨by decide, by decide⟩ ⟨by decide, by decide⟩ rfl rfl rfl (Nat.le_of_ble_eq_true rfl) kd_law_182 rfl (c1 := 121) (s1 := 1494679) rfl rfl (fun v w hp => ?_)
    rcases hp with ⟨g_6, rfl, rfl⟩ | ⟨g_7, g_8, rfl, rfl⟩ | ⟨g_9, g_10, rfl, rfl⟩
    · refine zk_stk (r' := [.int (-1), .int (-1)]) rfl ?_
      refine zk_icmp_eq (tgt := 476) C kd_law_185 (by decide) rfl (fun h_11 => ?_) (fun h_11 => absurd (by decide) h_11)
      refine zk_iinc (v := 6) (lv' := [(3, _), (0, _), (1, _), (2, _)]) C kd_law_476 3 rfl (by decide) (by decide) rfl rfl ?_
      refine zk_goto (tgt := 18) C kd_law_479 (by decide) ?_
      exact zk_lvs (lv' := [(0, .ref b), (3, .int 6)]) [1, 0] rfl (tail _)
    · exact absurd g_1 g_7
    · exact absurd g_1 g_9
  · refine zk_stk (r' := [.int (-1)]) rfl ?_
    refine zk_aload_n C kd_law_176 rfl 2 rfl rfl ?_
    refine zk_aload_n C kd_law_177 rfl 0 rfl rfl ?_
    refine zk_iload_n C kd_law_178 rfl 3 rfl rfl ?_
    refine zk_iconst (v := 1) C kd_law_179 (by decide) rfl ?_
    refine zk_iadd C kd_law_180 rfl ?_
    refine zk_stk (r' := [.int 1, .ref b, .ref (S.1 68), .int (-1)]) (by rw [show (0 : Int32) + 1 = 1 by decide]) ?_
    refine zl_sld C hs (zp_dec rfl) kd_law_181 rfl ?_
    refine zk_stk (r' := [.int (xs 1), .ref (S.1 68), .int (-1)]) rfl ?_
    refine zs_callV (k := 68) (rn := { frames := 0, cells := 0, slots := 0, locals := 0 }) (As := [.int (xs 1)]) (rest := [.int (-1)]) C (zq_end zs_h0 rfl (xs 1)) ku_Mo_end kw1980 kv_Mo_end rfl ⟨by decide, by decide⟩ ⟨by decide, by decide⟩ rfl rfl rfl (Nat.le_of_ble_eq_true rfl) kd_law_182 rfl (c1 := 121) (s1 := 1494679) rfl rfl (fun v w hp => ?_)
    rcases hp with ⟨g_12, rfl, rfl⟩ | ⟨g_13, g_14, rfl, rfl⟩ | ⟨g_15, g_16, rfl, rfl⟩
    · exact absurd g_12 g_2
    · refine zk_stk (r' := [.int (-1), .int (-1)]) rfl ?_
      refine zk_icmp_eq (tgt := 476) C kd_law_185 (by decide) rfl (fun h_17 => ?_) (fun h_17 => absurd (by decide) h_17)
      refine zk_iinc (v := 6) (lv' := [(3, _), (0, _), (1, _), (2, _)]) C kd_law_476 3 rfl (by decide) (by decide) rfl rfl ?_
      refine zk_goto (tgt := 18) C kd_law_479 (by decide) ?_
      exact zk_lvs (lv' := [(0, .ref b), (3, .int 6)]) [1, 0] rfl (tail _)
    · exact absurd g_3 g_16
  · refine zk_stk (r' := [.int (-1)]) rfl ?_
    refine zk_aload_n C kd_law_176 rfl 2 rfl rfl ?_
    refine zk_aload_n C kd_law_177 rfl 0 rfl rfl ?_
    refine zk_iload_n C kd_law_178 rfl 3 rfl rfl ?_
    refine zk_iconst (v := 1) C kd_law_179 (by decide) rfl ?_
    refine zk_iadd C kd_law_180 rfl ?_
    refine zk_stk (r' := [.int 1, .ref b, .ref (S.1 68), .int (-1)]) (by rw [show (0 : Int32) + 1 = 1 by decide]) ?_
    refine zl_sld C hs (zp_dec rfl) kd_law_181 rfl ?_
    refine zk_stk (r' := [.int (xs 1), .ref (S.1 68), .int (-1)]) rfl ?_
    refine zs_callV (k := 68) (rn := { frames := 0, cells := 0, slots := 0, locals := 0 }) (As := [.int (xs 1)]) (rest := [.int (-1)]) C (zq_end zs_h0 rfl (xs 1)) ku_Mo_end kw1980 kv_Mo_end rfl ⟨by decide, by decide⟩ ⟨by decide, by decide⟩ rfl rfl rfl (Nat.le_of_ble_eq_true rfl) kd_law_182 rfl (c1 := 121) (s1 := 1494679) rfl rfl (fun v w hp => ?_)
    rcases hp with ⟨g_18, rfl, rfl⟩ | ⟨g_19, g_20, rfl, rfl⟩ | ⟨g_21, g_22, rfl, rfl⟩
    · exact absurd g_18 g_4
    · exact absurd g_20 g_5
    · refine zk_stk (r' := [.int (-1), .int (-1)]) rfl ?_
      refine zk_icmp_eq (tgt := 476) C kd_law_185 (by decide) rfl (fun h_23 => ?_) (fun h_23 => absurd (by decide) h_23)
      refine zk_iinc (v := 6) (lv' := [(3, _), (0, _), (1, _), (2, _)]) C kd_law_476 3 rfl (by decide) (by decide) rfl rfl ?_
      refine zk_goto (tgt := 18) C kd_law_479 (by decide) ?_
      exact zk_lvs (lv' := [(0, .ref b), (3, .int 6)]) [1, 0] rfl (tail _)
set_option maxHeartbeats 4000000 in
set_option maxRecDepth 100000 in
theorem zl_c3 {X : zk_T} {S : zs_T} {P : ze_T} {l : Launch} {D : va_G} {sz0 b : Nat} {xs : Nat → Int32} (C : zk_C X km_law (zs_G S l D sz0) room_1 (ze_E P)) (hs : zl_scr X b 6 xs) (tail : ∀ w : va_W, zk_Ab X w 121 1494679 18 [(0, .ref b), (3, .int 6)] []) : zk_Ab X (zs_W S zs_h0) 121 1494679 213 [(0, .ref b), (1, .ref (S.1 0)), (2, .ref (S.1 68)), (3, .int 0)] [] := by
  refine zk_aload_n C kd_law_213 rfl 1 rfl rfl ?_
  refine zs_callV (k := 0) (rn := { frames := 0, cells := 0, slots := 0, locals := 0 }) (As := []) (rest := []) C (zp_restart zs_h0 rfl) ku_Pk_restart kw1469 kv_Pk_restart rfl ⟨by decide, by decide⟩ ⟨by decide, by decide⟩ rfl rfl rfl (Nat.le_of_ble_eq_true rfl) kd_law_214 rfl (c1 := 121) (s1 := 1494679) rfl rfl (fun v w hp => ?_)
  obtain ⟨rfl, rfl⟩ := hp
  refine zk_stk (r' := [.int (-5)]) rfl ?_
  refine zk_aload_n C kd_law_217 rfl 2 rfl rfl ?_
  refine zs_callV (k := 68) (rn := { frames := 0, cells := 0, slots := 0, locals := 0 }) (As := []) (rest := [.int (-5)]) C (zq_restart zs_h0 rfl) ku_Mo_restart kw2715 kv_Mo_restart rfl ⟨by decide, by decide⟩ ⟨by decide, by decide⟩ rfl rfl rfl (Nat.le_of_ble_eq_true rfl) kd_law_218 rfl (c1 := 121) (s1 := 1494679) rfl rfl (fun v w hp => ?_)
  obtain ⟨rfl, rfl⟩ := hp
  refine zk_stk (r' := [.int (-5), .int (-5)]) rfl ?_
  refine zk_icmp_eq (tgt := 476) C kd_law_221 (by decide) rfl (fun h_1 => ?_) (fun h_1 => absurd (by decide) h_1)
  refine zk_iinc (v := 6) (lv' := [(3, _), (0, _), (1, _), (2, _)]) C kd_law_476 3 rfl (by decide) (by decide) rfl rfl ?_
  refine zk_goto (tgt := 18) C kd_law_479 (by decide) ?_
  exact zk_lvs (lv' := [(0, .ref b), (3, .int 6)]) [1, 0] rfl (tail _)
set_option maxHeartbeats 4000000 in
set_option maxRecDepth 100000 in
theorem zl_c4 {X : zk_T} {S : zs_T} {P : ze_T} {l : Launch} {D : va_G} {sz0 b : Nat} {xs : Nat → Int32} (C : zk_C X km_law (zs_G S l D sz0) room_1 (ze_E P)) (hs : zl_scr X b 6 xs) (tail : ∀ w : va_W, zk_Ab X w 121 1494679 18 [(0, .ref b), (3, .int 6)] []) : zk_Ab X (zs_W S zs_h0) 121 1494679 226 [(0, .ref b), (1, .ref (S.1 0)), (2, .ref (S.1 68)), (3, .int 0)] [] := by
  refine zk_aload_n C kd_law_226 rfl 1 rfl rfl ?_
  refine zk_aload_n C kd_law_227 rfl 0 rfl rfl ?_
  refine zk_iload_n C kd_law_228 rfl 3 rfl rfl ?_
  refine zk_iconst (v := 1) C kd_law_229 (by decide) rfl ?_
  refine zk_iadd C kd_law_230 rfl ?_
  refine zk_stk (r' := [.int 1, .ref b, .ref (S.1 0)]) (by rw [show (0 : Int32) + 1 = 1 by decide]) ?_
  refine zl_sld C hs (zp_dec rfl) kd_law_231 rfl ?_
  refine zk_stk (r' := [.int (xs 1), .ref (S.1 0)]) rfl ?_
  refine zk_aload_n C kd_law_232 rfl 0 rfl rfl ?_
  refine zk_iload_n C kd_law_233 rfl 3 rfl rfl ?_
  refine zk_iconst (v := 2) C kd_law_234 (by decide) rfl ?_
  refine zk_iadd C kd_law_235 rfl ?_
  refine zk_stk (r' := [.int 2, .ref b, .int (xs 1), .ref (S.1 0)]) (by rw [show (0 : Int32) + 2 = 2 by decide]) ?_
  refine zl_sld C hs (zp_dec rfl) kd_law_236 rfl ?_
  refine zk_stk (r' := [.int (xs 2), .int (xs 1), .ref (S.1 0)]) rfl ?_
  refine zk_aload_n C kd_law_237 rfl 0 rfl rfl ?_
  refine zk_iload_n C kd_law_238 rfl 3 rfl rfl ?_
  refine zk_iconst (v := 3) C kd_law_239 (by decide) rfl ?_
  refine zk_iadd C kd_law_240 rfl ?_
  refine zk_stk (r' := [.int 3, .ref b, .int (xs 2), .int (xs 1), .ref (S.1 0)]) (by rw [show (0 : Int32) + 3 = 3 by decide]) ?_
  refine zl_sld C hs (zp_dec rfl) kd_law_241 rfl ?_
  refine zk_stk (r' := [.int (xs 3), .int (xs 2), .int (xs 1), .ref (S.1 0)]) rfl ?_
  refine zs_callV (k := 0) (rn := { frames := 1, cells := 0, slots := 0, locals := 24 }) (As := [.int (xs 1), .int (xs 2), .int (xs 3)]) (rest := []) C (zp_put zs_h0 rfl (xs 1) (xs 2) (xs 3)) ku_Pk_put kw1474 kv_Pk_put rfl ⟨by decide, by decide⟩ ⟨by decide, by decide⟩ rfl rfl rfl (Nat.le_of_ble_eq_true rfl) kd_law_242 rfl (c1 := 121) (s1 := 1494679) rfl rfl (fun v w hp => ?_)
  rcases hp with ⟨g_1, g_2, rfl, rfl⟩ | ⟨g_3, g_4, g_5, rfl, rfl⟩ | ⟨g_6, g_7, g_8, g_9, g_10, rfl, rfl⟩ | ⟨g_11, g_12, g_13, g_14, g_15, g_16, rfl, rfl⟩ | ⟨g_17, g_18, g_19, g_20, g_21, g_22, rfl, rfl⟩ | ⟨g_23, g_24, g_25, g_26, rfl, rfl⟩ | ⟨g_27, rfl, rfl⟩
  · refine zk_stk (r' := [.int (-1)]) rfl ?_
    refine zk_aload_n C kd_law_245 rfl 2 rfl rfl ?_
    refine zk_aload_n C kd_law_246 rfl 0 rfl rfl ?_
    refine zk_iload_n C kd_law_247 rfl 3 rfl rfl ?_
    refine zk_iconst (v := 1) C kd_law_248 (by decide) rfl ?_
    refine zk_iadd C kd_law_249 rfl ?_
    refine zk_stk (r' := [.int 1, .ref b, .ref (S.1 68), .int (-1)]) (by rw [show (0 : Int32) + 1 = 1 by decide]) ?_
    refine zl_sld C hs (zp_dec rfl) kd_law_250 rfl ?_
    refine zk_stk (r' := [.int (xs 1), .ref (S.1 68), .int (-1)]) rfl ?_
    refine zk_aload_n C kd_law_251 rfl 0 rfl rfl ?_
    refine zk_iload_n C kd_law_252 rfl 3 rfl rfl ?_
    refine zk_iconst (v := 2) C kd_law_253 (by decide) rfl ?_
    refine zk_iadd C kd_law_254 rfl ?_
    refine zk_stk (r' := [.int 2, .ref b, .int (xs 1), .ref (S.1 68), .int (-1)]) (by rw [show (0 : Int32) + 2 = 2 by decide]) ?_
    refine zl_sld C hs (zp_dec rfl) kd_law_255 rfl ?_
    refine zk_stk (r' := [.int (xs 2), .int (xs 1), .ref (S.1 68), .int (-1)]) rfl ?_
    refine zk_aload_n C kd_law_256 rfl 0 rfl rfl ?_
    refine zk_iload_n C kd_law_257 rfl 3 rfl rfl ?_
    refine zk_iconst (v := 3) C kd_law_258 (by decide) rfl ?_
    refine zk_iadd C kd_law_259 rfl ?_
    refine zk_stk (r' := [.int 3, .ref b, .int (xs 2), .int (xs 1), .ref (S.1 68), .int (-1)]) (by rw [show (0 : Int32) + 3 = 3 by decide]) ?_
    refine zl_sld C hs (zp_dec rfl) kd_law_260 rfl ?_
    refine zk_stk (r' := [.int (xs 3), .int (xs 2), .int (xs 1), .ref (S.1 68), .int (-1)]) rfl ?_
    refine zs_callV (k := 68) (rn := { frames := 1, cells := 0, slots := 0, locals := 21 }) (As := [.int (xs 1), .int (xs 2), .int (xs 3)]) (rest := [.int (-1)]) C (zq_put zs_h0 rfl (xs 1) (xs 2) (xs 3)) ku_Mo_put kw2719 kv_Mo_put rfl ⟨by decide, by decide⟩ ⟨by decide, by decide⟩ rfl rfl rfl (Nat.le_of_ble_eq_true rfl) kd_law_261 rfl (c1 := 121) (s1 := 1494679) rfl rfl (fun v w hp => ?_)
    rcases hp with ⟨g_28, g_29, g_30, rfl, rfl⟩ | ⟨g_31, g_32, g_33, g_34, g_35, g_36, rfl, rfl⟩ | ⟨g_37, g_38, g_39, g_40, g_41, g_42, rfl, rfl⟩ | ⟨g_43, g_44, g_45, g_46, g_47, g_48, rfl, rfl⟩ | ⟨g_49, g_50, g_51, g_52, g_53, g_54, g_55, rfl, rfl⟩ | ⟨g_56, g_57, g_58, g_59, g_60, g_61, g_62, rfl, rfl⟩ | ⟨g_63, g_64, g_65, g_66, rfl, rfl⟩ | ⟨g_67, g_68, rfl, rfl⟩ | ⟨g_69, rfl, rfl⟩
    · refine zk_stk (r' := [.int (-1), .int (-1)]) rfl ?_
      refine zk_icmp_eq (tgt := 476) C kd_law_264 (by decide) rfl (fun h_70 => ?_) (fun h_70 => absurd (by decide) h_70)
      refine zk_iinc (v := 6) (lv' := [(3, _), (0, _), (1, _), (2, _)]) C kd_law_476 3 rfl (by decide) (by decide) rfl rfl ?_
      refine zk_goto (tgt := 18) C kd_law_479 (by decide) ?_
      exact zk_lvs (lv' := [(0, .ref b), (3, .int 6)]) [1, 0] rfl (tail _)
    · exact absurd g_2 g_33
    · exact absurd g_2 g_39
    · exact absurd g_2 g_45
    · exact absurd g_2 g_51
    · exact absurd g_2 g_58
    · exact absurd g_2 g_65
    · refine zk_stk (r' := [.int (-1), .int (-1)]) rfl ?_
      refine zk_icmp_eq (tgt := 476) C kd_law_264 (by decide) rfl (fun h_71 => ?_) (fun h_71 => absurd (by decide) h_71)
      refine zk_iinc (v := 6) (lv' := [(3, _), (0, _), (1, _), (2, _)]) C kd_law_476 3 rfl (by decide) (by decide) rfl rfl ?_
      refine zk_goto (tgt := 18) C kd_law_479 (by decide) ?_
      exact zk_lvs (lv' := [(0, .ref b), (3, .int 6)]) [1, 0] rfl (tail _)
    · exact absurd g_1 g_69
  · refine zk_stk (r' := [.int (-1)]) rfl ?_
    refine zk_aload_n C kd_law_245 rfl 2 rfl rfl ?_
    refine zk_aload_n C kd_law_246 rfl 0 rfl rfl ?_
    refine zk_iload_n C kd_law_247 rfl 3 rfl rfl ?_
    refine zk_iconst (v := 1) C kd_law_248 (by decide) rfl ?_
    refine zk_iadd C kd_law_249 rfl ?_
    refine zk_stk (r' := [.int 1, .ref b, .ref (S.1 68), .int (-1)]) (by rw [show (0 : Int32) + 1 = 1 by decide]) ?_
    refine zl_sld C hs (zp_dec rfl) kd_law_250 rfl ?_
    refine zk_stk (r' := [.int (xs 1), .ref (S.1 68), .int (-1)]) rfl ?_
    refine zk_aload_n C kd_law_251 rfl 0 rfl rfl ?_
    refine zk_iload_n C kd_law_252 rfl 3 rfl rfl ?_
    refine zk_iconst (v := 2) C kd_law_253 (by decide) rfl ?_
    refine zk_iadd C kd_law_254 rfl ?_
    refine zk_stk (r' := [.int 2, .ref b, .int (xs 1), .ref (S.1 68), .int (-1)]) (by rw [show (0 : Int32) + 2 = 2 by decide]) ?_
    refine zl_sld C hs (zp_dec rfl) kd_law_255 rfl ?_
    refine zk_stk (r' := [.int (xs 2), .int (xs 1), .ref (S.1 68), .int (-1)]) rfl ?_
    refine zk_aload_n C kd_law_256 rfl 0 rfl rfl ?_
    refine zk_iload_n C kd_law_257 rfl 3 rfl rfl ?_
    refine zk_iconst (v := 3) C kd_law_258 (by decide) rfl ?_
    refine zk_iadd C kd_law_259 rfl ?_
    refine zk_stk (r' := [.int 3, .ref b, .int (xs 2), .int (xs 1), .ref (S.1 68), .int (-1)]) (by rw [show (0 : Int32) + 3 = 3 by decide]) ?_
    refine zl_sld C hs (zp_dec rfl) kd_law_260 rfl ?_
    refine zk_stk (r' := [.int (xs 3), .int (xs 2), .int (xs 1), .ref (S.1 68), .int (-1)]) rfl ?_
    refine zs_callV (k := 68) (rn := { frames := 1, cells := 0, slots := 0, locals := 21 }) (As := [.int (xs 1), .int (xs 2), .int (xs 3)]) (rest := [.int (-1)]) C (zq_put zs_h0 rfl (xs 1) (xs 2) (xs 3)) ku_Mo_put kw2719 kv_Mo_put rfl ⟨by decide, by decide⟩ ⟨by decide, by decide⟩ rfl rfl rfl (Nat.le_of_ble_eq_true rfl) kd_law_261 rfl (c1 := 121) (s1 := 1494679) rfl rfl (fun v w hp => ?_)
    rcases hp with ⟨g_72, g_73, g_74, rfl, rfl⟩ | ⟨g_75, g_76, g_77, g_78, g_79, g_80, rfl, rfl⟩ | ⟨g_81, g_82, g_83, g_84, g_85, g_86, rfl, rfl⟩ | ⟨g_87, g_88, g_89, g_90, g_91, g_92, rfl, rfl⟩ | ⟨g_93, g_94, g_95, g_96, g_97, g_98, g_99, rfl, rfl⟩ | ⟨g_100, g_101, g_102, g_103, g_104, g_105, g_106, rfl, rfl⟩ | ⟨g_107, g_108, g_109, g_110, rfl, rfl⟩ | ⟨g_111, g_112, rfl, rfl⟩ | ⟨g_113, rfl, rfl⟩
    · exact absurd g_74 g_4
    · exact absurd g_5 g_78
    · exact absurd g_5 g_84
    · exact absurd g_5 g_90
    · exact absurd g_5 g_96
    · exact absurd g_5 g_103
    · refine zk_stk (r' := [.int (-1), .int (-1)]) rfl ?_
      refine zk_icmp_eq (tgt := 476) C kd_law_264 (by decide) rfl (fun h_114 => ?_) (fun h_114 => absurd (by decide) h_114)
      refine zk_iinc (v := 6) (lv' := [(3, _), (0, _), (1, _), (2, _)]) C kd_law_476 3 rfl (by decide) (by decide) rfl rfl ?_
      refine zk_goto (tgt := 18) C kd_law_479 (by decide) ?_
      exact zk_lvs (lv' := [(0, .ref b), (3, .int 6)]) [1, 0] rfl (tail _)
    · refine zk_stk (r' := [.int (-1), .int (-1)]) rfl ?_
      refine zk_icmp_eq (tgt := 476) C kd_law_264 (by decide) rfl (fun h_115 => ?_) (fun h_115 => absurd (by decide) h_115)
      refine zk_iinc (v := 6) (lv' := [(3, _), (0, _), (1, _), (2, _)]) C kd_law_476 3 rfl (by decide) (by decide) rfl rfl ?_
      refine zk_goto (tgt := 18) C kd_law_479 (by decide) ?_
      exact zk_lvs (lv' := [(0, .ref b), (3, .int 6)]) [1, 0] rfl (tail _)
    · exact absurd g_3 g_113
  · refine zk_stk (r' := [.int 0]) rfl ?_
    refine zk_aload_n C kd_law_245 rfl 2 rfl rfl ?_
    refine zk_aload_n C kd_law_246 rfl 0 rfl rfl ?_
    refine zk_iload_n C kd_law_247 rfl 3 rfl rfl ?_
    refine zk_iconst (v := 1) C kd_law_248 (by decide) rfl ?_
    refine zk_iadd C kd_law_249 rfl ?_
    refine zk_stk (r' := [.int 1, .ref b, .ref (S.1 68), .int 0]) (by rw [show (0 : Int32) + 1 = 1 by decide]) ?_
    refine zl_sld C hs (zp_dec rfl) kd_law_250 rfl ?_
    refine zk_stk (r' := [.int (xs 1), .ref (S.1 68), .int 0]) rfl ?_
    refine zk_aload_n C kd_law_251 rfl 0 rfl rfl ?_
    refine zk_iload_n C kd_law_252 rfl 3 rfl rfl ?_
    refine zk_iconst (v := 2) C kd_law_253 (by decide) rfl ?_
    refine zk_iadd C kd_law_254 rfl ?_
    refine zk_stk (r' := [.int 2, .ref b, .int (xs 1), .ref (S.1 68), .int 0]) (by rw [show (0 : Int32) + 2 = 2 by decide]) ?_
    refine zl_sld C hs (zp_dec rfl) kd_law_255 rfl ?_
    refine zk_stk (r' := [.int (xs 2), .int (xs 1), .ref (S.1 68), .int 0]) rfl ?_
    refine zk_aload_n C kd_law_256 rfl 0 rfl rfl ?_
    refine zk_iload_n C kd_law_257 rfl 3 rfl rfl ?_
    refine zk_iconst (v := 3) C kd_law_258 (by decide) rfl ?_
    refine zk_iadd C kd_law_259 rfl ?_
    refine zk_stk (r' := [.int 3, .ref b, .int (xs 2), .int (xs 1), .ref (S.1 68), .int 0]) (by rw [show (0 : Int32) + 3 = 3 by decide]) ?_
    refine zl_sld C hs (zp_dec rfl) kd_law_260 rfl ?_
    refine zk_stk (r' := [.int (xs 3), .int (xs 2), .int (xs 1), .ref (S.1 68), .int 0]) rfl ?_
    refine zs_callV (k := 68) (rn := { frames := 1, cells := 0, slots := 0, locals := 21 }) (As := [.int (xs 1), .int (xs 2), .int (xs 3)]) (rest := [.int 0]) C (zq_put (zs_uM zs_h0 59 (((zp_t (xs 1)) + (xs 2))).toNatClampNeg (xs 3)) rfl (xs 1) (xs 2) (xs 3)) ku_Mo_put kw2719 kv_Mo_put rfl ⟨by decide, by decide⟩ ⟨by decide, by decide⟩ rfl rfl rfl (Nat.le_of_ble_eq_true rfl) kd_law_261 rfl (c1 := 121) (s1 := 1494679) rfl rfl (fun v w hp => ?_)
    rcases hp with ⟨g_116, g_117, g_118, rfl, rfl⟩ | ⟨g_119, g_120, g_121, g_122, g_123, g_124, rfl, rfl⟩ | ⟨g_125, g_126, g_127, g_128, g_129, g_130, rfl, rfl⟩ | ⟨g_131, g_132, g_133, g_134, g_135, g_136, rfl, rfl⟩ | ⟨g_137, g_138, g_139, g_140, g_141, g_142, g_143, rfl, rfl⟩ | ⟨g_144, g_145, g_146, g_147, g_148, g_149, g_150, rfl, rfl⟩ | ⟨g_151, g_152, g_153, g_154, rfl, rfl⟩ | ⟨g_155, g_156, rfl, rfl⟩ | ⟨g_157, rfl, rfl⟩
    · exact absurd g_118 g_7
    · refine zk_stk (r' := [.int 0, .int 0]) rfl ?_
      refine zk_icmp_eq (tgt := 476) C kd_law_264 (by decide) rfl (fun h_158 => ?_) (fun h_158 => absurd (by decide) h_158)
      refine zk_iinc (v := 6) (lv' := [(3, _), (0, _), (1, _), (2, _)]) C kd_law_476 3 rfl (by decide) (by decide) rfl rfl ?_
      refine zk_goto (tgt := 18) C kd_law_479 (by decide) ?_
      exact zk_lvs (lv' := [(0, .ref b), (3, .int 6)]) [1, 0] rfl (tail _)
    · refine zk_stk (r' := [.int 0, .int 0]) rfl ?_
      refine zk_icmp_eq (tgt := 476) C kd_law_264 (by decide) rfl (fun h_159 => ?_) (fun h_159 => absurd (by decide) h_159)
      refine zk_iinc (v := 6) (lv' := [(3, _), (0, _), (1, _), (2, _)]) C kd_law_476 3 rfl (by decide) (by decide) rfl rfl ?_
      refine zk_goto (tgt := 18) C kd_law_479 (by decide) ?_
      exact zk_lvs (lv' := [(0, .ref b), (3, .int 6)]) [1, 0] rfl (tail _)
    · exact absurd g_10 g_135
    · exact absurd g_10 g_141
    · exact absurd g_10 g_148
    · exact absurd g_154 g_8
    · exact absurd g_9 g_156
    · exact absurd g_6 g_157
  · refine zk_stk (r' := [.int (-5)]) rfl ?_
    refine zk_aload_n C kd_law_245 rfl 2 rfl rfl ?_
    refine zk_aload_n C kd_law_246 rfl 0 rfl rfl ?_
    refine zk_iload_n C kd_law_247 rfl 3 rfl rfl ?_
    refine zk_iconst (v := 1) C kd_law_248 (by decide) rfl ?_
    refine zk_iadd C kd_law_249 rfl ?_
    refine zk_stk (r' := [.int 1, .ref b, .ref (S.1 68), .int (-5)]) (by rw [show (0 : Int32) + 1 = 1 by decide]) ?_
    refine zl_sld C hs (zp_dec rfl) kd_law_250 rfl ?_
    refine zk_stk (r' := [.int (xs 1), .ref (S.1 68), .int (-5)]) rfl ?_
    refine zk_aload_n C kd_law_251 rfl 0 rfl rfl ?_
    refine zk_iload_n C kd_law_252 rfl 3 rfl rfl ?_
    refine zk_iconst (v := 2) C kd_law_253 (by decide) rfl ?_
    refine zk_iadd C kd_law_254 rfl ?_
    refine zk_stk (r' := [.int 2, .ref b, .int (xs 1), .ref (S.1 68), .int (-5)]) (by rw [show (0 : Int32) + 2 = 2 by decide]) ?_
    refine zl_sld C hs (zp_dec rfl) kd_law_255 rfl ?_
    refine zk_stk (r' := [.int (xs 2), .int (xs 1), .ref (S.1 68), .int (-5)]) rfl ?_
    refine zk_aload_n C kd_law_256 rfl 0 rfl rfl ?_
    refine zk_iload_n C kd_law_257 rfl 3 rfl rfl ?_
    refine zk_iconst (v := 3) C kd_law_258 (by decide) rfl ?_
    refine zk_iadd C kd_law_259 rfl ?_
    refine zk_stk (r' := [.int 3, .ref b, .int (xs 2), .int (xs 1), .ref (S.1 68), .int (-5)]) (by rw [show (0 : Int32) + 3 = 3 by decide]) ?_
    refine zl_sld C hs (zp_dec rfl) kd_law_260 rfl ?_
    refine zk_stk (r' := [.int (xs 3), .int (xs 2), .int (xs 1), .ref (S.1 68), .int (-5)]) rfl ?_
    refine zs_callV (k := 68) (rn := { frames := 1, cells := 0, slots := 0, locals := 21 }) (As := [.int (xs 1), .int (xs 2), .int (xs 3)]) (rest := [.int (-5)]) C (zq_put zs_h0 rfl (xs 1) (xs 2) (xs 3)) ku_Mo_put kw2719 kv_Mo_put rfl ⟨by decide, by decide⟩ ⟨by decide, by decide⟩ rfl rfl rfl (Nat.le_of_ble_eq_true rfl) kd_law_261 rfl (c1 := 121) (s1 := 1494679) rfl rfl (fun v w hp => ?_)
    rcases hp with ⟨g_160, g_161, g_162, rfl, rfl⟩ | ⟨g_163, g_164, g_165, g_166, g_167, g_168, rfl, rfl⟩ | ⟨g_169, g_170, g_171, g_172, g_173, g_174, rfl, rfl⟩ | ⟨g_175, g_176, g_177, g_178, g_179, g_180, rfl, rfl⟩ | ⟨g_181, g_182, g_183, g_184, g_185, g_186, g_187, rfl, rfl⟩ | ⟨g_188, g_189, g_190, g_191, g_192, g_193, g_194, rfl, rfl⟩ | ⟨g_195, g_196, g_197, g_198, rfl, rfl⟩ | ⟨g_199, g_200, rfl, rfl⟩ | ⟨g_201, rfl, rfl⟩
    · exact absurd g_162 g_12
    · exact absurd g_167 g_15
    · exact absurd g_173 g_15
    · refine zk_stk (r' := [.int (-5), .int (-5)]) rfl ?_
      refine zk_icmp_eq (tgt := 476) C kd_law_264 (by decide) rfl (fun h_202 => ?_) (fun h_202 => absurd (by decide) h_202)
      refine zk_iinc (v := 6) (lv' := [(3, _), (0, _), (1, _), (2, _)]) C kd_law_476 3 rfl (by decide) (by decide) rfl rfl ?_
      refine zk_goto (tgt := 18) C kd_law_479 (by decide) ?_
      exact zk_lvs (lv' := [(0, .ref b), (3, .int 6)]) [1, 0] rfl (tail _)
    · exact absurd g_186 g_16
    · exact absurd g_193 g_16
    · exact absurd g_198 g_13
    · exact absurd g_14 g_200
    · exact absurd g_11 g_201
  · refine zk_stk (r' := [.int 0]) rfl ?_
    refine zk_aload_n C kd_law_245 rfl 2 rfl rfl ?_
    refine zk_aload_n C kd_law_246 rfl 0 rfl rfl ?_
    refine zk_iload_n C kd_law_247 rfl 3 rfl rfl ?_
    refine zk_iconst (v := 1) C kd_law_248 (by decide) rfl ?_
    refine zk_iadd C kd_law_249 rfl ?_
    refine zk_stk (r' := [.int 1, .ref b, .ref (S.1 68), .int 0]) (by rw [show (0 : Int32) + 1 = 1 by decide]) ?_
    refine zl_sld C hs (zp_dec rfl) kd_law_250 rfl ?_
    refine zk_stk (r' := [.int (xs 1), .ref (S.1 68), .int 0]) rfl ?_
    refine zk_aload_n C kd_law_251 rfl 0 rfl rfl ?_
    refine zk_iload_n C kd_law_252 rfl 3 rfl rfl ?_
    refine zk_iconst (v := 2) C kd_law_253 (by decide) rfl ?_
    refine zk_iadd C kd_law_254 rfl ?_
    refine zk_stk (r' := [.int 2, .ref b, .int (xs 1), .ref (S.1 68), .int 0]) (by rw [show (0 : Int32) + 2 = 2 by decide]) ?_
    refine zl_sld C hs (zp_dec rfl) kd_law_255 rfl ?_
    refine zk_stk (r' := [.int (xs 2), .int (xs 1), .ref (S.1 68), .int 0]) rfl ?_
    refine zk_aload_n C kd_law_256 rfl 0 rfl rfl ?_
    refine zk_iload_n C kd_law_257 rfl 3 rfl rfl ?_
    refine zk_iconst (v := 3) C kd_law_258 (by decide) rfl ?_
    refine zk_iadd C kd_law_259 rfl ?_
    refine zk_stk (r' := [.int 3, .ref b, .int (xs 2), .int (xs 1), .ref (S.1 68), .int 0]) (by rw [show (0 : Int32) + 3 = 3 by decide]) ?_
    refine zl_sld C hs (zp_dec rfl) kd_law_260 rfl ?_
    refine zk_stk (r' := [.int (xs 3), .int (xs 2), .int (xs 1), .ref (S.1 68), .int 0]) rfl ?_
    refine zs_callV (k := 68) (rn := { frames := 1, cells := 0, slots := 0, locals := 21 }) (As := [.int (xs 1), .int (xs 2), .int (xs 3)]) (rest := [.int 0]) C (zq_put (zs_uM zs_h0 59 (((zp_t (xs 1)) + (xs 2))).toNatClampNeg (xs 3)) rfl (xs 1) (xs 2) (xs 3)) ku_Mo_put kw2719 kv_Mo_put rfl ⟨by decide, by decide⟩ ⟨by decide, by decide⟩ rfl rfl rfl (Nat.le_of_ble_eq_true rfl) kd_law_261 rfl (c1 := 121) (s1 := 1494679) rfl rfl (fun v w hp => ?_)
    rcases hp with ⟨g_203, g_204, g_205, rfl, rfl⟩ | ⟨g_206, g_207, g_208, g_209, g_210, g_211, rfl, rfl⟩ | ⟨g_212, g_213, g_214, g_215, g_216, g_217, rfl, rfl⟩ | ⟨g_218, g_219, g_220, g_221, g_222, g_223, rfl, rfl⟩ | ⟨g_224, g_225, g_226, g_227, g_228, g_229, g_230, rfl, rfl⟩ | ⟨g_231, g_232, g_233, g_234, g_235, g_236, g_237, rfl, rfl⟩ | ⟨g_238, g_239, g_240, g_241, rfl, rfl⟩ | ⟨g_242, g_243, rfl, rfl⟩ | ⟨g_244, rfl, rfl⟩
    · exact absurd g_205 g_18
    · exact absurd g_210 g_21
    · exact absurd g_216 g_21
    · exact absurd g_22 g_223
    · refine zk_stk (r' := [.int 0, .int 0]) rfl ?_
      refine zk_icmp_eq (tgt := 476) C kd_law_264 (by decide) rfl (fun h_245 => ?_) (fun h_245 => absurd (by decide) h_245)
      refine zk_iinc (v := 6) (lv' := [(3, _), (0, _), (1, _), (2, _)]) C kd_law_476 3 rfl (by decide) (by decide) rfl rfl ?_
      refine zk_goto (tgt := 18) C kd_law_479 (by decide) ?_
      exact zk_lvs (lv' := [(0, .ref b), (3, .int 6)]) [1, 0] rfl (tail _)
    · refine zk_stk (r' := [.int 0, .int 0]) rfl ?_
      refine zk_icmp_eq (tgt := 476) C kd_law_264 (by decide) rfl (fun h_246 => ?_) (fun h_246 => absurd (by decide) h_246)
      refine zk_iinc (v := 6) (lv' := [(3, _), (0, _), (1, _), (2, _)]) C kd_law_476 3 rfl (by decide) (by decide) rfl rfl ?_
      refine zk_goto (tgt := 18) C kd_law_479 (by decide) ?_
      exact zk_lvs (lv' := [(0, .ref b), (3, .int 6)]) [1, 0] rfl (tail _)
    · exact absurd g_241 g_19
    · exact absurd g_20 g_243
    · exact absurd g_17 g_244
  · refine zk_stk (r' := [.int (-1)]) rfl ?_
    refine zk_aload_n C kd_law_245 rfl 2 rfl rfl ?_
    refine zk_aload_n C kd_law_246 rfl 0 rfl rfl ?_
    refine zk_iload_n C kd_law_247 rfl 3 rfl rfl ?_
    refine zk_iconst (v := 1) C kd_law_248 (by decide) rfl ?_
    refine zk_iadd C kd_law_249 rfl ?_
    refine zk_stk (r' := [.int 1, .ref b, .ref (S.1 68), .int (-1)]) (by rw [show (0 : Int32) + 1 = 1 by decide]) ?_
    refine zl_sld C hs (zp_dec rfl) kd_law_250 rfl ?_
    refine zk_stk (r' := [.int (xs 1), .ref (S.1 68), .int (-1)]) rfl ?_
    refine zk_aload_n C kd_law_251 rfl 0 rfl rfl ?_
    refine zk_iload_n C kd_law_252 rfl 3 rfl rfl ?_
    refine zk_iconst (v := 2) C kd_law_253 (by decide) rfl ?_
    refine zk_iadd C kd_law_254 rfl ?_
    refine zk_stk (r' := [.int 2, .ref b, .int (xs 1), .ref (S.1 68), .int (-1)]) (by rw [show (0 : Int32) + 2 = 2 by decide]) ?_
    refine zl_sld C hs (zp_dec rfl) kd_law_255 rfl ?_
    refine zk_stk (r' := [.int (xs 2), .int (xs 1), .ref (S.1 68), .int (-1)]) rfl ?_
    refine zk_aload_n C kd_law_256 rfl 0 rfl rfl ?_
    refine zk_iload_n C kd_law_257 rfl 3 rfl rfl ?_
    refine zk_iconst (v := 3) C kd_law_258 (by decide) rfl ?_
    refine zk_iadd C kd_law_259 rfl ?_
    refine zk_stk (r' := [.int 3, .ref b, .int (xs 2), .int (xs 1), .ref (S.1 68), .int (-1)]) (by rw [show (0 : Int32) + 3 = 3 by decide]) ?_
    refine zl_sld C hs (zp_dec rfl) kd_law_260 rfl ?_
    refine zk_stk (r' := [.int (xs 3), .int (xs 2), .int (xs 1), .ref (S.1 68), .int (-1)]) rfl ?_
    refine zs_callV (k := 68) (rn := { frames := 1, cells := 0, slots := 0, locals := 21 }) (As := [.int (xs 1), .int (xs 2), .int (xs 3)]) (rest := [.int (-1)]) C (zq_put zs_h0 rfl (xs 1) (xs 2) (xs 3)) ku_Mo_put kw2719 kv_Mo_put rfl ⟨by decide, by decide⟩ ⟨by decide, by decide⟩ rfl rfl rfl (Nat.le_of_ble_eq_true rfl) kd_law_261 rfl (c1 := 121) (s1 := 1494679) rfl rfl (fun v w hp => ?_)
    rcases hp with ⟨g_247, g_248, g_249, rfl, rfl⟩ | ⟨g_250, g_251, g_252, g_253, g_254, g_255, rfl, rfl⟩ | ⟨g_256, g_257, g_258, g_259, g_260, g_261, rfl, rfl⟩ | ⟨g_262, g_263, g_264, g_265, g_266, g_267, rfl, rfl⟩ | ⟨g_268, g_269, g_270, g_271, g_272, g_273, g_274, rfl, rfl⟩ | ⟨g_275, g_276, g_277, g_278, g_279, g_280, g_281, rfl, rfl⟩ | ⟨g_282, g_283, g_284, g_285, rfl, rfl⟩ | ⟨g_286, g_287, rfl, rfl⟩ | ⟨g_288, rfl, rfl⟩
    · exact absurd g_249 g_24
    · exact absurd g_251 g_26
    · exact absurd g_257 g_26
    · exact absurd g_263 g_26
    · exact absurd g_269 g_26
    · exact absurd g_276 g_26
    · exact absurd g_285 g_25
    · refine zk_stk (r' := [.int (-1), .int (-1)]) rfl ?_
      refine zk_icmp_eq (tgt := 476) C kd_law_264 (by decide) rfl (fun h_289 => ?_) (fun h_289 => absurd (by decide) h_289)
      refine zk_iinc (v := 6) (lv' := [(3, _), (0, _), (1, _), (2, _)]) C kd_law_476 3 rfl (by decide) (by decide) rfl rfl ?_
      refine zk_goto (tgt := 18) C kd_law_479 (by decide) ?_
      exact zk_lvs (lv' := [(0, .ref b), (3, .int 6)]) [1, 0] rfl (tail _)
    · exact absurd g_23 g_288
  · refine zk_stk (r' := [.int (-1)]) rfl ?_
    refine zk_aload_n C kd_law_245 rfl 2 rfl rfl ?_
    refine zk_aload_n C kd_law_246 rfl 0 rfl rfl ?_
    refine zk_iload_n C kd_law_247 rfl 3 rfl rfl ?_
    refine zk_iconst (v := 1) C kd_law_248 (by decide) rfl ?_
    refine zk_iadd C kd_law_249 rfl ?_
    refine zk_stk (r' := [.int 1, .ref b, .ref (S.1 68), .int (-1)]) (by rw [show (0 : Int32) + 1 = 1 by decide]) ?_
    refine zl_sld C hs (zp_dec rfl) kd_law_250 rfl ?_
    refine zk_stk (r' := [.int (xs 1), .ref (S.1 68), .int (-1)]) rfl ?_
    refine zk_aload_n C kd_law_251 rfl 0 rfl rfl ?_
    refine zk_iload_n C kd_law_252 rfl 3 rfl rfl ?_
    refine zk_iconst (v := 2) C kd_law_253 (by decide) rfl ?_
    refine zk_iadd C kd_law_254 rfl ?_
    refine zk_stk (r' := [.int 2, .ref b, .int (xs 1), .ref (S.1 68), .int (-1)]) (by rw [show (0 : Int32) + 2 = 2 by decide]) ?_
    refine zl_sld C hs (zp_dec rfl) kd_law_255 rfl ?_
    refine zk_stk (r' := [.int (xs 2), .int (xs 1), .ref (S.1 68), .int (-1)]) rfl ?_
    refine zk_aload_n C kd_law_256 rfl 0 rfl rfl ?_
    refine zk_iload_n C kd_law_257 rfl 3 rfl rfl ?_
    refine zk_iconst (v := 3) C kd_law_258 (by decide) rfl ?_
    refine zk_iadd C kd_law_259 rfl ?_
    refine zk_stk (r' := [.int 3, .ref b, .int (xs 2), .int (xs 1), .ref (S.1 68), .int (-1)]) (by rw [show (0 : Int32) + 3 = 3 by decide]) ?_
    refine zl_sld C hs (zp_dec rfl) kd_law_260 rfl ?_
    refine zk_stk (r' := [.int (xs 3), .int (xs 2), .int (xs 1), .ref (S.1 68), .int (-1)]) rfl ?_
    refine zs_callV (k := 68) (rn := { frames := 1, cells := 0, slots := 0, locals := 21 }) (As := [.int (xs 1), .int (xs 2), .int (xs 3)]) (rest := [.int (-1)]) C (zq_put zs_h0 rfl (xs 1) (xs 2) (xs 3)) ku_Mo_put kw2719 kv_Mo_put rfl ⟨by decide, by decide⟩ ⟨by decide, by decide⟩ rfl rfl rfl (Nat.le_of_ble_eq_true rfl) kd_law_261 rfl (c1 := 121) (s1 := 1494679) rfl rfl (fun v w hp => ?_)
    rcases hp with ⟨g_290, g_291, g_292, rfl, rfl⟩ | ⟨g_293, g_294, g_295, g_296, g_297, g_298, rfl, rfl⟩ | ⟨g_299, g_300, g_301, g_302, g_303, g_304, rfl, rfl⟩ | ⟨g_305, g_306, g_307, g_308, g_309, g_310, rfl, rfl⟩ | ⟨g_311, g_312, g_313, g_314, g_315, g_316, g_317, rfl, rfl⟩ | ⟨g_318, g_319, g_320, g_321, g_322, g_323, g_324, rfl, rfl⟩ | ⟨g_325, g_326, g_327, g_328, rfl, rfl⟩ | ⟨g_329, g_330, rfl, rfl⟩ | ⟨g_331, rfl, rfl⟩
    · exact absurd g_290 g_27
    · exact absurd g_293 g_27
    · exact absurd g_299 g_27
    · exact absurd g_305 g_27
    · exact absurd g_311 g_27
    · exact absurd g_318 g_27
    · exact absurd g_325 g_27
    · exact absurd g_329 g_27
    · refine zk_stk (r' := [.int (-1), .int (-1)]) rfl ?_
      refine zk_icmp_eq (tgt := 476) C kd_law_264 (by decide) rfl (fun h_332 => ?_) (fun h_332 => absurd (by decide) h_332)
      refine zk_iinc (v := 6) (lv' := [(3, _), (0, _), (1, _), (2, _)]) C kd_law_476 3 rfl (by decide) (by decide) rfl rfl ?_
      refine zk_goto (tgt := 18) C kd_law_479 (by decide) ?_
      exact zk_lvs (lv' := [(0, .ref b), (3, .int 6)]) [1, 0] rfl (tail _)
set_option maxHeartbeats 4000000 in
set_option maxRecDepth 100000 in
theorem zl_c5 {X : zk_T} {S : zs_T} {P : ze_T} {l : Launch} {D : va_G} {sz0 b : Nat} {xs : Nat → Int32} (C : zk_C X km_law (zs_G S l D sz0) room_1 (ze_E P)) (hs : zl_scr X b 6 xs) (tail : ∀ w : va_W, zk_Ab X w 121 1494679 18 [(0, .ref b), (3, .int 6)] []) : zk_Ab X (zs_W S zs_h0) 121 1494679 269 [(0, .ref b), (1, .ref (S.1 0)), (2, .ref (S.1 68)), (3, .int 0)] [] := by
  refine zk_aload_n C kd_law_269 rfl 1 rfl rfl ?_
  refine zk_aload_n C kd_law_270 rfl 0 rfl rfl ?_
  refine zk_iload_n C kd_law_271 rfl 3 rfl rfl ?_
  refine zk_iconst (v := 1) C kd_law_272 (by decide) rfl ?_
  refine zk_iadd C kd_law_273 rfl ?_
  refine zk_stk (r' := [.int 1, .ref b, .ref (S.1 0)]) (by rw [show (0 : Int32) + 1 = 1 by decide]) ?_
  refine zl_sld C hs (zp_dec rfl) kd_law_274 rfl ?_
  refine zk_stk (r' := [.int (xs 1), .ref (S.1 0)]) rfl ?_
  refine zk_aload_n C kd_law_275 rfl 0 rfl rfl ?_
  refine zk_iload_n C kd_law_276 rfl 3 rfl rfl ?_
  refine zk_iconst (v := 2) C kd_law_277 (by decide) rfl ?_
  refine zk_iadd C kd_law_278 rfl ?_
  refine zk_stk (r' := [.int 2, .ref b, .int (xs 1), .ref (S.1 0)]) (by rw [show (0 : Int32) + 2 = 2 by decide]) ?_
  refine zl_sld C hs (zp_dec rfl) kd_law_279 rfl ?_
  refine zk_stk (r' := [.int (xs 2), .int (xs 1), .ref (S.1 0)]) rfl ?_
  refine zs_callV (k := 0) (rn := { frames := 1, cells := 0, slots := 0, locals := 23 }) (As := [.int (xs 1), .int (xs 2)]) (rest := []) C (zp_get zs_h0 rfl (xs 1) (xs 2) (fun _ => rfl) (fun _ => rfl) (fun _ => rfl)) ku_Pk_get kw1489 kv_Pk_get rfl ⟨by decide, by decide⟩ ⟨by decide, by decide⟩ rfl rfl rfl (Nat.le_of_ble_eq_true rfl) kd_law_280 rfl (c1 := 121) (s1 := 1494679) rfl rfl (fun v w hp => ?_)
  rcases hp with ⟨g_1, g_2, g_3, rfl, rfl⟩ | ⟨g_4, g_5, g_6, g_7, g_8, rfl, rfl⟩ | ⟨g_9, g_10, g_11, g_12, g_13, g_14, rfl, rfl⟩ | ⟨g_15, g_16, g_17, g_18, g_19, g_20, rfl, rfl⟩ | ⟨g_21, g_22, g_23, g_24, rfl, rfl⟩ | ⟨g_25, g_26, g_27, g_28, rfl, rfl⟩ | ⟨g_29, g_30, g_31, g_32, g_33, g_34, rfl, rfl⟩ | ⟨g_35, g_36, g_37, g_38, g_39, g_40, g_41, rfl, rfl⟩ | ⟨g_42, g_43, g_44, g_45, g_46, g_47, g_48, rfl, rfl⟩ | ⟨g_49, g_50, g_51, g_52, g_53, rfl, rfl⟩ | ⟨g_54, g_55, g_56, rfl, rfl⟩ | ⟨g_57, rfl, rfl⟩
  · refine zk_stk (r' := [.int 0]) rfl ?_
    refine zk_aload_n C kd_law_283 rfl 2 rfl rfl ?_
    refine zk_aload_n C kd_law_284 rfl 0 rfl rfl ?_
    refine zk_iload_n C kd_law_285 rfl 3 rfl rfl ?_
    refine zk_iconst (v := 1) C kd_law_286 (by decide) rfl ?_
    refine zk_iadd C kd_law_287 rfl ?_
    refine zk_stk (r' := [.int 1, .ref b, .ref (S.1 68), .int 0]) (by rw [show (0 : Int32) + 1 = 1 by decide]) ?_
    refine zl_sld C hs (zp_dec rfl) kd_law_288 rfl ?_
    refine zk_stk (r' := [.int (xs 1), .ref (S.1 68), .int 0]) rfl ?_
    refine zk_aload_n C kd_law_289 rfl 0 rfl rfl ?_
    refine zk_iload_n C kd_law_290 rfl 3 rfl rfl ?_
    refine zk_iconst (v := 2) C kd_law_291 (by decide) rfl ?_
    refine zk_iadd C kd_law_292 rfl ?_
    refine zk_stk (r' := [.int 2, .ref b, .int (xs 1), .ref (S.1 68), .int 0]) (by rw [show (0 : Int32) + 2 = 2 by decide]) ?_
    refine zl_sld C hs (zp_dec rfl) kd_law_293 rfl ?_
    refine zk_stk (r' := [.int (xs 2), .int (xs 1), .ref (S.1 68), .int 0]) rfl ?_
    refine zs_callV (k := 68) (rn := { frames := 1, cells := 0, slots := 0, locals := 21 }) (As := [.int (xs 1), .int (xs 2)]) (rest := [.int 0]) C (zq_get zs_h0 rfl (xs 1) (xs 2) (fun _ => rfl)) ku_Mo_get kw2732 kv_Mo_get rfl ⟨by decide, by decide⟩ ⟨by decide, by decide⟩ rfl rfl rfl (Nat.le_of_ble_eq_true rfl) kd_law_294 rfl (c1 := 121) (s1 := 1494679) rfl rfl (fun v w hp => ?_)
    rcases hp with ⟨g_58, g_59, g_60, rfl, rfl⟩ | ⟨g_61, g_62, g_63, rfl, rfl⟩ | ⟨g_64, g_65, g_66, rfl, rfl⟩ | ⟨g_67, g_68, g_69, g_70, rfl, rfl⟩ | ⟨g_71, g_72, g_73, g_74, rfl, rfl⟩ | ⟨g_75, rfl, rfl⟩
    · refine zk_stk (r' := [.int 0, .int 0]) rfl ?_
      refine zk_icmp_eq (tgt := 476) C kd_law_297 (by decide) rfl (fun h_76 => ?_) (fun h_76 => absurd (by decide) h_76)
      refine zk_iinc (v := 6) (lv' := [(3, _), (0, _), (1, _), (2, _)]) C kd_law_476 3 rfl (by decide) (by decide) rfl rfl ?_
      refine zk_goto (tgt := 18) C kd_law_479 (by decide) ?_
      exact zk_lvs (lv' := [(0, .ref b), (3, .int 6)]) [1, 0] rfl (tail _)
    · refine zk_stk (r' := [.int 0, .int 0]) rfl ?_
      refine zk_icmp_eq (tgt := 476) C kd_law_297 (by decide) rfl (fun h_77 => ?_) (fun h_77 => absurd (by decide) h_77)
      refine zk_iinc (v := 6) (lv' := [(3, _), (0, _), (1, _), (2, _)]) C kd_law_476 3 rfl (by decide) (by decide) rfl rfl ?_
      refine zk_goto (tgt := 18) C kd_law_479 (by decide) ?_
      exact zk_lvs (lv' := [(0, .ref b), (3, .int 6)]) [1, 0] rfl (tail _)
    · exact absurd g_2 g_65
    · exact absurd g_2 g_68
    · exact absurd g_2 g_72
    · exact absurd g_1 g_75
  · refine zk_stk (r' := [.int 0]) rfl ?_
    refine zk_aload_n C kd_law_283 rfl 2 rfl rfl ?_
    refine zk_aload_n C kd_law_284 rfl 0 rfl rfl ?_
    refine zk_iload_n C kd_law_285 rfl 3 rfl rfl ?_
    refine zk_iconst (v := 1) C kd_law_286 (by decide) rfl ?_
    refine zk_iadd C kd_law_287 rfl ?_
    refine zk_stk (r' := [.int 1, .ref b, .ref (S.1 68), .int 0]) (by rw [show (0 : Int32) + 1 = 1 by decide]) ?_
    refine zl_sld C hs (zp_dec rfl) kd_law_288 rfl ?_
    refine zk_stk (r' := [.int (xs 1), .ref (S.1 68), .int 0]) rfl ?_
    refine zk_aload_n C kd_law_289 rfl 0 rfl rfl ?_
    refine zk_iload_n C kd_law_290 rfl 3 rfl rfl ?_
    refine zk_iconst (v := 2) C kd_law_291 (by decide) rfl ?_
    refine zk_iadd C kd_law_292 rfl ?_
    refine zk_stk (r' := [.int 2, .ref b, .int (xs 1), .ref (S.1 68), .int 0]) (by rw [show (0 : Int32) + 2 = 2 by decide]) ?_
    refine zl_sld C hs (zp_dec rfl) kd_law_293 rfl ?_
    refine zk_stk (r' := [.int (xs 2), .int (xs 1), .ref (S.1 68), .int 0]) rfl ?_
    refine zs_callV (k := 68) (rn := { frames := 1, cells := 0, slots := 0, locals := 21 }) (As := [.int (xs 1), .int (xs 2)]) (rest := [.int 0]) C (zq_get zs_h0 rfl (xs 1) (xs 2) (fun _ => rfl)) ku_Mo_get kw2732 kv_Mo_get rfl ⟨by decide, by decide⟩ ⟨by decide, by decide⟩ rfl rfl rfl (Nat.le_of_ble_eq_true rfl) kd_law_294 rfl (c1 := 121) (s1 := 1494679) rfl rfl (fun v w hp => ?_)
    rcases hp with ⟨g_78, g_79, g_80, rfl, rfl⟩ | ⟨g_81, g_82, g_83, rfl, rfl⟩ | ⟨g_84, g_85, g_86, rfl, rfl⟩ | ⟨g_87, g_88, g_89, g_90, rfl, rfl⟩ | ⟨g_91, g_92, g_93, g_94, rfl, rfl⟩ | ⟨g_95, rfl, rfl⟩
    · refine zk_stk (r' := [.int 0, .int 0]) rfl ?_
      refine zk_icmp_eq (tgt := 476) C kd_law_297 (by decide) rfl (fun h_96 => ?_) (fun h_96 => absurd (by decide) h_96)
      refine zk_iinc (v := 6) (lv' := [(3, _), (0, _), (1, _), (2, _)]) C kd_law_476 3 rfl (by decide) (by decide) rfl rfl ?_
      refine zk_goto (tgt := 18) C kd_law_479 (by decide) ?_
      exact zk_lvs (lv' := [(0, .ref b), (3, .int 6)]) [1, 0] rfl (tail _)
    · refine zk_stk (r' := [.int 0, .int 0]) rfl ?_
      refine zk_icmp_eq (tgt := 476) C kd_law_297 (by decide) rfl (fun h_97 => ?_) (fun h_97 => absurd (by decide) h_97)
      refine zk_iinc (v := 6) (lv' := [(3, _), (0, _), (1, _), (2, _)]) C kd_law_476 3 rfl (by decide) (by decide) rfl rfl ?_
      refine zk_goto (tgt := 18) C kd_law_479 (by decide) ?_
      exact zk_lvs (lv' := [(0, .ref b), (3, .int 6)]) [1, 0] rfl (tail _)
    · exact absurd g_5 g_85
    · exact absurd g_5 g_88
    · exact absurd g_5 g_92
    · exact absurd g_4 g_95
  · refine zk_stk (r' := [.int 0]) rfl ?_
    refine zk_aload_n C kd_law_283 rfl 2 rfl rfl ?_
    refine zk_aload_n C kd_law_284 rfl 0 rfl rfl ?_
    refine zk_iload_n C kd_law_285 rfl 3 rfl rfl ?_
    refine zk_iconst (v := 1) C kd_law_286 (by decide) rfl ?_
    refine zk_iadd C kd_law_287 rfl ?_
    refine zk_stk (r' := [.int 1, .ref b, .ref (S.1 68), .int 0]) (by rw [show (0 : Int32) + 1 = 1 by decide]) ?_
    refine zl_sld C hs (zp_dec rfl) kd_law_288 rfl ?_
    refine zk_stk (r' := [.int (xs 1), .ref (S.1 68), .int 0]) rfl ?_
    refine zk_aload_n C kd_law_289 rfl 0 rfl rfl ?_
    refine zk_iload_n C kd_law_290 rfl 3 rfl rfl ?_
    refine zk_iconst (v := 2) C kd_law_291 (by decide) rfl ?_
    refine zk_iadd C kd_law_292 rfl ?_
    refine zk_stk (r' := [.int 2, .ref b, .int (xs 1), .ref (S.1 68), .int 0]) (by rw [show (0 : Int32) + 2 = 2 by decide]) ?_
    refine zl_sld C hs (zp_dec rfl) kd_law_293 rfl ?_
    refine zk_stk (r' := [.int (xs 2), .int (xs 1), .ref (S.1 68), .int 0]) rfl ?_
    refine zs_callV (k := 68) (rn := { frames := 1, cells := 0, slots := 0, locals := 21 }) (As := [.int (xs 1), .int (xs 2)]) (rest := [.int 0]) C (zq_get zs_h0 rfl (xs 1) (xs 2) (fun _ => rfl)) ku_Mo_get kw2732 kv_Mo_get rfl ⟨by decide, by decide⟩ ⟨by decide, by decide⟩ rfl rfl rfl (Nat.le_of_ble_eq_true rfl) kd_law_294 rfl (c1 := 121) (s1 := 1494679) rfl rfl (fun v w hp => ?_)
    rcases hp with ⟨g_98, g_99, g_100, rfl, rfl⟩ | ⟨g_101, g_102, g_103, rfl, rfl⟩ | ⟨g_104, g_105, g_106, rfl, rfl⟩ | ⟨g_107, g_108, g_109, g_110, rfl, rfl⟩ | ⟨g_111, g_112, g_113, g_114, rfl, rfl⟩ | ⟨g_115, rfl, rfl⟩
    · refine zk_stk (r' := [.int 0, .int 0]) rfl ?_
      refine zk_icmp_eq (tgt := 476) C kd_law_297 (by decide) rfl (fun h_116 => ?_) (fun h_116 => absurd (by decide) h_116)
      refine zk_iinc (v := 6) (lv' := [(3, _), (0, _), (1, _), (2, _)]) C kd_law_476 3 rfl (by decide) (by decide) rfl rfl ?_
      refine zk_goto (tgt := 18) C kd_law_479 (by decide) ?_
      exact zk_lvs (lv' := [(0, .ref b), (3, .int 6)]) [1, 0] rfl (tail _)
    · refine zk_stk (r' := [.int 0, .int 0]) rfl ?_
      refine zk_icmp_eq (tgt := 476) C kd_law_297 (by decide) rfl (fun h_117 => ?_) (fun h_117 => absurd (by decide) h_117)
      refine zk_iinc (v := 6) (lv' := [(3, _), (0, _), (1, _), (2, _)]) C kd_law_476 3 rfl (by decide) (by decide) rfl rfl ?_
      refine zk_goto (tgt := 18) C kd_law_479 (by decide) ?_
      exact zk_lvs (lv' := [(0, .ref b), (3, .int 6)]) [1, 0] rfl (tail _)
    · exact absurd g_10 g_105
    · exact absurd g_10 g_108
    · exact absurd g_10 g_112
    · exact absurd g_9 g_115
  · refine zk_stk (r' := [.int 0]) rfl ?_
    refine zk_aload_n C kd_law_283 rfl 2 rfl rfl ?_
    refine zk_aload_n C kd_law_284 rfl 0 rfl rfl ?_
    refine zk_iload_n C kd_law_285 rfl 3 rfl rfl ?_
    refine zk_iconst (v := 1) C kd_law_286 (by decide) rfl ?_
    refine zk_iadd C kd_law_287 rfl ?_
    refine zk_stk (r' := [.int 1, .ref b, .ref (S.1 68), .int 0]) (by rw [show (0 : Int32) + 1 = 1 by decide]) ?_
    refine zl_sld C hs (zp_dec rfl) kd_law_288 rfl ?_
    refine zk_stk (r' := [.int (xs 1), .ref (S.1 68), .int 0]) rfl ?_
    refine zk_aload_n C kd_law_289 rfl 0 rfl rfl ?_
    refine zk_iload_n C kd_law_290 rfl 3 rfl rfl ?_
    refine zk_iconst (v := 2) C kd_law_291 (by decide) rfl ?_
    refine zk_iadd C kd_law_292 rfl ?_
    refine zk_stk (r' := [.int 2, .ref b, .int (xs 1), .ref (S.1 68), .int 0]) (by rw [show (0 : Int32) + 2 = 2 by decide]) ?_
    refine zl_sld C hs (zp_dec rfl) kd_law_293 rfl ?_
    refine zk_stk (r' := [.int (xs 2), .int (xs 1), .ref (S.1 68), .int 0]) rfl ?_
    refine zs_callV (k := 68) (rn := { frames := 1, cells := 0, slots := 0, locals := 21 }) (As := [.int (xs 1), .int (xs 2)]) (rest := [.int 0]) C (zq_get zs_h0 rfl (xs 1) (xs 2) (fun _ => rfl)) ku_Mo_get kw2732 kv_Mo_get rfl ⟨by decide, by decide⟩ ⟨by decide, by decide⟩ rfl rfl rfl (Nat.le_of_ble_eq_true rfl) kd_law_294 rfl (c1 := 121) (s1 := 1494679) rfl rfl (fun v w hp => ?_)
    rcases hp with ⟨g_118, g_119, g_120, rfl, rfl⟩ | ⟨g_121, g_122, g_123, rfl, rfl⟩ | ⟨g_124, g_125, g_126, rfl, rfl⟩ | ⟨g_127, g_128, g_129, g_130, rfl, rfl⟩ | ⟨g_131, g_132, g_133, g_134, rfl, rfl⟩ | ⟨g_135, rfl, rfl⟩
    · refine zk_stk (r' := [.int 0, .int 0]) rfl ?_
      refine zk_icmp_eq (tgt := 476) C kd_law_297 (by decide) rfl (fun h_136 => ?_) (fun h_136 => absurd (by decide) h_136)
      refine zk_iinc (v := 6) (lv' := [(3, _), (0, _), (1, _), (2, _)]) C kd_law_476 3 rfl (by decide) (by decide) rfl rfl ?_
      refine zk_goto (tgt := 18) C kd_law_479 (by decide) ?_
      exact zk_lvs (lv' := [(0, .ref b), (3, .int 6)]) [1, 0] rfl (tail _)
    · refine zk_stk (r' := [.int 0, .int 0]) rfl ?_
      refine zk_icmp_eq (tgt := 476) C kd_law_297 (by decide) rfl (fun h_137 => ?_) (fun h_137 => absurd (by decide) h_137)
      refine zk_iinc (v := 6) (lv' := [(3, _), (0, _), (1, _), (2, _)]) C kd_law_476 3 rfl (by decide) (by decide) rfl rfl ?_
      refine zk_goto (tgt := 18) C kd_law_479 (by decide) ?_
      exact zk_lvs (lv' := [(0, .ref b), (3, .int 6)]) [1, 0] rfl (tail _)
    · exact absurd g_16 g_125
    · exact absurd g_16 g_128
    · exact absurd g_16 g_132
    · exact absurd g_15 g_135
  · refine zk_stk (r' := [.int 0]) rfl ?_
    refine zk_aload_n C kd_law_283 rfl 2 rfl rfl ?_
    refine zk_aload_n C kd_law_284 rfl 0 rfl rfl ?_
    refine zk_iload_n C kd_law_285 rfl 3 rfl rfl ?_
    refine zk_iconst (v := 1) C kd_law_286 (by decide) rfl ?_
    refine zk_iadd C kd_law_287 rfl ?_
    refine zk_stk (r' := [.int 1, .ref b, .ref (S.1 68), .int 0]) (by rw [show (0 : Int32) + 1 = 1 by decide]) ?_
    refine zl_sld C hs (zp_dec rfl) kd_law_288 rfl ?_
    refine zk_stk (r' := [.int (xs 1), .ref (S.1 68), .int 0]) rfl ?_
    refine zk_aload_n C kd_law_289 rfl 0 rfl rfl ?_
    refine zk_iload_n C kd_law_290 rfl 3 rfl rfl ?_
    refine zk_iconst (v := 2) C kd_law_291 (by decide) rfl ?_
    refine zk_iadd C kd_law_292 rfl ?_
    refine zk_stk (r' := [.int 2, .ref b, .int (xs 1), .ref (S.1 68), .int 0]) (by rw [show (0 : Int32) + 2 = 2 by decide]) ?_
    refine zl_sld C hs (zp_dec rfl) kd_law_293 rfl ?_
    refine zk_stk (r' := [.int (xs 2), .int (xs 1), .ref (S.1 68), .int 0]) rfl ?_
    refine zs_callV (k := 68) (rn := { frames := 1, cells := 0, slots := 0, locals := 21 }) (As := [.int (xs 1), .int (xs 2)]) (rest := [.int 0]) C (zq_get zs_h0 rfl (xs 1) (xs 2) (fun _ => rfl)) ku_Mo_get kw2732 kv_Mo_get rfl ⟨by decide, by decide⟩ ⟨by decide, by decide⟩ rfl rfl rfl (Nat.le_of_ble_eq_true rfl) kd_law_294 rfl (c1 := 121) (s1 := 1494679) rfl rfl (fun v w hp => ?_)
    rcases hp with ⟨g_138, g_139, g_140, rfl, rfl⟩ | ⟨g_141, g_142, g_143, rfl, rfl⟩ | ⟨g_144, g_145, g_146, rfl, rfl⟩ | ⟨g_147, g_148, g_149, g_150, rfl, rfl⟩ | ⟨g_151, g_152, g_153, g_154, rfl, rfl⟩ | ⟨g_155, rfl, rfl⟩
    · refine zk_stk (r' := [.int 0, .int 0]) rfl ?_
      refine zk_icmp_eq (tgt := 476) C kd_law_297 (by decide) rfl (fun h_156 => ?_) (fun h_156 => absurd (by decide) h_156)
      refine zk_iinc (v := 6) (lv' := [(3, _), (0, _), (1, _), (2, _)]) C kd_law_476 3 rfl (by decide) (by decide) rfl rfl ?_
      refine zk_goto (tgt := 18) C kd_law_479 (by decide) ?_
      exact zk_lvs (lv' := [(0, .ref b), (3, .int 6)]) [1, 0] rfl (tail _)
    · refine zk_stk (r' := [.int 0, .int 0]) rfl ?_
      refine zk_icmp_eq (tgt := 476) C kd_law_297 (by decide) rfl (fun h_157 => ?_) (fun h_157 => absurd (by decide) h_157)
      refine zk_iinc (v := 6) (lv' := [(3, _), (0, _), (1, _), (2, _)]) C kd_law_476 3 rfl (by decide) (by decide) rfl rfl ?_
      refine zk_goto (tgt := 18) C kd_law_479 (by decide) ?_
      exact zk_lvs (lv' := [(0, .ref b), (3, .int 6)]) [1, 0] rfl (tail _)
    · exact absurd g_22 g_145
    · exact absurd g_22 g_148
    · exact absurd g_22 g_152
    · exact absurd g_21 g_155
  · refine zk_stk (r' := [.int 0]) rfl ?_
    refine zk_aload_n C kd_law_283 rfl 2 rfl rfl ?_
    refine zk_aload_n C kd_law_284 rfl 0 rfl rfl ?_
    refine zk_iload_n C kd_law_285 rfl 3 rfl rfl ?_
    refine zk_iconst (v := 1) C kd_law_286 (by decide) rfl ?_
    refine zk_iadd C kd_law_287 rfl ?_
    refine zk_stk (r' := [.int 1, .ref b, .ref (S.1 68), .int 0]) (by rw [show (0 : Int32) + 1 = 1 by decide]) ?_
    refine zl_sld C hs (zp_dec rfl) kd_law_288 rfl ?_
    refine zk_stk (r' := [.int (xs 1), .ref (S.1 68), .int 0]) rfl ?_
    refine zk_aload_n C kd_law_289 rfl 0 rfl rfl ?_
    refine zk_iload_n C kd_law_290 rfl 3 rfl rfl ?_
    refine zk_iconst (v := 2) C kd_law_291 (by decide) rfl ?_
    refine zk_iadd C kd_law_292 rfl ?_
    refine zk_stk (r' := [.int 2, .ref b, .int (xs 1), .ref (S.1 68), .int 0]) (by rw [show (0 : Int32) + 2 = 2 by decide]) ?_
    refine zl_sld C hs (zp_dec rfl) kd_law_293 rfl ?_
    refine zk_stk (r' := [.int (xs 2), .int (xs 1), .ref (S.1 68), .int 0]) rfl ?_
    refine zs_callV (k := 68) (rn := { frames := 1, cells := 0, slots := 0, locals := 21 }) (As := [.int (xs 1), .int (xs 2)]) (rest := [.int 0]) C (zq_get zs_h0 rfl (xs 1) (xs 2) (fun _ => rfl)) ku_Mo_get kw2732 kv_Mo_get rfl ⟨by decide, by decide⟩ ⟨by decide, by decide⟩ rfl rfl rfl (Nat.le_of_ble_eq_true rfl) kd_law_294 rfl (c1 := 121) (s1 := 1494679) rfl rfl (fun v w hp => ?_)
    rcases hp with ⟨g_158, g_159, g_160, rfl, rfl⟩ | ⟨g_161, g_162, g_163, rfl, rfl⟩ | ⟨g_164, g_165, g_166, rfl, rfl⟩ | ⟨g_167, g_168, g_169, g_170, rfl, rfl⟩ | ⟨g_171, g_172, g_173, g_174, rfl, rfl⟩ | ⟨g_175, rfl, rfl⟩
    · exact absurd g_159 g_26
    · exact absurd g_162 g_26
    · exact absurd g_27 g_166
    · refine zk_stk (r' := [.int 0, .int 0]) rfl ?_
      refine zk_icmp_eq (tgt := 476) C kd_law_297 (by decide) rfl (fun h_176 => ?_) (fun h_176 => absurd (by decide) h_176)
      refine zk_iinc (v := 6) (lv' := [(3, _), (0, _), (1, _), (2, _)]) C kd_law_476 3 rfl (by decide) (by decide) rfl rfl ?_
      refine zk_goto (tgt := 18) C kd_law_479 (by decide) ?_
      exact zk_lvs (lv' := [(0, .ref b), (3, .int 6)]) [1, 0] rfl (tail _)
    · refine zk_stk (r' := [.int 0, .int 0]) rfl ?_
      refine zk_icmp_eq (tgt := 476) C kd_law_297 (by decide) rfl (fun h_177 => ?_) (fun h_177 => absurd (by decide) h_177)
      refine zk_iinc (v := 6) (lv' := [(3, _), (0, _), (1, _), (2, _)]) C kd_law_476 3 rfl (by decide) (by decide) rfl rfl ?_
      refine zk_goto (tgt := 18) C kd_law_479 (by decide) ?_
      exact zk_lvs (lv' := [(0, .ref b), (3, .int 6)]) [1, 0] rfl (tail _)
    · exact absurd g_25 g_175
  · refine zk_stk (r' := [.int 0]) rfl ?_
    refine zk_aload_n C kd_law_283 rfl 2 rfl rfl ?_
    refine zk_aload_n C kd_law_284 rfl 0 rfl rfl ?_
    refine zk_iload_n C kd_law_285 rfl 3 rfl rfl ?_
    refine zk_iconst (v := 1) C kd_law_286 (by decide) rfl ?_
    refine zk_iadd C kd_law_287 rfl ?_
    refine zk_stk (r' := [.int 1, .ref b, .ref (S.1 68), .int 0]) (by rw [show (0 : Int32) + 1 = 1 by decide]) ?_
    refine zl_sld C hs (zp_dec rfl) kd_law_288 rfl ?_
    refine zk_stk (r' := [.int (xs 1), .ref (S.1 68), .int 0]) rfl ?_
    refine zk_aload_n C kd_law_289 rfl 0 rfl rfl ?_
    refine zk_iload_n C kd_law_290 rfl 3 rfl rfl ?_
    refine zk_iconst (v := 2) C kd_law_291 (by decide) rfl ?_
    refine zk_iadd C kd_law_292 rfl ?_
    refine zk_stk (r' := [.int 2, .ref b, .int (xs 1), .ref (S.1 68), .int 0]) (by rw [show (0 : Int32) + 2 = 2 by decide]) ?_
    refine zl_sld C hs (zp_dec rfl) kd_law_293 rfl ?_
    refine zk_stk (r' := [.int (xs 2), .int (xs 1), .ref (S.1 68), .int 0]) rfl ?_
    refine zs_callV (k := 68) (rn := { frames := 1, cells := 0, slots := 0, locals := 21 }) (As := [.int (xs 1), .int (xs 2)]) (rest := [.int 0]) C (zq_get zs_h0 rfl (xs 1) (xs 2) (fun _ => rfl)) ku_Mo_get kw2732 kv_Mo_get rfl ⟨by decide, by decide⟩ ⟨by decide, by decide⟩ rfl rfl rfl (Nat.le_of_ble_eq_true rfl) kd_law_294 rfl (c1 := 121) (s1 := 1494679) rfl rfl (fun v w hp => ?_)
    rcases hp with ⟨g_178, g_179, g_180, rfl, rfl⟩ | ⟨g_181, g_182, g_183, rfl, rfl⟩ | ⟨g_184, g_185, g_186, rfl, rfl⟩ | ⟨g_187, g_188, g_189, g_190, rfl, rfl⟩ | ⟨g_191, g_192, g_193, g_194, rfl, rfl⟩ | ⟨g_195, rfl, rfl⟩
    · exact absurd g_179 g_30
    · exact absurd g_182 g_30
    · exact absurd g_31 g_186
    · refine zk_stk (r' := [.int 0, .int 0]) rfl ?_
      refine zk_icmp_eq (tgt := 476) C kd_law_297 (by decide) rfl (fun h_196 => ?_) (fun h_196 => absurd (by decide) h_196)
      refine zk_iinc (v := 6) (lv' := [(3, _), (0, _), (1, _), (2, _)]) C kd_law_476 3 rfl (by decide) (by decide) rfl rfl ?_
      refine zk_goto (tgt := 18) C kd_law_479 (by decide) ?_
      exact zk_lvs (lv' := [(0, .ref b), (3, .int 6)]) [1, 0] rfl (tail _)
    · refine zk_stk (r' := [.int 0, .int 0]) rfl ?_
      refine zk_icmp_eq (tgt := 476) C kd_law_297 (by decide) rfl (fun h_197 => ?_) (fun h_197 => absurd (by decide) h_197)
      refine zk_iinc (v := 6) (lv' := [(3, _), (0, _), (1, _), (2, _)]) C kd_law_476 3 rfl (by decide) (by decide) rfl rfl ?_
      refine zk_goto (tgt := 18) C kd_law_479 (by decide) ?_
      exact zk_lvs (lv' := [(0, .ref b), (3, .int 6)]) [1, 0] rfl (tail _)
    · exact absurd g_29 g_195
  · refine zk_stk (r' := [.int 0]) rfl ?_
    refine zk_aload_n C kd_law_283 rfl 2 rfl rfl ?_
    refine zk_aload_n C kd_law_284 rfl 0 rfl rfl ?_
    refine zk_iload_n C kd_law_285 rfl 3 rfl rfl ?_
    refine zk_iconst (v := 1) C kd_law_286 (by decide) rfl ?_
    refine zk_iadd C kd_law_287 rfl ?_
    refine zk_stk (r' := [.int 1, .ref b, .ref (S.1 68), .int 0]) (by rw [show (0 : Int32) + 1 = 1 by decide]) ?_
    refine zl_sld C hs (zp_dec rfl) kd_law_288 rfl ?_
    refine zk_stk (r' := [.int (xs 1), .ref (S.1 68), .int 0]) rfl ?_
    refine zk_aload_n C kd_law_289 rfl 0 rfl rfl ?_
    refine zk_iload_n C kd_law_290 rfl 3 rfl rfl ?_
    refine zk_iconst (v := 2) C kd_law_291 (by decide) rfl ?_
    refine zk_iadd C kd_law_292 rfl ?_
    refine zk_stk (r' := [.int 2, .ref b, .int (xs 1), .ref (S.1 68), .int 0]) (by rw [show (0 : Int32) + 2 = 2 by decide]) ?_
    refine zl_sld C hs (zp_dec rfl) kd_law_293 rfl ?_
    refine zk_stk (r' := [.int (xs 2), .int (xs 1), .ref (S.1 68), .int 0]) rfl ?_
    refine zs_callV (k := 68) (rn := { frames := 1, cells := 0, slots := 0, locals := 21 }) (As := [.int (xs 1), .int (xs 2)]) (rest := [.int 0]) C (zq_get zs_h0 rfl (xs 1) (xs 2) (fun _ => rfl)) ku_Mo_get kw2732 kv_Mo_get rfl ⟨by decide, by decide⟩ ⟨by decide, by decide⟩ rfl rfl rfl (Nat.le_of_ble_eq_true rfl) kd_law_294 rfl (c1 := 121) (s1 := 1494679) rfl rfl (fun v w hp => ?_)
    rcases hp with ⟨g_198, g_199, g_200, rfl, rfl⟩ | ⟨g_201, g_202, g_203, rfl, rfl⟩ | ⟨g_204, g_205, g_206, rfl, rfl⟩ | ⟨g_207, g_208, g_209, g_210, rfl, rfl⟩ | ⟨g_211, g_212, g_213, g_214, rfl, rfl⟩ | ⟨g_215, rfl, rfl⟩
    · exact absurd g_199 g_36
    · exact absurd g_202 g_36
    · exact absurd g_37 g_206
    · refine zk_stk (r' := [.int 0, .int 0]) rfl ?_
      refine zk_icmp_eq (tgt := 476) C kd_law_297 (by decide) rfl (fun h_216 => ?_) (fun h_216 => absurd (by decide) h_216)
      refine zk_iinc (v := 6) (lv' := [(3, _), (0, _), (1, _), (2, _)]) C kd_law_476 3 rfl (by decide) (by decide) rfl rfl ?_
      refine zk_goto (tgt := 18) C kd_law_479 (by decide) ?_
      exact zk_lvs (lv' := [(0, .ref b), (3, .int 6)]) [1, 0] rfl (tail _)
    · refine zk_stk (r' := [.int 0, .int 0]) rfl ?_
      refine zk_icmp_eq (tgt := 476) C kd_law_297 (by decide) rfl (fun h_217 => ?_) (fun h_217 => absurd (by decide) h_217)
      refine zk_iinc (v := 6) (lv' := [(3, _), (0, _), (1, _), (2, _)]) C kd_law_476 3 rfl (by decide) (by decide) rfl rfl ?_
      refine zk_goto (tgt := 18) C kd_law_479 (by decide) ?_
      exact zk_lvs (lv' := [(0, .ref b), (3, .int 6)]) [1, 0] rfl (tail _)
    · exact absurd g_35 g_215
  · refine zk_stk (r' := [.int 0]) rfl ?_
    refine zk_aload_n C kd_law_283 rfl 2 rfl rfl ?_
    refine zk_aload_n C kd_law_284 rfl 0 rfl rfl ?_
    refine zk_iload_n C kd_law_285 rfl 3 rfl rfl ?_
    refine zk_iconst (v := 1) C kd_law_286 (by decide) rfl ?_
    refine zk_iadd C kd_law_287 rfl ?_
    refine zk_stk (r' := [.int 1, .ref b, .ref (S.1 68), .int 0]) (by rw [show (0 : Int32) + 1 = 1 by decide]) ?_
    refine zl_sld C hs (zp_dec rfl) kd_law_288 rfl ?_
    refine zk_stk (r' := [.int (xs 1), .ref (S.1 68), .int 0]) rfl ?_
    refine zk_aload_n C kd_law_289 rfl 0 rfl rfl ?_
    refine zk_iload_n C kd_law_290 rfl 3 rfl rfl ?_
    refine zk_iconst (v := 2) C kd_law_291 (by decide) rfl ?_
    refine zk_iadd C kd_law_292 rfl ?_
    refine zk_stk (r' := [.int 2, .ref b, .int (xs 1), .ref (S.1 68), .int 0]) (by rw [show (0 : Int32) + 2 = 2 by decide]) ?_
    refine zl_sld C hs (zp_dec rfl) kd_law_293 rfl ?_
    refine zk_stk (r' := [.int (xs 2), .int (xs 1), .ref (S.1 68), .int 0]) rfl ?_
    refine zs_callV (k := 68) (rn := { frames := 1, cells := 0, slots := 0, locals := 21 }) (As := [.int (xs 1), .int (xs 2)]) (rest := [.int 0]) C (zq_get zs_h0 rfl (xs 1) (xs 2) (fun _ => rfl)) ku_Mo_get kw2732 kv_Mo_get rfl ⟨by decide, by decide⟩ ⟨by decide, by decide⟩ rfl rfl rfl (Nat.le_of_ble_eq_true rfl) kd_law_294 rfl (c1 := 121) (s1 := 1494679) rfl rfl (fun v w hp => ?_)
    rcases hp with ⟨g_218, g_219, g_220, rfl, rfl⟩ | ⟨g_221, g_222, g_223, rfl, rfl⟩ | ⟨g_224, g_225, g_226, rfl, rfl⟩ | ⟨g_227, g_228, g_229, g_230, rfl, rfl⟩ | ⟨g_231, g_232, g_233, g_234, rfl, rfl⟩ | ⟨g_235, rfl, rfl⟩
    · exact absurd g_219 g_43
    · exact absurd g_222 g_43
    · exact absurd g_44 g_226
    · refine zk_stk (r' := [.int 0, .int 0]) rfl ?_
      refine zk_icmp_eq (tgt := 476) C kd_law_297 (by decide) rfl (fun h_236 => ?_) (fun h_236 => absurd (by decide) h_236)
      refine zk_iinc (v := 6) (lv' := [(3, _), (0, _), (1, _), (2, _)]) C kd_law_476 3 rfl (by decide) (by decide) rfl rfl ?_
      refine zk_goto (tgt := 18) C kd_law_479 (by decide) ?_
      exact zk_lvs (lv' := [(0, .ref b), (3, .int 6)]) [1, 0] rfl (tail _)
    · refine zk_stk (r' := [.int 0, .int 0]) rfl ?_
      refine zk_icmp_eq (tgt := 476) C kd_law_297 (by decide) rfl (fun h_237 => ?_) (fun h_237 => absurd (by decide) h_237)
      refine zk_iinc (v := 6) (lv' := [(3, _), (0, _), (1, _), (2, _)]) C kd_law_476 3 rfl (by decide) (by decide) rfl rfl ?_
      refine zk_goto (tgt := 18) C kd_law_479 (by decide) ?_
      exact zk_lvs (lv' := [(0, .ref b), (3, .int 6)]) [1, 0] rfl (tail _)
    · exact absurd g_42 g_235
  · refine zk_stk (r' := [.int 0]) rfl ?_
    refine zk_aload_n C kd_law_283 rfl 2 rfl rfl ?_
    refine zk_aload_n C kd_law_284 rfl 0 rfl rfl ?_
    refine zk_iload_n C kd_law_285 rfl 3 rfl rfl ?_
    refine zk_iconst (v := 1) C kd_law_286 (by decide) rfl ?_
    refine zk_iadd C kd_law_287 rfl ?_
    refine zk_stk (r' := [.int 1, .ref b, .ref (S.1 68), .int 0]) (by rw [show (0 : Int32) + 1 = 1 by decide]) ?_
    refine zl_sld C hs (zp_dec rfl) kd_law_288 rfl ?_
    refine zk_stk (r' := [.int (xs 1), .ref (S.1 68), .int 0]) rfl ?_
    refine zk_aload_n C kd_law_289 rfl 0 rfl rfl ?_
    refine zk_iload_n C kd_law_290 rfl 3 rfl rfl ?_
    refine zk_iconst (v := 2) C kd_law_291 (by decide) rfl ?_
    refine zk_iadd C kd_law_292 rfl ?_
    refine zk_stk (r' := [.int 2, .ref b, .int (xs 1), .ref (S.1 68), .int 0]) (by rw [show (0 : Int32) + 2 = 2 by decide]) ?_
    refine zl_sld C hs (zp_dec rfl) kd_law_293 rfl ?_
    refine zk_stk (r' := [.int (xs 2), .int (xs 1), .ref (S.1 68), .int 0]) rfl ?_
    refine zs_callV (k := 68) (rn := { frames := 1, cells := 0, slots := 0, locals := 21 }) (As := [.int (xs 1), .int (xs 2)]) (rest := [.int 0]) C (zq_get zs_h0 rfl (xs 1) (xs 2) (fun _ => rfl)) ku_Mo_get kw2732 kv_Mo_get rfl ⟨by decide, by decide⟩ ⟨by decide, by decide⟩ rfl rfl rfl (Nat.le_of_ble_eq_true rfl) kd_law_294 rfl (c1 := 121) (s1 := 1494679) rfl rfl (fun v w hp => ?_)
    rcases hp with ⟨g_238, g_239, g_240, rfl, rfl⟩ | ⟨g_241, g_242, g_243, rfl, rfl⟩ | ⟨g_244, g_245, g_246, rfl, rfl⟩ | ⟨g_247, g_248, g_249, g_250, rfl, rfl⟩ | ⟨g_251, g_252, g_253, g_254, rfl, rfl⟩ | ⟨g_255, rfl, rfl⟩
    · exact absurd g_239 g_50
    · exact absurd g_242 g_50
    · exact absurd g_51 g_246
    · refine zk_stk (r' := [.int 0, .int 0]) rfl ?_
      refine zk_icmp_eq (tgt := 476) C kd_law_297 (by decide) rfl (fun h_256 => ?_) (fun h_256 => absurd (by decide) h_256)
      refine zk_iinc (v := 6) (lv' := [(3, _), (0, _), (1, _), (2, _)]) C kd_law_476 3 rfl (by decide) (by decide) rfl rfl ?_
      refine zk_goto (tgt := 18) C kd_law_479 (by decide) ?_
      exact zk_lvs (lv' := [(0, .ref b), (3, .int 6)]) [1, 0] rfl (tail _)
    · refine zk_stk (r' := [.int 0, .int 0]) rfl ?_
      refine zk_icmp_eq (tgt := 476) C kd_law_297 (by decide) rfl (fun h_257 => ?_) (fun h_257 => absurd (by decide) h_257)
      refine zk_iinc (v := 6) (lv' := [(3, _), (0, _), (1, _), (2, _)]) C kd_law_476 3 rfl (by decide) (by decide) rfl rfl ?_
      refine zk_goto (tgt := 18) C kd_law_479 (by decide) ?_
      exact zk_lvs (lv' := [(0, .ref b), (3, .int 6)]) [1, 0] rfl (tail _)
    · exact absurd g_49 g_255
  · refine zk_stk (r' := [.int (-5)]) rfl ?_
    refine zk_aload_n C kd_law_283 rfl 2 rfl rfl ?_
    refine zk_aload_n C kd_law_284 rfl 0 rfl rfl ?_
    refine zk_iload_n C kd_law_285 rfl 3 rfl rfl ?_
    refine zk_iconst (v := 1) C kd_law_286 (by decide) rfl ?_
    refine zk_iadd C kd_law_287 rfl ?_
    refine zk_stk (r' := [.int 1, .ref b, .ref (S.1 68), .int (-5)]) (by rw [show (0 : Int32) + 1 = 1 by decide]) ?_
    refine zl_sld C hs (zp_dec rfl) kd_law_288 rfl ?_
    refine zk_stk (r' := [.int (xs 1), .ref (S.1 68), .int (-5)]) rfl ?_
    refine zk_aload_n C kd_law_289 rfl 0 rfl rfl ?_
    refine zk_iload_n C kd_law_290 rfl 3 rfl rfl ?_
    refine zk_iconst (v := 2) C kd_law_291 (by decide) rfl ?_
    refine zk_iadd C kd_law_292 rfl ?_
    refine zk_stk (r' := [.int 2, .ref b, .int (xs 1), .ref (S.1 68), .int (-5)]) (by rw [show (0 : Int32) + 2 = 2 by decide]) ?_
    refine zl_sld C hs (zp_dec rfl) kd_law_293 rfl ?_
    refine zk_stk (r' := [.int (xs 2), .int (xs 1), .ref (S.1 68), .int (-5)]) rfl ?_
    refine zs_callV (k := 68) (rn := { frames := 1, cells := 0, slots := 0, locals := 21 }) (As := [.int (xs 1), .int (xs 2)]) (rest := [.int (-5)]) C (zq_get zs_h0 rfl (xs 1) (xs 2) (fun _ => rfl)) ku_Mo_get kw2732 kv_Mo_get rfl ⟨by decide, by decide⟩ ⟨by decide, by decide⟩ rfl rfl rfl (Nat.le_of_ble_eq_true rfl) kd_law_294 rfl (c1 := 121) (s1 := 1494679) rfl rfl (fun v w hp => ?_)
    rcases hp with ⟨g_258, g_259, g_260, rfl, rfl⟩ | ⟨g_261, g_262, g_263, rfl, rfl⟩ | ⟨g_264, g_265, g_266, rfl, rfl⟩ | ⟨g_267, g_268, g_269, g_270, rfl, rfl⟩ | ⟨g_271, g_272, g_273, g_274, rfl, rfl⟩ | ⟨g_275, rfl, rfl⟩
    · exact absurd g_259 g_55
    · exact absurd g_262 g_55
    · refine zk_stk (r' := [.int (-5), .int (-5)]) rfl ?_
      refine zk_icmp_eq (tgt := 476) C kd_law_297 (by decide) rfl (fun h_276 => ?_) (fun h_276 => absurd (by decide) h_276)
      refine zk_iinc (v := 6) (lv' := [(3, _), (0, _), (1, _), (2, _)]) C kd_law_476 3 rfl (by decide) (by decide) rfl rfl ?_
      refine zk_goto (tgt := 18) C kd_law_479 (by decide) ?_
      exact zk_lvs (lv' := [(0, .ref b), (3, .int 6)]) [1, 0] rfl (tail _)
    · exact absurd g_269 g_56
    · exact absurd g_273 g_56
    · exact absurd g_54 g_275
  · refine zk_stk (r' := [.int (-1)]) rfl ?_
    refine zk_aload_n C kd_law_283 rfl 2 rfl rfl ?_
    refine zk_aload_n C kd_law_284 rfl 0 rfl rfl ?_
    refine zk_iload_n C kd_law_285 rfl 3 rfl rfl ?_
    refine zk_iconst (v := 1) C kd_law_286 (by decide) rfl ?_
    refine zk_iadd C kd_law_287 rfl ?_
    refine zk_stk (r' := [.int 1, .ref b, .ref (S.1 68), .int (-1)]) (by rw [show (0 : Int32) + 1 = 1 by decide]) ?_
    refine zl_sld C hs (zp_dec rfl) kd_law_288 rfl ?_
    refine zk_stk (r' := [.int (xs 1), .ref (S.1 68), .int (-1)]) rfl ?_
    refine zk_aload_n C kd_law_289 rfl 0 rfl rfl ?_
    refine zk_iload_n C kd_law_290 rfl 3 rfl rfl ?_
    refine zk_iconst (v := 2) C kd_law_291 (by decide) rfl ?_
    refine zk_iadd C kd_law_292 rfl ?_
    refine zk_stk (r' := [.int 2, .ref b, .int (xs 1), .ref (S.1 68), .int (-1)]) (by rw [show (0 : Int32) + 2 = 2 by decide]) ?_
    refine zl_sld C hs (zp_dec rfl) kd_law_293 rfl ?_
    refine zk_stk (r' := [.int (xs 2), .int (xs 1), .ref (S.1 68), .int (-1)]) rfl ?_
    refine zs_callV (k := 68) (rn := { frames := 1, cells := 0, slots := 0, locals := 21 }) (As := [.int (xs 1), .int (xs 2)]) (rest := [.int (-1)]) C (zq_get zs_h0 rfl (xs 1) (xs 2) (fun _ => rfl)) ku_Mo_get kw2732 kv_Mo_get rfl ⟨by decide, by decide⟩ ⟨by decide, by decide⟩ rfl rfl rfl (Nat.le_of_ble_eq_true rfl) kd_law_294 rfl (c1 := 121) (s1 := 1494679) rfl rfl (fun v w hp => ?_)
    rcases hp with ⟨g_277, g_278, g_279, rfl, rfl⟩ | ⟨g_280, g_281, g_282, rfl, rfl⟩ | ⟨g_283, g_284, g_285, rfl, rfl⟩ | ⟨g_286, g_287, g_288, g_289, rfl, rfl⟩ | ⟨g_290, g_291, g_292, g_293, rfl, rfl⟩ | ⟨g_294, rfl, rfl⟩
    · exact absurd g_277 g_57
    · exact absurd g_280 g_57
    · exact absurd g_283 g_57
    · exact absurd g_286 g_57
    · exact absurd g_290 g_57
    · refine zk_stk (r' := [.int (-1), .int (-1)]) rfl ?_
      refine zk_icmp_eq (tgt := 476) C kd_law_297 (by decide) rfl (fun h_295 => ?_) (fun h_295 => absurd (by decide) h_295)
      refine zk_iinc (v := 6) (lv' := [(3, _), (0, _), (1, _), (2, _)]) C kd_law_476 3 rfl (by decide) (by decide) rfl rfl ?_
      refine zk_goto (tgt := 18) C kd_law_479 (by decide) ?_
      exact zk_lvs (lv' := [(0, .ref b), (3, .int 6)]) [1, 0] rfl (tail _)
set_option maxHeartbeats 4000000 in
set_option maxRecDepth 100000 in
theorem zl_c6 {X : zk_T} {S : zs_T} {P : ze_T} {l : Launch} {D : va_G} {sz0 b : Nat} {xs : Nat → Int32} (C : zk_C X km_law (zs_G S l D sz0) room_1 (ze_E P)) (hs : zl_scr X b 6 xs) (tail : ∀ w : va_W, zk_Ab X w 121 1494679 18 [(0, .ref b), (3, .int 6)] []) : zk_Ab X (zs_W S zs_h0) 121 1494679 302 [(0, .ref b), (1, .ref (S.1 0)), (2, .ref (S.1 68)), (3, .int 0)] [] := by
  refine zk_aload_n C kd_law_302 rfl 1 rfl rfl ?_
  refine zk_aload_n C kd_law_303 rfl 0 rfl rfl ?_
  refine zk_iload_n C kd_law_304 rfl 3 rfl rfl ?_
  refine zk_iconst (v := 1) C kd_law_305 (by decide) rfl ?_
  refine zk_iadd C kd_law_306 rfl ?_
  refine zk_stk (r' := [.int 1, .ref b, .ref (S.1 0)]) (by rw [show (0 : Int32) + 1 = 1 by decide]) ?_
  refine zl_sld C hs (zp_dec rfl) kd_law_307 rfl ?_
  refine zk_stk (r' := [.int (xs 1), .ref (S.1 0)]) rfl ?_
  refine zk_aload_n C kd_law_308 rfl 0 rfl rfl ?_
  refine zk_iload_n C kd_law_309 rfl 3 rfl rfl ?_
  refine zk_iconst (v := 2) C kd_law_310 (by decide) rfl ?_
  refine zk_iadd C kd_law_311 rfl ?_
  refine zk_stk (r' := [.int 2, .ref b, .int (xs 1), .ref (S.1 0)]) (by rw [show (0 : Int32) + 2 = 2 by decide]) ?_
  refine zl_sld C hs (zp_dec rfl) kd_law_312 rfl ?_
  refine zk_stk (r' := [.int (xs 2), .int (xs 1), .ref (S.1 0)]) rfl ?_
  refine zk_aload_n C kd_law_313 rfl 0 rfl rfl ?_
  refine zk_iload_n C kd_law_314 rfl 3 rfl rfl ?_
  refine zk_iconst (v := 3) C kd_law_315 (by decide) rfl ?_
  refine zk_iadd C kd_law_316 rfl ?_
  refine zk_stk (r' := [.int 3, .ref b, .int (xs 2), .int (xs 1), .ref (S.1 0)]) (by rw [show (0 : Int32) + 3 = 3 by decide]) ?_
  refine zl_sld C hs (zp_dec rfl) kd_law_317 rfl ?_
  refine zk_stk (r' := [.int (xs 3), .int (xs 2), .int (xs 1), .ref (S.1 0)]) rfl ?_
  refine zs_callV (k := 0) (rn := { frames := 1, cells := 0, slots := 0, locals := 21 }) (As := [.int (xs 1), .int (xs 2), .int (xs 3)]) (rest := []) C (zp_safe zs_h0 (xs 1) (xs 2) (xs 3)) ku_Pk_safe kw1497 kv_Pk_safe rfl ⟨by decide, by decide⟩ ⟨by decide, by decide⟩ rfl rfl rfl (Nat.le_of_ble_eq_true rfl) kd_law_318 rfl (c1 := 121) (s1 := 1494679) rfl rfl (fun v w hp => ?_)
  rcases hp with ⟨g_1, g_2, g_3, rfl, rfl⟩ | ⟨g_4, g_5, g_6, rfl, rfl⟩ | ⟨g_7, g_8, rfl, rfl⟩ | ⟨g_9, g_10, rfl, rfl⟩ | ⟨g_11, g_12, g_13, g_14, rfl, rfl⟩ | ⟨g_15, g_16, g_17, g_18, rfl, rfl⟩ | ⟨g_19, g_20, g_21, rfl, rfl⟩
  · refine zk_stk (r' := [.int 0]) rfl ?_
    refine zk_aload_n C kd_law_321 rfl 2 rfl rfl ?_
    refine zk_aload_n C kd_law_322 rfl 0 rfl rfl ?_
    refine zk_iload_n C kd_law_323 rfl 3 rfl rfl ?_
    refine zk_iconst (v := 1) C kd_law_324 (by decide) rfl ?_
    refine zk_iadd C kd_law_325 rfl ?_
    refine zk_stk (r' := [.int 1, .ref b, .ref (S.1 68), .int 0]) (by rw [show (0 : Int32) + 1 = 1 by decide]) ?_
    refine zl_sld C hs (zp_dec rfl) kd_law_326 rfl ?_
    refine zk_stk (r' := [.int (xs 1), .ref (S.1 68), .int 0]) rfl ?_
    refine zk_aload_n C kd_law_327 rfl 0 rfl rfl ?_
    refine zk_iload_n C kd_law_328 rfl 3 rfl rfl ?_
    refine zk_iconst (v := 2) C kd_law_329 (by decide) rfl ?_
    refine zk_iadd C kd_law_330 rfl ?_
    refine zk_stk (r' := [.int 2, .ref b, .int (xs 1), .ref (S.1 68), .int 0]) (by rw [show (0 : Int32) + 2 = 2 by decide]) ?_
    refine zl_sld C hs (zp_dec rfl) kd_law_331 rfl ?_
    refine zk_stk (r' := [.int (xs 2), .int (xs 1), .ref (S.1 68), .int 0]) rfl ?_
    refine zk_aload_n C kd_law_332 rfl 0 rfl rfl ?_
    refine zk_iload_n C kd_law_333 rfl 3 rfl rfl ?_
    refine zk_iconst (v := 3) C kd_law_334 (by decide) rfl ?_
    refine zk_iadd C kd_law_335 rfl ?_
    refine zk_stk (r' := [.int 3, .ref b, .int (xs 2), .int (xs 1), .ref (S.1 68), .int 0]) (by rw [show (0 : Int32) + 3 = 3 by decide]) ?_
    refine zl_sld C hs (zp_dec rfl) kd_law_336 rfl ?_
    refine zk_stk (r' := [.int (xs 3), .int (xs 2), .int (xs 1), .ref (S.1 68), .int 0]) rfl ?_
    refine zs_callV (k := 68) (rn := { frames := 1, cells := 0, slots := 0, locals := 21 }) (As := [.int (xs 1), .int (xs 2), .int (xs 3)]) (rest := [.int 0]) C (zq_safe (zs_uM zs_h0 61 (((zp_t (xs 1)) + (xs 2))).toNatClampNeg (xs 3)) (xs 1) (xs 2) (xs 3)) ku_Mo_safe kw2736 kv_Mo_safe rfl ⟨by decide, by decide⟩ ⟨by decide, by decide⟩ rfl rfl rfl (Nat.le_of_ble_eq_true rfl) kd_law_337 rfl (c1 := 121) (s1 := 1494679) rfl rfl (fun v w hp => ?_)
    rcases hp with ⟨g_22, g_23, g_24, g_25, rfl, rfl⟩ | ⟨g_26, g_27, g_28, g_29, rfl, rfl⟩ | ⟨g_30, g_31, g_32, rfl, rfl⟩ | ⟨g_33, g_34, rfl, rfl⟩ | ⟨g_35, g_36, rfl, rfl⟩ | ⟨g_37, g_38, g_39, g_40, g_41, rfl, rfl⟩ | ⟨g_42, g_43, g_44, g_45, g_46, rfl, rfl⟩ | ⟨g_47, g_48, g_49, g_50, rfl, rfl⟩ | ⟨g_51, g_52, g_53, rfl, rfl⟩
    · refine zk_stk (r' := [.int 0, .int 0]) rfl ?_
      refine zk_icmp_eq (tgt := 476) C kd_law_340 (by decide) rfl (fun h_54 => ?_) (fun h_54 => absurd (by decide) h_54)
      refine zk_iinc (v := 6) (lv' := [(3, _), (0, _), (1, _), (2, _)]) C kd_law_476 3 rfl (by decide) (by decide) rfl rfl ?_
      refine zk_goto (tgt := 18) C kd_law_479 (by decide) ?_
      exact zk_lvs (lv' := [(0, .ref b), (3, .int 6)]) [1, 0] rfl (tail _)
    · refine zk_stk (r' := [.int 0, .int 0]) rfl ?_
      refine zk_icmp_eq (tgt := 476) C kd_law_340 (by decide) rfl (fun h_55 => ?_) (fun h_55 => absurd (by decide) h_55)
      refine zk_iinc (v := 6) (lv' := [(3, _), (0, _), (1, _), (2, _)]) C kd_law_476 3 rfl (by decide) (by decide) rfl rfl ?_
      refine zk_goto (tgt := 18) C kd_law_479 (by decide) ?_
      exact zk_lvs (lv' := [(0, .ref b), (3, .int 6)]) [1, 0] rfl (tail _)
    · exact absurd g_3 g_32
    · exact absurd g_2 g_34
    · exact absurd g_1 g_35
    · exact absurd g_1 g_37
    · exact absurd g_1 g_42
    · exact absurd g_3 g_50
    · exact absurd g_2 g_53
  · refine zk_stk (r' := [.int (-1)]) rfl ?_
    refine zk_aload_n C kd_law_321 rfl 2 rfl rfl ?_
    refine zk_aload_n C kd_law_322 rfl 0 rfl rfl ?_
    refine zk_iload_n C kd_law_323 rfl 3 rfl rfl ?_
    refine zk_iconst (v := 1) C kd_law_324 (by decide) rfl ?_
    refine zk_iadd C kd_law_325 rfl ?_
    refine zk_stk (r' := [.int 1, .ref b, .ref (S.1 68), .int (-1)]) (by rw [show (0 : Int32) + 1 = 1 by decide]) ?_
    refine zl_sld C hs (zp_dec rfl) kd_law_326 rfl ?_
    refine zk_stk (r' := [.int (xs 1), .ref (S.1 68), .int (-1)]) rfl ?_
    refine zk_aload_n C kd_law_327 rfl 0 rfl rfl ?_
    refine zk_iload_n C kd_law_328 rfl 3 rfl rfl ?_
    refine zk_iconst (v := 2) C kd_law_329 (by decide) rfl ?_
    refine zk_iadd C kd_law_330 rfl ?_
    refine zk_stk (r' := [.int 2, .ref b, .int (xs 1), .ref (S.1 68), .int (-1)]) (by rw [show (0 : Int32) + 2 = 2 by decide]) ?_
    refine zl_sld C hs (zp_dec rfl) kd_law_331 rfl ?_
    refine zk_stk (r' := [.int (xs 2), .int (xs 1), .ref (S.1 68), .int (-1)]) rfl ?_
    refine zk_aload_n C kd_law_332 rfl 0 rfl rfl ?_
    refine zk_iload_n C kd_law_333 rfl 3 rfl rfl ?_
    refine zk_iconst (v := 3) C kd_law_334 (by decide) rfl ?_
    refine zk_iadd C kd_law_335 rfl ?_
    refine zk_stk (r' := [.int 3, .ref b, .int (xs 2), .int (xs 1), .ref (S.1 68), .int (-1)]) (by rw [show (0 : Int32) + 3 = 3 by decide]) ?_
    refine zl_sld C hs (zp_dec rfl) kd_law_336 rfl ?_
    refine zk_stk (r' := [.int (xs 3), .int (xs 2), .int (xs 1), .ref (S.1 68), .int (-1)]) rfl ?_
    refine zs_callV (k := 68) (rn := { frames := 1, cells := 0, slots := 0, locals := 21 }) (As := [.int (xs 1), .int (xs 2), .int (xs 3)]) (rest := [.int (-1)]) C (zq_safe zs_h0 (xs 1) (xs 2) (xs 3)) ku_Mo_safe kw2736 kv_Mo_safe rfl ⟨by decide, by decide⟩ ⟨by decide, by decide⟩ rfl rfl rfl (Nat.le_of_ble_eq_true rfl) kd_law_337 rfl (c1 := 121) (s1 := 1494679) rfl rfl (fun v w hp => ?_)
    rcases hp with ⟨g_56, g_57, g_58, g_59, rfl, rfl⟩ | ⟨g_60, g_61, g_62, g_63, rfl, rfl⟩ | ⟨g_64, g_65, g_66, rfl, rfl⟩ | ⟨g_67, g_68, rfl, rfl⟩ | ⟨g_69, g_70, rfl, rfl⟩ | ⟨g_71, g_72, g_73, g_74, g_75, rfl, rfl⟩ | ⟨g_76, g_77, g_78, g_79, g_80, rfl, rfl⟩ | ⟨g_81, g_82, g_83, g_84, rfl, rfl⟩ | ⟨g_85, g_86, g_87, rfl, rfl⟩
    · exact absurd g_58 g_6
    · exact absurd g_62 g_6
    · refine zk_stk (r' := [.int (-1), .int (-1)]) rfl ?_
      refine zk_icmp_eq (tgt := 476) C kd_law_340 (by decide) rfl (fun h_88 => ?_) (fun h_88 => absurd (by decide) h_88)
      refine zk_iinc (v := 6) (lv' := [(3, _), (0, _), (1, _), (2, _)]) C kd_law_476 3 rfl (by decide) (by decide) rfl rfl ?_
      refine zk_goto (tgt := 18) C kd_law_479 (by decide) ?_
      exact zk_lvs (lv' := [(0, .ref b), (3, .int 6)]) [1, 0] rfl (tail _)
    · exact absurd g_5 g_68
    · exact absurd g_4 g_69
    · exact absurd g_74 g_6
    · exact absurd g_79 g_6
    · exact absurd g_4 g_81
    · exact absurd g_5 g_87
  · refine zk_stk (r' := [.int (-1)]) rfl ?_
    refine zk_aload_n C kd_law_321 rfl 2 rfl rfl ?_
    refine zk_aload_n C kd_law_322 rfl 0 rfl rfl ?_
    refine zk_iload_n C kd_law_323 rfl 3 rfl rfl ?_
    refine zk_iconst (v := 1) C kd_law_324 (by decide) rfl ?_
    refine zk_iadd C kd_law_325 rfl ?_
    refine zk_stk (r' := [.int 1, .ref b, .ref (S.1 68), .int (-1)]) (by rw [show (0 : Int32) + 1 = 1 by decide]) ?_
    refine zl_sld C hs (zp_dec rfl) kd_law_326 rfl ?_
    refine zk_stk (r' := [.int (xs 1), .ref (S.1 68), .int (-1)]) rfl ?_
    refine zk_aload_n C kd_law_327 rfl 0 rfl rfl ?_
    refine zk_iload_n C kd_law_328 rfl 3 rfl rfl ?_
    refine zk_iconst (v := 2) C kd_law_329 (by decide) rfl ?_
    refine zk_iadd C kd_law_330 rfl ?_
    refine zk_stk (r' := [.int 2, .ref b, .int (xs 1), .ref (S.1 68), .int (-1)]) (by rw [show (0 : Int32) + 2 = 2 by decide]) ?_
    refine zl_sld C hs (zp_dec rfl) kd_law_331 rfl ?_
    refine zk_stk (r' := [.int (xs 2), .int (xs 1), .ref (S.1 68), .int (-1)]) rfl ?_
    refine zk_aload_n C kd_law_332 rfl 0 rfl rfl ?_
    refine zk_iload_n C kd_law_333 rfl 3 rfl rfl ?_
    refine zk_iconst (v := 3) C kd_law_334 (by decide) rfl ?_
    refine zk_iadd C kd_law_335 rfl ?_
    refine zk_stk (r' := [.int 3, .ref b, .int (xs 2), .int (xs 1), .ref (S.1 68), .int (-1)]) (by rw [show (0 : Int32) + 3 = 3 by decide]) ?_
    refine zl_sld C hs (zp_dec rfl) kd_law_336 rfl ?_
    refine zk_stk (r' := [.int (xs 3), .int (xs 2), .int (xs 1), .ref (S.1 68), .int (-1)]) rfl ?_
    refine zs_callV (k := 68) (rn := { frames := 1, cells := 0, slots := 0, locals := 21 }) (As := [.int (xs 1), .int (xs 2), .int (xs 3)]) (rest := [.int (-1)]) C (zq_safe zs_h0 (xs 1) (xs 2) (xs 3)) ku_Mo_safe kw2736 kv_Mo_safe rfl ⟨by decide, by decide⟩ ⟨by decide, by decide⟩ rfl rfl rfl (Nat.le_of_ble_eq_true rfl) kd_law_337 rfl (c1 := 121) (s1 := 1494679) rfl rfl (fun v w hp => ?_)
    rcases hp with ⟨g_89, g_90, g_91, g_92, rfl, rfl⟩ | ⟨g_93, g_94, g_95, g_96, rfl, rfl⟩ | ⟨g_97, g_98, g_99, rfl, rfl⟩ | ⟨g_100, g_101, rfl, rfl⟩ | ⟨g_102, g_103, rfl, rfl⟩ | ⟨g_104, g_105, g_106, g_107, g_108, rfl, rfl⟩ | ⟨g_109, g_110, g_111, g_112, g_113, rfl, rfl⟩ | ⟨g_114, g_115, g_116, g_117, rfl, rfl⟩ | ⟨g_118, g_119, g_120, rfl, rfl⟩
    · exact absurd g_90 g_8
    · exact absurd g_94 g_8
    · exact absurd g_98 g_8
    · refine zk_stk (r' := [.int (-1), .int (-1)]) rfl ?_
      refine zk_icmp_eq (tgt := 476) C kd_law_340 (by decide) rfl (fun h_121 => ?_) (fun h_121 => absurd (by decide) h_121)
      refine zk_iinc (v := 6) (lv' := [(3, _), (0, _), (1, _), (2, _)]) C kd_law_476 3 rfl (by decide) (by decide) rfl rfl ?_
      refine zk_goto (tgt := 18) C kd_law_479 (by decide) ?_
      exact zk_lvs (lv' := [(0, .ref b), (3, .int 6)]) [1, 0] rfl (tail _)
    · exact absurd g_7 g_102
    · exact absurd g_106 g_8
    · exact absurd g_111 g_8
    · exact absurd g_116 g_8
    · exact absurd g_7 g_118
  · refine zk_stk (r' := [.int (-1)]) rfl ?_
    refine zk_aload_n C kd_law_321 rfl 2 rfl rfl ?_
    refine zk_aload_n C kd_law_322 rfl 0 rfl rfl ?_
    refine zk_iload_n C kd_law_323 rfl 3 rfl rfl ?_
    refine zk_iconst (v := 1) C kd_law_324 (by decide) rfl ?_
    refine zk_iadd C kd_law_325 rfl ?_
    refine zk_stk (r' := [.int 1, .ref b, .ref (S.1 68), .int (-1)]) (by rw [show (0 : Int32) + 1 = 1 by decide]) ?_
    refine zl_sld C hs (zp_dec rfl) kd_law_326 rfl ?_
    refine zk_stk (r' := [.int (xs 1), .ref (S.1 68), .int (-1)]) rfl ?_
    refine zk_aload_n C kd_law_327 rfl 0 rfl rfl ?_
    refine zk_iload_n C kd_law_328 rfl 3 rfl rfl ?_
    refine zk_iconst (v := 2) C kd_law_329 (by decide) rfl ?_
    refine zk_iadd C kd_law_330 rfl ?_
    refine zk_stk (r' := [.int 2, .ref b, .int (xs 1), .ref (S.1 68), .int (-1)]) (by rw [show (0 : Int32) + 2 = 2 by decide]) ?_
    refine zl_sld C hs (zp_dec rfl) kd_law_331 rfl ?_
    refine zk_stk (r' := [.int (xs 2), .int (xs 1), .ref (S.1 68), .int (-1)]) rfl ?_
    refine zk_aload_n C kd_law_332 rfl 0 rfl rfl ?_
    refine zk_iload_n C kd_law_333 rfl 3 rfl rfl ?_
    refine zk_iconst (v := 3) C kd_law_334 (by decide) rfl ?_
    refine zk_iadd C kd_law_335 rfl ?_
    refine zk_stk (r' := [.int 3, .ref b, .int (xs 2), .int (xs 1), .ref (S.1 68), .int (-1)]) (by rw [show (0 : Int32) + 3 = 3 by decide]) ?_
    refine zl_sld C hs (zp_dec rfl) kd_law_336 rfl ?_
    refine zk_stk (r' := [.int (xs 3), .int (xs 2), .int (xs 1), .ref (S.1 68), .int (-1)]) rfl ?_
    refine zs_callV (k := 68) (rn := { frames := 1, cells := 0, slots := 0, locals := 21 }) (As := [.int (xs 1), .int (xs 2), .int (xs 3)]) (rest := [.int (-1)]) C (zq_safe zs_h0 (xs 1) (xs 2) (xs 3)) ku_Mo_safe kw2736 kv_Mo_safe rfl ⟨by decide, by decide⟩ ⟨by decide, by decide⟩ rfl rfl rfl (Nat.le_of_ble_eq_true rfl) kd_law_337 rfl (c1 := 121) (s1 := 1494679) rfl rfl (fun v w hp => ?_)
    rcases hp with ⟨g_122, g_123, g_124, g_125, rfl, rfl⟩ | ⟨g_126, g_127, g_128, g_129, rfl, rfl⟩ | ⟨g_130, g_131, g_132, rfl, rfl⟩ | ⟨g_133, g_134, rfl, rfl⟩ | ⟨g_135, g_136, rfl, rfl⟩ | ⟨g_137, g_138, g_139, g_140, g_141, rfl, rfl⟩ | ⟨g_142, g_143, g_144, g_145, g_146, rfl, rfl⟩ | ⟨g_147, g_148, g_149, g_150, rfl, rfl⟩ | ⟨g_151, g_152, g_153, rfl, rfl⟩
    · exact absurd g_122 g_9
    · exact absurd g_126 g_9
    · exact absurd g_130 g_9
    · exact absurd g_133 g_9
    · refine zk_stk (r' := [.int (-1), .int (-1)]) rfl ?_
      refine zk_icmp_eq (tgt := 476) C kd_law_340 (by decide) rfl (fun h_154 => ?_) (fun h_154 => absurd (by decide) h_154)
      refine zk_iinc (v := 6) (lv' := [(3, _), (0, _), (1, _), (2, _)]) C kd_law_476 3 rfl (by decide) (by decide) rfl rfl ?_
      refine zk_goto (tgt := 18) C kd_law_479 (by decide) ?_
      exact zk_lvs (lv' := [(0, .ref b), (3, .int 6)]) [1, 0] rfl (tail _)
    · exact absurd g_138 g_10
    · exact absurd g_143 g_10
    · exact absurd g_148 g_10
    · exact absurd g_152 g_10
  · refine zk_stk (r' := [.int 0]) rfl ?_
    refine zk_aload_n C kd_law_321 rfl 2 rfl rfl ?_
    refine zk_aload_n C kd_law_322 rfl 0 rfl rfl ?_
    refine zk_iload_n C kd_law_323 rfl 3 rfl rfl ?_
    refine zk_iconst (v := 1) C kd_law_324 (by decide) rfl ?_
    refine zk_iadd C kd_law_325 rfl ?_
    refine zk_stk (r' := [.int 1, .ref b, .ref (S.1 68), .int 0]) (by rw [show (0 : Int32) + 1 = 1 by decide]) ?_
    refine zl_sld C hs (zp_dec rfl) kd_law_326 rfl ?_
    refine zk_stk (r' := [.int (xs 1), .ref (S.1 68), .int 0]) rfl ?_
    refine zk_aload_n C kd_law_327 rfl 0 rfl rfl ?_
    refine zk_iload_n C kd_law_328 rfl 3 rfl rfl ?_
    refine zk_iconst (v := 2) C kd_law_329 (by decide) rfl ?_
    refine zk_iadd C kd_law_330 rfl ?_
    refine zk_stk (r' := [.int 2, .ref b, .int (xs 1), .ref (S.1 68), .int 0]) (by rw [show (0 : Int32) + 2 = 2 by decide]) ?_
    refine zl_sld C hs (zp_dec rfl) kd_law_331 rfl ?_
    refine zk_stk (r' := [.int (xs 2), .int (xs 1), .ref (S.1 68), .int 0]) rfl ?_
    refine zk_aload_n C kd_law_332 rfl 0 rfl rfl ?_
    refine zk_iload_n C kd_law_333 rfl 3 rfl rfl ?_
    refine zk_iconst (v := 3) C kd_law_334 (by decide) rfl ?_
    refine zk_iadd C kd_law_335 rfl ?_
    refine zk_stk (r' := [.int 3, .ref b, .int (xs 2), .int (xs 1), .ref (S.1 68), .int 0]) (by rw [show (0 : Int32) + 3 = 3 by decide]) ?_
    refine zl_sld C hs (zp_dec rfl) kd_law_336 rfl ?_
    refine zk_stk (r' := [.int (xs 3), .int (xs 2), .int (xs 1), .ref (S.1 68), .int 0]) rfl ?_
    refine zs_callV (k := 68) (rn := { frames := 1, cells := 0, slots := 0, locals := 21 }) (As := [.int (xs 1), .int (xs 2), .int (xs 3)]) (rest := [.int 0]) C (zq_safe (zs_uM zs_h0 61 (((zp_t (xs 1)) + (xs 2))).toNatClampNeg (xs 3)) (xs 1) (xs 2) (xs 3)) ku_Mo_safe kw2736 kv_Mo_safe rfl ⟨by decide, by decide⟩ ⟨by decide, by decide⟩ rfl rfl rfl (Nat.le_of_ble_eq_true rfl) kd_law_337 rfl (c1 := 121) (s1 := 1494679) rfl rfl (fun v w hp => ?_)
    rcases hp with ⟨g_155, g_156, g_157, g_158, rfl, rfl⟩ | ⟨g_159, g_160, g_161, g_162, rfl, rfl⟩ | ⟨g_163, g_164, g_165, rfl, rfl⟩ | ⟨g_166, g_167, rfl, rfl⟩ | ⟨g_168, g_169, rfl, rfl⟩ | ⟨g_170, g_171, g_172, g_173, g_174, rfl, rfl⟩ | ⟨g_175, g_176, g_177, g_178, g_179, rfl, rfl⟩ | ⟨g_180, g_181, g_182, g_183, rfl, rfl⟩ | ⟨g_184, g_185, g_186, rfl, rfl⟩
    · exact absurd g_155 g_11
    · exact absurd g_159 g_11
    · exact absurd g_14 g_165
    · exact absurd g_13 g_167
    · exact absurd g_12 g_169
    · refine zk_stk (r' := [.int 0, .int 0]) rfl ?_
      refine zk_icmp_eq (tgt := 476) C kd_law_340 (by decide) rfl (fun h_187 => ?_) (fun h_187 => absurd (by decide) h_187)
      refine zk_iinc (v := 6) (lv' := [(3, _), (0, _), (1, _), (2, _)]) C kd_law_476 3 rfl (by decide) (by decide) rfl rfl ?_
      refine zk_goto (tgt := 18) C kd_law_479 (by decide) ?_
      exact zk_lvs (lv' := [(0, .ref b), (3, .int 6)]) [1, 0] rfl (tail _)
    · refine zk_stk (r' := [.int 0, .int 0]) rfl ?_
      refine zk_icmp_eq (tgt := 476) C kd_law_340 (by decide) rfl (fun h_188 => ?_) (fun h_188 => absurd (by decide) h_188)
      refine zk_iinc (v := 6) (lv' := [(3, _), (0, _), (1, _), (2, _)]) C kd_law_476 3 rfl (by decide) (by decide) rfl rfl ?_
      refine zk_goto (tgt := 18) C kd_law_479 (by decide) ?_
      exact zk_lvs (lv' := [(0, .ref b), (3, .int 6)]) [1, 0] rfl (tail _)
    · exact absurd g_14 g_183
    · exact absurd g_13 g_186
  · refine zk_stk (r' := [.int (-1)]) rfl ?_
    refine zk_aload_n C kd_law_321 rfl 2 rfl rfl ?_
    refine zk_aload_n C kd_law_322 rfl 0 rfl rfl ?_
    refine zk_iload_n C kd_law_323 rfl 3 rfl rfl ?_
    refine zk_iconst (v := 1) C kd_law_324 (by decide) rfl ?_
    refine zk_iadd C kd_law_325 rfl ?_
    refine zk_stk (r' := [.int 1, .ref b, .ref (S.1 68), .int (-1)]) (by rw [show (0 : Int32) + 1 = 1 by decide]) ?_
    refine zl_sld C hs (zp_dec rfl) kd_law_326 rfl ?_
    refine zk_stk (r' := [.int (xs 1), .ref (S.1 68), .int (-1)]) rfl ?_
    refine zk_aload_n C kd_law_327 rfl 0 rfl rfl ?_
    refine zk_iload_n C kd_law_328 rfl 3 rfl rfl ?_
    refine zk_iconst (v := 2) C kd_law_329 (by decide) rfl ?_
    refine zk_iadd C kd_law_330 rfl ?_
    refine zk_stk (r' := [.int 2, .ref b, .int (xs 1), .ref (S.1 68), .int (-1)]) (by rw [show (0 : Int32) + 2 = 2 by decide]) ?_
    refine zl_sld C hs (zp_dec rfl) kd_law_331 rfl ?_
    refine zk_stk (r' := [.int (xs 2), .int (xs 1), .ref (S.1 68), .int (-1)]) rfl ?_
    refine zk_aload_n C kd_law_332 rfl 0 rfl rfl ?_
    refine zk_iload_n C kd_law_333 rfl 3 rfl rfl ?_
    refine zk_iconst (v := 3) C kd_law_334 (by decide) rfl ?_
    refine zk_iadd C kd_law_335 rfl ?_
    refine zk_stk (r' := [.int 3, .ref b, .int (xs 2), .int (xs 1), .ref (S.1 68), .int (-1)]) (by rw [show (0 : Int32) + 3 = 3 by decide]) ?_
    refine zl_sld C hs (zp_dec rfl) kd_law_336 rfl ?_
    refine zk_stk (r' := [.int (xs 3), .int (xs 2), .int (xs 1), .ref (S.1 68), .int (-1)]) rfl ?_
    refine zs_callV (k := 68) (rn := { frames := 1, cells := 0, slots := 0, locals := 21 }) (As := [.int (xs 1), .int (xs 2), .int (xs 3)]) (rest := [.int (-1)]) C (zq_safe zs_h0 (xs 1) (xs 2) (xs 3)) ku_Mo_safe kw2736 kv_Mo_safe rfl ⟨by decide, by decide⟩ ⟨by decide, by decide⟩ rfl rfl rfl (Nat.le_of_ble_eq_true rfl) kd_law_337 rfl (c1 := 121) (s1 := 1494679) rfl rfl (fun v w hp => ?_)
    rcases hp with ⟨g_189, g_190, g_191, g_192, rfl, rfl⟩ | ⟨g_193, g_194, g_195, g_196, rfl, rfl⟩ | ⟨g_197, g_198, g_199, rfl, rfl⟩ | ⟨g_200, g_201, rfl, rfl⟩ | ⟨g_202, g_203, rfl, rfl⟩ | ⟨g_204, g_205, g_206, g_207, g_208, rfl, rfl⟩ | ⟨g_209, g_210, g_211, g_212, g_213, rfl, rfl⟩ | ⟨g_214, g_215, g_216, g_217, rfl, rfl⟩ | ⟨g_218, g_219, g_220, rfl, rfl⟩
    · exact absurd g_191 g_18
    · exact absurd g_195 g_18
    · exact absurd g_197 g_15
    · exact absurd g_17 g_201
    · exact absurd g_16 g_203
    · exact absurd g_207 g_18
    · exact absurd g_212 g_18
    · refine zk_stk (r' := [.int (-1), .int (-1)]) rfl ?_
      refine zk_icmp_eq (tgt := 476) C kd_law_340 (by decide) rfl (fun h_221 => ?_) (fun h_221 => absurd (by decide) h_221)
      refine zk_iinc (v := 6) (lv' := [(3, _), (0, _), (1, _), (2, _)]) C kd_law_476 3 rfl (by decide) (by decide) rfl rfl ?_
      refine zk_goto (tgt := 18) C kd_law_479 (by decide) ?_
      exact zk_lvs (lv' := [(0, .ref b), (3, .int 6)]) [1, 0] rfl (tail _)
    · exact absurd g_17 g_220
  · refine zk_stk (r' := [.int (-1)]) rfl ?_
    refine zk_aload_n C kd_law_321 rfl 2 rfl rfl ?_
    refine zk_aload_n C kd_law_322 rfl 0 rfl rfl ?_
    refine zk_iload_n C kd_law_323 rfl 3 rfl rfl ?_
    refine zk_iconst (v := 1) C kd_law_324 (by decide) rfl ?_
    refine zk_iadd C kd_law_325 rfl ?_
    refine zk_stk (r' := [.int 1, .ref b, .ref (S.1 68), .int (-1)]) (by rw [show (0 : Int32) + 1 = 1 by decide]) ?_
    refine zl_sld C hs (zp_dec rfl) kd_law_326 rfl ?_
    refine zk_stk (r' := [.int (xs 1), .ref (S.1 68), .int (-1)]) rfl ?_
    refine zk_aload_n C kd_law_327 rfl 0 rfl rfl ?_
    refine zk_iload_n C kd_law_328 rfl 3 rfl rfl ?_
    refine zk_iconst (v := 2) C kd_law_329 (by decide) rfl ?_
    refine zk_iadd C kd_law_330 rfl ?_
    refine zk_stk (r' := [.int 2, .ref b, .int (xs 1), .ref (S.1 68), .int (-1)]) (by rw [show (0 : Int32) + 2 = 2 by decide]) ?_
    refine zl_sld C hs (zp_dec rfl) kd_law_331 rfl ?_
    refine zk_stk (r' := [.int (xs 2), .int (xs 1), .ref (S.1 68), .int (-1)]) rfl ?_
    refine zk_aload_n C kd_law_332 rfl 0 rfl rfl ?_
    refine zk_iload_n C kd_law_333 rfl 3 rfl rfl ?_
    refine zk_iconst (v := 3) C kd_law_334 (by decide) rfl ?_
    refine zk_iadd C kd_law_335 rfl ?_
    refine zk_stk (r' := [.int 3, .ref b, .int (xs 2), .int (xs 1), .ref (S.1 68), .int (-1)]) (by rw [show (0 : Int32) + 3 = 3 by decide]) ?_
    refine zl_sld C hs (zp_dec rfl) kd_law_336 rfl ?_
    refine zk_stk (r' := [.int (xs 3), .int (xs 2), .int (xs 1), .ref (S.1 68), .int (-1)]) rfl ?_
    refine zs_callV (k := 68) (rn := { frames := 1, cells := 0, slots := 0, locals := 21 }) (As := [.int (xs 1), .int (xs 2), .int (xs 3)]) (rest := [.int (-1)]) C (zq_safe zs_h0 (xs 1) (xs 2) (xs 3)) ku_Mo_safe kw2736 kv_Mo_safe rfl ⟨by decide, by decide⟩ ⟨by decide, by decide⟩ rfl rfl rfl (Nat.le_of_ble_eq_true rfl) kd_law_337 rfl (c1 := 121) (s1 := 1494679) rfl rfl (fun v w hp => ?_)
    rcases hp with ⟨g_222, g_223, g_224, g_225, rfl, rfl⟩ | ⟨g_226, g_227, g_228, g_229, rfl, rfl⟩ | ⟨g_230, g_231, g_232, rfl, rfl⟩ | ⟨g_233, g_234, rfl, rfl⟩ | ⟨g_235, g_236, rfl, rfl⟩ | ⟨g_237, g_238, g_239, g_240, g_241, rfl, rfl⟩ | ⟨g_242, g_243, g_244, g_245, g_246, rfl, rfl⟩ | ⟨g_247, g_248, g_249, g_250, rfl, rfl⟩ | ⟨g_251, g_252, g_253, rfl, rfl⟩
    · exact absurd g_223 g_21
    · exact absurd g_227 g_21
    · exact absurd g_231 g_21
    · exact absurd g_233 g_19
    · exact absurd g_20 g_236
    · exact absurd g_239 g_21
    · exact absurd g_244 g_21
    · exact absurd g_249 g_21
    · refine zk_stk (r' := [.int (-1), .int (-1)]) rfl ?_
      refine zk_icmp_eq (tgt := 476) C kd_law_340 (by decide) rfl (fun h_254 => ?_) (fun h_254 => absurd (by decide) h_254)
      refine zk_iinc (v := 6) (lv' := [(3, _), (0, _), (1, _), (2, _)]) C kd_law_476 3 rfl (by decide) (by decide) rfl rfl ?_
      refine zk_goto (tgt := 18) C kd_law_479 (by decide) ?_
      exact zk_lvs (lv' := [(0, .ref b), (3, .int 6)]) [1, 0] rfl (tail _)
set_option maxHeartbeats 4000000 in
set_option maxRecDepth 100000 in
theorem zl_c7 {X : zk_T} {S : zs_T} {P : ze_T} {l : Launch} {D : va_G} {sz0 b : Nat} {xs : Nat → Int32} (C : zk_C X km_law (zs_G S l D sz0) room_1 (ze_E P)) (hs : zl_scr X b 6 xs) (tail : ∀ w : va_W, zk_Ab X w 121 1494679 18 [(0, .ref b), (3, .int 6)] []) : zk_Ab X (zs_W S zs_h0) 121 1494679 345 [(0, .ref b), (1, .ref (S.1 0)), (2, .ref (S.1 68)), (3, .int 0)] [] := by
  refine zk_aload_n C kd_law_345 rfl 1 rfl rfl ?_
  refine zk_aload_n C kd_law_346 rfl 0 rfl rfl ?_
  refine zk_iload_n C kd_law_347 rfl 3 rfl rfl ?_
  refine zk_iconst (v := 1) C kd_law_348 (by decide) rfl ?_
  refine zk_iadd C kd_law_349 rfl ?_
  refine zk_stk (r' := [.int 1, .ref b, .ref (S.1 0)]) (by rw [show (0 : Int32) + 1 = 1 by decide]) ?_
  refine zl_sld C hs (zp_dec rfl) kd_law_350 rfl ?_
  refine zk_stk (r' := [.int (xs 1), .ref (S.1 0)]) rfl ?_
  refine zs_callV (k := 0) (rn := { frames := 0, cells := 0, slots := 0, locals := 0 }) (As := [.int (xs 1)]) (rest := []) C (zp_scan zs_h0 rfl (xs 1)) ku_Pk_scan kw1501 kv_Pk_scan rfl ⟨by decide, by decide⟩ ⟨by decide, by decide⟩ rfl rfl rfl (Nat.le_of_ble_eq_true rfl) kd_law_351 rfl (c1 := 121) (s1 := 1494679) rfl rfl (fun v w hp => ?_)
  rcases hp with ⟨g_1, rfl, rfl⟩ | ⟨g_2, g_3, rfl, rfl⟩ | ⟨g_4, g_5, rfl, rfl⟩
  · refine zk_stk (r' := [.int (-1)]) rfl ?_
    refine zk_aload_n C kd_law_354 rfl 2 rfl rfl ?_
    refine zk_aload_n C kd_law_355 rfl 0 rfl rfl ?_
    refine zk_iload_n C kd_law_356 rfl 3 rfl rfl ?_
    refine zk_iconst (v := 1) C kd_law_357 (by decide) rfl ?_
    refine zk_iadd C kd_law_358 rfl ?_
    refine zk_stk (r' := [.int 1, .ref b, .ref (S.1 68), .int (-1)]) (by rw [show (0 : Int32) + 1 = 1 by decide]) ?_
    refine zl_sld C hs (zp_dec rfl) kd_law_359 rfl ?_
    refine zk_stk (r' := [.int (xs 1), .ref (S.1 68), .int (-1)]) rfl ?_
    refine zs_callV (k := 68) (rn := { frames := 0, cells := 0, slots := 0, locals := 0 }) (As := [.int (xs 1)]) (rest := [.int (-1)]) C (zq_scan zs_h0 rfl (xs 1)) ku_Mo_scan kw2740 kv_Mo_scan rfl ⟨by decide, by decide⟩ ⟨by decide, by decide⟩ rfl rfl rfl (Nat.le_of_ble_eq_true rfl) kd_law_360 rfl (c1 := 121) (s1 := 1494679) rfl rfl (fun v w hp => ?_)
    rcases hp with ⟨g_6, rfl, rfl⟩ | ⟨g_7, g_8, rfl, rfl⟩ | ⟨g_9, g_10, rfl, rfl⟩
    · refine zk_stk (r' := [.int (-1), .int (-1)]) rfl ?_
      refine zk_icmp_eq (tgt := 476) C kd_law_363 (by decide) rfl (fun h_11 => ?_) (fun h_11 => absurd (by decide) h_11)
      refine zk_iinc (v := 6) (lv' := [(3, _), (0, _), (1, _), (2, _)]) C kd_law_476 3 rfl (by decide) (by decide) rfl rfl ?_
      refine zk_goto (tgt := 18) C kd_law_479 (by decide) ?_
      exact zk_lvs (lv' := [(0, .ref b), (3, .int 6)]) [1, 0] rfl (tail _)
    · exact absurd g_1 g_7
    · exact absurd g_1 g_9
  · refine zk_stk (r' := [.int (-5)]) rfl ?_
    refine zk_aload_n C kd_law_354 rfl 2 rfl rfl ?_
    refine zk_aload_n C kd_law_355 rfl 0 rfl rfl ?_
    refine zk_iload_n C kd_law_356 rfl 3 rfl rfl ?_
    refine zk_iconst (v := 1) C kd_law_357 (by decide) rfl ?_
    refine zk_iadd C kd_law_358 rfl ?_
    refine zk_stk (r' := [.int 1, .ref b, .ref (S.1 68), .int (-5)]) (by rw [show (0 : Int32) + 1 = 1 by decide]) ?_
    refine zl_sld C hs (zp_dec rfl) kd_law_359 rfl ?_
    refine zk_stk (r' := [.int (xs 1), .ref (S.1 68), .int (-5)]) rfl ?_
    refine zs_callV (k := 68) (rn := { frames := 0, cells := 0, slots := 0, locals := 0 }) (As := [.int (xs 1)]) (rest := [.int (-5)]) C (zq_scan zs_h0 rfl (xs 1)) ku_Mo_scan kw2740 kv_Mo_scan rfl ⟨by decide, by decide⟩ ⟨by decide, by decide⟩ rfl rfl rfl (Nat.le_of_ble_eq_true rfl) kd_law_360 rfl (c1 := 121) (s1 := 1494679) rfl rfl (fun v w hp => ?_)
    rcases hp with ⟨g_12, rfl, rfl⟩ | ⟨g_13, g_14, rfl, rfl⟩ | ⟨g_15, g_16, rfl, rfl⟩
    · exact absurd g_12 g_2
    · refine zk_stk (r' := [.int (-5), .int (-5)]) rfl ?_
      refine zk_icmp_eq (tgt := 476) C kd_law_363 (by decide) rfl (fun h_17 => ?_) (fun h_17 => absurd (by decide) h_17)
      refine zk_iinc (v := 6) (lv' := [(3, _), (0, _), (1, _), (2, _)]) C kd_law_476 3 rfl (by decide) (by decide) rfl rfl ?_
      refine zk_goto (tgt := 18) C kd_law_479 (by decide) ?_
      exact zk_lvs (lv' := [(0, .ref b), (3, .int 6)]) [1, 0] rfl (tail _)
    · exact absurd g_3 g_16
  · refine zk_stk (r' := [.int (-1)]) rfl ?_
    refine zk_aload_n C kd_law_354 rfl 2 rfl rfl ?_
    refine zk_aload_n C kd_law_355 rfl 0 rfl rfl ?_
    refine zk_iload_n C kd_law_356 rfl 3 rfl rfl ?_
    refine zk_iconst (v := 1) C kd_law_357 (by decide) rfl ?_
    refine zk_iadd C kd_law_358 rfl ?_
    refine zk_stk (r' := [.int 1, .ref b, .ref (S.1 68), .int (-1)]) (by rw [show (0 : Int32) + 1 = 1 by decide]) ?_
    refine zl_sld C hs (zp_dec rfl) kd_law_359 rfl ?_
    refine zk_stk (r' := [.int (xs 1), .ref (S.1 68), .int (-1)]) rfl ?_
    refine zs_callV (k := 68) (rn := { frames := 0, cells := 0, slots := 0, locals := 0 }) (As := [.int (xs 1)]) (rest := [.int (-1)]) C (zq_scan zs_h0 rfl (xs 1)) ku_Mo_scan kw2740 kv_Mo_scan rfl ⟨by decide, by decide⟩ ⟨by decide, by decide⟩ rfl rfl rfl (Nat.le_of_ble_eq_true rfl) kd_law_360 rfl (c1 := 121) (s1 := 1494679) rfl rfl (fun v w hp => ?_)
    rcases hp with ⟨g_18, rfl, rfl⟩ | ⟨g_19, g_20, rfl, rfl⟩ | ⟨g_21, g_22, rfl, rfl⟩
    · exact absurd g_18 g_4
    · exact absurd g_20 g_5
    · refine zk_stk (r' := [.int (-1), .int (-1)]) rfl ?_
      refine zk_icmp_eq (tgt := 476) C kd_law_363 (by decide) rfl (fun h_23 => ?_) (fun h_23 => absurd (by decide) h_23)
      refine zk_iinc (v := 6) (lv' := [(3, _), (0, _), (1, _), (2, _)]) C kd_law_476 3 rfl (by decide) (by decide) rfl rfl ?_
      refine zk_goto (tgt := 18) C kd_law_479 (by decide) ?_
      exact zk_lvs (lv' := [(0, .ref b), (3, .int 6)]) [1, 0] rfl (tail _)
set_option maxHeartbeats 4000000 in
set_option maxRecDepth 100000 in
theorem zl_c8 {X : zk_T} {S : zs_T} {P : ze_T} {l : Launch} {D : va_G} {sz0 b : Nat} {xs : Nat → Int32} (C : zk_C X km_law (zs_G S l D sz0) room_1 (ze_E P)) (hs : zl_scr X b 6 xs) (tail : ∀ w : va_W, zk_Ab X w 121 1494679 18 [(0, .ref b), (3, .int 6)] []) : zk_Ab X (zs_W S zs_h0) 121 1494679 368 [(0, .ref b), (1, .ref (S.1 0)), (2, .ref (S.1 68)), (3, .int 0)] [] := by
  refine zk_aload_n C kd_law_368 rfl 1 rfl rfl ?_
  refine zs_callV (k := 0) (rn := { frames := 0, cells := 0, slots := 0, locals := 0 }) (As := []) (rest := []) C (zp_watch zs_h0 rfl) ku_Pk_watch kw1571 kv_Pk_watch rfl ⟨by decide, by decide⟩ ⟨by decide, by decide⟩ rfl rfl rfl (Nat.le_of_ble_eq_true rfl) kd_law_369 rfl (c1 := 121) (s1 := 1494679) rfl rfl (fun v w hp => ?_)
  obtain ⟨rfl, rfl⟩ := hp
  refine zk_stk (r' := [.int (-5)]) rfl ?_
  refine zk_aload_n C kd_law_372 rfl 2 rfl rfl ?_
  refine zs_callV (k := 68) (rn := { frames := 1, cells := 0, slots := 0, locals := 21 }) (As := []) (rest := [.int (-5)]) C (zq_watch (zs_uF zs_h0 0 1 0) rfl rfl) ku_Mo_watch kw2772 kv_Mo_watch rfl ⟨by decide, by decide⟩ ⟨by decide, by decide⟩ rfl rfl rfl (Nat.le_of_ble_eq_true rfl) kd_law_373 rfl (c1 := 121) (s1 := 1494679) rfl rfl (fun v w hp => ?_)
  obtain ⟨rfl, rfl⟩ := hp
  refine zk_stk (r' := [.int (-5), .int (-5)]) rfl ?_
  refine zk_icmp_eq (tgt := 476) C kd_law_376 (by decide) rfl (fun h_1 => ?_) (fun h_1 => absurd (by decide) h_1)
  refine zk_iinc (v := 6) (lv' := [(3, _), (0, _), (1, _), (2, _)]) C kd_law_476 3 rfl (by decide) (by decide) rfl rfl ?_
  refine zk_goto (tgt := 18) C kd_law_479 (by decide) ?_
  exact zk_lvs (lv' := [(0, .ref b), (3, .int 6)]) [1, 0] rfl (tail _)
set_option maxHeartbeats 4000000 in
set_option maxRecDepth 100000 in
theorem zl_c9 {X : zk_T} {S : zs_T} {P : ze_T} {l : Launch} {D : va_G} {sz0 b : Nat} {xs : Nat → Int32} (C : zk_C X km_law (zs_G S l D sz0) room_1 (ze_E P)) (hs : zl_scr X b 6 xs) (tail : ∀ w : va_W, zk_Ab X w 121 1494679 18 [(0, .ref b), (3, .int 6)] []) : zk_Ab X (zs_W S zs_h0) 121 1494679 381 [(0, .ref b), (1, .ref (S.1 0)), (2, .ref (S.1 68)), (3, .int 0)] [] := by
  refine zk_aload_n C kd_law_381 rfl 1 rfl rfl ?_
  refine zs_callV (k := 0) (rn := { frames := 0, cells := 0, slots := 0, locals := 0 }) (As := []) (rest := []) C (zp_watched zs_h0 rfl) ku_Pk_watched kw1599 kv_Pk_watched rfl ⟨by decide, by decide⟩ ⟨by decide, by decide⟩ rfl rfl rfl (Nat.le_of_ble_eq_true rfl) kd_law_382 rfl (c1 := 121) (s1 := 1494679) rfl rfl (fun v w hp => ?_)
  obtain ⟨rfl, rfl⟩ := hp
  refine zk_stk (r' := [.int 0]) rfl ?_
  refine zk_aload_n C kd_law_385 rfl 2 rfl rfl ?_
  refine zs_callV (k := 68) (rn := { frames := 0, cells := 0, slots := 0, locals := 0 }) (As := []) (rest := [.int 0]) C (zq_watched zs_h0 rfl) ku_Mo_watched kw2816 kv_Mo_watched rfl ⟨by decide, by decide⟩ ⟨by decide, by decide⟩ rfl rfl rfl (Nat.le_of_ble_eq_true rfl) kd_law_386 rfl (c1 := 121) (s1 := 1494679) rfl rfl (fun v w hp => ?_)
  obtain ⟨rfl, rfl⟩ := hp
  refine zk_stk (r' := [.int 0, .int 0]) rfl ?_
  refine zk_icmp_eq (tgt := 476) C kd_law_389 (by decide) rfl (fun h_1 => ?_) (fun h_1 => absurd (by decide) h_1)
  refine zk_iinc (v := 6) (lv' := [(3, _), (0, _), (1, _), (2, _)]) C kd_law_476 3 rfl (by decide) (by decide) rfl rfl ?_
  refine zk_goto (tgt := 18) C kd_law_479 (by decide) ?_
  exact zk_lvs (lv' := [(0, .ref b), (3, .int 6)]) [1, 0] rfl (tail _)
set_option maxHeartbeats 4000000 in
set_option maxRecDepth 100000 in
theorem zl_c10 {X : zk_T} {S : zs_T} {P : ze_T} {l : Launch} {D : va_G} {sz0 b : Nat} {xs : Nat → Int32} (C : zk_C X km_law (zs_G S l D sz0) room_1 (ze_E P)) (hs : zl_scr X b 6 xs) (tail : ∀ w : va_W, zk_Ab X w 121 1494679 18 [(0, .ref b), (3, .int 6)] []) : zk_Ab X (zs_W S zs_h0) 121 1494679 394 [(0, .ref b), (1, .ref (S.1 0)), (2, .ref (S.1 68)), (3, .int 0)] [] := by
  refine zk_aload_n C kd_law_394 rfl 1 rfl rfl ?_
  refine zs_callV (k := 0) (rn := { frames := 1, cells := 0, slots := 0, locals := 27 }) (As := []) (rest := []) C (zp_frame zs_h0 rfl rfl) ku_Pk_frame kw1603 kv_Pk_frame rfl ⟨by decide, by decide⟩ ⟨by decide, by decide⟩ rfl rfl rfl (Nat.le_of_ble_eq_true rfl) kd_law_395 rfl (c1 := 121) (s1 := 1494679) rfl rfl (fun v w hp => ?_)
  obtain ⟨rfl, rfl⟩ := hp
  refine zk_stk (r' := [.int 0]) rfl ?_
  refine zk_aload_n C kd_law_398 rfl 2 rfl rfl ?_
  refine zs_callV (k := 68) (rn := { frames := 1, cells := 0, slots := 0, locals := 21 }) (As := []) (rest := [.int 0]) C (zq_frame (zs_uF (zs_uF zs_h0 0 1 0) 66 1 0) rfl rfl) ku_Mo_frame kw2820 kv_Mo_frame rfl ⟨by decide, by decide⟩ ⟨by decide, by decide⟩ rfl rfl rfl (Nat.le_of_ble_eq_true rfl) kd_law_399 rfl (c1 := 121) (s1 := 1494679) rfl rfl (fun v w hp => ?_)
  obtain ⟨rfl, rfl⟩ := hp
  refine zk_stk (r' := [.int 0, .int 0]) rfl ?_
  refine zk_icmp_eq (tgt := 476) C kd_law_402 (by decide) rfl (fun h_1 => ?_) (fun h_1 => absurd (by decide) h_1)
  refine zk_iinc (v := 6) (lv' := [(3, _), (0, _), (1, _), (2, _)]) C kd_law_476 3 rfl (by decide) (by decide) rfl rfl ?_
  refine zk_goto (tgt := 18) C kd_law_479 (by decide) ?_
  exact zk_lvs (lv' := [(0, .ref b), (3, .int 6)]) [1, 0] rfl (tail _)
set_option maxHeartbeats 4000000 in
set_option maxRecDepth 100000 in
theorem zl_c11 {X : zk_T} {S : zs_T} {P : ze_T} {l : Launch} {D : va_G} {sz0 b : Nat} {xs : Nat → Int32} (C : zk_C X km_law (zs_G S l D sz0) room_1 (ze_E P)) (hs : zl_scr X b 6 xs) (tail : ∀ w : va_W, zk_Ab X w 121 1494679 18 [(0, .ref b), (3, .int 6)] []) : zk_Ab X (zs_W S zs_h0) 121 1494679 407 [(0, .ref b), (1, .ref (S.1 0)), (2, .ref (S.1 68)), (3, .int 0)] [] := by
  refine zk_aload_n C kd_law_407 rfl 1 rfl rfl ?_
  refine zk_aload_n C kd_law_408 rfl 0 rfl rfl ?_
  refine zk_iload_n C kd_law_409 rfl 3 rfl rfl ?_
  refine zk_iconst (v := 1) C kd_law_410 (by decide) rfl ?_
  refine zk_iadd C kd_law_411 rfl ?_
  refine zk_stk (r' := [.int 1, .ref b, .ref (S.1 0)]) (by rw [show (0 : Int32) + 1 = 1 by decide]) ?_
  refine zl_sld C hs (zp_dec rfl) kd_law_412 rfl ?_
  refine zk_stk (r' := [.int (xs 1), .ref (S.1 0)]) rfl ?_
  refine zs_callV (k := 0) (rn := { frames := 0, cells := 0, slots := 0, locals := 0 }) (As := [.int (xs 1)]) (rest := []) C (zp_station zs_h0 rfl (xs 1)) ku_Pk_station kw1663 kv_Pk_station rfl ⟨by decide, by decide⟩ ⟨by decide, by decide⟩ rfl rfl rfl (Nat.le_of_ble_eq_true rfl) kd_law_413 rfl (c1 := 121) (s1 := 1494679) rfl rfl (fun v w hp => ?_)
  rcases hp with ⟨g_1, rfl, rfl⟩ | ⟨g_2, g_3, rfl, rfl⟩ | ⟨g_4, g_5, rfl, rfl⟩
  · refine zk_stk (r' := [.int (-1)]) rfl ?_
    refine zk_aload_n C kd_law_416 rfl 2 rfl rfl ?_
    refine zk_aload_n C kd_law_417 rfl 0 rfl rfl ?_
    refine zk_iload_n C kd_law_418 rfl 3 rfl rfl ?_
    refine zk_iconst (v := 1) C kd_law_419 (by decide) rfl ?_
    refine zk_iadd C kd_law_420 rfl ?_
    refine zk_stk (r' := [.int 1, .ref b, .ref (S.1 68), .int (-1)]) (by rw [show (0 : Int32) + 1 = 1 by decide]) ?_
    refine zl_sld C hs (zp_dec rfl) kd_law_421 rfl ?_
    refine zk_stk (r' := [.int (xs 1), .ref (S.1 68), .int (-1)]) rfl ?_
    refine zs_callV (k := 68) (rn := { frames := 0, cells := 0, slots := 0, locals := 0 }) (As := [.int (xs 1)]) (rest := [.int (-1)]) C (zq_station zs_h0 rfl (xs 1)) ku_Mo_station kw2860 kv_Mo_station rfl ⟨by decide, by decide⟩ ⟨by decide, by decide⟩ rfl rfl rfl (Nat.le_of_ble_eq_true rfl) kd_law_422 rfl (c1 := 121) (s1 := 1494679) rfl rfl (fun v w hp => ?_)
    rcases hp with ⟨g_6, rfl, rfl⟩ | ⟨g_7, g_8, rfl, rfl⟩ | ⟨g_9, g_10, rfl, rfl⟩
    · refine zk_stk (r' := [.int (-1), .int (-1)]) rfl ?_
      refine zk_icmp_eq (tgt := 476) C kd_law_425 (by decide) rfl (fun h_11 => ?_) (fun h_11 => absurd (by decide) h_11)
      refine zk_iinc (v := 6) (lv' := [(3, _), (0, _), (1, _), (2, _)]) C kd_law_476 3 rfl (by decide) (by decide) rfl rfl ?_
      refine zk_goto (tgt := 18) C kd_law_479 (by decide) ?_
      exact zk_lvs (lv' := [(0, .ref b), (3, .int 6)]) [1, 0] rfl (tail _)
    · exact absurd g_1 g_7
    · exact absurd g_1 g_9
  · refine zk_stk (r' := [.int 1]) rfl ?_
    refine zk_aload_n C kd_law_416 rfl 2 rfl rfl ?_
    refine zk_aload_n C kd_law_417 rfl 0 rfl rfl ?_
    refine zk_iload_n C kd_law_418 rfl 3 rfl rfl ?_
    refine zk_iconst (v := 1) C kd_law_419 (by decide) rfl ?_
    refine zk_iadd C kd_law_420 rfl ?_
    refine zk_stk (r' := [.int 1, .ref b, .ref (S.1 68), .int 1]) (by rw [show (0 : Int32) + 1 = 1 by decide]) ?_
    refine zl_sld C hs (zp_dec rfl) kd_law_421 rfl ?_
    refine zk_stk (r' := [.int (xs 1), .ref (S.1 68), .int 1]) rfl ?_
    refine zs_callV (k := 68) (rn := { frames := 0, cells := 0, slots := 0, locals := 0 }) (As := [.int (xs 1)]) (rest := [.int 1]) C (zq_station (zs_uF zs_h0 66 2 (xs 1)) rfl (xs 1)) ku_Mo_station kw2860 kv_Mo_station rfl ⟨by decide, by decide⟩ ⟨by decide, by decide⟩ rfl rfl rfl (Nat.le_of_ble_eq_true rfl) kd_law_422 rfl (c1 := 121) (s1 := 1494679) rfl rfl (fun v w hp => ?_)
    rcases hp with ⟨g_12, rfl, rfl⟩ | ⟨g_13, g_14, rfl, rfl⟩ | ⟨g_15, g_16, rfl, rfl⟩
    · exact absurd g_12 g_2
    · refine zk_stk (r' := [.int 1, .int 1]) rfl ?_
      refine zk_icmp_eq (tgt := 476) C kd_law_425 (by decide) rfl (fun h_17 => ?_) (fun h_17 => absurd (by decide) h_17)
      refine zk_iinc (v := 6) (lv' := [(3, _), (0, _), (1, _), (2, _)]) C kd_law_476 3 rfl (by decide) (by decide) rfl rfl ?_
      refine zk_goto (tgt := 18) C kd_law_479 (by decide) ?_
      exact zk_lvs (lv' := [(0, .ref b), (3, .int 6)]) [1, 0] rfl (tail _)
    · exact absurd g_3 g_16
  · refine zk_stk (r' := [.int (-1)]) rfl ?_
    refine zk_aload_n C kd_law_416 rfl 2 rfl rfl ?_
    refine zk_aload_n C kd_law_417 rfl 0 rfl rfl ?_
    refine zk_iload_n C kd_law_418 rfl 3 rfl rfl ?_
    refine zk_iconst (v := 1) C kd_law_419 (by decide) rfl ?_
    refine zk_iadd C kd_law_420 rfl ?_
    refine zk_stk (r' := [.int 1, .ref b, .ref (S.1 68), .int (-1)]) (by rw [show (0 : Int32) + 1 = 1 by decide]) ?_
    refine zl_sld C hs (zp_dec rfl) kd_law_421 rfl ?_
    refine zk_stk (r' := [.int (xs 1), .ref (S.1 68), .int (-1)]) rfl ?_
    refine zs_callV (k := 68) (rn := { frames := 0, cells := 0, slots := 0, locals := 0 }) (As := [.int (xs 1)]) (rest := [.int (-1)]) C (zq_station zs_h0 rfl (xs 1)) ku_Mo_station kw2860 kv_Mo_station rfl ⟨by decide, by decide⟩ ⟨by decide, by decide⟩ rfl rfl rfl (Nat.le_of_ble_eq_true rfl) kd_law_422 rfl (c1 := 121) (s1 := 1494679) rfl rfl (fun v w hp => ?_)
    rcases hp with ⟨g_18, rfl, rfl⟩ | ⟨g_19, g_20, rfl, rfl⟩ | ⟨g_21, g_22, rfl, rfl⟩
    · exact absurd g_18 g_4
    · exact absurd g_20 g_5
    · refine zk_stk (r' := [.int (-1), .int (-1)]) rfl ?_
      refine zk_icmp_eq (tgt := 476) C kd_law_425 (by decide) rfl (fun h_23 => ?_) (fun h_23 => absurd (by decide) h_23)
      refine zk_iinc (v := 6) (lv' := [(3, _), (0, _), (1, _), (2, _)]) C kd_law_476 3 rfl (by decide) (by decide) rfl rfl ?_
      refine zk_goto (tgt := 18) C kd_law_479 (by decide) ?_
      exact zk_lvs (lv' := [(0, .ref b), (3, .int 6)]) [1, 0] rfl (tail _)
set_option maxHeartbeats 4000000 in
set_option maxRecDepth 100000 in
theorem zl_c12 {X : zk_T} {S : zs_T} {P : ze_T} {l : Launch} {D : va_G} {sz0 b : Nat} {xs : Nat → Int32} (C : zk_C X km_law (zs_G S l D sz0) room_1 (ze_E P)) (hs : zl_scr X b 6 xs) (tail : ∀ w : va_W, zk_Ab X w 121 1494679 18 [(0, .ref b), (3, .int 6)] []) : zk_Ab X (zs_W S zs_h0) 121 1494679 430 [(0, .ref b), (1, .ref (S.1 0)), (2, .ref (S.1 68)), (3, .int 0)] [] := by
  refine zk_aload_n C kd_law_430 rfl 1 rfl rfl ?_
  refine zk_aload_n C kd_law_431 rfl 0 rfl rfl ?_
  refine zk_iload_n C kd_law_432 rfl 3 rfl rfl ?_
  refine zk_iconst (v := 1) C kd_law_433 (by decide) rfl ?_
  refine zk_iadd C kd_law_434 rfl ?_
  refine zk_stk (r' := [.int 1, .ref b, .ref (S.1 0)]) (by rw [show (0 : Int32) + 1 = 1 by decide]) ?_
  refine zl_sld C hs (zp_dec rfl) kd_law_435 rfl ?_
  refine zk_stk (r' := [.int (xs 1), .ref (S.1 0)]) rfl ?_
  refine zs_callV (k := 0) (rn := { frames := 0, cells := 0, slots := 0, locals := 0 }) (As := [.int (xs 1)]) (rest := []) C (zp_byteAt zs_h0 rfl (xs 1)) ku_Pk_byteAt kw1667 kv_Pk_byteAt rfl ⟨by decide, by decide⟩ ⟨by decide, by decide⟩ rfl rfl rfl (Nat.le_of_ble_eq_true rfl) kd_law_436 rfl (c1 := 121) (s1 := 1494679) rfl rfl (fun v w hp => ?_)
  rcases hp with ⟨g_1, rfl, rfl⟩ | ⟨g_2, rfl, rfl⟩
  · refine zk_stk (r' := [.int (-1)]) rfl ?_
    refine zk_aload_n C kd_law_439 rfl 2 rfl rfl ?_
    refine zk_aload_n C kd_law_440 rfl 0 rfl rfl ?_
    refine zk_iload_n C kd_law_441 rfl 3 rfl rfl ?_
    refine zk_iconst (v := 1) C kd_law_442 (by decide) rfl ?_
    refine zk_iadd C kd_law_443 rfl ?_
    refine zk_stk (r' := [.int 1, .ref b, .ref (S.1 68), .int (-1)]) (by rw [show (0 : Int32) + 1 = 1 by decide]) ?_
    refine zl_sld C hs (zp_dec rfl) kd_law_444 rfl ?_
    refine zk_stk (r' := [.int (xs 1), .ref (S.1 68), .int (-1)]) rfl ?_
    refine zs_callV (k := 68) (rn := { frames := 0, cells := 0, slots := 0, locals := 0 }) (As := [.int (xs 1)]) (rest := [.int (-1)]) C (zq_byteAt zs_h0 rfl (xs 1)) ku_Mo_byteAt kw2864 kv_Mo_byteAt rfl ⟨by decide, by decide⟩ ⟨by decide, by decide⟩ rfl rfl rfl (Nat.le_of_ble_eq_true rfl) kd_law_445 rfl (c1 := 121) (s1 := 1494679) rfl rfl (fun v w hp => ?_)
    rcases hp with ⟨g_3, rfl, rfl⟩ | ⟨g_4, rfl, rfl⟩
    · refine zk_stk (r' := [.int (-1), .int (-1)]) rfl ?_
      refine zk_icmp_eq (tgt := 476) C kd_law_448 (by decide) rfl (fun h_5 => ?_) (fun h_5 => absurd (by decide) h_5)
      refine zk_iinc (v := 6) (lv' := [(3, _), (0, _), (1, _), (2, _)]) C kd_law_476 3 rfl (by decide) (by decide) rfl rfl ?_
      refine zk_goto (tgt := 18) C kd_law_479 (by decide) ?_
      exact zk_lvs (lv' := [(0, .ref b), (3, .int 6)]) [1, 0] rfl (tail _)
    · exact absurd g_1 g_4
  · refine zk_stk (r' := [.int (-1)]) rfl ?_
    refine zk_aload_n C kd_law_439 rfl 2 rfl rfl ?_
    refine zk_aload_n C kd_law_440 rfl 0 rfl rfl ?_
    refine zk_iload_n C kd_law_441 rfl 3 rfl rfl ?_
    refine zk_iconst (v := 1) C kd_law_442 (by decide) rfl ?_
    refine zk_iadd C kd_law_443 rfl ?_
    refine zk_stk (r' := [.int 1, .ref b, .ref (S.1 68), .int (-1)]) (by rw [show (0 : Int32) + 1 = 1 by decide]) ?_
    refine zl_sld C hs (zp_dec rfl) kd_law_444 rfl ?_
    refine zk_stk (r' := [.int (xs 1), .ref (S.1 68), .int (-1)]) rfl ?_
    refine zs_callV (k := 68) (rn := { frames := 0, cells := 0, slots := 0, locals := 0 }) (As := [.int (xs 1)]) (rest := [.int (-1)]) C (zq_byteAt zs_h0 rfl (xs 1)) ku_Mo_byteAt kw2864 kv_Mo_byteAt rfl ⟨by decide, by decide⟩ ⟨by decide, by decide⟩ rfl rfl rfl (Nat.le_of_ble_eq_true rfl) kd_law_445 rfl (c1 := 121) (s1 := 1494679) rfl rfl (fun v w hp => ?_)
    rcases hp with ⟨g_6, rfl, rfl⟩ | ⟨g_7, rfl, rfl⟩
    · exact absurd g_6 g_2
    · refine zk_stk (r' := [.int (-1), .int (-1)]) rfl ?_
      refine zk_icmp_eq (tgt := 476) C kd_law_448 (by decide) rfl (fun h_8 => ?_) (fun h_8 => absurd (by decide) h_8)
      refine zk_iinc (v := 6) (lv' := [(3, _), (0, _), (1, _), (2, _)]) C kd_law_476 3 rfl (by decide) (by decide) rfl rfl ?_
      refine zk_goto (tgt := 18) C kd_law_479 (by decide) ?_
      exact zk_lvs (lv' := [(0, .ref b), (3, .int 6)]) [1, 0] rfl (tail _)
set_option maxHeartbeats 4000000 in
set_option maxRecDepth 100000 in
theorem zl_c13 {X : zk_T} {S : zs_T} {P : ze_T} {l : Launch} {D : va_G} {sz0 b : Nat} {xs : Nat → Int32} (C : zk_C X km_law (zs_G S l D sz0) room_1 (ze_E P)) (hs : zl_scr X b 6 xs) (tail : ∀ w : va_W, zk_Ab X w 121 1494679 18 [(0, .ref b), (3, .int 6)] []) : zk_Ab X (zs_W S zs_h0) 121 1494679 453 [(0, .ref b), (1, .ref (S.1 0)), (2, .ref (S.1 68)), (3, .int 0)] [] := by
  refine zk_aload_n C kd_law_453 rfl 1 rfl rfl ?_
  refine zk_aload_n C kd_law_454 rfl 0 rfl rfl ?_
  refine zk_iload_n C kd_law_455 rfl 3 rfl rfl ?_
  refine zk_iconst (v := 1) C kd_law_456 (by decide) rfl ?_
  refine zk_iadd C kd_law_457 rfl ?_
  refine zk_stk (r' := [.int 1, .ref b, .ref (S.1 0)]) (by rw [show (0 : Int32) + 1 = 1 by decide]) ?_
  refine zl_sld C hs (zp_dec rfl) kd_law_458 rfl ?_
  refine zk_stk (r' := [.int (xs 1), .ref (S.1 0)]) rfl ?_
  refine zs_callV (k := 0) (rn := { frames := 0, cells := 0, slots := 0, locals := 0 }) (As := [.int (xs 1)]) (rest := []) C (zp_count zs_h0 rfl rfl rfl rfl rfl rfl rfl rfl rfl (xs 1)) ku_Pk_count kw1671 kv_Pk_count rfl ⟨by decide, by decide⟩ ⟨by decide, by decide⟩ rfl rfl rfl (Nat.le_of_ble_eq_true rfl) kd_law_459 rfl (c1 := 121) (s1 := 1494679) rfl rfl (fun v w hp => ?_)
  rcases hp with ⟨g_1, rfl, rfl⟩ | ⟨g_2, g_3, rfl, rfl⟩ | ⟨g_4, g_5, g_6, rfl, rfl⟩ | ⟨g_7, g_8, g_9, g_10, rfl, rfl⟩ | ⟨g_11, g_12, g_13, g_14, g_15, rfl, rfl⟩ | ⟨g_16, g_17, g_18, g_19, g_20, g_21, rfl, rfl⟩ | ⟨g_22, g_23, g_24, g_25, g_26, g_27, g_28, rfl, rfl⟩ | ⟨g_29, g_30, g_31, g_32, g_33, g_34, g_35, g_36, rfl, rfl⟩ | ⟨g_37, g_38, g_39, g_40, g_41, g_42, g_43, g_44, g_45, rfl, rfl⟩ | ⟨g_46, g_47, g_48, g_49, g_50, g_51, g_52, g_53, g_54, g_55, rfl, rfl⟩ | ⟨g_56, g_57, g_58, g_59, g_60, g_61, g_62, g_63, g_64, g_65, rfl, rfl⟩
  · refine zk_stk (r' := [.int 0]) rfl ?_
    refine zk_aload_n C kd_law_462 rfl 2 rfl rfl ?_
    refine zk_aload_n C kd_law_463 rfl 0 rfl rfl ?_
    refine zk_iload_n C kd_law_464 rfl 3 rfl rfl ?_
    refine zk_iconst (v := 1) C kd_law_465 (by decide) rfl ?_
    refine zk_iadd C kd_law_466 rfl ?_
    refine zk_stk (r' := [.int 1, .ref b, .ref (S.1 68), .int 0]) (by rw [show (0 : Int32) + 1 = 1 by decide]) ?_
    refine zl_sld C hs (zp_dec rfl) kd_law_467 rfl ?_
    refine zk_stk (r' := [.int (xs 1), .ref (S.1 68), .int 0]) rfl ?_
    refine zs_callV (k := 68) (rn := { frames := 0, cells := 0, slots := 0, locals := 0 }) (As := [.int (xs 1)]) (rest := [.int 0]) C (zq_count zs_h0 rfl rfl (xs 1)) ku_Mo_count kw2868 kv_Mo_count rfl ⟨by decide, by decide⟩ ⟨by decide, by decide⟩ rfl rfl rfl (Nat.le_of_ble_eq_true rfl) kd_law_468 rfl (c1 := 121) (s1 := 1494679) rfl rfl (fun v w hp => ?_)
    rcases hp with ⟨g_66, rfl, rfl⟩ | ⟨g_67, g_68, rfl, rfl⟩ | ⟨g_69, g_70, g_71, rfl, rfl⟩ | ⟨g_72, g_73, g_74, g_75, rfl, rfl⟩ | ⟨g_76, g_77, g_78, g_79, g_80, rfl, rfl⟩ | ⟨g_81, g_82, g_83, g_84, g_85, g_86, rfl, rfl⟩ | ⟨g_87, g_88, g_89, g_90, g_91, g_92, g_93, rfl, rfl⟩ | ⟨g_94, g_95, g_96, g_97, g_98, g_99, g_100, g_101, rfl, rfl⟩ | ⟨g_102, g_103, g_104, g_105, g_106, g_107, g_108, g_109, g_110, rfl, rfl⟩ | ⟨g_111, g_112, g_113, g_114, g_115, g_116, g_117, g_118, g_119, g_120, rfl, rfl⟩ | ⟨g_121, g_122, g_123, g_124, g_125, g_126, g_127, g_128, g_129, g_130, rfl, rfl⟩
    · refine zk_stk (r' := [.int 0, .int 0]) rfl ?_
      refine zk_icmp_eq (tgt := 476) C kd_law_471 (by decide) rfl (fun h_131 => ?_) (fun h_131 => absurd (by decide) h_131)
      refine zk_iinc (v := 6) (lv' := [(3, _), (0, _), (1, _), (2, _)]) C kd_law_476 3 rfl (by decide) (by decide) rfl rfl ?_
      refine zk_goto (tgt := 18) C kd_law_479 (by decide) ?_
      exact zk_lvs (lv' := [(0, .ref b), (3, .int 6)]) [1, 0] rfl (tail _)
    · exact absurd g_1 g_67
    · exact absurd g_1 g_69
    · exact absurd g_1 g_72
    · exact absurd g_1 g_76
    · exact absurd g_1 g_81
    · exact absurd g_1 g_87
    · exact absurd g_1 g_94
    · exact absurd g_1 g_102
    · exact absurd g_1 g_111
    · exact absurd g_1 g_121
  · refine zk_stk (r' := [.int (-5)]) rfl ?_
    refine zk_aload_n C kd_law_462 rfl 2 rfl rfl ?_
    refine zk_aload_n C kd_law_463 rfl 0 rfl rfl ?_
    refine zk_iload_n C kd_law_464 rfl 3 rfl rfl ?_
    refine zk_iconst (v := 1) C kd_law_465 (by decide) rfl ?_
    refine zk_iadd C kd_law_466 rfl ?_
    refine zk_stk (r' := [.int 1, .ref b, .ref (S.1 68), .int (-5)]) (by rw [show (0 : Int32) + 1 = 1 by decide]) ?_
    refine zl_sld C hs (zp_dec rfl) kd_law_467 rfl ?_
    refine zk_stk (r' := [.int (xs 1), .ref (S.1 68), .int (-5)]) rfl ?_
    refine zs_callV (k := 68) (rn := { frames := 0, cells := 0, slots := 0, locals := 0 }) (As := [.int (xs 1)]) (rest := [.int (-5)]) C (zq_count zs_h0 rfl rfl (xs 1)) ku_Mo_count kw2868 kv_Mo_count rfl ⟨by decide, by decide⟩ ⟨by decide, by decide⟩ rfl rfl rfl (Nat.le_of_ble_eq_true rfl) kd_law_468 rfl (c1 := 121) (s1 := 1494679) rfl rfl (fun v w hp => ?_)
    rcases hp with ⟨g_132, rfl, rfl⟩ | ⟨g_133, g_134, rfl, rfl⟩ | ⟨g_135, g_136, g_137, rfl, rfl⟩ | ⟨g_138, g_139, g_140, g_141, rfl, rfl⟩ | ⟨g_142, g_143, g_144, g_145, g_146, rfl, rfl⟩ | ⟨g_147, g_148, g_149, g_150, g_151, g_152, rfl, rfl⟩ | ⟨g_153, g_154, g_155, g_156, g_157, g_158, g_159, rfl, rfl⟩ | ⟨g_160, g_161, g_162, g_163, g_164, g_165, g_166, g_167, rfl, rfl⟩ | ⟨g_168, g_169, g_170, g_171, g_172, g_173, g_174, g_175, g_176, rfl, rfl⟩ | ⟨g_177, g_178, g_179, g_180, g_181, g_182, g_183, g_184, g_185, g_186, rfl, rfl⟩ | ⟨g_187, g_188, g_189, g_190, g_191, g_192, g_193, g_194, g_195, g_196, rfl, rfl⟩
    · exact absurd g_132 g_2
    · refine zk_stk (r' := [.int (-5), .int (-5)]) rfl ?_
      refine zk_icmp_eq (tgt := 476) C kd_law_471 (by decide) rfl (fun h_197 => ?_) (fun h_197 => absurd (by decide) h_197)
      refine zk_iinc (v := 6) (lv' := [(3, _), (0, _), (1, _), (2, _)]) C kd_law_476 3 rfl (by decide) (by decide) rfl rfl ?_
      refine zk_goto (tgt := 18) C kd_law_479 (by decide) ?_
      exact zk_lvs (lv' := [(0, .ref b), (3, .int 6)]) [1, 0] rfl (tail _)
    · exact absurd g_3 g_136
    · exact absurd g_3 g_139
    · exact absurd g_3 g_143
    · exact absurd g_3 g_148
    · exact absurd g_3 g_154
    · exact absurd g_3 g_161
    · exact absurd g_3 g_169
    · exact absurd g_3 g_178
    · exact absurd g_3 g_188
  · refine zk_stk (r' := [.int 0]) rfl ?_
    refine zk_aload_n C kd_law_462 rfl 2 rfl rfl ?_
    refine zk_aload_n C kd_law_463 rfl 0 rfl rfl ?_
    refine zk_iload_n C kd_law_464 rfl 3 rfl rfl ?_
    refine zk_iconst (v := 1) C kd_law_465 (by decide) rfl ?_
    refine zk_iadd C kd_law_466 rfl ?_
    refine zk_stk (r' := [.int 1, .ref b, .ref (S.1 68), .int 0]) (by rw [show (0 : Int32) + 1 = 1 by decide]) ?_
    refine zl_sld C hs (zp_dec rfl) kd_law_467 rfl ?_
    refine zk_stk (r' := [.int (xs 1), .ref (S.1 68), .int 0]) rfl ?_
    refine zs_callV (k := 68) (rn := { frames := 0, cells := 0, slots := 0, locals := 0 }) (As := [.int (xs 1)]) (rest := [.int 0]) C (zq_count zs_h0 rfl rfl (xs 1)) ku_Mo_count kw2868 kv_Mo_count rfl ⟨by decide, by decide⟩ ⟨by decide, by decide⟩ rfl rfl rfl (Nat.le_of_ble_eq_true rfl) kd_law_468 rfl (c1 := 121) (s1 := 1494679) rfl rfl (fun v w hp => ?_)
    rcases hp with ⟨g_198, rfl, rfl⟩ | ⟨g_199, g_200, rfl, rfl⟩ | ⟨g_201, g_202, g_203, rfl, rfl⟩ | ⟨g_204, g_205, g_206, g_207, rfl, rfl⟩ | ⟨g_208, g_209, g_210, g_211, g_212, rfl, rfl⟩ | ⟨g_213, g_214, g_215, g_216, g_217, g_218, rfl, rfl⟩ | ⟨g_219, g_220, g_221, g_222, g_223, g_224, g_225, rfl, rfl⟩ | ⟨g_226, g_227, g_228, g_229, g_230, g_231, g_232, g_233, rfl, rfl⟩ | ⟨g_234, g_235, g_236, g_237, g_238, g_239, g_240, g_241, g_242, rfl, rfl⟩ | ⟨g_243, g_244, g_245, g_246, g_247, g_248, g_249, g_250, g_251, g_252, rfl, rfl⟩ | ⟨g_253, g_254, g_255, g_256, g_257, g_258, g_259, g_260, g_261, g_262, rfl, rfl⟩
    · exact absurd g_198 g_4
    · exact absurd g_200 g_5
    · refine zk_stk (r' := [.int 0, .int 0]) rfl ?_
      refine zk_icmp_eq (tgt := 476) C kd_law_471 (by decide) rfl (fun h_263 => ?_) (fun h_263 => absurd (by decide) h_263)
      refine zk_iinc (v := 6) (lv' := [(3, _), (0, _), (1, _), (2, _)]) C kd_law_476 3 rfl (by decide) (by decide) rfl rfl ?_
      refine zk_goto (tgt := 18) C kd_law_479 (by decide) ?_
      exact zk_lvs (lv' := [(0, .ref b), (3, .int 6)]) [1, 0] rfl (tail _)
    · exact absurd g_6 g_206
    · exact absurd g_6 g_210
    · exact absurd g_6 g_215
    · exact absurd g_6 g_221
    · exact absurd g_6 g_228
    · exact absurd g_6 g_236
    · exact absurd g_6 g_245
    · exact absurd g_6 g_255
  · refine zk_stk (r' := [.int 0]) rfl ?_
    refine zk_aload_n C kd_law_462 rfl 2 rfl rfl ?_
    refine zk_aload_n C kd_law_463 rfl 0 rfl rfl ?_
    refine zk_iload_n C kd_law_464 rfl 3 rfl rfl ?_
    refine zk_iconst (v := 1) C kd_law_465 (by decide) rfl ?_
    refine zk_iadd C kd_law_466 rfl ?_
    refine zk_stk (r' := [.int 1, .ref b, .ref (S.1 68), .int 0]) (by rw [show (0 : Int32) + 1 = 1 by decide]) ?_
    refine zl_sld C hs (zp_dec rfl) kd_law_467 rfl ?_
    refine zk_stk (r' := [.int (xs 1), .ref (S.1 68), .int 0]) rfl ?_
    refine zs_callV (k := 68) (rn := { frames := 0, cells := 0, slots := 0, locals := 0 }) (As := [.int (xs 1)]) (rest := [.int 0]) C (zq_count zs_h0 rfl rfl (xs 1)) ku_Mo_count kw2868 kv_Mo_count rfl ⟨by decide, by decide⟩ ⟨by decide, by decide⟩ rfl rfl rfl (Nat.le_of_ble_eq_true rfl) kd_law_468 rfl (c1 := 121) (s1 := 1494679) rfl rfl (fun v w hp => ?_)
    rcases hp with ⟨g_264, rfl, rfl⟩ | ⟨g_265, g_266, rfl, rfl⟩ | ⟨g_267, g_268, g_269, rfl, rfl⟩ | ⟨g_270, g_271, g_272, g_273, rfl, rfl⟩ | ⟨g_274, g_275, g_276, g_277, g_278, rfl, rfl⟩ | ⟨g_279, g_280, g_281, g_282, g_283, g_284, rfl, rfl⟩ | ⟨g_285, g_286, g_287, g_288, g_289, g_290, g_291, rfl, rfl⟩ | ⟨g_292, g_293, g_294, g_295, g_296, g_297, g_298, g_299, rfl, rfl⟩ | ⟨g_300, g_301, g_302, g_303, g_304, g_305, g_306, g_307, g_308, rfl, rfl⟩ | ⟨g_309, g_310, g_311, g_312, g_313, g_314, g_315, g_316, g_317, g_318, rfl, rfl⟩ | ⟨g_319, g_320, g_321, g_322, g_323, g_324, g_325, g_326, g_327, g_328, rfl, rfl⟩
    · exact absurd g_264 g_7
    · exact absurd g_266 g_8
    · exact absurd g_269 g_9
    · refine zk_stk (r' := [.int 0, .int 0]) rfl ?_
      refine zk_icmp_eq (tgt := 476) C kd_law_471 (by decide) rfl (fun h_329 => ?_) (fun h_329 => absurd (by decide) h_329)
      refine zk_iinc (v := 6) (lv' := [(3, _), (0, _), (1, _), (2, _)]) C kd_law_476 3 rfl (by decide) (by decide) rfl rfl ?_
      refine zk_goto (tgt := 18) C kd_law_479 (by decide) ?_
      exact zk_lvs (lv' := [(0, .ref b), (3, .int 6)]) [1, 0] rfl (tail _)
    · exact absurd g_10 g_277
    · exact absurd g_10 g_282
    · exact absurd g_10 g_288
    · exact absurd g_10 g_295
    · exact absurd g_10 g_303
    · exact absurd g_10 g_312
    · exact absurd g_10 g_322
  · refine zk_stk (r' := [.int 0]) rfl ?_
    refine zk_aload_n C kd_law_462 rfl 2 rfl rfl ?_
    refine zk_aload_n C kd_law_463 rfl 0 rfl rfl ?_
    refine zk_iload_n C kd_law_464 rfl 3 rfl rfl ?_
    refine zk_iconst (v := 1) C kd_law_465 (by decide) rfl ?_
    refine zk_iadd C kd_law_466 rfl ?_
    refine zk_stk (r' := [.int 1, .ref b, .ref (S.1 68), .int 0]) (by rw [show (0 : Int32) + 1 = 1 by decide]) ?_
    refine zl_sld C hs (zp_dec rfl) kd_law_467 rfl ?_
    refine zk_stk (r' := [.int (xs 1), .ref (S.1 68), .int 0]) rfl ?_
    refine zs_callV (k := 68) (rn := { frames := 0, cells := 0, slots := 0, locals := 0 }) (As := [.int (xs 1)]) (rest := [.int 0]) C (zq_count zs_h0 rfl rfl (xs 1)) ku_Mo_count kw2868 kv_Mo_count rfl ⟨by decide, by decide⟩ ⟨by decide, by decide⟩ rfl rfl rfl (Nat.le_of_ble_eq_true rfl) kd_law_468 rfl (c1 := 121) (s1 := 1494679) rfl rfl (fun v w hp => ?_)
    rcases hp with ⟨g_330, rfl, rfl⟩ | ⟨g_331, g_332, rfl, rfl⟩ | ⟨g_333, g_334, g_335, rfl, rfl⟩ | ⟨g_336, g_337, g_338, g_339, rfl, rfl⟩ | ⟨g_340, g_341, g_342, g_343, g_344, rfl, rfl⟩ | ⟨g_345, g_346, g_347, g_348, g_349, g_350, rfl, rfl⟩ | ⟨g_351, g_352, g_353, g_354, g_355, g_356, g_357, rfl, rfl⟩ | ⟨g_358, g_359, g_360, g_361, g_362, g_363, g_364, g_365, rfl, rfl⟩ | ⟨g_366, g_367, g_368, g_369, g_370, g_371, g_372, g_373, g_374, rfl, rfl⟩ | ⟨g_375, g_376, g_377, g_378, g_379, g_380, g_381, g_382, g_383, g_384, rfl, rfl⟩ | ⟨g_385, g_386, g_387, g_388, g_389, g_390, g_391, g_392, g_393, g_394, rfl, rfl⟩
    · exact absurd g_330 g_11
    · exact absurd g_332 g_12
    · exact absurd g_335 g_13
    · exact absurd g_339 g_14
    · refine zk_stk (r' := [.int 0, .int 0]) rfl ?_
      refine zk_icmp_eq (tgt := 476) C kd_law_471 (by decide) rfl (fun h_395 => ?_) (fun h_395 => absurd (by decide) h_395)
      refine zk_iinc (v := 6) (lv' := [(3, _), (0, _), (1, _), (2, _)]) C kd_law_476 3 rfl (by decide) (by decide) rfl rfl ?_
      refine zk_goto (tgt := 18) C kd_law_479 (by decide) ?_
      exact zk_lvs (lv' := [(0, .ref b), (3, .int 6)]) [1, 0] rfl (tail _)
    · exact absurd g_15 g_349
    · exact absurd g_15 g_355
    · exact absurd g_15 g_362
    · exact absurd g_15 g_370
    · exact absurd g_15 g_379
    · exact absurd g_15 g_389
  · refine zk_stk (r' := [.int 0]) rfl ?_
    refine zk_aload_n C kd_law_462 rfl 2 rfl rfl ?_
    refine zk_aload_n C kd_law_463 rfl 0 rfl rfl ?_
    refine zk_iload_n C kd_law_464 rfl 3 rfl rfl ?_
    refine zk_iconst (v := 1) C kd_law_465 (by decide) rfl ?_
    refine zk_iadd C kd_law_466 rfl ?_
    refine zk_stk (r' := [.int 1, .ref b, .ref (S.1 68), .int 0]) (by rw [show (0 : Int32) + 1 = 1 by decide]) ?_
    refine zl_sld C hs (zp_dec rfl) kd_law_467 rfl ?_
    refine zk_stk (r' := [.int (xs 1), .ref (S.1 68), .int 0]) rfl ?_
    refine zs_callV (k := 68) (rn := { frames := 0, cells := 0, slots := 0, locals := 0 }) (As := [.int (xs 1)]) (rest := [.int 0]) C (zq_count zs_h0 rfl rfl (xs 1)) ku_Mo_count kw2868 kv_Mo_count rfl ⟨by decide, by decide⟩ ⟨by decide, by decide⟩ rfl rfl rfl (Nat.le_of_ble_eq_true rfl) kd_law_468 rfl (c1 := 121) (s1 := 1494679) rfl rfl (fun v w hp => ?_)
    rcases hp with ⟨g_396, rfl, rfl⟩ | ⟨g_397, g_398, rfl, rfl⟩ | ⟨g_399, g_400, g_401, rfl, rfl⟩ | ⟨g_402, g_403, g_404, g_405, rfl, rfl⟩ | ⟨g_406, g_407, g_408, g_409, g_410, rfl, rfl⟩ | ⟨g_411, g_412, g_413, g_414, g_415, g_416, rfl, rfl⟩ | ⟨g_417, g_418, g_419, g_420, g_421, g_422, g_423, rfl, rfl⟩ | ⟨g_424, g_425, g_426, g_427, g_428, g_429, g_430, g_431, rfl, rfl⟩ | ⟨g_432, g_433, g_434, g_435, g_436, g_437, g_438, g_439, g_440, rfl, rfl⟩ | ⟨g_441, g_442, g_443, g_444, g_445, g_446, g_447, g_448, g_449, g_450, rfl, rfl⟩ | ⟨g_451, g_452, g_453, g_454, g_455, g_456, g_457, g_458, g_459, g_460, rfl, rfl⟩
    · exact absurd g_396 g_16
    · exact absurd g_398 g_17
    · exact absurd g_401 g_18
    · exact absurd g_405 g_19
    · exact absurd g_410 g_20
    · refine zk_stk (r' := [.int 0, .int 0]) rfl ?_
      refine zk_icmp_eq (tgt := 476) C kd_law_471 (by decide) rfl (fun h_461 => ?_) (fun h_461 => absurd (by decide) h_461)
      refine zk_iinc (v := 6) (lv' := [(3, _), (0, _), (1, _), (2, _)]) C kd_law_476 3 rfl (by decide) (by decide) rfl rfl ?_
      refine zk_goto (tgt := 18) C kd_law_479 (by decide) ?_
      exact zk_lvs (lv' := [(0, .ref b), (3, .int 6)]) [1, 0] rfl (tail _)
    · exact absurd g_21 g_422
    · exact absurd g_21 g_429
    · exact absurd g_21 g_437
    · exact absurd g_21 g_446
    · exact absurd g_21 g_456
  · refine zk_stk (r' := [.int 0]) rfl ?_
    refine zk_aload_n C kd_law_462 rfl 2 rfl rfl ?_
    refine zk_aload_n C kd_law_463 rfl 0 rfl rfl ?_
    refine zk_iload_n C kd_law_464 rfl 3 rfl rfl ?_
    refine zk_iconst (v := 1) C kd_law_465 (by decide) rfl ?_
    refine zk_iadd C kd_law_466 rfl ?_
    refine zk_stk (r' := [.int 1, .ref b, .ref (S.1 68), .int 0]) (by rw [show (0 : Int32) + 1 = 1 by decide]) ?_
    refine zl_sld C hs (zp_dec rfl) kd_law_467 rfl ?_
    refine zk_stk (r' := [.int (xs 1), .ref (S.1 68), .int 0]) rfl ?_
    refine zs_callV (k := 68) (rn := { frames := 0, cells := 0, slots := 0, locals := 0 }) (As := [.int (xs 1)]) (rest := [.int 0]) C (zq_count zs_h0 rfl rfl (xs 1)) ku_Mo_count kw2868 kv_Mo_count rfl ⟨by decide, by decide⟩ ⟨by decide, by decide⟩ rfl rfl rfl (Nat.le_of_ble_eq_true rfl) kd_law_468 rfl (c1 := 121) (s1 := 1494679) rfl rfl (fun v w hp => ?_)
    rcases hp with ⟨g_462, rfl, rfl⟩ | ⟨g_463, g_464, rfl, rfl⟩ | ⟨g_465, g_466, g_467, rfl, rfl⟩ | ⟨g_468, g_469, g_470, g_471, rfl, rfl⟩ | ⟨g_472, g_473, g_474, g_475, g_476, rfl, rfl⟩ | ⟨g_477, g_478, g_479, g_480, g_481, g_482, rfl, rfl⟩ | ⟨g_483, g_484, g_485, g_486, g_487, g_488, g_489, rfl, rfl⟩ | ⟨g_490, g_491, g_492, g_493, g_494, g_495, g_496, g_497, rfl, rfl⟩ | ⟨g_498, g_499, g_500, g_501, g_502, g_503, g_504, g_505, g_506, rfl, rfl⟩ | ⟨g_507, g_508, g_509, g_510, g_511, g_512, g_513, g_514, g_515, g_516, rfl, rfl⟩ | ⟨g_517, g_518, g_519, g_520, g_521, g_522, g_523, g_524, g_525, g_526, rfl, rfl⟩
    · exact absurd g_462 g_22
    · exact absurd g_464 g_23
    · exact absurd g_467 g_24
    · exact absurd g_471 g_25
    · exact absurd g_476 g_26
    · exact absurd g_482 g_27
    · refine zk_stk (r' := [.int 0, .int 0]) rfl ?_
      refine zk_icmp_eq (tgt := 476) C kd_law_471 (by decide) rfl (fun h_527 => ?_) (fun h_527 => absurd (by decide) h_527)
      refine zk_iinc (v := 6) (lv' := [(3, _), (0, _), (1, _), (2, _)]) C kd_law_476 3 rfl (by decide) (by decide) rfl rfl ?_
      refine zk_goto (tgt := 18) C kd_law_479 (by decide) ?_
      exact zk_lvs (lv' := [(0, .ref b), (3, .int 6)]) [1, 0] rfl (tail _)
    · exact absurd g_28 g_496
    · exact absurd g_28 g_504
    · exact absurd g_28 g_513
    · exact absurd g_28 g_523
  · refine zk_stk (r' := [.int 0]) rfl ?_
    refine zk_aload_n C kd_law_462 rfl 2 rfl rfl ?_
    refine zk_aload_n C kd_law_463 rfl 0 rfl rfl ?_
    refine zk_iload_n C kd_law_464 rfl 3 rfl rfl ?_
    refine zk_iconst (v := 1) C kd_law_465 (by decide) rfl ?_
    refine zk_iadd C kd_law_466 rfl ?_
    refine zk_stk (r' := [.int 1, .ref b, .ref (S.1 68), .int 0]) (by rw [show (0 : Int32) + 1 = 1 by decide]) ?_
    refine zl_sld C hs (zp_dec rfl) kd_law_467 rfl ?_
    refine zk_stk (r' := [.int (xs 1), .ref (S.1 68), .int 0]) rfl ?_
    refine zs_callV (k := 68) (rn := { frames := 0, cells := 0, slots := 0, locals := 0 }) (As := [.int (xs 1)]) (rest := [.int 0]) C (zq_count zs_h0 rfl rfl (xs 1)) ku_Mo_count kw2868 kv_Mo_count rfl ⟨by decide, by decide⟩ ⟨by decide, by decide⟩ rfl rfl rfl (Nat.le_of_ble_eq_true rfl) kd_law_468 rfl (c1 := 121) (s1 := 1494679) rfl rfl (fun v w hp => ?_)
    rcases hp with ⟨g_528, rfl, rfl⟩ | ⟨g_529, g_530, rfl, rfl⟩ | ⟨g_531, g_532, g_533, rfl, rfl⟩ | ⟨g_534, g_535, g_536, g_537, rfl, rfl⟩ | ⟨g_538, g_539, g_540, g_541, g_542, rfl, rfl⟩ | ⟨g_543, g_544, g_545, g_546, g_547, g_548, rfl, rfl⟩ | ⟨g_549, g_550, g_551, g_552, g_553, g_554, g_555, rfl, rfl⟩ | ⟨g_556, g_557, g_558, g_559, g_560, g_561, g_562, g_563, rfl, rfl⟩ | ⟨g_564, g_565, g_566, g_567, g_568, g_569, g_570, g_571, g_572, rfl, rfl⟩ | ⟨g_573, g_574, g_575, g_576, g_577, g_578, g_579, g_580, g_581, g_582, rfl, rfl⟩ | ⟨g_583, g_584, g_585, g_586, g_587, g_588, g_589, g_590, g_591, g_592, rfl, rfl⟩
    · exact absurd g_528 g_29
    · exact absurd g_530 g_30
    · exact absurd g_533 g_31
    · exact absurd g_537 g_32
    · exact absurd g_542 g_33
    · exact absurd g_548 g_34
    · exact absurd g_555 g_35
    · refine zk_stk (r' := [.int 0, .int 0]) rfl ?_
      refine zk_icmp_eq (tgt := 476) C kd_law_471 (by decide) rfl (fun h_593 => ?_) (fun h_593 => absurd (by decide) h_593)
      refine zk_iinc (v := 6) (lv' := [(3, _), (0, _), (1, _), (2, _)]) C kd_law_476 3 rfl (by decide) (by decide) rfl rfl ?_
      refine zk_goto (tgt := 18) C kd_law_479 (by decide) ?_
      exact zk_lvs (lv' := [(0, .ref b), (3, .int 6)]) [1, 0] rfl (tail _)
    · exact absurd g_36 g_571
    · exact absurd g_36 g_580
    · exact absurd g_36 g_590
  · refine zk_stk (r' := [.int 0]) rfl ?_
    refine zk_aload_n C kd_law_462 rfl 2 rfl rfl ?_
    refine zk_aload_n C kd_law_463 rfl 0 rfl rfl ?_
    refine zk_iload_n C kd_law_464 rfl 3 rfl rfl ?_
    refine zk_iconst (v := 1) C kd_law_465 (by decide) rfl ?_
    refine zk_iadd C kd_law_466 rfl ?_
    refine zk_stk (r' := [.int 1, .ref b, .ref (S.1 68), .int 0]) (by rw [show (0 : Int32) + 1 = 1 by decide]) ?_
    refine zl_sld C hs (zp_dec rfl) kd_law_467 rfl ?_
    refine zk_stk (r' := [.int (xs 1), .ref (S.1 68), .int 0]) rfl ?_
    refine zs_callV (k := 68) (rn := { frames := 0, cells := 0, slots := 0, locals := 0 }) (As := [.int (xs 1)]) (rest := [.int 0]) C (zq_count zs_h0 rfl rfl (xs 1)) ku_Mo_count kw2868 kv_Mo_count rfl ⟨by decide, by decide⟩ ⟨by decide, by decide⟩ rfl rfl rfl (Nat.le_of_ble_eq_true rfl) kd_law_468 rfl (c1 := 121) (s1 := 1494679) rfl rfl (fun v w hp => ?_)
    rcases hp with ⟨g_594, rfl, rfl⟩ | ⟨g_595, g_596, rfl, rfl⟩ | ⟨g_597, g_598, g_599, rfl, rfl⟩ | ⟨g_600, g_601, g_602, g_603, rfl, rfl⟩ | ⟨g_604, g_605, g_606, g_607, g_608, rfl, rfl⟩ | ⟨g_609, g_610, g_611, g_612, g_613, g_614, rfl, rfl⟩ | ⟨g_615, g_616, g_617, g_618, g_619, g_620, g_621, rfl, rfl⟩ | ⟨g_622, g_623, g_624, g_625, g_626, g_627, g_628, g_629, rfl, rfl⟩ | ⟨g_630, g_631, g_632, g_633, g_634, g_635, g_636, g_637, g_638, rfl, rfl⟩ | ⟨g_639, g_640, g_641, g_642, g_643, g_644, g_645, g_646, g_647, g_648, rfl, rfl⟩ | ⟨g_649, g_650, g_651, g_652, g_653, g_654, g_655, g_656, g_657, g_658, rfl, rfl⟩
    · exact absurd g_594 g_37
    · exact absurd g_596 g_38
    · exact absurd g_599 g_39
    · exact absurd g_603 g_40
    · exact absurd g_608 g_41
    · exact absurd g_614 g_42
    · exact absurd g_621 g_43
    · exact absurd g_629 g_44
    · refine zk_stk (r' := [.int 0, .int 0]) rfl ?_
      refine zk_icmp_eq (tgt := 476) C kd_law_471 (by decide) rfl (fun h_659 => ?_) (fun h_659 => absurd (by decide) h_659)
      refine zk_iinc (v := 6) (lv' := [(3, _), (0, _), (1, _), (2, _)]) C kd_law_476 3 rfl (by decide) (by decide) rfl rfl ?_
      refine zk_goto (tgt := 18) C kd_law_479 (by decide) ?_
      exact zk_lvs (lv' := [(0, .ref b), (3, .int 6)]) [1, 0] rfl (tail _)
    · exact absurd g_45 g_647
    · exact absurd g_45 g_657
  · refine zk_stk (r' := [.int 0]) rfl ?_
    refine zk_aload_n C kd_law_462 rfl 2 rfl rfl ?_
    refine zk_aload_n C kd_law_463 rfl 0 rfl rfl ?_
    refine zk_iload_n C kd_law_464 rfl 3 rfl rfl ?_
    refine zk_iconst (v := 1) C kd_law_465 (by decide) rfl ?_
    refine zk_iadd C kd_law_466 rfl ?_
    refine zk_stk (r' := [.int 1, .ref b, .ref (S.1 68), .int 0]) (by rw [show (0 : Int32) + 1 = 1 by decide]) ?_
    refine zl_sld C hs (zp_dec rfl) kd_law_467 rfl ?_
    refine zk_stk (r' := [.int (xs 1), .ref (S.1 68), .int 0]) rfl ?_
    refine zs_callV (k := 68) (rn := { frames := 0, cells := 0, slots := 0, locals := 0 }) (As := [.int (xs 1)]) (rest := [.int 0]) C (zq_count zs_h0 rfl rfl (xs 1)) ku_Mo_count kw2868 kv_Mo_count rfl ⟨by decide, by decide⟩ ⟨by decide, by decide⟩ rfl rfl rfl (Nat.le_of_ble_eq_true rfl) kd_law_468 rfl (c1 := 121) (s1 := 1494679) rfl rfl (fun v w hp => ?_)
    rcases hp with ⟨g_660, rfl, rfl⟩ | ⟨g_661, g_662, rfl, rfl⟩ | ⟨g_663, g_664, g_665, rfl, rfl⟩ | ⟨g_666, g_667, g_668, g_669, rfl, rfl⟩ | ⟨g_670, g_671, g_672, g_673, g_674, rfl, rfl⟩ | ⟨g_675, g_676, g_677, g_678, g_679, g_680, rfl, rfl⟩ | ⟨g_681, g_682, g_683, g_684, g_685, g_686, g_687, rfl, rfl⟩ | ⟨g_688, g_689, g_690, g_691, g_692, g_693, g_694, g_695, rfl, rfl⟩ | ⟨g_696, g_697, g_698, g_699, g_700, g_701, g_702, g_703, g_704, rfl, rfl⟩ | ⟨g_705, g_706, g_707, g_708, g_709, g_710, g_711, g_712, g_713, g_714, rfl, rfl⟩ | ⟨g_715, g_716, g_717, g_718, g_719, g_720, g_721, g_722, g_723, g_724, rfl, rfl⟩
    · exact absurd g_660 g_46
    · exact absurd g_662 g_47
    · exact absurd g_665 g_48
    · exact absurd g_669 g_49
    · exact absurd g_674 g_50
    · exact absurd g_680 g_51
    · exact absurd g_687 g_52
    · exact absurd g_695 g_53
    · exact absurd g_704 g_54
    · refine zk_stk (r' := [.int 0, .int 0]) rfl ?_
      refine zk_icmp_eq (tgt := 476) C kd_law_471 (by decide) rfl (fun h_725 => ?_) (fun h_725 => absurd (by decide) h_725)
      refine zk_iinc (v := 6) (lv' := [(3, _), (0, _), (1, _), (2, _)]) C kd_law_476 3 rfl (by decide) (by decide) rfl rfl ?_
      refine zk_goto (tgt := 18) C kd_law_479 (by decide) ?_
      exact zk_lvs (lv' := [(0, .ref b), (3, .int 6)]) [1, 0] rfl (tail _)
    · exact absurd g_55 g_724
  · refine zk_stk (r' := [.int (-1)]) rfl ?_
    refine zk_aload_n C kd_law_462 rfl 2 rfl rfl ?_
    refine zk_aload_n C kd_law_463 rfl 0 rfl rfl ?_
    refine zk_iload_n C kd_law_464 rfl 3 rfl rfl ?_
    refine zk_iconst (v := 1) C kd_law_465 (by decide) rfl ?_
    refine zk_iadd C kd_law_466 rfl ?_
    refine zk_stk (r' := [.int 1, .ref b, .ref (S.1 68), .int (-1)]) (by rw [show (0 : Int32) + 1 = 1 by decide]) ?_
    refine zl_sld C hs (zp_dec rfl) kd_law_467 rfl ?_
    refine zk_stk (r' := [.int (xs 1), .ref (S.1 68), .int (-1)]) rfl ?_
    refine zs_callV (k := 68) (rn := { frames := 0, cells := 0, slots := 0, locals := 0 }) (As := [.int (xs 1)]) (rest := [.int (-1)]) C (zq_count zs_h0 rfl rfl (xs 1)) ku_Mo_count kw2868 kv_Mo_count rfl ⟨by decide, by decide⟩ ⟨by decide, by decide⟩ rfl rfl rfl (Nat.le_of_ble_eq_true rfl) kd_law_468 rfl (c1 := 121) (s1 := 1494679) rfl rfl (fun v w hp => ?_)
    rcases hp with ⟨g_726, rfl, rfl⟩ | ⟨g_727, g_728, rfl, rfl⟩ | ⟨g_729, g_730, g_731, rfl, rfl⟩ | ⟨g_732, g_733, g_734, g_735, rfl, rfl⟩ | ⟨g_736, g_737, g_738, g_739, g_740, rfl, rfl⟩ | ⟨g_741, g_742, g_743, g_744, g_745, g_746, rfl, rfl⟩ | ⟨g_747, g_748, g_749, g_750, g_751, g_752, g_753, rfl, rfl⟩ | ⟨g_754, g_755, g_756, g_757, g_758, g_759, g_760, g_761, rfl, rfl⟩ | ⟨g_762, g_763, g_764, g_765, g_766, g_767, g_768, g_769, g_770, rfl, rfl⟩ | ⟨g_771, g_772, g_773, g_774, g_775, g_776, g_777, g_778, g_779, g_780, rfl, rfl⟩ | ⟨g_781, g_782, g_783, g_784, g_785, g_786, g_787, g_788, g_789, g_790, rfl, rfl⟩
    · exact absurd g_726 g_56
    · exact absurd g_728 g_57
    · exact absurd g_731 g_58
    · exact absurd g_735 g_59
    · exact absurd g_740 g_60
    · exact absurd g_746 g_61
    · exact absurd g_753 g_62
    · exact absurd g_761 g_63
    · exact absurd g_770 g_64
    · exact absurd g_780 g_65
    · refine zk_stk (r' := [.int (-1), .int (-1)]) rfl ?_
      refine zk_icmp_eq (tgt := 476) C kd_law_471 (by decide) rfl (fun h_791 => ?_) (fun h_791 => absurd (by decide) h_791)
      refine zk_iinc (v := 6) (lv' := [(3, _), (0, _), (1, _), (2, _)]) C kd_law_476 3 rfl (by decide) (by decide) rfl rfl ?_
      refine zk_goto (tgt := 18) C kd_law_479 (by decide) ?_
      exact zk_lvs (lv' := [(0, .ref b), (3, .int 6)]) [1, 0] rfl (tail _)
set_option maxHeartbeats 4000000 in
set_option maxRecDepth 100000 in
theorem zl_c14 {X : zk_T} {S : zs_T} {P : ze_T} {l : Launch} {D : va_G} {sz0 b : Nat} {xs : Nat → Int32} (C : zk_C X km_law (zs_G S l D sz0) room_1 (ze_E P)) (hs : zl_scr X b 6 xs) (tail : ∀ w : va_W, zk_Ab X w 121 1494679 18 [(0, .ref b), (3, .int 6)] []) : zk_Ab X (zs_W S zs_h0) 121 1494679 476 [(0, .ref b), (1, .ref (S.1 0)), (2, .ref (S.1 68)), (3, .int 0)] [] := by
  refine zk_iinc (v := 6) (lv' := [(3, _), (0, _), (1, _), (2, _)]) C kd_law_476 3 rfl (by decide) (by decide) rfl rfl ?_
  refine zk_goto (tgt := 18) C kd_law_479 (by decide) ?_
  exact zk_lvs (lv' := [(0, .ref b), (3, .int 6)]) [1, 0] rfl (tail _)
