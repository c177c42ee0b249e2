/-! The law: its calls. -/
abbrev km_law : zk_MT := (x, code, 4, ret, 1)
def jz_scr (X : zkj_T) (b L : Nat) (xs : Nat → Int32) : Prop := match X with
  | (_, _, _, _, s, _, _, _, _, _, _, _, _, _, sz0, _) => va_X b L xs s s.heap ∧ b < s.heap.size ∧ ¬ zk_A sz0 b
section ZL
variable {X : zkj_T} {M : zk_MT} {G : zk_GT} {rm : Room} {E : Nat → State → Prop} {ws : va_W} {cells slots pc n : Nat} {lv : List (Nat × Value)} {r : List Value}
theorem jz_sld {b L : Nat} {xs : Nat → Int32} {i : Int32} (C : zk_C X M G rm E) (hs : jz_scr X b L xs) (hin : vp_in i L) (d : decode M.2.1 pc = .ok (.iaload, 1)) (hpc : pc + 1 = n) (k : zk_Ab X ws cells slots n lv (.int (xs i.toNatClampNeg) :: r)) : zk_Ab X ws cells slots pc lv (.int i :: .ref b :: r) := by
  obtain ⟨p, l, e, R, s, m, args, below, meth, c, Q, D, cl, tys, sz0, nL⟩ := X
  obtain ⟨⟨hx, hb, hml, hown, hts⟩, hK, hsz, hE, hEm, hG9, hnL9, hrm9, hin0⟩ := C; subst hG9; subst hnL9; subst hrm9
  subst hpc
  exact fun H locs ls hP hD hS h => va_sld hx hb hs.1 hs.2.1 hs.2.2 hS hin d (k H locs ls hP hD hS h)
theorem jz_slen {b L : Nat} {xs : Nat → Int32} (C : zk_C X M G rm E) (hs : jz_scr X b L xs) (d : decode M.2.1 pc = .ok (.arraylength, 1)) (hpc : pc + 1 = n) (k : zk_Ab X ws cells slots n lv (.int (Int32.ofNat L) :: r)) : zk_Ab X ws cells slots pc lv (.ref b :: r) := by
  obtain ⟨p, l, e, R, s, m, args, below, meth, c, Q, D, cl, tys, sz0, nL⟩ := X
  obtain ⟨⟨hx, hb, hml, hown, hts⟩, hK, hsz, hE, hEm, hG9, hnL9, hrm9, hin0⟩ := C; subst hG9; subst hnL9; subst hrm9
  subst hpc
  exact fun H locs ls hP hD hS h => va_slen hx hb hs.1 hs.2.1 hs.2.2 hS d (k H locs ls hP hD hS h)
end ZL
theorem kx668 : Jvm.Cond.methodLink "PlantKeeperLaw" (13 : Nat) ({ cls := "PlantKeeper", name := "feed", desc := "(IIIII)I" } : Jvm.MethodName) ∈ zk_BW := zk_inT 668 (by decide +kernel) rfl
theorem kx676 : Jvm.Cond.methodLink "PlantKeeperLaw" (18 : Nat) ({ cls := "PlantKeeper", name := "end", desc := "(I)I" } : Jvm.MethodName) ∈ zk_BW := zk_inT 676 (by decide +kernel) rfl
theorem kx680 : Jvm.Cond.methodLink "PlantKeeperLaw" (23 : Nat) ({ cls := "PlantKeeper", name := "load", desc := "(I)I" } : Jvm.MethodName) ∈ zk_BW := zk_inT 680 (by decide +kernel) rfl
theorem kx1469 : Jvm.Cond.methodLink "PlantKeeperLaw" (27 : Nat) ({ cls := "PlantKeeper", name := "restart", desc := "()I" } : Jvm.MethodName) ∈ zk_BW := zk_inT 1469 (by decide +kernel) rfl
theorem kx1474 : Jvm.Cond.methodLink "PlantKeeperLaw" (32 : Nat) ({ cls := "PlantKeeper", name := "put", desc := "(III)I" } : Jvm.MethodName) ∈ zk_BW := zk_inT 1474 (by decide +kernel) rfl
theorem kx1489 : Jvm.Cond.methodLink "PlantKeeperLaw" (37 : Nat) ({ cls := "PlantKeeper", name := "get", desc := "(II)I" } : Jvm.MethodName) ∈ zk_BW := zk_inT 1489 (by decide +kernel) rfl
theorem kx1497 : Jvm.Cond.methodLink "PlantKeeperLaw" (42 : Nat) ({ cls := "PlantKeeper", name := "safe", desc := "(III)I" } : Jvm.MethodName) ∈ zk_BW := zk_inT 1497 (by decide +kernel) rfl
theorem kx1501 : Jvm.Cond.methodLink "PlantKeeperLaw" (46 : Nat) ({ cls := "PlantKeeper", name := "scan", desc := "(I)I" } : Jvm.MethodName) ∈ zk_BW := zk_inT 1501 (by decide +kernel) rfl
theorem kx1571 : Jvm.Cond.methodLink "PlantKeeperLaw" (50 : Nat) ({ cls := "PlantKeeper", name := "watch", desc := "()I" } : Jvm.MethodName) ∈ zk_BW := zk_inT 1571 (by decide +kernel) rfl
theorem kx1599 : Jvm.Cond.methodLink "PlantKeeperLaw" (54 : Nat) ({ cls := "PlantKeeper", name := "watched", desc := "()I" } : Jvm.MethodName) ∈ zk_BW := zk_inT 1599 (by decide +kernel) rfl
theorem kx1603 : Jvm.Cond.methodLink "PlantKeeperLaw" (58 : Nat) ({ cls := "PlantKeeper", name := "frame", desc := "()I" } : Jvm.MethodName) ∈ zk_BW := zk_inT 1603 (by decide +kernel) rfl
theorem kx1663 : Jvm.Cond.methodLink "PlantKeeperLaw" (62 : Nat) ({ cls := "PlantKeeper", name := "station", desc := "(I)I" } : Jvm.MethodName) ∈ zk_BW := zk_inT 1663 (by decide +kernel) rfl
theorem kx1667 : Jvm.Cond.methodLink "PlantKeeperLaw" (66 : Nat) ({ cls := "PlantKeeper", name := "byteAt", desc := "(I)I" } : Jvm.MethodName) ∈ zk_BW := zk_inT 1667 (by decide +kernel) rfl
theorem kx1671 : Jvm.Cond.methodLink "PlantKeeperLaw" (70 : Nat) ({ cls := "PlantKeeper", name := "count", desc := "(I)I" } : Jvm.MethodName) ∈ zk_BW := zk_inT 1671 (by decide +kernel) rfl
theorem kx1972 : Jvm.Cond.methodLink "PlantKeeperLaw" (17 : Nat) ({ cls := "PlantKeeperModel", name := "feed", desc := "(IIIII)I" } : Jvm.MethodName) ∈ zk_BW := zk_inT 1972 (by decide +kernel) rfl
theorem kx1980 : Jvm.Cond.methodLink "PlantKeeperLaw" (22 : Nat) ({ cls := "PlantKeeperModel", name := "end", desc := "(I)I" } : Jvm.MethodName) ∈ zk_BW := zk_inT 1980 (by decide +kernel) rfl
theorem kx1984 : Jvm.Cond.methodLink "PlantKeeperLaw" (26 : Nat) ({ cls := "PlantKeeperModel", name := "load", desc := "(I)I" } : Jvm.MethodName) ∈ zk_BW := zk_inT 1984 (by decide +kernel) rfl
theorem kx2715 : Jvm.Cond.methodLink "PlantKeeperLaw" (31 : Nat) ({ cls := "PlantKeeperModel", name := "restart", desc := "()I" } : Jvm.MethodName) ∈ zk_BW := zk_inT 2715 (by decide +kernel) rfl
theorem kx2719 : Jvm.Cond.methodLink "PlantKeeperLaw" (36 : Nat) ({ cls := "PlantKeeperModel", name := "put", desc := "(III)I" } : Jvm.MethodName) ∈ zk_BW := zk_inT 2719 (by decide +kernel) rfl
theorem kx2732 : Jvm.Cond.methodLink "PlantKeeperLaw" (41 : Nat) ({ cls := "PlantKeeperModel", name := "get", desc := "(II)I" } : Jvm.MethodName) ∈ zk_BW := zk_inT 2732 (by decide +kernel) rfl
theorem kx2736 : Jvm.Cond.methodLink "PlantKeeperLaw" (45 : Nat) ({ cls := "PlantKeeperModel", name := "safe", desc := "(III)I" } : Jvm.MethodName) ∈ zk_BW := zk_inT 2736 (by decide +kernel) rfl
theorem kx2740 : Jvm.Cond.methodLink "PlantKeeperLaw" (49 : Nat) ({ cls := "PlantKeeperModel", name := "scan", desc := "(I)I" } : Jvm.MethodName) ∈ zk_BW := zk_inT 2740 (by decide +kernel) rfl
theorem kx2772 : Jvm.Cond.methodLink "PlantKeeperLaw" (53 : Nat) ({ cls := "PlantKeeperModel", name := "watch", desc := "()I" } : Jvm.MethodName) ∈ zk_BW := zk_inT 2772 (by decide +kernel) rfl
theorem kx2816 : Jvm.Cond.methodLink "PlantKeeperLaw" (57 : Nat) ({ cls := "PlantKeeperModel", name := "watched", desc := "()I" } : Jvm.MethodName) ∈ zk_BW := zk_inT 2816 (by decide +kernel) rfl
theorem kx2820 : Jvm.Cond.methodLink "PlantKeeperLaw" (61 : Nat) ({ cls := "PlantKeeperModel", name := "frame", desc := "()I" } : Jvm.MethodName) ∈ zk_BW := zk_inT 2820 (by decide +kernel) rfl
theorem kx2860 : Jvm.Cond.methodLink "PlantKeeperLaw" (65 : Nat) ({ cls := "PlantKeeperModel", name := "station", desc := "(I)I" } : Jvm.MethodName) ∈ zk_BW := zk_inT 2860 (by decide +kernel) rfl
theorem kx2864 : Jvm.Cond.methodLink "PlantKeeperLaw" (69 : Nat) ({ cls := "PlantKeeperModel", name := "byteAt", desc := "(I)I" } : Jvm.MethodName) ∈ zk_BW := zk_inT 2864 (by decide +kernel) rfl
theorem kx2868 : Jvm.Cond.methodLink "PlantKeeperLaw" (73 : Nat) ({ cls := "PlantKeeperModel", name := "count", desc := "(I)I" } : Jvm.MethodName) ∈ zk_BW := zk_inT 2868 (by decide +kernel) rfl
theorem kd_law_0 : decode code 0 = .ok (.new 7, 3) := by decide +kernel
theorem kd_law_3 : decode code 3 = .ok (.dup, 1) := by decide +kernel
theorem kd_law_4 : decode code 4 = .ok (.invokespecial 9, 3) := by decide +kernel
theorem kd_law_7 : decode code 7 = .ok (.astore_n 1, 1) := by decide +kernel
theorem kd_law_8 : decode code 8 = .ok (.new 10, 3) := by decide +kernel
theorem kd_law_11 : decode code 11 = .ok (.dup, 1) := by decide +kernel
theorem kd_law_12 : decode code 12 = .ok (.invokespecial 12, 3) := by decide +kernel
theorem kd_law_15 : decode code 15 = .ok (.astore_n 2, 1) := by decide +kernel
theorem kd_law_16 : decode code 16 = .ok (.iconst 0, 1) := by decide +kernel
theorem kd_law_17 : decode code 17 = .ok (.istore_n 3, 1) := by decide +kernel
theorem kd_law_18 : decode code 18 = .ok (.iload_n 3, 1) := by decide +kernel
theorem kd_law_19 : decode code 19 = .ok (.aload_n 0, 1) := by decide +kernel
theorem kd_law_20 : decode code 20 = .ok (.arraylength, 1) := by decide +kernel
theorem kd_law_21 : decode code 21 = .ok (.bipush 6, 2) := by decide +kernel
theorem kd_law_23 : decode code 23 = .ok (.isub, 1) := by decide +kernel
theorem kd_law_24 : decode code 24 = .ok (.if_icmp .gt 458, 3) := by decide +kernel
theorem kd_law_27 : decode code 27 = .ok (.aload_n 0, 1) := by decide +kernel
theorem kd_law_28 : decode code 28 = .ok (.iload_n 3, 1) := by decide +kernel
theorem kd_law_29 : decode code 29 = .ok (.iaload, 1) := by decide +kernel
theorem kd_law_30 : decode code 30 = .ok (.bipush 15, 2) := by decide +kernel
theorem kd_law_32 : decode code 32 = .ok (.iand, 1) := by decide +kernel
theorem kd_law_33 : decode code 33 = .ok (.tableswitch 443 0 13 #[71, 134, 157, 180, 193, 236, 269, 312, 335, 348, 361, 374, 397, 420], 71) := by decide +kernel
theorem kd_law_104 : decode code 104 = .ok (.aload_n 1, 1) := by decide +kernel
theorem kd_law_105 : decode code 105 = .ok (.aload_n 0, 1) := by decide +kernel
theorem kd_law_106 : decode code 106 = .ok (.iload_n 3, 1) := by decide +kernel
theorem kd_law_107 : decode code 107 = .ok (.iconst 1, 1) := by decide +kernel
theorem kd_law_108 : decode code 108 = .ok (.iadd, 1) := by decide +kernel
theorem kd_law_109 : decode code 109 = .ok (.iaload, 1) := by decide +kernel
theorem kd_law_110 : decode code 110 = .ok (.aload_n 0, 1) := by decide +kernel
theorem kd_law_111 : decode code 111 = .ok (.iload_n 3, 1) := by decide +kernel
theorem kd_law_112 : decode code 112 = .ok (.iconst 2, 1) := by decide +kernel
theorem kd_law_113 : decode code 113 = .ok (.iadd, 1) := by decide +kernel
theorem kd_law_114 : decode code 114 = .ok (.iaload, 1) := by decide +kernel
theorem kd_law_115 : decode code 115 = .ok (.aload_n 0, 1) := by decide +kernel
theorem kd_law_116 : decode code 116 = .ok (.iload_n 3, 1) := by decide +kernel
theorem kd_law_117 : decode code 117 = .ok (.iconst 3, 1) := by decide +kernel
theorem kd_law_118 : decode code 118 = .ok (.iadd, 1) := by decide +kernel
theorem kd_law_119 : decode code 119 = .ok (.iaload, 1) := by decide +kernel
theorem kd_law_120 : decode code 120 = .ok (.aload_n 0, 1) := by decide +kernel
theorem kd_law_121 : decode code 121 = .ok (.iload_n 3, 1) := by decide +kernel
theorem kd_law_122 : decode code 122 = .ok (.iconst 4, 1) := by decide +kernel
theorem kd_law_123 : decode code 123 = .ok (.iadd, 1) := by decide +kernel
theorem kd_law_124 : decode code 124 = .ok (.iaload, 1) := by decide +kernel
theorem kd_law_125 : decode code 125 = .ok (.aload_n 0, 1) := by decide +kernel
theorem kd_law_126 : decode code 126 = .ok (.iload_n 3, 1) := by decide +kernel
theorem kd_law_127 : decode code 127 = .ok (.iconst 5, 1) := by decide +kernel
theorem kd_law_128 : decode code 128 = .ok (.iadd, 1) := by decide +kernel
theorem kd_law_129 : decode code 129 = .ok (.iaload, 1) := by decide +kernel
theorem kd_law_130 : decode code 130 = .ok (.invokevirtual 13, 3) := by decide +kernel
theorem kd_law_133 : decode code 133 = .ok (.aload_n 2, 1) := by decide +kernel
theorem kd_law_134 : decode code 134 = .ok (.aload_n 0, 1) := by decide +kernel
theorem kd_law_135 : decode code 135 = .ok (.iload_n 3, 1) := by decide +kernel
theorem kd_law_136 : decode code 136 = .ok (.iconst 1, 1) := by decide +kernel
theorem kd_law_137 : decode code 137 = .ok (.iadd, 1) := by decide +kernel
theorem kd_law_138 : decode code 138 = .ok (.iaload, 1) := by decide +kernel
theorem kd_law_139 : decode code 139 = .ok (.aload_n 0, 1) := by decide +kernel
theorem kd_law_140 : decode code 140 = .ok (.iload_n 3, 1) := by decide +kernel
theorem kd_law_141 : decode code 141 = .ok (.iconst 2, 1) := by decide +kernel
theorem kd_law_142 : decode code 142 = .ok (.iadd, 1) := by decide +kernel
theorem kd_law_143 : decode code 143 = .ok (.iaload, 1) := by decide +kernel
theorem kd_law_144 : decode code 144 = .ok (.aload_n 0, 1) := by decide +kernel
theorem kd_law_145 : decode code 145 = .ok (.iload_n 3, 1) := by decide +kernel
theorem kd_law_146 : decode code 146 = .ok (.iconst 3, 1) := by decide +kernel
theorem kd_law_147 : decode code 147 = .ok (.iadd, 1) := by decide +kernel
theorem kd_law_148 : decode code 148 = .ok (.iaload, 1) := by decide +kernel
theorem kd_law_149 : decode code 149 = .ok (.aload_n 0, 1) := by decide +kernel
theorem kd_law_150 : decode code 150 = .ok (.iload_n 3, 1) := by decide +kernel
theorem kd_law_151 : decode code 151 = .ok (.iconst 4, 1) := by decide +kernel
theorem kd_law_152 : decode code 152 = .ok (.iadd, 1) := by decide +kernel
theorem kd_law_153 : decode code 153 = .ok (.iaload, 1) := by decide +kernel
theorem kd_law_154 : decode code 154 = .ok (.aload_n 0, 1) := by decide +kernel
theorem kd_law_155 : decode code 155 = .ok (.iload_n 3, 1) := by decide +kernel
theorem kd_law_156 : decode code 156 = .ok (.iconst 5, 1) := by decide +kernel
theorem kd_law_157 : decode code 157 = .ok (.iadd, 1) := by decide +kernel
theorem kd_law_158 : decode code 158 = .ok (.iaload, 1) := by decide +kernel
theorem kd_law_159 : decode code 159 = .ok (.invokevirtual 17, 3) := by decide +kernel
theorem kd_law_162 : decode code 162 = .ok (.if_icmp .eq 314, 3) := by decide +kernel
theorem kd_law_165 : decode code 165 = .ok (.iconst 0, 1) := by decide +kernel
theorem kd_law_166 : decode code 166 = .ok (.ireturn, 1) := by decide +kernel
theorem kd_law_167 : decode code 167 = .ok (.aload_n 1, 1) := by decide +kernel
theorem kd_law_168 : decode code 168 = .ok (.aload_n 0, 1) := by decide +kernel
theorem kd_law_169 : decode code 169 = .ok (.iload_n 3, 1) := by decide +kernel
theorem kd_law_170 : decode code 170 = .ok (.iconst 1, 1) := by decide +kernel
theorem kd_law_171 : decode code 171 = .ok (.iadd, 1) := by decide +kernel
theorem kd_law_172 : decode code 172 = .ok (.iaload, 1) := by decide +kernel
theorem kd_law_173 : decode code 173 = .ok (.invokevirtual 18, 3) := by decide +kernel
theorem kd_law_176 : decode code 176 = .ok (.aload_n 2, 1) := by decide +kernel
theorem kd_law_177 : decode code 177 = .ok (.aload_n 0, 1) := by decide +kernel
theorem kd_law_178 : decode code 178 = .ok (.iload_n 3, 1) := by decide +kernel
theorem kd_law_179 : decode code 179 = .ok (.iconst 1, 1) := by decide +kernel
theorem kd_law_180 : decode code 180 = .ok (.iadd, 1) := by decide +kernel
theorem kd_law_181 : decode code 181 = .ok (.iaload, 1) := by decide +kernel
theorem kd_law_182 : decode code 182 = .ok (.invokevirtual 22, 3) := by decide +kernel
theorem kd_law_185 : decode code 185 = .ok (.if_icmp .eq 291, 3) := by decide +kernel
theorem kd_law_188 : decode code 188 = .ok (.iconst 0, 1) := by decide +kernel
theorem kd_law_189 : decode code 189 = .ok (.ireturn, 1) := by decide +kernel
theorem kd_law_190 : decode code 190 = .ok (.aload_n 1, 1) := by decide +kernel
theorem kd_law_191 : decode code 191 = .ok (.aload_n 0, 1) := by decide +kernel
theorem kd_law_192 : decode code 192 = .ok (.iload_n 3, 1) := by decide +kernel
theorem kd_law_193 : decode code 193 = .ok (.iconst 1, 1) := by decide +kernel
theorem kd_law_194 : decode code 194 = .ok (.iadd, 1) := by decide +kernel
theorem kd_law_195 : decode code 195 = .ok (.iaload, 1) := by decide +kernel
theorem kd_law_196 : decode code 196 = .ok (.invokevirtual 23, 3) := by decide +kernel
theorem kd_law_199 : decode code 199 = .ok (.aload_n 2, 1) := by decide +kernel
theorem kd_law_200 : decode code 200 = .ok (.aload_n 0, 1) := by decide +kernel
theorem kd_law_201 : decode code 201 = .ok (.iload_n 3, 1) := by decide +kernel
theorem kd_law_202 : decode code 202 = .ok (.iconst 1, 1) := by decide +kernel
theorem kd_law_203 : decode code 203 = .ok (.iadd, 1) := by decide +kernel
theorem kd_law_204 : decode code 204 = .ok (.iaload, 1) := by decide +kernel
theorem kd_law_205 : decode code 205 = .ok (.invokevirtual 26, 3) := by decide +kernel
theorem kd_law_208 : decode code 208 = .ok (.if_icmp .eq 268, 3) := by decide +kernel
theorem kd_law_211 : decode code 211 = .ok (.iconst 0, 1) := by decide +kernel
theorem kd_law_212 : decode code 212 = .ok (.ireturn, 1) := by decide +kernel
theorem kd_law_213 : decode code 213 = .ok (.aload_n 1, 1) := by decide +kernel
theorem kd_law_214 : decode code 214 = .ok (.invokevirtual 27, 3) := by decide +kernel
theorem kd_law_217 : decode code 217 = .ok (.aload_n 2, 1) := by decide +kernel
theorem kd_law_218 : decode code 218 = .ok (.invokevirtual 31, 3) := by decide +kernel
theorem kd_law_221 : decode code 221 = .ok (.if_icmp .eq 255, 3) := by decide +kernel
theorem kd_law_224 : decode code 224 = .ok (.iconst 0, 1) := by decide +kernel
theorem kd_law_225 : decode code 225 = .ok (.ireturn, 1) := by decide +kernel
theorem kd_law_226 : decode code 226 = .ok (.aload_n 1, 1) := by decide +kernel
theorem kd_law_227 : decode code 227 = .ok (.aload_n 0, 1) := by decide +kernel
theorem kd_law_228 : decode code 228 = .ok (.iload_n 3, 1) := by decide +kernel
theorem kd_law_229 : decode code 229 = .ok (.iconst 1, 1) := by decide +kernel
theorem kd_law_230 : decode code 230 = .ok (.iadd, 1) := by decide +kernel
theorem kd_law_231 : decode code 231 = .ok (.iaload, 1) := by decide +kernel
theorem kd_law_232 : decode code 232 = .ok (.aload_n 0, 1) := by decide +kernel
theorem kd_law_233 : decode code 233 = .ok (.iload_n 3, 1) := by decide +kernel
theorem kd_law_234 : decode code 234 = .ok (.iconst 2, 1) := by decide +kernel
theorem kd_law_235 : decode code 235 = .ok (.iadd, 1) := by decide +kernel
theorem kd_law_236 : decode code 236 = .ok (.iaload, 1) := by decide +kernel
theorem kd_law_237 : decode code 237 = .ok (.aload_n 0, 1) := by decide +kernel
theorem kd_law_238 : decode code 238 = .ok (.iload_n 3, 1) := by decide +kernel
theorem kd_law_239 : decode code 239 = .ok (.iconst 3, 1) := by decide +kernel
theorem kd_law_240 : decode code 240 = .ok (.iadd, 1) := by decide +kernel
theorem kd_law_241 : decode code 241 = .ok (.iaload, 1) := by decide +kernel
theorem kd_law_242 : decode code 242 = .ok (.invokevirtual 32, 3) := by decide +kernel
theorem kd_law_245 : decode code 245 = .ok (.aload_n 2, 1) := by decide +kernel
theorem kd_law_246 : decode code 246 = .ok (.aload_n 0, 1) := by decide +kernel
theorem kd_law_247 : decode code 247 = .ok (.iload_n 3, 1) := by decide +kernel
theorem kd_law_248 : decode code 248 = .ok (.iconst 1, 1) := by decide +kernel
theorem kd_law_249 : decode code 249 = .ok (.iadd, 1) := by decide +kernel
theorem kd_law_250 : decode code 250 = .ok (.iaload, 1) := by decide +kernel
theorem kd_law_251 : decode code 251 = .ok (.aload_n 0, 1) := by decide +kernel
theorem kd_law_252 : decode code 252 = .ok (.iload_n 3, 1) := by decide +kernel
theorem kd_law_253 : decode code 253 = .ok (.iconst 2, 1) := by decide +kernel
theorem kd_law_254 : decode code 254 = .ok (.iadd, 1) := by decide +kernel
theorem kd_law_255 : decode code 255 = .ok (.iaload, 1) := by decide +kernel
theorem kd_law_256 : decode code 256 = .ok (.aload_n 0, 1) := by decide +kernel
theorem kd_law_257 : decode code 257 = .ok (.iload_n 3, 1) := by decide +kernel
theorem kd_law_258 : decode code 258 = .ok (.iconst 3, 1) := by decide +kernel
theorem kd_law_259 : decode code 259 = .ok (.iadd, 1) := by decide +kernel
theorem kd_law_260 : decode code 260 = .ok (.iaload, 1) := by decide +kernel
theorem kd_law_261 : decode code 261 = .ok (.invokevirtual 36, 3) := by decide +kernel
theorem kd_law_264 : decode code 264 = .ok (.if_icmp .eq 212, 3) := by decide +kernel
theorem kd_law_267 : decode code 267 = .ok (.iconst 0, 1) := by decide +kernel
theorem kd_law_268 : decode code 268 = .ok (.ireturn, 1) := by decide +kernel
theorem kd_law_269 : decode code 269 = .ok (.aload_n 1, 1) := by decide +kernel
theorem kd_law_270 : decode code 270 = .ok (.aload_n 0, 1) := by decide +kernel
theorem kd_law_271 : decode code 271 = .ok (.iload_n 3, 1) := by decide +kernel
theorem kd_law_272 : decode code 272 = .ok (.iconst 1, 1) := by decide +kernel
theorem kd_law_273 : decode code 273 = .ok (.iadd, 1) := by decide +kernel
theorem kd_law_274 : decode code 274 = .ok (.iaload, 1) := by decide +kernel
theorem kd_law_275 : decode code 275 = .ok (.aload_n 0, 1) := by decide +kernel
theorem kd_law_276 : decode code 276 = .ok (.iload_n 3, 1) := by decide +kernel
theorem kd_law_277 : decode code 277 = .ok (.iconst 2, 1) := by decide +kernel
theorem kd_law_278 : decode code 278 = .ok (.iadd, 1) := by decide +kernel
theorem kd_law_279 : decode code 279 = .ok (.iaload, 1) := by decide +kernel
theorem kd_law_280 : decode code 280 = .ok (.invokevirtual 37, 3) := by decide +kernel
theorem kd_law_283 : decode code 283 = .ok (.aload_n 2, 1) := by decide +kernel
theorem kd_law_284 : decode code 284 = .ok (.aload_n 0, 1) := by decide +kernel
theorem kd_law_285 : decode code 285 = .ok (.iload_n 3, 1) := by decide +kernel
theorem kd_law_286 : decode code 286 = .ok (.iconst 1, 1) := by decide +kernel
theorem kd_law_287 : decode code 287 = .ok (.iadd, 1) := by decide +kernel
theorem kd_law_288 : decode code 288 = .ok (.iaload, 1) := by decide +kernel
theorem kd_law_289 : decode code 289 = .ok (.aload_n 0, 1) := by decide +kernel
theorem kd_law_290 : decode code 290 = .ok (.iload_n 3, 1) := by decide +kernel
theorem kd_law_291 : decode code 291 = .ok (.iconst 2, 1) := by decide +kernel
theorem kd_law_292 : decode code 292 = .ok (.iadd, 1) := by decide +kernel
theorem kd_law_293 : decode code 293 = .ok (.iaload, 1) := by decide +kernel
theorem kd_law_294 : decode code 294 = .ok (.invokevirtual 41, 3) := by decide +kernel
theorem kd_law_297 : decode code 297 = .ok (.if_icmp .eq 179, 3) := by decide +kernel
theorem kd_law_300 : decode code 300 = .ok (.iconst 0, 1) := by decide +kernel
theorem kd_law_301 : decode code 301 = .ok (.ireturn, 1) := by decide +kernel
theorem kd_law_302 : decode code 302 = .ok (.aload_n 1, 1) := by decide +kernel
theorem kd_law_303 : decode code 303 = .ok (.aload_n 0, 1) := by decide +kernel
theorem kd_law_304 : decode code 304 = .ok (.iload_n 3, 1) := by decide +kernel
theorem kd_law_305 : decode code 305 = .ok (.iconst 1, 1) := by decide +kernel
theorem kd_law_306 : decode code 306 = .ok (.iadd, 1) := by decide +kernel
theorem kd_law_307 : decode code 307 = .ok (.iaload, 1) := by decide +kernel
theorem kd_law_308 : decode code 308 = .ok (.aload_n 0, 1) := by decide +kernel
theorem kd_law_309 : decode code 309 = .ok (.iload_n 3, 1) := by decide +kernel
theorem kd_law_310 : decode code 310 = .ok (.iconst 2, 1) := by decide +kernel
theorem kd_law_311 : decode code 311 = .ok (.iadd, 1) := by decide +kernel
theorem kd_law_312 : decode code 312 = .ok (.iaload, 1) := by decide +kernel
theorem kd_law_313 : decode code 313 = .ok (.aload_n 0, 1) := by decide +kernel
theorem kd_law_314 : decode code 314 = .ok (.iload_n 3, 1) := by decide +kernel
theorem kd_law_315 : decode code 315 = .ok (.iconst 3, 1) := by decide +kernel
theorem kd_law_316 : decode code 316 = .ok (.iadd, 1) := by decide +kernel
theorem kd_law_317 : decode code 317 = .ok (.iaload, 1) := by decide +kernel
theorem kd_law_318 : decode code 318 = .ok (.invokevirtual 42, 3) := by decide +kernel
theorem kd_law_321 : decode code 321 = .ok (.aload_n 2, 1) := by decide +kernel
theorem kd_law_322 : decode code 322 = .ok (.aload_n 0, 1) := by decide +kernel
theorem kd_law_323 : decode code 323 = .ok (.iload_n 3, 1) := by decide +kernel
theorem kd_law_324 : decode code 324 = .ok (.iconst 1, 1) := by decide +kernel
theorem kd_law_325 : decode code 325 = .ok (.iadd, 1) := by decide +kernel
theorem kd_law_326 : decode code 326 = .ok (.iaload, 1) := by decide +kernel
theorem kd_law_327 : decode code 327 = .ok (.aload_n 0, 1) := by decide +kernel
theorem kd_law_328 : decode code 328 = .ok (.iload_n 3, 1) := by decide +kernel
theorem kd_law_329 : decode code 329 = .ok (.iconst 2, 1) := by decide +kernel
theorem kd_law_330 : decode code 330 = .ok (.iadd, 1) := by decide +kernel
theorem kd_law_331 : decode code 331 = .ok (.iaload, 1) := by decide +kernel
theorem kd_law_332 : decode code 332 = .ok (.aload_n 0, 1) := by decide +kernel
theorem kd_law_333 : decode code 333 = .ok (.iload_n 3, 1) := by decide +kernel
theorem kd_law_334 : decode code 334 = .ok (.iconst 3, 1) := by decide +kernel
theorem kd_law_335 : decode code 335 = .ok (.iadd, 1) := by decide +kernel
theorem kd_law_336 : decode code 336 = .ok (.iaload, 1) := by decide +kernel
theorem kd_law_337 : decode code 337 = .ok (.invokevirtual 45, 3) := by decide +kernel
theorem kd_law_340 : decode code 340 = .ok (.if_icmp .eq 136, 3) := by decide +kernel
theorem kd_law_343 : decode code 343 = .ok (.iconst 0, 1) := by decide +kernel
theorem kd_law_344 : decode code 344 = .ok (.ireturn, 1) := by decide +kernel
theorem kd_law_345 : decode code 345 = .ok (.aload_n 1, 1) := by decide +kernel
theorem kd_law_346 : decode code 346 = .ok (.aload_n 0, 1) := by decide +kernel
theorem kd_law_347 : decode code 347 = .ok (.iload_n 3, 1) := by decide +kernel
theorem kd_law_348 : decode code 348 = .ok (.iconst 1, 1) := by decide +kernel
theorem kd_law_349 : decode code 349 = .ok (.iadd, 1) := by decide +kernel
theorem kd_law_350 : decode code 350 = .ok (.iaload, 1) := by decide +kernel
theorem kd_law_351 : decode code 351 = .ok (.invokevirtual 46, 3) := by decide +kernel
theorem kd_law_354 : decode code 354 = .ok (.aload_n 2, 1) := by decide +kernel
theorem kd_law_355 : decode code 355 = .ok (.aload_n 0, 1) := by decide +kernel
theorem kd_law_356 : decode code 356 = .ok (.iload_n 3, 1) := by decide +kernel
theorem kd_law_357 : decode code 357 = .ok (.iconst 1, 1) := by decide +kernel
theorem kd_law_358 : decode code 358 = .ok (.iadd, 1) := by decide +kernel
theorem kd_law_359 : decode code 359 = .ok (.iaload, 1) := by decide +kernel
theorem kd_law_360 : decode code 360 = .ok (.invokevirtual 49, 3) := by decide +kernel
theorem kd_law_363 : decode code 363 = .ok (.if_icmp .eq 113, 3) := by decide +kernel
theorem kd_law_366 : decode code 366 = .ok (.iconst 0, 1) := by decide +kernel
theorem kd_law_367 : decode code 367 = .ok (.ireturn, 1) := by decide +kernel
theorem kd_law_368 : decode code 368 = .ok (.aload_n 1, 1) := by decide +kernel
theorem kd_law_369 : decode code 369 = .ok (.invokevirtual 50, 3) := by decide +kernel
theorem kd_law_372 : decode code 372 = .ok (.aload_n 2, 1) := by decide +kernel
theorem kd_law_373 : decode code 373 = .ok (.invokevirtual 53, 3) := by decide +kernel
theorem kd_law_376 : decode code 376 = .ok (.if_icmp .eq 100, 3) := by decide +kernel
theorem kd_law_379 : decode code 379 = .ok (.iconst 0, 1) := by decide +kernel
theorem kd_law_380 : decode code 380 = .ok (.ireturn, 1) := by decide +kernel
theorem kd_law_381 : decode code 381 = .ok (.aload_n 1, 1) := by decide +kernel
theorem kd_law_382 : decode code 382 = .ok (.invokevirtual 54, 3) := by decide +kernel
theorem kd_law_385 : decode code 385 = .ok (.aload_n 2, 1) := by decide +kernel
theorem kd_law_386 : decode code 386 = .ok (.invokevirtual 57, 3) := by decide +kernel
theorem kd_law_389 : decode code 389 = .ok (.if_icmp .eq 87, 3) := by decide +kernel
theorem kd_law_392 : decode code 392 = .ok (.iconst 0, 1) := by decide +kernel
theorem kd_law_393 : decode code 393 = .ok (.ireturn, 1) := by decide +kernel
theorem kd_law_394 : decode code 394 = .ok (.aload_n 1, 1) := by decide +kernel
theorem kd_law_395 : decode code 395 = .ok (.invokevirtual 58, 3) := by decide +kernel
theorem kd_law_398 : decode code 398 = .ok (.aload_n 2, 1) := by decide +kernel
theorem kd_law_399 : decode code 399 = .ok (.invokevirtual 61, 3) := by decide +kernel
theorem kd_law_402 : decode code 402 = .ok (.if_icmp .eq 74, 3) := by decide +kernel
theorem kd_law_405 : decode code 405 = .ok (.iconst 0, 1) := by decide +kernel
theorem kd_law_406 : decode code 406 = .ok (.ireturn, 1) := by decide +kernel
theorem kd_law_407 : decode code 407 = .ok (.aload_n 1, 1) := by decide +kernel
theorem kd_law_408 : decode code 408 = .ok (.aload_n 0, 1) := by decide +kernel
theorem kd_law_409 : decode code 409 = .ok (.iload_n 3, 1) := by decide +kernel
theorem kd_law_410 : decode code 410 = .ok (.iconst 1, 1) := by decide +kernel
theorem kd_law_411 : decode code 411 = .ok (.iadd, 1) := by decide +kernel
theorem kd_law_412 : decode code 412 = .ok (.iaload, 1) := by decide +kernel
theorem kd_law_413 : decode code 413 = .ok (.invokevirtual 62, 3) := by decide +kernel
theorem kd_law_416 : decode code 416 = .ok (.aload_n 2, 1) := by decide +kernel
theorem kd_law_417 : decode code 417 = .ok (.aload_n 0, 1) := by decide +kernel
theorem kd_law_418 : decode code 418 = .ok (.iload_n 3, 1) := by decide +kernel
theorem kd_law_419 : decode code 419 = .ok (.iconst 1, 1) := by decide +kernel
theorem kd_law_420 : decode code 420 = .ok (.iadd, 1) := by decide +kernel
theorem kd_law_421 : decode code 421 = .ok (.iaload, 1) := by decide +kernel
theorem kd_law_422 : decode code 422 = .ok (.invokevirtual 65, 3) := by decide +kernel
theorem kd_law_425 : decode code 425 = .ok (.if_icmp .eq 51, 3) := by decide +kernel
theorem kd_law_428 : decode code 428 = .ok (.iconst 0, 1) := by decide +kernel
theorem kd_law_429 : decode code 429 = .ok (.ireturn, 1) := by decide +kernel
theorem kd_law_430 : decode code 430 = .ok (.aload_n 1, 1) := by decide +kernel
theorem kd_law_431 : decode code 431 = .ok (.aload_n 0, 1) := by decide +kernel
theorem kd_law_432 : decode code 432 = .ok (.iload_n 3, 1) := by decide +kernel
theorem kd_law_433 : decode code 433 = .ok (.iconst 1, 1) := by decide +kernel
theorem kd_law_434 : decode code 434 = .ok (.iadd, 1) := by decide +kernel
theorem kd_law_435 : decode code 435 = .ok (.iaload, 1) := by decide +kernel
theorem kd_law_436 : decode code 436 = .ok (.invokevirtual 66, 3) := by decide +kernel
theorem kd_law_439 : decode code 439 = .ok (.aload_n 2, 1) := by decide +kernel
theorem kd_law_440 : decode code 440 = .ok (.aload_n 0, 1) := by decide +kernel
theorem kd_law_441 : decode code 441 = .ok (.iload_n 3, 1) := by decide +kernel
theorem kd_law_442 : decode code 442 = .ok (.iconst 1, 1) := by decide +kernel
theorem kd_law_443 : decode code 443 = .ok (.iadd, 1) := by decide +kernel
theorem kd_law_444 : decode code 444 = .ok (.iaload, 1) := by decide +kernel
theorem kd_law_445 : decode code 445 = .ok (.invokevirtual 69, 3) := by decide +kernel
theorem kd_law_448 : decode code 448 = .ok (.if_icmp .eq 28, 3) := by decide +kernel
theorem kd_law_451 : decode code 451 = .ok (.iconst 0, 1) := by decide +kernel
theorem kd_law_452 : decode code 452 = .ok (.ireturn, 1) := by decide +kernel
theorem kd_law_453 : decode code 453 = .ok (.aload_n 1, 1) := by decide +kernel
theorem kd_law_454 : decode code 454 = .ok (.aload_n 0, 1) := by decide +kernel
theorem kd_law_455 : decode code 455 = .ok (.iload_n 3, 1) := by decide +kernel
theorem kd_law_456 : decode code 456 = .ok (.iconst 1, 1) := by decide +kernel
theorem kd_law_457 : decode code 457 = .ok (.iadd, 1) := by decide +kernel
theorem kd_law_458 : decode code 458 = .ok (.iaload, 1) := by decide +kernel
theorem kd_law_459 : decode code 459 = .ok (.invokevirtual 70, 3) := by decide +kernel
theorem kd_law_462 : decode code 462 = .ok (.aload_n 2, 1) := by decide +kernel
theorem kd_law_463 : decode code 463 = .ok (.aload_n 0, 1) := by decide +kernel
theorem kd_law_464 : decode code 464 = .ok (.iload_n 3, 1) := by decide +kernel
theorem kd_law_465 : decode code 465 = .ok (.iconst 1, 1) := by decide +kernel
theorem kd_law_466 : decode code 466 = .ok (.iadd, 1) := by decide +kernel
theorem kd_law_467 : decode code 467 = .ok (.iaload, 1) := by decide +kernel
theorem kd_law_468 : decode code 468 = .ok (.invokevirtual 73, 3) := by decide +kernel
theorem kd_law_471 : decode code 471 = .ok (.if_icmp .eq 5, 3) := by decide +kernel
theorem kd_law_474 : decode code 474 = .ok (.iconst 0, 1) := by decide +kernel
theorem kd_law_475 : decode code 475 = .ok (.ireturn, 1) := by decide +kernel
theorem kd_law_476 : decode code 476 = .ok (.iinc 3 6, 3) := by decide +kernel
theorem kd_law_479 : decode code 479 = .ok (.goto (-461), 3) := by decide +kernel
theorem kd_law_482 : decode code 482 = .ok (.iconst 1, 1) := by decide +kernel
theorem kd_law_483 : decode code 483 = .ok (.ireturn, 1) := by decide +kernel
set_option maxHeartbeats 4000000 in
set_option maxRecDepth 100000 in
theorem jz_k0 {X : zkj_T} {S : zs_T} {P : ze_T} {l : Launch} {D : va_G} {sz0 b L : Nat} {xs : Nat → Int32} (C : zk_C X km_law (zs_G S l D sz0) room_1 (ze_E P)) (hs : jz_scr X b L xs) (hL : L ≤ 3072) (i u : Nat) (hi : i + 6 ≤ L) {h h1 h2 : zs_H} {v : Int32} (hu : 121 + 8 * u ≤ 600000 ∧ 1494679 + 28 * u ≤ 7302249) (e1 : f_Pk_feed h (xs (i + 1)) (xs (i + 2)) (xs (i + 3)) (xs (i + 4)) (xs (i + 5)) = some (v, h1)) (e2 : f_Mo_feed h1 (xs (i + 1)) (xs (i + 2)) (xs (i + 3)) (xs (i + 4)) (xs (i + 5)) = some (v, h2)) (k : zk_Ab X (zs_W S h2) (121 + 8 * u) (1494679 + 28 * u) 476 [(0, .ref b), (1, .ref (S.1 0)), (2, .ref (S.1 68)), (3, .int (nI i))] []) : zk_Ab X (zs_W S h) (121 + 8 * u) (1494679 + 28 * u) 104 [(0, .ref b), (1, .ref (S.1 0)), (2, .ref (S.1 68)), (3, .int (nI i))] [] := by
  refine zk_aload_n C kd_law_104 rfl 1 rfl rfl ?_
  refine zk_aload_n C kd_law_105 rfl 0 rfl rfl ?_
  refine zk_iload_n C kd_law_106 rfl 3 rfl rfl ?_
  refine zk_iconst (v := 1) C kd_law_107 (by decide) rfl ?_
  refine zk_iadd C kd_law_108 rfl ?_
  rw [show nI i + 1 = nI (i + 1) from nI_add i 1]
  refine jz_sld C hs (vp_in_nI (by omega) (by omega)) kd_law_109 rfl ?_
  rw [nI_clamp (by omega)]
  refine zk_aload_n C kd_law_110 rfl 0 rfl rfl ?_
  refine zk_iload_n C kd_law_111 rfl 3 rfl rfl ?_
  refine zk_iconst (v := 2) C kd_law_112 (by decide) rfl ?_
  refine zk_iadd C kd_law_113 rfl ?_
  rw [show nI i + 2 = nI (i + 2) from nI_add i 2]
  refine jz_sld C hs (vp_in_nI (by omega) (by omega)) kd_law_114 rfl ?_
  rw [nI_clamp (by omega)]
  refine zk_aload_n C kd_law_115 rfl 0 rfl rfl ?_
  refine zk_iload_n C kd_law_116 rfl 3 rfl rfl ?_
  refine zk_iconst (v := 3) C kd_law_117 (by decide) rfl ?_
  refine zk_iadd C kd_law_118 rfl ?_
  rw [show nI i + 3 = nI (i + 3) from nI_add i 3]
  refine jz_sld C hs (vp_in_nI (by omega) (by omega)) kd_law_119 rfl ?_
  rw [nI_clamp (by omega)]
  refine zk_aload_n C kd_law_120 rfl 0 rfl rfl ?_
  refine zk_iload_n C kd_law_121 rfl 3 rfl rfl ?_
  refine zk_iconst (v := 4) C kd_law_122 (by decide) rfl ?_
  refine zk_iadd C kd_law_123 rfl ?_
  rw [show nI i + 4 = nI (i + 4) from nI_add i 4]
  refine jz_sld C hs (vp_in_nI (by omega) (by omega)) kd_law_124 rfl ?_
  rw [nI_clamp (by omega)]
  refine zk_aload_n C kd_law_125 rfl 0 rfl rfl ?_
  refine zk_iload_n C kd_law_126 rfl 3 rfl rfl ?_
  refine zk_iconst (v := 5) C kd_law_127 (by decide) rfl ?_
  refine zk_iadd C kd_law_128 rfl ?_
  rw [show nI i + 5 = nI (i + 5) from nI_add i 5]
  refine jz_sld C hs (vp_in_nI (by omega) (by omega)) kd_law_129 rfl ?_
  rw [nI_clamp (by omega)]
  refine zs_callV (k := 0) (rn := { frames := 1, cells := 0, slots := 0, locals := 22 }) (As := [.int (xs (i + 1)), .int (xs (i + 2)), .int (xs (i + 3)), .int (xs (i + 4)), .int (xs (i + 5))]) (rest := []) C (zc_Pk_feed h (xs (i + 1)) (xs (i + 2)) (xs (i + 3)) (xs (i + 4)) (xs (i + 5)) e1) ku_Pk_feed kx668 kv_Pk_feed rfl ⟨by show 1 + 1 ≤ 2048; decide, by show 8 + (6 + 11) + 22 ≤ 84000; decide⟩ ⟨by show 121 + 8 * u + 0 ≤ 600000; omega, by show 1494679 + 28 * u + 0 ≤ 7302249; omega⟩ rfl rfl rfl (Nat.le_of_ble_eq_true rfl) kd_law_130 rfl (c1 := 121 + 8 * u) (s1 := 1494679 + 28 * u) rfl rfl (fun v0 w hp => ?_)
  obtain ⟨rfl, rfl⟩ := hp
  refine zk_stk (r' := [.int v]) rfl ?_
  refine zk_aload_n C kd_law_133 rfl 2 rfl rfl ?_
  refine zk_aload_n C kd_law_134 rfl 0 rfl rfl ?_
  refine zk_iload_n C kd_law_135 rfl 3 rfl rfl ?_
  refine zk_iconst (v := 1) C kd_law_136 (by decide) rfl ?_
  refine zk_iadd C kd_law_137 rfl ?_
  rw [show nI i + 1 = nI (i + 1) from nI_add i 1]
  refine jz_sld C hs (vp_in_nI (by omega) (by omega)) kd_law_138 rfl ?_
  rw [nI_clamp (by omega)]
  refine zk_aload_n C kd_law_139 rfl 0 rfl rfl ?_
  refine zk_iload_n C kd_law_140 rfl 3 rfl rfl ?_
  refine zk_iconst (v := 2) C kd_law_141 (by decide) rfl ?_
  refine zk_iadd C kd_law_142 rfl ?_
  rw [show nI i + 2 = nI (i + 2) from nI_add i 2]
  refine jz_sld C hs (vp_in_nI (by omega) (by omega)) kd_law_143 rfl ?_
  rw [nI_clamp (by omega)]
  refine zk_aload_n C kd_law_144 rfl 0 rfl rfl ?_
  refine zk_iload_n C kd_law_145 rfl 3 rfl rfl ?_
  refine zk_iconst (v := 3) C kd_law_146 (by decide) rfl ?_
  refine zk_iadd C kd_law_147 rfl ?_
  rw [show nI i + 3 = nI (i + 3) from nI_add i 3]
  refine jz_sld C hs (vp_in_nI (by omega) (by omega)) kd_law_148 rfl ?_
  rw [nI_clamp (by omega)]
  refine zk_aload_n C kd_law_149 rfl 0 rfl rfl ?_
  refine zk_iload_n C kd_law_150 rfl 3 rfl rfl ?_
  refine zk_iconst (v := 4) C kd_law_151 (by decide) rfl ?_
  refine zk_iadd C kd_law_152 rfl ?_
  rw [show nI i + 4 = nI (i + 4) from nI_add i 4]
  refine jz_sld C hs (vp_in_nI (by omega) (by omega)) kd_law_153 rfl ?_
  rw [nI_clamp (by omega)]
  refine zk_aload_n C kd_law_154 rfl 0 rfl rfl ?_
  refine zk_iload_n C kd_law_155 rfl 3 rfl rfl ?_
  refine zk_iconst (v := 5) C kd_law_156 (by decide) rfl ?_
  refine zk_iadd C kd_law_157 rfl ?_
  rw [show nI i + 5 = nI (i + 5) from nI_add i 5]
  refine jz_sld C hs (vp_in_nI (by omega) (by omega)) kd_law_158 rfl ?_
  rw [nI_clamp (by omega)]
  refine zs_callV (k := 68) (rn := { frames := 1, cells := 0, slots := 0, locals := 22 }) (As := [.int (xs (i + 1)), .int (xs (i + 2)), .int (xs (i + 3)), .int (xs (i + 4)), .int (xs (i + 5))]) (rest := [.int v]) C (zc_Mo_feed h1 (xs (i + 1)) (xs (i + 2)) (xs (i + 3)) (xs (i + 4)) (xs (i + 5)) e2) ku_Mo_feed kx1972 kv_Mo_feed rfl ⟨by show 1 + 1 ≤ 2048; decide, by show 8 + (6 + 11) + 22 ≤ 84000; decide⟩ ⟨by show 121 + 8 * u + 0 ≤ 600000; omega, by show 1494679 + 28 * u + 0 ≤ 7302249; omega⟩ rfl rfl rfl (Nat.le_of_ble_eq_true rfl) kd_law_159 rfl (c1 := 121 + 8 * u) (s1 := 1494679 + 28 * u) rfl rfl (fun v0 w hp => ?_)
  obtain ⟨rfl, rfl⟩ := hp
  refine zk_stk (r' := [.int v, .int v]) rfl ?_
  refine zk_icmp_eq (tgt := 476) C kd_law_162 (by decide) rfl (fun q => k) (fun q => absurd rfl q)
set_option maxHeartbeats 4000000 in
set_option maxRecDepth 100000 in
theorem jz_k1 {X : zkj_T} {S : zs_T} {P : ze_T} {l : Launch} {D : va_G} {sz0 b L : Nat} {xs : Nat → Int32} (C : zk_C X km_law (zs_G S l D sz0) room_1 (ze_E P)) (hs : jz_scr X b L xs) (hL : L ≤ 3072) (i u : Nat) (hi : i + 6 ≤ L) {h h1 h2 : zs_H} {v : Int32} (hu : 121 + 8 * u ≤ 600000 ∧ 1494679 + 28 * u ≤ 7302249) (e1 : f_Pk_end h (xs (i + 1)) = some (v, h1)) (e2 : f_Mo_end h1 (xs (i + 1)) = some (v, h2)) (k : zk_Ab X (zs_W S h2) (121 + 8 * u) (1494679 + 28 * u) 476 [(0, .ref b), (1, .ref (S.1 0)), (2, .ref (S.1 68)), (3, .int (nI i))] []) : zk_Ab X (zs_W S h) (121 + 8 * u) (1494679 + 28 * u) 167 [(0, .ref b), (1, .ref (S.1 0)), (2, .ref (S.1 68)), (3, .int (nI i))] [] := by
  refine zk_aload_n C kd_law_167 rfl 1 rfl rfl ?_
  refine zk_aload_n C kd_law_168 rfl 0 rfl rfl ?_
  refine zk_iload_n C kd_law_169 rfl 3 rfl rfl ?_
  refine zk_iconst (v := 1) C kd_law_170 (by decide) rfl ?_
  refine zk_iadd C kd_law_171 rfl ?_
  rw [show nI i + 1 = nI (i + 1) from nI_add i 1]
  refine jz_sld C hs (vp_in_nI (by omega) (by omega)) kd_law_172 rfl ?_
  rw [nI_clamp (by omega)]
  refine zs_callV (k := 0) (rn := { frames := 0, cells := 0, slots := 0, locals := 0 }) (As := [.int (xs (i + 1))]) (rest := []) C (zc_Pk_end h (xs (i + 1)) e1) ku_Pk_end kx676 kv_Pk_end rfl ⟨by show 0 + 1 ≤ 2048; decide, by show 8 + (2 + 11) + 0 ≤ 84000; decide⟩ ⟨by show 121 + 8 * u + 0 ≤ 600000; omega, by show 1494679 + 28 * u + 0 ≤ 7302249; omega⟩ rfl rfl rfl (Nat.le_of_ble_eq_true rfl) kd_law_173 rfl (c1 := 121 + 8 * u) (s1 := 1494679 + 28 * u) rfl rfl (fun v0 w hp => ?_)
  obtain ⟨rfl, rfl⟩ := hp
  refine zk_stk (r' := [.int v]) rfl ?_
  refine zk_aload_n C kd_law_176 rfl 2 rfl rfl ?_
  refine zk_aload_n C kd_law_177 rfl 0 rfl rfl ?_
  refine zk_iload_n C kd_law_178 rfl 3 rfl rfl ?_
  refine zk_iconst (v := 1) C kd_law_179 (by decide) rfl ?_
  refine zk_iadd C kd_law_180 rfl ?_
  rw [show nI i + 1 = nI (i + 1) from nI_add i 1]
  refine jz_sld C hs (vp_in_nI (by omega) (by omega)) kd_law_181 rfl ?_
  rw [nI_clamp (by omega)]
  refine zs_callV (k := 68) (rn := { frames := 0, cells := 0, slots := 0, locals := 0 }) (As := [.int (xs (i + 1))]) (rest := [.int v]) C (zc_Mo_end h1 (xs (i + 1)) e2) ku_Mo_end kx1980 kv_Mo_end rfl ⟨by show 0 + 1 ≤ 2048; decide, by show 8 + (2 + 11) + 0 ≤ 84000; decide⟩ ⟨by show 121 + 8 * u + 0 ≤ 600000; omega, by show 1494679 + 28 * u + 0 ≤ 7302249; omega⟩ rfl rfl rfl (Nat.le_of_ble_eq_true rfl) kd_law_182 rfl (c1 := 121 + 8 * u) (s1 := 1494679 + 28 * u) rfl rfl (fun v0 w hp => ?_)
  obtain ⟨rfl, rfl⟩ := hp
  refine zk_stk (r' := [.int v, .int v]) rfl ?_
  refine zk_icmp_eq (tgt := 476) C kd_law_185 (by decide) rfl (fun q => k) (fun q => absurd rfl q)
set_option maxHeartbeats 4000000 in
set_option maxRecDepth 100000 in
theorem jz_k2 {X : zkj_T} {S : zs_T} {P : ze_T} {l : Launch} {D : va_G} {sz0 b L : Nat} {xs : Nat → Int32} (C : zk_C X km_law (zs_G S l D sz0) room_1 (ze_E P)) (hs : jz_scr X b L xs) (hL : L ≤ 3072) (i u : Nat) (hi : i + 6 ≤ L) {h h1 h2 : zs_H} {v : Int32} (K : Nat) {Pz : zs_H → Prop} (HK : jk_H K Pz) (hJ : ¬ xs (i + 1) < 100 → xs (i + 1) ≤ 100000 → ∀ v h5 g, f_Mo_useTape h1 = some (v, h5) → jl_L25 zF (zs_uF h5 68 1 v) 0 = some g → jk_J Pz g) (hu : 121 + 8 * (u + K) ≤ 600000 ∧ 1494679 + 28 * (u + K) ≤ 7302249) (e1 : f_Pk_load h (xs (i + 1)) = some (v, h1)) (e2 : f_Mo_load h1 (xs (i + 1)) = some (v, h2)) (k : zk_Ab X (zs_W S h2) (121 + 8 * (u + K)) (1494679 + 28 * (u + K)) 476 [(0, .ref b), (1, .ref (S.1 0)), (2, .ref (S.1 68)), (3, .int (nI i))] []) : zk_Ab X (zs_W S h) (121 + 8 * u) (1494679 + 28 * u) 190 [(0, .ref b), (1, .ref (S.1 0)), (2, .ref (S.1 68)), (3, .int (nI i))] [] := by
  refine zk_aload_n C kd_law_190 rfl 1 rfl rfl ?_
  refine zk_aload_n C kd_law_191 rfl 0 rfl rfl ?_
  refine zk_iload_n C kd_law_192 rfl 3 rfl rfl ?_
  refine zk_iconst (v := 1) C kd_law_193 (by decide) rfl ?_
  refine zk_iadd C kd_law_194 rfl ?_
  rw [show nI i + 1 = nI (i + 1) from nI_add i 1]
  refine jz_sld C hs (vp_in_nI (by omega) (by omega)) kd_law_195 rfl ?_
  rw [nI_clamp (by omega)]
  refine zs_callV (k := 0) (rn := { frames := 808, cells := 0, slots := 0, locals := 22541 }) (As := [.int (xs (i + 1))]) (rest := []) C (zc_Pk_load h (xs (i + 1)) e1) ku_Pk_load kx680 kv_Pk_load rfl ⟨by show 808 + 1 ≤ 2048; decide, by show 8 + (2 + 11) + 22541 ≤ 84000; decide⟩ ⟨by show 121 + 8 * u + 0 ≤ 600000; omega, by show 1494679 + 28 * u + 0 ≤ 7302249; omega⟩ rfl rfl rfl (Nat.le_of_ble_eq_true rfl) kd_law_196 rfl (c1 := 121 + 8 * u) (s1 := 1494679 + 28 * u) rfl rfl (fun v0 w hp => ?_)
  obtain ⟨rfl, rfl⟩ := hp
  refine zk_stk (r' := [.int v]) rfl ?_
  refine zk_aload_n C kd_law_199 rfl 2 rfl rfl ?_
  refine zk_aload_n C kd_law_200 rfl 0 rfl rfl ?_
  refine zk_iload_n C kd_law_201 rfl 3 rfl rfl ?_
  refine zk_iconst (v := 1) C kd_law_202 (by decide) rfl ?_
  refine zk_iadd C kd_law_203 rfl ?_
  rw [show nI i + 1 = nI (i + 1) from nI_add i 1]
  refine jz_sld C hs (vp_in_nI (by omega) (by omega)) kd_law_204 rfl ?_
  rw [nI_clamp (by omega)]
  refine zs_callV (k := 68) (rn := { frames := 1809, cells := 8 * K, slots := 28 * K, locals := 46205 }) (As := [.int (xs (i + 1))]) (rest := [.int v]) C (zc_Mo_load HK h1 (xs (i + 1)) hJ e2) ku_Mo_load kx1984 kv_Mo_load rfl ⟨by show 1809 + 1 ≤ 2048; decide, by show 8 + (3 + 11) + 46205 ≤ 84000; decide⟩ ⟨by show 121 + 8 * u + 8 * K ≤ 600000; omega, by show 1494679 + 28 * u + 28 * K ≤ 7302249; omega⟩ rfl rfl rfl (Nat.le_of_ble_eq_true rfl) kd_law_205 rfl (c1 := 121 + 8 * (u + K)) (s1 := 1494679 + 28 * (u + K)) (by show 121 + 8 * u + 8 * K = 121 + 8 * (u + K); omega) (by show 1494679 + 28 * u + 28 * K = 1494679 + 28 * (u + K); omega) (fun v0 w hp => ?_)
  obtain ⟨rfl, rfl⟩ := hp
  refine zk_stk (r' := [.int v, .int v]) rfl ?_
  refine zk_icmp_eq (tgt := 476) C kd_law_208 (by decide) rfl (fun q => k) (fun q => absurd rfl q)
set_option maxHeartbeats 4000000 in
set_option maxRecDepth 100000 in
theorem jz_k3 {X : zkj_T} {S : zs_T} {P : ze_T} {l : Launch} {D : va_G} {sz0 b L : Nat} {xs : Nat → Int32} (C : zk_C X km_law (zs_G S l D sz0) room_1 (ze_E P)) (hs : jz_scr X b L xs) (hL : L ≤ 3072) (i u : Nat) (hi : i + 6 ≤ L) {h h1 h2 : zs_H} {v : Int32} (hu : 121 + 8 * u ≤ 600000 ∧ 1494679 + 28 * u ≤ 7302249) (e1 : f_Pk_restart h = some (v, h1)) (e2 : f_Mo_restart h1 = some (v, h2)) (k : zk_Ab X (zs_W S h2) (121 + 8 * u) (1494679 + 28 * u) 476 [(0, .ref b), (1, .ref (S.1 0)), (2, .ref (S.1 68)), (3, .int (nI i))] []) : zk_Ab X (zs_W S h) (121 + 8 * u) (1494679 + 28 * u) 213 [(0, .ref b), (1, .ref (S.1 0)), (2, .ref (S.1 68)), (3, .int (nI i))] [] := by
  refine zk_aload_n C kd_law_213 rfl 1 rfl rfl ?_
  refine zs_callV (k := 0) (rn := { frames := 403, cells := 0, slots := 0, locals := 10908 }) (As := []) (rest := []) C (zc_Pk_restart h e1) ku_Pk_restart kx1469 kv_Pk_restart rfl ⟨by show 403 + 1 ≤ 2048; decide, by show 8 + (1 + 11) + 10908 ≤ 84000; decide⟩ ⟨by show 121 + 8 * u + 0 ≤ 600000; omega, by show 1494679 + 28 * u + 0 ≤ 7302249; omega⟩ rfl rfl rfl (Nat.le_of_ble_eq_true rfl) kd_law_214 rfl (c1 := 121 + 8 * u) (s1 := 1494679 + 28 * u) rfl rfl (fun v0 w hp => ?_)
  obtain ⟨rfl, rfl⟩ := hp
  refine zk_stk (r' := [.int v]) rfl ?_
  refine zk_aload_n C kd_law_217 rfl 2 rfl rfl ?_
  refine zs_callV (k := 68) (rn := { frames := 404, cells := 0, slots := 0, locals := 10090 }) (As := []) (rest := [.int v]) C (zc_Mo_restart h1 e2) ku_Mo_restart kx2715 kv_Mo_restart rfl ⟨by show 404 + 1 ≤ 2048; decide, by show 8 + (1 + 11) + 10090 ≤ 84000; decide⟩ ⟨by show 121 + 8 * u + 0 ≤ 600000; omega, by show 1494679 + 28 * u + 0 ≤ 7302249; omega⟩ rfl rfl rfl (Nat.le_of_ble_eq_true rfl) kd_law_218 rfl (c1 := 121 + 8 * u) (s1 := 1494679 + 28 * u) rfl rfl (fun v0 w hp => ?_)
  obtain ⟨rfl, rfl⟩ := hp
  refine zk_stk (r' := [.int v, .int v]) rfl ?_
  refine zk_icmp_eq (tgt := 476) C kd_law_221 (by decide) rfl (fun q => k) (fun q => absurd rfl q)
set_option maxHeartbeats 4000000 in
set_option maxRecDepth 100000 in
theorem jz_k4 {X : zkj_T} {S : zs_T} {P : ze_T} {l : Launch} {D : va_G} {sz0 b L : Nat} {xs : Nat → Int32} (C : zk_C X km_law (zs_G S l D sz0) room_1 (ze_E P)) (hs : jz_scr X b L xs) (hL : L ≤ 3072) (i u : Nat) (hi : i + 6 ≤ L) {h h1 h2 : zs_H} {v : Int32} (hu : 121 + 8 * u ≤ 600000 ∧ 1494679 + 28 * u ≤ 7302249) (e1 : f_Pk_put h (xs (i + 1)) (xs (i + 2)) (xs (i + 3)) = some (v, h1)) (e2 : f_Mo_put h1 (xs (i + 1)) (xs (i + 2)) (xs (i + 3)) = some (v, h2)) (k : zk_Ab X (zs_W S h2) (121 + 8 * u) (1494679 + 28 * u) 476 [(0, .ref b), (1, .ref (S.1 0)), (2, .ref (S.1 68)), (3, .int (nI i))] []) : zk_Ab X (zs_W S h) (121 + 8 * u) (1494679 + 28 * u) 226 [(0, .ref b), (1, .ref (S.1 0)), (2, .ref (S.1 68)), (3, .int (nI i))] [] := by
  refine zk_aload_n C kd_law_226 rfl 1 rfl rfl ?_
  refine zk_aload_n C kd_law_227 rfl 0 rfl rfl ?_
  refine zk_iload_n C kd_law_228 rfl 3 rfl rfl ?_
  refine zk_iconst (v := 1) C kd_law_229 (by decide) rfl ?_
  refine zk_iadd C kd_law_230 rfl ?_
  rw [show nI i + 1 = nI (i + 1) from nI_add i 1]
  refine jz_sld C hs (vp_in_nI (by omega) (by omega)) kd_law_231 rfl ?_
  rw [nI_clamp (by omega)]
  refine zk_aload_n C kd_law_232 rfl 0 rfl rfl ?_
  refine zk_iload_n C kd_law_233 rfl 3 rfl rfl ?_
  refine zk_iconst (v := 2) C kd_law_234 (by decide) rfl ?_
  refine zk_iadd C kd_law_235 rfl ?_
  rw [show nI i + 2 = nI (i + 2) from nI_add i 2]
  refine jz_sld C hs (vp_in_nI (by omega) (by omega)) kd_law_236 rfl ?_
  rw [nI_clamp (by omega)]
  refine zk_aload_n C kd_law_237 rfl 0 rfl rfl ?_
  refine zk_iload_n C kd_law_238 rfl 3 rfl rfl ?_
  refine zk_iconst (v := 3) C kd_law_239 (by decide) rfl ?_
  refine zk_iadd C kd_law_240 rfl ?_
  rw [show nI i + 3 = nI (i + 3) from nI_add i 3]
  refine jz_sld C hs (vp_in_nI (by omega) (by omega)) kd_law_241 rfl ?_
  rw [nI_clamp (by omega)]
  refine zs_callV (k := 0) (rn := { frames := 1, cells := 0, slots := 0, locals := 24 }) (As := [.int (xs (i + 1)), .int (xs (i + 2)), .int (xs (i + 3))]) (rest := []) C (zc_Pk_put h (xs (i + 1)) (xs (i + 2)) (xs (i + 3)) e1) ku_Pk_put kx1474 kv_Pk_put rfl ⟨by show 1 + 1 ≤ 2048; decide, by show 8 + (4 + 11) + 24 ≤ 84000; decide⟩ ⟨by show 121 + 8 * u + 0 ≤ 600000; omega, by show 1494679 + 28 * u + 0 ≤ 7302249; omega⟩ rfl rfl rfl (Nat.le_of_ble_eq_true rfl) kd_law_242 rfl (c1 := 121 + 8 * u) (s1 := 1494679 + 28 * u) rfl rfl (fun v0 w hp => ?_)
  obtain ⟨rfl, rfl⟩ := hp
  refine zk_stk (r' := [.int v]) rfl ?_
  refine zk_aload_n C kd_law_245 rfl 2 rfl rfl ?_
  refine zk_aload_n C kd_law_246 rfl 0 rfl rfl ?_
  refine zk_iload_n C kd_law_247 rfl 3 rfl rfl ?_
  refine zk_iconst (v := 1) C kd_law_248 (by decide) rfl ?_
  refine zk_iadd C kd_law_249 rfl ?_
  rw [show nI i + 1 = nI (i + 1) from nI_add i 1]
  refine jz_sld C hs (vp_in_nI (by omega) (by omega)) kd_law_250 rfl ?_
  rw [nI_clamp (by omega)]
  refine zk_aload_n C kd_law_251 rfl 0 rfl rfl ?_
  refine zk_iload_n C kd_law_252 rfl 3 rfl rfl ?_
  refine zk_iconst (v := 2) C kd_law_253 (by decide) rfl ?_
  refine zk_iadd C kd_law_254 rfl ?_
  rw [show nI i + 2 = nI (i + 2) from nI_add i 2]
  refine jz_sld C hs (vp_in_nI (by omega) (by omega)) kd_law_255 rfl ?_
  rw [nI_clamp (by omega)]
  refine zk_aload_n C kd_law_256 rfl 0 rfl rfl ?_
  refine zk_iload_n C kd_law_257 rfl 3 rfl rfl ?_
  refine zk_iconst (v := 3) C kd_law_258 (by decide) rfl ?_
  refine zk_iadd C kd_law_259 rfl ?_
  rw [show nI i + 3 = nI (i + 3) from nI_add i 3]
  refine jz_sld C hs (vp_in_nI (by omega) (by omega)) kd_law_260 rfl ?_
  rw [nI_clamp (by omega)]
  refine zs_callV (k := 68) (rn := { frames := 1, cells := 0, slots := 0, locals := 21 }) (As := [.int (xs (i + 1)), .int (xs (i + 2)), .int (xs (i + 3))]) (rest := [.int v]) C (zc_Mo_put h1 (xs (i + 1)) (xs (i + 2)) (xs (i + 3)) e2) ku_Mo_put kx2719 kv_Mo_put rfl ⟨by show 1 + 1 ≤ 2048; decide, by show 8 + (4 + 11) + 21 ≤ 84000; decide⟩ ⟨by show 121 + 8 * u + 0 ≤ 600000; omega, by show 1494679 + 28 * u + 0 ≤ 7302249; omega⟩ rfl rfl rfl (Nat.le_of_ble_eq_true rfl) kd_law_261 rfl (c1 := 121 + 8 * u) (s1 := 1494679 + 28 * u) rfl rfl (fun v0 w hp => ?_)
  obtain ⟨rfl, rfl⟩ := hp
  refine zk_stk (r' := [.int v, .int v]) rfl ?_
  refine zk_icmp_eq (tgt := 476) C kd_law_264 (by decide) rfl (fun q => k) (fun q => absurd rfl q)
set_option maxHeartbeats 4000000 in
set_option maxRecDepth 100000 in
theorem jz_k5 {X : zkj_T} {S : zs_T} {P : ze_T} {l : Launch} {D : va_G} {sz0 b L : Nat} {xs : Nat → Int32} (C : zk_C X km_law (zs_G S l D sz0) room_1 (ze_E P)) (hs : jz_scr X b L xs) (hL : L ≤ 3072) (i u : Nat) (hi : i + 6 ≤ L) {h : zs_H} {v : Int32} (hu : 121 + 8 * u ≤ 600000 ∧ 1494679 + 28 * u ≤ 7302249) (e1 : f_Pk_get h (xs (i + 1)) (xs (i + 2)) = some v) (e2 : f_Mo_get h (xs (i + 1)) (xs (i + 2)) = some v) (k : zk_Ab X (zs_W S h) (121 + 8 * u) (1494679 + 28 * u) 476 [(0, .ref b), (1, .ref (S.1 0)), (2, .ref (S.1 68)), (3, .int (nI i))] []) : zk_Ab X (zs_W S h) (121 + 8 * u) (1494679 + 28 * u) 269 [(0, .ref b), (1, .ref (S.1 0)), (2, .ref (S.1 68)), (3, .int (nI i))] [] := by
  refine zk_aload_n C kd_law_269 rfl 1 rfl rfl ?_
  refine zk_aload_n C kd_law_270 rfl 0 rfl rfl ?_
  refine zk_iload_n C kd_law_271 rfl 3 rfl rfl ?_
  refine zk_iconst (v := 1) C kd_law_272 (by decide) rfl ?_
  refine zk_iadd C kd_law_273 rfl ?_
  rw [show nI i + 1 = nI (i + 1) from nI_add i 1]
  refine jz_sld C hs (vp_in_nI (by omega) (by omega)) kd_law_274 rfl ?_
  rw [nI_clamp (by omega)]
  refine zk_aload_n C kd_law_275 rfl 0 rfl rfl ?_
  refine zk_iload_n C kd_law_276 rfl 3 rfl rfl ?_
  refine zk_iconst (v := 2) C kd_law_277 (by decide) rfl ?_
  refine zk_iadd C kd_law_278 rfl ?_
  rw [show nI i + 2 = nI (i + 2) from nI_add i 2]
  refine jz_sld C hs (vp_in_nI (by omega) (by omega)) kd_law_279 rfl ?_
  rw [nI_clamp (by omega)]
  refine zs_callV (k := 0) (rn := { frames := 1, cells := 0, slots := 0, locals := 23 }) (As := [.int (xs (i + 1)), .int (xs (i + 2))]) (rest := []) C (zc_Pk_get h (xs (i + 1)) (xs (i + 2)) e1) ku_Pk_get kx1489 kv_Pk_get rfl ⟨by show 1 + 1 ≤ 2048; decide, by show 8 + (3 + 11) + 23 ≤ 84000; decide⟩ ⟨by show 121 + 8 * u + 0 ≤ 600000; omega, by show 1494679 + 28 * u + 0 ≤ 7302249; omega⟩ rfl rfl rfl (Nat.le_of_ble_eq_true rfl) kd_law_280 rfl (c1 := 121 + 8 * u) (s1 := 1494679 + 28 * u) rfl rfl (fun v0 w hp => ?_)
  obtain ⟨rfl, rfl⟩ := hp
  refine zk_stk (r' := [.int v]) rfl ?_
  refine zk_aload_n C kd_law_283 rfl 2 rfl rfl ?_
  refine zk_aload_n C kd_law_284 rfl 0 rfl rfl ?_
  refine zk_iload_n C kd_law_285 rfl 3 rfl rfl ?_
  refine zk_iconst (v := 1) C kd_law_286 (by decide) rfl ?_
  refine zk_iadd C kd_law_287 rfl ?_
  rw [show nI i + 1 = nI (i + 1) from nI_add i 1]
  refine jz_sld C hs (vp_in_nI (by omega) (by omega)) kd_law_288 rfl ?_
  rw [nI_clamp (by omega)]
  refine zk_aload_n C kd_law_289 rfl 0 rfl rfl ?_
  refine zk_iload_n C kd_law_290 rfl 3 rfl rfl ?_
  refine zk_iconst (v := 2) C kd_law_291 (by decide) rfl ?_
  refine zk_iadd C kd_law_292 rfl ?_
  rw [show nI i + 2 = nI (i + 2) from nI_add i 2]
  refine jz_sld C hs (vp_in_nI (by omega) (by omega)) kd_law_293 rfl ?_
  rw [nI_clamp (by omega)]
  refine zs_callV (k := 68) (rn := { frames := 1, cells := 0, slots := 0, locals := 21 }) (As := [.int (xs (i + 1)), .int (xs (i + 2))]) (rest := [.int v]) C (zc_Mo_get h (xs (i + 1)) (xs (i + 2)) e2) ku_Mo_get kx2732 kv_Mo_get rfl ⟨by show 1 + 1 ≤ 2048; decide, by show 8 + (3 + 11) + 21 ≤ 84000; decide⟩ ⟨by show 121 + 8 * u + 0 ≤ 600000; omega, by show 1494679 + 28 * u + 0 ≤ 7302249; omega⟩ rfl rfl rfl (Nat.le_of_ble_eq_true rfl) kd_law_294 rfl (c1 := 121 + 8 * u) (s1 := 1494679 + 28 * u) rfl rfl (fun v0 w hp => ?_)
  obtain ⟨rfl, rfl⟩ := hp
  refine zk_stk (r' := [.int v, .int v]) rfl ?_
  refine zk_icmp_eq (tgt := 476) C kd_law_297 (by decide) rfl (fun q => k) (fun q => absurd rfl q)
set_option maxHeartbeats 4000000 in
set_option maxRecDepth 100000 in
theorem jz_k6 {X : zkj_T} {S : zs_T} {P : ze_T} {l : Launch} {D : va_G} {sz0 b L : Nat} {xs : Nat → Int32} (C : zk_C X km_law (zs_G S l D sz0) room_1 (ze_E P)) (hs : jz_scr X b L xs) (hL : L ≤ 3072) (i u : Nat) (hi : i + 6 ≤ L) {h h1 h2 : zs_H} {v : Int32} (hu : 121 + 8 * u ≤ 600000 ∧ 1494679 + 28 * u ≤ 7302249) (e1 : f_Pk_safe h (xs (i + 1)) (xs (i + 2)) (xs (i + 3)) = some (v, h1)) (e2 : f_Mo_safe h1 (xs (i + 1)) (xs (i + 2)) (xs (i + 3)) = some (v, h2)) (k : zk_Ab X (zs_W S h2) (121 + 8 * u) (1494679 + 28 * u) 476 [(0, .ref b), (1, .ref (S.1 0)), (2, .ref (S.1 68)), (3, .int (nI i))] []) : zk_Ab X (zs_W S h) (121 + 8 * u) (1494679 + 28 * u) 302 [(0, .ref b), (1, .ref (S.1 0)), (2, .ref (S.1 68)), (3, .int (nI i))] [] := by
  refine zk_aload_n C kd_law_302 rfl 1 rfl rfl ?_
  refine zk_aload_n C kd_law_303 rfl 0 rfl rfl ?_
  refine zk_iload_n C kd_law_304 rfl 3 rfl rfl ?_
  refine zk_iconst (v := 1) C kd_law_305 (by decide) rfl ?_
  refine zk_iadd C kd_law_306 rfl ?_
  rw [show nI i + 1 = nI (i + 1) from nI_add i 1]
  refine jz_sld C hs (vp_in_nI (by omega) (by omega)) kd_law_307 rfl ?_
  rw [nI_clamp (by omega)]
  refine zk_aload_n C kd_law_308 rfl 0 rfl rfl ?_
  refine zk_iload_n C kd_law_309 rfl 3 rfl rfl ?_
  refine zk_iconst (v := 2) C kd_law_310 (by decide) rfl ?_
  refine zk_iadd C kd_law_311 rfl ?_
  rw [show nI i + 2 = nI (i + 2) from nI_add i 2]
  refine jz_sld C hs (vp_in_nI (by omega) (by omega)) kd_law_312 rfl ?_
  rw [nI_clamp (by omega)]
  refine zk_aload_n C kd_law_313 rfl 0 rfl rfl ?_
  refine zk_iload_n C kd_law_314 rfl 3 rfl rfl ?_
  refine zk_iconst (v := 3) C kd_law_315 (by decide) rfl ?_
  refine zk_iadd C kd_law_316 rfl ?_
  rw [show nI i + 3 = nI (i + 3) from nI_add i 3]
  refine jz_sld C hs (vp_in_nI (by omega) (by omega)) kd_law_317 rfl ?_
  rw [nI_clamp (by omega)]
  refine zs_callV (k := 0) (rn := { frames := 1, cells := 0, slots := 0, locals := 21 }) (As := [.int (xs (i + 1)), .int (xs (i + 2)), .int (xs (i + 3))]) (rest := []) C (zc_Pk_safe h (xs (i + 1)) (xs (i + 2)) (xs (i + 3)) e1) ku_Pk_safe kx1497 kv_Pk_safe rfl ⟨by show 1 + 1 ≤ 2048; decide, by show 8 + (4 + 11) + 21 ≤ 84000; decide⟩ ⟨by show 121 + 8 * u + 0 ≤ 600000; omega, by show 1494679 + 28 * u + 0 ≤ 7302249; omega⟩ rfl rfl rfl (Nat.le_of_ble_eq_true rfl) kd_law_318 rfl (c1 := 121 + 8 * u) (s1 := 1494679 + 28 * u) rfl rfl (fun v0 w hp => ?_)
  obtain ⟨rfl, rfl⟩ := hp
  refine zk_stk (r' := [.int v]) rfl ?_
  refine zk_aload_n C kd_law_321 rfl 2 rfl rfl ?_
  refine zk_aload_n C kd_law_322 rfl 0 rfl rfl ?_
  refine zk_iload_n C kd_law_323 rfl 3 rfl rfl ?_
  refine zk_iconst (v := 1) C kd_law_324 (by decide) rfl ?_
  refine zk_iadd C kd_law_325 rfl ?_
  rw [show nI i + 1 = nI (i + 1) from nI_add i 1]
  refine jz_sld C hs (vp_in_nI (by omega) (by omega)) kd_law_326 rfl ?_
  rw [nI_clamp (by omega)]
  refine zk_aload_n C kd_law_327 rfl 0 rfl rfl ?_
  refine zk_iload_n C kd_law_328 rfl 3 rfl rfl ?_
  refine zk_iconst (v := 2) C kd_law_329 (by decide) rfl ?_
  refine zk_iadd C kd_law_330 rfl ?_
  rw [show nI i + 2 = nI (i + 2) from nI_add i 2]
  refine jz_sld C hs (vp_in_nI (by omega) (by omega)) kd_law_331 rfl ?_
  rw [nI_clamp (by omega)]
  refine zk_aload_n C kd_law_332 rfl 0 rfl rfl ?_
  refine zk_iload_n C kd_law_333 rfl 3 rfl rfl ?_
  refine zk_iconst (v := 3) C kd_law_334 (by decide) rfl ?_
  refine zk_iadd C kd_law_335 rfl ?_
  rw [show nI i + 3 = nI (i + 3) from nI_add i 3]
  refine jz_sld C hs (vp_in_nI (by omega) (by omega)) kd_law_336 rfl ?_
  rw [nI_clamp (by omega)]
  refine zs_callV (k := 68) (rn := { frames := 1, cells := 0, slots := 0, locals := 21 }) (As := [.int (xs (i + 1)), .int (xs (i + 2)), .int (xs (i + 3))]) (rest := [.int v]) C (zc_Mo_safe h1 (xs (i + 1)) (xs (i + 2)) (xs (i + 3)) e2) ku_Mo_safe kx2736 kv_Mo_safe rfl ⟨by show 1 + 1 ≤ 2048; decide, by show 8 + (4 + 11) + 21 ≤ 84000; decide⟩ ⟨by show 121 + 8 * u + 0 ≤ 600000; omega, by show 1494679 + 28 * u + 0 ≤ 7302249; omega⟩ rfl rfl rfl (Nat.le_of_ble_eq_true rfl) kd_law_337 rfl (c1 := 121 + 8 * u) (s1 := 1494679 + 28 * u) rfl rfl (fun v0 w hp => ?_)
  obtain ⟨rfl, rfl⟩ := hp
  refine zk_stk (r' := [.int v, .int v]) rfl ?_
  refine zk_icmp_eq (tgt := 476) C kd_law_340 (by decide) rfl (fun q => k) (fun q => absurd rfl q)
set_option maxHeartbeats 4000000 in
set_option maxRecDepth 100000 in
theorem jz_k7 {X : zkj_T} {S : zs_T} {P : ze_T} {l : Launch} {D : va_G} {sz0 b L : Nat} {xs : Nat → Int32} (C : zk_C X km_law (zs_G S l D sz0) room_1 (ze_E P)) (hs : jz_scr X b L xs) (hL : L ≤ 3072) (i u : Nat) (hi : i + 6 ≤ L) {h h1 h2 : zs_H} {v : Int32} (hu : 121 + 8 * u ≤ 600000 ∧ 1494679 + 28 * u ≤ 7302249) (e1 : f_Pk_scan h (xs (i + 1)) = some (v, h1)) (e2 : f_Mo_scan h1 (xs (i + 1)) = some (v, h2)) (k : zk_Ab X (zs_W S h2) (121 + 8 * u) (1494679 + 28 * u) 476 [(0, .ref b), (1, .ref (S.1 0)), (2, .ref (S.1 68)), (3, .int (nI i))] []) : zk_Ab X (zs_W S h) (121 + 8 * u) (1494679 + 28 * u) 345 [(0, .ref b), (1, .ref (S.1 0)), (2, .ref (S.1 68)), (3, .int (nI i))] [] := by
  refine zk_aload_n C kd_law_345 rfl 1 rfl rfl ?_
  refine zk_aload_n C kd_law_346 rfl 0 rfl rfl ?_
  refine zk_iload_n C kd_law_347 rfl 3 rfl rfl ?_
  refine zk_iconst (v := 1) C kd_law_348 (by decide) rfl ?_
  refine zk_iadd C kd_law_349 rfl ?_
  rw [show nI i + 1 = nI (i + 1) from nI_add i 1]
  refine jz_sld C hs (vp_in_nI (by omega) (by omega)) kd_law_350 rfl ?_
  rw [nI_clamp (by omega)]
  refine zs_callV (k := 0) (rn := { frames := 6, cells := 0, slots := 0, locals := 148 }) (As := [.int (xs (i + 1))]) (rest := []) C (zc_Pk_scan h (xs (i + 1)) e1) ku_Pk_scan kx1501 kv_Pk_scan rfl ⟨by show 6 + 1 ≤ 2048; decide, by show 8 + (2 + 11) + 148 ≤ 84000; decide⟩ ⟨by show 121 + 8 * u + 0 ≤ 600000; omega, by show 1494679 + 28 * u + 0 ≤ 7302249; omega⟩ rfl rfl rfl (Nat.le_of_ble_eq_true rfl) kd_law_351 rfl (c1 := 121 + 8 * u) (s1 := 1494679 + 28 * u) rfl rfl (fun v0 w hp => ?_)
  obtain ⟨rfl, rfl⟩ := hp
  refine zk_stk (r' := [.int v]) rfl ?_
  refine zk_aload_n C kd_law_354 rfl 2 rfl rfl ?_
  refine zk_aload_n C kd_law_355 rfl 0 rfl rfl ?_
  refine zk_iload_n C kd_law_356 rfl 3 rfl rfl ?_
  refine zk_iconst (v := 1) C kd_law_357 (by decide) rfl ?_
  refine zk_iadd C kd_law_358 rfl ?_
  rw [show nI i + 1 = nI (i + 1) from nI_add i 1]
  refine jz_sld C hs (vp_in_nI (by omega) (by omega)) kd_law_359 rfl ?_
  rw [nI_clamp (by omega)]
  refine zs_callV (k := 68) (rn := { frames := 403, cells := 0, slots := 0, locals := 12073 }) (As := [.int (xs (i + 1))]) (rest := [.int v]) C (zc_Mo_scan h1 (xs (i + 1)) e2) ku_Mo_scan kx2740 kv_Mo_scan rfl ⟨by show 403 + 1 ≤ 2048; decide, by show 8 + (3 + 11) + 12073 ≤ 84000; decide⟩ ⟨by show 121 + 8 * u + 0 ≤ 600000; omega, by show 1494679 + 28 * u + 0 ≤ 7302249; omega⟩ rfl rfl rfl (Nat.le_of_ble_eq_true rfl) kd_law_360 rfl (c1 := 121 + 8 * u) (s1 := 1494679 + 28 * u) rfl rfl (fun v0 w hp => ?_)
  obtain ⟨rfl, rfl⟩ := hp
  refine zk_stk (r' := [.int v, .int v]) rfl ?_
  refine zk_icmp_eq (tgt := 476) C kd_law_363 (by decide) rfl (fun q => k) (fun q => absurd rfl q)
set_option maxHeartbeats 4000000 in
set_option maxRecDepth 100000 in
theorem jz_k8 {X : zkj_T} {S : zs_T} {P : ze_T} {l : Launch} {D : va_G} {sz0 b L : Nat} {xs : Nat → Int32} (C : zk_C X km_law (zs_G S l D sz0) room_1 (ze_E P)) (hs : jz_scr X b L xs) (hL : L ≤ 3072) (i u : Nat) (hi : i + 6 ≤ L) {h h1 h2 : zs_H} {v : Int32} (hu : 121 + 8 * (u + 2) ≤ 600000 ∧ 1494679 + 28 * (u + 2) ≤ 7302249) (e1 : f_Pk_watch h = some (v, h1)) (e2 : f_Mo_watch h1 = some (v, h2)) (k : zk_Ab X (zs_W S h2) (121 + 8 * (u + 2)) (1494679 + 28 * (u + 2)) 476 [(0, .ref b), (1, .ref (S.1 0)), (2, .ref (S.1 68)), (3, .int (nI i))] []) : zk_Ab X (zs_W S h) (121 + 8 * u) (1494679 + 28 * u) 368 [(0, .ref b), (1, .ref (S.1 0)), (2, .ref (S.1 68)), (3, .int (nI i))] [] := by
  refine zk_aload_n C kd_law_368 rfl 1 rfl rfl ?_
  refine zs_callV (k := 0) (rn := { frames := 4, cells := 0, slots := 0, locals := 98 }) (As := []) (rest := []) C (zc_Pk_watch h e1) ku_Pk_watch kx1571 kv_Pk_watch rfl ⟨by show 4 + 1 ≤ 2048; decide, by show 8 + (2 + 11) + 98 ≤ 84000; decide⟩ ⟨by show 121 + 8 * u + 0 ≤ 600000; omega, by show 1494679 + 28 * u + 0 ≤ 7302249; omega⟩ rfl rfl rfl (Nat.le_of_ble_eq_true rfl) kd_law_369 rfl (c1 := 121 + 8 * u) (s1 := 1494679 + 28 * u) rfl rfl (fun v0 w hp => ?_)
  obtain ⟨rfl, rfl⟩ := hp
  refine zk_stk (r' := [.int v]) rfl ?_
  refine zk_aload_n C kd_law_372 rfl 2 rfl rfl ?_
  refine zs_callV (k := 68) (rn := { frames := 7, cells := 16, slots := 56, locals := 202 }) (As := []) (rest := [.int v]) C (jzc_Mo_watch h1 (jw_w e2)) ku_Mo_watch kx2772 kv_Mo_watch rfl ⟨by show 7 + 1 ≤ 2048; decide, by show 8 + (6 + 11) + 202 ≤ 84000; decide⟩ ⟨by show 121 + 8 * u + 16 ≤ 600000; omega, by show 1494679 + 28 * u + 56 ≤ 7302249; omega⟩ rfl rfl rfl (Nat.le_of_ble_eq_true rfl) kd_law_373 rfl (c1 := 121 + 8 * (u + 2)) (s1 := 1494679 + 28 * (u + 2)) (by show 121 + 8 * u + 16 = 121 + 8 * (u + 2); omega) (by show 1494679 + 28 * u + 56 = 1494679 + 28 * (u + 2); omega) (fun v0 w hp => ?_)
  obtain ⟨rfl, rfl⟩ := hp
  refine zk_stk (r' := [.int v, .int v]) rfl ?_
  refine zk_icmp_eq (tgt := 476) C kd_law_376 (by decide) rfl (fun q => k) (fun q => absurd rfl q)
set_option maxHeartbeats 4000000 in
set_option maxRecDepth 100000 in
theorem jz_k9 {X : zkj_T} {S : zs_T} {P : ze_T} {l : Launch} {D : va_G} {sz0 b L : Nat} {xs : Nat → Int32} (C : zk_C X km_law (zs_G S l D sz0) room_1 (ze_E P)) (hs : jz_scr X b L xs) (hL : L ≤ 3072) (i u : Nat) (hi : i + 6 ≤ L) {h : zs_H} (hu : 121 + 8 * u ≤ 600000 ∧ 1494679 + 28 * u ≤ 7302249) (e2 : f_Mo_watched h = f_Pk_watched h) (k : zk_Ab X (zs_W S h) (121 + 8 * u) (1494679 + 28 * u) 476 [(0, .ref b), (1, .ref (S.1 0)), (2, .ref (S.1 68)), (3, .int (nI i))] []) : zk_Ab X (zs_W S h) (121 + 8 * u) (1494679 + 28 * u) 381 [(0, .ref b), (1, .ref (S.1 0)), (2, .ref (S.1 68)), (3, .int (nI i))] [] := by
  refine zk_aload_n C kd_law_381 rfl 1 rfl rfl ?_
  refine zs_callV (k := 0) (rn := { frames := 0, cells := 0, slots := 0, locals := 0 }) (As := []) (rest := []) C (zc_Pk_watched h) ku_Pk_watched kx1599 kv_Pk_watched rfl ⟨by show 0 + 1 ≤ 2048; decide, by show 8 + (1 + 11) + 0 ≤ 84000; decide⟩ ⟨by show 121 + 8 * u + 0 ≤ 600000; omega, by show 1494679 + 28 * u + 0 ≤ 7302249; omega⟩ rfl rfl rfl (Nat.le_of_ble_eq_true rfl) kd_law_382 rfl (c1 := 121 + 8 * u) (s1 := 1494679 + 28 * u) rfl rfl (fun v0 w hp => ?_)
  obtain ⟨rfl, rfl⟩ := hp
  refine zk_stk (r' := [.int (f_Pk_watched h)]) rfl ?_
  refine zk_aload_n C kd_law_385 rfl 2 rfl rfl ?_
  refine zs_callV (k := 68) (rn := { frames := 0, cells := 0, slots := 0, locals := 0 }) (As := []) (rest := [.int (f_Pk_watched h)]) C (zc_Mo_watched h) ku_Mo_watched kx2816 kv_Mo_watched rfl ⟨by show 0 + 1 ≤ 2048; decide, by show 8 + (1 + 11) + 0 ≤ 84000; decide⟩ ⟨by show 121 + 8 * u + 0 ≤ 600000; omega, by show 1494679 + 28 * u + 0 ≤ 7302249; omega⟩ rfl rfl rfl (Nat.le_of_ble_eq_true rfl) kd_law_386 rfl (c1 := 121 + 8 * u) (s1 := 1494679 + 28 * u) rfl rfl (fun v0 w hp => ?_)
  obtain ⟨rfl, rfl⟩ := hp
  refine zk_stk (r' := [.int (f_Mo_watched h), .int (f_Pk_watched h)]) rfl ?_
  refine zk_icmp_eq (tgt := 476) C kd_law_389 (by decide) rfl (fun q => k) (fun q => absurd e2.symm q)
set_option maxHeartbeats 4000000 in
set_option maxRecDepth 100000 in
theorem jz_k10 {X : zkj_T} {S : zs_T} {P : ze_T} {l : Launch} {D : va_G} {sz0 b L : Nat} {xs : Nat → Int32} (C : zk_C X km_law (zs_G S l D sz0) room_1 (ze_E P)) (hs : jz_scr X b L xs) (hL : L ≤ 3072) (i u : Nat) (hi : i + 6 ≤ L) {h h1 h2 : zs_H} {v : Int32} (hu : 121 + 8 * u ≤ 600000 ∧ 1494679 + 28 * u ≤ 7302249) (e1 : f_Pk_frame h = some (v, h1)) (e2 : f_Mo_frame h1 = some (v, h2)) (k : zk_Ab X (zs_W S h2) (121 + 8 * u) (1494679 + 28 * u) 476 [(0, .ref b), (1, .ref (S.1 0)), (2, .ref (S.1 68)), (3, .int (nI i))] []) : zk_Ab X (zs_W S h) (121 + 8 * u) (1494679 + 28 * u) 394 [(0, .ref b), (1, .ref (S.1 0)), (2, .ref (S.1 68)), (3, .int (nI i))] [] := by
  refine zk_aload_n C kd_law_394 rfl 1 rfl rfl ?_
  refine zs_callV (k := 0) (rn := { frames := 5, cells := 0, slots := 0, locals := 122 }) (As := []) (rest := []) C (zc_Pk_frame h e1) ku_Pk_frame kx1603 kv_Pk_frame rfl ⟨by show 5 + 1 ≤ 2048; decide, by show 8 + (2 + 11) + 122 ≤ 84000; decide⟩ ⟨by show 121 + 8 * u + 0 ≤ 600000; omega, by show 1494679 + 28 * u + 0 ≤ 7302249; omega⟩ rfl rfl rfl (Nat.le_of_ble_eq_true rfl) kd_law_395 rfl (c1 := 121 + 8 * u) (s1 := 1494679 + 28 * u) rfl rfl (fun v0 w hp => ?_)
  obtain ⟨rfl, rfl⟩ := hp
  refine zk_stk (r' := [.int v]) rfl ?_
  refine zk_aload_n C kd_law_398 rfl 2 rfl rfl ?_
  refine zs_callV (k := 68) (rn := { frames := 3, cells := 0, slots := 0, locals := 69 }) (As := []) (rest := [.int v]) C (zc_Mo_frame h1 e2) ku_Mo_frame kx2820 kv_Mo_frame rfl ⟨by show 3 + 1 ≤ 2048; decide, by show 8 + (6 + 11) + 69 ≤ 84000; decide⟩ ⟨by show 121 + 8 * u + 0 ≤ 600000; omega, by show 1494679 + 28 * u + 0 ≤ 7302249; omega⟩ rfl rfl rfl (Nat.le_of_ble_eq_true rfl) kd_law_399 rfl (c1 := 121 + 8 * u) (s1 := 1494679 + 28 * u) rfl rfl (fun v0 w hp => ?_)
  obtain ⟨rfl, rfl⟩ := hp
  refine zk_stk (r' := [.int v, .int v]) rfl ?_
  refine zk_icmp_eq (tgt := 476) C kd_law_402 (by decide) rfl (fun q => k) (fun q => absurd rfl q)
set_option maxHeartbeats 4000000 in
set_option maxRecDepth 100000 in
theorem jz_k11 {X : zkj_T} {S : zs_T} {P : ze_T} {l : Launch} {D : va_G} {sz0 b L : Nat} {xs : Nat → Int32} (C : zk_C X km_law (zs_G S l D sz0) room_1 (ze_E P)) (hs : jz_scr X b L xs) (hL : L ≤ 3072) (i u : Nat) (hi : i + 6 ≤ L) {h h1 h2 : zs_H} {v : Int32} (hu : 121 + 8 * u ≤ 600000 ∧ 1494679 + 28 * u ≤ 7302249) (e1 : f_Pk_station h (xs (i + 1)) = some (v, h1)) (e2 : f_Mo_station h1 (xs (i + 1)) = some (v, h2)) (k : zk_Ab X (zs_W S h2) (121 + 8 * u) (1494679 + 28 * u) 476 [(0, .ref b), (1, .ref (S.1 0)), (2, .ref (S.1 68)), (3, .int (nI i))] []) : zk_Ab X (zs_W S h) (121 + 8 * u) (1494679 + 28 * u) 407 [(0, .ref b), (1, .ref (S.1 0)), (2, .ref (S.1 68)), (3, .int (nI i))] [] := by
  refine zk_aload_n C kd_law_407 rfl 1 rfl rfl ?_
  refine zk_aload_n C kd_law_408 rfl 0 rfl rfl ?_
  refine zk_iload_n C kd_law_409 rfl 3 rfl rfl ?_
  refine zk_iconst (v := 1) C kd_law_410 (by decide) rfl ?_
  refine zk_iadd C kd_law_411 rfl ?_
  rw [show nI i + 1 = nI (i + 1) from nI_add i 1]
  refine jz_sld C hs (vp_in_nI (by omega) (by omega)) kd_law_412 rfl ?_
  rw [nI_clamp (by omega)]
  refine zs_callV (k := 0) (rn := { frames := 0, cells := 0, slots := 0, locals := 0 }) (As := [.int (xs (i + 1))]) (rest := []) C (zc_Pk_station h (xs (i + 1)) e1) ku_Pk_station kx1663 kv_Pk_station rfl ⟨by show 0 + 1 ≤ 2048; decide, by show 8 + (3 + 11) + 0 ≤ 84000; decide⟩ ⟨by show 121 + 8 * u + 0 ≤ 600000; omega, by show 1494679 + 28 * u + 0 ≤ 7302249; omega⟩ rfl rfl rfl (Nat.le_of_ble_eq_true rfl) kd_law_413 rfl (c1 := 121 + 8 * u) (s1 := 1494679 + 28 * u) rfl rfl (fun v0 w hp => ?_)
  obtain ⟨rfl, rfl⟩ := hp
  refine zk_stk (r' := [.int v]) rfl ?_
  refine zk_aload_n C kd_law_416 rfl 2 rfl rfl ?_
  refine zk_aload_n C kd_law_417 rfl 0 rfl rfl ?_
  refine zk_iload_n C kd_law_418 rfl 3 rfl rfl ?_
  refine zk_iconst (v := 1) C kd_law_419 (by decide) rfl ?_
  refine zk_iadd C kd_law_420 rfl ?_
  rw [show nI i + 1 = nI (i + 1) from nI_add i 1]
  refine jz_sld C hs (vp_in_nI (by omega) (by omega)) kd_law_421 rfl ?_
  rw [nI_clamp (by omega)]
  refine zs_callV (k := 68) (rn := { frames := 0, cells := 0, slots := 0, locals := 0 }) (As := [.int (xs (i + 1))]) (rest := [.int v]) C (zc_Mo_station h1 (xs (i + 1)) e2) ku_Mo_station kx2860 kv_Mo_station rfl ⟨by show 0 + 1 ≤ 2048; decide, by show 8 + (3 + 11) + 0 ≤ 84000; decide⟩ ⟨by show 121 + 8 * u + 0 ≤ 600000; omega, by show 1494679 + 28 * u + 0 ≤ 7302249; omega⟩ rfl rfl rfl (Nat.le_of_ble_eq_true rfl) kd_law_422 rfl (c1 := 121 + 8 * u) (s1 := 1494679 + 28 * u) rfl rfl (fun v0 w hp => ?_)
  obtain ⟨rfl, rfl⟩ := hp
  refine zk_stk (r' := [.int v, .int v]) rfl ?_
  refine zk_icmp_eq (tgt := 476) C kd_law_425 (by decide) rfl (fun q => k) (fun q => absurd rfl q)
set_option maxHeartbeats 4000000 in
set_option maxRecDepth 100000 in
theorem jz_k12 {X : zkj_T} {S : zs_T} {P : ze_T} {l : Launch} {D : va_G} {sz0 b L : Nat} {xs : Nat → Int32} (C : zk_C X km_law (zs_G S l D sz0) room_1 (ze_E P)) (hs : jz_scr X b L xs) (hL : L ≤ 3072) (i u : Nat) (hi : i + 6 ≤ L) {h : zs_H} {v : Int32} (hu : 121 + 8 * u ≤ 600000 ∧ 1494679 + 28 * u ≤ 7302249) (e1 : f_Pk_byteAt h (xs (i + 1)) = some v) (e2 : f_Mo_byteAt h (xs (i + 1)) = some v) (k : zk_Ab X (zs_W S h) (121 + 8 * u) (1494679 + 28 * u) 476 [(0, .ref b), (1, .ref (S.1 0)), (2, .ref (S.1 68)), (3, .int (nI i))] []) : zk_Ab X (zs_W S h) (121 + 8 * u) (1494679 + 28 * u) 430 [(0, .ref b), (1, .ref (S.1 0)), (2, .ref (S.1 68)), (3, .int (nI i))] [] := by
  refine zk_aload_n C kd_law_430 rfl 1 rfl rfl ?_
  refine zk_aload_n C kd_law_431 rfl 0 rfl rfl ?_
  refine zk_iload_n C kd_law_432 rfl 3 rfl rfl ?_
  refine zk_iconst (v := 1) C kd_law_433 (by decide) rfl ?_
  refine zk_iadd C kd_law_434 rfl ?_
  rw [show nI i + 1 = nI (i + 1) from nI_add i 1]
  refine jz_sld C hs (vp_in_nI (by omega) (by omega)) kd_law_435 rfl ?_
  rw [nI_clamp (by omega)]
  refine zs_callV (k := 0) (rn := { frames := 0, cells := 0, slots := 0, locals := 0 }) (As := [.int (xs (i + 1))]) (rest := []) C (zc_Pk_byteAt h (xs (i + 1)) e1) ku_Pk_byteAt kx1667 kv_Pk_byteAt rfl ⟨by show 0 + 1 ≤ 2048; decide, by show 8 + (2 + 11) + 0 ≤ 84000; decide⟩ ⟨by show 121 + 8 * u + 0 ≤ 600000; omega, by show 1494679 + 28 * u + 0 ≤ 7302249; omega⟩ rfl rfl rfl (Nat.le_of_ble_eq_true rfl) kd_law_436 rfl (c1 := 121 + 8 * u) (s1 := 1494679 + 28 * u) rfl rfl (fun v0 w hp => ?_)
  obtain ⟨rfl, rfl⟩ := hp
  refine zk_stk (r' := [.int v]) rfl ?_
  refine zk_aload_n C kd_law_439 rfl 2 rfl rfl ?_
  refine zk_aload_n C kd_law_440 rfl 0 rfl rfl ?_
  refine zk_iload_n C kd_law_441 rfl 3 rfl rfl ?_
  refine zk_iconst (v := 1) C kd_law_442 (by decide) rfl ?_
  refine zk_iadd C kd_law_443 rfl ?_
  rw [show nI i + 1 = nI (i + 1) from nI_add i 1]
  refine jz_sld C hs (vp_in_nI (by omega) (by omega)) kd_law_444 rfl ?_
  rw [nI_clamp (by omega)]
  refine zs_callV (k := 68) (rn := { frames := 0, cells := 0, slots := 0, locals := 0 }) (As := [.int (xs (i + 1))]) (rest := [.int v]) C (zc_Mo_byteAt h (xs (i + 1)) e2) ku_Mo_byteAt kx2864 kv_Mo_byteAt rfl ⟨by show 0 + 1 ≤ 2048; decide, by show 8 + (2 + 11) + 0 ≤ 84000; decide⟩ ⟨by show 121 + 8 * u + 0 ≤ 600000; omega, by show 1494679 + 28 * u + 0 ≤ 7302249; omega⟩ rfl rfl rfl (Nat.le_of_ble_eq_true rfl) kd_law_445 rfl (c1 := 121 + 8 * u) (s1 := 1494679 + 28 * u) rfl rfl (fun v0 w hp => ?_)
  obtain ⟨rfl, rfl⟩ := hp
  refine zk_stk (r' := [.int v, .int v]) rfl ?_
  refine zk_icmp_eq (tgt := 476) C kd_law_448 (by decide) rfl (fun q => k) (fun q => absurd rfl q)
set_option maxHeartbeats 4000000 in
set_option maxRecDepth 100000 in
theorem jz_k13 {X : zkj_T} {S : zs_T} {P : ze_T} {l : Launch} {D : va_G} {sz0 b L : Nat} {xs : Nat → Int32} (C : zk_C X km_law (zs_G S l D sz0) room_1 (ze_E P)) (hs : jz_scr X b L xs) (hL : L ≤ 3072) (i u : Nat) (hi : i + 6 ≤ L) {h : zs_H} (hu : 121 + 8 * u ≤ 600000 ∧ 1494679 + 28 * u ≤ 7302249) (e2 : f_Mo_count h (xs (i + 1)) = some (f_Pk_count h (xs (i + 1)))) (k : zk_Ab X (zs_W S h) (121 + 8 * u) (1494679 + 28 * u) 476 [(0, .ref b), (1, .ref (S.1 0)), (2, .ref (S.1 68)), (3, .int (nI i))] []) : zk_Ab X (zs_W S h) (121 + 8 * u) (1494679 + 28 * u) 453 [(0, .ref b), (1, .ref (S.1 0)), (2, .ref (S.1 68)), (3, .int (nI i))] [] := by
  refine zk_aload_n C kd_law_453 rfl 1 rfl rfl ?_
  refine zk_aload_n C kd_law_454 rfl 0 rfl rfl ?_
  refine zk_iload_n C kd_law_455 rfl 3 rfl rfl ?_
  refine zk_iconst (v := 1) C kd_law_456 (by decide) rfl ?_
  refine zk_iadd C kd_law_457 rfl ?_
  rw [show nI i + 1 = nI (i + 1) from nI_add i 1]
  refine jz_sld C hs (vp_in_nI (by omega) (by omega)) kd_law_458 rfl ?_
  rw [nI_clamp (by omega)]
  refine zs_callV (k := 0) (rn := { frames := 0, cells := 0, slots := 0, locals := 0 }) (As := [.int (xs (i + 1))]) (rest := []) C (zc_Pk_count h (xs (i + 1))) ku_Pk_count kx1671 kv_Pk_count rfl ⟨by show 0 + 1 ≤ 2048; decide, by show 8 + (2 + 11) + 0 ≤ 84000; decide⟩ ⟨by show 121 + 8 * u + 0 ≤ 600000; omega, by show 1494679 + 28 * u + 0 ≤ 7302249; omega⟩ rfl rfl rfl (Nat.le_of_ble_eq_true rfl) kd_law_459 rfl (c1 := 121 + 8 * u) (s1 := 1494679 + 28 * u) rfl rfl (fun v0 w hp => ?_)
  obtain ⟨rfl, rfl⟩ := hp
  refine zk_stk (r' := [.int (f_Pk_count h (xs (i + 1)))]) rfl ?_
  refine zk_aload_n C kd_law_462 rfl 2 rfl rfl ?_
  refine zk_aload_n C kd_law_463 rfl 0 rfl rfl ?_
  refine zk_iload_n C kd_law_464 rfl 3 rfl rfl ?_
  refine zk_iconst (v := 1) C kd_law_465 (by decide) rfl ?_
  refine zk_iadd C kd_law_466 rfl ?_
  rw [show nI i + 1 = nI (i + 1) from nI_add i 1]
  refine jz_sld C hs (vp_in_nI (by omega) (by omega)) kd_law_467 rfl ?_
  rw [nI_clamp (by omega)]
  refine zs_callV (k := 68) (rn := { frames := 0, cells := 0, slots := 0, locals := 0 }) (As := [.int (xs (i + 1))]) (rest := [.int (f_Pk_count h (xs (i + 1)))]) C (zc_Mo_count h (xs (i + 1)) e2) ku_Mo_count kx2868 kv_Mo_count rfl ⟨by show 0 + 1 ≤ 2048; decide, by show 8 + (2 + 11) + 0 ≤ 84000; decide⟩ ⟨by show 121 + 8 * u + 0 ≤ 600000; omega, by show 1494679 + 28 * u + 0 ≤ 7302249; omega⟩ rfl rfl rfl (Nat.le_of_ble_eq_true rfl) kd_law_468 rfl (c1 := 121 + 8 * u) (s1 := 1494679 + 28 * u) rfl rfl (fun v0 w hp => ?_)
  obtain ⟨rfl, rfl⟩ := hp
  refine zk_stk (r' := [.int (f_Pk_count h (xs (i + 1))), .int (f_Pk_count h (xs (i + 1)))]) rfl ?_
  refine zk_icmp_eq (tgt := 476) C kd_law_471 (by decide) rfl (fun q => k) (fun q => absurd rfl q)
