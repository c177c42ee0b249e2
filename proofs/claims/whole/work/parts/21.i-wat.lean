theorem kw2773 : Jvm.Cond.instanceMethod ({ cls := "PlantKeeperModel", name := "watch", desc := "()I" } : Jvm.MethodName) ∈ zk_BW := zk_inT 2773 (by decide +kernel) rfl
theorem kw2774 : Jvm.Cond.selects "PlantKeeperModel" ({ cls := "PlantKeeperModel", name := "watch", desc := "()I" } : Jvm.MethodName) ({ cls := "PlantKeeperModel", name := "watch", desc := "()I" } : Jvm.MethodName) ∈ zk_BW := zk_inT 2774 (by decide +kernel) rfl
theorem kw2775 : Jvm.Cond.code ({ cls := "PlantKeeperModel", name := "watch", desc := "()I" } : Jvm.MethodName) prog_14_method_182_code (6 : Nat) (Option.some FieldType.int) ∈ zk_BW := zk_inT 2775 (by decide +kernel) rfl
theorem kw2776 : Jvm.Cond.methodLink "PlantKeeperModel" (916 : Nat) ({ cls := "PlantKeeperModel", name := "readPathName", desc := "()Z" } : Jvm.MethodName) ∈ zk_BW := zk_inT 2776 (by decide +kernel) rfl
theorem kw2784 : Jvm.Cond.methodLink "PlantKeeperModel" (919 : Nat) ({ cls := "PlantKeeperModel", name := "variableOnPath", desc := "(I)I" } : Jvm.MethodName) ∈ zk_BW := zk_inT 2784 (by decide +kernel) rfl
theorem kw2796 : Jvm.Cond.methodLink "PlantKeeperModel" (925 : Nat) ({ cls := "PlantKeeperModel", name := "watchPin", desc := "(II)I" } : Jvm.MethodName) ∈ zk_BW := zk_inT 2796 (by decide +kernel) rfl
theorem kw2804 : Jvm.Cond.methodLink "PlantKeeperModel" (931 : Nat) ({ cls := "PlantKeeperModel", name := "see", desc := "(II)I" } : Jvm.MethodName) ∈ zk_BW := zk_inT 2804 (by decide +kernel) rfl
theorem kw2808 : Jvm.Cond.methodLink "PlantKeeperModel" (928 : Nat) ({ cls := "PlantKeeperModel", name := "readIndex", desc := "()I" } : Jvm.MethodName) ∈ zk_BW := zk_inT 2808 (by decide +kernel) rfl
abbrev kc_Mo_watch : ByteArray := prog_14_method_182_code
def km_Mo_watch : zk_MT := (⟨"PlantKeeperModel", "watch", "()I"⟩, kc_Mo_watch, 6, some .int, 0)
theorem ku_Mo_watch : zk_My km_Mo_watch := ⟨kw2775, kw17, by decide, by decide, by decide, by decide +kernel⟩
theorem kv_Mo_watch : zk_Mv km_Mo_watch := ⟨kw2773, kw2774⟩
theorem kd_Mo_watch_0 : decode kc_Mo_watch 0 = .ok (.aload_n 0, 1) := by decide +kernel
theorem kd_Mo_watch_1 : decode kc_Mo_watch 1 = .ok (.aload_n 0, 1) := by decide +kernel
theorem kd_Mo_watch_2 : decode kc_Mo_watch 2 = .ok (.invokevirtual 850, 3) := by decide +kernel
theorem kd_Mo_watch_5 : decode kc_Mo_watch 5 = .ok (.putfield 904, 3) := by decide +kernel
theorem kd_Mo_watch_8 : decode kc_Mo_watch 8 = .ok (.aload_n 0, 1) := by decide +kernel
theorem kd_Mo_watch_9 : decode kc_Mo_watch 9 = .ok (.getfield 874, 3) := by decide +kernel
theorem kd_Mo_watch_12 : decode kc_Mo_watch 12 = .ok (.ifCond .ne 6, 3) := by decide +kernel
theorem kd_Mo_watch_15 : decode kc_Mo_watch 15 = .ok (.bipush (-5), 2) := by decide +kernel
theorem kd_Mo_watch_17 : decode kc_Mo_watch 17 = .ok (.ireturn, 1) := by decide +kernel
theorem kd_Mo_watch_18 : decode kc_Mo_watch 18 = .ok (.aload_n 0, 1) := by decide +kernel
theorem kd_Mo_watch_19 : decode kc_Mo_watch 19 = .ok (.iconst 0, 1) := by decide +kernel
theorem kd_Mo_watch_20 : decode kc_Mo_watch 20 = .ok (.putfield 907, 3) := by decide +kernel
theorem kd_Mo_watch_23 : decode kc_Mo_watch 23 = .ok (.aload_n 0, 1) := by decide +kernel
theorem kd_Mo_watch_24 : decode kc_Mo_watch 24 = .ok (.getfield 462, 3) := by decide +kernel
theorem kd_Mo_watch_27 : decode kc_Mo_watch 27 = .ok (.iconst 1, 1) := by decide +kernel
theorem kd_Mo_watch_28 : decode kc_Mo_watch 28 = .ok (.isub, 1) := by decide +kernel
theorem kd_Mo_watch_29 : decode kc_Mo_watch 29 = .ok (.istore_n 1, 1) := by decide +kernel
theorem kd_Mo_watch_30 : decode kc_Mo_watch 30 = .ok (.iconst 0, 1) := by decide +kernel
theorem kd_Mo_watch_31 : decode kc_Mo_watch 31 = .ok (.istore_n 2, 1) := by decide +kernel
theorem kd_Mo_watch_32 : decode kc_Mo_watch 32 = .ok (.iconst 1, 1) := by decide +kernel
theorem kd_Mo_watch_33 : decode kc_Mo_watch 33 = .ok (.istore_n 3, 1) := by decide +kernel
theorem kd_Mo_watch_34 : decode kc_Mo_watch 34 = .ok (.iconst (-1), 1) := by decide +kernel
theorem kd_Mo_watch_35 : decode kc_Mo_watch 35 = .ok (.istore 4, 2) := by decide +kernel
theorem kd_Mo_watch_37 : decode kc_Mo_watch 37 = .ok (.iload_n 3, 1) := by decide +kernel
theorem kd_Mo_watch_38 : decode kc_Mo_watch 38 = .ok (.ifCond .eq 90, 3) := by decide +kernel
theorem kd_Mo_watch_41 : decode kc_Mo_watch 41 = .ok (.aload_n 0, 1) := by decide +kernel
theorem kd_Mo_watch_42 : decode kc_Mo_watch 42 = .ok (.invokevirtual 916, 3) := by decide +kernel
theorem kd_Mo_watch_45 : decode kc_Mo_watch 45 = .ok (.ifCond .eq 11, 3) := by decide +kernel
theorem kd_Mo_watch_48 : decode kc_Mo_watch 48 = .ok (.aload_n 0, 1) := by decide +kernel
theorem kd_Mo_watch_49 : decode kc_Mo_watch 49 = .ok (.iload_n 1, 1) := by decide +kernel
theorem kd_Mo_watch_50 : decode kc_Mo_watch 50 = .ok (.invokevirtual 919, 3) := by decide +kernel
theorem kd_Mo_watch_53 : decode kc_Mo_watch 53 = .ok (.goto 4, 3) := by decide +kernel
theorem kd_Mo_watch_56 : decode kc_Mo_watch 56 = .ok (.iconst (-1), 1) := by decide +kernel
theorem kd_Mo_watch_57 : decode kc_Mo_watch 57 = .ok (.istore 4, 2) := by decide +kernel
theorem kd_Mo_watch_59 : decode kc_Mo_watch 59 = .ok (.iload 4, 2) := by decide +kernel
theorem kd_Mo_watch_61 : decode kc_Mo_watch 61 = .ok (.ifCond .lt 40, 3) := by decide +kernel
theorem kd_Mo_watch_64 : decode kc_Mo_watch 64 = .ok (.aload_n 0, 1) := by decide +kernel
theorem kd_Mo_watch_65 : decode kc_Mo_watch 65 = .ok (.getfield 82, 3) := by decide +kernel
theorem kd_Mo_watch_68 : decode kc_Mo_watch 68 = .ok (.iload 4, 2) := by decide +kernel
theorem kd_Mo_watch_70 : decode kc_Mo_watch 70 = .ok (.iaload, 1) := by decide +kernel
theorem kd_Mo_watch_71 : decode kc_Mo_watch 71 = .ok (.iconst 2, 1) := by decide +kernel
theorem kd_Mo_watch_72 : decode kc_Mo_watch 72 = .ok (.if_icmp .ne 29, 3) := by decide +kernel
theorem kd_Mo_watch_75 : decode kc_Mo_watch 75 = .ok (.aload_n 0, 1) := by decide +kernel
theorem kd_Mo_watch_76 : decode kc_Mo_watch 76 = .ok (.getfield 85, 3) := by decide +kernel
theorem kd_Mo_watch_79 : decode kc_Mo_watch 79 = .ok (.iload 4, 2) := by decide +kernel
theorem kd_Mo_watch_81 : decode kc_Mo_watch 81 = .ok (.iaload, 1) := by decide +kernel
theorem kd_Mo_watch_82 : decode kc_Mo_watch 82 = .ok (.ldc_w 498, 3) := by decide +kernel
theorem kd_Mo_watch_85 : decode kc_Mo_watch 85 = .ok (.if_icmp .ge 16, 3) := by decide +kernel
theorem kd_Mo_watch_88 : decode kc_Mo_watch 88 = .ok (.aload_n 0, 1) := by decide +kernel
theorem kd_Mo_watch_89 : decode kc_Mo_watch 89 = .ok (.bipush 46, 2) := by decide +kernel
theorem kd_Mo_watch_91 : decode kc_Mo_watch 91 = .ok (.invokevirtual 922, 3) := by decide +kernel
theorem kd_Mo_watch_94 : decode kc_Mo_watch 94 = .ok (.ifCond .eq 7, 3) := by decide +kernel
theorem kd_Mo_watch_97 : decode kc_Mo_watch 97 = .ok (.iconst 1, 1) := by decide +kernel
theorem kd_Mo_watch_98 : decode kc_Mo_watch 98 = .ok (.goto 4, 3) := by decide +kernel
theorem kd_Mo_watch_101 : decode kc_Mo_watch 101 = .ok (.iconst 0, 1) := by decide +kernel
theorem kd_Mo_watch_102 : decode kc_Mo_watch 102 = .ok (.istore_n 3, 1) := by decide +kernel
theorem kd_Mo_watch_103 : decode kc_Mo_watch 103 = .ok (.iload_n 3, 1) := by decide +kernel
theorem kd_Mo_watch_104 : decode kc_Mo_watch 104 = .ok (.ifCond .eq (-67), 3) := by decide +kernel
theorem kd_Mo_watch_107 : decode kc_Mo_watch 107 = .ok (.iload_n 2, 1) := by decide +kernel
theorem kd_Mo_watch_108 : decode kc_Mo_watch 108 = .ok (.aload_n 0, 1) := by decide +kernel
theorem kd_Mo_watch_109 : decode kc_Mo_watch 109 = .ok (.getfield 88, 3) := by decide +kernel
theorem kd_Mo_watch_112 : decode kc_Mo_watch 112 = .ok (.iload 4, 2) := by decide +kernel
theorem kd_Mo_watch_114 : decode kc_Mo_watch 114 = .ok (.iaload, 1) := by decide +kernel
theorem kd_Mo_watch_115 : decode kc_Mo_watch 115 = .ok (.iadd, 1) := by decide +kernel
theorem kd_Mo_watch_116 : decode kc_Mo_watch 116 = .ok (.istore_n 2, 1) := by decide +kernel
theorem kd_Mo_watch_117 : decode kc_Mo_watch 117 = .ok (.aload_n 0, 1) := by decide +kernel
theorem kd_Mo_watch_118 : decode kc_Mo_watch 118 = .ok (.getfield 85, 3) := by decide +kernel
theorem kd_Mo_watch_121 : decode kc_Mo_watch 121 = .ok (.iload 4, 2) := by decide +kernel
theorem kd_Mo_watch_123 : decode kc_Mo_watch 123 = .ok (.iaload, 1) := by decide +kernel
theorem kd_Mo_watch_124 : decode kc_Mo_watch 124 = .ok (.istore_n 1, 1) := by decide +kernel
theorem kd_Mo_watch_125 : decode kc_Mo_watch 125 = .ok (.goto (-88), 3) := by decide +kernel
theorem kd_Mo_watch_128 : decode kc_Mo_watch 128 = .ok (.iload 4, 2) := by decide +kernel
theorem kd_Mo_watch_130 : decode kc_Mo_watch 130 = .ok (.ifCond .lt 27, 3) := by decide +kernel
theorem kd_Mo_watch_133 : decode kc_Mo_watch 133 = .ok (.aload_n 0, 1) := by decide +kernel
theorem kd_Mo_watch_134 : decode kc_Mo_watch 134 = .ok (.getfield 82, 3) := by decide +kernel
theorem kd_Mo_watch_137 : decode kc_Mo_watch 137 = .ok (.iload 4, 2) := by decide +kernel
theorem kd_Mo_watch_139 : decode kc_Mo_watch 139 = .ok (.iaload, 1) := by decide +kernel
theorem kd_Mo_watch_140 : decode kc_Mo_watch 140 = .ok (.iconst 2, 1) := by decide +kernel
theorem kd_Mo_watch_141 : decode kc_Mo_watch 141 = .ok (.if_icmp .ne 18, 3) := by decide +kernel
theorem kd_Mo_watch_144 : decode kc_Mo_watch 144 = .ok (.aload_n 0, 1) := by decide +kernel
theorem kd_Mo_watch_145 : decode kc_Mo_watch 145 = .ok (.getfield 85, 3) := by decide +kernel
theorem kd_Mo_watch_148 : decode kc_Mo_watch 148 = .ok (.iload 4, 2) := by decide +kernel
theorem kd_Mo_watch_150 : decode kc_Mo_watch 150 = .ok (.iaload, 1) := by decide +kernel
theorem kd_Mo_watch_151 : decode kc_Mo_watch 151 = .ok (.ldc_w 498, 3) := by decide +kernel
theorem kd_Mo_watch_154 : decode kc_Mo_watch 154 = .ok (.if_icmp .ge 5, 3) := by decide +kernel
theorem kd_Mo_watch_157 : decode kc_Mo_watch 157 = .ok (.iconst (-1), 1) := by decide +kernel
theorem kd_Mo_watch_158 : decode kc_Mo_watch 158 = .ok (.ireturn, 1) := by decide +kernel
theorem kd_Mo_watch_159 : decode kc_Mo_watch 159 = .ok (.iload_n 2, 1) := by decide +kernel
theorem kd_Mo_watch_160 : decode kc_Mo_watch 160 = .ok (.aload_n 0, 1) := by decide +kernel
theorem kd_Mo_watch_161 : decode kc_Mo_watch 161 = .ok (.getfield 88, 3) := by decide +kernel
theorem kd_Mo_watch_164 : decode kc_Mo_watch 164 = .ok (.iload 4, 2) := by decide +kernel
theorem kd_Mo_watch_166 : decode kc_Mo_watch 166 = .ok (.iaload, 1) := by decide +kernel
theorem kd_Mo_watch_167 : decode kc_Mo_watch 167 = .ok (.iadd, 1) := by decide +kernel
theorem kd_Mo_watch_168 : decode kc_Mo_watch 168 = .ok (.istore_n 2, 1) := by decide +kernel
theorem kd_Mo_watch_169 : decode kc_Mo_watch 169 = .ok (.aload_n 0, 1) := by decide +kernel
theorem kd_Mo_watch_170 : decode kc_Mo_watch 170 = .ok (.getfield 82, 3) := by decide +kernel
theorem kd_Mo_watch_173 : decode kc_Mo_watch 173 = .ok (.iload 4, 2) := by decide +kernel
theorem kd_Mo_watch_175 : decode kc_Mo_watch 175 = .ok (.iaload, 1) := by decide +kernel
theorem kd_Mo_watch_176 : decode kc_Mo_watch 176 = .ok (.iconst 2, 1) := by decide +kernel
theorem kd_Mo_watch_177 : decode kc_Mo_watch 177 = .ok (.if_icmp .ne 16, 3) := by decide +kernel
theorem kd_Mo_watch_180 : decode kc_Mo_watch 180 = .ok (.aload_n 0, 1) := by decide +kernel
theorem kd_Mo_watch_181 : decode kc_Mo_watch 181 = .ok (.aload_n 0, 1) := by decide +kernel
theorem kd_Mo_watch_182 : decode kc_Mo_watch 182 = .ok (.getfield 85, 3) := by decide +kernel
theorem kd_Mo_watch_185 : decode kc_Mo_watch 185 = .ok (.iload 4, 2) := by decide +kernel
theorem kd_Mo_watch_187 : decode kc_Mo_watch 187 = .ok (.iaload, 1) := by decide +kernel
theorem kd_Mo_watch_188 : decode kc_Mo_watch 188 = .ok (.iload_n 2, 1) := by decide +kernel
theorem kd_Mo_watch_189 : decode kc_Mo_watch 189 = .ok (.invokevirtual 925, 3) := by decide +kernel
theorem kd_Mo_watch_192 : decode kc_Mo_watch 192 = .ok (.ireturn, 1) := by decide +kernel
theorem kd_Mo_watch_193 : decode kc_Mo_watch 193 = .ok (.aload_n 0, 1) := by decide +kernel
theorem kd_Mo_watch_194 : decode kc_Mo_watch 194 = .ok (.getfield 82, 3) := by decide +kernel
theorem kd_Mo_watch_197 : decode kc_Mo_watch 197 = .ok (.iload 4, 2) := by decide +kernel
theorem kd_Mo_watch_199 : decode kc_Mo_watch 199 = .ok (.iaload, 1) := by decide +kernel
theorem kd_Mo_watch_200 : decode kc_Mo_watch 200 = .ok (.iconst 1, 1) := by decide +kernel
theorem kd_Mo_watch_201 : decode kc_Mo_watch 201 = .ok (.if_icmp .ne 61, 3) := by decide +kernel
theorem kd_Mo_watch_204 : decode kc_Mo_watch 204 = .ok (.aload_n 0, 1) := by decide +kernel
theorem kd_Mo_watch_205 : decode kc_Mo_watch 205 = .ok (.invokevirtual 928, 3) := by decide +kernel
theorem kd_Mo_watch_208 : decode kc_Mo_watch 208 = .ok (.aload_n 0, 1) := by decide +kernel
theorem kd_Mo_watch_209 : decode kc_Mo_watch 209 = .ok (.getfield 97, 3) := by decide +kernel
theorem kd_Mo_watch_212 : decode kc_Mo_watch 212 = .ok (.iload 4, 2) := by decide +kernel
theorem kd_Mo_watch_214 : decode kc_Mo_watch 214 = .ok (.iaload, 1) := by decide +kernel
theorem kd_Mo_watch_215 : decode kc_Mo_watch 215 = .ok (.isub, 1) := by decide +kernel
theorem kd_Mo_watch_216 : decode kc_Mo_watch 216 = .ok (.istore 5, 2) := by decide +kernel
theorem kd_Mo_watch_218 : decode kc_Mo_watch 218 = .ok (.aload_n 0, 1) := by decide +kernel
theorem kd_Mo_watch_219 : decode kc_Mo_watch 219 = .ok (.getfield 907, 3) := by decide +kernel
theorem kd_Mo_watch_222 : decode kc_Mo_watch 222 = .ok (.ifCond .lt 20, 3) := by decide +kernel
theorem kd_Mo_watch_225 : decode kc_Mo_watch 225 = .ok (.iload 5, 2) := by decide +kernel
theorem kd_Mo_watch_227 : decode kc_Mo_watch 227 = .ok (.ifCond .lt 15, 3) := by decide +kernel
theorem kd_Mo_watch_230 : decode kc_Mo_watch 230 = .ok (.iload 5, 2) := by decide +kernel
theorem kd_Mo_watch_232 : decode kc_Mo_watch 232 = .ok (.aload_n 0, 1) := by decide +kernel
theorem kd_Mo_watch_233 : decode kc_Mo_watch 233 = .ok (.getfield 100, 3) := by decide +kernel
theorem kd_Mo_watch_236 : decode kc_Mo_watch 236 = .ok (.iload 4, 2) := by decide +kernel
theorem kd_Mo_watch_238 : decode kc_Mo_watch 238 = .ok (.iaload, 1) := by decide +kernel
theorem kd_Mo_watch_239 : decode kc_Mo_watch 239 = .ok (.if_icmp .lt 7, 3) := by decide +kernel
theorem kd_Mo_watch_242 : decode kc_Mo_watch 242 = .ok (.iconst (-1), 1) := by decide +kernel
theorem kd_Mo_watch_243 : decode kc_Mo_watch 243 = .ok (.goto 18, 3) := by decide +kernel
theorem kd_Mo_watch_246 : decode kc_Mo_watch 246 = .ok (.aload_n 0, 1) := by decide +kernel
theorem kd_Mo_watch_247 : decode kc_Mo_watch 247 = .ok (.aload_n 0, 1) := by decide +kernel
theorem kd_Mo_watch_248 : decode kc_Mo_watch 248 = .ok (.getfield 85, 3) := by decide +kernel
theorem kd_Mo_watch_251 : decode kc_Mo_watch 251 = .ok (.iload 4, 2) := by decide +kernel
theorem kd_Mo_watch_253 : decode kc_Mo_watch 253 = .ok (.iaload, 1) := by decide +kernel
theorem kd_Mo_watch_254 : decode kc_Mo_watch 254 = .ok (.iload_n 2, 1) := by decide +kernel
theorem kd_Mo_watch_255 : decode kc_Mo_watch 255 = .ok (.iload 5, 2) := by decide +kernel
theorem kd_Mo_watch_257 : decode kc_Mo_watch 257 = .ok (.iadd, 1) := by decide +kernel
theorem kd_Mo_watch_258 : decode kc_Mo_watch 258 = .ok (.invokevirtual 931, 3) := by decide +kernel
theorem kd_Mo_watch_261 : decode kc_Mo_watch 261 = .ok (.ireturn, 1) := by decide +kernel
theorem kd_Mo_watch_262 : decode kc_Mo_watch 262 = .ok (.aload_n 0, 1) := by decide +kernel
theorem kd_Mo_watch_263 : decode kc_Mo_watch 263 = .ok (.getfield 907, 3) := by decide +kernel
theorem kd_Mo_watch_266 : decode kc_Mo_watch 266 = .ok (.aload_n 0, 1) := by decide +kernel
theorem kd_Mo_watch_267 : decode kc_Mo_watch 267 = .ok (.getfield 904, 3) := by decide +kernel
theorem kd_Mo_watch_270 : decode kc_Mo_watch 270 = .ok (.if_icmp .ge 7, 3) := by decide +kernel
theorem kd_Mo_watch_273 : decode kc_Mo_watch 273 = .ok (.iconst (-1), 1) := by decide +kernel
theorem kd_Mo_watch_274 : decode kc_Mo_watch 274 = .ok (.goto 15, 3) := by decide +kernel
theorem kd_Mo_watch_277 : decode kc_Mo_watch 277 = .ok (.aload_n 0, 1) := by decide +kernel
theorem kd_Mo_watch_278 : decode kc_Mo_watch 278 = .ok (.aload_n 0, 1) := by decide +kernel
theorem kd_Mo_watch_279 : decode kc_Mo_watch 279 = .ok (.getfield 85, 3) := by decide +kernel
theorem kd_Mo_watch_282 : decode kc_Mo_watch 282 = .ok (.iload 4, 2) := by decide +kernel
theorem kd_Mo_watch_284 : decode kc_Mo_watch 284 = .ok (.iaload, 1) := by decide +kernel
theorem kd_Mo_watch_285 : decode kc_Mo_watch 285 = .ok (.iload_n 2, 1) := by decide +kernel
theorem kd_Mo_watch_286 : decode kc_Mo_watch 286 = .ok (.invokevirtual 931, 3) := by decide +kernel
theorem kd_Mo_watch_289 : decode kc_Mo_watch 289 = .ok (.ireturn, 1) := by decide +kernel
def jw_watch_102 (k37 : zs_H → Int32 → Int32 → Int32 → Int32 → (Option (Int32 × zs_H))) (h : zs_H) (x1 : Int32) (x2 : Int32) (x4 : Int32) (y0 : Int32) : (Option (Int32 × zs_H)) := (if y0 = 0 then k37 h x1 x2 y0 x4 else (if zd_in x4 8400 then k37 h (h.2.1 93 x4.toNatClampNeg) (x2 + (h.2.1 94 x4.toNatClampNeg)) y0 x4 else none))
def jw_watch_101 (k37 : zs_H → Int32 → Int32 → Int32 → Int32 → (Option (Int32 × zs_H))) (h : zs_H) (x1 : Int32) (x2 : Int32) (x4 : Int32) : (Option (Int32 × zs_H)) := jw_watch_102 k37 h x1 x2 x4 0
def jw_watch_57 (k37 : zs_H → Int32 → Int32 → Int32 → Int32 → (Option (Int32 × zs_H))) (h : zs_H) (x1 : Int32) (x2 : Int32) (y0 : Int32) : (Option (Int32 × zs_H)) := (if y0 < 0 then jw_watch_101 k37 h x1 x2 y0 else (if zd_in y0 8400 then (if (h.2.1 92 y0.toNatClampNeg) = 2 then (if 100000 ≤ (h.2.1 93 y0.toNatClampNeg) then jw_watch_101 k37 h x1 x2 y0 else (zd_B (f_Mo_passes h 46) fun v6 h7 => (if v6 = 0 then jw_watch_101 k37 h7 x1 x2 y0 else jw_watch_102 k37 h7 x1 x2 y0 1))) else jw_watch_101 k37 h x1 x2 y0) else none))
def jw_watch_159 (h : zs_H) (x2 : Int32) (x4 : Int32) : (Option (Int32 × zs_H)) := (if zd_in x4 8400 then (if (h.2.1 92 x4.toNatClampNeg) = 2 then (zd_B (f_Mo_watchPin h (h.2.1 93 x4.toNatClampNeg) (x2 + (h.2.1 94 x4.toNatClampNeg))) fun v19 h20 => (some (v19, h20))) else (if (h.2.1 92 x4.toNatClampNeg) = 1 then (zd_B (f_Mo_readIndex h) fun v9 h10 => (if zd_in x4 8400 then (if (h10.1 68 93) < 0 then (some ((-1), h10)) else (if (v9 - (h10.2.1 97 x4.toNatClampNeg)) < 0 then (some ((-1), h10)) else (if (v9 - (h10.2.1 97 x4.toNatClampNeg)) < (h10.2.1 98 x4.toNatClampNeg) then (zd_B (f_Mo_see h10 (h10.2.1 93 x4.toNatClampNeg) ((x2 + (h.2.1 94 x4.toNatClampNeg)) + (v9 - (h10.2.1 97 x4.toNatClampNeg)))) fun v16 h17 => (some (v16, h17))) else (some ((-1), h10))))) else none)) else (if (h.1 68 94) ≤ (h.1 68 93) then (zd_B (f_Mo_see h (h.2.1 93 x4.toNatClampNeg) (x2 + (h.2.1 94 x4.toNatClampNeg))) fun v6 h7 => (some (v6, h7))) else (some ((-1), h))))) else none)
def jw_watch_37 (k37 : zs_H → Int32 → Int32 → Int32 → Int32 → (Option (Int32 × zs_H))) (h : zs_H) (x1 : Int32) (x2 : Int32) (x3 : Int32) (x4 : Int32) : (Option (Int32 × zs_H)) := (if x3 = 0 then (if x4 < 0 then (some ((-1), h)) else (if zd_in x4 8400 then (if (h.2.1 92 x4.toNatClampNeg) = 2 then (if 100000 ≤ (h.2.1 93 x4.toNatClampNeg) then jw_watch_159 h x2 x4 else (some ((-1), h))) else jw_watch_159 h x2 x4) else none)) else (zd_B (f_Mo_readPathName h) fun v7 h8 => (if v7 = 0 then jw_watch_57 k37 h8 x1 x2 (-1) else ((f_Mo_variableOnPath h8 x1).bind fun v12 => jw_watch_57 k37 h8 x1 x2 v12))))
def jw_watch_L37 : Nat → zs_H → Int32 → Int32 → Int32 → Int32 → (Option (Int32 × zs_H)) := zd_it (fun k37 => jw_watch_37 k37) (fun _ _ _ _ _ => none)
def jw_watch (h : zs_H) : (Option (Int32 × zs_H)) := (zd_B (f_Mo_useTape h) fun v2 h3 => (if (h3.1 68 82) = 0 then (some ((-5), (zs_uF h3 68 94 v2))) else jw_watch_L37 (zF + 1) (zs_uF (zs_uF h3 68 94 v2) 68 93 0) ((h3.1 68 33) - 1) 0 1 (-1)))
set_option maxHeartbeats 4000000 in
set_option maxRecDepth 100000 in
theorem jzb_Mo_watch_102 {X : zkj_T} {S : zs_T} {P : ze_T} {l : Launch} {D : va_G} {sz0 : Nat} {rv : Int32} {rh : zs_H} (C : zk_C X km_Mo_watch (zs_G S l D sz0) { frames := 7, cells := 16, slots := 56, locals := 202 } (ze_E P)) (hR : zkj_R X (zd_PI S rv rh) (some .int)) {k37 : zs_H → Int32 → Int32 → Int32 → Int32 → (Option (Int32 × zs_H))} (hk37 : ∀ (h : zs_H) (x1 : Int32) (x2 : Int32) (x3 : Int32) (x4 : Int32), k37 h x1 x2 x3 x4 = some (rv, rh) → zk_Ab X (zs_W S h) 0 0 37 [(0, .ref (S.1 68)), (1, .int x1), (2, .int x2), (3, .int x3), (4, .int x4)] []) (h : zs_H) (x1 : Int32) (x2 : Int32) (x4 : Int32) (y0 : Int32) (e : jw_watch_102 k37 h x1 x2 x4 y0 = some (rv, rh)) : zk_Ab X (zs_W S h) 0 0 102 [(0, .ref (S.1 68)), (1, .int x1), (2, .int x2), (4, .int x4)] [.int y0] := by
  unfold jw_watch_102 at e
  refine zk_istore_n (lv' := [(3, _), (0, _), (1, _), (2, _), (4, _)]) C kd_Mo_watch_102 rfl (by decide) rfl rfl ?_
  refine zk_iload_n C kd_Mo_watch_103 rfl 0 rfl rfl ?_
  refine zk_if_eq (tgt := 37) C kd_Mo_watch_104 (by decide) rfl (fun b1 => ?_) (fun b1 => ?_)
  · replace e := zd_pos b1 e
    refine zk_lvs (lv' := [(0, .ref (S.1 68)), (1, .int x1), (2, .int x2), (3, .int y0), (4, .int x4)]) [1, 2, 3, 0, 4] rfl ?_
    exact hk37 h x1 x2 y0 x4 e
  · replace e := zd_neg b1 e
    refine zk_iload_n C kd_Mo_watch_107 rfl 3 rfl rfl ?_
    refine zk_aload_n C kd_Mo_watch_108 rfl 1 rfl rfl ?_
    refine zs_get (v := .ref (S.1 94)) C 68 45 rfl rfl rfl rfl ki_Mo (by decide) kw1728 kd_Mo_watch_109 rfl ?_
    refine zk_iload C kd_Mo_watch_112 4 rfl rfl ?_
    obtain ⟨q2, e⟩ := zd_g e
    refine zs_iald C 94 rfl (zd_vp q2) kd_Mo_watch_114 rfl ?_
    refine zk_iadd C kd_Mo_watch_115 rfl ?_
    refine zk_istore_n (lv' := [(2, _), (3, _), (0, _), (1, _), (4, _)]) C kd_Mo_watch_116 rfl (by decide) rfl rfl ?_
    refine zk_aload_n C kd_Mo_watch_117 rfl 2 rfl rfl ?_
    refine zs_get (v := .ref (S.1 93)) C 68 44 rfl rfl rfl rfl ki_Mo (by decide) kw1727 kd_Mo_watch_118 rfl ?_
    refine zk_iload C kd_Mo_watch_121 4 rfl rfl ?_
    refine zs_iald C 93 rfl (zd_vp q2) kd_Mo_watch_123 rfl ?_
    refine zk_istore_n (lv' := [(1, _), (2, _), (3, _), (0, _), (4, _)]) C kd_Mo_watch_124 rfl (by decide) rfl rfl ?_
    refine zk_goto (tgt := 37) C kd_Mo_watch_125 (by decide) ?_
    refine zk_lvs (lv' := [(0, .ref (S.1 68)), (1, .int (h.2.1 93 x4.toNatClampNeg)), (2, .int (x2 + (h.2.1 94 x4.toNatClampNeg))), (3, .int y0), (4, .int x4)]) [3, 0, 1, 2, 4] rfl ?_
    exact hk37 h (h.2.1 93 x4.toNatClampNeg) (x2 + (h.2.1 94 x4.toNatClampNeg)) y0 x4 e
set_option maxHeartbeats 4000000 in
set_option maxRecDepth 100000 in
theorem jzb_Mo_watch_101 {X : zkj_T} {S : zs_T} {P : ze_T} {l : Launch} {D : va_G} {sz0 : Nat} {rv : Int32} {rh : zs_H} (C : zk_C X km_Mo_watch (zs_G S l D sz0) { frames := 7, cells := 16, slots := 56, locals := 202 } (ze_E P)) (hR : zkj_R X (zd_PI S rv rh) (some .int)) {k37 : zs_H → Int32 → Int32 → Int32 → Int32 → (Option (Int32 × zs_H))} (hk37 : ∀ (h : zs_H) (x1 : Int32) (x2 : Int32) (x3 : Int32) (x4 : Int32), k37 h x1 x2 x3 x4 = some (rv, rh) → zk_Ab X (zs_W S h) 0 0 37 [(0, .ref (S.1 68)), (1, .int x1), (2, .int x2), (3, .int x3), (4, .int x4)] []) (h : zs_H) (x1 : Int32) (x2 : Int32) (x4 : Int32) (e : jw_watch_101 k37 h x1 x2 x4 = some (rv, rh)) : zk_Ab X (zs_W S h) 0 0 101 [(0, .ref (S.1 68)), (1, .int x1), (2, .int x2), (4, .int x4)] [] := by
  unfold jw_watch_101 at e
  refine zk_iconst (v := 0) C kd_Mo_watch_101 (by decide) rfl ?_
  refine zk_lvs (lv' := [(0, .ref (S.1 68)), (1, .int x1), (2, .int x2), (4, .int x4)]) [0, 1, 2, 3] rfl ?_
  exact jzb_Mo_watch_102 C hR hk37 h x1 x2 x4 0 e
set_option maxHeartbeats 4000000 in
set_option maxRecDepth 100000 in
theorem jzb_Mo_watch_57 {X : zkj_T} {S : zs_T} {P : ze_T} {l : Launch} {D : va_G} {sz0 : Nat} {rv : Int32} {rh : zs_H} (C : zk_C X km_Mo_watch (zs_G S l D sz0) { frames := 7, cells := 16, slots := 56, locals := 202 } (ze_E P)) (hR : zkj_R X (zd_PI S rv rh) (some .int)) {k37 : zs_H → Int32 → Int32 → Int32 → Int32 → (Option (Int32 × zs_H))} (hk37 : ∀ (h : zs_H) (x1 : Int32) (x2 : Int32) (x3 : Int32) (x4 : Int32), k37 h x1 x2 x3 x4 = some (rv, rh) → zk_Ab X (zs_W S h) 0 0 37 [(0, .ref (S.1 68)), (1, .int x1), (2, .int x2), (3, .int x3), (4, .int x4)] []) (h : zs_H) (x1 : Int32) (x2 : Int32) (y0 : Int32) (e : jw_watch_57 k37 h x1 x2 y0 = some (rv, rh)) : zk_Ab X (zs_W S h) 0 0 57 [(0, .ref (S.1 68)), (1, .int x1), (2, .int x2)] [.int y0] := by
  unfold jw_watch_57 at e
  refine zk_istore (lv' := [(4, _), (0, _), (1, _), (2, _)]) C kd_Mo_watch_57 (by decide) rfl rfl ?_
  refine zk_iload C kd_Mo_watch_59 0 rfl rfl ?_
  refine zk_if_lt (tgt := 101) C kd_Mo_watch_61 (by decide) rfl (fun b1 => ?_) (fun b1 => ?_)
  · replace e := zd_pos b1 e
    refine zk_lvs (lv' := [(0, .ref (S.1 68)), (1, .int x1), (2, .int x2), (4, .int y0)]) [1, 2, 3, 0] rfl ?_
    exact jzb_Mo_watch_101 C hR hk37 h x1 x2 y0 e
  · replace e := zd_neg b1 e
    refine zk_aload_n C kd_Mo_watch_64 rfl 1 rfl rfl ?_
    refine zs_get (v := .ref (S.1 92)) C 68 43 rfl rfl rfl rfl ki_Mo (by decide) kw1726 kd_Mo_watch_65 rfl ?_
    refine zk_iload C kd_Mo_watch_68 0 rfl rfl ?_
    obtain ⟨q2, e⟩ := zd_g e
    refine zs_iald C 92 rfl (zd_vp q2) kd_Mo_watch_70 rfl ?_
    refine zk_iconst (v := 2) C kd_Mo_watch_71 (by decide) rfl ?_
    refine zk_icmp_ne (tgt := 101) C kd_Mo_watch_72 (by decide) rfl (fun b3 => ?_) (fun b3 => ?_)
    · replace e := zd_neg b3 e
      refine zk_lvs (lv' := [(0, .ref (S.1 68)), (1, .int x1), (2, .int x2), (4, .int y0)]) [1, 2, 3, 0] rfl ?_
      exact jzb_Mo_watch_101 C hR hk37 h x1 x2 y0 e
    · replace e := zd_pos b3 e
      refine zk_aload_n C kd_Mo_watch_75 rfl 1 rfl rfl ?_
      refine zs_get (v := .ref (S.1 93)) C 68 44 rfl rfl rfl rfl ki_Mo (by decide) kw1727 kd_Mo_watch_76 rfl ?_
      refine zk_iload C kd_Mo_watch_79 0 rfl rfl ?_
      refine zs_iald C 93 rfl (zd_vp q2) kd_Mo_watch_81 rfl ?_
      refine zk_ldcw (v := 100000) C kw1988 kd_Mo_watch_82 rfl ?_
      refine zk_icmp_ge (tgt := 101) C kd_Mo_watch_85 (by decide) rfl (fun b4 => ?_) (fun b4 => ?_)
      · replace e := zd_pos b4 e
        refine zk_lvs (lv' := [(0, .ref (S.1 68)), (1, .int x1), (2, .int x2), (4, .int y0)]) [1, 2, 3, 0] rfl ?_
        exact jzb_Mo_watch_101 C hR hk37 h x1 x2 y0 e
      · replace e := zd_neg b4 e
        refine zk_aload_n C kd_Mo_watch_88 rfl 1 rfl rfl ?_
        refine zk_bipush (v := 46) C kd_Mo_watch_89 (by decide) rfl ?_
        obtain ⟨v6, h7, c5, e⟩ := zd_Be e
        refine zs_callV (k := 68) (rn := { frames := 0, cells := 0, slots := 0, locals := 0 }) (As := [.int 46]) (rest := []) C (zc_Mo_passes h 46 c5) ku_Mo_passes kw2792 kv_Mo_passes rfl ⟨by decide, by decide⟩ ⟨by decide, by decide⟩ rfl rfl rfl (Nat.le_of_ble_eq_true rfl) kd_Mo_watch_91 rfl (c1 := 0) (s1 := 0) rfl rfl (fun v w hp => ?_)
        obtain ⟨rfl, rfl, z8⟩ := hp
        refine zk_stk (r' := [.int v6]) rfl ?_
        refine zk_if_eq (tgt := 101) C kd_Mo_watch_94 (by decide) rfl (fun b9 => ?_) (fun b9 => ?_)
        · replace e := zd_pos b9 e
          refine zk_lvs (lv' := [(0, .ref (S.1 68)), (1, .int x1), (2, .int x2), (4, .int y0)]) [1, 2, 3, 0] rfl ?_
          exact jzb_Mo_watch_101 C hR hk37 h7 x1 x2 y0 e
        · replace e := zd_neg b9 e
          refine zk_iconst (v := 1) C kd_Mo_watch_97 (by decide) rfl ?_
          refine zk_goto (tgt := 102) C kd_Mo_watch_98 (by decide) ?_
          refine zk_lvs (lv' := [(0, .ref (S.1 68)), (1, .int x1), (2, .int x2), (4, .int y0)]) [1, 2, 3, 0] rfl ?_
          exact jzb_Mo_watch_102 C hR hk37 h7 x1 x2 y0 1 e
set_option maxHeartbeats 4000000 in
set_option maxRecDepth 100000 in
theorem jzb_Mo_watch_159 {X : zkj_T} {S : zs_T} {P : ze_T} {l : Launch} {D : va_G} {sz0 : Nat} {rv : Int32} {rh : zs_H} (C : zk_C X km_Mo_watch (zs_G S l D sz0) { frames := 7, cells := 16, slots := 56, locals := 202 } (ze_E P)) (hR : zkj_R X (zd_PI S rv rh) (some .int)) (h : zs_H) (x2 : Int32) (x4 : Int32) (e : jw_watch_159 h x2 x4 = some (rv, rh)) : zk_Ab X (zs_W S h) 0 0 159 [(0, .ref (S.1 68)), (2, .int x2), (4, .int x4)] [] := by
  unfold jw_watch_159 at e
  refine zk_iload_n C kd_Mo_watch_159 rfl 1 rfl rfl ?_
  refine zk_aload_n C kd_Mo_watch_160 rfl 0 rfl rfl ?_
  refine zs_get (v := .ref (S.1 94)) C 68 45 rfl rfl rfl rfl ki_Mo (by decide) kw1728 kd_Mo_watch_161 rfl ?_
  refine zk_iload C kd_Mo_watch_164 2 rfl rfl ?_
  obtain ⟨q1, e⟩ := zd_g e
  refine zs_iald C 94 rfl (zd_vp q1) kd_Mo_watch_166 rfl ?_
  refine zk_iadd C kd_Mo_watch_167 rfl ?_
  refine zk_istore_n (lv' := [(2, _), (0, _), (4, _)]) C kd_Mo_watch_168 rfl (by decide) rfl rfl ?_
  refine zk_aload_n C kd_Mo_watch_169 rfl 1 rfl rfl ?_
  refine zs_get (v := .ref (S.1 92)) C 68 43 rfl rfl rfl rfl ki_Mo (by decide) kw1726 kd_Mo_watch_170 rfl ?_
  refine zk_iload C kd_Mo_watch_173 2 rfl rfl ?_
  refine zs_iald C 92 rfl (zd_vp q1) kd_Mo_watch_175 rfl ?_
  refine zk_iconst (v := 2) C kd_Mo_watch_176 (by decide) rfl ?_
  refine zk_icmp_ne (tgt := 193) C kd_Mo_watch_177 (by decide) rfl (fun b2 => ?_) (fun b2 => ?_)
  · replace e := zd_neg b2 e
    refine zk_aload_n C kd_Mo_watch_193 rfl 1 rfl rfl ?_
    refine zs_get (v := .ref (S.1 92)) C 68 43 rfl rfl rfl rfl ki_Mo (by decide) kw1726 kd_Mo_watch_194 rfl ?_
    refine zk_iload C kd_Mo_watch_197 2 rfl rfl ?_
    refine zs_iald C 92 rfl (zd_vp q1) kd_Mo_watch_199 rfl ?_
    refine zk_iconst (v := 1) C kd_Mo_watch_200 (by decide) rfl ?_
    refine zk_icmp_ne (tgt := 262) C kd_Mo_watch_201 (by decide) rfl (fun b3 => ?_) (fun b3 => ?_)
    · replace e := zd_neg b3 e
      refine zk_aload_n C kd_Mo_watch_262 rfl 1 rfl rfl ?_
      refine zs_get (v := .int (h.1 68 93)) C 68 93 rfl rfl rfl rfl ki_Mo (by decide) kw1776 kd_Mo_watch_263 rfl ?_
      refine zk_aload_n C kd_Mo_watch_266 rfl 1 rfl rfl ?_
      refine zs_get (v := .int (h.1 68 94)) C 68 94 rfl rfl rfl rfl ki_Mo (by decide) kw1777 kd_Mo_watch_267 rfl ?_
      refine zk_icmp_ge (tgt := 277) C kd_Mo_watch_270 (by decide) rfl (fun b4 => ?_) (fun b4 => ?_)
      · replace e := zd_pos b4 e
        refine zk_aload_n C kd_Mo_watch_277 rfl 1 rfl rfl ?_
        refine zk_aload_n C kd_Mo_watch_278 rfl 1 rfl rfl ?_
        refine zs_get (v := .ref (S.1 93)) C 68 44 rfl rfl rfl rfl ki_Mo (by decide) kw1727 kd_Mo_watch_279 rfl ?_
        refine zk_iload C kd_Mo_watch_282 2 rfl rfl ?_
        refine zs_iald C 93 rfl (zd_vp q1) kd_Mo_watch_284 rfl ?_
        refine zk_iload_n C kd_Mo_watch_285 rfl 0 rfl rfl ?_
        obtain ⟨v6, h7, c5, e⟩ := zd_Be e
        refine zs_callV (k := 68) (rn := { frames := 0, cells := 0, slots := 0, locals := 0 }) (As := [.int (h.2.1 93 x4.toNatClampNeg), .int (x2 + (h.2.1 94 x4.toNatClampNeg))]) (rest := []) C (zc_Mo_see h (h.2.1 93 x4.toNatClampNeg) (x2 + (h.2.1 94 x4.toNatClampNeg)) c5) ku_Mo_see kw2804 kv_Mo_see rfl ⟨by decide, by decide⟩ ⟨by decide, by decide⟩ rfl rfl rfl (Nat.le_of_ble_eq_true rfl) kd_Mo_watch_286 rfl (c1 := 0) (s1 := 0) rfl rfl (fun v w hp => ?_)
        obtain ⟨rfl, rfl⟩ := hp
        refine zk_stk (r' := [.int v6]) rfl ?_
        refine zk_widen (c1 := 16) (s1 := 56) (by decide) (by decide) ?_
        exact zk_iret C hR kd_Mo_watch_289 rfl rfl (zd_rIS e)
      · replace e := zd_neg b4 e
        refine zk_iconst (v := (-1)) C kd_Mo_watch_273 (by decide) rfl ?_
        refine zk_goto (tgt := 289) C kd_Mo_watch_274 (by decide) ?_
        refine zk_widen (c1 := 16) (s1 := 56) (by decide) (by decide) ?_
        exact zk_iret C hR kd_Mo_watch_289 rfl rfl (zd_rIS e)
    · replace e := zd_pos b3 e
      refine zk_aload_n C kd_Mo_watch_204 rfl 1 rfl rfl ?_
      obtain ⟨v9, h10, c8, e⟩ := zd_Be e
      refine zs_callV (k := 68) (rn := { frames := 1, cells := 0, slots := 0, locals := 22 }) (As := []) (rest := []) C (zc_Mo_readIndex h c8) ku_Mo_readIndex kw2808 kv_Mo_readIndex rfl ⟨by decide, by decide⟩ ⟨by decide, by decide⟩ rfl rfl rfl (Nat.le_of_ble_eq_true rfl) kd_Mo_watch_205 rfl (c1 := 0) (s1 := 0) rfl rfl (fun v w hp => ?_)
      obtain ⟨rfl, rfl⟩ := hp
      refine zk_stk (r' := [.int v9]) rfl ?_
      refine zk_aload_n C kd_Mo_watch_208 rfl 1 rfl rfl ?_
      refine zs_get (v := .ref (S.1 97)) C 68 48 rfl rfl rfl rfl ki_Mo (by decide) kw1731 kd_Mo_watch_209 rfl ?_
      refine zk_iload C kd_Mo_watch_212 2 rfl rfl ?_
      obtain ⟨q11, e⟩ := zd_g e
      refine zs_iald C 97 rfl (zd_vp q11) kd_Mo_watch_214 rfl ?_
      refine zk_isub C kd_Mo_watch_215 rfl ?_
      refine zk_istore (lv' := [(5, _), (2, _), (0, _), (4, _)]) C kd_Mo_watch_216 (by decide) rfl rfl ?_
      refine zk_aload_n C kd_Mo_watch_218 rfl 2 rfl rfl ?_
      refine zs_get (v := .int (h10.1 68 93)) C 68 93 rfl rfl rfl rfl ki_Mo (by decide) kw1776 kd_Mo_watch_219 rfl ?_
      refine zk_if_lt (tgt := 242) C kd_Mo_watch_222 (by decide) rfl (fun b12 => ?_) (fun b12 => ?_)
      · replace e := zd_pos b12 e
        refine zk_iconst (v := (-1)) C kd_Mo_watch_242 (by decide) rfl ?_
        refine zk_goto (tgt := 261) C kd_Mo_watch_243 (by decide) ?_
        refine zk_widen (c1 := 16) (s1 := 56) (by decide) (by decide) ?_
        exact zk_iret C hR kd_Mo_watch_261 rfl rfl (zd_rIS e)
      · replace e := zd_neg b12 e
        refine zk_iload C kd_Mo_watch_225 0 rfl rfl ?_
        refine zk_if_lt (tgt := 242) C kd_Mo_watch_227 (by decide) rfl (fun b13 => ?_) (fun b13 => ?_)
        · replace e := zd_pos b13 e
          refine zk_iconst (v := (-1)) C kd_Mo_watch_242 (by decide) rfl ?_
          refine zk_goto (tgt := 261) C kd_Mo_watch_243 (by decide) ?_
          refine zk_widen (c1 := 16) (s1 := 56) (by decide) (by decide) ?_
          exact zk_iret C hR kd_Mo_watch_261 rfl rfl (zd_rIS e)
        · replace e := zd_neg b13 e
          refine zk_iload C kd_Mo_watch_230 0 rfl rfl ?_
          refine zk_aload_n C kd_Mo_watch_232 rfl 2 rfl rfl ?_
          refine zs_get (v := .ref (S.1 98)) C 68 49 rfl rfl rfl rfl ki_Mo (by decide) kw1732 kd_Mo_watch_233 rfl ?_
          refine zk_iload C kd_Mo_watch_236 3 rfl rfl ?_
          refine zs_iald C 98 rfl (zd_vp q11) kd_Mo_watch_238 rfl ?_
          refine zk_icmp_lt (tgt := 246) C kd_Mo_watch_239 (by decide) rfl (fun b14 => ?_) (fun b14 => ?_)
          · replace e := zd_pos b14 e
            refine zk_aload_n C kd_Mo_watch_246 rfl 2 rfl rfl ?_
            refine zk_aload_n C kd_Mo_watch_247 rfl 2 rfl rfl ?_
            refine zs_get (v := .ref (S.1 93)) C 68 44 rfl rfl rfl rfl ki_Mo (by decide) kw1727 kd_Mo_watch_248 rfl ?_
            refine zk_iload C kd_Mo_watch_251 3 rfl rfl ?_
            refine zs_iald C 93 rfl (zd_vp q11) kd_Mo_watch_253 rfl ?_
            refine zk_iload_n C kd_Mo_watch_254 rfl 1 rfl rfl ?_
            refine zk_iload C kd_Mo_watch_255 0 rfl rfl ?_
            refine zk_iadd C kd_Mo_watch_257 rfl ?_
            obtain ⟨v16, h17, c15, e⟩ := zd_Be e
            refine zs_callV (k := 68) (rn := { frames := 0, cells := 0, slots := 0, locals := 0 }) (As := [.int (h10.2.1 93 x4.toNatClampNeg), .int ((x2 + (h.2.1 94 x4.toNatClampNeg)) + (v9 - (h10.2.1 97 x4.toNatClampNeg)))]) (rest := []) C (zc_Mo_see h10 (h10.2.1 93 x4.toNatClampNeg) ((x2 + (h.2.1 94 x4.toNatClampNeg)) + (v9 - (h10.2.1 97 x4.toNatClampNeg))) c15) ku_Mo_see kw2804 kv_Mo_see rfl ⟨by decide, by decide⟩ ⟨by decide, by decide⟩ rfl rfl rfl (Nat.le_of_ble_eq_true rfl) kd_Mo_watch_258 rfl (c1 := 0) (s1 := 0) rfl rfl (fun v w hp => ?_)
            obtain ⟨rfl, rfl⟩ := hp
            refine zk_stk (r' := [.int v16]) rfl ?_
            refine zk_widen (c1 := 16) (s1 := 56) (by decide) (by decide) ?_
            exact zk_iret C hR kd_Mo_watch_261 rfl rfl (zd_rIS e)
          · replace e := zd_neg b14 e
            refine zk_iconst (v := (-1)) C kd_Mo_watch_242 (by decide) rfl ?_
            refine zk_goto (tgt := 261) C kd_Mo_watch_243 (by decide) ?_
            refine zk_widen (c1 := 16) (s1 := 56) (by decide) (by decide) ?_
            exact zk_iret C hR kd_Mo_watch_261 rfl rfl (zd_rIS e)
  · replace e := zd_pos b2 e
    refine zk_aload_n C kd_Mo_watch_180 rfl 1 rfl rfl ?_
    refine zk_aload_n C kd_Mo_watch_181 rfl 1 rfl rfl ?_
    refine zs_get (v := .ref (S.1 93)) C 68 44 rfl rfl rfl rfl ki_Mo (by decide) kw1727 kd_Mo_watch_182 rfl ?_
    refine zk_iload C kd_Mo_watch_185 2 rfl rfl ?_
    refine zs_iald C 93 rfl (zd_vp q1) kd_Mo_watch_187 rfl ?_
    refine zk_iload_n C kd_Mo_watch_188 rfl 0 rfl rfl ?_
    obtain ⟨v19, h20, c18, e⟩ := zd_Be e
    refine zs_callV (k := 68) (rn := { frames := 6, cells := 16, slots := 56, locals := 177 }) (As := [.int (h.2.1 93 x4.toNatClampNeg), .int (x2 + (h.2.1 94 x4.toNatClampNeg))]) (rest := []) C (zc_Mo_watchPin h (h.2.1 93 x4.toNatClampNeg) (x2 + (h.2.1 94 x4.toNatClampNeg)) c18) ku_Mo_watchPin kw2796 kv_Mo_watchPin rfl ⟨by decide, by decide⟩ ⟨by decide, by decide⟩ rfl rfl rfl (Nat.le_of_ble_eq_true rfl) kd_Mo_watch_189 rfl (c1 := 16) (s1 := 56) rfl rfl (fun v w hp => ?_)
    obtain ⟨rfl, rfl⟩ := hp
    refine zk_stk (r' := [.int v19]) rfl ?_
    exact zk_iret C hR kd_Mo_watch_192 rfl rfl (zd_rIS e)
set_option maxHeartbeats 4000000 in
set_option maxRecDepth 100000 in
theorem jzb_Mo_watch_37 {X : zkj_T} {S : zs_T} {P : ze_T} {l : Launch} {D : va_G} {sz0 : Nat} {rv : Int32} {rh : zs_H} (C : zk_C X km_Mo_watch (zs_G S l D sz0) { frames := 7, cells := 16, slots := 56, locals := 202 } (ze_E P)) (hR : zkj_R X (zd_PI S rv rh) (some .int)) {k37 : zs_H → Int32 → Int32 → Int32 → Int32 → (Option (Int32 × zs_H))} (hk37 : ∀ (h : zs_H) (x1 : Int32) (x2 : Int32) (x3 : Int32) (x4 : Int32), k37 h x1 x2 x3 x4 = some (rv, rh) → zk_Ab X (zs_W S h) 0 0 37 [(0, .ref (S.1 68)), (1, .int x1), (2, .int x2), (3, .int x3), (4, .int x4)] []) (h : zs_H) (x1 : Int32) (x2 : Int32) (x3 : Int32) (x4 : Int32) (e : jw_watch_37 k37 h x1 x2 x3 x4 = some (rv, rh)) : zk_Ab X (zs_W S h) 0 0 37 [(0, .ref (S.1 68)), (1, .int x1), (2, .int x2), (3, .int x3), (4, .int x4)] [] := by
  unfold jw_watch_37 at e
  refine zk_iload_n C kd_Mo_watch_37 rfl 3 rfl rfl ?_
  refine zk_if_eq (tgt := 128) C kd_Mo_watch_38 (by decide) rfl (fun b1 => ?_) (fun b1 => ?_)
  · replace e := zd_pos b1 e
    refine zk_iload C kd_Mo_watch_128 4 rfl rfl ?_
    refine zk_if_lt (tgt := 157) C kd_Mo_watch_130 (by decide) rfl (fun b2 => ?_) (fun b2 => ?_)
    · replace e := zd_pos b2 e
      refine zk_iconst (v := (-1)) C kd_Mo_watch_157 (by decide) rfl ?_
      refine zk_widen (c1 := 16) (s1 := 56) (by decide) (by decide) ?_
      exact zk_iret C hR kd_Mo_watch_158 rfl rfl (zd_rIS e)
    · replace e := zd_neg b2 e
      refine zk_aload_n C kd_Mo_watch_133 rfl 0 rfl rfl ?_
      refine zs_get (v := .ref (S.1 92)) C 68 43 rfl rfl rfl rfl ki_Mo (by decide) kw1726 kd_Mo_watch_134 rfl ?_
      refine zk_iload C kd_Mo_watch_137 4 rfl rfl ?_
      obtain ⟨q3, e⟩ := zd_g e
      refine zs_iald C 92 rfl (zd_vp q3) kd_Mo_watch_139 rfl ?_
      refine zk_iconst (v := 2) C kd_Mo_watch_140 (by decide) rfl ?_
      refine zk_icmp_ne (tgt := 159) C kd_Mo_watch_141 (by decide) rfl (fun b4 => ?_) (fun b4 => ?_)
      · replace e := zd_neg b4 e
        refine zk_lvs (lv' := [(0, .ref (S.1 68)), (2, .int x2), (4, .int x4)]) [0, 2, 4] rfl ?_
        exact jzb_Mo_watch_159 C hR h x2 x4 e
      · replace e := zd_pos b4 e
        refine zk_aload_n C kd_Mo_watch_144 rfl 0 rfl rfl ?_
        refine zs_get (v := .ref (S.1 93)) C 68 44 rfl rfl rfl rfl ki_Mo (by decide) kw1727 kd_Mo_watch_145 rfl ?_
        refine zk_iload C kd_Mo_watch_148 4 rfl rfl ?_
        refine zs_iald C 93 rfl (zd_vp q3) kd_Mo_watch_150 rfl ?_
        refine zk_ldcw (v := 100000) C kw1988 kd_Mo_watch_151 rfl ?_
        refine zk_icmp_ge (tgt := 159) C kd_Mo_watch_154 (by decide) rfl (fun b5 => ?_) (fun b5 => ?_)
        · replace e := zd_pos b5 e
          refine zk_lvs (lv' := [(0, .ref (S.1 68)), (2, .int x2), (4, .int x4)]) [0, 2, 4] rfl ?_
          exact jzb_Mo_watch_159 C hR h x2 x4 e
        · replace e := zd_neg b5 e
          refine zk_iconst (v := (-1)) C kd_Mo_watch_157 (by decide) rfl ?_
          refine zk_widen (c1 := 16) (s1 := 56) (by decide) (by decide) ?_
          exact zk_iret C hR kd_Mo_watch_158 rfl rfl (zd_rIS e)
  · replace e := zd_neg b1 e
    refine zk_aload_n C kd_Mo_watch_41 rfl 0 rfl rfl ?_
    obtain ⟨v7, h8, c6, e⟩ := zd_Be e
    refine zs_callV (k := 68) (rn := { frames := 1, cells := 0, slots := 0, locals := 22 }) (As := []) (rest := []) C (zc_Mo_readPathName h c6) ku_Mo_readPathName kw2776 kv_Mo_readPathName rfl ⟨by decide, by decide⟩ ⟨by decide, by decide⟩ rfl rfl rfl (Nat.le_of_ble_eq_true rfl) kd_Mo_watch_42 rfl (c1 := 0) (s1 := 0) rfl rfl (fun v w hp => ?_)
    obtain ⟨rfl, rfl, z9⟩ := hp
    refine zk_stk (r' := [.int v7]) rfl ?_
    refine zk_if_eq (tgt := 56) C kd_Mo_watch_45 (by decide) rfl (fun b10 => ?_) (fun b10 => ?_)
    · replace e := zd_pos b10 e
      refine zk_iconst (v := (-1)) C kd_Mo_watch_56 (by decide) rfl ?_
      refine zk_lvs (lv' := [(0, .ref (S.1 68)), (1, .int x1), (2, .int x2)]) [0, 1, 2] rfl ?_
      exact jzb_Mo_watch_57 C hR hk37 h8 x1 x2 (-1) e
    · replace e := zd_neg b10 e
      refine zk_aload_n C kd_Mo_watch_48 rfl 0 rfl rfl ?_
      refine zk_iload_n C kd_Mo_watch_49 rfl 1 rfl rfl ?_
      obtain ⟨v12, c11, e⟩ := zd_b e
      refine zs_callV (k := 68) (rn := { frames := 2, cells := 0, slots := 0, locals := 45 }) (As := [.int x1]) (rest := []) C (zc_Mo_variableOnPath h8 x1 c11) ku_Mo_variableOnPath kw2784 kv_Mo_variableOnPath rfl ⟨by decide, by decide⟩ ⟨by decide, by decide⟩ rfl rfl rfl (Nat.le_of_ble_eq_true rfl) kd_Mo_watch_50 rfl (c1 := 0) (s1 := 0) rfl rfl (fun v w hp => ?_)
      obtain ⟨rfl, rfl⟩ := hp
      refine zk_stk (r' := [.int v12]) rfl ?_
      refine zk_goto (tgt := 57) C kd_Mo_watch_53 (by decide) ?_
      refine zk_lvs (lv' := [(0, .ref (S.1 68)), (1, .int x1), (2, .int x2)]) [0, 1, 2] rfl ?_
      exact jzb_Mo_watch_57 C hR hk37 h8 x1 x2 v12 e
theorem jzl_Mo_watch_37 {X : zkj_T} {S : zs_T} {P : ze_T} {l : Launch} {D : va_G} {sz0 : Nat} {rv : Int32} {rh : zs_H} (C : zk_C X km_Mo_watch (zs_G S l D sz0) { frames := 7, cells := 16, slots := 56, locals := 202 } (ze_E P)) (hR : zkj_R X (zd_PI S rv rh) (some .int)) (n : Nat) : ∀ (h : zs_H) (x1 : Int32) (x2 : Int32) (x3 : Int32) (x4 : Int32), jw_watch_L37 n h x1 x2 x3 x4 = some (rv, rh) → zk_Ab X (zs_W S h) 0 0 37 [(0, .ref (S.1 68)), (1, .int x1), (2, .int x2), (3, .int x3), (4, .int x4)] [] := by
  induction n with
  | zero => intro h x1 x2 x3 x4 e; exact zd_no e
  | succ n ih => intro h x1 x2 x3 x4 e; exact jzb_Mo_watch_37 (k37 := jw_watch_L37  n) C hR ih h x1 x2 x3 x4 e
set_option maxHeartbeats 4000000 in
set_option maxRecDepth 100000 in
theorem jzc_Mo_watch {l : Launch} {D : va_G} {sz0 : Nat} {S : zs_T} {P : ze_T} (h : zs_H) {rv : Int32} {rh : zs_H} (e : jw_watch h = some (rv, rh)) : zk_Sp (zs_G S l D sz0) (ze_E P) km_Mo_watch { frames := 7, cells := 16, slots := 56, locals := 202 } [.ref (S.1 68)] (zs_W S h) (zd_PI S rv rh) := by
  refine zk_met ku_Mo_watch (Nat.le_of_ble_eq_true rfl) (ze_Em P) ?_
  intro X C hR
  refine zk_lvs (lv' := [(0, .ref (S.1 68))]) [0] rfl ?_
  unfold jw_watch at e
  refine zk_aload_n C kd_Mo_watch_0 rfl 0 rfl rfl ?_
  refine zk_aload_n C kd_Mo_watch_1 rfl 0 rfl rfl ?_
  obtain ⟨v2, h3, c1, e⟩ := zd_Be e
  refine zs_callV (k := 68) (rn := { frames := 0, cells := 0, slots := 0, locals := 0 }) (As := []) (rest := [.ref (S.1 68)]) C (zc_Mo_useTape h c1) ku_Mo_useTape kw1989 kv_Mo_useTape rfl ⟨by decide, by decide⟩ ⟨by decide, by decide⟩ rfl rfl rfl (Nat.le_of_ble_eq_true rfl) kd_Mo_watch_2 rfl (c1 := 0) (s1 := 0) rfl rfl (fun v w hp => ?_)
  obtain ⟨rfl, rfl⟩ := hp
  refine zk_stk (r' := [.int v2, .ref (S.1 68)]) rfl ?_
  refine zs_put (ty := .int) C 68 94 v2 rfl rfl rfl rfl ki_Mo ky_Mo ko_Mo kn_Mo (by decide) kw1777 rfl rfl rfl rfl (by decide) kd_Mo_watch_5 rfl ?_
  refine zk_aload_n C kd_Mo_watch_8 rfl 0 rfl rfl ?_
  refine zs_get (v := .int (h3.1 68 82)) C 68 82 rfl rfl rfl rfl ki_Mo (by decide) kw1765 kd_Mo_watch_9 rfl ?_
  refine zk_if_ne (tgt := 18) C kd_Mo_watch_12 (by decide) rfl (fun b4 => ?_) (fun b4 => ?_)
  · replace e := zd_neg b4 e
    refine zk_aload_n C kd_Mo_watch_18 rfl 0 rfl rfl ?_
    refine zk_iconst (v := 0) C kd_Mo_watch_19 (by decide) rfl ?_
    refine zs_put (ty := .int) C 68 93 0 rfl rfl rfl rfl ki_Mo ky_Mo ko_Mo kn_Mo (by decide) kw1776 rfl rfl rfl rfl (by decide) kd_Mo_watch_20 rfl ?_
    refine zk_aload_n C kd_Mo_watch_23 rfl 0 rfl rfl ?_
    refine zs_get (v := .int (h3.1 68 33)) C 68 33 rfl rfl rfl rfl ki_Mo (by decide) kw1716 kd_Mo_watch_24 rfl ?_
    refine zk_iconst (v := 1) C kd_Mo_watch_27 (by decide) rfl ?_
    refine zk_isub C kd_Mo_watch_28 rfl ?_
    refine zk_istore_n (lv' := [(1, _), (0, _)]) C kd_Mo_watch_29 rfl (by decide) rfl rfl ?_
    refine zk_iconst (v := 0) C kd_Mo_watch_30 (by decide) rfl ?_
    refine zk_istore_n (lv' := [(2, _), (1, _), (0, _)]) C kd_Mo_watch_31 rfl (by decide) rfl rfl ?_
    refine zk_iconst (v := 1) C kd_Mo_watch_32 (by decide) rfl ?_
    refine zk_istore_n (lv' := [(3, _), (2, _), (1, _), (0, _)]) C kd_Mo_watch_33 rfl (by decide) rfl rfl ?_
    refine zk_iconst (v := (-1)) C kd_Mo_watch_34 (by decide) rfl ?_
    refine zk_istore (lv' := [(4, _), (3, _), (2, _), (1, _), (0, _)]) C kd_Mo_watch_35 (by decide) rfl rfl ?_
    refine zk_lvs (lv' := [(0, .ref (S.1 68)), (1, .int ((h3.1 68 33) - 1)), (2, .int 0), (3, .int 1), (4, .int (-1))]) [4, 3, 2, 1, 0] rfl ?_
    exact jzl_Mo_watch_37 C hR (zF + 1) (zs_uF (zs_uF h3 68 94 v2) 68 93 0) ((h3.1 68 33) - 1) 0 1 (-1) e
  · replace e := zd_pos b4 e
    refine zk_bipush (v := (-5)) C kd_Mo_watch_15 (by decide) rfl ?_
    refine zk_widen (c1 := 16) (s1 := 56) (by decide) (by decide) ?_
    exact zk_iret C hR kd_Mo_watch_17 rfl rfl (zd_rIS e)
