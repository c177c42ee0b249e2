theorem kw1705 : Jvm.Cond.fieldLink "PlantKeeperModel" (331 : Nat) "PlantKeeperModel" "there" "Z" ∈ zk_BW := zk_inT 1705 (by decide +kernel) rfl
theorem kw1712 : Jvm.Cond.fieldLink "PlantKeeperModel" (445 : Nat) "PlantKeeperModel" "judged" "I" ∈ zk_BW := zk_inT 1712 (by decide +kernel) rfl
theorem kw1713 : Jvm.Cond.fieldLink "PlantKeeperModel" (448 : Nat) "PlantKeeperModel" "judgedAt" "I" ∈ zk_BW := zk_inT 1713 (by decide +kernel) rfl
theorem kw1737 : Jvm.Cond.fieldLink "PlantKeeperModel" (550 : Nat) "PlantKeeperModel" "here" "I" ∈ zk_BW := zk_inT 1737 (by decide +kernel) rfl
theorem kw1999 : Jvm.Cond.instanceMethod ({ cls := "PlantKeeperModel", name := "readText", desc := "()I" } : Jvm.MethodName) ∈ zk_BW := zk_inT 1999 (by decide +kernel) rfl
theorem kw2000 : Jvm.Cond.code ({ cls := "PlantKeeperModel", name := "readText", desc := "()I" } : Jvm.MethodName) prog_14_method_31_code (2 : Nat) (Option.some FieldType.int) ∈ zk_BW := zk_inT 2000 (by decide +kernel) rfl
theorem kw2089 : Jvm.Cond.methodLink "PlantKeeperModel" (335 : Nat) ({ cls := "PlantKeeperModel", name := "readBlock", desc := "(I)V" } : Jvm.MethodName) ∈ zk_BW := zk_inT 2089 (by decide +kernel) rfl
theorem kw2091 : Jvm.Cond.instanceMethod ({ cls := "PlantKeeperModel", name := "readBlock", desc := "(I)V" } : Jvm.MethodName) ∈ zk_BW := zk_inT 2091 (by decide +kernel) rfl
theorem kw2092 : Jvm.Cond.code ({ cls := "PlantKeeperModel", name := "readBlock", desc := "(I)V" } : Jvm.MethodName) prog_14_method_34_code (6 : Nat) (Option.none : Option FieldType) ∈ zk_BW := zk_inT 2092 (by decide +kernel) rfl
theorem kw2129 : Jvm.Cond.methodLink "PlantKeeperModel" (355 : Nat) ({ cls := "PlantKeeperModel", name := "declaration", desc := "(I)V" } : Jvm.MethodName) ∈ zk_BW := zk_inT 2129 (by decide +kernel) rfl
theorem kw2145 : Jvm.Cond.methodLink "PlantKeeperModel" (361 : Nat) ({ cls := "PlantKeeperModel", name := "ladder", desc := "(I)V" } : Jvm.MethodName) ∈ zk_BW := zk_inT 2145 (by decide +kernel) rfl
theorem kw2244 : Jvm.Cond.methodLink "PlantKeeperModel" (339 : Nat) ({ cls := "PlantKeeperModel", name := "number", desc := "()V" } : Jvm.MethodName) ∈ zk_BW := zk_inT 2244 (by decide +kernel) rfl
theorem kw2246 : Jvm.Cond.instanceMethod ({ cls := "PlantKeeperModel", name := "number", desc := "()V" } : Jvm.MethodName) ∈ zk_BW := zk_inT 2246 (by decide +kernel) rfl
theorem kw2247 : Jvm.Cond.code ({ cls := "PlantKeeperModel", name := "number", desc := "()V" } : Jvm.MethodName) prog_14_method_32_code (3 : Nat) (Option.none : Option FieldType) ∈ zk_BW := zk_inT 2247 (by decide +kernel) rfl
theorem kw2258 : Jvm.Cond.instanceMethod ({ cls := "PlantKeeperModel", name := "beginBlock", desc := "(I)V" } : Jvm.MethodName) ∈ zk_BW := zk_inT 2258 (by decide +kernel) rfl
theorem kw2259 : Jvm.Cond.code ({ cls := "PlantKeeperModel", name := "beginBlock", desc := "(I)V" } : Jvm.MethodName) prog_14_method_83_code (3 : Nat) (Option.none : Option FieldType) ∈ zk_BW := zk_inT 2259 (by decide +kernel) rfl
theorem kw2260 : Jvm.Cond.methodLink "PlantKeeperModel" (540 : Nat) ({ cls := "PlantKeeperModel", name := "rule", desc := "(ZII)V" } : Jvm.MethodName) ∈ zk_BW := zk_inT 2260 (by decide +kernel) rfl
theorem kw2262 : Jvm.Cond.instanceMethod ({ cls := "PlantKeeperModel", name := "rule", desc := "(ZII)V" } : Jvm.MethodName) ∈ zk_BW := zk_inT 2262 (by decide +kernel) rfl
theorem kw2263 : Jvm.Cond.code ({ cls := "PlantKeeperModel", name := "rule", desc := "(ZII)V" } : Jvm.MethodName) prog_14_method_64_code (4 : Nat) (Option.none : Option FieldType) ∈ zk_BW := zk_inT 2263 (by decide +kernel) rfl
theorem kw2264 : Jvm.Cond.methodLink "PlantKeeperModel" (451 : Nat) ({ cls := "PlantKeeperModel", name := "breaks", desc := "(II)V" } : Jvm.MethodName) ∈ zk_BW := zk_inT 2264 (by decide +kernel) rfl
theorem kw2266 : Jvm.Cond.instanceMethod ({ cls := "PlantKeeperModel", name := "breaks", desc := "(II)V" } : Jvm.MethodName) ∈ zk_BW := zk_inT 2266 (by decide +kernel) rfl
theorem kw2267 : Jvm.Cond.code ({ cls := "PlantKeeperModel", name := "breaks", desc := "(II)V" } : Jvm.MethodName) prog_14_method_63_code (3 : Nat) (Option.none : Option FieldType) ∈ zk_BW := zk_inT 2267 (by decide +kernel) rfl
theorem kw2268 : Jvm.Cond.methodLink "PlantKeeperModel" (544 : Nat) ({ cls := "PlantKeeperModel", name := "isStandard", desc := "(I)Z" } : Jvm.MethodName) ∈ zk_BW := zk_inT 2268 (by decide +kernel) rfl
theorem kw2270 : Jvm.Cond.instanceMethod ({ cls := "PlantKeeperModel", name := "isStandard", desc := "(I)Z" } : Jvm.MethodName) ∈ zk_BW := zk_inT 2270 (by decide +kernel) rfl
theorem kw2271 : Jvm.Cond.code ({ cls := "PlantKeeperModel", name := "isStandard", desc := "(I)Z" } : Jvm.MethodName) prog_14_method_66_code (2 : Nat) (Option.some FieldType.boolean) ∈ zk_BW := zk_inT 2271 (by decide +kernel) rfl
theorem kw2273 : Jvm.Cond.methodLink "PlantKeeperModel" (456 : Nat) ({ cls := "PlantKeeperModel", name := "wordOf", desc := "(Ljava/lang/String;I)I" } : Jvm.MethodName) ∈ zk_BW := zk_inT 2273 (by decide +kernel) rfl
theorem kw2275 : Jvm.Cond.instanceMethod ({ cls := "PlantKeeperModel", name := "wordOf", desc := "(Ljava/lang/String;I)I" } : Jvm.MethodName) ∈ zk_BW := zk_inT 2275 (by decide +kernel) rfl
theorem kw2276 : Jvm.Cond.code ({ cls := "PlantKeeperModel", name := "wordOf", desc := "(Ljava/lang/String;I)I" } : Jvm.MethodName) prog_14_method_65_code (7 : Nat) (Option.some FieldType.int) ∈ zk_BW := zk_inT 2276 (by decide +kernel) rfl
theorem kw2278 : Jvm.Cond.methodLink "PlantKeeperModel" (547 : Nat) ({ cls := "PlantKeeperModel", name := "blockNamed", desc := "(II)I" } : Jvm.MethodName) ∈ zk_BW := zk_inT 2278 (by decide +kernel) rfl
theorem kw2280 : Jvm.Cond.instanceMethod ({ cls := "PlantKeeperModel", name := "blockNamed", desc := "(II)I" } : Jvm.MethodName) ∈ zk_BW := zk_inT 2280 (by decide +kernel) rfl
theorem kw2281 : Jvm.Cond.code ({ cls := "PlantKeeperModel", name := "blockNamed", desc := "(II)I" } : Jvm.MethodName) prog_14_method_67_code (4 : Nat) (Option.some FieldType.int) ∈ zk_BW := zk_inT 2281 (by decide +kernel) rfl
theorem kw2282 : Jvm.Cond.methodLink "PlantKeeperModel" (553 : Nat) ({ cls := "PlantKeeperModel", name := "addVariable", desc := "(I)I" } : Jvm.MethodName) ∈ zk_BW := zk_inT 2282 (by decide +kernel) rfl
theorem kw2284 : Jvm.Cond.instanceMethod ({ cls := "PlantKeeperModel", name := "addVariable", desc := "(I)I" } : Jvm.MethodName) ∈ zk_BW := zk_inT 2284 (by decide +kernel) rfl
theorem kw2285 : Jvm.Cond.code ({ cls := "PlantKeeperModel", name := "addVariable", desc := "(I)I" } : Jvm.MethodName) prog_14_method_84_code (2 : Nat) (Option.some FieldType.int) ∈ zk_BW := zk_inT 2285 (by decide +kernel) rfl
theorem kw2286 : Jvm.Cond.methodLink "PlantKeeperModel" (556 : Nat) ({ cls := "PlantKeeperModel", name := "layOut", desc := "(IIII)V" } : Jvm.MethodName) ∈ zk_BW := zk_inT 2286 (by decide +kernel) rfl
theorem kw2288 : Jvm.Cond.instanceMethod ({ cls := "PlantKeeperModel", name := "layOut", desc := "(IIII)V" } : Jvm.MethodName) ∈ zk_BW := zk_inT 2288 (by decide +kernel) rfl
theorem kw2289 : Jvm.Cond.code ({ cls := "PlantKeeperModel", name := "layOut", desc := "(IIII)V" } : Jvm.MethodName) prog_14_method_85_code (5 : Nat) (Option.none : Option FieldType) ∈ zk_BW := zk_inT 2289 (by decide +kernel) rfl
abbrev kc_Mo_addVariable : ByteArray := prog_14_method_84_code
def km_Mo_addVariable : zk_MT := (⟨"PlantKeeperModel", "addVariable", "(I)I"⟩, kc_Mo_addVariable, 2, some .int, 1)
theorem ku_Mo_addVariable : zk_My km_Mo_addVariable := ⟨kw2285, kw17, by decide, by decide, by decide, by decide +kernel⟩
theorem kv_Mo_addVariable : zk_Mv km_Mo_addVariable := ⟨kw2284, zk_inS 213 (q := (⟨"PlantKeeperModel", "addVariable", "(I)I"⟩, 96)) (by decide +kernel)⟩
abbrev kc_Mo_beginBlock : ByteArray := prog_14_method_83_code
def km_Mo_beginBlock : zk_MT := (⟨"PlantKeeperModel", "beginBlock", "(I)V"⟩, kc_Mo_beginBlock, 3, none, 1)
theorem ku_Mo_beginBlock : zk_My km_Mo_beginBlock := ⟨kw2259, kw17, by decide, by decide, by decide, by decide +kernel⟩
theorem kv_Mo_beginBlock : zk_Mv km_Mo_beginBlock := ⟨kw2258, zk_inS 207 (q := (⟨"PlantKeeperModel", "beginBlock", "(I)V"⟩, 96)) (by decide +kernel)⟩
abbrev kc_Mo_blockNamed : ByteArray := prog_14_method_67_code
def km_Mo_blockNamed : zk_MT := (⟨"PlantKeeperModel", "blockNamed", "(II)I"⟩, kc_Mo_blockNamed, 4, some .int, 2)
theorem ku_Mo_blockNamed : zk_My km_Mo_blockNamed := ⟨kw2281, kw17, by decide, by decide, by decide, by decide +kernel⟩
theorem kv_Mo_blockNamed : zk_Mv km_Mo_blockNamed := ⟨kw2280, zk_inS 212 (q := (⟨"PlantKeeperModel", "blockNamed", "(II)I"⟩, 96)) (by decide +kernel)⟩
abbrev kc_Mo_breaks : ByteArray := prog_14_method_63_code
def km_Mo_breaks : zk_MT := (⟨"PlantKeeperModel", "breaks", "(II)V"⟩, kc_Mo_breaks, 3, none, 2)
theorem ku_Mo_breaks : zk_My km_Mo_breaks := ⟨kw2267, kw17, by decide, by decide, by decide, by decide +kernel⟩
theorem kv_Mo_breaks : zk_Mv km_Mo_breaks := ⟨kw2266, zk_inS 209 (q := (⟨"PlantKeeperModel", "breaks", "(II)V"⟩, 96)) (by decide +kernel)⟩
abbrev kc_Mo_isStandard : ByteArray := prog_14_method_66_code
def km_Mo_isStandard : zk_MT := (⟨"PlantKeeperModel", "isStandard", "(I)Z"⟩, kc_Mo_isStandard, 2, some .boolean, 1)
theorem ku_Mo_isStandard : zk_My km_Mo_isStandard := ⟨kw2271, kw17, by decide, by decide, by decide, by decide +kernel⟩
theorem kv_Mo_isStandard : zk_Mv km_Mo_isStandard := ⟨kw2270, zk_inS 210 (q := (⟨"PlantKeeperModel", "isStandard", "(I)Z"⟩, 96)) (by decide +kernel)⟩
abbrev kc_Mo_layOut : ByteArray := prog_14_method_85_code
def km_Mo_layOut : zk_MT := (⟨"PlantKeeperModel", "layOut", "(IIII)V"⟩, kc_Mo_layOut, 5, none, 4)
theorem ku_Mo_layOut : zk_My km_Mo_layOut := ⟨kw2289, kw17, by decide, by decide, by decide, by decide +kernel⟩
theorem kv_Mo_layOut : zk_Mv km_Mo_layOut := ⟨kw2288, zk_inS 214 (q := (⟨"PlantKeeperModel", "layOut", "(IIII)V"⟩, 96)) (by decide +kernel)⟩
abbrev kc_Mo_number : ByteArray := prog_14_method_32_code
def km_Mo_number : zk_MT := (⟨"PlantKeeperModel", "number", "()V"⟩, kc_Mo_number, 3, none, 0)
theorem ku_Mo_number : zk_My km_Mo_number := ⟨kw2247, kw17, by decide, by decide, by decide, by decide +kernel⟩
theorem kv_Mo_number : zk_Mv km_Mo_number := ⟨kw2246, zk_inS 204 (q := (⟨"PlantKeeperModel", "number", "()V"⟩, 96)) (by decide +kernel)⟩
abbrev kc_Mo_readBlock : ByteArray := prog_14_method_34_code
def km_Mo_readBlock : zk_MT := (⟨"PlantKeeperModel", "readBlock", "(I)V"⟩, kc_Mo_readBlock, 6, none, 1)
theorem ku_Mo_readBlock : zk_My km_Mo_readBlock := ⟨kw2092, kw17, by decide, by decide, by decide, by decide +kernel⟩
theorem kv_Mo_readBlock : zk_Mv km_Mo_readBlock := ⟨kw2091, zk_inS 166 (q := (⟨"PlantKeeperModel", "readBlock", "(I)V"⟩, 96)) (by decide +kernel)⟩
abbrev kc_Mo_readText : ByteArray := prog_14_method_31_code
def km_Mo_readText : zk_MT := (⟨"PlantKeeperModel", "readText", "()I"⟩, kc_Mo_readText, 2, some .int, 0)
theorem ku_Mo_readText : zk_My km_Mo_readText := ⟨kw2000, kw17, by decide, by decide, by decide, by decide +kernel⟩
theorem kv_Mo_readText : zk_Mv km_Mo_readText := ⟨kw1999, zk_inS 149 (q := (⟨"PlantKeeperModel", "readText", "()I"⟩, 96)) (by decide +kernel)⟩
abbrev kc_Mo_rule : ByteArray := prog_14_method_64_code
def km_Mo_rule : zk_MT := (⟨"PlantKeeperModel", "rule", "(ZII)V"⟩, kc_Mo_rule, 4, none, 3)
theorem ku_Mo_rule : zk_My km_Mo_rule := ⟨kw2263, kw17, by decide, by decide, by decide, by decide +kernel⟩
theorem kv_Mo_rule : zk_Mv km_Mo_rule := ⟨kw2262, zk_inS 208 (q := (⟨"PlantKeeperModel", "rule", "(ZII)V"⟩, 96)) (by decide +kernel)⟩
abbrev kc_Mo_wordOf : ByteArray := prog_14_method_65_code
def km_Mo_wordOf : zk_MT := (⟨"PlantKeeperModel", "wordOf", "(Ljava/lang/String;I)I"⟩, kc_Mo_wordOf, 7, some .int, 2)
theorem ku_Mo_wordOf : zk_My km_Mo_wordOf := ⟨kw2276, kw17, by decide, by decide, by decide, by decide +kernel⟩
theorem kv_Mo_wordOf : zk_Mv km_Mo_wordOf := ⟨kw2275, zk_inS 211 (q := (⟨"PlantKeeperModel", "wordOf", "(Ljava/lang/String;I)I"⟩, 96)) (by decide +kernel)⟩
theorem kd_Mo_addVariable_0 : decode kc_Mo_addVariable 0 = .ok (.aload_n 0, 1) := by decide +kernel
theorem kd_Mo_addVariable_1 : decode kc_Mo_addVariable 1 = .ok (.getfield 79, 3) := by decide +kernel
theorem kd_Mo_addVariable_4 : decode kc_Mo_addVariable 4 = .ok (.aload_n 0, 1) := by decide +kernel
theorem kd_Mo_addVariable_5 : decode kc_Mo_addVariable 5 = .ok (.getfield 465, 3) := by decide +kernel
theorem kd_Mo_addVariable_8 : decode kc_Mo_addVariable 8 = .ok (.iload_n 1, 1) := by decide +kernel
theorem kd_Mo_addVariable_9 : decode kc_Mo_addVariable 9 = .ok (.iastore, 1) := by decide +kernel
theorem kd_Mo_addVariable_10 : decode kc_Mo_addVariable 10 = .ok (.aload_n 0, 1) := by decide +kernel
theorem kd_Mo_addVariable_11 : decode kc_Mo_addVariable 11 = .ok (.getfield 82, 3) := by decide +kernel
theorem kd_Mo_addVariable_14 : decode kc_Mo_addVariable 14 = .ok (.aload_n 0, 1) := by decide +kernel
theorem kd_Mo_addVariable_15 : decode kc_Mo_addVariable 15 = .ok (.getfield 465, 3) := by decide +kernel
theorem kd_Mo_addVariable_18 : decode kc_Mo_addVariable 18 = .ok (.iconst 0, 1) := by decide +kernel
theorem kd_Mo_addVariable_19 : decode kc_Mo_addVariable 19 = .ok (.iastore, 1) := by decide +kernel
theorem kd_Mo_addVariable_20 : decode kc_Mo_addVariable 20 = .ok (.aload_n 0, 1) := by decide +kernel
theorem kd_Mo_addVariable_21 : decode kc_Mo_addVariable 21 = .ok (.getfield 85, 3) := by decide +kernel
theorem kd_Mo_addVariable_24 : decode kc_Mo_addVariable 24 = .ok (.aload_n 0, 1) := by decide +kernel
theorem kd_Mo_addVariable_25 : decode kc_Mo_addVariable 25 = .ok (.getfield 465, 3) := by decide +kernel
theorem kd_Mo_addVariable_28 : decode kc_Mo_addVariable 28 = .ok (.iconst (-1), 1) := by decide +kernel
theorem kd_Mo_addVariable_29 : decode kc_Mo_addVariable 29 = .ok (.iastore, 1) := by decide +kernel
theorem kd_Mo_addVariable_30 : decode kc_Mo_addVariable 30 = .ok (.aload_n 0, 1) := by decide +kernel
theorem kd_Mo_addVariable_31 : decode kc_Mo_addVariable 31 = .ok (.getfield 88, 3) := by decide +kernel
theorem kd_Mo_addVariable_34 : decode kc_Mo_addVariable 34 = .ok (.aload_n 0, 1) := by decide +kernel
theorem kd_Mo_addVariable_35 : decode kc_Mo_addVariable 35 = .ok (.getfield 465, 3) := by decide +kernel
theorem kd_Mo_addVariable_38 : decode kc_Mo_addVariable 38 = .ok (.iconst (-1), 1) := by decide +kernel
theorem kd_Mo_addVariable_39 : decode kc_Mo_addVariable 39 = .ok (.iastore, 1) := by decide +kernel
theorem kd_Mo_addVariable_40 : decode kc_Mo_addVariable 40 = .ok (.aload_n 0, 1) := by decide +kernel
theorem kd_Mo_addVariable_41 : decode kc_Mo_addVariable 41 = .ok (.getfield 91, 3) := by decide +kernel
theorem kd_Mo_addVariable_44 : decode kc_Mo_addVariable 44 = .ok (.aload_n 0, 1) := by decide +kernel
theorem kd_Mo_addVariable_45 : decode kc_Mo_addVariable 45 = .ok (.getfield 465, 3) := by decide +kernel
theorem kd_Mo_addVariable_48 : decode kc_Mo_addVariable 48 = .ok (.iconst 0, 1) := by decide +kernel
theorem kd_Mo_addVariable_49 : decode kc_Mo_addVariable 49 = .ok (.iastore, 1) := by decide +kernel
theorem kd_Mo_addVariable_50 : decode kc_Mo_addVariable 50 = .ok (.aload_n 0, 1) := by decide +kernel
theorem kd_Mo_addVariable_51 : decode kc_Mo_addVariable 51 = .ok (.getfield 94, 3) := by decide +kernel
theorem kd_Mo_addVariable_54 : decode kc_Mo_addVariable 54 = .ok (.aload_n 0, 1) := by decide +kernel
theorem kd_Mo_addVariable_55 : decode kc_Mo_addVariable 55 = .ok (.getfield 465, 3) := by decide +kernel
theorem kd_Mo_addVariable_58 : decode kc_Mo_addVariable 58 = .ok (.iconst (-1), 1) := by decide +kernel
theorem kd_Mo_addVariable_59 : decode kc_Mo_addVariable 59 = .ok (.iastore, 1) := by decide +kernel
theorem kd_Mo_addVariable_60 : decode kc_Mo_addVariable 60 = .ok (.aload_n 0, 1) := by decide +kernel
theorem kd_Mo_addVariable_61 : decode kc_Mo_addVariable 61 = .ok (.getfield 97, 3) := by decide +kernel
theorem kd_Mo_addVariable_64 : decode kc_Mo_addVariable 64 = .ok (.aload_n 0, 1) := by decide +kernel
theorem kd_Mo_addVariable_65 : decode kc_Mo_addVariable 65 = .ok (.getfield 465, 3) := by decide +kernel
theorem kd_Mo_addVariable_68 : decode kc_Mo_addVariable 68 = .ok (.iconst 0, 1) := by decide +kernel
theorem kd_Mo_addVariable_69 : decode kc_Mo_addVariable 69 = .ok (.iastore, 1) := by decide +kernel
theorem kd_Mo_addVariable_70 : decode kc_Mo_addVariable 70 = .ok (.aload_n 0, 1) := by decide +kernel
theorem kd_Mo_addVariable_71 : decode kc_Mo_addVariable 71 = .ok (.getfield 100, 3) := by decide +kernel
theorem kd_Mo_addVariable_74 : decode kc_Mo_addVariable 74 = .ok (.aload_n 0, 1) := by decide +kernel
theorem kd_Mo_addVariable_75 : decode kc_Mo_addVariable 75 = .ok (.getfield 465, 3) := by decide +kernel
theorem kd_Mo_addVariable_78 : decode kc_Mo_addVariable 78 = .ok (.iconst 1, 1) := by decide +kernel
theorem kd_Mo_addVariable_79 : decode kc_Mo_addVariable 79 = .ok (.iastore, 1) := by decide +kernel
theorem kd_Mo_addVariable_80 : decode kc_Mo_addVariable 80 = .ok (.aload_n 0, 1) := by decide +kernel
theorem kd_Mo_addVariable_81 : decode kc_Mo_addVariable 81 = .ok (.getfield 103, 3) := by decide +kernel
theorem kd_Mo_addVariable_84 : decode kc_Mo_addVariable 84 = .ok (.aload_n 0, 1) := by decide +kernel
theorem kd_Mo_addVariable_85 : decode kc_Mo_addVariable 85 = .ok (.getfield 465, 3) := by decide +kernel
theorem kd_Mo_addVariable_88 : decode kc_Mo_addVariable 88 = .ok (.iconst 0, 1) := by decide +kernel
theorem kd_Mo_addVariable_89 : decode kc_Mo_addVariable 89 = .ok (.iastore, 1) := by decide +kernel
theorem kd_Mo_addVariable_90 : decode kc_Mo_addVariable 90 = .ok (.aload_n 0, 1) := by decide +kernel
theorem kd_Mo_addVariable_91 : decode kc_Mo_addVariable 91 = .ok (.dup, 1) := by decide +kernel
theorem kd_Mo_addVariable_92 : decode kc_Mo_addVariable 92 = .ok (.getfield 465, 3) := by decide +kernel
theorem kd_Mo_addVariable_95 : decode kc_Mo_addVariable 95 = .ok (.iconst 1, 1) := by decide +kernel
theorem kd_Mo_addVariable_96 : decode kc_Mo_addVariable 96 = .ok (.iadd, 1) := by decide +kernel
theorem kd_Mo_addVariable_97 : decode kc_Mo_addVariable 97 = .ok (.putfield 465, 3) := by decide +kernel
theorem kd_Mo_addVariable_100 : decode kc_Mo_addVariable 100 = .ok (.aload_n 0, 1) := by decide +kernel
theorem kd_Mo_addVariable_101 : decode kc_Mo_addVariable 101 = .ok (.getfield 465, 3) := by decide +kernel
theorem kd_Mo_addVariable_104 : decode kc_Mo_addVariable 104 = .ok (.iconst 1, 1) := by decide +kernel
theorem kd_Mo_addVariable_105 : decode kc_Mo_addVariable 105 = .ok (.isub, 1) := by decide +kernel
theorem kd_Mo_addVariable_106 : decode kc_Mo_addVariable 106 = .ok (.ireturn, 1) := by decide +kernel
theorem kd_Mo_beginBlock_0 : decode kc_Mo_beginBlock 0 = .ok (.aload_n 0, 1) := by decide +kernel
theorem kd_Mo_beginBlock_1 : decode kc_Mo_beginBlock 1 = .ok (.aload_n 0, 1) := by decide +kernel
theorem kd_Mo_beginBlock_2 : decode kc_Mo_beginBlock 2 = .ok (.getfield 462, 3) := by decide +kernel
theorem kd_Mo_beginBlock_5 : decode kc_Mo_beginBlock 5 = .ok (.ifCond .le 22, 3) := by decide +kernel
theorem kd_Mo_beginBlock_8 : decode kc_Mo_beginBlock 8 = .ok (.aload_n 0, 1) := by decide +kernel
theorem kd_Mo_beginBlock_9 : decode kc_Mo_beginBlock 9 = .ok (.getfield 64, 3) := by decide +kernel
theorem kd_Mo_beginBlock_12 : decode kc_Mo_beginBlock 12 = .ok (.aload_n 0, 1) := by decide +kernel
theorem kd_Mo_beginBlock_13 : decode kc_Mo_beginBlock 13 = .ok (.getfield 462, 3) := by decide +kernel
theorem kd_Mo_beginBlock_16 : decode kc_Mo_beginBlock 16 = .ok (.iconst 1, 1) := by decide +kernel
theorem kd_Mo_beginBlock_17 : decode kc_Mo_beginBlock 17 = .ok (.isub, 1) := by decide +kernel
theorem kd_Mo_beginBlock_18 : decode kc_Mo_beginBlock 18 = .ok (.iaload, 1) := by decide +kernel
theorem kd_Mo_beginBlock_19 : decode kc_Mo_beginBlock 19 = .ok (.iconst 3, 1) := by decide +kernel
theorem kd_Mo_beginBlock_20 : decode kc_Mo_beginBlock 20 = .ok (.if_icmp .ne 7, 3) := by decide +kernel
theorem kd_Mo_beginBlock_23 : decode kc_Mo_beginBlock 23 = .ok (.iconst 1, 1) := by decide +kernel
theorem kd_Mo_beginBlock_24 : decode kc_Mo_beginBlock 24 = .ok (.goto 4, 3) := by decide +kernel
theorem kd_Mo_beginBlock_27 : decode kc_Mo_beginBlock 27 = .ok (.iconst 0, 1) := by decide +kernel
theorem kd_Mo_beginBlock_28 : decode kc_Mo_beginBlock 28 = .ok (.bipush 10, 2) := by decide +kernel
theorem kd_Mo_beginBlock_30 : decode kc_Mo_beginBlock 30 = .ok (.iload_n 1, 1) := by decide +kernel
theorem kd_Mo_beginBlock_31 : decode kc_Mo_beginBlock 31 = .ok (.invokevirtual 540, 3) := by decide +kernel
theorem kd_Mo_beginBlock_34 : decode kc_Mo_beginBlock 34 = .ok (.aload_n 0, 1) := by decide +kernel
theorem kd_Mo_beginBlock_35 : decode kc_Mo_beginBlock 35 = .ok (.aload_n 0, 1) := by decide +kernel
theorem kd_Mo_beginBlock_36 : decode kc_Mo_beginBlock 36 = .ok (.aload_n 0, 1) := by decide +kernel
theorem kd_Mo_beginBlock_37 : decode kc_Mo_beginBlock 37 = .ok (.getfield 28, 3) := by decide +kernel
theorem kd_Mo_beginBlock_40 : decode kc_Mo_beginBlock 40 = .ok (.iload_n 1, 1) := by decide +kernel
theorem kd_Mo_beginBlock_41 : decode kc_Mo_beginBlock 41 = .ok (.iaload, 1) := by decide +kernel
theorem kd_Mo_beginBlock_42 : decode kc_Mo_beginBlock 42 = .ok (.invokevirtual 544, 3) := by decide +kernel
theorem kd_Mo_beginBlock_45 : decode kc_Mo_beginBlock 45 = .ok (.ifCond .ne 20, 3) := by decide +kernel
theorem kd_Mo_beginBlock_48 : decode kc_Mo_beginBlock 48 = .ok (.aload_n 0, 1) := by decide +kernel
theorem kd_Mo_beginBlock_49 : decode kc_Mo_beginBlock 49 = .ok (.aload_n 0, 1) := by decide +kernel
theorem kd_Mo_beginBlock_50 : decode kc_Mo_beginBlock 50 = .ok (.getfield 28, 3) := by decide +kernel
theorem kd_Mo_beginBlock_53 : decode kc_Mo_beginBlock 53 = .ok (.iload_n 1, 1) := by decide +kernel
theorem kd_Mo_beginBlock_54 : decode kc_Mo_beginBlock 54 = .ok (.iaload, 1) := by decide +kernel
theorem kd_Mo_beginBlock_55 : decode kc_Mo_beginBlock 55 = .ok (.aload_n 0, 1) := by decide +kernel
theorem kd_Mo_beginBlock_56 : decode kc_Mo_beginBlock 56 = .ok (.getfield 462, 3) := by decide +kernel
theorem kd_Mo_beginBlock_59 : decode kc_Mo_beginBlock 59 = .ok (.invokevirtual 547, 3) := by decide +kernel
theorem kd_Mo_beginBlock_62 : decode kc_Mo_beginBlock 62 = .ok (.ifCond .lt 7, 3) := by decide +kernel
theorem kd_Mo_beginBlock_65 : decode kc_Mo_beginBlock 65 = .ok (.iconst 1, 1) := by decide +kernel
theorem kd_Mo_beginBlock_66 : decode kc_Mo_beginBlock 66 = .ok (.goto 4, 3) := by decide +kernel
theorem kd_Mo_beginBlock_69 : decode kc_Mo_beginBlock 69 = .ok (.iconst 0, 1) := by decide +kernel
theorem kd_Mo_beginBlock_70 : decode kc_Mo_beginBlock 70 = .ok (.bipush 11, 2) := by decide +kernel
theorem kd_Mo_beginBlock_72 : decode kc_Mo_beginBlock 72 = .ok (.iload_n 1, 1) := by decide +kernel
theorem kd_Mo_beginBlock_73 : decode kc_Mo_beginBlock 73 = .ok (.invokevirtual 540, 3) := by decide +kernel
theorem kd_Mo_beginBlock_76 : decode kc_Mo_beginBlock 76 = .ok (.aload_n 0, 1) := by decide +kernel
theorem kd_Mo_beginBlock_77 : decode kc_Mo_beginBlock 77 = .ok (.aload_n 0, 1) := by decide +kernel
theorem kd_Mo_beginBlock_78 : decode kc_Mo_beginBlock 78 = .ok (.getfield 462, 3) := by decide +kernel
theorem kd_Mo_beginBlock_81 : decode kc_Mo_beginBlock 81 = .ok (.putfield 550, 3) := by decide +kernel
theorem kd_Mo_beginBlock_84 : decode kc_Mo_beginBlock 84 = .ok (.aload_n 0, 1) := by decide +kernel
theorem kd_Mo_beginBlock_85 : decode kc_Mo_beginBlock 85 = .ok (.getfield 58, 3) := by decide +kernel
theorem kd_Mo_beginBlock_88 : decode kc_Mo_beginBlock 88 = .ok (.aload_n 0, 1) := by decide +kernel
theorem kd_Mo_beginBlock_89 : decode kc_Mo_beginBlock 89 = .ok (.getfield 550, 3) := by decide +kernel
theorem kd_Mo_beginBlock_92 : decode kc_Mo_beginBlock 92 = .ok (.iload_n 1, 1) := by decide +kernel
theorem kd_Mo_beginBlock_93 : decode kc_Mo_beginBlock 93 = .ok (.iastore, 1) := by decide +kernel
theorem kd_Mo_beginBlock_94 : decode kc_Mo_beginBlock 94 = .ok (.aload_n 0, 1) := by decide +kernel
theorem kd_Mo_beginBlock_95 : decode kc_Mo_beginBlock 95 = .ok (.getfield 61, 3) := by decide +kernel
theorem kd_Mo_beginBlock_98 : decode kc_Mo_beginBlock 98 = .ok (.aload_n 0, 1) := by decide +kernel
theorem kd_Mo_beginBlock_99 : decode kc_Mo_beginBlock 99 = .ok (.getfield 550, 3) := by decide +kernel
theorem kd_Mo_beginBlock_102 : decode kc_Mo_beginBlock 102 = .ok (.aload_n 0, 1) := by decide +kernel
theorem kd_Mo_beginBlock_103 : decode kc_Mo_beginBlock 103 = .ok (.getfield 28, 3) := by decide +kernel
theorem kd_Mo_beginBlock_106 : decode kc_Mo_beginBlock 106 = .ok (.iload_n 1, 1) := by decide +kernel
theorem kd_Mo_beginBlock_107 : decode kc_Mo_beginBlock 107 = .ok (.iaload, 1) := by decide +kernel
theorem kd_Mo_beginBlock_108 : decode kc_Mo_beginBlock 108 = .ok (.iastore, 1) := by decide +kernel
theorem kd_Mo_beginBlock_109 : decode kc_Mo_beginBlock 109 = .ok (.aload_n 0, 1) := by decide +kernel
theorem kd_Mo_beginBlock_110 : decode kc_Mo_beginBlock 110 = .ok (.getfield 64, 3) := by decide +kernel
theorem kd_Mo_beginBlock_113 : decode kc_Mo_beginBlock 113 = .ok (.aload_n 0, 1) := by decide +kernel
theorem kd_Mo_beginBlock_114 : decode kc_Mo_beginBlock 114 = .ok (.getfield 550, 3) := by decide +kernel
theorem kd_Mo_beginBlock_117 : decode kc_Mo_beginBlock 117 = .ok (.aload_n 0, 1) := by decide +kernel
theorem kd_Mo_beginBlock_118 : decode kc_Mo_beginBlock 118 = .ok (.getfield 22, 3) := by decide +kernel
theorem kd_Mo_beginBlock_121 : decode kc_Mo_beginBlock 121 = .ok (.iload_n 1, 1) := by decide +kernel
theorem kd_Mo_beginBlock_122 : decode kc_Mo_beginBlock 122 = .ok (.iaload, 1) := by decide +kernel
theorem kd_Mo_beginBlock_123 : decode kc_Mo_beginBlock 123 = .ok (.iastore, 1) := by decide +kernel
theorem kd_Mo_beginBlock_124 : decode kc_Mo_beginBlock 124 = .ok (.aload_n 0, 1) := by decide +kernel
theorem kd_Mo_beginBlock_125 : decode kc_Mo_beginBlock 125 = .ok (.getfield 67, 3) := by decide +kernel
theorem kd_Mo_beginBlock_128 : decode kc_Mo_beginBlock 128 = .ok (.aload_n 0, 1) := by decide +kernel
theorem kd_Mo_beginBlock_129 : decode kc_Mo_beginBlock 129 = .ok (.getfield 550, 3) := by decide +kernel
theorem kd_Mo_beginBlock_132 : decode kc_Mo_beginBlock 132 = .ok (.aload_n 0, 1) := by decide +kernel
theorem kd_Mo_beginBlock_133 : decode kc_Mo_beginBlock 133 = .ok (.getfield 22, 3) := by decide +kernel
theorem kd_Mo_beginBlock_136 : decode kc_Mo_beginBlock 136 = .ok (.iload_n 1, 1) := by decide +kernel
theorem kd_Mo_beginBlock_137 : decode kc_Mo_beginBlock 137 = .ok (.iaload, 1) := by decide +kernel
theorem kd_Mo_beginBlock_138 : decode kc_Mo_beginBlock 138 = .ok (.iconst 1, 1) := by decide +kernel
theorem kd_Mo_beginBlock_139 : decode kc_Mo_beginBlock 139 = .ok (.if_icmp .ne 17, 3) := by decide +kernel
theorem kd_Mo_beginBlock_142 : decode kc_Mo_beginBlock 142 = .ok (.aload_n 0, 1) := by decide +kernel
theorem kd_Mo_beginBlock_143 : decode kc_Mo_beginBlock 143 = .ok (.getfield 28, 3) := by decide +kernel
theorem kd_Mo_beginBlock_146 : decode kc_Mo_beginBlock 146 = .ok (.aload_n 0, 1) := by decide +kernel
theorem kd_Mo_beginBlock_147 : decode kc_Mo_beginBlock 147 = .ok (.getfield 34, 3) := by decide +kernel
theorem kd_Mo_beginBlock_150 : decode kc_Mo_beginBlock 150 = .ok (.iload_n 1, 1) := by decide +kernel
theorem kd_Mo_beginBlock_151 : decode kc_Mo_beginBlock 151 = .ok (.iaload, 1) := by decide +kernel
theorem kd_Mo_beginBlock_152 : decode kc_Mo_beginBlock 152 = .ok (.iaload, 1) := by decide +kernel
theorem kd_Mo_beginBlock_153 : decode kc_Mo_beginBlock 153 = .ok (.goto 4, 3) := by decide +kernel
theorem kd_Mo_beginBlock_156 : decode kc_Mo_beginBlock 156 = .ok (.iconst (-1), 1) := by decide +kernel
theorem kd_Mo_beginBlock_157 : decode kc_Mo_beginBlock 157 = .ok (.iastore, 1) := by decide +kernel
theorem kd_Mo_beginBlock_158 : decode kc_Mo_beginBlock 158 = .ok (.aload_n 0, 1) := by decide +kernel
theorem kd_Mo_beginBlock_159 : decode kc_Mo_beginBlock 159 = .ok (.getfield 70, 3) := by decide +kernel
theorem kd_Mo_beginBlock_162 : decode kc_Mo_beginBlock 162 = .ok (.aload_n 0, 1) := by decide +kernel
theorem kd_Mo_beginBlock_163 : decode kc_Mo_beginBlock 163 = .ok (.getfield 550, 3) := by decide +kernel
theorem kd_Mo_beginBlock_166 : decode kc_Mo_beginBlock 166 = .ok (.aload_n 0, 1) := by decide +kernel
theorem kd_Mo_beginBlock_167 : decode kc_Mo_beginBlock 167 = .ok (.getfield 22, 3) := by decide +kernel
theorem kd_Mo_beginBlock_170 : decode kc_Mo_beginBlock 170 = .ok (.iload_n 1, 1) := by decide +kernel
theorem kd_Mo_beginBlock_171 : decode kc_Mo_beginBlock 171 = .ok (.iaload, 1) := by decide +kernel
theorem kd_Mo_beginBlock_172 : decode kc_Mo_beginBlock 172 = .ok (.iconst 3, 1) := by decide +kernel
theorem kd_Mo_beginBlock_173 : decode kc_Mo_beginBlock 173 = .ok (.if_icmp .ne 9, 3) := by decide +kernel
theorem kd_Mo_beginBlock_176 : decode kc_Mo_beginBlock 176 = .ok (.sipush 960, 3) := by decide +kernel
theorem kd_Mo_beginBlock_179 : decode kc_Mo_beginBlock 179 = .ok (.goto 4, 3) := by decide +kernel
theorem kd_Mo_beginBlock_182 : decode kc_Mo_beginBlock 182 = .ok (.iconst 0, 1) := by decide +kernel
theorem kd_Mo_beginBlock_183 : decode kc_Mo_beginBlock 183 = .ok (.iastore, 1) := by decide +kernel
theorem kd_Mo_beginBlock_184 : decode kc_Mo_beginBlock 184 = .ok (.aload_n 0, 1) := by decide +kernel
theorem kd_Mo_beginBlock_185 : decode kc_Mo_beginBlock 185 = .ok (.getfield 73, 3) := by decide +kernel
theorem kd_Mo_beginBlock_188 : decode kc_Mo_beginBlock 188 = .ok (.aload_n 0, 1) := by decide +kernel
theorem kd_Mo_beginBlock_189 : decode kc_Mo_beginBlock 189 = .ok (.getfield 550, 3) := by decide +kernel
theorem kd_Mo_beginBlock_192 : decode kc_Mo_beginBlock 192 = .ok (.iconst (-1), 1) := by decide +kernel
theorem kd_Mo_beginBlock_193 : decode kc_Mo_beginBlock 193 = .ok (.iastore, 1) := by decide +kernel
theorem kd_Mo_beginBlock_194 : decode kc_Mo_beginBlock 194 = .ok (.aload_n 0, 1) := by decide +kernel
theorem kd_Mo_beginBlock_195 : decode kc_Mo_beginBlock 195 = .ok (.getfield 76, 3) := by decide +kernel
theorem kd_Mo_beginBlock_198 : decode kc_Mo_beginBlock 198 = .ok (.aload_n 0, 1) := by decide +kernel
theorem kd_Mo_beginBlock_199 : decode kc_Mo_beginBlock 199 = .ok (.getfield 550, 3) := by decide +kernel
theorem kd_Mo_beginBlock_202 : decode kc_Mo_beginBlock 202 = .ok (.aload_n 0, 1) := by decide +kernel
theorem kd_Mo_beginBlock_203 : decode kc_Mo_beginBlock 203 = .ok (.getfield 465, 3) := by decide +kernel
theorem kd_Mo_beginBlock_206 : decode kc_Mo_beginBlock 206 = .ok (.iastore, 1) := by decide +kernel
theorem kd_Mo_beginBlock_207 : decode kc_Mo_beginBlock 207 = .ok (.aload_n 0, 1) := by decide +kernel
theorem kd_Mo_beginBlock_208 : decode kc_Mo_beginBlock 208 = .ok (.dup, 1) := by decide +kernel
theorem kd_Mo_beginBlock_209 : decode kc_Mo_beginBlock 209 = .ok (.getfield 462, 3) := by decide +kernel
theorem kd_Mo_beginBlock_212 : decode kc_Mo_beginBlock 212 = .ok (.iconst 1, 1) := by decide +kernel
theorem kd_Mo_beginBlock_213 : decode kc_Mo_beginBlock 213 = .ok (.iadd, 1) := by decide +kernel
theorem kd_Mo_beginBlock_214 : decode kc_Mo_beginBlock 214 = .ok (.putfield 462, 3) := by decide +kernel
theorem kd_Mo_beginBlock_217 : decode kc_Mo_beginBlock 217 = .ok (.aload_n 0, 1) := by decide +kernel
theorem kd_Mo_beginBlock_218 : decode kc_Mo_beginBlock 218 = .ok (.getfield 22, 3) := by decide +kernel
theorem kd_Mo_beginBlock_221 : decode kc_Mo_beginBlock 221 = .ok (.iload_n 1, 1) := by decide +kernel
theorem kd_Mo_beginBlock_222 : decode kc_Mo_beginBlock 222 = .ok (.iaload, 1) := by decide +kernel
theorem kd_Mo_beginBlock_223 : decode kc_Mo_beginBlock 223 = .ok (.iconst 1, 1) := by decide +kernel
theorem kd_Mo_beginBlock_224 : decode kc_Mo_beginBlock 224 = .ok (.if_icmp .ne 30, 3) := by decide +kernel
theorem kd_Mo_beginBlock_227 : decode kc_Mo_beginBlock 227 = .ok (.aload_n 0, 1) := by decide +kernel
theorem kd_Mo_beginBlock_228 : decode kc_Mo_beginBlock 228 = .ok (.aload_n 0, 1) := by decide +kernel
theorem kd_Mo_beginBlock_229 : decode kc_Mo_beginBlock 229 = .ok (.getfield 28, 3) := by decide +kernel
theorem kd_Mo_beginBlock_232 : decode kc_Mo_beginBlock 232 = .ok (.iload_n 1, 1) := by decide +kernel
theorem kd_Mo_beginBlock_233 : decode kc_Mo_beginBlock 233 = .ok (.iaload, 1) := by decide +kernel
theorem kd_Mo_beginBlock_234 : decode kc_Mo_beginBlock 234 = .ok (.invokevirtual 553, 3) := by decide +kernel
theorem kd_Mo_beginBlock_237 : decode kc_Mo_beginBlock 237 = .ok (.istore_n 2, 1) := by decide +kernel
theorem kd_Mo_beginBlock_238 : decode kc_Mo_beginBlock 238 = .ok (.aload_n 0, 1) := by decide +kernel
theorem kd_Mo_beginBlock_239 : decode kc_Mo_beginBlock 239 = .ok (.iload_n 2, 1) := by decide +kernel
theorem kd_Mo_beginBlock_240 : decode kc_Mo_beginBlock 240 = .ok (.iconst 0, 1) := by decide +kernel
theorem kd_Mo_beginBlock_241 : decode kc_Mo_beginBlock 241 = .ok (.aload_n 0, 1) := by decide +kernel
theorem kd_Mo_beginBlock_242 : decode kc_Mo_beginBlock 242 = .ok (.getfield 67, 3) := by decide +kernel
theorem kd_Mo_beginBlock_245 : decode kc_Mo_beginBlock 245 = .ok (.aload_n 0, 1) := by decide +kernel
theorem kd_Mo_beginBlock_246 : decode kc_Mo_beginBlock 246 = .ok (.getfield 550, 3) := by decide +kernel
theorem kd_Mo_beginBlock_249 : decode kc_Mo_beginBlock 249 = .ok (.iaload, 1) := by decide +kernel
theorem kd_Mo_beginBlock_250 : decode kc_Mo_beginBlock 250 = .ok (.iconst 1, 1) := by decide +kernel
theorem kd_Mo_beginBlock_251 : decode kc_Mo_beginBlock 251 = .ok (.invokevirtual 556, 3) := by decide +kernel
theorem kd_Mo_beginBlock_254 : decode kc_Mo_beginBlock 254 = .ok (.return_, 1) := by decide +kernel
theorem kd_Mo_blockNamed_0 : decode kc_Mo_blockNamed 0 = .ok (.iconst 0, 1) := by decide +kernel
theorem kd_Mo_blockNamed_1 : decode kc_Mo_blockNamed 1 = .ok (.istore_n 3, 1) := by decide +kernel
theorem kd_Mo_blockNamed_2 : decode kc_Mo_blockNamed 2 = .ok (.iload_n 3, 1) := by decide +kernel
theorem kd_Mo_blockNamed_3 : decode kc_Mo_blockNamed 3 = .ok (.iload_n 2, 1) := by decide +kernel
theorem kd_Mo_blockNamed_4 : decode kc_Mo_blockNamed 4 = .ok (.if_icmp .ge 21, 3) := by decide +kernel
theorem kd_Mo_blockNamed_7 : decode kc_Mo_blockNamed 7 = .ok (.aload_n 0, 1) := by decide +kernel
theorem kd_Mo_blockNamed_8 : decode kc_Mo_blockNamed 8 = .ok (.getfield 61, 3) := by decide +kernel
theorem kd_Mo_blockNamed_11 : decode kc_Mo_blockNamed 11 = .ok (.iload_n 3, 1) := by decide +kernel
theorem kd_Mo_blockNamed_12 : decode kc_Mo_blockNamed 12 = .ok (.iaload, 1) := by decide +kernel
theorem kd_Mo_blockNamed_13 : decode kc_Mo_blockNamed 13 = .ok (.iload_n 1, 1) := by decide +kernel
theorem kd_Mo_blockNamed_14 : decode kc_Mo_blockNamed 14 = .ok (.if_icmp .ne 5, 3) := by decide +kernel
theorem kd_Mo_blockNamed_17 : decode kc_Mo_blockNamed 17 = .ok (.iload_n 3, 1) := by decide +kernel
theorem kd_Mo_blockNamed_18 : decode kc_Mo_blockNamed 18 = .ok (.ireturn, 1) := by decide +kernel
theorem kd_Mo_blockNamed_19 : decode kc_Mo_blockNamed 19 = .ok (.iinc 3 1, 3) := by decide +kernel
theorem kd_Mo_blockNamed_22 : decode kc_Mo_blockNamed 22 = .ok (.goto (-20), 3) := by decide +kernel
theorem kd_Mo_blockNamed_25 : decode kc_Mo_blockNamed 25 = .ok (.iconst (-1), 1) := by decide +kernel
theorem kd_Mo_blockNamed_26 : decode kc_Mo_blockNamed 26 = .ok (.ireturn, 1) := by decide +kernel
theorem kd_Mo_breaks_0 : decode kc_Mo_breaks 0 = .ok (.aload_n 0, 1) := by decide +kernel
theorem kd_Mo_breaks_1 : decode kc_Mo_breaks 1 = .ok (.getfield 445, 3) := by decide +kernel
theorem kd_Mo_breaks_4 : decode kc_Mo_breaks 4 = .ok (.ifCond .ne 18, 3) := by decide +kernel
theorem kd_Mo_breaks_7 : decode kc_Mo_breaks 7 = .ok (.aload_n 0, 1) := by decide +kernel
theorem kd_Mo_breaks_8 : decode kc_Mo_breaks 8 = .ok (.iload_n 1, 1) := by decide +kernel
theorem kd_Mo_breaks_9 : decode kc_Mo_breaks 9 = .ok (.putfield 445, 3) := by decide +kernel
theorem kd_Mo_breaks_12 : decode kc_Mo_breaks 12 = .ok (.aload_n 0, 1) := by decide +kernel
theorem kd_Mo_breaks_13 : decode kc_Mo_breaks 13 = .ok (.aload_n 0, 1) := by decide +kernel
theorem kd_Mo_breaks_14 : decode kc_Mo_breaks 14 = .ok (.getfield 25, 3) := by decide +kernel
theorem kd_Mo_breaks_17 : decode kc_Mo_breaks 17 = .ok (.iload_n 2, 1) := by decide +kernel
theorem kd_Mo_breaks_18 : decode kc_Mo_breaks 18 = .ok (.iaload, 1) := by decide +kernel
theorem kd_Mo_breaks_19 : decode kc_Mo_breaks 19 = .ok (.putfield 448, 3) := by decide +kernel
theorem kd_Mo_breaks_22 : decode kc_Mo_breaks 22 = .ok (.return_, 1) := by decide +kernel
theorem kd_Mo_isStandard_0 : decode kc_Mo_isStandard 0 = .ok (.aload_n 0, 1) := by decide +kernel
theorem kd_Mo_isStandard_1 : decode kc_Mo_isStandard 1 = .ok (.ldc_w 454, 3) := by decide +kernel
theorem kd_Mo_isStandard_4 : decode kc_Mo_isStandard 4 = .ok (.iload_n 1, 1) := by decide +kernel
theorem kd_Mo_isStandard_5 : decode kc_Mo_isStandard 5 = .ok (.invokevirtual 456, 3) := by decide +kernel
theorem kd_Mo_isStandard_8 : decode kc_Mo_isStandard 8 = .ok (.ifCond .ge 14, 3) := by decide +kernel
theorem kd_Mo_isStandard_11 : decode kc_Mo_isStandard 11 = .ok (.aload_n 0, 1) := by decide +kernel
theorem kd_Mo_isStandard_12 : decode kc_Mo_isStandard 12 = .ok (.ldc_w 460, 3) := by decide +kernel
theorem kd_Mo_isStandard_15 : decode kc_Mo_isStandard 15 = .ok (.iload_n 1, 1) := by decide +kernel
theorem kd_Mo_isStandard_16 : decode kc_Mo_isStandard 16 = .ok (.invokevirtual 456, 3) := by decide +kernel
theorem kd_Mo_isStandard_19 : decode kc_Mo_isStandard 19 = .ok (.ifCond .lt 7, 3) := by decide +kernel
theorem kd_Mo_isStandard_22 : decode kc_Mo_isStandard 22 = .ok (.iconst 1, 1) := by decide +kernel
theorem kd_Mo_isStandard_23 : decode kc_Mo_isStandard 23 = .ok (.goto 4, 3) := by decide +kernel
theorem kd_Mo_isStandard_26 : decode kc_Mo_isStandard 26 = .ok (.iconst 0, 1) := by decide +kernel
theorem kd_Mo_isStandard_27 : decode kc_Mo_isStandard 27 = .ok (.ireturn, 1) := by decide +kernel
theorem kd_Mo_layOut_0 : decode kc_Mo_layOut 0 = .ok (.aload_n 0, 1) := by decide +kernel
theorem kd_Mo_layOut_1 : decode kc_Mo_layOut 1 = .ok (.getfield 82, 3) := by decide +kernel
theorem kd_Mo_layOut_4 : decode kc_Mo_layOut 4 = .ok (.iload_n 1, 1) := by decide +kernel
theorem kd_Mo_layOut_5 : decode kc_Mo_layOut 5 = .ok (.iload_n 2, 1) := by decide +kernel
theorem kd_Mo_layOut_6 : decode kc_Mo_layOut 6 = .ok (.iastore, 1) := by decide +kernel
theorem kd_Mo_layOut_7 : decode kc_Mo_layOut 7 = .ok (.aload_n 0, 1) := by decide +kernel
theorem kd_Mo_layOut_8 : decode kc_Mo_layOut 8 = .ok (.getfield 85, 3) := by decide +kernel
theorem kd_Mo_layOut_11 : decode kc_Mo_layOut 11 = .ok (.iload_n 1, 1) := by decide +kernel
theorem kd_Mo_layOut_12 : decode kc_Mo_layOut 12 = .ok (.iload_n 3, 1) := by decide +kernel
theorem kd_Mo_layOut_13 : decode kc_Mo_layOut 13 = .ok (.iastore, 1) := by decide +kernel
theorem kd_Mo_layOut_14 : decode kc_Mo_layOut 14 = .ok (.aload_n 0, 1) := by decide +kernel
theorem kd_Mo_layOut_15 : decode kc_Mo_layOut 15 = .ok (.getfield 88, 3) := by decide +kernel
theorem kd_Mo_layOut_18 : decode kc_Mo_layOut 18 = .ok (.iload_n 1, 1) := by decide +kernel
theorem kd_Mo_layOut_19 : decode kc_Mo_layOut 19 = .ok (.aload_n 0, 1) := by decide +kernel
theorem kd_Mo_layOut_20 : decode kc_Mo_layOut 20 = .ok (.getfield 70, 3) := by decide +kernel
theorem kd_Mo_layOut_23 : decode kc_Mo_layOut 23 = .ok (.aload_n 0, 1) := by decide +kernel
theorem kd_Mo_layOut_24 : decode kc_Mo_layOut 24 = .ok (.getfield 550, 3) := by decide +kernel
theorem kd_Mo_layOut_27 : decode kc_Mo_layOut 27 = .ok (.iaload, 1) := by decide +kernel
theorem kd_Mo_layOut_28 : decode kc_Mo_layOut 28 = .ok (.iastore, 1) := by decide +kernel
theorem kd_Mo_layOut_29 : decode kc_Mo_layOut 29 = .ok (.aload_n 0, 1) := by decide +kernel
theorem kd_Mo_layOut_30 : decode kc_Mo_layOut 30 = .ok (.getfield 70, 3) := by decide +kernel
theorem kd_Mo_layOut_33 : decode kc_Mo_layOut 33 = .ok (.aload_n 0, 1) := by decide +kernel
theorem kd_Mo_layOut_34 : decode kc_Mo_layOut 34 = .ok (.getfield 550, 3) := by decide +kernel
theorem kd_Mo_layOut_37 : decode kc_Mo_layOut 37 = .ok (.dup2, 1) := by decide +kernel
theorem kd_Mo_layOut_38 : decode kc_Mo_layOut 38 = .ok (.iaload, 1) := by decide +kernel
theorem kd_Mo_layOut_39 : decode kc_Mo_layOut 39 = .ok (.iload 4, 2) := by decide +kernel
theorem kd_Mo_layOut_41 : decode kc_Mo_layOut 41 = .ok (.iadd, 1) := by decide +kernel
theorem kd_Mo_layOut_42 : decode kc_Mo_layOut 42 = .ok (.iastore, 1) := by decide +kernel
theorem kd_Mo_layOut_43 : decode kc_Mo_layOut 43 = .ok (.return_, 1) := by decide +kernel
theorem kd_Mo_number_0 : decode kc_Mo_number 0 = .ok (.iconst 0, 1) := by decide +kernel
theorem kd_Mo_number_1 : decode kc_Mo_number 1 = .ok (.istore_n 1, 1) := by decide +kernel
theorem kd_Mo_number_2 : decode kc_Mo_number 2 = .ok (.iconst 0, 1) := by decide +kernel
theorem kd_Mo_number_3 : decode kc_Mo_number 3 = .ok (.istore_n 2, 1) := by decide +kernel
theorem kd_Mo_number_4 : decode kc_Mo_number 4 = .ok (.iload_n 2, 1) := by decide +kernel
theorem kd_Mo_number_5 : decode kc_Mo_number 5 = .ok (.ifCond .lt 80, 3) := by decide +kernel
theorem kd_Mo_number_8 : decode kc_Mo_number 8 = .ok (.aload_n 0, 1) := by decide +kernel
theorem kd_Mo_number_9 : decode kc_Mo_number 9 = .ok (.getfield 43, 3) := by decide +kernel
theorem kd_Mo_number_12 : decode kc_Mo_number 12 = .ok (.iload_n 1, 1) := by decide +kernel
theorem kd_Mo_number_13 : decode kc_Mo_number 13 = .ok (.iload_n 2, 1) := by decide +kernel
theorem kd_Mo_number_14 : decode kc_Mo_number 14 = .ok (.iastore, 1) := by decide +kernel
theorem kd_Mo_number_15 : decode kc_Mo_number 15 = .ok (.aload_n 0, 1) := by decide +kernel
theorem kd_Mo_number_16 : decode kc_Mo_number 16 = .ok (.getfield 46, 3) := by decide +kernel
theorem kd_Mo_number_19 : decode kc_Mo_number 19 = .ok (.iload_n 2, 1) := by decide +kernel
theorem kd_Mo_number_20 : decode kc_Mo_number 20 = .ok (.iload_n 1, 1) := by decide +kernel
theorem kd_Mo_number_21 : decode kc_Mo_number 21 = .ok (.iastore, 1) := by decide +kernel
theorem kd_Mo_number_22 : decode kc_Mo_number 22 = .ok (.iinc 1 1, 3) := by decide +kernel
theorem kd_Mo_number_25 : decode kc_Mo_number 25 = .ok (.aload_n 0, 1) := by decide +kernel
theorem kd_Mo_number_26 : decode kc_Mo_number 26 = .ok (.getfield 34, 3) := by decide +kernel
theorem kd_Mo_number_29 : decode kc_Mo_number 29 = .ok (.iload_n 2, 1) := by decide +kernel
theorem kd_Mo_number_30 : decode kc_Mo_number 30 = .ok (.iaload, 1) := by decide +kernel
theorem kd_Mo_number_31 : decode kc_Mo_number 31 = .ok (.ifCond .lt 13, 3) := by decide +kernel
theorem kd_Mo_number_34 : decode kc_Mo_number 34 = .ok (.aload_n 0, 1) := by decide +kernel
theorem kd_Mo_number_35 : decode kc_Mo_number 35 = .ok (.getfield 34, 3) := by decide +kernel
theorem kd_Mo_number_38 : decode kc_Mo_number 38 = .ok (.iload_n 2, 1) := by decide +kernel
theorem kd_Mo_number_39 : decode kc_Mo_number 39 = .ok (.iaload, 1) := by decide +kernel
theorem kd_Mo_number_40 : decode kc_Mo_number 40 = .ok (.istore_n 2, 1) := by decide +kernel
theorem kd_Mo_number_41 : decode kc_Mo_number 41 = .ok (.goto (-37), 3) := by decide +kernel
theorem kd_Mo_number_44 : decode kc_Mo_number 44 = .ok (.iload_n 2, 1) := by decide +kernel
theorem kd_Mo_number_45 : decode kc_Mo_number 45 = .ok (.ifCond .lt 22, 3) := by decide +kernel
theorem kd_Mo_number_48 : decode kc_Mo_number 48 = .ok (.aload_n 0, 1) := by decide +kernel
theorem kd_Mo_number_49 : decode kc_Mo_number 49 = .ok (.getfield 40, 3) := by decide +kernel
theorem kd_Mo_number_52 : decode kc_Mo_number 52 = .ok (.iload_n 2, 1) := by decide +kernel
theorem kd_Mo_number_53 : decode kc_Mo_number 53 = .ok (.iaload, 1) := by decide +kernel
theorem kd_Mo_number_54 : decode kc_Mo_number 54 = .ok (.ifCond .ge 13, 3) := by decide +kernel
theorem kd_Mo_number_57 : decode kc_Mo_number 57 = .ok (.aload_n 0, 1) := by decide +kernel
theorem kd_Mo_number_58 : decode kc_Mo_number 58 = .ok (.getfield 31, 3) := by decide +kernel
theorem kd_Mo_number_61 : decode kc_Mo_number 61 = .ok (.iload_n 2, 1) := by decide +kernel
theorem kd_Mo_number_62 : decode kc_Mo_number 62 = .ok (.iaload, 1) := by decide +kernel
theorem kd_Mo_number_63 : decode kc_Mo_number 63 = .ok (.istore_n 2, 1) := by decide +kernel
theorem kd_Mo_number_64 : decode kc_Mo_number 64 = .ok (.goto (-20), 3) := by decide +kernel
theorem kd_Mo_number_67 : decode kc_Mo_number 67 = .ok (.iload_n 2, 1) := by decide +kernel
theorem kd_Mo_number_68 : decode kc_Mo_number 68 = .ok (.ifCond .ge 7, 3) := by decide +kernel
theorem kd_Mo_number_71 : decode kc_Mo_number 71 = .ok (.iconst (-1), 1) := by decide +kernel
theorem kd_Mo_number_72 : decode kc_Mo_number 72 = .ok (.goto 9, 3) := by decide +kernel
theorem kd_Mo_number_75 : decode kc_Mo_number 75 = .ok (.aload_n 0, 1) := by decide +kernel
theorem kd_Mo_number_76 : decode kc_Mo_number 76 = .ok (.getfield 40, 3) := by decide +kernel
theorem kd_Mo_number_79 : decode kc_Mo_number 79 = .ok (.iload_n 2, 1) := by decide +kernel
theorem kd_Mo_number_80 : decode kc_Mo_number 80 = .ok (.iaload, 1) := by decide +kernel
theorem kd_Mo_number_81 : decode kc_Mo_number 81 = .ok (.istore_n 2, 1) := by decide +kernel
theorem kd_Mo_number_82 : decode kc_Mo_number 82 = .ok (.goto (-78), 3) := by decide +kernel
theorem kd_Mo_number_85 : decode kc_Mo_number 85 = .ok (.return_, 1) := by decide +kernel
theorem kd_Mo_readBlock_0 : decode kc_Mo_readBlock 0 = .ok (.aload_n 0, 1) := by decide +kernel
theorem kd_Mo_readBlock_1 : decode kc_Mo_readBlock 1 = .ok (.getfield 217, 3) := by decide +kernel
theorem kd_Mo_readBlock_4 : decode kc_Mo_readBlock 4 = .ok (.iconst 2, 1) := by decide +kernel
theorem kd_Mo_readBlock_5 : decode kc_Mo_readBlock 5 = .ok (.if_icmp .ne 10, 3) := by decide +kernel
theorem kd_Mo_readBlock_8 : decode kc_Mo_readBlock 8 = .ok (.aload_n 0, 1) := by decide +kernel
theorem kd_Mo_readBlock_9 : decode kc_Mo_readBlock 9 = .ok (.getfield 242, 3) := by decide +kernel
theorem kd_Mo_readBlock_12 : decode kc_Mo_readBlock 12 = .ok (.goto 4, 3) := by decide +kernel
theorem kd_Mo_readBlock_15 : decode kc_Mo_readBlock 15 = .ok (.iconst (-1), 1) := by decide +kernel
theorem kd_Mo_readBlock_16 : decode kc_Mo_readBlock 16 = .ok (.istore_n 2, 1) := by decide +kernel
theorem kd_Mo_readBlock_17 : decode kc_Mo_readBlock 17 = .ok (.iload_n 2, 1) := by decide +kernel
theorem kd_Mo_readBlock_18 : decode kc_Mo_readBlock 18 = .ok (.ifCond .eq 18, 3) := by decide +kernel
theorem kd_Mo_readBlock_21 : decode kc_Mo_readBlock 21 = .ok (.iload_n 2, 1) := by decide +kernel
theorem kd_Mo_readBlock_22 : decode kc_Mo_readBlock 22 = .ok (.iconst 2, 1) := by decide +kernel
theorem kd_Mo_readBlock_23 : decode kc_Mo_readBlock 23 = .ok (.if_icmp .eq 13, 3) := by decide +kernel
theorem kd_Mo_readBlock_26 : decode kc_Mo_readBlock 26 = .ok (.iload_n 2, 1) := by decide +kernel
theorem kd_Mo_readBlock_27 : decode kc_Mo_readBlock 27 = .ok (.iconst 4, 1) := by decide +kernel
theorem kd_Mo_readBlock_28 : decode kc_Mo_readBlock 28 = .ok (.if_icmp .eq 8, 3) := by decide +kernel
theorem kd_Mo_readBlock_31 : decode kc_Mo_readBlock 31 = .ok (.aload_n 0, 1) := by decide +kernel
theorem kd_Mo_readBlock_32 : decode kc_Mo_readBlock 32 = .ok (.invokevirtual 299, 3) := by decide +kernel
theorem kd_Mo_readBlock_35 : decode kc_Mo_readBlock 35 = .ok (.return_, 1) := by decide +kernel
theorem kd_Mo_readBlock_36 : decode kc_Mo_readBlock 36 = .ok (.aload_n 0, 1) := by decide +kernel
theorem kd_Mo_readBlock_37 : decode kc_Mo_readBlock 37 = .ok (.iload_n 1, 1) := by decide +kernel
theorem kd_Mo_readBlock_38 : decode kc_Mo_readBlock 38 = .ok (.iload_n 2, 1) := by decide +kernel
theorem kd_Mo_readBlock_39 : decode kc_Mo_readBlock 39 = .ok (.ifCond .ne 7, 3) := by decide +kernel
theorem kd_Mo_readBlock_42 : decode kc_Mo_readBlock 42 = .ok (.iconst 1, 1) := by decide +kernel
theorem kd_Mo_readBlock_43 : decode kc_Mo_readBlock 43 = .ok (.goto 13, 3) := by decide +kernel
theorem kd_Mo_readBlock_46 : decode kc_Mo_readBlock 46 = .ok (.iload_n 2, 1) := by decide +kernel
theorem kd_Mo_readBlock_47 : decode kc_Mo_readBlock 47 = .ok (.iconst 2, 1) := by decide +kernel
theorem kd_Mo_readBlock_48 : decode kc_Mo_readBlock 48 = .ok (.if_icmp .ne 7, 3) := by decide +kernel
theorem kd_Mo_readBlock_51 : decode kc_Mo_readBlock 51 = .ok (.iconst 2, 1) := by decide +kernel
theorem kd_Mo_readBlock_52 : decode kc_Mo_readBlock 52 = .ok (.goto 4, 3) := by decide +kernel
theorem kd_Mo_readBlock_55 : decode kc_Mo_readBlock 55 = .ok (.iconst 3, 1) := by decide +kernel
theorem kd_Mo_readBlock_56 : decode kc_Mo_readBlock 56 = .ok (.aload_n 0, 1) := by decide +kernel
theorem kd_Mo_readBlock_57 : decode kc_Mo_readBlock 57 = .ok (.getfield 214, 3) := by decide +kernel
theorem kd_Mo_readBlock_60 : decode kc_Mo_readBlock 60 = .ok (.iconst 0, 1) := by decide +kernel
theorem kd_Mo_readBlock_61 : decode kc_Mo_readBlock 61 = .ok (.invokevirtual 342, 3) := by decide +kernel
theorem kd_Mo_readBlock_64 : decode kc_Mo_readBlock 64 = .ok (.istore_n 3, 1) := by decide +kernel
theorem kd_Mo_readBlock_65 : decode kc_Mo_readBlock 65 = .ok (.aload_n 0, 1) := by decide +kernel
theorem kd_Mo_readBlock_66 : decode kc_Mo_readBlock 66 = .ok (.invokevirtual 296, 3) := by decide +kernel
theorem kd_Mo_readBlock_69 : decode kc_Mo_readBlock 69 = .ok (.aload_n 0, 1) := by decide +kernel
theorem kd_Mo_readBlock_70 : decode kc_Mo_readBlock 70 = .ok (.getfield 214, 3) := by decide +kernel
theorem kd_Mo_readBlock_73 : decode kc_Mo_readBlock 73 = .ok (.istore 4, 2) := by decide +kernel
theorem kd_Mo_readBlock_75 : decode kc_Mo_readBlock 75 = .ok (.aload_n 0, 1) := by decide +kernel
theorem kd_Mo_readBlock_76 : decode kc_Mo_readBlock 76 = .ok (.getfield 28, 3) := by decide +kernel
theorem kd_Mo_readBlock_79 : decode kc_Mo_readBlock 79 = .ok (.iload_n 3, 1) := by decide +kernel
theorem kd_Mo_readBlock_80 : decode kc_Mo_readBlock 80 = .ok (.aload_n 0, 1) := by decide +kernel
theorem kd_Mo_readBlock_81 : decode kc_Mo_readBlock 81 = .ok (.invokevirtual 346, 3) := by decide +kernel
theorem kd_Mo_readBlock_84 : decode kc_Mo_readBlock 84 = .ok (.iastore, 1) := by decide +kernel
theorem kd_Mo_readBlock_85 : decode kc_Mo_readBlock 85 = .ok (.iload_n 2, 1) := by decide +kernel
theorem kd_Mo_readBlock_86 : decode kc_Mo_readBlock 86 = .ok (.ifCond .ne 20, 3) := by decide +kernel
theorem kd_Mo_readBlock_89 : decode kc_Mo_readBlock 89 = .ok (.aload_n 0, 1) := by decide +kernel
theorem kd_Mo_readBlock_90 : decode kc_Mo_readBlock 90 = .ok (.bipush 58, 2) := by decide +kernel
theorem kd_Mo_readBlock_92 : decode kc_Mo_readBlock 92 = .ok (.invokevirtual 349, 3) := by decide +kernel
theorem kd_Mo_readBlock_95 : decode kc_Mo_readBlock 95 = .ok (.aload_n 0, 1) := by decide +kernel
theorem kd_Mo_readBlock_96 : decode kc_Mo_readBlock 96 = .ok (.getfield 214, 3) := by decide +kernel
theorem kd_Mo_readBlock_99 : decode kc_Mo_readBlock 99 = .ok (.istore 4, 2) := by decide +kernel
theorem kd_Mo_readBlock_101 : decode kc_Mo_readBlock 101 = .ok (.aload_n 0, 1) := by decide +kernel
theorem kd_Mo_readBlock_102 : decode kc_Mo_readBlock 102 = .ok (.iload_n 3, 1) := by decide +kernel
theorem kd_Mo_readBlock_103 : decode kc_Mo_readBlock 103 = .ok (.invokevirtual 352, 3) := by decide +kernel
theorem kd_Mo_readBlock_106 : decode kc_Mo_readBlock 106 = .ok (.aload_n 0, 1) := by decide +kernel
theorem kd_Mo_readBlock_107 : decode kc_Mo_readBlock 107 = .ok (.bipush 6, 2) := by decide +kernel
theorem kd_Mo_readBlock_109 : decode kc_Mo_readBlock 109 = .ok (.invokevirtual 302, 3) := by decide +kernel
theorem kd_Mo_readBlock_112 : decode kc_Mo_readBlock 112 = .ok (.ifCond .ne 21, 3) := by decide +kernel
theorem kd_Mo_readBlock_115 : decode kc_Mo_readBlock 115 = .ok (.aload_n 0, 1) := by decide +kernel
theorem kd_Mo_readBlock_116 : decode kc_Mo_readBlock 116 = .ok (.bipush 7, 2) := by decide +kernel
theorem kd_Mo_readBlock_118 : decode kc_Mo_readBlock 118 = .ok (.invokevirtual 302, 3) := by decide +kernel
theorem kd_Mo_readBlock_121 : decode kc_Mo_readBlock 121 = .ok (.ifCond .ne 12, 3) := by decide +kernel
theorem kd_Mo_readBlock_124 : decode kc_Mo_readBlock 124 = .ok (.aload_n 0, 1) := by decide +kernel
theorem kd_Mo_readBlock_125 : decode kc_Mo_readBlock 125 = .ok (.bipush 8, 2) := by decide +kernel
theorem kd_Mo_readBlock_127 : decode kc_Mo_readBlock 127 = .ok (.invokevirtual 302, 3) := by decide +kernel
theorem kd_Mo_readBlock_130 : decode kc_Mo_readBlock 130 = .ok (.ifCond .eq 65, 3) := by decide +kernel
theorem kd_Mo_readBlock_133 : decode kc_Mo_readBlock 133 = .ok (.aload_n 0, 1) := by decide +kernel
theorem kd_Mo_readBlock_134 : decode kc_Mo_readBlock 134 = .ok (.iload_n 3, 1) := by decide +kernel
theorem kd_Mo_readBlock_135 : decode kc_Mo_readBlock 135 = .ok (.iconst 4, 1) := by decide +kernel
theorem kd_Mo_readBlock_136 : decode kc_Mo_readBlock 136 = .ok (.aload_n 0, 1) := by decide +kernel
theorem kd_Mo_readBlock_137 : decode kc_Mo_readBlock 137 = .ok (.getfield 214, 3) := by decide +kernel
theorem kd_Mo_readBlock_140 : decode kc_Mo_readBlock 140 = .ok (.aload_n 0, 1) := by decide +kernel
theorem kd_Mo_readBlock_141 : decode kc_Mo_readBlock 141 = .ok (.getfield 242, 3) := by decide +kernel
theorem kd_Mo_readBlock_144 : decode kc_Mo_readBlock 144 = .ok (.bipush 6, 2) := by decide +kernel
theorem kd_Mo_readBlock_146 : decode kc_Mo_readBlock 146 = .ok (.isub, 1) := by decide +kernel
theorem kd_Mo_readBlock_147 : decode kc_Mo_readBlock 147 = .ok (.invokevirtual 342, 3) := by decide +kernel
theorem kd_Mo_readBlock_150 : decode kc_Mo_readBlock 150 = .ok (.istore 5, 2) := by decide +kernel
theorem kd_Mo_readBlock_152 : decode kc_Mo_readBlock 152 = .ok (.aload_n 0, 1) := by decide +kernel
theorem kd_Mo_readBlock_153 : decode kc_Mo_readBlock 153 = .ok (.invokevirtual 296, 3) := by decide +kernel
theorem kd_Mo_readBlock_156 : decode kc_Mo_readBlock 156 = .ok (.aload_n 0, 1) := by decide +kernel
theorem kd_Mo_readBlock_157 : decode kc_Mo_readBlock 157 = .ok (.getfield 201, 3) := by decide +kernel
theorem kd_Mo_readBlock_160 : decode kc_Mo_readBlock 160 = .ok (.ifCond .ne 20, 3) := by decide +kernel
theorem kd_Mo_readBlock_163 : decode kc_Mo_readBlock 163 = .ok (.aload_n 0, 1) := by decide +kernel
theorem kd_Mo_readBlock_164 : decode kc_Mo_readBlock 164 = .ok (.getfield 217, 3) := by decide +kernel
theorem kd_Mo_readBlock_167 : decode kc_Mo_readBlock 167 = .ok (.iconst 1, 1) := by decide +kernel
theorem kd_Mo_readBlock_168 : decode kc_Mo_readBlock 168 = .ok (.if_icmp .ne 12, 3) := by decide +kernel
theorem kd_Mo_readBlock_171 : decode kc_Mo_readBlock 171 = .ok (.aload_n 0, 1) := by decide +kernel
theorem kd_Mo_readBlock_172 : decode kc_Mo_readBlock 172 = .ok (.iload 5, 2) := by decide +kernel
theorem kd_Mo_readBlock_174 : decode kc_Mo_readBlock 174 = .ok (.invokevirtual 355, 3) := by decide +kernel
theorem kd_Mo_readBlock_177 : decode kc_Mo_readBlock 177 = .ok (.goto (-21), 3) := by decide +kernel
theorem kd_Mo_readBlock_180 : decode kc_Mo_readBlock 180 = .ok (.aload_n 0, 1) := by decide +kernel
theorem kd_Mo_readBlock_181 : decode kc_Mo_readBlock 181 = .ok (.getfield 214, 3) := by decide +kernel
theorem kd_Mo_readBlock_184 : decode kc_Mo_readBlock 184 = .ok (.istore 4, 2) := by decide +kernel
theorem kd_Mo_readBlock_186 : decode kc_Mo_readBlock 186 = .ok (.aload_n 0, 1) := by decide +kernel
theorem kd_Mo_readBlock_187 : decode kc_Mo_readBlock 187 = .ok (.bipush 9, 2) := by decide +kernel
theorem kd_Mo_readBlock_189 : decode kc_Mo_readBlock 189 = .ok (.invokevirtual 358, 3) := by decide +kernel
theorem kd_Mo_readBlock_192 : decode kc_Mo_readBlock 192 = .ok (.goto (-86), 3) := by decide +kernel
theorem kd_Mo_readBlock_195 : decode kc_Mo_readBlock 195 = .ok (.aload_n 0, 1) := by decide +kernel
theorem kd_Mo_readBlock_196 : decode kc_Mo_readBlock 196 = .ok (.bipush 37, 2) := by decide +kernel
theorem kd_Mo_readBlock_198 : decode kc_Mo_readBlock 198 = .ok (.invokevirtual 302, 3) := by decide +kernel
theorem kd_Mo_readBlock_201 : decode kc_Mo_readBlock 201 = .ok (.ifCond .eq 11, 3) := by decide +kernel
theorem kd_Mo_readBlock_204 : decode kc_Mo_readBlock 204 = .ok (.aload_n 0, 1) := by decide +kernel
theorem kd_Mo_readBlock_205 : decode kc_Mo_readBlock 205 = .ok (.iload_n 3, 1) := by decide +kernel
theorem kd_Mo_readBlock_206 : decode kc_Mo_readBlock 206 = .ok (.invokevirtual 361, 3) := by decide +kernel
theorem kd_Mo_readBlock_209 : decode kc_Mo_readBlock 209 = .ok (.goto 17, 3) := by decide +kernel
theorem kd_Mo_readBlock_212 : decode kc_Mo_readBlock 212 = .ok (.aload_n 0, 1) := by decide +kernel
theorem kd_Mo_readBlock_213 : decode kc_Mo_readBlock 213 = .ok (.aload_n 0, 1) := by decide +kernel
theorem kd_Mo_readBlock_214 : decode kc_Mo_readBlock 214 = .ok (.iload_n 3, 1) := by decide +kernel
theorem kd_Mo_readBlock_215 : decode kc_Mo_readBlock 215 = .ok (.bipush 11, 2) := by decide +kernel
theorem kd_Mo_readBlock_217 : decode kc_Mo_readBlock 217 = .ok (.iload 4, 2) := by decide +kernel
theorem kd_Mo_readBlock_219 : decode kc_Mo_readBlock 219 = .ok (.iconst 0, 1) := by decide +kernel
theorem kd_Mo_readBlock_220 : decode kc_Mo_readBlock 220 = .ok (.invokevirtual 342, 3) := by decide +kernel
theorem kd_Mo_readBlock_223 : decode kc_Mo_readBlock 223 = .ok (.invokevirtual 364, 3) := by decide +kernel
theorem kd_Mo_readBlock_226 : decode kc_Mo_readBlock 226 = .ok (.aload_n 0, 1) := by decide +kernel
theorem kd_Mo_readBlock_227 : decode kc_Mo_readBlock 227 = .ok (.iload_n 2, 1) := by decide +kernel
theorem kd_Mo_readBlock_228 : decode kc_Mo_readBlock 228 = .ok (.iconst 1, 1) := by decide +kernel
theorem kd_Mo_readBlock_229 : decode kc_Mo_readBlock 229 = .ok (.iadd, 1) := by decide +kernel
theorem kd_Mo_readBlock_230 : decode kc_Mo_readBlock 230 = .ok (.invokevirtual 358, 3) := by decide +kernel
theorem kd_Mo_readBlock_233 : decode kc_Mo_readBlock 233 = .ok (.return_, 1) := by decide +kernel
theorem kd_Mo_readText_0 : decode kc_Mo_readText 0 = .ok (.aload_n 0, 1) := by decide +kernel
theorem kd_Mo_readText_1 : decode kc_Mo_readText 1 = .ok (.iconst 0, 1) := by decide +kernel
theorem kd_Mo_readText_2 : decode kc_Mo_readText 2 = .ok (.putfield 201, 3) := by decide +kernel
theorem kd_Mo_readText_5 : decode kc_Mo_readText 5 = .ok (.aload_n 0, 1) := by decide +kernel
theorem kd_Mo_readText_6 : decode kc_Mo_readText 6 = .ok (.iconst (-1), 1) := by decide +kernel
theorem kd_Mo_readText_7 : decode kc_Mo_readText 7 = .ok (.putfield 178, 3) := by decide +kernel
theorem kd_Mo_readText_10 : decode kc_Mo_readText 10 = .ok (.aload_n 0, 1) := by decide +kernel
theorem kd_Mo_readText_11 : decode kc_Mo_readText 11 = .ok (.iconst 0, 1) := by decide +kernel
theorem kd_Mo_readText_12 : decode kc_Mo_readText 12 = .ok (.putfield 315, 3) := by decide +kernel
theorem kd_Mo_readText_15 : decode kc_Mo_readText 15 = .ok (.aload_n 0, 1) := by decide +kernel
theorem kd_Mo_readText_16 : decode kc_Mo_readText 16 = .ok (.iconst 0, 1) := by decide +kernel
theorem kd_Mo_readText_17 : decode kc_Mo_readText 17 = .ok (.putfield 259, 3) := by decide +kernel
theorem kd_Mo_readText_20 : decode kc_Mo_readText 20 = .ok (.aload_n 0, 1) := by decide +kernel
theorem kd_Mo_readText_21 : decode kc_Mo_readText 21 = .ok (.iconst 0, 1) := by decide +kernel
theorem kd_Mo_readText_22 : decode kc_Mo_readText 22 = .ok (.putfield 325, 3) := by decide +kernel
theorem kd_Mo_readText_25 : decode kc_Mo_readText 25 = .ok (.aload_n 0, 1) := by decide +kernel
theorem kd_Mo_readText_26 : decode kc_Mo_readText 26 = .ok (.iconst 0, 1) := by decide +kernel
theorem kd_Mo_readText_27 : decode kc_Mo_readText 27 = .ok (.putfield 328, 3) := by decide +kernel
theorem kd_Mo_readText_30 : decode kc_Mo_readText 30 = .ok (.aload_n 0, 1) := by decide +kernel
theorem kd_Mo_readText_31 : decode kc_Mo_readText 31 = .ok (.iconst 0, 1) := by decide +kernel
theorem kd_Mo_readText_32 : decode kc_Mo_readText 32 = .ok (.putfield 312, 3) := by decide +kernel
theorem kd_Mo_readText_35 : decode kc_Mo_readText 35 = .ok (.aload_n 0, 1) := by decide +kernel
theorem kd_Mo_readText_36 : decode kc_Mo_readText 36 = .ok (.iconst 0, 1) := by decide +kernel
theorem kd_Mo_readText_37 : decode kc_Mo_readText 37 = .ok (.putfield 208, 3) := by decide +kernel
theorem kd_Mo_readText_40 : decode kc_Mo_readText 40 = .ok (.aload_n 0, 1) := by decide +kernel
theorem kd_Mo_readText_41 : decode kc_Mo_readText 41 = .ok (.iconst 0, 1) := by decide +kernel
theorem kd_Mo_readText_42 : decode kc_Mo_readText 42 = .ok (.putfield 331, 3) := by decide +kernel
theorem kd_Mo_readText_45 : decode kc_Mo_readText 45 = .ok (.aload_n 0, 1) := by decide +kernel
theorem kd_Mo_readText_46 : decode kc_Mo_readText 46 = .ok (.invokevirtual 296, 3) := by decide +kernel
theorem kd_Mo_readText_49 : decode kc_Mo_readText 49 = .ok (.aload_n 0, 1) := by decide +kernel
theorem kd_Mo_readText_50 : decode kc_Mo_readText 50 = .ok (.iconst 0, 1) := by decide +kernel
theorem kd_Mo_readText_51 : decode kc_Mo_readText 51 = .ok (.iconst 0, 1) := by decide +kernel
theorem kd_Mo_readText_52 : decode kc_Mo_readText 52 = .ok (.iconst 0, 1) := by decide +kernel
theorem kd_Mo_readText_53 : decode kc_Mo_readText 53 = .ok (.invokevirtual 318, 3) := by decide +kernel
theorem kd_Mo_readText_56 : decode kc_Mo_readText 56 = .ok (.istore_n 1, 1) := by decide +kernel
theorem kd_Mo_readText_57 : decode kc_Mo_readText 57 = .ok (.aload_n 0, 1) := by decide +kernel
theorem kd_Mo_readText_58 : decode kc_Mo_readText 58 = .ok (.getfield 201, 3) := by decide +kernel
theorem kd_Mo_readText_61 : decode kc_Mo_readText 61 = .ok (.ifCond .ne 18, 3) := by decide +kernel
theorem kd_Mo_readText_64 : decode kc_Mo_readText 64 = .ok (.aload_n 0, 1) := by decide +kernel
theorem kd_Mo_readText_65 : decode kc_Mo_readText 65 = .ok (.getfield 217, 3) := by decide +kernel
theorem kd_Mo_readText_68 : decode kc_Mo_readText 68 = .ok (.ifCond .eq 11, 3) := by decide +kernel
theorem kd_Mo_readText_71 : decode kc_Mo_readText 71 = .ok (.aload_n 0, 1) := by decide +kernel
theorem kd_Mo_readText_72 : decode kc_Mo_readText 72 = .ok (.iload_n 1, 1) := by decide +kernel
theorem kd_Mo_readText_73 : decode kc_Mo_readText 73 = .ok (.invokevirtual 335, 3) := by decide +kernel
theorem kd_Mo_readText_76 : decode kc_Mo_readText 76 = .ok (.goto (-19), 3) := by decide +kernel
theorem kd_Mo_readText_79 : decode kc_Mo_readText 79 = .ok (.aload_n 0, 1) := by decide +kernel
theorem kd_Mo_readText_80 : decode kc_Mo_readText 80 = .ok (.aload_n 0, 1) := by decide +kernel
theorem kd_Mo_readText_81 : decode kc_Mo_readText 81 = .ok (.getfield 201, 3) := by decide +kernel
theorem kd_Mo_readText_84 : decode kc_Mo_readText 84 = .ok (.ifCond .ne 7, 3) := by decide +kernel
theorem kd_Mo_readText_87 : decode kc_Mo_readText 87 = .ok (.iconst 1, 1) := by decide +kernel
theorem kd_Mo_readText_88 : decode kc_Mo_readText 88 = .ok (.goto 4, 3) := by decide +kernel
theorem kd_Mo_readText_91 : decode kc_Mo_readText 91 = .ok (.iconst 0, 1) := by decide +kernel
theorem kd_Mo_readText_92 : decode kc_Mo_readText 92 = .ok (.putfield 331, 3) := by decide +kernel
theorem kd_Mo_readText_95 : decode kc_Mo_readText 95 = .ok (.aload_n 0, 1) := by decide +kernel
theorem kd_Mo_readText_96 : decode kc_Mo_readText 96 = .ok (.getfield 331, 3) := by decide +kernel
theorem kd_Mo_readText_99 : decode kc_Mo_readText 99 = .ok (.ifCond .eq 10, 3) := by decide +kernel
theorem kd_Mo_readText_102 : decode kc_Mo_readText 102 = .ok (.aload_n 0, 1) := by decide +kernel
theorem kd_Mo_readText_103 : decode kc_Mo_readText 103 = .ok (.invokevirtual 339, 3) := by decide +kernel
theorem kd_Mo_readText_106 : decode kc_Mo_readText 106 = .ok (.goto 13, 3) := by decide +kernel
theorem kd_Mo_readText_109 : decode kc_Mo_readText 109 = .ok (.aload_n 0, 1) := by decide +kernel
theorem kd_Mo_readText_110 : decode kc_Mo_readText 110 = .ok (.iconst 0, 1) := by decide +kernel
theorem kd_Mo_readText_111 : decode kc_Mo_readText 111 = .ok (.putfield 315, 3) := by decide +kernel
theorem kd_Mo_readText_114 : decode kc_Mo_readText 114 = .ok (.aload_n 0, 1) := by decide +kernel
theorem kd_Mo_readText_115 : decode kc_Mo_readText 115 = .ok (.iconst 0, 1) := by decide +kernel
theorem kd_Mo_readText_116 : decode kc_Mo_readText 116 = .ok (.putfield 259, 3) := by decide +kernel
theorem kd_Mo_readText_119 : decode kc_Mo_readText 119 = .ok (.aload_n 0, 1) := by decide +kernel
theorem kd_Mo_readText_120 : decode kc_Mo_readText 120 = .ok (.getfield 201, 3) := by decide +kernel
theorem kd_Mo_readText_123 : decode kc_Mo_readText 123 = .ok (.ireturn, 1) := by decide +kernel
theorem kd_Mo_rule_0 : decode kc_Mo_rule 0 = .ok (.iload_n 1, 1) := by decide +kernel
theorem kd_Mo_rule_1 : decode kc_Mo_rule 1 = .ok (.ifCond .eq 9, 3) := by decide +kernel
theorem kd_Mo_rule_4 : decode kc_Mo_rule 4 = .ok (.aload_n 0, 1) := by decide +kernel
theorem kd_Mo_rule_5 : decode kc_Mo_rule 5 = .ok (.iload_n 2, 1) := by decide +kernel
theorem kd_Mo_rule_6 : decode kc_Mo_rule 6 = .ok (.iload_n 3, 1) := by decide +kernel
theorem kd_Mo_rule_7 : decode kc_Mo_rule 7 = .ok (.invokevirtual 451, 3) := by decide +kernel
theorem kd_Mo_rule_10 : decode kc_Mo_rule 10 = .ok (.return_, 1) := by decide +kernel
theorem kd_Mo_wordOf_0 : decode kc_Mo_wordOf 0 = .ok (.iconst 0, 1) := by decide +kernel
theorem kd_Mo_wordOf_1 : decode kc_Mo_wordOf 1 = .ok (.istore_n 3, 1) := by decide +kernel
theorem kd_Mo_wordOf_2 : decode kc_Mo_wordOf 2 = .ok (.iconst 1, 1) := by decide +kernel
theorem kd_Mo_wordOf_3 : decode kc_Mo_wordOf 3 = .ok (.istore 4, 2) := by decide +kernel
theorem kd_Mo_wordOf_5 : decode kc_Mo_wordOf 5 = .ok (.iload 4, 2) := by decide +kernel
theorem kd_Mo_wordOf_7 : decode kc_Mo_wordOf 7 = .ok (.aload_n 1, 1) := by decide +kernel
theorem kd_Mo_wordOf_8 : decode kc_Mo_wordOf 8 = .ok (.invokevirtual 250, 3) := by decide +kernel
theorem kd_Mo_wordOf_11 : decode kc_Mo_wordOf 11 = .ok (.if_icmp .ge 109, 3) := by decide +kernel
theorem kd_Mo_wordOf_14 : decode kc_Mo_wordOf 14 = .ok (.iconst 0, 1) := by decide +kernel
theorem kd_Mo_wordOf_15 : decode kc_Mo_wordOf 15 = .ok (.istore 5, 2) := by decide +kernel
theorem kd_Mo_wordOf_17 : decode kc_Mo_wordOf 17 = .ok (.iconst 1, 1) := by decide +kernel
theorem kd_Mo_wordOf_18 : decode kc_Mo_wordOf 18 = .ok (.istore 6, 2) := by decide +kernel
theorem kd_Mo_wordOf_20 : decode kc_Mo_wordOf 20 = .ok (.aload_n 1, 1) := by decide +kernel
theorem kd_Mo_wordOf_21 : decode kc_Mo_wordOf 21 = .ok (.iload 4, 2) := by decide +kernel
theorem kd_Mo_wordOf_23 : decode kc_Mo_wordOf 23 = .ok (.iload 5, 2) := by decide +kernel
theorem kd_Mo_wordOf_25 : decode kc_Mo_wordOf 25 = .ok (.iadd, 1) := by decide +kernel
theorem kd_Mo_wordOf_26 : decode kc_Mo_wordOf 26 = .ok (.invokevirtual 255, 3) := by decide +kernel
theorem kd_Mo_wordOf_29 : decode kc_Mo_wordOf 29 = .ok (.bipush 32, 2) := by decide +kernel
theorem kd_Mo_wordOf_31 : decode kc_Mo_wordOf 31 = .ok (.if_icmp .eq 56, 3) := by decide +kernel
theorem kd_Mo_wordOf_34 : decode kc_Mo_wordOf 34 = .ok (.iload 6, 2) := by decide +kernel
theorem kd_Mo_wordOf_36 : decode kc_Mo_wordOf 36 = .ok (.ifCond .eq 42, 3) := by decide +kernel
theorem kd_Mo_wordOf_39 : decode kc_Mo_wordOf 39 = .ok (.iload 5, 2) := by decide +kernel
theorem kd_Mo_wordOf_41 : decode kc_Mo_wordOf 41 = .ok (.aload_n 0, 1) := by decide +kernel
theorem kd_Mo_wordOf_42 : decode kc_Mo_wordOf 42 = .ok (.getfield 17, 3) := by decide +kernel
theorem kd_Mo_wordOf_45 : decode kc_Mo_wordOf 45 = .ok (.iload_n 2, 1) := by decide +kernel
theorem kd_Mo_wordOf_46 : decode kc_Mo_wordOf 46 = .ok (.iaload, 1) := by decide +kernel
theorem kd_Mo_wordOf_47 : decode kc_Mo_wordOf 47 = .ok (.if_icmp .ge 31, 3) := by decide +kernel
theorem kd_Mo_wordOf_50 : decode kc_Mo_wordOf 50 = .ok (.aload_n 0, 1) := by decide +kernel
theorem kd_Mo_wordOf_51 : decode kc_Mo_wordOf 51 = .ok (.getfield 14, 3) := by decide +kernel
theorem kd_Mo_wordOf_54 : decode kc_Mo_wordOf 54 = .ok (.bipush 32, 2) := by decide +kernel
theorem kd_Mo_wordOf_56 : decode kc_Mo_wordOf 56 = .ok (.iload_n 2, 1) := by decide +kernel
theorem kd_Mo_wordOf_57 : decode kc_Mo_wordOf 57 = .ok (.imul, 1) := by decide +kernel
theorem kd_Mo_wordOf_58 : decode kc_Mo_wordOf 58 = .ok (.iload 5, 2) := by decide +kernel
theorem kd_Mo_wordOf_60 : decode kc_Mo_wordOf 60 = .ok (.iadd, 1) := by decide +kernel
theorem kd_Mo_wordOf_61 : decode kc_Mo_wordOf 61 = .ok (.baload, 1) := by decide +kernel
theorem kd_Mo_wordOf_62 : decode kc_Mo_wordOf 62 = .ok (.aload_n 1, 1) := by decide +kernel
theorem kd_Mo_wordOf_63 : decode kc_Mo_wordOf 63 = .ok (.iload 4, 2) := by decide +kernel
theorem kd_Mo_wordOf_65 : decode kc_Mo_wordOf 65 = .ok (.iload 5, 2) := by decide +kernel
theorem kd_Mo_wordOf_67 : decode kc_Mo_wordOf 67 = .ok (.iadd, 1) := by decide +kernel
theorem kd_Mo_wordOf_68 : decode kc_Mo_wordOf 68 = .ok (.invokevirtual 255, 3) := by decide +kernel
theorem kd_Mo_wordOf_71 : decode kc_Mo_wordOf 71 = .ok (.if_icmp .ne 7, 3) := by decide +kernel
theorem kd_Mo_wordOf_74 : decode kc_Mo_wordOf 74 = .ok (.iconst 1, 1) := by decide +kernel
theorem kd_Mo_wordOf_75 : decode kc_Mo_wordOf 75 = .ok (.goto 4, 3) := by decide +kernel
theorem kd_Mo_wordOf_78 : decode kc_Mo_wordOf 78 = .ok (.iconst 0, 1) := by decide +kernel
theorem kd_Mo_wordOf_79 : decode kc_Mo_wordOf 79 = .ok (.istore 6, 2) := by decide +kernel
theorem kd_Mo_wordOf_81 : decode kc_Mo_wordOf 81 = .ok (.iinc 5 1, 3) := by decide +kernel
theorem kd_Mo_wordOf_84 : decode kc_Mo_wordOf 84 = .ok (.goto (-64), 3) := by decide +kernel
theorem kd_Mo_wordOf_87 : decode kc_Mo_wordOf 87 = .ok (.iload 6, 2) := by decide +kernel
theorem kd_Mo_wordOf_89 : decode kc_Mo_wordOf 89 = .ok (.ifCond .eq 16, 3) := by decide +kernel
theorem kd_Mo_wordOf_92 : decode kc_Mo_wordOf 92 = .ok (.iload 5, 2) := by decide +kernel
theorem kd_Mo_wordOf_94 : decode kc_Mo_wordOf 94 = .ok (.aload_n 0, 1) := by decide +kernel
theorem kd_Mo_wordOf_95 : decode kc_Mo_wordOf 95 = .ok (.getfield 17, 3) := by decide +kernel
theorem kd_Mo_wordOf_98 : decode kc_Mo_wordOf 98 = .ok (.iload_n 2, 1) := by decide +kernel
theorem kd_Mo_wordOf_99 : decode kc_Mo_wordOf 99 = .ok (.iaload, 1) := by decide +kernel
theorem kd_Mo_wordOf_100 : decode kc_Mo_wordOf 100 = .ok (.if_icmp .ne 5, 3) := by decide +kernel
theorem kd_Mo_wordOf_103 : decode kc_Mo_wordOf 103 = .ok (.iload_n 3, 1) := by decide +kernel
theorem kd_Mo_wordOf_104 : decode kc_Mo_wordOf 104 = .ok (.ireturn, 1) := by decide +kernel
theorem kd_Mo_wordOf_105 : decode kc_Mo_wordOf 105 = .ok (.iinc 3 1, 3) := by decide +kernel
theorem kd_Mo_wordOf_108 : decode kc_Mo_wordOf 108 = .ok (.iload 4, 2) := by decide +kernel
theorem kd_Mo_wordOf_110 : decode kc_Mo_wordOf 110 = .ok (.iload 5, 2) := by decide +kernel
theorem kd_Mo_wordOf_112 : decode kc_Mo_wordOf 112 = .ok (.iadd, 1) := by decide +kernel
theorem kd_Mo_wordOf_113 : decode kc_Mo_wordOf 113 = .ok (.iconst 1, 1) := by decide +kernel
theorem kd_Mo_wordOf_114 : decode kc_Mo_wordOf 114 = .ok (.iadd, 1) := by decide +kernel
theorem kd_Mo_wordOf_115 : decode kc_Mo_wordOf 115 = .ok (.istore 4, 2) := by decide +kernel
theorem kd_Mo_wordOf_117 : decode kc_Mo_wordOf 117 = .ok (.goto (-112), 3) := by decide +kernel
theorem kd_Mo_wordOf_120 : decode kc_Mo_wordOf 120 = .ok (.iconst (-1), 1) := by decide +kernel
theorem kd_Mo_wordOf_121 : decode kc_Mo_wordOf 121 = .ok (.ireturn, 1) := by decide +kernel
set_option maxHeartbeats 4000000 in
set_option maxRecDepth 100000 in
theorem zb_Mo_readBlock_180 {X : zkj_T} {S : zs_T} {P : ze_T} {l : Launch} {D : va_G} {sz0 : Nat} {rh : zs_H} (C : zk_C X km_Mo_readBlock (zs_G S l D sz0) { frames := 1206, cells := 0, slots := 0, locals := 29343 } (ze_E P)) (hR : zkj_R X (zd_PV S rh) (none)) {k106 : zs_H → Int32 → Int32 → Int32 → (Option zs_H)} (hk106 : ∀ (h : zs_H) (x2 : Int32) (x3 : Int32) (x4 : Int32), k106 h x2 x3 x4 = some rh → zk_Ab X (zs_W S h) 0 0 106 [(0, .ref (S.1 68)), (2, .int x2), (3, .int x3), (4, .int x4)] []) (h : zs_H) (x2 : Int32) (x3 : Int32) (e : f_Mo_readBlock_180 k106 h x2 x3 = some rh) : zk_Ab X (zs_W S h) 0 0 180 [(0, .ref (S.1 68)), (2, .int x2), (3, .int x3)] [] := by
  unfold f_Mo_readBlock_180 at e
  refine zk_aload_n C kd_Mo_readBlock_180 rfl 0 rfl rfl ?_
  refine zs_get (v := .int (h.1 68 7)) C 68 7 rfl rfl rfl rfl ki_Mo (by decide) kw1690 kd_Mo_readBlock_181 rfl ?_
  refine zk_istore (lv' := [(4, _), (0, _), (2, _), (3, _)]) C kd_Mo_readBlock_184 (by decide) rfl rfl ?_
  refine zk_aload_n C kd_Mo_readBlock_186 rfl 1 rfl rfl ?_
  refine zk_bipush (v := 9) C kd_Mo_readBlock_187 (by decide) rfl ?_
  obtain ⟨h2, c1, e⟩ := zd_b e
  refine zs_callV (k := 68) (rn := { frames := 8, cells := 0, slots := 0, locals := 171 }) (As := [.int 9]) (rest := []) C (zc_Mo_wantWord h 9 c1) ku_Mo_wantWord kw2141 kv_Mo_wantWord rfl ⟨by decide, by decide⟩ ⟨by decide, by decide⟩ rfl rfl rfl (Nat.le_of_ble_eq_true rfl) kd_Mo_readBlock_189 rfl (c1 := 0) (s1 := 0) rfl rfl (fun v w hp => ?_)
  obtain ⟨rfl, rfl⟩ := hp
  refine zk_stk (r' := []) rfl ?_
  refine zk_goto (tgt := 106) C kd_Mo_readBlock_192 (by decide) ?_
  refine zk_lvs (lv' := [(0, .ref (S.1 68)), (2, .int x2), (3, .int x3), (4, .int (h.1 68 7))]) [1, 2, 3, 0] rfl ?_
  exact hk106 h2 x2 x3 (h.1 68 7) e
set_option maxHeartbeats 4000000 in
set_option maxRecDepth 100000 in
theorem zb_Mo_readBlock_156 {X : zkj_T} {S : zs_T} {P : ze_T} {l : Launch} {D : va_G} {sz0 : Nat} {rh : zs_H} (C : zk_C X km_Mo_readBlock (zs_G S l D sz0) { frames := 1206, cells := 0, slots := 0, locals := 29343 } (ze_E P)) (hR : zkj_R X (zd_PV S rh) (none)) {k106 : zs_H → Int32 → Int32 → Int32 → (Option zs_H)} (hk106 : ∀ (h : zs_H) (x2 : Int32) (x3 : Int32) (x4 : Int32), k106 h x2 x3 x4 = some rh → zk_Ab X (zs_W S h) 0 0 106 [(0, .ref (S.1 68)), (2, .int x2), (3, .int x3), (4, .int x4)] []) {k156 : zs_H → Int32 → Int32 → Int32 → (Option zs_H)} (hk156 : ∀ (h : zs_H) (x2 : Int32) (x3 : Int32) (x5 : Int32), k156 h x2 x3 x5 = some rh → zk_Ab X (zs_W S h) 0 0 156 [(0, .ref (S.1 68)), (2, .int x2), (3, .int x3), (5, .int x5)] []) (h : zs_H) (x2 : Int32) (x3 : Int32) (x5 : Int32) (e : f_Mo_readBlock_156 k106 k156 h x2 x3 x5 = some rh) : zk_Ab X (zs_W S h) 0 0 156 [(0, .ref (S.1 68)), (2, .int x2), (3, .int x3), (5, .int x5)] [] := by
  unfold f_Mo_readBlock_156 at e
  refine zk_aload_n C kd_Mo_readBlock_156 rfl 0 rfl rfl ?_
  refine zs_get (v := .int (h.1 68 10)) C 68 10 rfl rfl rfl rfl ki_Mo (by decide) kw1693 kd_Mo_readBlock_157 rfl ?_
  refine zk_if_ne (tgt := 180) C kd_Mo_readBlock_160 (by decide) rfl (fun b1 => ?_) (fun b1 => ?_)
  · replace e := zd_neg b1 e
    refine zk_lvs (lv' := [(0, .ref (S.1 68)), (2, .int x2), (3, .int x3)]) [0, 1, 2] rfl ?_
    exact zb_Mo_readBlock_180 C hR hk106 h x2 x3 e
  · replace e := zd_pos b1 e
    refine zk_aload_n C kd_Mo_readBlock_163 rfl 0 rfl rfl ?_
    refine zs_get (v := .int (h.1 68 6)) C 68 6 rfl rfl rfl rfl ki_Mo (by decide) kw1689 kd_Mo_readBlock_164 rfl ?_
    refine zk_iconst (v := 1) C kd_Mo_readBlock_167 (by decide) rfl ?_
    refine zk_icmp_ne (tgt := 180) C kd_Mo_readBlock_168 (by decide) rfl (fun b2 => ?_) (fun b2 => ?_)
    · replace e := zd_neg b2 e
      refine zk_lvs (lv' := [(0, .ref (S.1 68)), (2, .int x2), (3, .int x3)]) [0, 1, 2] rfl ?_
      exact zb_Mo_readBlock_180 C hR hk106 h x2 x3 e
    · replace e := zd_pos b2 e
      refine zk_aload_n C kd_Mo_readBlock_171 rfl 0 rfl rfl ?_
      refine zk_iload C kd_Mo_readBlock_172 3 rfl rfl ?_
      obtain ⟨h4, c3, e⟩ := zd_b e
      refine zs_callV (k := 68) (rn := { frames := 10, cells := 0, slots := 0, locals := 218 }) (As := [.int x5]) (rest := []) C (zc_Mo_declaration h x5 c3) ku_Mo_declaration kw2129 kv_Mo_declaration rfl ⟨by decide, by decide⟩ ⟨by decide, by decide⟩ rfl rfl rfl (Nat.le_of_ble_eq_true rfl) kd_Mo_readBlock_174 rfl (c1 := 0) (s1 := 0) rfl rfl (fun v w hp => ?_)
      obtain ⟨rfl, rfl⟩ := hp
      refine zk_stk (r' := []) rfl ?_
      refine zk_goto (tgt := 156) C kd_Mo_readBlock_177 (by decide) ?_
      refine zk_lvs (lv' := [(0, .ref (S.1 68)), (2, .int x2), (3, .int x3), (5, .int x5)]) [0, 1, 2, 3] rfl ?_
      exact hk156 h4 x2 x3 x5 e
theorem zl_Mo_readBlock_156 {X : zkj_T} {S : zs_T} {P : ze_T} {l : Launch} {D : va_G} {sz0 : Nat} {rh : zs_H} (C : zk_C X km_Mo_readBlock (zs_G S l D sz0) { frames := 1206, cells := 0, slots := 0, locals := 29343 } (ze_E P)) (hR : zkj_R X (zd_PV S rh) (none)) {k106 : zs_H → Int32 → Int32 → Int32 → (Option zs_H)} (hk106 : ∀ (h : zs_H) (x2 : Int32) (x3 : Int32) (x4 : Int32), k106 h x2 x3 x4 = some rh → zk_Ab X (zs_W S h) 0 0 106 [(0, .ref (S.1 68)), (2, .int x2), (3, .int x3), (4, .int x4)] []) (n : Nat) : ∀ (h : zs_H) (x2 : Int32) (x3 : Int32) (x5 : Int32), f_Mo_readBlock_L156 k106 n h x2 x3 x5 = some rh → zk_Ab X (zs_W S h) 0 0 156 [(0, .ref (S.1 68)), (2, .int x2), (3, .int x3), (5, .int x5)] [] := by
  induction n with
  | zero => intro h x2 x3 x5 e; exact zd_no e
  | succ n ih => intro h x2 x3 x5 e; exact zb_Mo_readBlock_156 (k156 := f_Mo_readBlock_L156 k106 n) C hR hk106 ih h x2 x3 x5 e
set_option maxHeartbeats 4000000 in
set_option maxRecDepth 100000 in
theorem zb_Mo_readBlock_133 {X : zkj_T} {S : zs_T} {P : ze_T} {l : Launch} {D : va_G} {sz0 : Nat} {rh : zs_H} (C : zk_C X km_Mo_readBlock (zs_G S l D sz0) { frames := 1206, cells := 0, slots := 0, locals := 29343 } (ze_E P)) (hR : zkj_R X (zd_PV S rh) (none)) {k106 : zs_H → Int32 → Int32 → Int32 → (Option zs_H)} (hk106 : ∀ (h : zs_H) (x2 : Int32) (x3 : Int32) (x4 : Int32), k106 h x2 x3 x4 = some rh → zk_Ab X (zs_W S h) 0 0 106 [(0, .ref (S.1 68)), (2, .int x2), (3, .int x3), (4, .int x4)] []) (h : zs_H) (x2 : Int32) (x3 : Int32) (e : f_Mo_readBlock_133 k106 h x2 x3 = some rh) : zk_Ab X (zs_W S h) 0 0 133 [(0, .ref (S.1 68)), (2, .int x2), (3, .int x3)] [] := by
  unfold f_Mo_readBlock_133 at e
  refine zk_aload_n C kd_Mo_readBlock_133 rfl 0 rfl rfl ?_
  refine zk_iload_n C kd_Mo_readBlock_134 rfl 2 rfl rfl ?_
  refine zk_iconst (v := 4) C kd_Mo_readBlock_135 (by decide) rfl ?_
  refine zk_aload_n C kd_Mo_readBlock_136 rfl 0 rfl rfl ?_
  refine zs_get (v := .int (h.1 68 7)) C 68 7 rfl rfl rfl rfl ki_Mo (by decide) kw1690 kd_Mo_readBlock_137 rfl ?_
  refine zk_aload_n C kd_Mo_readBlock_140 rfl 0 rfl rfl ?_
  refine zs_get (v := .int (h.1 68 9)) C 68 9 rfl rfl rfl rfl ki_Mo (by decide) kw1692 kd_Mo_readBlock_141 rfl ?_
  refine zk_bipush (v := 6) C kd_Mo_readBlock_144 (by decide) rfl ?_
  refine zk_isub C kd_Mo_readBlock_146 rfl ?_
  obtain ⟨v2, h3, c1, e⟩ := zd_Be e
  refine zs_callV (k := 68) (rn := { frames := 1, cells := 0, slots := 0, locals := 24 }) (As := [.int x3, .int 4, .int (h.1 68 7), .int ((h.1 68 9) - 6)]) (rest := []) C (zc_Mo_add h x3 4 (h.1 68 7) ((h.1 68 9) - 6) c1) ku_Mo_add kw2097 kv_Mo_add rfl ⟨by decide, by decide⟩ ⟨by decide, by decide⟩ rfl rfl rfl (Nat.le_of_ble_eq_true rfl) kd_Mo_readBlock_147 rfl (c1 := 0) (s1 := 0) rfl rfl (fun v w hp => ?_)
  obtain ⟨rfl, rfl⟩ := hp
  refine zk_stk (r' := [.int v2]) rfl ?_
  refine zk_istore (lv' := [(5, _), (0, _), (2, _), (3, _)]) C kd_Mo_readBlock_150 (by decide) rfl rfl ?_
  refine zk_aload_n C kd_Mo_readBlock_152 rfl 1 rfl rfl ?_
  obtain ⟨h5, c4, e⟩ := zd_b e
  refine zs_callV (k := 68) (rn := { frames := 6, cells := 0, slots := 0, locals := 129 }) (As := []) (rest := []) C (zc_Mo_next h3 c4) ku_Mo_next kw2001 kv_Mo_next rfl ⟨by decide, by decide⟩ ⟨by decide, by decide⟩ rfl rfl rfl (Nat.le_of_ble_eq_true rfl) kd_Mo_readBlock_153 rfl (c1 := 0) (s1 := 0) rfl rfl (fun v w hp => ?_)
  obtain ⟨rfl, rfl⟩ := hp
  refine zk_stk (r' := []) rfl ?_
  refine zk_lvs (lv' := [(0, .ref (S.1 68)), (2, .int x2), (3, .int x3), (5, .int v2)]) [1, 2, 3, 0] rfl ?_
  exact zl_Mo_readBlock_156 C hR hk106 zF h5 x2 x3 v2 e
set_option maxHeartbeats 4000000 in
set_option maxRecDepth 100000 in
theorem zb_Mo_readBlock_226 {X : zkj_T} {S : zs_T} {P : ze_T} {l : Launch} {D : va_G} {sz0 : Nat} {rh : zs_H} (C : zk_C X km_Mo_readBlock (zs_G S l D sz0) { frames := 1206, cells := 0, slots := 0, locals := 29343 } (ze_E P)) (hR : zkj_R X (zd_PV S rh) (none)) (h : zs_H) (x2 : Int32) (e : f_Mo_readBlock_226 h x2 = some rh) : zk_Ab X (zs_W S h) 0 0 226 [(0, .ref (S.1 68)), (2, .int x2)] [] := by
  unfold f_Mo_readBlock_226 at e
  refine zk_aload_n C kd_Mo_readBlock_226 rfl 0 rfl rfl ?_
  refine zk_iload_n C kd_Mo_readBlock_227 rfl 1 rfl rfl ?_
  refine zk_iconst (v := 1) C kd_Mo_readBlock_228 (by decide) rfl ?_
  refine zk_iadd C kd_Mo_readBlock_229 rfl ?_
  obtain ⟨h2, c1, e⟩ := zd_b e
  refine zs_callV (k := 68) (rn := { frames := 8, cells := 0, slots := 0, locals := 171 }) (As := [.int (x2 + 1)]) (rest := []) C (zc_Mo_wantWord h (x2 + 1) c1) ku_Mo_wantWord kw2141 kv_Mo_wantWord rfl ⟨by decide, by decide⟩ ⟨by decide, by decide⟩ rfl rfl rfl (Nat.le_of_ble_eq_true rfl) kd_Mo_readBlock_230 rfl (c1 := 0) (s1 := 0) rfl rfl (fun v w hp => ?_)
  obtain ⟨rfl, rfl⟩ := hp
  refine zk_stk (r' := []) rfl ?_
  exact zk_vret C hR kd_Mo_readBlock_233 rfl rfl (zd_rV e)
set_option maxHeartbeats 4000000 in
set_option maxRecDepth 100000 in
theorem zb_Mo_readBlock_106 {X : zkj_T} {S : zs_T} {P : ze_T} {l : Launch} {D : va_G} {sz0 : Nat} {rh : zs_H} (C : zk_C X km_Mo_readBlock (zs_G S l D sz0) { frames := 1206, cells := 0, slots := 0, locals := 29343 } (ze_E P)) (hR : zkj_R X (zd_PV S rh) (none)) {k106 : zs_H → Int32 → Int32 → Int32 → (Option zs_H)} (hk106 : ∀ (h : zs_H) (x2 : Int32) (x3 : Int32) (x4 : Int32), k106 h x2 x3 x4 = some rh → zk_Ab X (zs_W S h) 0 0 106 [(0, .ref (S.1 68)), (2, .int x2), (3, .int x3), (4, .int x4)] []) (h : zs_H) (x2 : Int32) (x3 : Int32) (x4 : Int32) (e : f_Mo_readBlock_106 k106 h x2 x3 x4 = some rh) : zk_Ab X (zs_W S h) 0 0 106 [(0, .ref (S.1 68)), (2, .int x2), (3, .int x3), (4, .int x4)] [] := by
  unfold f_Mo_readBlock_106 at e
  refine zk_aload_n C kd_Mo_readBlock_106 rfl 0 rfl rfl ?_
  refine zk_bipush (v := 6) C kd_Mo_readBlock_107 (by decide) rfl ?_
  refine zs_callV (k := 68) (rn := { frames := 0, cells := 0, slots := 0, locals := 0 }) (As := [.int 6]) (rest := []) C (zc_Mo_isWord h 6) ku_Mo_isWord kw2125 kv_Mo_isWord rfl ⟨by decide, by decide⟩ ⟨by decide, by decide⟩ rfl rfl rfl (Nat.le_of_ble_eq_true rfl) kd_Mo_readBlock_109 rfl (c1 := 0) (s1 := 0) rfl rfl (fun v w hp => ?_)
  obtain ⟨rfl, rfl, z1⟩ := hp
  refine zk_stk (r' := [.int (f_Mo_isWord h 6)]) rfl ?_
  refine zk_if_ne (tgt := 133) C kd_Mo_readBlock_112 (by decide) rfl (fun b2 => ?_) (fun b2 => ?_)
  · replace e := zd_neg b2 e
    refine zk_lvs (lv' := [(0, .ref (S.1 68)), (2, .int x2), (3, .int x3)]) [0, 1, 2] rfl ?_
    exact zb_Mo_readBlock_133 C hR hk106 h x2 x3 e
  · replace e := zd_pos b2 e
    refine zk_aload_n C kd_Mo_readBlock_115 rfl 0 rfl rfl ?_
    refine zk_bipush (v := 7) C kd_Mo_readBlock_116 (by decide) rfl ?_
    refine zs_callV (k := 68) (rn := { frames := 0, cells := 0, slots := 0, locals := 0 }) (As := [.int 7]) (rest := []) C (zc_Mo_isWord h 7) ku_Mo_isWord kw2125 kv_Mo_isWord rfl ⟨by decide, by decide⟩ ⟨by decide, by decide⟩ rfl rfl rfl (Nat.le_of_ble_eq_true rfl) kd_Mo_readBlock_118 rfl (c1 := 0) (s1 := 0) rfl rfl (fun v w hp => ?_)
    obtain ⟨rfl, rfl, z3⟩ := hp
    refine zk_stk (r' := [.int (f_Mo_isWord h 7)]) rfl ?_
    refine zk_if_ne (tgt := 133) C kd_Mo_readBlock_121 (by decide) rfl (fun b4 => ?_) (fun b4 => ?_)
    · replace e := zd_neg b4 e
      refine zk_lvs (lv' := [(0, .ref (S.1 68)), (2, .int x2), (3, .int x3)]) [0, 1, 2] rfl ?_
      exact zb_Mo_readBlock_133 C hR hk106 h x2 x3 e
    · replace e := zd_pos b4 e
      refine zk_aload_n C kd_Mo_readBlock_124 rfl 0 rfl rfl ?_
      refine zk_bipush (v := 8) C kd_Mo_readBlock_125 (by decide) rfl ?_
      refine zs_callV (k := 68) (rn := { frames := 0, cells := 0, slots := 0, locals := 0 }) (As := [.int 8]) (rest := []) C (zc_Mo_isWord h 8) ku_Mo_isWord kw2125 kv_Mo_isWord rfl ⟨by decide, by decide⟩ ⟨by decide, by decide⟩ rfl rfl rfl (Nat.le_of_ble_eq_true rfl) kd_Mo_readBlock_127 rfl (c1 := 0) (s1 := 0) rfl rfl (fun v w hp => ?_)
      obtain ⟨rfl, rfl, z5⟩ := hp
      refine zk_stk (r' := [.int (f_Mo_isWord h 8)]) rfl ?_
      refine zk_if_eq (tgt := 195) C kd_Mo_readBlock_130 (by decide) rfl (fun b6 => ?_) (fun b6 => ?_)
      · replace e := zd_pos b6 e
        refine zk_aload_n C kd_Mo_readBlock_195 rfl 0 rfl rfl ?_
        refine zk_bipush (v := 37) C kd_Mo_readBlock_196 (by decide) rfl ?_
        refine zs_callV (k := 68) (rn := { frames := 0, cells := 0, slots := 0, locals := 0 }) (As := [.int 37]) (rest := []) C (zc_Mo_isWord h 37) ku_Mo_isWord kw2125 kv_Mo_isWord rfl ⟨by decide, by decide⟩ ⟨by decide, by decide⟩ rfl rfl rfl (Nat.le_of_ble_eq_true rfl) kd_Mo_readBlock_198 rfl (c1 := 0) (s1 := 0) rfl rfl (fun v w hp => ?_)
        obtain ⟨rfl, rfl, z7⟩ := hp
        refine zk_stk (r' := [.int (f_Mo_isWord h 37)]) rfl ?_
        refine zk_if_eq (tgt := 212) C kd_Mo_readBlock_201 (by decide) rfl (fun b8 => ?_) (fun b8 => ?_)
        · replace e := zd_pos b8 e
          refine zk_aload_n C kd_Mo_readBlock_212 rfl 0 rfl rfl ?_
          refine zk_aload_n C kd_Mo_readBlock_213 rfl 0 rfl rfl ?_
          refine zk_iload_n C kd_Mo_readBlock_214 rfl 2 rfl rfl ?_
          refine zk_bipush (v := 11) C kd_Mo_readBlock_215 (by decide) rfl ?_
          refine zk_iload C kd_Mo_readBlock_217 3 rfl rfl ?_
          refine zk_iconst (v := 0) C kd_Mo_readBlock_219 (by decide) rfl ?_
          obtain ⟨v10, h11, c9, e⟩ := zd_Be e
          refine zs_callV (k := 68) (rn := { frames := 1, cells := 0, slots := 0, locals := 24 }) (As := [.int x3, .int 11, .int x4, .int 0]) (rest := [.ref (S.1 68)]) C (zc_Mo_add h x3 11 x4 0 c9) ku_Mo_add kw2097 kv_Mo_add rfl ⟨by decide, by decide⟩ ⟨by decide, by decide⟩ rfl rfl rfl (Nat.le_of_ble_eq_true rfl) kd_Mo_readBlock_220 rfl (c1 := 0) (s1 := 0) rfl rfl (fun v w hp => ?_)
          obtain ⟨rfl, rfl⟩ := hp
          refine zk_stk (r' := [.int v10, .ref (S.1 68)]) rfl ?_
          obtain ⟨h13, c12, e⟩ := zd_b e
          refine zs_callV (k := 68) (rn := { frames := 805 + 400, cells := 0, slots := 0, locals := 19321 + 25 * 400 }) (As := [.int v10]) (rest := []) C (zc_Mo_statements h11 v10 c12) ku_Mo_statements kw2161 kv_Mo_statements rfl ⟨by decide, by decide⟩ ⟨by decide, by decide⟩ rfl rfl rfl (Nat.le_of_ble_eq_true rfl) kd_Mo_readBlock_223 rfl (c1 := 0) (s1 := 0) rfl rfl (fun v w hp => ?_)
          obtain ⟨rfl, rfl⟩ := hp
          refine zk_stk (r' := []) rfl ?_
          refine zk_lvs (lv' := [(0, .ref (S.1 68)), (2, .int x2)]) [0, 1] rfl ?_
          exact zb_Mo_readBlock_226 C hR h13 x2 e
        · replace e := zd_neg b8 e
          refine zk_aload_n C kd_Mo_readBlock_204 rfl 0 rfl rfl ?_
          refine zk_iload_n C kd_Mo_readBlock_205 rfl 2 rfl rfl ?_
          obtain ⟨h15, c14, e⟩ := zd_b e
          refine zs_callV (k := 68) (rn := { frames := 11, cells := 0, slots := 0, locals := 245 }) (As := [.int x3]) (rest := []) C (zc_Mo_ladder h x3 c14) ku_Mo_ladder kw2145 kv_Mo_ladder rfl ⟨by decide, by decide⟩ ⟨by decide, by decide⟩ rfl rfl rfl (Nat.le_of_ble_eq_true rfl) kd_Mo_readBlock_206 rfl (c1 := 0) (s1 := 0) rfl rfl (fun v w hp => ?_)
          obtain ⟨rfl, rfl⟩ := hp
          refine zk_stk (r' := []) rfl ?_
          refine zk_goto (tgt := 226) C kd_Mo_readBlock_209 (by decide) ?_
          refine zk_lvs (lv' := [(0, .ref (S.1 68)), (2, .int x2)]) [0, 1] rfl ?_
          exact zb_Mo_readBlock_226 C hR h15 x2 e
      · replace e := zd_neg b6 e
        refine zk_lvs (lv' := [(0, .ref (S.1 68)), (2, .int x2), (3, .int x3)]) [0, 1, 2] rfl ?_
        exact zb_Mo_readBlock_133 C hR hk106 h x2 x3 e
theorem zl_Mo_readBlock_106 {X : zkj_T} {S : zs_T} {P : ze_T} {l : Launch} {D : va_G} {sz0 : Nat} {rh : zs_H} (C : zk_C X km_Mo_readBlock (zs_G S l D sz0) { frames := 1206, cells := 0, slots := 0, locals := 29343 } (ze_E P)) (hR : zkj_R X (zd_PV S rh) (none)) (n : Nat) : ∀ (h : zs_H) (x2 : Int32) (x3 : Int32) (x4 : Int32), f_Mo_readBlock_L106 n h x2 x3 x4 = some rh → zk_Ab X (zs_W S h) 0 0 106 [(0, .ref (S.1 68)), (2, .int x2), (3, .int x3), (4, .int x4)] [] := by
  induction n with
  | zero => intro h x2 x3 x4 e; exact zd_no e
  | succ n ih => intro h x2 x3 x4 e; exact zb_Mo_readBlock_106 (k106 := f_Mo_readBlock_L106  n) C hR ih h x2 x3 x4 e
set_option maxHeartbeats 4000000 in
set_option maxRecDepth 100000 in
theorem zb_Mo_readBlock_56 {X : zkj_T} {S : zs_T} {P : ze_T} {l : Launch} {D : va_G} {sz0 : Nat} {rh : zs_H} (C : zk_C X km_Mo_readBlock (zs_G S l D sz0) { frames := 1206, cells := 0, slots := 0, locals := 29343 } (ze_E P)) (hR : zkj_R X (zd_PV S rh) (none)) (h : zs_H) (x2 : Int32) (y0 : Int32) (y1 : Int32) (e : f_Mo_readBlock_56 h x2 y0 y1 = some rh) : zk_Ab X (zs_W S h) 0 0 56 [(0, .ref (S.1 68)), (2, .int x2)] [.int y0, .int y1, .ref (S.1 68)] := by
  unfold f_Mo_readBlock_56 at e
  refine zk_aload_n C kd_Mo_readBlock_56 rfl 0 rfl rfl ?_
  refine zs_get (v := .int (h.1 68 7)) C 68 7 rfl rfl rfl rfl ki_Mo (by decide) kw1690 kd_Mo_readBlock_57 rfl ?_
  refine zk_iconst (v := 0) C kd_Mo_readBlock_60 (by decide) rfl ?_
  obtain ⟨v2, h3, c1, e⟩ := zd_Be e
  refine zs_callV (k := 68) (rn := { frames := 1, cells := 0, slots := 0, locals := 24 }) (As := [.int y1, .int y0, .int (h.1 68 7), .int 0]) (rest := []) C (zc_Mo_add h y1 y0 (h.1 68 7) 0 c1) ku_Mo_add kw2097 kv_Mo_add rfl ⟨by decide, by decide⟩ ⟨by decide, by decide⟩ rfl rfl rfl (Nat.le_of_ble_eq_true rfl) kd_Mo_readBlock_61 rfl (c1 := 0) (s1 := 0) rfl rfl (fun v w hp => ?_)
  obtain ⟨rfl, rfl⟩ := hp
  refine zk_stk (r' := [.int v2]) rfl ?_
  refine zk_istore_n (lv' := [(3, _), (0, _), (2, _)]) C kd_Mo_readBlock_64 rfl (by decide) rfl rfl ?_
  refine zk_aload_n C kd_Mo_readBlock_65 rfl 1 rfl rfl ?_
  obtain ⟨h5, c4, e⟩ := zd_b e
  refine zs_callV (k := 68) (rn := { frames := 6, cells := 0, slots := 0, locals := 129 }) (As := []) (rest := []) C (zc_Mo_next h3 c4) ku_Mo_next kw2001 kv_Mo_next rfl ⟨by decide, by decide⟩ ⟨by decide, by decide⟩ rfl rfl rfl (Nat.le_of_ble_eq_true rfl) kd_Mo_readBlock_66 rfl (c1 := 0) (s1 := 0) rfl rfl (fun v w hp => ?_)
  obtain ⟨rfl, rfl⟩ := hp
  refine zk_stk (r' := []) rfl ?_
  refine zk_aload_n C kd_Mo_readBlock_69 rfl 1 rfl rfl ?_
  refine zs_get (v := .int (h5.1 68 7)) C 68 7 rfl rfl rfl rfl ki_Mo (by decide) kw1690 kd_Mo_readBlock_70 rfl ?_
  refine zk_istore (lv' := [(4, _), (3, _), (0, _), (2, _)]) C kd_Mo_readBlock_73 (by decide) rfl rfl ?_
  refine zk_aload_n C kd_Mo_readBlock_75 rfl 2 rfl rfl ?_
  refine zs_get (v := .ref (S.1 74)) C 68 17 rfl rfl rfl rfl ki_Mo (by decide) kw1700 kd_Mo_readBlock_76 rfl ?_
  refine zk_iload_n C kd_Mo_readBlock_79 rfl 1 rfl rfl ?_
  refine zk_aload_n C kd_Mo_readBlock_80 rfl 2 rfl rfl ?_
  obtain ⟨v7, h8, c6, e⟩ := zd_Be e
  refine zs_callV (k := 68) (rn := { frames := 8, cells := 0, slots := 0, locals := 171 }) (As := []) (rest := [.int v2, .ref (S.1 74)]) C (zc_Mo_name h5 c6) ku_Mo_name kw2105 kv_Mo_name rfl ⟨by decide, by decide⟩ ⟨by decide, by decide⟩ rfl rfl rfl (Nat.le_of_ble_eq_true rfl) kd_Mo_readBlock_81 rfl (c1 := 0) (s1 := 0) rfl rfl (fun v w hp => ?_)
  obtain ⟨rfl, rfl⟩ := hp
  refine zk_stk (r' := [.int v7, .int v2, .ref (S.1 74)]) rfl ?_
  obtain ⟨q9, e⟩ := zd_g e
  refine zs_iast C 74 rfl (zd_vp q9) kd_Mo_readBlock_84 rfl ?_
  refine zk_iload_n C kd_Mo_readBlock_85 rfl 3 rfl rfl ?_
  refine zk_if_ne (tgt := 106) C kd_Mo_readBlock_86 (by decide) rfl (fun b10 => ?_) (fun b10 => ?_)
  · replace e := zd_neg b10 e
    refine zk_lvs (lv' := [(0, .ref (S.1 68)), (2, .int x2), (3, .int v2), (4, .int (h5.1 68 7))]) [2, 3, 1, 0] rfl ?_
    exact zl_Mo_readBlock_106 C hR zF (zs_uM h8 74 v2.toNatClampNeg v7) x2 v2 (h5.1 68 7) e
  · replace e := zd_pos b10 e
    refine zk_aload_n C kd_Mo_readBlock_89 rfl 2 rfl rfl ?_
    refine zk_bipush (v := 58) C kd_Mo_readBlock_90 (by decide) rfl ?_
    obtain ⟨h12, c11, e⟩ := zd_b e
    refine zs_callV (k := 68) (rn := { frames := 8, cells := 0, slots := 0, locals := 171 }) (As := [.int 58]) (rest := []) C (zc_Mo_wantSign (zs_uM h8 74 v2.toNatClampNeg v7) 58 c11) ku_Mo_wantSign kw2113 kv_Mo_wantSign rfl ⟨by decide, by decide⟩ ⟨by decide, by decide⟩ rfl rfl rfl (Nat.le_of_ble_eq_true rfl) kd_Mo_readBlock_92 rfl (c1 := 0) (s1 := 0) rfl rfl (fun v w hp => ?_)
    obtain ⟨rfl, rfl⟩ := hp
    refine zk_stk (r' := []) rfl ?_
    refine zk_aload_n C kd_Mo_readBlock_95 rfl 2 rfl rfl ?_
    refine zs_get (v := .int (h12.1 68 7)) C 68 7 rfl rfl rfl rfl ki_Mo (by decide) kw1690 kd_Mo_readBlock_96 rfl ?_
    refine zk_istore (lv' := [(4, _), (3, _), (0, _), (2, _)]) C kd_Mo_readBlock_99 (by decide) rfl rfl ?_
    refine zk_aload_n C kd_Mo_readBlock_101 rfl 2 rfl rfl ?_
    refine zk_iload_n C kd_Mo_readBlock_102 rfl 1 rfl rfl ?_
    obtain ⟨h14, c13, e⟩ := zd_b e
    refine zs_callV (k := 68) (rn := { frames := 8, cells := 0, slots := 0, locals := 171 }) (As := [.int v2]) (rest := []) C (zc_Mo_simple h12 v2 c13) ku_Mo_simple kw2121 kv_Mo_simple rfl ⟨by decide, by decide⟩ ⟨by decide, by decide⟩ rfl rfl rfl (Nat.le_of_ble_eq_true rfl) kd_Mo_readBlock_103 rfl (c1 := 0) (s1 := 0) rfl rfl (fun v w hp => ?_)
    obtain ⟨rfl, rfl⟩ := hp
    refine zk_stk (r' := []) rfl ?_
    refine zk_lvs (lv' := [(0, .ref (S.1 68)), (2, .int x2), (3, .int v2), (4, .int (h12.1 68 7))]) [2, 3, 1, 0] rfl ?_
    exact zl_Mo_readBlock_106 C hR zF h14 x2 v2 (h12.1 68 7) e
set_option maxHeartbeats 4000000 in
set_option maxRecDepth 100000 in
theorem zb_Mo_readBlock_36 {X : zkj_T} {S : zs_T} {P : ze_T} {l : Launch} {D : va_G} {sz0 : Nat} {rh : zs_H} (C : zk_C X km_Mo_readBlock (zs_G S l D sz0) { frames := 1206, cells := 0, slots := 0, locals := 29343 } (ze_E P)) (hR : zkj_R X (zd_PV S rh) (none)) (h : zs_H) (x1 : Int32) (x2 : Int32) (e : f_Mo_readBlock_36 h x1 x2 = some rh) : zk_Ab X (zs_W S h) 0 0 36 [(0, .ref (S.1 68)), (1, .int x1), (2, .int x2)] [] := by
  unfold f_Mo_readBlock_36 at e
  refine zk_aload_n C kd_Mo_readBlock_36 rfl 0 rfl rfl ?_
  refine zk_iload_n C kd_Mo_readBlock_37 rfl 1 rfl rfl ?_
  refine zk_iload_n C kd_Mo_readBlock_38 rfl 2 rfl rfl ?_
  refine zk_if_ne (tgt := 46) C kd_Mo_readBlock_39 (by decide) rfl (fun b1 => ?_) (fun b1 => ?_)
  · replace e := zd_neg b1 e
    refine zk_iload_n C kd_Mo_readBlock_46 rfl 2 rfl rfl ?_
    refine zk_iconst (v := 2) C kd_Mo_readBlock_47 (by decide) rfl ?_
    refine zk_icmp_ne (tgt := 55) C kd_Mo_readBlock_48 (by decide) rfl (fun b2 => ?_) (fun b2 => ?_)
    · replace e := zd_neg b2 e
      refine zk_iconst (v := 3) C kd_Mo_readBlock_55 (by decide) rfl ?_
      refine zk_lvs (lv' := [(0, .ref (S.1 68)), (2, .int x2)]) [0, 2] rfl ?_
      exact zb_Mo_readBlock_56 C hR h x2 3 x1 e
    · replace e := zd_pos b2 e
      refine zk_iconst (v := 2) C kd_Mo_readBlock_51 (by decide) rfl ?_
      refine zk_goto (tgt := 56) C kd_Mo_readBlock_52 (by decide) ?_
      refine zk_lvs (lv' := [(0, .ref (S.1 68)), (2, .int x2)]) [0, 2] rfl ?_
      exact zb_Mo_readBlock_56 C hR h x2 2 x1 e
  · replace e := zd_pos b1 e
    refine zk_iconst (v := 1) C kd_Mo_readBlock_42 (by decide) rfl ?_
    refine zk_goto (tgt := 56) C kd_Mo_readBlock_43 (by decide) ?_
    refine zk_lvs (lv' := [(0, .ref (S.1 68)), (2, .int x2)]) [0, 2] rfl ?_
    exact zb_Mo_readBlock_56 C hR h x2 1 x1 e
set_option maxHeartbeats 4000000 in
set_option maxRecDepth 100000 in
theorem zb_Mo_readBlock_16 {X : zkj_T} {S : zs_T} {P : ze_T} {l : Launch} {D : va_G} {sz0 : Nat} {rh : zs_H} (C : zk_C X km_Mo_readBlock (zs_G S l D sz0) { frames := 1206, cells := 0, slots := 0, locals := 29343 } (ze_E P)) (hR : zkj_R X (zd_PV S rh) (none)) (h : zs_H) (x1 : Int32) (y0 : Int32) (e : f_Mo_readBlock_16 h x1 y0 = some rh) : zk_Ab X (zs_W S h) 0 0 16 [(0, .ref (S.1 68)), (1, .int x1)] [.int y0] := by
  unfold f_Mo_readBlock_16 at e
  refine zk_istore_n (lv' := [(2, _), (0, _), (1, _)]) C kd_Mo_readBlock_16 rfl (by decide) rfl rfl ?_
  refine zk_iload_n C kd_Mo_readBlock_17 rfl 0 rfl rfl ?_
  refine zk_if_eq (tgt := 36) C kd_Mo_readBlock_18 (by decide) rfl (fun b1 => ?_) (fun b1 => ?_)
  · replace e := zd_pos b1 e
    refine zk_lvs (lv' := [(0, .ref (S.1 68)), (1, .int x1), (2, .int y0)]) [1, 2, 0] rfl ?_
    exact zb_Mo_readBlock_36 C hR h x1 y0 e
  · replace e := zd_neg b1 e
    refine zk_iload_n C kd_Mo_readBlock_21 rfl 0 rfl rfl ?_
    refine zk_iconst (v := 2) C kd_Mo_readBlock_22 (by decide) rfl ?_
    refine zk_icmp_eq (tgt := 36) C kd_Mo_readBlock_23 (by decide) rfl (fun b2 => ?_) (fun b2 => ?_)
    · replace e := zd_pos b2 e
      refine zk_lvs (lv' := [(0, .ref (S.1 68)), (1, .int x1), (2, .int y0)]) [1, 2, 0] rfl ?_
      exact zb_Mo_readBlock_36 C hR h x1 y0 e
    · replace e := zd_neg b2 e
      refine zk_iload_n C kd_Mo_readBlock_26 rfl 0 rfl rfl ?_
      refine zk_iconst (v := 4) C kd_Mo_readBlock_27 (by decide) rfl ?_
      refine zk_icmp_eq (tgt := 36) C kd_Mo_readBlock_28 (by decide) rfl (fun b3 => ?_) (fun b3 => ?_)
      · replace e := zd_pos b3 e
        refine zk_lvs (lv' := [(0, .ref (S.1 68)), (1, .int x1), (2, .int y0)]) [1, 2, 0] rfl ?_
        exact zb_Mo_readBlock_36 C hR h x1 y0 e
      · replace e := zd_neg b3 e
        refine zk_aload_n C kd_Mo_readBlock_31 rfl 1 rfl rfl ?_
        obtain ⟨h5, c4, e⟩ := zd_b e
        refine zs_callV (k := 68) (rn := { frames := 1, cells := 0, slots := 0, locals := 22 }) (As := []) (rest := []) C (zc_Mo_wrong h c4) ku_Mo_wrong kw2093 kv_Mo_wrong rfl ⟨by decide, by decide⟩ ⟨by decide, by decide⟩ rfl rfl rfl (Nat.le_of_ble_eq_true rfl) kd_Mo_readBlock_32 rfl (c1 := 0) (s1 := 0) rfl rfl (fun v w hp => ?_)
        obtain ⟨rfl, rfl⟩ := hp
        refine zk_stk (r' := []) rfl ?_
        exact zk_vret C hR kd_Mo_readBlock_35 rfl rfl (zd_rV e)
set_option maxHeartbeats 4000000 in
set_option maxRecDepth 100000 in
theorem zc_Mo_readBlock {l : Launch} {D : va_G} {sz0 : Nat} {S : zs_T} {P : ze_T} (h : zs_H) (x1 : Int32) {rh : zs_H} (e : f_Mo_readBlock h x1 = some rh) : zk_Sp (zs_G S l D sz0) (ze_E P) km_Mo_readBlock { frames := 1206, cells := 0, slots := 0, locals := 29343 } [.ref (S.1 68), .int x1] (zs_W S h) (zd_PV S rh) := by
  refine zk_met ku_Mo_readBlock (Nat.le_of_ble_eq_true rfl) (ze_Em P) ?_
  intro X C hR
  refine zk_lvs (lv' := [(0, .ref (S.1 68)), (1, .int x1)]) [0, 1] rfl ?_
  unfold f_Mo_readBlock at e
  refine zk_aload_n C kd_Mo_readBlock_0 rfl 0 rfl rfl ?_
  refine zs_get (v := .int (h.1 68 6)) C 68 6 rfl rfl rfl rfl ki_Mo (by decide) kw1689 kd_Mo_readBlock_1 rfl ?_
  refine zk_iconst (v := 2) C kd_Mo_readBlock_4 (by decide) rfl ?_
  refine zk_icmp_ne (tgt := 15) C kd_Mo_readBlock_5 (by decide) rfl (fun b1 => ?_) (fun b1 => ?_)
  · replace e := zd_neg b1 e
    refine zk_iconst (v := (-1)) C kd_Mo_readBlock_15 (by decide) rfl ?_
    refine zk_lvs (lv' := [(0, .ref (S.1 68)), (1, .int x1)]) [0, 1] rfl ?_
    exact zb_Mo_readBlock_16 C hR h x1 (-1) e
  · replace e := zd_pos b1 e
    refine zk_aload_n C kd_Mo_readBlock_8 rfl 0 rfl rfl ?_
    refine zs_get (v := .int (h.1 68 9)) C 68 9 rfl rfl rfl rfl ki_Mo (by decide) kw1692 kd_Mo_readBlock_9 rfl ?_
    refine zk_goto (tgt := 16) C kd_Mo_readBlock_12 (by decide) ?_
    refine zk_lvs (lv' := [(0, .ref (S.1 68)), (1, .int x1)]) [0, 1] rfl ?_
    exact zb_Mo_readBlock_16 C hR h x1 (h.1 68 9) e
set_option maxHeartbeats 4000000 in
set_option maxRecDepth 100000 in
theorem zb_Mo_number_81 {X : zkj_T} {S : zs_T} {P : ze_T} {l : Launch} {D : va_G} {sz0 : Nat} {rh : zs_H} (C : zk_C X km_Mo_number (zs_G S l D sz0) { frames := 0, cells := 0, slots := 0, locals := 0 } (ze_E P)) (hR : zkj_R X (zd_PV S rh) (none)) {k4 : zs_H → Int32 → Int32 → (Option zs_H)} (hk4 : ∀ (h : zs_H) (x1 : Int32) (x2 : Int32), k4 h x1 x2 = some rh → zk_Ab X (zs_W S h) 0 0 4 [(0, .ref (S.1 68)), (1, .int x1), (2, .int x2)] []) (h : zs_H) (x1 : Int32) (y0 : Int32) (e : f_Mo_number_81 k4 h x1 y0 = some rh) : zk_Ab X (zs_W S h) 0 0 81 [(0, .ref (S.1 68)), (1, .int x1)] [.int y0] := by
  unfold f_Mo_number_81 at e
  refine zk_istore_n (lv' := [(2, _), (0, _), (1, _)]) C kd_Mo_number_81 rfl (by decide) rfl rfl ?_
  refine zk_goto (tgt := 4) C kd_Mo_number_82 (by decide) ?_
  refine zk_lvs (lv' := [(0, .ref (S.1 68)), (1, .int x1), (2, .int y0)]) [1, 2, 0] rfl ?_
  exact hk4 h x1 y0 e
set_option maxHeartbeats 4000000 in
set_option maxRecDepth 100000 in
theorem zb_Mo_number_67 {X : zkj_T} {S : zs_T} {P : ze_T} {l : Launch} {D : va_G} {sz0 : Nat} {rh : zs_H} (C : zk_C X km_Mo_number (zs_G S l D sz0) { frames := 0, cells := 0, slots := 0, locals := 0 } (ze_E P)) (hR : zkj_R X (zd_PV S rh) (none)) {k4 : zs_H → Int32 → Int32 → (Option zs_H)} (hk4 : ∀ (h : zs_H) (x1 : Int32) (x2 : Int32), k4 h x1 x2 = some rh → zk_Ab X (zs_W S h) 0 0 4 [(0, .ref (S.1 68)), (1, .int x1), (2, .int x2)] []) (h : zs_H) (x1 : Int32) (x2 : Int32) (e : f_Mo_number_67 k4 h x1 x2 = some rh) : zk_Ab X (zs_W S h) 0 0 67 [(0, .ref (S.1 68)), (1, .int x1), (2, .int x2)] [] := by
  unfold f_Mo_number_67 at e
  refine zk_iload_n C kd_Mo_number_67 rfl 2 rfl rfl ?_
  refine zk_if_ge (tgt := 75) C kd_Mo_number_68 (by decide) rfl (fun b1 => ?_) (fun b1 => ?_)
  · replace e := zd_pos b1 e
    refine zk_aload_n C kd_Mo_number_75 rfl 0 rfl rfl ?_
    refine zs_get (v := .ref (S.1 78)) C 68 21 rfl rfl rfl rfl ki_Mo (by decide) kw1704 kd_Mo_number_76 rfl ?_
    refine zk_iload_n C kd_Mo_number_79 rfl 2 rfl rfl ?_
    obtain ⟨q2, e⟩ := zd_g e
    refine zs_iald C 78 rfl (zd_vp q2) kd_Mo_number_80 rfl ?_
    refine zk_lvs (lv' := [(0, .ref (S.1 68)), (1, .int x1)]) [0, 1] rfl ?_
    exact zb_Mo_number_81 C hR hk4 h x1 (h.2.1 78 x2.toNatClampNeg) e
  · replace e := zd_neg b1 e
    refine zk_iconst (v := (-1)) C kd_Mo_number_71 (by decide) rfl ?_
    refine zk_goto (tgt := 81) C kd_Mo_number_72 (by decide) ?_
    refine zk_lvs (lv' := [(0, .ref (S.1 68)), (1, .int x1)]) [0, 1] rfl ?_
    exact zb_Mo_number_81 C hR hk4 h x1 (-1) e
set_option maxHeartbeats 4000000 in
set_option maxRecDepth 100000 in
theorem zb_Mo_number_44 {X : zkj_T} {S : zs_T} {P : ze_T} {l : Launch} {D : va_G} {sz0 : Nat} {rh : zs_H} (C : zk_C X km_Mo_number (zs_G S l D sz0) { frames := 0, cells := 0, slots := 0, locals := 0 } (ze_E P)) (hR : zkj_R X (zd_PV S rh) (none)) {k4 : zs_H → Int32 → Int32 → (Option zs_H)} (hk4 : ∀ (h : zs_H) (x1 : Int32) (x2 : Int32), k4 h x1 x2 = some rh → zk_Ab X (zs_W S h) 0 0 4 [(0, .ref (S.1 68)), (1, .int x1), (2, .int x2)] []) {k44 : zs_H → Int32 → Int32 → (Option zs_H)} (hk44 : ∀ (h : zs_H) (x1 : Int32) (x2 : Int32), k44 h x1 x2 = some rh → zk_Ab X (zs_W S h) 0 0 44 [(0, .ref (S.1 68)), (1, .int x1), (2, .int x2)] []) (h : zs_H) (x1 : Int32) (x2 : Int32) (e : f_Mo_number_44 k4 k44 h x1 x2 = some rh) : zk_Ab X (zs_W S h) 0 0 44 [(0, .ref (S.1 68)), (1, .int x1), (2, .int x2)] [] := by
  unfold f_Mo_number_44 at e
  refine zk_iload_n C kd_Mo_number_44 rfl 2 rfl rfl ?_
  refine zk_if_lt (tgt := 67) C kd_Mo_number_45 (by decide) rfl (fun b1 => ?_) (fun b1 => ?_)
  · replace e := zd_pos b1 e
    refine zk_lvs (lv' := [(0, .ref (S.1 68)), (1, .int x1), (2, .int x2)]) [0, 1, 2] rfl ?_
    exact zb_Mo_number_67 C hR hk4 h x1 x2 e
  · replace e := zd_neg b1 e
    refine zk_aload_n C kd_Mo_number_48 rfl 0 rfl rfl ?_
    refine zs_get (v := .ref (S.1 78)) C 68 21 rfl rfl rfl rfl ki_Mo (by decide) kw1704 kd_Mo_number_49 rfl ?_
    refine zk_iload_n C kd_Mo_number_52 rfl 2 rfl rfl ?_
    obtain ⟨q2, e⟩ := zd_g e
    refine zs_iald C 78 rfl (zd_vp q2) kd_Mo_number_53 rfl ?_
    refine zk_if_ge (tgt := 67) C kd_Mo_number_54 (by decide) rfl (fun b3 => ?_) (fun b3 => ?_)
    · replace e := zd_pos b3 e
      refine zk_lvs (lv' := [(0, .ref (S.1 68)), (1, .int x1), (2, .int x2)]) [0, 1, 2] rfl ?_
      exact zb_Mo_number_67 C hR hk4 h x1 x2 e
    · replace e := zd_neg b3 e
      refine zk_aload_n C kd_Mo_number_57 rfl 0 rfl rfl ?_
      refine zs_get (v := .ref (S.1 75)) C 68 18 rfl rfl rfl rfl ki_Mo (by decide) kw1701 kd_Mo_number_58 rfl ?_
      refine zk_iload_n C kd_Mo_number_61 rfl 2 rfl rfl ?_
      refine zs_iald C 75 rfl (zd_vp q2) kd_Mo_number_62 rfl ?_
      refine zk_istore_n (lv' := [(2, _), (0, _), (1, _)]) C kd_Mo_number_63 rfl (by decide) rfl rfl ?_
      refine zk_goto (tgt := 44) C kd_Mo_number_64 (by decide) ?_
      refine zk_lvs (lv' := [(0, .ref (S.1 68)), (1, .int x1), (2, .int (h.2.1 75 x2.toNatClampNeg))]) [1, 2, 0] rfl ?_
      exact hk44 h x1 (h.2.1 75 x2.toNatClampNeg) e
theorem zl_Mo_number_44 {X : zkj_T} {S : zs_T} {P : ze_T} {l : Launch} {D : va_G} {sz0 : Nat} {rh : zs_H} (C : zk_C X km_Mo_number (zs_G S l D sz0) { frames := 0, cells := 0, slots := 0, locals := 0 } (ze_E P)) (hR : zkj_R X (zd_PV S rh) (none)) {k4 : zs_H → Int32 → Int32 → (Option zs_H)} (hk4 : ∀ (h : zs_H) (x1 : Int32) (x2 : Int32), k4 h x1 x2 = some rh → zk_Ab X (zs_W S h) 0 0 4 [(0, .ref (S.1 68)), (1, .int x1), (2, .int x2)] []) (n : Nat) : ∀ (h : zs_H) (x1 : Int32) (x2 : Int32), f_Mo_number_L44 k4 n h x1 x2 = some rh → zk_Ab X (zs_W S h) 0 0 44 [(0, .ref (S.1 68)), (1, .int x1), (2, .int x2)] [] := by
  induction n with
  | zero => intro h x1 x2 e; exact zd_no e
  | succ n ih => intro h x1 x2 e; exact zb_Mo_number_44 (k44 := f_Mo_number_L44 k4 n) C hR hk4 ih h x1 x2 e
set_option maxHeartbeats 4000000 in
set_option maxRecDepth 100000 in
theorem zb_Mo_number_4 {X : zkj_T} {S : zs_T} {P : ze_T} {l : Launch} {D : va_G} {sz0 : Nat} {rh : zs_H} (C : zk_C X km_Mo_number (zs_G S l D sz0) { frames := 0, cells := 0, slots := 0, locals := 0 } (ze_E P)) (hR : zkj_R X (zd_PV S rh) (none)) {k4 : zs_H → Int32 → Int32 → (Option zs_H)} (hk4 : ∀ (h : zs_H) (x1 : Int32) (x2 : Int32), k4 h x1 x2 = some rh → zk_Ab X (zs_W S h) 0 0 4 [(0, .ref (S.1 68)), (1, .int x1), (2, .int x2)] []) (h : zs_H) (x1 : Int32) (x2 : Int32) (e : f_Mo_number_4 k4 h x1 x2 = some rh) : zk_Ab X (zs_W S h) 0 0 4 [(0, .ref (S.1 68)), (1, .int x1), (2, .int x2)] [] := by
  unfold f_Mo_number_4 at e
  refine zk_iload_n C kd_Mo_number_4 rfl 2 rfl rfl ?_
  refine zk_if_lt (tgt := 85) C kd_Mo_number_5 (by decide) rfl (fun b1 => ?_) (fun b1 => ?_)
  · replace e := zd_pos b1 e
    exact zk_vret C hR kd_Mo_number_85 rfl rfl (zd_rV e)
  · replace e := zd_neg b1 e
    refine zk_aload_n C kd_Mo_number_8 rfl 0 rfl rfl ?_
    refine zs_get (v := .ref (S.1 79)) C 68 23 rfl rfl rfl rfl ki_Mo (by decide) kw1706 kd_Mo_number_9 rfl ?_
    refine zk_iload_n C kd_Mo_number_12 rfl 1 rfl rfl ?_
    refine zk_iload_n C kd_Mo_number_13 rfl 2 rfl rfl ?_
    obtain ⟨q2, e⟩ := zd_g e
    refine zs_iast C 79 rfl (zd_vp q2) kd_Mo_number_14 rfl ?_
    refine zk_aload_n C kd_Mo_number_15 rfl 0 rfl rfl ?_
    refine zs_get (v := .ref (S.1 80)) C 68 24 rfl rfl rfl rfl ki_Mo (by decide) kw1707 kd_Mo_number_16 rfl ?_
    refine zk_iload_n C kd_Mo_number_19 rfl 2 rfl rfl ?_
    refine zk_iload_n C kd_Mo_number_20 rfl 1 rfl rfl ?_
    obtain ⟨q3, e⟩ := zd_g e
    refine zs_iast C 80 rfl (zd_vp q3) kd_Mo_number_21 rfl ?_
    refine zk_iinc (v := (x1 + 1)) (lv' := [(1, _), (0, _), (2, _)]) C kd_Mo_number_22 1 rfl rfl (by decide) rfl rfl ?_
    refine zk_aload_n C kd_Mo_number_25 rfl 1 rfl rfl ?_
    refine zs_get (v := .ref (S.1 76)) C 68 19 rfl rfl rfl rfl ki_Mo (by decide) kw1702 kd_Mo_number_26 rfl ?_
    refine zk_iload_n C kd_Mo_number_29 rfl 2 rfl rfl ?_
    refine zs_iald C 76 rfl (zd_vp q3) kd_Mo_number_30 rfl ?_
    refine zk_stk (r' := [.int (h.2.1 76 x2.toNatClampNeg)]) rfl ?_
    refine zk_if_lt (tgt := 44) C kd_Mo_number_31 (by decide) rfl (fun b4 => ?_) (fun b4 => ?_)
    · replace e := zd_pos b4 e
      refine zk_lvs (lv' := [(0, .ref (S.1 68)), (1, .int (x1 + 1)), (2, .int x2)]) [1, 0, 2] rfl ?_
      exact zl_Mo_number_44 C hR hk4 zF (zs_uM (zs_uM h 79 x1.toNatClampNeg x2) 80 x2.toNatClampNeg x1) (x1 + 1) x2 e
    · replace e := zd_neg b4 e
      refine zk_aload_n C kd_Mo_number_34 rfl 1 rfl rfl ?_
      refine zs_get (v := .ref (S.1 76)) C 68 19 rfl rfl rfl rfl ki_Mo (by decide) kw1702 kd_Mo_number_35 rfl ?_
      refine zk_iload_n C kd_Mo_number_38 rfl 2 rfl rfl ?_
      refine zs_iald C 76 rfl (zd_vp q3) kd_Mo_number_39 rfl ?_
      refine zk_stk (r' := [.int (h.2.1 76 x2.toNatClampNeg)]) rfl ?_
      refine zk_istore_n (lv' := [(2, _), (1, _), (0, _)]) C kd_Mo_number_40 rfl (by decide) rfl rfl ?_
      refine zk_goto (tgt := 4) C kd_Mo_number_41 (by decide) ?_
      refine zk_lvs (lv' := [(0, .ref (S.1 68)), (1, .int (x1 + 1)), (2, .int (h.2.1 76 x2.toNatClampNeg))]) [2, 1, 0] rfl ?_
      exact hk4 (zs_uM (zs_uM h 79 x1.toNatClampNeg x2) 80 x2.toNatClampNeg x1) (x1 + 1) (h.2.1 76 x2.toNatClampNeg) e
theorem zl_Mo_number_4 {X : zkj_T} {S : zs_T} {P : ze_T} {l : Launch} {D : va_G} {sz0 : Nat} {rh : zs_H} (C : zk_C X km_Mo_number (zs_G S l D sz0) { frames := 0, cells := 0, slots := 0, locals := 0 } (ze_E P)) (hR : zkj_R X (zd_PV S rh) (none)) (n : Nat) : ∀ (h : zs_H) (x1 : Int32) (x2 : Int32), f_Mo_number_L4 n h x1 x2 = some rh → zk_Ab X (zs_W S h) 0 0 4 [(0, .ref (S.1 68)), (1, .int x1), (2, .int x2)] [] := by
  induction n with
  | zero => intro h x1 x2 e; exact zd_no e
  | succ n ih => intro h x1 x2 e; exact zb_Mo_number_4 (k4 := f_Mo_number_L4  n) C hR ih h x1 x2 e
set_option maxHeartbeats 4000000 in
set_option maxRecDepth 100000 in
theorem zc_Mo_number {l : Launch} {D : va_G} {sz0 : Nat} {S : zs_T} {P : ze_T} (h : zs_H) {rh : zs_H} (e : f_Mo_number h = some rh) : zk_Sp (zs_G S l D sz0) (ze_E P) km_Mo_number { frames := 0, cells := 0, slots := 0, locals := 0 } [.ref (S.1 68)] (zs_W S h) (zd_PV S rh) := by
  refine zk_met ku_Mo_number (Nat.le_of_ble_eq_true rfl) (ze_Em P) ?_
  intro X C hR
  refine zk_lvs (lv' := [(0, .ref (S.1 68))]) [0] rfl ?_
  unfold f_Mo_number at e
  refine zk_iconst (v := 0) C kd_Mo_number_0 (by decide) rfl ?_
  refine zk_istore_n (lv' := [(1, _), (0, _)]) C kd_Mo_number_1 rfl (by decide) rfl rfl ?_
  refine zk_iconst (v := 0) C kd_Mo_number_2 (by decide) rfl ?_
  refine zk_istore_n (lv' := [(2, _), (1, _), (0, _)]) C kd_Mo_number_3 rfl (by decide) rfl rfl ?_
  refine zk_lvs (lv' := [(0, .ref (S.1 68)), (1, .int 0), (2, .int 0)]) [2, 1, 0] rfl ?_
  exact zl_Mo_number_4 C hR zF h 0 0 e
set_option maxHeartbeats 4000000 in
set_option maxRecDepth 100000 in
theorem zb_Mo_readText_119 {X : zkj_T} {S : zs_T} {P : ze_T} {l : Launch} {D : va_G} {sz0 : Nat} {rv : Int32} {rh : zs_H} (C : zk_C X km_Mo_readText (zs_G S l D sz0) { frames := 1207, cells := 0, slots := 0, locals := 29368 } (ze_E P)) (hR : zkj_R X (zd_PI S rv rh) (some .int)) (h : zs_H) (e : f_Mo_readText_119 h = some (rv, rh)) : zk_Ab X (zs_W S h) 0 0 119 [(0, .ref (S.1 68))] [] := by
  unfold f_Mo_readText_119 at e
  refine zk_aload_n C kd_Mo_readText_119 rfl 0 rfl rfl ?_
  refine zs_get (v := .int (h.1 68 10)) C 68 10 rfl rfl rfl rfl ki_Mo (by decide) kw1693 kd_Mo_readText_120 rfl ?_
  exact zk_iret C hR kd_Mo_readText_123 rfl rfl (zd_rIS e)
set_option maxHeartbeats 4000000 in
set_option maxRecDepth 100000 in
theorem zb_Mo_readText_92 {X : zkj_T} {S : zs_T} {P : ze_T} {l : Launch} {D : va_G} {sz0 : Nat} {rv : Int32} {rh : zs_H} (C : zk_C X km_Mo_readText (zs_G S l D sz0) { frames := 1207, cells := 0, slots := 0, locals := 29368 } (ze_E P)) (hR : zkj_R X (zd_PI S rv rh) (some .int)) (h : zs_H) (y0 : Int32) (e : f_Mo_readText_92 h y0 = some (rv, rh)) : zk_Ab X (zs_W S h) 0 0 92 [(0, .ref (S.1 68))] [.int y0, .ref (S.1 68)] := by
  unfold f_Mo_readText_92 at e
  obtain ⟨q1, e⟩ := zd_g e
  refine zs_put (ty := .boolean) C 68 22 y0 rfl rfl rfl rfl ki_Mo ky_Mo ko_Mo kn_Mo (by decide) kw1705 rfl rfl (zd_nb q1) (zd_fb q1) (by decide) kd_Mo_readText_92 rfl ?_
  refine zk_aload_n C kd_Mo_readText_95 rfl 0 rfl rfl ?_
  refine zs_get (v := .int y0) C 68 22 rfl rfl rfl rfl ki_Mo (by decide) kw1705 kd_Mo_readText_96 rfl ?_
  refine zk_if_eq (tgt := 109) C kd_Mo_readText_99 (by decide) rfl (fun b2 => ?_) (fun b2 => ?_)
  · replace e := zd_pos b2 e
    refine zk_aload_n C kd_Mo_readText_109 rfl 0 rfl rfl ?_
    refine zk_iconst (v := 0) C kd_Mo_readText_110 (by decide) rfl ?_
    refine zs_put (ty := .int) C 68 14 0 rfl rfl rfl rfl ki_Mo ky_Mo ko_Mo kn_Mo (by decide) kw1697 rfl rfl rfl rfl (by decide) kd_Mo_readText_111 rfl ?_
    refine zk_aload_n C kd_Mo_readText_114 rfl 0 rfl rfl ?_
    refine zk_iconst (v := 0) C kd_Mo_readText_115 (by decide) rfl ?_
    refine zs_put (ty := .int) C 68 3 0 rfl rfl rfl rfl ki_Mo ky_Mo ko_Mo kn_Mo (by decide) kw1686 rfl rfl rfl rfl (by decide) kd_Mo_readText_116 rfl ?_
    refine zk_lvs (lv' := [(0, .ref (S.1 68))]) [0] rfl ?_
    exact zb_Mo_readText_119 C hR (zs_uF (zs_uF (zs_uF h 68 22 y0) 68 14 0) 68 3 0) e
  · replace e := zd_neg b2 e
    refine zk_aload_n C kd_Mo_readText_102 rfl 0 rfl rfl ?_
    obtain ⟨h4, c3, e⟩ := zd_b e
    refine zs_callV (k := 68) (rn := { frames := 0, cells := 0, slots := 0, locals := 0 }) (As := []) (rest := []) C (zc_Mo_number (zs_uF h 68 22 y0) c3) ku_Mo_number kw2244 kv_Mo_number rfl ⟨by decide, by decide⟩ ⟨by decide, by decide⟩ rfl rfl rfl (Nat.le_of_ble_eq_true rfl) kd_Mo_readText_103 rfl (c1 := 0) (s1 := 0) rfl rfl (fun v w hp => ?_)
    obtain ⟨rfl, rfl⟩ := hp
    refine zk_stk (r' := []) rfl ?_
    refine zk_goto (tgt := 119) C kd_Mo_readText_106 (by decide) ?_
    refine zk_lvs (lv' := [(0, .ref (S.1 68))]) [0] rfl ?_
    exact zb_Mo_readText_119 C hR h4 e
set_option maxHeartbeats 4000000 in
set_option maxRecDepth 100000 in
theorem zb_Mo_readText_79 {X : zkj_T} {S : zs_T} {P : ze_T} {l : Launch} {D : va_G} {sz0 : Nat} {rv : Int32} {rh : zs_H} (C : zk_C X km_Mo_readText (zs_G S l D sz0) { frames := 1207, cells := 0, slots := 0, locals := 29368 } (ze_E P)) (hR : zkj_R X (zd_PI S rv rh) (some .int)) (h : zs_H) (e : f_Mo_readText_79 h = some (rv, rh)) : zk_Ab X (zs_W S h) 0 0 79 [(0, .ref (S.1 68))] [] := by
  unfold f_Mo_readText_79 at e
  refine zk_aload_n C kd_Mo_readText_79 rfl 0 rfl rfl ?_
  refine zk_aload_n C kd_Mo_readText_80 rfl 0 rfl rfl ?_
  refine zs_get (v := .int (h.1 68 10)) C 68 10 rfl rfl rfl rfl ki_Mo (by decide) kw1693 kd_Mo_readText_81 rfl ?_
  refine zk_if_ne (tgt := 91) C kd_Mo_readText_84 (by decide) rfl (fun b1 => ?_) (fun b1 => ?_)
  · replace e := zd_neg b1 e
    refine zk_iconst (v := 0) C kd_Mo_readText_91 (by decide) rfl ?_
    refine zk_lvs (lv' := [(0, .ref (S.1 68))]) [0] rfl ?_
    exact zb_Mo_readText_92 C hR h 0 e
  · replace e := zd_pos b1 e
    refine zk_iconst (v := 1) C kd_Mo_readText_87 (by decide) rfl ?_
    refine zk_goto (tgt := 92) C kd_Mo_readText_88 (by decide) ?_
    refine zk_lvs (lv' := [(0, .ref (S.1 68))]) [0] rfl ?_
    exact zb_Mo_readText_92 C hR h 1 e
set_option maxHeartbeats 4000000 in
set_option maxRecDepth 100000 in
theorem zb_Mo_readText_57 {X : zkj_T} {S : zs_T} {P : ze_T} {l : Launch} {D : va_G} {sz0 : Nat} {rv : Int32} {rh : zs_H} (C : zk_C X km_Mo_readText (zs_G S l D sz0) { frames := 1207, cells := 0, slots := 0, locals := 29368 } (ze_E P)) (hR : zkj_R X (zd_PI S rv rh) (some .int)) {k57 : zs_H → Int32 → (Option (Int32 × zs_H))} (hk57 : ∀ (h : zs_H) (x1 : Int32), k57 h x1 = some (rv, rh) → zk_Ab X (zs_W S h) 0 0 57 [(0, .ref (S.1 68)), (1, .int x1)] []) (h : zs_H) (x1 : Int32) (e : f_Mo_readText_57 k57 h x1 = some (rv, rh)) : zk_Ab X (zs_W S h) 0 0 57 [(0, .ref (S.1 68)), (1, .int x1)] [] := by
  unfold f_Mo_readText_57 at e
  refine zk_aload_n C kd_Mo_readText_57 rfl 0 rfl rfl ?_
  refine zs_get (v := .int (h.1 68 10)) C 68 10 rfl rfl rfl rfl ki_Mo (by decide) kw1693 kd_Mo_readText_58 rfl ?_
  refine zk_if_ne (tgt := 79) C kd_Mo_readText_61 (by decide) rfl (fun b1 => ?_) (fun b1 => ?_)
  · replace e := zd_neg b1 e
    refine zk_lvs (lv' := [(0, .ref (S.1 68))]) [0] rfl ?_
    exact zb_Mo_readText_79 C hR h e
  · replace e := zd_pos b1 e
    refine zk_aload_n C kd_Mo_readText_64 rfl 0 rfl rfl ?_
    refine zs_get (v := .int (h.1 68 6)) C 68 6 rfl rfl rfl rfl ki_Mo (by decide) kw1689 kd_Mo_readText_65 rfl ?_
    refine zk_if_eq (tgt := 79) C kd_Mo_readText_68 (by decide) rfl (fun b2 => ?_) (fun b2 => ?_)
    · replace e := zd_pos b2 e
      refine zk_lvs (lv' := [(0, .ref (S.1 68))]) [0] rfl ?_
      exact zb_Mo_readText_79 C hR h e
    · replace e := zd_neg b2 e
      refine zk_aload_n C kd_Mo_readText_71 rfl 0 rfl rfl ?_
      refine zk_iload_n C kd_Mo_readText_72 rfl 1 rfl rfl ?_
      obtain ⟨h4, c3, e⟩ := zd_b e
      refine zs_callV (k := 68) (rn := { frames := 1206, cells := 0, slots := 0, locals := 29343 }) (As := [.int x1]) (rest := []) C (zc_Mo_readBlock h x1 c3) ku_Mo_readBlock kw2089 kv_Mo_readBlock rfl ⟨by decide, by decide⟩ ⟨by decide, by decide⟩ rfl rfl rfl (Nat.le_of_ble_eq_true rfl) kd_Mo_readText_73 rfl (c1 := 0) (s1 := 0) rfl rfl (fun v w hp => ?_)
      obtain ⟨rfl, rfl⟩ := hp
      refine zk_stk (r' := []) rfl ?_
      refine zk_goto (tgt := 57) C kd_Mo_readText_76 (by decide) ?_
      refine zk_lvs (lv' := [(0, .ref (S.1 68)), (1, .int x1)]) [0, 1] rfl ?_
      exact hk57 h4 x1 e
theorem zl_Mo_readText_57 {X : zkj_T} {S : zs_T} {P : ze_T} {l : Launch} {D : va_G} {sz0 : Nat} {rv : Int32} {rh : zs_H} (C : zk_C X km_Mo_readText (zs_G S l D sz0) { frames := 1207, cells := 0, slots := 0, locals := 29368 } (ze_E P)) (hR : zkj_R X (zd_PI S rv rh) (some .int)) (n : Nat) : ∀ (h : zs_H) (x1 : Int32), f_Mo_readText_L57 n h x1 = some (rv, rh) → zk_Ab X (zs_W S h) 0 0 57 [(0, .ref (S.1 68)), (1, .int x1)] [] := by
  induction n with
  | zero => intro h x1 e; exact zd_no e
  | succ n ih => intro h x1 e; exact zb_Mo_readText_57 (k57 := f_Mo_readText_L57  n) C hR ih h x1 e
set_option maxHeartbeats 4000000 in
set_option maxRecDepth 100000 in
theorem zc_Mo_readText {l : Launch} {D : va_G} {sz0 : Nat} {S : zs_T} {P : ze_T} (h : zs_H) {rv : Int32} {rh : zs_H} (e : f_Mo_readText h = some (rv, rh)) : zk_Sp (zs_G S l D sz0) (ze_E P) km_Mo_readText { frames := 1207, cells := 0, slots := 0, locals := 29368 } [.ref (S.1 68)] (zs_W S h) (zd_PI S rv rh) := by
  refine zk_met ku_Mo_readText (Nat.le_of_ble_eq_true rfl) (ze_Em P) ?_
  intro X C hR
  refine zk_lvs (lv' := [(0, .ref (S.1 68))]) [0] rfl ?_
  unfold f_Mo_readText at e
  refine zk_aload_n C kd_Mo_readText_0 rfl 0 rfl rfl ?_
  refine zk_iconst (v := 0) C kd_Mo_readText_1 (by decide) rfl ?_
  refine zs_put (ty := .int) C 68 10 0 rfl rfl rfl rfl ki_Mo ky_Mo ko_Mo kn_Mo (by decide) kw1693 rfl rfl rfl rfl (by decide) kd_Mo_readText_2 rfl ?_
  refine zk_aload_n C kd_Mo_readText_5 rfl 0 rfl rfl ?_
  refine zk_iconst (v := (-1)) C kd_Mo_readText_6 (by decide) rfl ?_
  refine zs_put (ty := .int) C 68 11 (-1) rfl rfl rfl rfl ki_Mo ky_Mo ko_Mo kn_Mo (by decide) kw1694 rfl rfl rfl rfl (by decide) kd_Mo_readText_7 rfl ?_
  refine zk_aload_n C kd_Mo_readText_10 rfl 0 rfl rfl ?_
  refine zk_iconst (v := 0) C kd_Mo_readText_11 (by decide) rfl ?_
  refine zs_put (ty := .int) C 68 14 0 rfl rfl rfl rfl ki_Mo ky_Mo ko_Mo kn_Mo (by decide) kw1697 rfl rfl rfl rfl (by decide) kd_Mo_readText_12 rfl ?_
  refine zk_aload_n C kd_Mo_readText_15 rfl 0 rfl rfl ?_
  refine zk_iconst (v := 0) C kd_Mo_readText_16 (by decide) rfl ?_
  refine zs_put (ty := .int) C 68 3 0 rfl rfl rfl rfl ki_Mo ky_Mo ko_Mo kn_Mo (by decide) kw1686 rfl rfl rfl rfl (by decide) kd_Mo_readText_17 rfl ?_
  refine zk_aload_n C kd_Mo_readText_20 rfl 0 rfl rfl ?_
  refine zk_iconst (v := 0) C kd_Mo_readText_21 (by decide) rfl ?_
  refine zs_put (ty := .int) C 68 25 0 rfl rfl rfl rfl ki_Mo ky_Mo ko_Mo kn_Mo (by decide) kw1708 rfl rfl rfl rfl (by decide) kd_Mo_readText_22 rfl ?_
  refine zk_aload_n C kd_Mo_readText_25 rfl 0 rfl rfl ?_
  refine zk_iconst (v := 0) C kd_Mo_readText_26 (by decide) rfl ?_
  refine zs_put (ty := .int) C 68 13 0 rfl rfl rfl rfl ki_Mo ky_Mo ko_Mo kn_Mo (by decide) kw1696 rfl rfl rfl rfl (by decide) kd_Mo_readText_27 rfl ?_
  refine zk_aload_n C kd_Mo_readText_30 rfl 0 rfl rfl ?_
  refine zk_iconst (v := 0) C kd_Mo_readText_31 (by decide) rfl ?_
  refine zs_put (ty := .int) C 68 12 0 rfl rfl rfl rfl ki_Mo ky_Mo ko_Mo kn_Mo (by decide) kw1695 rfl rfl rfl rfl (by decide) kd_Mo_readText_32 rfl ?_
  refine zk_aload_n C kd_Mo_readText_35 rfl 0 rfl rfl ?_
  refine zk_iconst (v := 0) C kd_Mo_readText_36 (by decide) rfl ?_
  refine zs_put (ty := .int) C 68 8 0 rfl rfl rfl rfl ki_Mo ky_Mo ko_Mo kn_Mo (by decide) kw1691 rfl rfl rfl rfl (by decide) kd_Mo_readText_37 rfl ?_
  refine zk_aload_n C kd_Mo_readText_40 rfl 0 rfl rfl ?_
  refine zk_iconst (v := 0) C kd_Mo_readText_41 (by decide) rfl ?_
  refine zs_put (ty := .boolean) C 68 22 0 rfl rfl rfl rfl ki_Mo ky_Mo ko_Mo kn_Mo (by decide) kw1705 rfl rfl rfl rfl (by decide) kd_Mo_readText_42 rfl ?_
  refine zk_aload_n C kd_Mo_readText_45 rfl 0 rfl rfl ?_
  obtain ⟨h2, c1, e⟩ := zd_b e
  refine zs_callV (k := 68) (rn := { frames := 6, cells := 0, slots := 0, locals := 129 }) (As := []) (rest := []) C (zc_Mo_next (zs_uF (zs_uF (zs_uF (zs_uF (zs_uF (zs_uF (zs_uF (zs_uF (zs_uF h 68 10 0) 68 11 (-1)) 68 14 0) 68 3 0) 68 25 0) 68 13 0) 68 12 0) 68 8 0) 68 22 0) c1) ku_Mo_next kw2001 kv_Mo_next rfl ⟨by decide, by decide⟩ ⟨by decide, by decide⟩ rfl rfl rfl (Nat.le_of_ble_eq_true rfl) kd_Mo_readText_46 rfl (c1 := 0) (s1 := 0) rfl rfl (fun v w hp => ?_)
  obtain ⟨rfl, rfl⟩ := hp
  refine zk_stk (r' := []) rfl ?_
  refine zk_aload_n C kd_Mo_readText_49 rfl 0 rfl rfl ?_
  refine zk_iconst (v := 0) C kd_Mo_readText_50 (by decide) rfl ?_
  refine zk_iconst (v := 0) C kd_Mo_readText_51 (by decide) rfl ?_
  refine zk_iconst (v := 0) C kd_Mo_readText_52 (by decide) rfl ?_
  obtain ⟨v4, h5, c3, e⟩ := zd_Be e
  refine zs_callV (k := 68) (rn := { frames := 0, cells := 0, slots := 0, locals := 0 }) (As := [.int 0, .int 0, .int 0]) (rest := []) C (zc_Mo_node h2 0 0 0 c3) ku_Mo_node kw2085 kv_Mo_node rfl ⟨by decide, by decide⟩ ⟨by decide, by decide⟩ rfl rfl rfl (Nat.le_of_ble_eq_true rfl) kd_Mo_readText_53 rfl (c1 := 0) (s1 := 0) rfl rfl (fun v w hp => ?_)
  obtain ⟨rfl, rfl⟩ := hp
  refine zk_stk (r' := [.int v4]) rfl ?_
  refine zk_istore_n (lv' := [(1, _), (0, _)]) C kd_Mo_readText_56 rfl (by decide) rfl rfl ?_
  refine zk_lvs (lv' := [(0, .ref (S.1 68)), (1, .int v4)]) [1, 0] rfl ?_
  exact zl_Mo_readText_57 C hR zF h5 v4 e
set_option maxHeartbeats 4000000 in
set_option maxRecDepth 100000 in
theorem zc_Mo_breaks {l : Launch} {D : va_G} {sz0 : Nat} {S : zs_T} {P : ze_T} (h : zs_H) (x1 : Int32) (x2 : Int32) {rh : zs_H} (e : f_Mo_breaks h x1 x2 = some rh) : zk_Sp (zs_G S l D sz0) (ze_E P) km_Mo_breaks { frames := 0, cells := 0, slots := 0, locals := 0 } [.ref (S.1 68), .int x1, .int x2] (zs_W S h) (zd_PV S rh) := by
  refine zk_met ku_Mo_breaks (Nat.le_of_ble_eq_true rfl) (ze_Em P) ?_
  intro X C hR
  refine zk_lvs (lv' := [(0, .ref (S.1 68)), (1, .int x1), (2, .int x2)]) [0, 1, 2] rfl ?_
  unfold f_Mo_breaks at e
  refine zk_aload_n C kd_Mo_breaks_0 rfl 0 rfl rfl ?_
  refine zs_get (v := .int (h.1 68 29)) C 68 29 rfl rfl rfl rfl ki_Mo (by decide) kw1712 kd_Mo_breaks_1 rfl ?_
  refine zk_if_ne (tgt := 22) C kd_Mo_breaks_4 (by decide) rfl (fun b1 => ?_) (fun b1 => ?_)
  · replace e := zd_neg b1 e
    exact zk_vret C hR kd_Mo_breaks_22 rfl rfl (zd_rV e)
  · replace e := zd_pos b1 e
    refine zk_aload_n C kd_Mo_breaks_7 rfl 0 rfl rfl ?_
    refine zk_iload_n C kd_Mo_breaks_8 rfl 1 rfl rfl ?_
    refine zs_put (ty := .int) C 68 29 x1 rfl rfl rfl rfl ki_Mo ky_Mo ko_Mo kn_Mo (by decide) kw1712 rfl rfl rfl rfl (by decide) kd_Mo_breaks_9 rfl ?_
    refine zk_aload_n C kd_Mo_breaks_12 rfl 0 rfl rfl ?_
    refine zk_aload_n C kd_Mo_breaks_13 rfl 0 rfl rfl ?_
    refine zs_get (v := .ref (S.1 73)) C 68 16 rfl rfl rfl rfl ki_Mo (by decide) kw1699 kd_Mo_breaks_14 rfl ?_
    refine zk_iload_n C kd_Mo_breaks_17 rfl 2 rfl rfl ?_
    obtain ⟨q2, e⟩ := zd_g e
    refine zs_iald C 73 rfl (zd_vp q2) kd_Mo_breaks_18 rfl ?_
    refine zk_stk (r' := [.int (h.2.1 73 x2.toNatClampNeg), .ref (S.1 68)]) rfl ?_
    refine zs_put (ty := .int) C 68 30 (h.2.1 73 x2.toNatClampNeg) rfl rfl rfl rfl ki_Mo ky_Mo ko_Mo kn_Mo (by decide) kw1713 rfl rfl rfl rfl (by decide) kd_Mo_breaks_19 rfl ?_
    exact zk_vret C hR kd_Mo_breaks_22 rfl rfl (zd_rV e)
set_option maxHeartbeats 4000000 in
set_option maxRecDepth 100000 in
theorem zc_Mo_rule {l : Launch} {D : va_G} {sz0 : Nat} {S : zs_T} {P : ze_T} (h : zs_H) (x1 : Int32) (x2 : Int32) (x3 : Int32) {rh : zs_H} (e : f_Mo_rule h x1 x2 x3 = some rh) : zk_Sp (zs_G S l D sz0) (ze_E P) km_Mo_rule { frames := 1, cells := 0, slots := 0, locals := 22 } [.ref (S.1 68), .int x1, .int x2, .int x3] (zs_W S h) (zd_PV S rh) := by
  refine zk_met ku_Mo_rule (Nat.le_of_ble_eq_true rfl) (ze_Em P) ?_
  intro X C hR
  refine zk_lvs (lv' := [(0, .ref (S.1 68)), (1, .int x1), (2, .int x2), (3, .int x3)]) [0, 1, 2, 3] rfl ?_
  unfold f_Mo_rule at e
  refine zk_iload_n C kd_Mo_rule_0 rfl 1 rfl rfl ?_
  refine zk_if_eq (tgt := 10) C kd_Mo_rule_1 (by decide) rfl (fun b1 => ?_) (fun b1 => ?_)
  · replace e := zd_pos b1 e
    exact zk_vret C hR kd_Mo_rule_10 rfl rfl (zd_rV e)
  · replace e := zd_neg b1 e
    refine zk_aload_n C kd_Mo_rule_4 rfl 0 rfl rfl ?_
    refine zk_iload_n C kd_Mo_rule_5 rfl 2 rfl rfl ?_
    refine zk_iload_n C kd_Mo_rule_6 rfl 3 rfl rfl ?_
    obtain ⟨h3, c2, e⟩ := zd_b e
    refine zs_callV (k := 68) (rn := { frames := 0, cells := 0, slots := 0, locals := 0 }) (As := [.int x2, .int x3]) (rest := []) C (zc_Mo_breaks h x2 x3 c2) ku_Mo_breaks kw2264 kv_Mo_breaks rfl ⟨by decide, by decide⟩ ⟨by decide, by decide⟩ rfl rfl rfl (Nat.le_of_ble_eq_true rfl) kd_Mo_rule_7 rfl (c1 := 0) (s1 := 0) rfl rfl (fun v w hp => ?_)
    obtain ⟨rfl, rfl⟩ := hp
    refine zk_stk (r' := []) rfl ?_
    exact zk_vret C hR kd_Mo_rule_10 rfl rfl (zd_rV e)
set_option maxHeartbeats 4000000 in
set_option maxRecDepth 100000 in
theorem zb_Mo_wordOf_s10_79 {X : zkj_T} {S : zs_T} {P : ze_T} {l : Launch} {D : va_G} {sz0 : Nat} {rv : Int32} {h : zs_H} (C : zk_C X km_Mo_wordOf (zs_G S l D sz0) { frames := 4, cells := 0, slots := 0, locals := 85 } (ze_E P)) (hR : zkj_R X (zd_PI S rv h) (some .int)) {k5 : Int32 → Int32 → Int32 → (Option Int32)} (hk5 : ∀ (x2 : Int32) (x3 : Int32) (x4 : Int32), k5 x2 x3 x4 = some rv → zk_Ab X (zs_W S h) 0 0 5 [(0, .ref (S.1 68)), (1, .ref (P.1 10)), (2, .int x2), (3, .int x3), (4, .int x4)] []) {k20 : Int32 → Int32 → Int32 → Int32 → Int32 → (Option Int32)} (hk20 : ∀ (x2 : Int32) (x3 : Int32) (x4 : Int32) (x5 : Int32) (x6 : Int32), k20 x2 x3 x4 x5 x6 = some rv → zk_Ab X (zs_W S h) 0 0 20 [(0, .ref (S.1 68)), (1, .ref (P.1 10)), (2, .int x2), (3, .int x3), (4, .int x4), (5, .int x5), (6, .int x6)] []) (x2 : Int32) (x3 : Int32) (x4 : Int32) (x5 : Int32) (y0 : Int32) (e : f_Mo_wordOf_s10_79 h k5 k20 x2 x3 x4 x5 y0 = some rv) : zk_Ab X (zs_W S h) 0 0 79 [(0, .ref (S.1 68)), (1, .ref (P.1 10)), (2, .int x2), (3, .int x3), (4, .int x4), (5, .int x5)] [.int y0] := by
  unfold f_Mo_wordOf_s10_79 at e
  refine zk_istore (lv' := [(6, _), (0, _), (1, _), (2, _), (3, _), (4, _), (5, _)]) C kd_Mo_wordOf_79 (by decide) rfl rfl ?_
  refine zk_iinc (v := (x5 + 1)) (lv' := [(5, _), (6, _), (0, _), (1, _), (2, _), (3, _), (4, _)]) C kd_Mo_wordOf_81 6 rfl rfl (by decide) rfl rfl ?_
  refine zk_goto (tgt := 20) C kd_Mo_wordOf_84 (by decide) ?_
  refine zk_lvs (lv' := [(0, .ref (S.1 68)), (1, .ref (P.1 10)), (2, .int x2), (3, .int x3), (4, .int x4), (5, .int (x5 + 1)), (6, .int y0)]) [2, 3, 4, 5, 6, 0, 1] rfl ?_
  exact hk20 x2 x3 x4 (x5 + 1) y0 e
set_option maxHeartbeats 4000000 in
set_option maxRecDepth 100000 in
theorem zb_Mo_wordOf_s10_78 {X : zkj_T} {S : zs_T} {P : ze_T} {l : Launch} {D : va_G} {sz0 : Nat} {rv : Int32} {h : zs_H} (C : zk_C X km_Mo_wordOf (zs_G S l D sz0) { frames := 4, cells := 0, slots := 0, locals := 85 } (ze_E P)) (hR : zkj_R X (zd_PI S rv h) (some .int)) {k5 : Int32 → Int32 → Int32 → (Option Int32)} (hk5 : ∀ (x2 : Int32) (x3 : Int32) (x4 : Int32), k5 x2 x3 x4 = some rv → zk_Ab X (zs_W S h) 0 0 5 [(0, .ref (S.1 68)), (1, .ref (P.1 10)), (2, .int x2), (3, .int x3), (4, .int x4)] []) {k20 : Int32 → Int32 → Int32 → Int32 → Int32 → (Option Int32)} (hk20 : ∀ (x2 : Int32) (x3 : Int32) (x4 : Int32) (x5 : Int32) (x6 : Int32), k20 x2 x3 x4 x5 x6 = some rv → zk_Ab X (zs_W S h) 0 0 20 [(0, .ref (S.1 68)), (1, .ref (P.1 10)), (2, .int x2), (3, .int x3), (4, .int x4), (5, .int x5), (6, .int x6)] []) (x2 : Int32) (x3 : Int32) (x4 : Int32) (x5 : Int32) (e : f_Mo_wordOf_s10_78 h k5 k20 x2 x3 x4 x5 = some rv) : zk_Ab X (zs_W S h) 0 0 78 [(0, .ref (S.1 68)), (1, .ref (P.1 10)), (2, .int x2), (3, .int x3), (4, .int x4), (5, .int x5)] [] := by
  unfold f_Mo_wordOf_s10_78 at e
  refine zk_iconst (v := 0) C kd_Mo_wordOf_78 (by decide) rfl ?_
  refine zk_lvs (lv' := [(0, .ref (S.1 68)), (1, .ref (P.1 10)), (2, .int x2), (3, .int x3), (4, .int x4), (5, .int x5)]) [0, 1, 2, 3, 4, 5] rfl ?_
  exact zb_Mo_wordOf_s10_79 C hR hk5 hk20 x2 x3 x4 x5 0 e
set_option maxHeartbeats 4000000 in
set_option maxRecDepth 100000 in
theorem zb_Mo_wordOf_s10_105 {X : zkj_T} {S : zs_T} {P : ze_T} {l : Launch} {D : va_G} {sz0 : Nat} {rv : Int32} {h : zs_H} (C : zk_C X km_Mo_wordOf (zs_G S l D sz0) { frames := 4, cells := 0, slots := 0, locals := 85 } (ze_E P)) (hR : zkj_R X (zd_PI S rv h) (some .int)) {k5 : Int32 → Int32 → Int32 → (Option Int32)} (hk5 : ∀ (x2 : Int32) (x3 : Int32) (x4 : Int32), k5 x2 x3 x4 = some rv → zk_Ab X (zs_W S h) 0 0 5 [(0, .ref (S.1 68)), (1, .ref (P.1 10)), (2, .int x2), (3, .int x3), (4, .int x4)] []) (x2 : Int32) (x3 : Int32) (x4 : Int32) (x5 : Int32) (e : f_Mo_wordOf_s10_105 h k5 x2 x3 x4 x5 = some rv) : zk_Ab X (zs_W S h) 0 0 105 [(0, .ref (S.1 68)), (1, .ref (P.1 10)), (2, .int x2), (3, .int x3), (4, .int x4), (5, .int x5)] [] := by
  unfold f_Mo_wordOf_s10_105 at e
  refine zk_iinc (v := (x3 + 1)) (lv' := [(3, _), (0, _), (1, _), (2, _), (4, _), (5, _)]) C kd_Mo_wordOf_105 3 rfl rfl (by decide) rfl rfl ?_
  refine zk_iload C kd_Mo_wordOf_108 4 rfl rfl ?_
  refine zk_iload C kd_Mo_wordOf_110 5 rfl rfl ?_
  refine zk_iadd C kd_Mo_wordOf_112 rfl ?_
  refine zk_iconst (v := 1) C kd_Mo_wordOf_113 (by decide) rfl ?_
  refine zk_iadd C kd_Mo_wordOf_114 rfl ?_
  refine zk_istore (lv' := [(4, _), (3, _), (0, _), (1, _), (2, _), (5, _)]) C kd_Mo_wordOf_115 (by decide) rfl rfl ?_
  refine zk_goto (tgt := 5) C kd_Mo_wordOf_117 (by decide) ?_
  refine zk_lvs (lv' := [(0, .ref (S.1 68)), (1, .ref (P.1 10)), (2, .int x2), (3, .int (x3 + 1)), (4, .int ((x4 + x5) + 1))]) [2, 3, 4, 1, 0] rfl ?_
  exact hk5 x2 (x3 + 1) ((x4 + x5) + 1) e
set_option maxHeartbeats 4000000 in
set_option maxRecDepth 100000 in
theorem zb_Mo_wordOf_s10_20 {X : zkj_T} {S : zs_T} {P : ze_T} {l : Launch} {D : va_G} {sz0 : Nat} {rv : Int32} {h : zs_H} (C : zk_C X km_Mo_wordOf (zs_G S l D sz0) { frames := 4, cells := 0, slots := 0, locals := 85 } (ze_E P)) (hR : zkj_R X (zd_PI S rv h) (some .int)) {k5 : Int32 → Int32 → Int32 → (Option Int32)} (hk5 : ∀ (x2 : Int32) (x3 : Int32) (x4 : Int32), k5 x2 x3 x4 = some rv → zk_Ab X (zs_W S h) 0 0 5 [(0, .ref (S.1 68)), (1, .ref (P.1 10)), (2, .int x2), (3, .int x3), (4, .int x4)] []) {k20 : Int32 → Int32 → Int32 → Int32 → Int32 → (Option Int32)} (hk20 : ∀ (x2 : Int32) (x3 : Int32) (x4 : Int32) (x5 : Int32) (x6 : Int32), k20 x2 x3 x4 x5 x6 = some rv → zk_Ab X (zs_W S h) 0 0 20 [(0, .ref (S.1 68)), (1, .ref (P.1 10)), (2, .int x2), (3, .int x3), (4, .int x4), (5, .int x5), (6, .int x6)] []) (x2 : Int32) (x3 : Int32) (x4 : Int32) (x5 : Int32) (x6 : Int32) (e : f_Mo_wordOf_s10_20 h k5 k20 x2 x3 x4 x5 x6 = some rv) : zk_Ab X (zs_W S h) 0 0 20 [(0, .ref (S.1 68)), (1, .ref (P.1 10)), (2, .int x2), (3, .int x3), (4, .int x4), (5, .int x5), (6, .int x6)] [] := by
  unfold f_Mo_wordOf_s10_20 at e
  refine zk_aload_n C kd_Mo_wordOf_20 rfl 1 rfl rfl ?_
  refine zk_iload C kd_Mo_wordOf_21 4 rfl rfl ?_
  refine zk_iload C kd_Mo_wordOf_23 5 rfl rfl ?_
  refine zk_iadd C kd_Mo_wordOf_25 rfl ?_
  obtain ⟨q1, e⟩ := zd_g e
  refine ze_callStr (i := 10) (As := [.int (x4 + x5)]) (rest := []) C (zd_charAt (zs_W S h) 10 (by decide) (x4 + x5) q1 (by decide)) ku_St_charAt kw2061 kv_St_charAt (by decide) rfl rfl ⟨by decide, by decide⟩ ⟨by decide, by decide⟩ rfl (Nat.le_of_ble_eq_true rfl) kd_Mo_wordOf_26 rfl (c1 := 0) (s1 := 0) rfl rfl (fun v w hp => ?_)
  obtain ⟨rfl, rfl⟩ := hp
  refine zk_stk (r' := [.int (ze_f 10 (x4 + x5).toNatClampNeg &&& 255)]) rfl ?_
  refine zk_bipush (v := 32) C kd_Mo_wordOf_29 (by decide) rfl ?_
  refine zk_icmp_eq (tgt := 87) C kd_Mo_wordOf_31 (by decide) rfl (fun b2 => ?_) (fun b2 => ?_)
  · replace e := zd_pos b2 e
    refine zk_iload C kd_Mo_wordOf_87 6 rfl rfl ?_
    refine zk_if_eq (tgt := 105) C kd_Mo_wordOf_89 (by decide) rfl (fun b3 => ?_) (fun b3 => ?_)
    · replace e := zd_pos b3 e
      refine zk_lvs (lv' := [(0, .ref (S.1 68)), (1, .ref (P.1 10)), (2, .int x2), (3, .int x3), (4, .int x4), (5, .int x5)]) [0, 1, 2, 3, 4, 5] rfl ?_
      exact zb_Mo_wordOf_s10_105 C hR hk5 x2 x3 x4 x5 e
    · replace e := zd_neg b3 e
      refine zk_iload C kd_Mo_wordOf_92 5 rfl rfl ?_
      refine zk_aload_n C kd_Mo_wordOf_94 rfl 0 rfl rfl ?_
      refine zs_get (v := .ref (S.1 71)) C 68 5 rfl rfl rfl rfl ki_Mo (by decide) kw1688 kd_Mo_wordOf_95 rfl ?_
      refine zk_iload_n C kd_Mo_wordOf_98 rfl 2 rfl rfl ?_
      obtain ⟨q4, e⟩ := zd_g e
      refine zs_iald C 71 rfl (zd_vp q4) kd_Mo_wordOf_99 rfl ?_
      refine zk_icmp_ne (tgt := 105) C kd_Mo_wordOf_100 (by decide) rfl (fun b5 => ?_) (fun b5 => ?_)
      · replace e := zd_neg b5 e
        refine zk_lvs (lv' := [(0, .ref (S.1 68)), (1, .ref (P.1 10)), (2, .int x2), (3, .int x3), (4, .int x4), (5, .int x5)]) [0, 1, 2, 3, 4, 5] rfl ?_
        exact zb_Mo_wordOf_s10_105 C hR hk5 x2 x3 x4 x5 e
      · replace e := zd_pos b5 e
        refine zk_iload_n C kd_Mo_wordOf_103 rfl 3 rfl rfl ?_
        exact zk_iret C hR kd_Mo_wordOf_104 rfl rfl (zd_rIO e)
  · replace e := zd_neg b2 e
    refine zk_iload C kd_Mo_wordOf_34 6 rfl rfl ?_
    refine zk_if_eq (tgt := 78) C kd_Mo_wordOf_36 (by decide) rfl (fun b6 => ?_) (fun b6 => ?_)
    · replace e := zd_pos b6 e
      refine zk_lvs (lv' := [(0, .ref (S.1 68)), (1, .ref (P.1 10)), (2, .int x2), (3, .int x3), (4, .int x4), (5, .int x5)]) [0, 1, 2, 3, 4, 5] rfl ?_
      exact zb_Mo_wordOf_s10_78 C hR hk5 hk20 x2 x3 x4 x5 e
    · replace e := zd_neg b6 e
      refine zk_iload C kd_Mo_wordOf_39 5 rfl rfl ?_
      refine zk_aload_n C kd_Mo_wordOf_41 rfl 0 rfl rfl ?_
      refine zs_get (v := .ref (S.1 71)) C 68 5 rfl rfl rfl rfl ki_Mo (by decide) kw1688 kd_Mo_wordOf_42 rfl ?_
      refine zk_iload_n C kd_Mo_wordOf_45 rfl 2 rfl rfl ?_
      obtain ⟨q7, e⟩ := zd_g e
      refine zs_iald C 71 rfl (zd_vp q7) kd_Mo_wordOf_46 rfl ?_
      refine zk_icmp_ge (tgt := 78) C kd_Mo_wordOf_47 (by decide) rfl (fun b8 => ?_) (fun b8 => ?_)
      · replace e := zd_pos b8 e
        refine zk_lvs (lv' := [(0, .ref (S.1 68)), (1, .ref (P.1 10)), (2, .int x2), (3, .int x3), (4, .int x4), (5, .int x5)]) [0, 1, 2, 3, 4, 5] rfl ?_
        exact zb_Mo_wordOf_s10_78 C hR hk5 hk20 x2 x3 x4 x5 e
      · replace e := zd_neg b8 e
        refine zk_aload_n C kd_Mo_wordOf_50 rfl 0 rfl rfl ?_
        refine zs_get (v := .ref (S.1 70)) C 68 4 rfl rfl rfl rfl ki_Mo (by decide) kw1687 kd_Mo_wordOf_51 rfl ?_
        refine zk_bipush (v := 32) C kd_Mo_wordOf_54 (by decide) rfl ?_
        refine zk_iload_n C kd_Mo_wordOf_56 rfl 2 rfl rfl ?_
        refine zk_imul C kd_Mo_wordOf_57 rfl ?_
        refine zk_iload C kd_Mo_wordOf_58 5 rfl rfl ?_
        refine zk_iadd C kd_Mo_wordOf_60 rfl ?_
        obtain ⟨q9, e⟩ := zd_g e
        refine zs_bald C 70 rfl (zd_vp q9) kd_Mo_wordOf_61 rfl ?_
        refine zk_aload_n C kd_Mo_wordOf_62 rfl 1 rfl rfl ?_
        refine zk_iload C kd_Mo_wordOf_63 4 rfl rfl ?_
        refine zk_iload C kd_Mo_wordOf_65 5 rfl rfl ?_
        refine zk_iadd C kd_Mo_wordOf_67 rfl ?_
        refine ze_callStr (i := 10) (As := [.int (x4 + x5)]) (rest := [.int (h.2.1 70 ((32 * x2) + x5).toNatClampNeg)]) C (zd_charAt (zs_W S h) 10 (by decide) (x4 + x5) q1 (by decide)) ku_St_charAt kw2061 kv_St_charAt (by decide) rfl rfl ⟨by decide, by decide⟩ ⟨by decide, by decide⟩ rfl (Nat.le_of_ble_eq_true rfl) kd_Mo_wordOf_68 rfl (c1 := 0) (s1 := 0) rfl rfl (fun v w hp => ?_)
        obtain ⟨rfl, rfl⟩ := hp
        refine zk_stk (r' := [.int (ze_f 10 (x4 + x5).toNatClampNeg &&& 255), .int (h.2.1 70 ((32 * x2) + x5).toNatClampNeg)]) rfl ?_
        refine zk_icmp_ne (tgt := 78) C kd_Mo_wordOf_71 (by decide) rfl (fun b10 => ?_) (fun b10 => ?_)
        · replace e := zd_neg b10 e
          refine zk_lvs (lv' := [(0, .ref (S.1 68)), (1, .ref (P.1 10)), (2, .int x2), (3, .int x3), (4, .int x4), (5, .int x5)]) [0, 1, 2, 3, 4, 5] rfl ?_
          exact zb_Mo_wordOf_s10_78 C hR hk5 hk20 x2 x3 x4 x5 e
        · replace e := zd_pos b10 e
          refine zk_iconst (v := 1) C kd_Mo_wordOf_74 (by decide) rfl ?_
          refine zk_goto (tgt := 79) C kd_Mo_wordOf_75 (by decide) ?_
          refine zk_lvs (lv' := [(0, .ref (S.1 68)), (1, .ref (P.1 10)), (2, .int x2), (3, .int x3), (4, .int x4), (5, .int x5)]) [0, 1, 2, 3, 4, 5] rfl ?_
          exact zb_Mo_wordOf_s10_79 C hR hk5 hk20 x2 x3 x4 x5 1 e
theorem zl_Mo_wordOf_s10_20 {X : zkj_T} {S : zs_T} {P : ze_T} {l : Launch} {D : va_G} {sz0 : Nat} {rv : Int32} {h : zs_H} (C : zk_C X km_Mo_wordOf (zs_G S l D sz0) { frames := 4, cells := 0, slots := 0, locals := 85 } (ze_E P)) (hR : zkj_R X (zd_PI S rv h) (some .int)) {k5 : Int32 → Int32 → Int32 → (Option Int32)} (hk5 : ∀ (x2 : Int32) (x3 : Int32) (x4 : Int32), k5 x2 x3 x4 = some rv → zk_Ab X (zs_W S h) 0 0 5 [(0, .ref (S.1 68)), (1, .ref (P.1 10)), (2, .int x2), (3, .int x3), (4, .int x4)] []) (n : Nat) : ∀ (x2 : Int32) (x3 : Int32) (x4 : Int32) (x5 : Int32) (x6 : Int32), f_Mo_wordOf_s10_L20 h k5 n x2 x3 x4 x5 x6 = some rv → zk_Ab X (zs_W S h) 0 0 20 [(0, .ref (S.1 68)), (1, .ref (P.1 10)), (2, .int x2), (3, .int x3), (4, .int x4), (5, .int x5), (6, .int x6)] [] := by
  induction n with
  | zero => intro x2 x3 x4 x5 x6 e; exact zd_no e
  | succ n ih => intro x2 x3 x4 x5 x6 e; exact zb_Mo_wordOf_s10_20 (k20 := f_Mo_wordOf_s10_L20 h k5 n) C hR hk5 ih x2 x3 x4 x5 x6 e
set_option maxHeartbeats 4000000 in
set_option maxRecDepth 100000 in
theorem zb_Mo_wordOf_s10_5 {X : zkj_T} {S : zs_T} {P : ze_T} {l : Launch} {D : va_G} {sz0 : Nat} {rv : Int32} {h : zs_H} (C : zk_C X km_Mo_wordOf (zs_G S l D sz0) { frames := 4, cells := 0, slots := 0, locals := 85 } (ze_E P)) (hR : zkj_R X (zd_PI S rv h) (some .int)) {k5 : Int32 → Int32 → Int32 → (Option Int32)} (hk5 : ∀ (x2 : Int32) (x3 : Int32) (x4 : Int32), k5 x2 x3 x4 = some rv → zk_Ab X (zs_W S h) 0 0 5 [(0, .ref (S.1 68)), (1, .ref (P.1 10)), (2, .int x2), (3, .int x3), (4, .int x4)] []) (x2 : Int32) (x3 : Int32) (x4 : Int32) (e : f_Mo_wordOf_s10_5 h k5 x2 x3 x4 = some rv) : zk_Ab X (zs_W S h) 0 0 5 [(0, .ref (S.1 68)), (1, .ref (P.1 10)), (2, .int x2), (3, .int x3), (4, .int x4)] [] := by
  unfold f_Mo_wordOf_s10_5 at e
  refine zk_iload C kd_Mo_wordOf_5 4 rfl rfl ?_
  refine zk_aload_n C kd_Mo_wordOf_7 rfl 1 rfl rfl ?_
  refine ze_callStr (i := 10) (As := []) (rest := [.int x4]) C (cs_length (zs_W S h) 10 (by decide)) ku_St_length kw2060 kv_St_length (by decide) rfl rfl ⟨by decide, by decide⟩ ⟨by decide, by decide⟩ rfl (Nat.le_of_ble_eq_true rfl) kd_Mo_wordOf_8 rfl (c1 := 0) (s1 := 0) rfl rfl (fun v w hp => ?_)
  obtain ⟨rfl, rfl⟩ := hp
  refine zk_stk (r' := [.int 40, .int x4]) rfl ?_
  refine zk_icmp_ge (tgt := 120) C kd_Mo_wordOf_11 (by decide) rfl (fun b1 => ?_) (fun b1 => ?_)
  · replace e := zd_pos b1 e
    refine zk_iconst (v := (-1)) C kd_Mo_wordOf_120 (by decide) rfl ?_
    exact zk_iret C hR kd_Mo_wordOf_121 rfl rfl (zd_rIO e)
  · replace e := zd_neg b1 e
    refine zk_iconst (v := 0) C kd_Mo_wordOf_14 (by decide) rfl ?_
    refine zk_istore (lv' := [(5, _), (0, _), (1, _), (2, _), (3, _), (4, _)]) C kd_Mo_wordOf_15 (by decide) rfl rfl ?_
    refine zk_iconst (v := 1) C kd_Mo_wordOf_17 (by decide) rfl ?_
    refine zk_istore (lv' := [(6, _), (5, _), (0, _), (1, _), (2, _), (3, _), (4, _)]) C kd_Mo_wordOf_18 (by decide) rfl rfl ?_
    refine zk_lvs (lv' := [(0, .ref (S.1 68)), (1, .ref (P.1 10)), (2, .int x2), (3, .int x3), (4, .int x4), (5, .int 0), (6, .int 1)]) [2, 3, 4, 5, 6, 1, 0] rfl ?_
    exact zl_Mo_wordOf_s10_20 C hR hk5 zF x2 x3 x4 0 1 e
theorem zl_Mo_wordOf_s10_5 {X : zkj_T} {S : zs_T} {P : ze_T} {l : Launch} {D : va_G} {sz0 : Nat} {rv : Int32} {h : zs_H} (C : zk_C X km_Mo_wordOf (zs_G S l D sz0) { frames := 4, cells := 0, slots := 0, locals := 85 } (ze_E P)) (hR : zkj_R X (zd_PI S rv h) (some .int)) (n : Nat) : ∀ (x2 : Int32) (x3 : Int32) (x4 : Int32), f_Mo_wordOf_s10_L5 h n x2 x3 x4 = some rv → zk_Ab X (zs_W S h) 0 0 5 [(0, .ref (S.1 68)), (1, .ref (P.1 10)), (2, .int x2), (3, .int x3), (4, .int x4)] [] := by
  induction n with
  | zero => intro x2 x3 x4 e; exact zd_no e
  | succ n ih => intro x2 x3 x4 e; exact zb_Mo_wordOf_s10_5 (k5 := f_Mo_wordOf_s10_L5 h n) C hR ih x2 x3 x4 e
set_option maxHeartbeats 4000000 in
set_option maxRecDepth 100000 in
theorem zc_Mo_wordOf_s10 {l : Launch} {D : va_G} {sz0 : Nat} {S : zs_T} {P : ze_T} (h : zs_H) (x2 : Int32) {rv : Int32} (e : f_Mo_wordOf_s10 h x2 = some rv) : zk_Sp (zs_G S l D sz0) (ze_E P) km_Mo_wordOf { frames := 4, cells := 0, slots := 0, locals := 85 } [.ref (S.1 68), .ref (P.1 10), .int x2] (zs_W S h) (zd_PI S rv h) := by
  refine zk_met ku_Mo_wordOf (Nat.le_of_ble_eq_true rfl) (ze_Em P) ?_
  intro X C hR
  refine zk_lvs (lv' := [(0, .ref (S.1 68)), (1, .ref (P.1 10)), (2, .int x2)]) [0, 1, 2] rfl ?_
  unfold f_Mo_wordOf_s10 at e
  refine zk_iconst (v := 0) C kd_Mo_wordOf_0 (by decide) rfl ?_
  refine zk_istore_n (lv' := [(3, _), (0, _), (1, _), (2, _)]) C kd_Mo_wordOf_1 rfl (by decide) rfl rfl ?_
  refine zk_iconst (v := 1) C kd_Mo_wordOf_2 (by decide) rfl ?_
  refine zk_istore (lv' := [(4, _), (3, _), (0, _), (1, _), (2, _)]) C kd_Mo_wordOf_3 (by decide) rfl rfl ?_
  refine zk_lvs (lv' := [(0, .ref (S.1 68)), (1, .ref (P.1 10)), (2, .int x2), (3, .int 0), (4, .int 1)]) [2, 3, 4, 1, 0] rfl ?_
  exact zl_Mo_wordOf_s10_5 C hR zF x2 0 1 e
set_option maxHeartbeats 4000000 in
set_option maxRecDepth 100000 in
theorem zb_Mo_wordOf_s11_79 {X : zkj_T} {S : zs_T} {P : ze_T} {l : Launch} {D : va_G} {sz0 : Nat} {rv : Int32} {h : zs_H} (C : zk_C X km_Mo_wordOf (zs_G S l D sz0) { frames := 4, cells := 0, slots := 0, locals := 85 } (ze_E P)) (hR : zkj_R X (zd_PI S rv h) (some .int)) {k5 : Int32 → Int32 → Int32 → (Option Int32)} (hk5 : ∀ (x2 : Int32) (x3 : Int32) (x4 : Int32), k5 x2 x3 x4 = some rv → zk_Ab X (zs_W S h) 0 0 5 [(0, .ref (S.1 68)), (1, .ref (P.1 11)), (2, .int x2), (3, .int x3), (4, .int x4)] []) {k20 : Int32 → Int32 → Int32 → Int32 → Int32 → (Option Int32)} (hk20 : ∀ (x2 : Int32) (x3 : Int32) (x4 : Int32) (x5 : Int32) (x6 : Int32), k20 x2 x3 x4 x5 x6 = some rv → zk_Ab X (zs_W S h) 0 0 20 [(0, .ref (S.1 68)), (1, .ref (P.1 11)), (2, .int x2), (3, .int x3), (4, .int x4), (5, .int x5), (6, .int x6)] []) (x2 : Int32) (x3 : Int32) (x4 : Int32) (x5 : Int32) (y0 : Int32) (e : f_Mo_wordOf_s11_79 h k5 k20 x2 x3 x4 x5 y0 = some rv) : zk_Ab X (zs_W S h) 0 0 79 [(0, .ref (S.1 68)), (1, .ref (P.1 11)), (2, .int x2), (3, .int x3), (4, .int x4), (5, .int x5)] [.int y0] := by
  unfold f_Mo_wordOf_s11_79 at e
  refine zk_istore (lv' := [(6, _), (0, _), (1, _), (2, _), (3, _), (4, _), (5, _)]) C kd_Mo_wordOf_79 (by decide) rfl rfl ?_
  refine zk_iinc (v := (x5 + 1)) (lv' := [(5, _), (6, _), (0, _), (1, _), (2, _), (3, _), (4, _)]) C kd_Mo_wordOf_81 6 rfl rfl (by decide) rfl rfl ?_
  refine zk_goto (tgt := 20) C kd_Mo_wordOf_84 (by decide) ?_
  refine zk_lvs (lv' := [(0, .ref (S.1 68)), (1, .ref (P.1 11)), (2, .int x2), (3, .int x3), (4, .int x4), (5, .int (x5 + 1)), (6, .int y0)]) [2, 3, 4, 5, 6, 0, 1] rfl ?_
  exact hk20 x2 x3 x4 (x5 + 1) y0 e
set_option maxHeartbeats 4000000 in
set_option maxRecDepth 100000 in
theorem zb_Mo_wordOf_s11_78 {X : zkj_T} {S : zs_T} {P : ze_T} {l : Launch} {D : va_G} {sz0 : Nat} {rv : Int32} {h : zs_H} (C : zk_C X km_Mo_wordOf (zs_G S l D sz0) { frames := 4, cells := 0, slots := 0, locals := 85 } (ze_E P)) (hR : zkj_R X (zd_PI S rv h) (some .int)) {k5 : Int32 → Int32 → Int32 → (Option Int32)} (hk5 : ∀ (x2 : Int32) (x3 : Int32) (x4 : Int32), k5 x2 x3 x4 = some rv → zk_Ab X (zs_W S h) 0 0 5 [(0, .ref (S.1 68)), (1, .ref (P.1 11)), (2, .int x2), (3, .int x3), (4, .int x4)] []) {k20 : Int32 → Int32 → Int32 → Int32 → Int32 → (Option Int32)} (hk20 : ∀ (x2 : Int32) (x3 : Int32) (x4 : Int32) (x5 : Int32) (x6 : Int32), k20 x2 x3 x4 x5 x6 = some rv → zk_Ab X (zs_W S h) 0 0 20 [(0, .ref (S.1 68)), (1, .ref (P.1 11)), (2, .int x2), (3, .int x3), (4, .int x4), (5, .int x5), (6, .int x6)] []) (x2 : Int32) (x3 : Int32) (x4 : Int32) (x5 : Int32) (e : f_Mo_wordOf_s11_78 h k5 k20 x2 x3 x4 x5 = some rv) : zk_Ab X (zs_W S h) 0 0 78 [(0, .ref (S.1 68)), (1, .ref (P.1 11)), (2, .int x2), (3, .int x3), (4, .int x4), (5, .int x5)] [] := by
  unfold f_Mo_wordOf_s11_78 at e
  refine zk_iconst (v := 0) C kd_Mo_wordOf_78 (by decide) rfl ?_
  refine zk_lvs (lv' := [(0, .ref (S.1 68)), (1, .ref (P.1 11)), (2, .int x2), (3, .int x3), (4, .int x4), (5, .int x5)]) [0, 1, 2, 3, 4, 5] rfl ?_
  exact zb_Mo_wordOf_s11_79 C hR hk5 hk20 x2 x3 x4 x5 0 e
set_option maxHeartbeats 4000000 in
set_option maxRecDepth 100000 in
theorem zb_Mo_wordOf_s11_105 {X : zkj_T} {S : zs_T} {P : ze_T} {l : Launch} {D : va_G} {sz0 : Nat} {rv : Int32} {h : zs_H} (C : zk_C X km_Mo_wordOf (zs_G S l D sz0) { frames := 4, cells := 0, slots := 0, locals := 85 } (ze_E P)) (hR : zkj_R X (zd_PI S rv h) (some .int)) {k5 : Int32 → Int32 → Int32 → (Option Int32)} (hk5 : ∀ (x2 : Int32) (x3 : Int32) (x4 : Int32), k5 x2 x3 x4 = some rv → zk_Ab X (zs_W S h) 0 0 5 [(0, .ref (S.1 68)), (1, .ref (P.1 11)), (2, .int x2), (3, .int x3), (4, .int x4)] []) (x2 : Int32) (x3 : Int32) (x4 : Int32) (x5 : Int32) (e : f_Mo_wordOf_s11_105 h k5 x2 x3 x4 x5 = some rv) : zk_Ab X (zs_W S h) 0 0 105 [(0, .ref (S.1 68)), (1, .ref (P.1 11)), (2, .int x2), (3, .int x3), (4, .int x4), (5, .int x5)] [] := by
  unfold f_Mo_wordOf_s11_105 at e
  refine zk_iinc (v := (x3 + 1)) (lv' := [(3, _), (0, _), (1, _), (2, _), (4, _), (5, _)]) C kd_Mo_wordOf_105 3 rfl rfl (by decide) rfl rfl ?_
  refine zk_iload C kd_Mo_wordOf_108 4 rfl rfl ?_
  refine zk_iload C kd_Mo_wordOf_110 5 rfl rfl ?_
  refine zk_iadd C kd_Mo_wordOf_112 rfl ?_
  refine zk_iconst (v := 1) C kd_Mo_wordOf_113 (by decide) rfl ?_
  refine zk_iadd C kd_Mo_wordOf_114 rfl ?_
  refine zk_istore (lv' := [(4, _), (3, _), (0, _), (1, _), (2, _), (5, _)]) C kd_Mo_wordOf_115 (by decide) rfl rfl ?_
  refine zk_goto (tgt := 5) C kd_Mo_wordOf_117 (by decide) ?_
  refine zk_lvs (lv' := [(0, .ref (S.1 68)), (1, .ref (P.1 11)), (2, .int x2), (3, .int (x3 + 1)), (4, .int ((x4 + x5) + 1))]) [2, 3, 4, 1, 0] rfl ?_
  exact hk5 x2 (x3 + 1) ((x4 + x5) + 1) e
set_option maxHeartbeats 4000000 in
set_option maxRecDepth 100000 in
theorem zb_Mo_wordOf_s11_20 {X : zkj_T} {S : zs_T} {P : ze_T} {l : Launch} {D : va_G} {sz0 : Nat} {rv : Int32} {h : zs_H} (C : zk_C X km_Mo_wordOf (zs_G S l D sz0) { frames := 4, cells := 0, slots := 0, locals := 85 } (ze_E P)) (hR : zkj_R X (zd_PI S rv h) (some .int)) {k5 : Int32 → Int32 → Int32 → (Option Int32)} (hk5 : ∀ (x2 : Int32) (x3 : Int32) (x4 : Int32), k5 x2 x3 x4 = some rv → zk_Ab X (zs_W S h) 0 0 5 [(0, .ref (S.1 68)), (1, .ref (P.1 11)), (2, .int x2), (3, .int x3), (4, .int x4)] []) {k20 : Int32 → Int32 → Int32 → Int32 → Int32 → (Option Int32)} (hk20 : ∀ (x2 : Int32) (x3 : Int32) (x4 : Int32) (x5 : Int32) (x6 : Int32), k20 x2 x3 x4 x5 x6 = some rv → zk_Ab X (zs_W S h) 0 0 20 [(0, .ref (S.1 68)), (1, .ref (P.1 11)), (2, .int x2), (3, .int x3), (4, .int x4), (5, .int x5), (6, .int x6)] []) (x2 : Int32) (x3 : Int32) (x4 : Int32) (x5 : Int32) (x6 : Int32) (e : f_Mo_wordOf_s11_20 h k5 k20 x2 x3 x4 x5 x6 = some rv) : zk_Ab X (zs_W S h) 0 0 20 [(0, .ref (S.1 68)), (1, .ref (P.1 11)), (2, .int x2), (3, .int x3), (4, .int x4), (5, .int x5), (6, .int x6)] [] := by
  unfold f_Mo_wordOf_s11_20 at e
  refine zk_aload_n C kd_Mo_wordOf_20 rfl 1 rfl rfl ?_
  refine zk_iload C kd_Mo_wordOf_21 4 rfl rfl ?_
  refine zk_iload C kd_Mo_wordOf_23 5 rfl rfl ?_
  refine zk_iadd C kd_Mo_wordOf_25 rfl ?_
  obtain ⟨q1, e⟩ := zd_g e
  refine ze_callStr (i := 11) (As := [.int (x4 + x5)]) (rest := []) C (zd_charAt (zs_W S h) 11 (by decide) (x4 + x5) q1 (by decide)) ku_St_charAt kw2061 kv_St_charAt (by decide) rfl rfl ⟨by decide, by decide⟩ ⟨by decide, by decide⟩ rfl (Nat.le_of_ble_eq_true rfl) kd_Mo_wordOf_26 rfl (c1 := 0) (s1 := 0) rfl rfl (fun v w hp => ?_)
  obtain ⟨rfl, rfl⟩ := hp
  refine zk_stk (r' := [.int (ze_f 11 (x4 + x5).toNatClampNeg &&& 255)]) rfl ?_
  refine zk_bipush (v := 32) C kd_Mo_wordOf_29 (by decide) rfl ?_
  refine zk_icmp_eq (tgt := 87) C kd_Mo_wordOf_31 (by decide) rfl (fun b2 => ?_) (fun b2 => ?_)
  · replace e := zd_pos b2 e
    refine zk_iload C kd_Mo_wordOf_87 6 rfl rfl ?_
    refine zk_if_eq (tgt := 105) C kd_Mo_wordOf_89 (by decide) rfl (fun b3 => ?_) (fun b3 => ?_)
    · replace e := zd_pos b3 e
      refine zk_lvs (lv' := [(0, .ref (S.1 68)), (1, .ref (P.1 11)), (2, .int x2), (3, .int x3), (4, .int x4), (5, .int x5)]) [0, 1, 2, 3, 4, 5] rfl ?_
      exact zb_Mo_wordOf_s11_105 C hR hk5 x2 x3 x4 x5 e
    · replace e := zd_neg b3 e
      refine zk_iload C kd_Mo_wordOf_92 5 rfl rfl ?_
      refine zk_aload_n C kd_Mo_wordOf_94 rfl 0 rfl rfl ?_
      refine zs_get (v := .ref (S.1 71)) C 68 5 rfl rfl rfl rfl ki_Mo (by decide) kw1688 kd_Mo_wordOf_95 rfl ?_
      refine zk_iload_n C kd_Mo_wordOf_98 rfl 2 rfl rfl ?_
      obtain ⟨q4, e⟩ := zd_g e
      refine zs_iald C 71 rfl (zd_vp q4) kd_Mo_wordOf_99 rfl ?_
      refine zk_icmp_ne (tgt := 105) C kd_Mo_wordOf_100 (by decide) rfl (fun b5 => ?_) (fun b5 => ?_)
      · replace e := zd_neg b5 e
        refine zk_lvs (lv' := [(0, .ref (S.1 68)), (1, .ref (P.1 11)), (2, .int x2), (3, .int x3), (4, .int x4), (5, .int x5)]) [0, 1, 2, 3, 4, 5] rfl ?_
        exact zb_Mo_wordOf_s11_105 C hR hk5 x2 x3 x4 x5 e
      · replace e := zd_pos b5 e
        refine zk_iload_n C kd_Mo_wordOf_103 rfl 3 rfl rfl ?_
        exact zk_iret C hR kd_Mo_wordOf_104 rfl rfl (zd_rIO e)
  · replace e := zd_neg b2 e
    refine zk_iload C kd_Mo_wordOf_34 6 rfl rfl ?_
    refine zk_if_eq (tgt := 78) C kd_Mo_wordOf_36 (by decide) rfl (fun b6 => ?_) (fun b6 => ?_)
    · replace e := zd_pos b6 e
      refine zk_lvs (lv' := [(0, .ref (S.1 68)), (1, .ref (P.1 11)), (2, .int x2), (3, .int x3), (4, .int x4), (5, .int x5)]) [0, 1, 2, 3, 4, 5] rfl ?_
      exact zb_Mo_wordOf_s11_78 C hR hk5 hk20 x2 x3 x4 x5 e
    · replace e := zd_neg b6 e
      refine zk_iload C kd_Mo_wordOf_39 5 rfl rfl ?_
      refine zk_aload_n C kd_Mo_wordOf_41 rfl 0 rfl rfl ?_
      refine zs_get (v := .ref (S.1 71)) C 68 5 rfl rfl rfl rfl ki_Mo (by decide) kw1688 kd_Mo_wordOf_42 rfl ?_
      refine zk_iload_n C kd_Mo_wordOf_45 rfl 2 rfl rfl ?_
      obtain ⟨q7, e⟩ := zd_g e
      refine zs_iald C 71 rfl (zd_vp q7) kd_Mo_wordOf_46 rfl ?_
      refine zk_icmp_ge (tgt := 78) C kd_Mo_wordOf_47 (by decide) rfl (fun b8 => ?_) (fun b8 => ?_)
      · replace e := zd_pos b8 e
        refine zk_lvs (lv' := [(0, .ref (S.1 68)), (1, .ref (P.1 11)), (2, .int x2), (3, .int x3), (4, .int x4), (5, .int x5)]) [0, 1, 2, 3, 4, 5] rfl ?_
        exact zb_Mo_wordOf_s11_78 C hR hk5 hk20 x2 x3 x4 x5 e
      · replace e := zd_neg b8 e
        refine zk_aload_n C kd_Mo_wordOf_50 rfl 0 rfl rfl ?_
        refine zs_get (v := .ref (S.1 70)) C 68 4 rfl rfl rfl rfl ki_Mo (by decide) kw1687 kd_Mo_wordOf_51 rfl ?_
        refine zk_bipush (v := 32) C kd_Mo_wordOf_54 (by decide) rfl ?_
        refine zk_iload_n C kd_Mo_wordOf_56 rfl 2 rfl rfl ?_
        refine zk_imul C kd_Mo_wordOf_57 rfl ?_
        refine zk_iload C kd_Mo_wordOf_58 5 rfl rfl ?_
        refine zk_iadd C kd_Mo_wordOf_60 rfl ?_
        obtain ⟨q9, e⟩ := zd_g e
        refine zs_bald C 70 rfl (zd_vp q9) kd_Mo_wordOf_61 rfl ?_
        refine zk_aload_n C kd_Mo_wordOf_62 rfl 1 rfl rfl ?_
        refine zk_iload C kd_Mo_wordOf_63 4 rfl rfl ?_
        refine zk_iload C kd_Mo_wordOf_65 5 rfl rfl ?_
        refine zk_iadd C kd_Mo_wordOf_67 rfl ?_
        refine ze_callStr (i := 11) (As := [.int (x4 + x5)]) (rest := [.int (h.2.1 70 ((32 * x2) + x5).toNatClampNeg)]) C (zd_charAt (zs_W S h) 11 (by decide) (x4 + x5) q1 (by decide)) ku_St_charAt kw2061 kv_St_charAt (by decide) rfl rfl ⟨by decide, by decide⟩ ⟨by decide, by decide⟩ rfl (Nat.le_of_ble_eq_true rfl) kd_Mo_wordOf_68 rfl (c1 := 0) (s1 := 0) rfl rfl (fun v w hp => ?_)
        obtain ⟨rfl, rfl⟩ := hp
        refine zk_stk (r' := [.int (ze_f 11 (x4 + x5).toNatClampNeg &&& 255), .int (h.2.1 70 ((32 * x2) + x5).toNatClampNeg)]) rfl ?_
        refine zk_icmp_ne (tgt := 78) C kd_Mo_wordOf_71 (by decide) rfl (fun b10 => ?_) (fun b10 => ?_)
        · replace e := zd_neg b10 e
          refine zk_lvs (lv' := [(0, .ref (S.1 68)), (1, .ref (P.1 11)), (2, .int x2), (3, .int x3), (4, .int x4), (5, .int x5)]) [0, 1, 2, 3, 4, 5] rfl ?_
          exact zb_Mo_wordOf_s11_78 C hR hk5 hk20 x2 x3 x4 x5 e
        · replace e := zd_pos b10 e
          refine zk_iconst (v := 1) C kd_Mo_wordOf_74 (by decide) rfl ?_
          refine zk_goto (tgt := 79) C kd_Mo_wordOf_75 (by decide) ?_
          refine zk_lvs (lv' := [(0, .ref (S.1 68)), (1, .ref (P.1 11)), (2, .int x2), (3, .int x3), (4, .int x4), (5, .int x5)]) [0, 1, 2, 3, 4, 5] rfl ?_
          exact zb_Mo_wordOf_s11_79 C hR hk5 hk20 x2 x3 x4 x5 1 e
theorem zl_Mo_wordOf_s11_20 {X : zkj_T} {S : zs_T} {P : ze_T} {l : Launch} {D : va_G} {sz0 : Nat} {rv : Int32} {h : zs_H} (C : zk_C X km_Mo_wordOf (zs_G S l D sz0) { frames := 4, cells := 0, slots := 0, locals := 85 } (ze_E P)) (hR : zkj_R X (zd_PI S rv h) (some .int)) {k5 : Int32 → Int32 → Int32 → (Option Int32)} (hk5 : ∀ (x2 : Int32) (x3 : Int32) (x4 : Int32), k5 x2 x3 x4 = some rv → zk_Ab X (zs_W S h) 0 0 5 [(0, .ref (S.1 68)), (1, .ref (P.1 11)), (2, .int x2), (3, .int x3), (4, .int x4)] []) (n : Nat) : ∀ (x2 : Int32) (x3 : Int32) (x4 : Int32) (x5 : Int32) (x6 : Int32), f_Mo_wordOf_s11_L20 h k5 n x2 x3 x4 x5 x6 = some rv → zk_Ab X (zs_W S h) 0 0 20 [(0, .ref (S.1 68)), (1, .ref (P.1 11)), (2, .int x2), (3, .int x3), (4, .int x4), (5, .int x5), (6, .int x6)] [] := by
  induction n with
  | zero => intro x2 x3 x4 x5 x6 e; exact zd_no e
  | succ n ih => intro x2 x3 x4 x5 x6 e; exact zb_Mo_wordOf_s11_20 (k20 := f_Mo_wordOf_s11_L20 h k5 n) C hR hk5 ih x2 x3 x4 x5 x6 e
set_option maxHeartbeats 4000000 in
set_option maxRecDepth 100000 in
theorem zb_Mo_wordOf_s11_5 {X : zkj_T} {S : zs_T} {P : ze_T} {l : Launch} {D : va_G} {sz0 : Nat} {rv : Int32} {h : zs_H} (C : zk_C X km_Mo_wordOf (zs_G S l D sz0) { frames := 4, cells := 0, slots := 0, locals := 85 } (ze_E P)) (hR : zkj_R X (zd_PI S rv h) (some .int)) {k5 : Int32 → Int32 → Int32 → (Option Int32)} (hk5 : ∀ (x2 : Int32) (x3 : Int32) (x4 : Int32), k5 x2 x3 x4 = some rv → zk_Ab X (zs_W S h) 0 0 5 [(0, .ref (S.1 68)), (1, .ref (P.1 11)), (2, .int x2), (3, .int x3), (4, .int x4)] []) (x2 : Int32) (x3 : Int32) (x4 : Int32) (e : f_Mo_wordOf_s11_5 h k5 x2 x3 x4 = some rv) : zk_Ab X (zs_W S h) 0 0 5 [(0, .ref (S.1 68)), (1, .ref (P.1 11)), (2, .int x2), (3, .int x3), (4, .int x4)] [] := by
  unfold f_Mo_wordOf_s11_5 at e
  refine zk_iload C kd_Mo_wordOf_5 4 rfl rfl ?_
  refine zk_aload_n C kd_Mo_wordOf_7 rfl 1 rfl rfl ?_
  refine ze_callStr (i := 11) (As := []) (rest := [.int x4]) C (cs_length (zs_W S h) 11 (by decide)) ku_St_length kw2060 kv_St_length (by decide) rfl rfl ⟨by decide, by decide⟩ ⟨by decide, by decide⟩ rfl (Nat.le_of_ble_eq_true rfl) kd_Mo_wordOf_8 rfl (c1 := 0) (s1 := 0) rfl rfl (fun v w hp => ?_)
  obtain ⟨rfl, rfl⟩ := hp
  refine zk_stk (r' := [.int 54, .int x4]) rfl ?_
  refine zk_icmp_ge (tgt := 120) C kd_Mo_wordOf_11 (by decide) rfl (fun b1 => ?_) (fun b1 => ?_)
  · replace e := zd_pos b1 e
    refine zk_iconst (v := (-1)) C kd_Mo_wordOf_120 (by decide) rfl ?_
    exact zk_iret C hR kd_Mo_wordOf_121 rfl rfl (zd_rIO e)
  · replace e := zd_neg b1 e
    refine zk_iconst (v := 0) C kd_Mo_wordOf_14 (by decide) rfl ?_
    refine zk_istore (lv' := [(5, _), (0, _), (1, _), (2, _), (3, _), (4, _)]) C kd_Mo_wordOf_15 (by decide) rfl rfl ?_
    refine zk_iconst (v := 1) C kd_Mo_wordOf_17 (by decide) rfl ?_
    refine zk_istore (lv' := [(6, _), (5, _), (0, _), (1, _), (2, _), (3, _), (4, _)]) C kd_Mo_wordOf_18 (by decide) rfl rfl ?_
    refine zk_lvs (lv' := [(0, .ref (S.1 68)), (1, .ref (P.1 11)), (2, .int x2), (3, .int x3), (4, .int x4), (5, .int 0), (6, .int 1)]) [2, 3, 4, 5, 6, 1, 0] rfl ?_
    exact zl_Mo_wordOf_s11_20 C hR hk5 zF x2 x3 x4 0 1 e
theorem zl_Mo_wordOf_s11_5 {X : zkj_T} {S : zs_T} {P : ze_T} {l : Launch} {D : va_G} {sz0 : Nat} {rv : Int32} {h : zs_H} (C : zk_C X km_Mo_wordOf (zs_G S l D sz0) { frames := 4, cells := 0, slots := 0, locals := 85 } (ze_E P)) (hR : zkj_R X (zd_PI S rv h) (some .int)) (n : Nat) : ∀ (x2 : Int32) (x3 : Int32) (x4 : Int32), f_Mo_wordOf_s11_L5 h n x2 x3 x4 = some rv → zk_Ab X (zs_W S h) 0 0 5 [(0, .ref (S.1 68)), (1, .ref (P.1 11)), (2, .int x2), (3, .int x3), (4, .int x4)] [] := by
  induction n with
  | zero => intro x2 x3 x4 e; exact zd_no e
  | succ n ih => intro x2 x3 x4 e; exact zb_Mo_wordOf_s11_5 (k5 := f_Mo_wordOf_s11_L5 h n) C hR ih x2 x3 x4 e
set_option maxHeartbeats 4000000 in
set_option maxRecDepth 100000 in
theorem zc_Mo_wordOf_s11 {l : Launch} {D : va_G} {sz0 : Nat} {S : zs_T} {P : ze_T} (h : zs_H) (x2 : Int32) {rv : Int32} (e : f_Mo_wordOf_s11 h x2 = some rv) : zk_Sp (zs_G S l D sz0) (ze_E P) km_Mo_wordOf { frames := 4, cells := 0, slots := 0, locals := 85 } [.ref (S.1 68), .ref (P.1 11), .int x2] (zs_W S h) (zd_PI S rv h) := by
  refine zk_met ku_Mo_wordOf (Nat.le_of_ble_eq_true rfl) (ze_Em P) ?_
  intro X C hR
  refine zk_lvs (lv' := [(0, .ref (S.1 68)), (1, .ref (P.1 11)), (2, .int x2)]) [0, 1, 2] rfl ?_
  unfold f_Mo_wordOf_s11 at e
  refine zk_iconst (v := 0) C kd_Mo_wordOf_0 (by decide) rfl ?_
  refine zk_istore_n (lv' := [(3, _), (0, _), (1, _), (2, _)]) C kd_Mo_wordOf_1 rfl (by decide) rfl rfl ?_
  refine zk_iconst (v := 1) C kd_Mo_wordOf_2 (by decide) rfl ?_
  refine zk_istore (lv' := [(4, _), (3, _), (0, _), (1, _), (2, _)]) C kd_Mo_wordOf_3 (by decide) rfl rfl ?_
  refine zk_lvs (lv' := [(0, .ref (S.1 68)), (1, .ref (P.1 11)), (2, .int x2), (3, .int 0), (4, .int 1)]) [2, 3, 4, 1, 0] rfl ?_
  exact zl_Mo_wordOf_s11_5 C hR zF x2 0 1 e
set_option maxHeartbeats 4000000 in
set_option maxRecDepth 100000 in
theorem zc_Mo_isStandard {l : Launch} {D : va_G} {sz0 : Nat} {S : zs_T} {P : ze_T} (h : zs_H) (x1 : Int32) {rv : Int32} (e : f_Mo_isStandard h x1 = some rv) : zk_Sp (zs_G S l D sz0) (ze_E P) km_Mo_isStandard { frames := 5, cells := 0, slots := 0, locals := 111 } [.ref (S.1 68), .int x1] (zs_W S h) (zd_PZ S rv h) := by
  refine zk_met ku_Mo_isStandard (Nat.le_of_ble_eq_true rfl) (ze_Em P) ?_
  intro X C hR
  refine zk_lvs (lv' := [(0, .ref (S.1 68)), (1, .int x1)]) [0, 1] rfl ?_
  unfold f_Mo_isStandard at e
  refine zk_aload_n C kd_Mo_isStandard_0 rfl 0 rfl rfl ?_
  refine ze_ldcSw (i := 10) C (zd_str 10 rfl) kd_Mo_isStandard_1 rfl ?_
  refine zk_iload_n C kd_Mo_isStandard_4 rfl 1 rfl rfl ?_
  obtain ⟨v2, c1, e⟩ := zd_b e
  refine zs_callV (k := 68) (rn := { frames := 4, cells := 0, slots := 0, locals := 85 }) (As := [.ref (P.1 10), .int x1]) (rest := []) C (zc_Mo_wordOf_s10 h x1 c1) ku_Mo_wordOf kw2273 kv_Mo_wordOf rfl ⟨by decide, by decide⟩ ⟨by decide, by decide⟩ rfl rfl rfl (Nat.le_of_ble_eq_true rfl) kd_Mo_isStandard_5 rfl (c1 := 0) (s1 := 0) rfl rfl (fun v w hp => ?_)
  obtain ⟨rfl, rfl⟩ := hp
  refine zk_stk (r' := [.int v2]) rfl ?_
  refine zk_if_ge (tgt := 22) C kd_Mo_isStandard_8 (by decide) rfl (fun b3 => ?_) (fun b3 => ?_)
  · replace e := zd_pos b3 e
    refine zk_iconst (v := 1) C kd_Mo_isStandard_22 (by decide) rfl ?_
    refine zk_goto (tgt := 27) C kd_Mo_isStandard_23 (by decide) ?_
    exact zk_zret C hR (zd_nb (Or.inr rfl)) kd_Mo_isStandard_27 rfl rfl (zd_rZO (Or.inr rfl) e)
  · replace e := zd_neg b3 e
    refine zk_aload_n C kd_Mo_isStandard_11 rfl 0 rfl rfl ?_
    refine ze_ldcSw (i := 11) C (zd_str 11 rfl) kd_Mo_isStandard_12 rfl ?_
    refine zk_iload_n C kd_Mo_isStandard_15 rfl 1 rfl rfl ?_
    obtain ⟨v5, c4, e⟩ := zd_b e
    refine zs_callV (k := 68) (rn := { frames := 4, cells := 0, slots := 0, locals := 85 }) (As := [.ref (P.1 11), .int x1]) (rest := []) C (zc_Mo_wordOf_s11 h x1 c4) ku_Mo_wordOf kw2273 kv_Mo_wordOf rfl ⟨by decide, by decide⟩ ⟨by decide, by decide⟩ rfl rfl rfl (Nat.le_of_ble_eq_true rfl) kd_Mo_isStandard_16 rfl (c1 := 0) (s1 := 0) rfl rfl (fun v w hp => ?_)
    obtain ⟨rfl, rfl⟩ := hp
    refine zk_stk (r' := [.int v5]) rfl ?_
    refine zk_if_lt (tgt := 26) C kd_Mo_isStandard_19 (by decide) rfl (fun b6 => ?_) (fun b6 => ?_)
    · replace e := zd_pos b6 e
      refine zk_iconst (v := 0) C kd_Mo_isStandard_26 (by decide) rfl ?_
      exact zk_zret C hR (zd_nb (Or.inl rfl)) kd_Mo_isStandard_27 rfl rfl (zd_rZO (Or.inl rfl) e)
    · replace e := zd_neg b6 e
      refine zk_iconst (v := 1) C kd_Mo_isStandard_22 (by decide) rfl ?_
      refine zk_goto (tgt := 27) C kd_Mo_isStandard_23 (by decide) ?_
      exact zk_zret C hR (zd_nb (Or.inr rfl)) kd_Mo_isStandard_27 rfl rfl (zd_rZO (Or.inr rfl) e)
set_option maxHeartbeats 4000000 in
set_option maxRecDepth 100000 in
theorem zb_Mo_blockNamed_2 {X : zkj_T} {S : zs_T} {P : ze_T} {l : Launch} {D : va_G} {sz0 : Nat} {rv : Int32} {h : zs_H} (C : zk_C X km_Mo_blockNamed (zs_G S l D sz0) { frames := 0, cells := 0, slots := 0, locals := 0 } (ze_E P)) (hR : zkj_R X (zd_PI S rv h) (some .int)) {k2 : Int32 → Int32 → Int32 → (Option Int32)} (hk2 : ∀ (x1 : Int32) (x2 : Int32) (x3 : Int32), k2 x1 x2 x3 = some rv → zk_Ab X (zs_W S h) 0 0 2 [(0, .ref (S.1 68)), (1, .int x1), (2, .int x2), (3, .int x3)] []) (x1 : Int32) (x2 : Int32) (x3 : Int32) (e : f_Mo_blockNamed_2 h k2 x1 x2 x3 = some rv) : zk_Ab X (zs_W S h) 0 0 2 [(0, .ref (S.1 68)), (1, .int x1), (2, .int x2), (3, .int x3)] [] := by
  unfold f_Mo_blockNamed_2 at e
  refine zk_iload_n C kd_Mo_blockNamed_2 rfl 3 rfl rfl ?_
  refine zk_iload_n C kd_Mo_blockNamed_3 rfl 2 rfl rfl ?_
  refine zk_icmp_ge (tgt := 25) C kd_Mo_blockNamed_4 (by decide) rfl (fun b1 => ?_) (fun b1 => ?_)
  · replace e := zd_pos b1 e
    refine zk_iconst (v := (-1)) C kd_Mo_blockNamed_25 (by decide) rfl ?_
    exact zk_iret C hR kd_Mo_blockNamed_26 rfl rfl (zd_rIO e)
  · replace e := zd_neg b1 e
    refine zk_aload_n C kd_Mo_blockNamed_7 rfl 0 rfl rfl ?_
    refine zs_get (v := .ref (S.1 85)) C 68 35 rfl rfl rfl rfl ki_Mo (by decide) kw1718 kd_Mo_blockNamed_8 rfl ?_
    refine zk_iload_n C kd_Mo_blockNamed_11 rfl 3 rfl rfl ?_
    obtain ⟨q2, e⟩ := zd_g e
    refine zs_iald C 85 rfl (zd_vp q2) kd_Mo_blockNamed_12 rfl ?_
    refine zk_iload_n C kd_Mo_blockNamed_13 rfl 1 rfl rfl ?_
    refine zk_icmp_ne (tgt := 19) C kd_Mo_blockNamed_14 (by decide) rfl (fun b3 => ?_) (fun b3 => ?_)
    · replace e := zd_neg b3 e
      refine zk_iinc (v := (x3 + 1)) (lv' := [(3, _), (0, _), (1, _), (2, _)]) C kd_Mo_blockNamed_19 3 rfl rfl (by decide) rfl rfl ?_
      refine zk_goto (tgt := 2) C kd_Mo_blockNamed_22 (by decide) ?_
      refine zk_lvs (lv' := [(0, .ref (S.1 68)), (1, .int x1), (2, .int x2), (3, .int (x3 + 1))]) [1, 2, 3, 0] rfl ?_
      exact hk2 x1 x2 (x3 + 1) e
    · replace e := zd_pos b3 e
      refine zk_iload_n C kd_Mo_blockNamed_17 rfl 3 rfl rfl ?_
      exact zk_iret C hR kd_Mo_blockNamed_18 rfl rfl (zd_rIO e)
theorem zl_Mo_blockNamed_2 {X : zkj_T} {S : zs_T} {P : ze_T} {l : Launch} {D : va_G} {sz0 : Nat} {rv : Int32} {h : zs_H} (C : zk_C X km_Mo_blockNamed (zs_G S l D sz0) { frames := 0, cells := 0, slots := 0, locals := 0 } (ze_E P)) (hR : zkj_R X (zd_PI S rv h) (some .int)) (n : Nat) : ∀ (x1 : Int32) (x2 : Int32) (x3 : Int32), f_Mo_blockNamed_L2 h n x1 x2 x3 = some rv → zk_Ab X (zs_W S h) 0 0 2 [(0, .ref (S.1 68)), (1, .int x1), (2, .int x2), (3, .int x3)] [] := by
  induction n with
  | zero => intro x1 x2 x3 e; exact zd_no e
  | succ n ih => intro x1 x2 x3 e; exact zb_Mo_blockNamed_2 (k2 := f_Mo_blockNamed_L2 h n) C hR ih x1 x2 x3 e
set_option maxHeartbeats 4000000 in
set_option maxRecDepth 100000 in
theorem zc_Mo_blockNamed {l : Launch} {D : va_G} {sz0 : Nat} {S : zs_T} {P : ze_T} (h : zs_H) (x1 : Int32) (x2 : Int32) {rv : Int32} (e : f_Mo_blockNamed h x1 x2 = some rv) : zk_Sp (zs_G S l D sz0) (ze_E P) km_Mo_blockNamed { frames := 0, cells := 0, slots := 0, locals := 0 } [.ref (S.1 68), .int x1, .int x2] (zs_W S h) (zd_PI S rv h) := by
  refine zk_met ku_Mo_blockNamed (Nat.le_of_ble_eq_true rfl) (ze_Em P) ?_
  intro X C hR
  refine zk_lvs (lv' := [(0, .ref (S.1 68)), (1, .int x1), (2, .int x2)]) [0, 1, 2] rfl ?_
  unfold f_Mo_blockNamed at e
  refine zk_iconst (v := 0) C kd_Mo_blockNamed_0 (by decide) rfl ?_
  refine zk_istore_n (lv' := [(3, _), (0, _), (1, _), (2, _)]) C kd_Mo_blockNamed_1 rfl (by decide) rfl rfl ?_
  refine zk_lvs (lv' := [(0, .ref (S.1 68)), (1, .int x1), (2, .int x2), (3, .int 0)]) [1, 2, 3, 0] rfl ?_
  exact zl_Mo_blockNamed_2 C hR zF x1 x2 0 e
set_option maxHeartbeats 4000000 in
set_option maxRecDepth 100000 in
theorem zc_Mo_addVariable {l : Launch} {D : va_G} {sz0 : Nat} {S : zs_T} {P : ze_T} (h : zs_H) (x1 : Int32) {rv : Int32} {rh : zs_H} (e : f_Mo_addVariable h x1 = some (rv, rh)) : zk_Sp (zs_G S l D sz0) (ze_E P) km_Mo_addVariable { frames := 0, cells := 0, slots := 0, locals := 0 } [.ref (S.1 68), .int x1] (zs_W S h) (zd_PI S rv rh) := by
  refine zk_met ku_Mo_addVariable (Nat.le_of_ble_eq_true rfl) (ze_Em P) ?_
  intro X C hR
  refine zk_lvs (lv' := [(0, .ref (S.1 68)), (1, .int x1)]) [0, 1] rfl ?_
  unfold f_Mo_addVariable at e
  refine zk_aload_n C kd_Mo_addVariable_0 rfl 0 rfl rfl ?_
  refine zs_get (v := .ref (S.1 91)) C 68 42 rfl rfl rfl rfl ki_Mo (by decide) kw1725 kd_Mo_addVariable_1 rfl ?_
  refine zk_aload_n C kd_Mo_addVariable_4 rfl 0 rfl rfl ?_
  refine zs_get (v := .int (h.1 68 41)) C 68 41 rfl rfl rfl rfl ki_Mo (by decide) kw1724 kd_Mo_addVariable_5 rfl ?_
  refine zk_iload_n C kd_Mo_addVariable_8 rfl 1 rfl rfl ?_
  obtain ⟨q1, e⟩ := zd_g e
  refine zs_iast C 91 rfl (zd_vp q1) kd_Mo_addVariable_9 rfl ?_
  refine zk_aload_n C kd_Mo_addVariable_10 rfl 0 rfl rfl ?_
  refine zs_get (v := .ref (S.1 92)) C 68 43 rfl rfl rfl rfl ki_Mo (by decide) kw1726 kd_Mo_addVariable_11 rfl ?_
  refine zk_aload_n C kd_Mo_addVariable_14 rfl 0 rfl rfl ?_
  refine zs_get (v := .int (h.1 68 41)) C 68 41 rfl rfl rfl rfl ki_Mo (by decide) kw1724 kd_Mo_addVariable_15 rfl ?_
  refine zk_iconst (v := 0) C kd_Mo_addVariable_18 (by decide) rfl ?_
  refine zs_iast C 92 rfl (zd_vp q1) kd_Mo_addVariable_19 rfl ?_
  refine zk_aload_n C kd_Mo_addVariable_20 rfl 0 rfl rfl ?_
  refine zs_get (v := .ref (S.1 93)) C 68 44 rfl rfl rfl rfl ki_Mo (by decide) kw1727 kd_Mo_addVariable_21 rfl ?_
  refine zk_aload_n C kd_Mo_addVariable_24 rfl 0 rfl rfl ?_
  refine zs_get (v := .int (h.1 68 41)) C 68 41 rfl rfl rfl rfl ki_Mo (by decide) kw1724 kd_Mo_addVariable_25 rfl ?_
  refine zk_iconst (v := (-1)) C kd_Mo_addVariable_28 (by decide) rfl ?_
  refine zs_iast C 93 rfl (zd_vp q1) kd_Mo_addVariable_29 rfl ?_
  refine zk_aload_n C kd_Mo_addVariable_30 rfl 0 rfl rfl ?_
  refine zs_get (v := .ref (S.1 94)) C 68 45 rfl rfl rfl rfl ki_Mo (by decide) kw1728 kd_Mo_addVariable_31 rfl ?_
  refine zk_aload_n C kd_Mo_addVariable_34 rfl 0 rfl rfl ?_
  refine zs_get (v := .int (h.1 68 41)) C 68 41 rfl rfl rfl rfl ki_Mo (by decide) kw1724 kd_Mo_addVariable_35 rfl ?_
  refine zk_iconst (v := (-1)) C kd_Mo_addVariable_38 (by decide) rfl ?_
  refine zs_iast C 94 rfl (zd_vp q1) kd_Mo_addVariable_39 rfl ?_
  refine zk_aload_n C kd_Mo_addVariable_40 rfl 0 rfl rfl ?_
  refine zs_get (v := .ref (S.1 95)) C 68 46 rfl rfl rfl rfl ki_Mo (by decide) kw1729 kd_Mo_addVariable_41 rfl ?_
  refine zk_aload_n C kd_Mo_addVariable_44 rfl 0 rfl rfl ?_
  refine zs_get (v := .int (h.1 68 41)) C 68 41 rfl rfl rfl rfl ki_Mo (by decide) kw1724 kd_Mo_addVariable_45 rfl ?_
  refine zk_iconst (v := 0) C kd_Mo_addVariable_48 (by decide) rfl ?_
  refine zs_iast C 95 rfl (zd_vp q1) kd_Mo_addVariable_49 rfl ?_
  refine zk_aload_n C kd_Mo_addVariable_50 rfl 0 rfl rfl ?_
  refine zs_get (v := .ref (S.1 96)) C 68 47 rfl rfl rfl rfl ki_Mo (by decide) kw1730 kd_Mo_addVariable_51 rfl ?_
  refine zk_aload_n C kd_Mo_addVariable_54 rfl 0 rfl rfl ?_
  refine zs_get (v := .int (h.1 68 41)) C 68 41 rfl rfl rfl rfl ki_Mo (by decide) kw1724 kd_Mo_addVariable_55 rfl ?_
  refine zk_iconst (v := (-1)) C kd_Mo_addVariable_58 (by decide) rfl ?_
  refine zs_iast C 96 rfl (zd_vp q1) kd_Mo_addVariable_59 rfl ?_
  refine zk_aload_n C kd_Mo_addVariable_60 rfl 0 rfl rfl ?_
  refine zs_get (v := .ref (S.1 97)) C 68 48 rfl rfl rfl rfl ki_Mo (by decide) kw1731 kd_Mo_addVariable_61 rfl ?_
  refine zk_aload_n C kd_Mo_addVariable_64 rfl 0 rfl rfl ?_
  refine zs_get (v := .int (h.1 68 41)) C 68 41 rfl rfl rfl rfl ki_Mo (by decide) kw1724 kd_Mo_addVariable_65 rfl ?_
  refine zk_iconst (v := 0) C kd_Mo_addVariable_68 (by decide) rfl ?_
  refine zs_iast C 97 rfl (zd_vp q1) kd_Mo_addVariable_69 rfl ?_
  refine zk_aload_n C kd_Mo_addVariable_70 rfl 0 rfl rfl ?_
  refine zs_get (v := .ref (S.1 98)) C 68 49 rfl rfl rfl rfl ki_Mo (by decide) kw1732 kd_Mo_addVariable_71 rfl ?_
  refine zk_aload_n C kd_Mo_addVariable_74 rfl 0 rfl rfl ?_
  refine zs_get (v := .int (h.1 68 41)) C 68 41 rfl rfl rfl rfl ki_Mo (by decide) kw1724 kd_Mo_addVariable_75 rfl ?_
  refine zk_iconst (v := 1) C kd_Mo_addVariable_78 (by decide) rfl ?_
  refine zs_iast C 98 rfl (zd_vp q1) kd_Mo_addVariable_79 rfl ?_
  refine zk_aload_n C kd_Mo_addVariable_80 rfl 0 rfl rfl ?_
  refine zs_get (v := .ref (S.1 99)) C 68 50 rfl rfl rfl rfl ki_Mo (by decide) kw1733 kd_Mo_addVariable_81 rfl ?_
  refine zk_aload_n C kd_Mo_addVariable_84 rfl 0 rfl rfl ?_
  refine zs_get (v := .int (h.1 68 41)) C 68 41 rfl rfl rfl rfl ki_Mo (by decide) kw1724 kd_Mo_addVariable_85 rfl ?_
  refine zk_iconst (v := 0) C kd_Mo_addVariable_88 (by decide) rfl ?_
  refine zs_iast C 99 rfl (zd_vp q1) kd_Mo_addVariable_89 rfl ?_
  refine zk_aload_n C kd_Mo_addVariable_90 rfl 0 rfl rfl ?_
  refine zk_dup C kd_Mo_addVariable_91 rfl rfl ?_
  refine zs_get (v := .int (h.1 68 41)) C 68 41 rfl rfl rfl rfl ki_Mo (by decide) kw1724 kd_Mo_addVariable_92 rfl ?_
  refine zk_iconst (v := 1) C kd_Mo_addVariable_95 (by decide) rfl ?_
  refine zk_iadd C kd_Mo_addVariable_96 rfl ?_
  refine zs_put (ty := .int) C 68 41 ((h.1 68 41) + 1) rfl rfl rfl rfl ki_Mo ky_Mo ko_Mo kn_Mo (by decide) kw1724 rfl rfl rfl rfl (by decide) kd_Mo_addVariable_97 rfl ?_
  refine zk_aload_n C kd_Mo_addVariable_100 rfl 0 rfl rfl ?_
  refine zs_get (v := .int ((h.1 68 41) + 1)) C 68 41 rfl rfl rfl rfl ki_Mo (by decide) kw1724 kd_Mo_addVariable_101 rfl ?_
  refine zk_iconst (v := 1) C kd_Mo_addVariable_104 (by decide) rfl ?_
  refine zk_isub C kd_Mo_addVariable_105 rfl ?_
  exact zk_iret C hR kd_Mo_addVariable_106 rfl rfl (zd_rIS e)
set_option maxHeartbeats 4000000 in
set_option maxRecDepth 100000 in
theorem zc_Mo_layOut {l : Launch} {D : va_G} {sz0 : Nat} {S : zs_T} {P : ze_T} (h : zs_H) (x1 : Int32) (x2 : Int32) (x3 : Int32) (x4 : Int32) {rh : zs_H} (e : f_Mo_layOut h x1 x2 x3 x4 = some rh) : zk_Sp (zs_G S l D sz0) (ze_E P) km_Mo_layOut { frames := 0, cells := 0, slots := 0, locals := 0 } [.ref (S.1 68), .int x1, .int x2, .int x3, .int x4] (zs_W S h) (zd_PV S rh) := by
  refine zk_met ku_Mo_layOut (Nat.le_of_ble_eq_true rfl) (ze_Em P) ?_
  intro X C hR
  refine zk_lvs (lv' := [(0, .ref (S.1 68)), (1, .int x1), (2, .int x2), (3, .int x3), (4, .int x4)]) [0, 1, 2, 3, 4] rfl ?_
  unfold f_Mo_layOut at e
  refine zk_aload_n C kd_Mo_layOut_0 rfl 0 rfl rfl ?_
  refine zs_get (v := .ref (S.1 92)) C 68 43 rfl rfl rfl rfl ki_Mo (by decide) kw1726 kd_Mo_layOut_1 rfl ?_
  refine zk_iload_n C kd_Mo_layOut_4 rfl 1 rfl rfl ?_
  refine zk_iload_n C kd_Mo_layOut_5 rfl 2 rfl rfl ?_
  obtain ⟨q1, e⟩ := zd_g e
  refine zs_iast C 92 rfl (zd_vp q1) kd_Mo_layOut_6 rfl ?_
  refine zk_aload_n C kd_Mo_layOut_7 rfl 0 rfl rfl ?_
  refine zs_get (v := .ref (S.1 93)) C 68 44 rfl rfl rfl rfl ki_Mo (by decide) kw1727 kd_Mo_layOut_8 rfl ?_
  refine zk_iload_n C kd_Mo_layOut_11 rfl 1 rfl rfl ?_
  refine zk_iload_n C kd_Mo_layOut_12 rfl 3 rfl rfl ?_
  refine zs_iast C 93 rfl (zd_vp q1) kd_Mo_layOut_13 rfl ?_
  refine zk_aload_n C kd_Mo_layOut_14 rfl 0 rfl rfl ?_
  refine zs_get (v := .ref (S.1 94)) C 68 45 rfl rfl rfl rfl ki_Mo (by decide) kw1728 kd_Mo_layOut_15 rfl ?_
  refine zk_iload_n C kd_Mo_layOut_18 rfl 1 rfl rfl ?_
  refine zk_aload_n C kd_Mo_layOut_19 rfl 0 rfl rfl ?_
  refine zs_get (v := .ref (S.1 88)) C 68 38 rfl rfl rfl rfl ki_Mo (by decide) kw1721 kd_Mo_layOut_20 rfl ?_
  refine zk_aload_n C kd_Mo_layOut_23 rfl 0 rfl rfl ?_
  refine zs_get (v := .int (h.1 68 54)) C 68 54 rfl rfl rfl rfl ki_Mo (by decide) kw1737 kd_Mo_layOut_24 rfl ?_
  obtain ⟨q2, e⟩ := zd_g e
  refine zs_iald C 88 rfl (zd_vp q2) kd_Mo_layOut_27 rfl ?_
  refine zk_stk (r' := [.int (h.2.1 88 (h.1 68 54).toNatClampNeg), .int x1, .ref (S.1 94)]) rfl ?_
  refine zs_iast C 94 rfl (zd_vp q1) kd_Mo_layOut_28 rfl ?_
  refine zk_aload_n C kd_Mo_layOut_29 rfl 0 rfl rfl ?_
  refine zs_get (v := .ref (S.1 88)) C 68 38 rfl rfl rfl rfl ki_Mo (by decide) kw1721 kd_Mo_layOut_30 rfl ?_
  refine zk_aload_n C kd_Mo_layOut_33 rfl 0 rfl rfl ?_
  refine zs_get (v := .int (h.1 68 54)) C 68 54 rfl rfl rfl rfl ki_Mo (by decide) kw1737 kd_Mo_layOut_34 rfl ?_
  refine zk_dup2 C kd_Mo_layOut_37 rfl rfl rfl ?_
  refine zs_iald C 88 rfl (zd_vp q2) kd_Mo_layOut_38 rfl ?_
  refine zk_stk (r' := [.int (h.2.1 88 (h.1 68 54).toNatClampNeg), .int (h.1 68 54), .ref (S.1 88)]) rfl ?_
  refine zk_iload C kd_Mo_layOut_39 4 rfl rfl ?_
  refine zk_iadd C kd_Mo_layOut_41 rfl ?_
  refine zs_iast C 88 rfl (zd_vp q2) kd_Mo_layOut_42 rfl ?_
  exact zk_vret C hR kd_Mo_layOut_43 rfl rfl (zd_rV e)
set_option maxHeartbeats 4000000 in
set_option maxRecDepth 100000 in
theorem zb_Mo_beginBlock_183 {X : zkj_T} {S : zs_T} {P : ze_T} {l : Launch} {D : va_G} {sz0 : Nat} {rh : zs_H} (C : zk_C X km_Mo_beginBlock (zs_G S l D sz0) { frames := 6, cells := 0, slots := 0, locals := 132 } (ze_E P)) (hR : zkj_R X (zd_PV S rh) (none)) (h : zs_H) (x1 : Int32) (y0 : Int32) (y1 : Int32) (e : f_Mo_beginBlock_183 h x1 y0 y1 = some rh) : zk_Ab X (zs_W S h) 0 0 183 [(0, .ref (S.1 68)), (1, .int x1)] [.int y0, .int y1, .ref (S.1 88)] := by
  unfold f_Mo_beginBlock_183 at e
  obtain ⟨q1, e⟩ := zd_g e
  refine zs_iast C 88 rfl (zd_vp q1) kd_Mo_beginBlock_183 rfl ?_
  refine zk_aload_n C kd_Mo_beginBlock_184 rfl 0 rfl rfl ?_
  refine zs_get (v := .ref (S.1 89)) C 68 39 rfl rfl rfl rfl ki_Mo (by decide) kw1722 kd_Mo_beginBlock_185 rfl ?_
  refine zk_aload_n C kd_Mo_beginBlock_188 rfl 0 rfl rfl ?_
  refine zs_get (v := .int (h.1 68 54)) C 68 54 rfl rfl rfl rfl ki_Mo (by decide) kw1737 kd_Mo_beginBlock_189 rfl ?_
  refine zk_iconst (v := (-1)) C kd_Mo_beginBlock_192 (by decide) rfl ?_
  obtain ⟨q2, e⟩ := zd_g e
  refine zs_iast C 89 rfl (zd_vp q2) kd_Mo_beginBlock_193 rfl ?_
  refine zk_aload_n C kd_Mo_beginBlock_194 rfl 0 rfl rfl ?_
  refine zs_get (v := .ref (S.1 90)) C 68 40 rfl rfl rfl rfl ki_Mo (by decide) kw1723 kd_Mo_beginBlock_195 rfl ?_
  refine zk_aload_n C kd_Mo_beginBlock_198 rfl 0 rfl rfl ?_
  refine zs_get (v := .int (h.1 68 54)) C 68 54 rfl rfl rfl rfl ki_Mo (by decide) kw1737 kd_Mo_beginBlock_199 rfl ?_
  refine zk_aload_n C kd_Mo_beginBlock_202 rfl 0 rfl rfl ?_
  refine zs_get (v := .int (h.1 68 41)) C 68 41 rfl rfl rfl rfl ki_Mo (by decide) kw1724 kd_Mo_beginBlock_203 rfl ?_
  obtain ⟨q3, e⟩ := zd_g e
  refine zs_iast C 90 rfl (zd_vp q3) kd_Mo_beginBlock_206 rfl ?_
  refine zk_aload_n C kd_Mo_beginBlock_207 rfl 0 rfl rfl ?_
  refine zk_dup C kd_Mo_beginBlock_208 rfl rfl ?_
  refine zs_get (v := .int (h.1 68 33)) C 68 33 rfl rfl rfl rfl ki_Mo (by decide) kw1716 kd_Mo_beginBlock_209 rfl ?_
  refine zk_iconst (v := 1) C kd_Mo_beginBlock_212 (by decide) rfl ?_
  refine zk_iadd C kd_Mo_beginBlock_213 rfl ?_
  refine zs_put (ty := .int) C 68 33 ((h.1 68 33) + 1) rfl rfl rfl rfl ki_Mo ky_Mo ko_Mo kn_Mo (by decide) kw1716 rfl rfl rfl rfl (by decide) kd_Mo_beginBlock_214 rfl ?_
  refine zk_aload_n C kd_Mo_beginBlock_217 rfl 0 rfl rfl ?_
  refine zs_get (v := .ref (S.1 72)) C 68 15 rfl rfl rfl rfl ki_Mo (by decide) kw1698 kd_Mo_beginBlock_218 rfl ?_
  refine zk_iload_n C kd_Mo_beginBlock_221 rfl 1 rfl rfl ?_
  obtain ⟨q4, e⟩ := zd_g e
  refine zs_iald C 72 rfl (zd_vp q4) kd_Mo_beginBlock_222 rfl ?_
  refine zk_stk (r' := [.int (h.2.1 72 x1.toNatClampNeg)]) rfl ?_
  refine zk_iconst (v := 1) C kd_Mo_beginBlock_223 (by decide) rfl ?_
  refine zk_icmp_ne (tgt := 254) C kd_Mo_beginBlock_224 (by decide) rfl (fun b5 => ?_) (fun b5 => ?_)
  · replace e := zd_neg b5 e
    exact zk_vret C hR kd_Mo_beginBlock_254 rfl rfl (zd_rV e)
  · replace e := zd_pos b5 e
    refine zk_aload_n C kd_Mo_beginBlock_227 rfl 0 rfl rfl ?_
    refine zk_aload_n C kd_Mo_beginBlock_228 rfl 0 rfl rfl ?_
    refine zs_get (v := .ref (S.1 74)) C 68 17 rfl rfl rfl rfl ki_Mo (by decide) kw1700 kd_Mo_beginBlock_229 rfl ?_
    refine zk_iload_n C kd_Mo_beginBlock_232 rfl 1 rfl rfl ?_
    refine zs_iald C 74 rfl (zd_vp q4) kd_Mo_beginBlock_233 rfl ?_
    refine zk_stk (r' := [.int (h.2.1 74 x1.toNatClampNeg), .ref (S.1 68)]) rfl ?_
    obtain ⟨v7, h8, c6, e⟩ := zd_Be e
    refine zs_callV (k := 68) (rn := { frames := 0, cells := 0, slots := 0, locals := 0 }) (As := [.int (h.2.1 74 x1.toNatClampNeg)]) (rest := []) C (zc_Mo_addVariable (zs_uF (zs_uM (zs_uM (zs_uM h 88 y1.toNatClampNeg y0) 89 (h.1 68 54).toNatClampNeg (-1)) 90 (h.1 68 54).toNatClampNeg (h.1 68 41)) 68 33 ((h.1 68 33) + 1)) (h.2.1 74 x1.toNatClampNeg) c6) ku_Mo_addVariable kw2282 kv_Mo_addVariable rfl ⟨by decide, by decide⟩ ⟨by decide, by decide⟩ rfl rfl rfl (Nat.le_of_ble_eq_true rfl) kd_Mo_beginBlock_234 rfl (c1 := 0) (s1 := 0) rfl rfl (fun v w hp => ?_)
    obtain ⟨rfl, rfl⟩ := hp
    refine zk_stk (r' := [.int v7]) rfl ?_
    refine zk_istore_n (lv' := [(2, _), (0, _), (1, _)]) C kd_Mo_beginBlock_237 rfl (by decide) rfl rfl ?_
    refine zk_aload_n C kd_Mo_beginBlock_238 rfl 1 rfl rfl ?_
    refine zk_iload_n C kd_Mo_beginBlock_239 rfl 0 rfl rfl ?_
    refine zk_iconst (v := 0) C kd_Mo_beginBlock_240 (by decide) rfl ?_
    refine zk_aload_n C kd_Mo_beginBlock_241 rfl 1 rfl rfl ?_
    refine zs_get (v := .ref (S.1 87)) C 68 37 rfl rfl rfl rfl ki_Mo (by decide) kw1720 kd_Mo_beginBlock_242 rfl ?_
    refine zk_aload_n C kd_Mo_beginBlock_245 rfl 1 rfl rfl ?_
    refine zs_get (v := .int (h8.1 68 54)) C 68 54 rfl rfl rfl rfl ki_Mo (by decide) kw1737 kd_Mo_beginBlock_246 rfl ?_
    obtain ⟨q9, e⟩ := zd_g e
    refine zs_iald C 87 rfl (zd_vp q9) kd_Mo_beginBlock_249 rfl ?_
    refine zk_iconst (v := 1) C kd_Mo_beginBlock_250 (by decide) rfl ?_
    obtain ⟨h11, c10, e⟩ := zd_b e
    refine zs_callV (k := 68) (rn := { frames := 0, cells := 0, slots := 0, locals := 0 }) (As := [.int v7, .int 0, .int (h8.2.1 87 (h8.1 68 54).toNatClampNeg), .int 1]) (rest := []) C (zc_Mo_layOut h8 v7 0 (h8.2.1 87 (h8.1 68 54).toNatClampNeg) 1 c10) ku_Mo_layOut kw2286 kv_Mo_layOut rfl ⟨by decide, by decide⟩ ⟨by decide, by decide⟩ rfl rfl rfl (Nat.le_of_ble_eq_true rfl) kd_Mo_beginBlock_251 rfl (c1 := 0) (s1 := 0) rfl rfl (fun v w hp => ?_)
    obtain ⟨rfl, rfl⟩ := hp
    refine zk_stk (r' := []) rfl ?_
    exact zk_vret C hR kd_Mo_beginBlock_254 rfl rfl (zd_rV e)
set_option maxHeartbeats 4000000 in
set_option maxRecDepth 100000 in
theorem zb_Mo_beginBlock_157 {X : zkj_T} {S : zs_T} {P : ze_T} {l : Launch} {D : va_G} {sz0 : Nat} {rh : zs_H} (C : zk_C X km_Mo_beginBlock (zs_G S l D sz0) { frames := 6, cells := 0, slots := 0, locals := 132 } (ze_E P)) (hR : zkj_R X (zd_PV S rh) (none)) (h : zs_H) (x1 : Int32) (y0 : Int32) (y1 : Int32) (e : f_Mo_beginBlock_157 h x1 y0 y1 = some rh) : zk_Ab X (zs_W S h) 0 0 157 [(0, .ref (S.1 68)), (1, .int x1)] [.int y0, .int y1, .ref (S.1 87)] := by
  unfold f_Mo_beginBlock_157 at e
  obtain ⟨q1, e⟩ := zd_g e
  refine zs_iast C 87 rfl (zd_vp q1) kd_Mo_beginBlock_157 rfl ?_
  refine zk_aload_n C kd_Mo_beginBlock_158 rfl 0 rfl rfl ?_
  refine zs_get (v := .ref (S.1 88)) C 68 38 rfl rfl rfl rfl ki_Mo (by decide) kw1721 kd_Mo_beginBlock_159 rfl ?_
  refine zk_aload_n C kd_Mo_beginBlock_162 rfl 0 rfl rfl ?_
  refine zs_get (v := .int (h.1 68 54)) C 68 54 rfl rfl rfl rfl ki_Mo (by decide) kw1737 kd_Mo_beginBlock_163 rfl ?_
  refine zk_aload_n C kd_Mo_beginBlock_166 rfl 0 rfl rfl ?_
  refine zs_get (v := .ref (S.1 72)) C 68 15 rfl rfl rfl rfl ki_Mo (by decide) kw1698 kd_Mo_beginBlock_167 rfl ?_
  refine zk_iload_n C kd_Mo_beginBlock_170 rfl 1 rfl rfl ?_
  obtain ⟨q2, e⟩ := zd_g e
  refine zs_iald C 72 rfl (zd_vp q2) kd_Mo_beginBlock_171 rfl ?_
  refine zk_stk (r' := [.int (h.2.1 72 x1.toNatClampNeg), .int (h.1 68 54), .ref (S.1 88)]) rfl ?_
  refine zk_iconst (v := 3) C kd_Mo_beginBlock_172 (by decide) rfl ?_
  refine zk_icmp_ne (tgt := 182) C kd_Mo_beginBlock_173 (by decide) rfl (fun b3 => ?_) (fun b3 => ?_)
  · replace e := zd_neg b3 e
    refine zk_iconst (v := 0) C kd_Mo_beginBlock_182 (by decide) rfl ?_
    refine zk_lvs (lv' := [(0, .ref (S.1 68)), (1, .int x1)]) [0, 1] rfl ?_
    exact zb_Mo_beginBlock_183 C hR (zs_uM h 87 y1.toNatClampNeg y0) x1 0 (h.1 68 54) e
  · replace e := zd_pos b3 e
    refine zk_sipush (v := 960) C kd_Mo_beginBlock_176 (by decide) rfl ?_
    refine zk_goto (tgt := 183) C kd_Mo_beginBlock_179 (by decide) ?_
    refine zk_lvs (lv' := [(0, .ref (S.1 68)), (1, .int x1)]) [0, 1] rfl ?_
    exact zb_Mo_beginBlock_183 C hR (zs_uM h 87 y1.toNatClampNeg y0) x1 960 (h.1 68 54) e
set_option maxHeartbeats 4000000 in
set_option maxRecDepth 100000 in
theorem zb_Mo_beginBlock_70 {X : zkj_T} {S : zs_T} {P : ze_T} {l : Launch} {D : va_G} {sz0 : Nat} {rh : zs_H} (C : zk_C X km_Mo_beginBlock (zs_G S l D sz0) { frames := 6, cells := 0, slots := 0, locals := 132 } (ze_E P)) (hR : zkj_R X (zd_PV S rh) (none)) (h : zs_H) (x1 : Int32) (y0 : Int32) (e : f_Mo_beginBlock_70 h x1 y0 = some rh) : zk_Ab X (zs_W S h) 0 0 70 [(0, .ref (S.1 68)), (1, .int x1)] [.int y0, .ref (S.1 68)] := by
  unfold f_Mo_beginBlock_70 at e
  refine zk_bipush (v := 11) C kd_Mo_beginBlock_70 (by decide) rfl ?_
  refine zk_iload_n C kd_Mo_beginBlock_72 rfl 1 rfl rfl ?_
  obtain ⟨h2, c1, e⟩ := zd_b e
  refine zs_callV (k := 68) (rn := { frames := 1, cells := 0, slots := 0, locals := 22 }) (As := [.int y0, .int 11, .int x1]) (rest := []) C (zc_Mo_rule h y0 11 x1 c1) ku_Mo_rule kw2260 kv_Mo_rule rfl ⟨by decide, by decide⟩ ⟨by decide, by decide⟩ rfl rfl rfl (Nat.le_of_ble_eq_true rfl) kd_Mo_beginBlock_73 rfl (c1 := 0) (s1 := 0) rfl rfl (fun v w hp => ?_)
  obtain ⟨rfl, rfl⟩ := hp
  refine zk_stk (r' := []) rfl ?_
  refine zk_aload_n C kd_Mo_beginBlock_76 rfl 0 rfl rfl ?_
  refine zk_aload_n C kd_Mo_beginBlock_77 rfl 0 rfl rfl ?_
  refine zs_get (v := .int (h2.1 68 33)) C 68 33 rfl rfl rfl rfl ki_Mo (by decide) kw1716 kd_Mo_beginBlock_78 rfl ?_
  refine zs_put (ty := .int) C 68 54 (h2.1 68 33) rfl rfl rfl rfl ki_Mo ky_Mo ko_Mo kn_Mo (by decide) kw1737 rfl rfl rfl rfl (by decide) kd_Mo_beginBlock_81 rfl ?_
  refine zk_aload_n C kd_Mo_beginBlock_84 rfl 0 rfl rfl ?_
  refine zs_get (v := .ref (S.1 84)) C 68 34 rfl rfl rfl rfl ki_Mo (by decide) kw1717 kd_Mo_beginBlock_85 rfl ?_
  refine zk_aload_n C kd_Mo_beginBlock_88 rfl 0 rfl rfl ?_
  refine zs_get (v := .int (h2.1 68 33)) C 68 54 rfl rfl rfl rfl ki_Mo (by decide) kw1737 kd_Mo_beginBlock_89 rfl ?_
  refine zk_iload_n C kd_Mo_beginBlock_92 rfl 1 rfl rfl ?_
  obtain ⟨q3, e⟩ := zd_g e
  refine zs_iast C 84 rfl (zd_vp q3) kd_Mo_beginBlock_93 rfl ?_
  refine zk_aload_n C kd_Mo_beginBlock_94 rfl 0 rfl rfl ?_
  refine zs_get (v := .ref (S.1 85)) C 68 35 rfl rfl rfl rfl ki_Mo (by decide) kw1718 kd_Mo_beginBlock_95 rfl ?_
  refine zk_aload_n C kd_Mo_beginBlock_98 rfl 0 rfl rfl ?_
  refine zs_get (v := .int (h2.1 68 33)) C 68 54 rfl rfl rfl rfl ki_Mo (by decide) kw1737 kd_Mo_beginBlock_99 rfl ?_
  refine zk_aload_n C kd_Mo_beginBlock_102 rfl 0 rfl rfl ?_
  refine zs_get (v := .ref (S.1 74)) C 68 17 rfl rfl rfl rfl ki_Mo (by decide) kw1700 kd_Mo_beginBlock_103 rfl ?_
  refine zk_iload_n C kd_Mo_beginBlock_106 rfl 1 rfl rfl ?_
  obtain ⟨q4, e⟩ := zd_g e
  refine zs_iald C 74 rfl (zd_vp q4) kd_Mo_beginBlock_107 rfl ?_
  refine zk_stk (r' := [.int (h2.2.1 74 x1.toNatClampNeg), .int (h2.1 68 33), .ref (S.1 85)]) rfl ?_
  refine zs_iast C 85 rfl (zd_vp q3) kd_Mo_beginBlock_108 rfl ?_
  refine zk_aload_n C kd_Mo_beginBlock_109 rfl 0 rfl rfl ?_
  refine zs_get (v := .ref (S.1 86)) C 68 36 rfl rfl rfl rfl ki_Mo (by decide) kw1719 kd_Mo_beginBlock_110 rfl ?_
  refine zk_aload_n C kd_Mo_beginBlock_113 rfl 0 rfl rfl ?_
  refine zs_get (v := .int (h2.1 68 33)) C 68 54 rfl rfl rfl rfl ki_Mo (by decide) kw1737 kd_Mo_beginBlock_114 rfl ?_
  refine zk_aload_n C kd_Mo_beginBlock_117 rfl 0 rfl rfl ?_
  refine zs_get (v := .ref (S.1 72)) C 68 15 rfl rfl rfl rfl ki_Mo (by decide) kw1698 kd_Mo_beginBlock_118 rfl ?_
  refine zk_iload_n C kd_Mo_beginBlock_121 rfl 1 rfl rfl ?_
  refine zs_iald C 72 rfl (zd_vp q4) kd_Mo_beginBlock_122 rfl ?_
  refine zk_stk (r' := [.int (h2.2.1 72 x1.toNatClampNeg), .int (h2.1 68 33), .ref (S.1 86)]) rfl ?_
  refine zs_iast C 86 rfl (zd_vp q3) kd_Mo_beginBlock_123 rfl ?_
  refine zk_aload_n C kd_Mo_beginBlock_124 rfl 0 rfl rfl ?_
  refine zs_get (v := .ref (S.1 87)) C 68 37 rfl rfl rfl rfl ki_Mo (by decide) kw1720 kd_Mo_beginBlock_125 rfl ?_
  refine zk_aload_n C kd_Mo_beginBlock_128 rfl 0 rfl rfl ?_
  refine zs_get (v := .int (h2.1 68 33)) C 68 54 rfl rfl rfl rfl ki_Mo (by decide) kw1737 kd_Mo_beginBlock_129 rfl ?_
  refine zk_aload_n C kd_Mo_beginBlock_132 rfl 0 rfl rfl ?_
  refine zs_get (v := .ref (S.1 72)) C 68 15 rfl rfl rfl rfl ki_Mo (by decide) kw1698 kd_Mo_beginBlock_133 rfl ?_
  refine zk_iload_n C kd_Mo_beginBlock_136 rfl 1 rfl rfl ?_
  refine zs_iald C 72 rfl (zd_vp q4) kd_Mo_beginBlock_137 rfl ?_
  refine zk_stk (r' := [.int (h2.2.1 72 x1.toNatClampNeg), .int (h2.1 68 33), .ref (S.1 87)]) rfl ?_
  refine zk_iconst (v := 1) C kd_Mo_beginBlock_138 (by decide) rfl ?_
  refine zk_icmp_ne (tgt := 156) C kd_Mo_beginBlock_139 (by decide) rfl (fun b5 => ?_) (fun b5 => ?_)
  · replace e := zd_neg b5 e
    refine zk_iconst (v := (-1)) C kd_Mo_beginBlock_156 (by decide) rfl ?_
    refine zk_lvs (lv' := [(0, .ref (S.1 68)), (1, .int x1)]) [0, 1] rfl ?_
    exact zb_Mo_beginBlock_157 C hR (zs_uM (zs_uM (zs_uM (zs_uF h2 68 54 (h2.1 68 33)) 84 (h2.1 68 33).toNatClampNeg x1) 85 (h2.1 68 33).toNatClampNeg (h2.2.1 74 x1.toNatClampNeg)) 86 (h2.1 68 33).toNatClampNeg (h2.2.1 72 x1.toNatClampNeg)) x1 (-1) (h2.1 68 33) e
  · replace e := zd_pos b5 e
    refine zk_aload_n C kd_Mo_beginBlock_142 rfl 0 rfl rfl ?_
    refine zs_get (v := .ref (S.1 74)) C 68 17 rfl rfl rfl rfl ki_Mo (by decide) kw1700 kd_Mo_beginBlock_143 rfl ?_
    refine zk_aload_n C kd_Mo_beginBlock_146 rfl 0 rfl rfl ?_
    refine zs_get (v := .ref (S.1 76)) C 68 19 rfl rfl rfl rfl ki_Mo (by decide) kw1702 kd_Mo_beginBlock_147 rfl ?_
    refine zk_iload_n C kd_Mo_beginBlock_150 rfl 1 rfl rfl ?_
    refine zs_iald C 76 rfl (zd_vp q4) kd_Mo_beginBlock_151 rfl ?_
    refine zk_stk (r' := [.int (h2.2.1 76 x1.toNatClampNeg), .ref (S.1 74), .int (h2.1 68 33), .ref (S.1 87)]) rfl ?_
    obtain ⟨q6, e⟩ := zd_g e
    refine zs_iald C 74 rfl (zd_vp q6) kd_Mo_beginBlock_152 rfl ?_
    refine zk_stk (r' := [.int (h2.2.1 74 (h2.2.1 76 x1.toNatClampNeg).toNatClampNeg), .int (h2.1 68 33), .ref (S.1 87)]) rfl ?_
    refine zk_goto (tgt := 157) C kd_Mo_beginBlock_153 (by decide) ?_
    refine zk_lvs (lv' := [(0, .ref (S.1 68)), (1, .int x1)]) [0, 1] rfl ?_
    exact zb_Mo_beginBlock_157 C hR (zs_uM (zs_uM (zs_uM (zs_uF h2 68 54 (h2.1 68 33)) 84 (h2.1 68 33).toNatClampNeg x1) 85 (h2.1 68 33).toNatClampNeg (h2.2.1 74 x1.toNatClampNeg)) 86 (h2.1 68 33).toNatClampNeg (h2.2.1 72 x1.toNatClampNeg)) x1 (h2.2.1 74 (h2.2.1 76 x1.toNatClampNeg).toNatClampNeg) (h2.1 68 33) e
set_option maxHeartbeats 4000000 in
set_option maxRecDepth 100000 in
theorem zb_Mo_beginBlock_65 {X : zkj_T} {S : zs_T} {P : ze_T} {l : Launch} {D : va_G} {sz0 : Nat} {rh : zs_H} (C : zk_C X km_Mo_beginBlock (zs_G S l D sz0) { frames := 6, cells := 0, slots := 0, locals := 132 } (ze_E P)) (hR : zkj_R X (zd_PV S rh) (none)) (h : zs_H) (x1 : Int32) (e : f_Mo_beginBlock_65 h x1 = some rh) : zk_Ab X (zs_W S h) 0 0 65 [(0, .ref (S.1 68)), (1, .int x1)] [.ref (S.1 68)] := by
  unfold f_Mo_beginBlock_65 at e
  refine zk_iconst (v := 1) C kd_Mo_beginBlock_65 (by decide) rfl ?_
  refine zk_goto (tgt := 70) C kd_Mo_beginBlock_66 (by decide) ?_
  refine zk_lvs (lv' := [(0, .ref (S.1 68)), (1, .int x1)]) [0, 1] rfl ?_
  exact zb_Mo_beginBlock_70 C hR h x1 1 e
set_option maxHeartbeats 4000000 in
set_option maxRecDepth 100000 in
theorem zb_Mo_beginBlock_28 {X : zkj_T} {S : zs_T} {P : ze_T} {l : Launch} {D : va_G} {sz0 : Nat} {rh : zs_H} (C : zk_C X km_Mo_beginBlock (zs_G S l D sz0) { frames := 6, cells := 0, slots := 0, locals := 132 } (ze_E P)) (hR : zkj_R X (zd_PV S rh) (none)) (h : zs_H) (x1 : Int32) (y0 : Int32) (e : f_Mo_beginBlock_28 h x1 y0 = some rh) : zk_Ab X (zs_W S h) 0 0 28 [(0, .ref (S.1 68)), (1, .int x1)] [.int y0, .ref (S.1 68)] := by
  unfold f_Mo_beginBlock_28 at e
  refine zk_bipush (v := 10) C kd_Mo_beginBlock_28 (by decide) rfl ?_
  refine zk_iload_n C kd_Mo_beginBlock_30 rfl 1 rfl rfl ?_
  obtain ⟨h2, c1, e⟩ := zd_b e
  refine zs_callV (k := 68) (rn := { frames := 1, cells := 0, slots := 0, locals := 22 }) (As := [.int y0, .int 10, .int x1]) (rest := []) C (zc_Mo_rule h y0 10 x1 c1) ku_Mo_rule kw2260 kv_Mo_rule rfl ⟨by decide, by decide⟩ ⟨by decide, by decide⟩ rfl rfl rfl (Nat.le_of_ble_eq_true rfl) kd_Mo_beginBlock_31 rfl (c1 := 0) (s1 := 0) rfl rfl (fun v w hp => ?_)
  obtain ⟨rfl, rfl⟩ := hp
  refine zk_stk (r' := []) rfl ?_
  refine zk_aload_n C kd_Mo_beginBlock_34 rfl 0 rfl rfl ?_
  refine zk_aload_n C kd_Mo_beginBlock_35 rfl 0 rfl rfl ?_
  refine zk_aload_n C kd_Mo_beginBlock_36 rfl 0 rfl rfl ?_
  refine zs_get (v := .ref (S.1 74)) C 68 17 rfl rfl rfl rfl ki_Mo (by decide) kw1700 kd_Mo_beginBlock_37 rfl ?_
  refine zk_iload_n C kd_Mo_beginBlock_40 rfl 1 rfl rfl ?_
  obtain ⟨q3, e⟩ := zd_g e
  refine zs_iald C 74 rfl (zd_vp q3) kd_Mo_beginBlock_41 rfl ?_
  obtain ⟨v5, c4, e⟩ := zd_b e
  refine zs_callV (k := 68) (rn := { frames := 5, cells := 0, slots := 0, locals := 111 }) (As := [.int (h2.2.1 74 x1.toNatClampNeg)]) (rest := [.ref (S.1 68)]) C (zc_Mo_isStandard h2 (h2.2.1 74 x1.toNatClampNeg) c4) ku_Mo_isStandard kw2268 kv_Mo_isStandard rfl ⟨by decide, by decide⟩ ⟨by decide, by decide⟩ rfl rfl rfl (Nat.le_of_ble_eq_true rfl) kd_Mo_beginBlock_42 rfl (c1 := 0) (s1 := 0) rfl rfl (fun v w hp => ?_)
  obtain ⟨rfl, rfl, z6⟩ := hp
  refine zk_stk (r' := [.int v5, .ref (S.1 68)]) rfl ?_
  refine zk_if_ne (tgt := 65) C kd_Mo_beginBlock_45 (by decide) rfl (fun b7 => ?_) (fun b7 => ?_)
  · replace e := zd_neg b7 e
    refine zk_lvs (lv' := [(0, .ref (S.1 68)), (1, .int x1)]) [0, 1] rfl ?_
    exact zb_Mo_beginBlock_65 C hR h2 x1 e
  · replace e := zd_pos b7 e
    refine zk_aload_n C kd_Mo_beginBlock_48 rfl 0 rfl rfl ?_
    refine zk_aload_n C kd_Mo_beginBlock_49 rfl 0 rfl rfl ?_
    refine zs_get (v := .ref (S.1 74)) C 68 17 rfl rfl rfl rfl ki_Mo (by decide) kw1700 kd_Mo_beginBlock_50 rfl ?_
    refine zk_iload_n C kd_Mo_beginBlock_53 rfl 1 rfl rfl ?_
    refine zs_iald C 74 rfl (zd_vp q3) kd_Mo_beginBlock_54 rfl ?_
    refine zk_aload_n C kd_Mo_beginBlock_55 rfl 0 rfl rfl ?_
    refine zs_get (v := .int (h2.1 68 33)) C 68 33 rfl rfl rfl rfl ki_Mo (by decide) kw1716 kd_Mo_beginBlock_56 rfl ?_
    obtain ⟨v9, c8, e⟩ := zd_b e
    refine zs_callV (k := 68) (rn := { frames := 0, cells := 0, slots := 0, locals := 0 }) (As := [.int (h2.2.1 74 x1.toNatClampNeg), .int (h2.1 68 33)]) (rest := [.ref (S.1 68)]) C (zc_Mo_blockNamed h2 (h2.2.1 74 x1.toNatClampNeg) (h2.1 68 33) c8) ku_Mo_blockNamed kw2278 kv_Mo_blockNamed rfl ⟨by decide, by decide⟩ ⟨by decide, by decide⟩ rfl rfl rfl (Nat.le_of_ble_eq_true rfl) kd_Mo_beginBlock_59 rfl (c1 := 0) (s1 := 0) rfl rfl (fun v w hp => ?_)
    obtain ⟨rfl, rfl⟩ := hp
    refine zk_stk (r' := [.int v9, .ref (S.1 68)]) rfl ?_
    refine zk_if_lt (tgt := 69) C kd_Mo_beginBlock_62 (by decide) rfl (fun b10 => ?_) (fun b10 => ?_)
    · replace e := zd_pos b10 e
      refine zk_iconst (v := 0) C kd_Mo_beginBlock_69 (by decide) rfl ?_
      refine zk_lvs (lv' := [(0, .ref (S.1 68)), (1, .int x1)]) [0, 1] rfl ?_
      exact zb_Mo_beginBlock_70 C hR h2 x1 0 e
    · replace e := zd_neg b10 e
      refine zk_lvs (lv' := [(0, .ref (S.1 68)), (1, .int x1)]) [0, 1] rfl ?_
      exact zb_Mo_beginBlock_65 C hR h2 x1 e
set_option maxHeartbeats 4000000 in
set_option maxRecDepth 100000 in
theorem zb_Mo_beginBlock_27 {X : zkj_T} {S : zs_T} {P : ze_T} {l : Launch} {D : va_G} {sz0 : Nat} {rh : zs_H} (C : zk_C X km_Mo_beginBlock (zs_G S l D sz0) { frames := 6, cells := 0, slots := 0, locals := 132 } (ze_E P)) (hR : zkj_R X (zd_PV S rh) (none)) (h : zs_H) (x1 : Int32) (e : f_Mo_beginBlock_27 h x1 = some rh) : zk_Ab X (zs_W S h) 0 0 27 [(0, .ref (S.1 68)), (1, .int x1)] [.ref (S.1 68)] := by
  unfold f_Mo_beginBlock_27 at e
  refine zk_iconst (v := 0) C kd_Mo_beginBlock_27 (by decide) rfl ?_
  refine zk_lvs (lv' := [(0, .ref (S.1 68)), (1, .int x1)]) [0, 1] rfl ?_
  exact zb_Mo_beginBlock_28 C hR h x1 0 e
set_option maxHeartbeats 4000000 in
set_option maxRecDepth 100000 in
theorem zc_Mo_beginBlock {l : Launch} {D : va_G} {sz0 : Nat} {S : zs_T} {P : ze_T} (h : zs_H) (x1 : Int32) {rh : zs_H} (e : f_Mo_beginBlock h x1 = some rh) : zk_Sp (zs_G S l D sz0) (ze_E P) km_Mo_beginBlock { frames := 6, cells := 0, slots := 0, locals := 132 } [.ref (S.1 68), .int x1] (zs_W S h) (zd_PV S rh) := by
  refine zk_met ku_Mo_beginBlock (Nat.le_of_ble_eq_true rfl) (ze_Em P) ?_
  intro X C hR
  refine zk_lvs (lv' := [(0, .ref (S.1 68)), (1, .int x1)]) [0, 1] rfl ?_
  unfold f_Mo_beginBlock at e
  refine zk_aload_n C kd_Mo_beginBlock_0 rfl 0 rfl rfl ?_
  refine zk_aload_n C kd_Mo_beginBlock_1 rfl 0 rfl rfl ?_
  refine zs_get (v := .int (h.1 68 33)) C 68 33 rfl rfl rfl rfl ki_Mo (by decide) kw1716 kd_Mo_beginBlock_2 rfl ?_
  refine zk_if_le (tgt := 27) C kd_Mo_beginBlock_5 (by decide) rfl (fun b1 => ?_) (fun b1 => ?_)
  · replace e := zd_pos b1 e
    refine zk_lvs (lv' := [(0, .ref (S.1 68)), (1, .int x1)]) [0, 1] rfl ?_
    exact zb_Mo_beginBlock_27 C hR h x1 e
  · replace e := zd_neg b1 e
    refine zk_aload_n C kd_Mo_beginBlock_8 rfl 0 rfl rfl ?_
    refine zs_get (v := .ref (S.1 86)) C 68 36 rfl rfl rfl rfl ki_Mo (by decide) kw1719 kd_Mo_beginBlock_9 rfl ?_
    refine zk_aload_n C kd_Mo_beginBlock_12 rfl 0 rfl rfl ?_
    refine zs_get (v := .int (h.1 68 33)) C 68 33 rfl rfl rfl rfl ki_Mo (by decide) kw1716 kd_Mo_beginBlock_13 rfl ?_
    refine zk_iconst (v := 1) C kd_Mo_beginBlock_16 (by decide) rfl ?_
    refine zk_isub C kd_Mo_beginBlock_17 rfl ?_
    obtain ⟨q2, e⟩ := zd_g e
    refine zs_iald C 86 rfl (zd_vp q2) kd_Mo_beginBlock_18 rfl ?_
    refine zk_iconst (v := 3) C kd_Mo_beginBlock_19 (by decide) rfl ?_
    refine zk_icmp_ne (tgt := 27) C kd_Mo_beginBlock_20 (by decide) rfl (fun b3 => ?_) (fun b3 => ?_)
    · replace e := zd_neg b3 e
      refine zk_lvs (lv' := [(0, .ref (S.1 68)), (1, .int x1)]) [0, 1] rfl ?_
      exact zb_Mo_beginBlock_27 C hR h x1 e
    · replace e := zd_pos b3 e
      refine zk_iconst (v := 1) C kd_Mo_beginBlock_23 (by decide) rfl ?_
      refine zk_goto (tgt := 28) C kd_Mo_beginBlock_24 (by decide) ?_
      refine zk_lvs (lv' := [(0, .ref (S.1 68)), (1, .int x1)]) [0, 1] rfl ?_
      exact zb_Mo_beginBlock_28 C hR h x1 1 e
