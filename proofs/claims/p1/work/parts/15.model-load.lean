theorem kw1684 : Jvm.Cond.fieldLink "PlantKeeperModel" (184 : Nat) "PlantKeeperModel" "size" "I" ∈ zk_BW := zk_inT 1684 (by decide +kernel) rfl
theorem kw1686 : Jvm.Cond.fieldLink "PlantKeeperModel" (259 : Nat) "PlantKeeperModel" "names" "I" ∈ zk_BW := zk_inT 1686 (by decide +kernel) rfl
theorem kw1689 : Jvm.Cond.fieldLink "PlantKeeperModel" (217 : Nat) "PlantKeeperModel" "kind" "I" ∈ zk_BW := zk_inT 1689 (by decide +kernel) rfl
theorem kw1690 : Jvm.Cond.fieldLink "PlantKeeperModel" (214 : Nat) "PlantKeeperModel" "at" "I" ∈ zk_BW := zk_inT 1690 (by decide +kernel) rfl
theorem kw1691 : Jvm.Cond.fieldLink "PlantKeeperModel" (208 : Nat) "PlantKeeperModel" "behind" "I" ∈ zk_BW := zk_inT 1691 (by decide +kernel) rfl
theorem kw1693 : Jvm.Cond.fieldLink "PlantKeeperModel" (201 : Nat) "PlantKeeperModel" "fault" "I" ∈ zk_BW := zk_inT 1693 (by decide +kernel) rfl
theorem kw1695 : Jvm.Cond.fieldLink "PlantKeeperModel" (312 : Nat) "PlantKeeperModel" "deep" "I" ∈ zk_BW := zk_inT 1695 (by decide +kernel) rfl
theorem kw1696 : Jvm.Cond.fieldLink "PlantKeeperModel" (328 : Nat) "PlantKeeperModel" "nested" "I" ∈ zk_BW := zk_inT 1696 (by decide +kernel) rfl
theorem kw1697 : Jvm.Cond.fieldLink "PlantKeeperModel" (315 : Nat) "PlantKeeperModel" "made" "I" ∈ zk_BW := zk_inT 1697 (by decide +kernel) rfl
theorem kw1705 : Jvm.Cond.fieldLink "PlantKeeperModel" (331 : Nat) "PlantKeeperModel" "there" "Z" ∈ zk_BW := zk_inT 1705 (by decide +kernel) rfl
theorem kw1708 : Jvm.Cond.fieldLink "PlantKeeperModel" (325 : Nat) "PlantKeeperModel" "operands" "I" ∈ zk_BW := zk_inT 1708 (by decide +kernel) rfl
theorem kw1712 : Jvm.Cond.fieldLink "PlantKeeperModel" (445 : Nat) "PlantKeeperModel" "judged" "I" ∈ zk_BW := zk_inT 1712 (by decide +kernel) rfl
theorem kw1713 : Jvm.Cond.fieldLink "PlantKeeperModel" (448 : Nat) "PlantKeeperModel" "judgedAt" "I" ∈ zk_BW := zk_inT 1713 (by decide +kernel) rfl
theorem kw1714 : Jvm.Cond.fieldLink "PlantKeeperModel" (513 : Nat) "PlantKeeperModel" "hand" "Z" ∈ zk_BW := zk_inT 1714 (by decide +kernel) rfl
theorem kw1715 : Jvm.Cond.fieldLink "PlantKeeperModel" (516 : Nat) "PlantKeeperModel" "many" "I" ∈ zk_BW := zk_inT 1715 (by decide +kernel) rfl
theorem kw1716 : Jvm.Cond.fieldLink "PlantKeeperModel" (462 : Nat) "PlantKeeperModel" "blocks" "I" ∈ zk_BW := zk_inT 1716 (by decide +kernel) rfl
theorem kw1724 : Jvm.Cond.fieldLink "PlantKeeperModel" (465 : Nat) "PlantKeeperModel" "variables" "I" ∈ zk_BW := zk_inT 1724 (by decide +kernel) rfl
theorem kw1738 : Jvm.Cond.fieldLink "PlantKeeperModel" (590 : Nat) "PlantKeeperModel" "total" "I" ∈ zk_BW := zk_inT 1738 (by decide +kernel) rfl
theorem kw1985 : Jvm.Cond.instanceMethod ({ cls := "PlantKeeperModel", name := "load", desc := "(I)I" } : Jvm.MethodName) ∈ zk_BW := zk_inT 1985 (by decide +kernel) rfl
theorem kw1986 : Jvm.Cond.selects "PlantKeeperModel" ({ cls := "PlantKeeperModel", name := "load", desc := "(I)I" } : Jvm.MethodName) ({ cls := "PlantKeeperModel", name := "load", desc := "(I)I" } : Jvm.MethodName) ∈ zk_BW := zk_inT 1986 (by decide +kernel) rfl
theorem kw1987 : Jvm.Cond.code ({ cls := "PlantKeeperModel", name := "load", desc := "(I)I" } : Jvm.MethodName) prog_14_method_165_code (3 : Nat) (Option.some FieldType.int) ∈ zk_BW := zk_inT 1987 (by decide +kernel) rfl
theorem kw1993 : Jvm.Cond.methodLink "PlantKeeperModel" (853 : Nat) ({ cls := "PlantKeeperModel", name := "judge", desc := "()I" } : Jvm.MethodName) ∈ zk_BW := zk_inT 1993 (by decide +kernel) rfl
theorem kw1995 : Jvm.Cond.instanceMethod ({ cls := "PlantKeeperModel", name := "judge", desc := "()I" } : Jvm.MethodName) ∈ zk_BW := zk_inT 1995 (by decide +kernel) rfl
theorem kw1996 : Jvm.Cond.code ({ cls := "PlantKeeperModel", name := "judge", desc := "()I" } : Jvm.MethodName) prog_14_method_80_code (2 : Nat) (Option.some FieldType.int) ∈ zk_BW := zk_inT 1996 (by decide +kernel) rfl
theorem kw1997 : Jvm.Cond.methodLink "PlantKeeperModel" (510 : Nat) ({ cls := "PlantKeeperModel", name := "readText", desc := "()I" } : Jvm.MethodName) ∈ zk_BW := zk_inT 1997 (by decide +kernel) rfl
theorem kw1999 : Jvm.Cond.instanceMethod ({ cls := "PlantKeeperModel", name := "readText", desc := "()I" } : Jvm.MethodName) ∈ zk_BW := zk_inT 1999 (by decide +kernel) rfl
theorem kw2000 : Jvm.Cond.code ({ cls := "PlantKeeperModel", name := "readText", desc := "()I" } : Jvm.MethodName) prog_14_method_31_code (2 : Nat) (Option.some FieldType.int) ∈ zk_BW := zk_inT 2000 (by decide +kernel) rfl
theorem kw2001 : Jvm.Cond.methodLink "PlantKeeperModel" (296 : Nat) ({ cls := "PlantKeeperModel", name := "next", desc := "()V" } : Jvm.MethodName) ∈ zk_BW := zk_inT 2001 (by decide +kernel) rfl
theorem kw2003 : Jvm.Cond.instanceMethod ({ cls := "PlantKeeperModel", name := "next", desc := "()V" } : Jvm.MethodName) ∈ zk_BW := zk_inT 2003 (by decide +kernel) rfl
theorem kw2004 : Jvm.Cond.code ({ cls := "PlantKeeperModel", name := "next", desc := "()V" } : Jvm.MethodName) prog_14_method_10_code (2 : Nat) (Option.none : Option FieldType) ∈ zk_BW := zk_inT 2004 (by decide +kernel) rfl
theorem kw2005 : Jvm.Cond.methodLink "PlantKeeperModel" (211 : Nat) ({ cls := "PlantKeeperModel", name := "skip", desc := "(I)I" } : Jvm.MethodName) ∈ zk_BW := zk_inT 2005 (by decide +kernel) rfl
theorem kw2007 : Jvm.Cond.instanceMethod ({ cls := "PlantKeeperModel", name := "skip", desc := "(I)I" } : Jvm.MethodName) ∈ zk_BW := zk_inT 2007 (by decide +kernel) rfl
theorem kw2008 : Jvm.Cond.code ({ cls := "PlantKeeperModel", name := "skip", desc := "(I)I" } : Jvm.MethodName) prog_14_method_9_code (5 : Nat) (Option.some FieldType.int) ∈ zk_BW := zk_inT 2008 (by decide +kernel) rfl
theorem kw2009 : Jvm.Cond.methodLink "PlantKeeperModel" (187 : Nat) ({ cls := "PlantKeeperModel", name := "byteOf", desc := "(I)I" } : Jvm.MethodName) ∈ zk_BW := zk_inT 2009 (by decide +kernel) rfl
theorem kw2011 : Jvm.Cond.instanceMethod ({ cls := "PlantKeeperModel", name := "byteOf", desc := "(I)I" } : Jvm.MethodName) ∈ zk_BW := zk_inT 2011 (by decide +kernel) rfl
theorem kw2012 : Jvm.Cond.code ({ cls := "PlantKeeperModel", name := "byteOf", desc := "(I)I" } : Jvm.MethodName) prog_14_method_3_code (2 : Nat) (Option.some FieldType.int) ∈ zk_BW := zk_inT 2012 (by decide +kernel) rfl
theorem kw2017 : Jvm.Cond.methodLink "PlantKeeperModel" (191 : Nat) ({ cls := "PlantKeeperModel", name := "great", desc := "(I)I" } : Jvm.MethodName) ∈ zk_BW := zk_inT 2017 (by decide +kernel) rfl
theorem kw2019 : Jvm.Cond.instanceMethod ({ cls := "PlantKeeperModel", name := "great", desc := "(I)I" } : Jvm.MethodName) ∈ zk_BW := zk_inT 2019 (by decide +kernel) rfl
theorem kw2020 : Jvm.Cond.code ({ cls := "PlantKeeperModel", name := "great", desc := "(I)I" } : Jvm.MethodName) prog_14_method_4_code (3 : Nat) (Option.some FieldType.int) ∈ zk_BW := zk_inT 2020 (by decide +kernel) rfl
theorem kw2085 : Jvm.Cond.methodLink "PlantKeeperModel" (318 : Nat) ({ cls := "PlantKeeperModel", name := "node", desc := "(III)I" } : Jvm.MethodName) ∈ zk_BW := zk_inT 2085 (by decide +kernel) rfl
theorem kw2087 : Jvm.Cond.instanceMethod ({ cls := "PlantKeeperModel", name := "node", desc := "(III)I" } : Jvm.MethodName) ∈ zk_BW := zk_inT 2087 (by decide +kernel) rfl
theorem kw2088 : Jvm.Cond.code ({ cls := "PlantKeeperModel", name := "node", desc := "(III)I" } : Jvm.MethodName) prog_14_method_28_code (5 : Nat) (Option.some FieldType.int) ∈ zk_BW := zk_inT 2088 (by decide +kernel) rfl
theorem kw2244 : Jvm.Cond.methodLink "PlantKeeperModel" (339 : Nat) ({ cls := "PlantKeeperModel", name := "number", desc := "()V" } : Jvm.MethodName) ∈ zk_BW := zk_inT 2244 (by decide +kernel) rfl
theorem kw2246 : Jvm.Cond.instanceMethod ({ cls := "PlantKeeperModel", name := "number", desc := "()V" } : Jvm.MethodName) ∈ zk_BW := zk_inT 2246 (by decide +kernel) rfl
theorem kw2247 : Jvm.Cond.code ({ cls := "PlantKeeperModel", name := "number", desc := "()V" } : Jvm.MethodName) prog_14_method_32_code (3 : Nat) (Option.none : Option FieldType) ∈ zk_BW := zk_inT 2247 (by decide +kernel) rfl
theorem kw2248 : Jvm.Cond.methodLink "PlantKeeperModel" (519 : Nat) ({ cls := "PlantKeeperModel", name := "look", desc := "(I)V" } : Jvm.MethodName) ∈ zk_BW := zk_inT 2248 (by decide +kernel) rfl
theorem kw2250 : Jvm.Cond.instanceMethod ({ cls := "PlantKeeperModel", name := "look", desc := "(I)V" } : Jvm.MethodName) ∈ zk_BW := zk_inT 2250 (by decide +kernel) rfl
theorem kw2251 : Jvm.Cond.code ({ cls := "PlantKeeperModel", name := "look", desc := "(I)V" } : Jvm.MethodName) prog_14_method_81_code (3 : Nat) (Option.none : Option FieldType) ∈ zk_BW := zk_inT 2251 (by decide +kernel) rfl
theorem kw2252 : Jvm.Cond.methodLink "PlantKeeperModel" (522 : Nat) ({ cls := "PlantKeeperModel", name := "lookAlone", desc := "(I)V" } : Jvm.MethodName) ∈ zk_BW := zk_inT 2252 (by decide +kernel) rfl
theorem kw2254 : Jvm.Cond.instanceMethod ({ cls := "PlantKeeperModel", name := "lookAlone", desc := "(I)V" } : Jvm.MethodName) ∈ zk_BW := zk_inT 2254 (by decide +kernel) rfl
theorem kw2255 : Jvm.Cond.code ({ cls := "PlantKeeperModel", name := "lookAlone", desc := "(I)V" } : Jvm.MethodName) prog_14_method_82_code (4 : Nat) (Option.none : Option FieldType) ∈ zk_BW := zk_inT 2255 (by decide +kernel) rfl
theorem kw2260 : Jvm.Cond.methodLink "PlantKeeperModel" (540 : Nat) ({ cls := "PlantKeeperModel", name := "rule", desc := "(ZII)V" } : Jvm.MethodName) ∈ zk_BW := zk_inT 2260 (by decide +kernel) rfl
theorem kw2262 : Jvm.Cond.instanceMethod ({ cls := "PlantKeeperModel", name := "rule", desc := "(ZII)V" } : Jvm.MethodName) ∈ zk_BW := zk_inT 2262 (by decide +kernel) rfl
theorem kw2263 : Jvm.Cond.code ({ cls := "PlantKeeperModel", name := "rule", desc := "(ZII)V" } : Jvm.MethodName) prog_14_method_64_code (4 : Nat) (Option.none : Option FieldType) ∈ zk_BW := zk_inT 2263 (by decide +kernel) rfl
theorem kw2264 : Jvm.Cond.methodLink "PlantKeeperModel" (451 : Nat) ({ cls := "PlantKeeperModel", name := "breaks", desc := "(II)V" } : Jvm.MethodName) ∈ zk_BW := zk_inT 2264 (by decide +kernel) rfl
theorem kw2266 : Jvm.Cond.instanceMethod ({ cls := "PlantKeeperModel", name := "breaks", desc := "(II)V" } : Jvm.MethodName) ∈ zk_BW := zk_inT 2266 (by decide +kernel) rfl
theorem kw2267 : Jvm.Cond.code ({ cls := "PlantKeeperModel", name := "breaks", desc := "(II)V" } : Jvm.MethodName) prog_14_method_63_code (3 : Nat) (Option.none : Option FieldType) ∈ zk_BW := zk_inT 2267 (by decide +kernel) rfl
theorem kw2290 : Jvm.Cond.methodLink "PlantKeeperModel" (531 : Nat) ({ cls := "PlantKeeperModel", name := "lookAtBlocks", desc := "(I)V" } : Jvm.MethodName) ∈ zk_BW := zk_inT 2290 (by decide +kernel) rfl
theorem kw2292 : Jvm.Cond.instanceMethod ({ cls := "PlantKeeperModel", name := "lookAtBlocks", desc := "(I)V" } : Jvm.MethodName) ∈ zk_BW := zk_inT 2292 (by decide +kernel) rfl
theorem kw2293 : Jvm.Cond.code ({ cls := "PlantKeeperModel", name := "lookAtBlocks", desc := "(I)V" } : Jvm.MethodName) prog_14_method_86_code (3 : Nat) (Option.none : Option FieldType) ∈ zk_BW := zk_inT 2293 (by decide +kernel) rfl
theorem kw2294 : Jvm.Cond.methodLink "PlantKeeperModel" (560 : Nat) ({ cls := "PlantKeeperModel", name := "lookAtText", desc := "(I)V" } : Jvm.MethodName) ∈ zk_BW := zk_inT 2294 (by decide +kernel) rfl
theorem kw2296 : Jvm.Cond.instanceMethod ({ cls := "PlantKeeperModel", name := "lookAtText", desc := "(I)V" } : Jvm.MethodName) ∈ zk_BW := zk_inT 2296 (by decide +kernel) rfl
theorem kw2297 : Jvm.Cond.code ({ cls := "PlantKeeperModel", name := "lookAtText", desc := "(I)V" } : Jvm.MethodName) prog_14_method_94_code (4 : Nat) (Option.none : Option FieldType) ∈ zk_BW := zk_inT 2297 (by decide +kernel) rfl
abbrev kc_Mo_skip : ByteArray := prog_14_method_9_code
def km_Mo_skip : zk_MT := (⟨"PlantKeeperModel", "skip", "(I)I"⟩, kc_Mo_skip, 5, some .int, 1)
theorem ku_Mo_skip : zk_My km_Mo_skip := ⟨kw2008, kw17, by decide, by decide, by decide, by decide +kernel⟩
theorem kv_Mo_skip : zk_Mv km_Mo_skip := ⟨kw2007, zk_inS 151 (q := (⟨"PlantKeeperModel", "skip", "(I)I"⟩, 96)) (by decide +kernel)⟩
abbrev kc_Mo_byteOf : ByteArray := prog_14_method_3_code
def km_Mo_byteOf : zk_MT := (⟨"PlantKeeperModel", "byteOf", "(I)I"⟩, kc_Mo_byteOf, 2, some .int, 1)
theorem ku_Mo_byteOf : zk_My km_Mo_byteOf := ⟨kw2012, kw17, by decide, by decide, by decide, by decide +kernel⟩
theorem kv_Mo_byteOf : zk_Mv km_Mo_byteOf := ⟨kw2011, zk_inS 152 (q := (⟨"PlantKeeperModel", "byteOf", "(I)I"⟩, 96)) (by decide +kernel)⟩
abbrev kc_Mo_great : ByteArray := prog_14_method_4_code
def km_Mo_great : zk_MT := (⟨"PlantKeeperModel", "great", "(I)I"⟩, kc_Mo_great, 3, some .int, 1)
theorem ku_Mo_great : zk_My km_Mo_great := ⟨kw2020, kw17, by decide, by decide, by decide, by decide +kernel⟩
theorem kv_Mo_great : zk_Mv km_Mo_great := ⟨kw2019, zk_inS 154 (q := (⟨"PlantKeeperModel", "great", "(I)I"⟩, 96)) (by decide +kernel)⟩
abbrev kc_Mo_next : ByteArray := prog_14_method_10_code
def km_Mo_next : zk_MT := (⟨"PlantKeeperModel", "next", "()V"⟩, kc_Mo_next, 2, none, 0)
theorem ku_Mo_next : zk_My km_Mo_next := ⟨kw2004, kw17, by decide, by decide, by decide, by decide +kernel⟩
theorem kv_Mo_next : zk_Mv km_Mo_next := ⟨kw2003, zk_inS 150 (q := (⟨"PlantKeeperModel", "next", "()V"⟩, 96)) (by decide +kernel)⟩
abbrev kc_Mo_node : ByteArray := prog_14_method_28_code
def km_Mo_node : zk_MT := (⟨"PlantKeeperModel", "node", "(III)I"⟩, kc_Mo_node, 5, some .int, 3)
theorem ku_Mo_node : zk_My km_Mo_node := ⟨kw2088, kw17, by decide, by decide, by decide, by decide +kernel⟩
theorem kv_Mo_node : zk_Mv km_Mo_node := ⟨kw2087, zk_inS 165 (q := (⟨"PlantKeeperModel", "node", "(III)I"⟩, 96)) (by decide +kernel)⟩
abbrev kc_Mo_number : ByteArray := prog_14_method_32_code
def km_Mo_number : zk_MT := (⟨"PlantKeeperModel", "number", "()V"⟩, kc_Mo_number, 3, none, 0)
theorem ku_Mo_number : zk_My km_Mo_number := ⟨kw2247, kw17, by decide, by decide, by decide, by decide +kernel⟩
theorem kv_Mo_number : zk_Mv km_Mo_number := ⟨kw2246, zk_inS 204 (q := (⟨"PlantKeeperModel", "number", "()V"⟩, 96)) (by decide +kernel)⟩
abbrev kc_Mo_readText : ByteArray := prog_14_method_31_code
def km_Mo_readText : zk_MT := (⟨"PlantKeeperModel", "readText", "()I"⟩, kc_Mo_readText, 2, some .int, 0)
theorem ku_Mo_readText : zk_My km_Mo_readText := ⟨kw2000, kw17, by decide, by decide, by decide, by decide +kernel⟩
theorem kv_Mo_readText : zk_Mv km_Mo_readText := ⟨kw1999, zk_inS 149 (q := (⟨"PlantKeeperModel", "readText", "()I"⟩, 96)) (by decide +kernel)⟩
abbrev kc_Mo_breaks : ByteArray := prog_14_method_63_code
def km_Mo_breaks : zk_MT := (⟨"PlantKeeperModel", "breaks", "(II)V"⟩, kc_Mo_breaks, 3, none, 2)
theorem ku_Mo_breaks : zk_My km_Mo_breaks := ⟨kw2267, kw17, by decide, by decide, by decide, by decide +kernel⟩
theorem kv_Mo_breaks : zk_Mv km_Mo_breaks := ⟨kw2266, zk_inS 209 (q := (⟨"PlantKeeperModel", "breaks", "(II)V"⟩, 96)) (by decide +kernel)⟩
abbrev kc_Mo_rule : ByteArray := prog_14_method_64_code
def km_Mo_rule : zk_MT := (⟨"PlantKeeperModel", "rule", "(ZII)V"⟩, kc_Mo_rule, 4, none, 3)
theorem ku_Mo_rule : zk_My km_Mo_rule := ⟨kw2263, kw17, by decide, by decide, by decide, by decide +kernel⟩
theorem kv_Mo_rule : zk_Mv km_Mo_rule := ⟨kw2262, zk_inS 208 (q := (⟨"PlantKeeperModel", "rule", "(ZII)V"⟩, 96)) (by decide +kernel)⟩
abbrev kc_Mo_lookAtText : ByteArray := prog_14_method_94_code
def km_Mo_lookAtText : zk_MT := (⟨"PlantKeeperModel", "lookAtText", "(I)V"⟩, kc_Mo_lookAtText, 4, none, 1)
theorem ku_Mo_lookAtText : zk_My km_Mo_lookAtText := ⟨kw2297, kw17, by decide, by decide, by decide, by decide +kernel⟩
theorem kv_Mo_lookAtText : zk_Mv km_Mo_lookAtText := ⟨kw2296, zk_inS 216 (q := (⟨"PlantKeeperModel", "lookAtText", "(I)V"⟩, 96)) (by decide +kernel)⟩
abbrev kc_Mo_lookAtBlocks : ByteArray := prog_14_method_86_code
def km_Mo_lookAtBlocks : zk_MT := (⟨"PlantKeeperModel", "lookAtBlocks", "(I)V"⟩, kc_Mo_lookAtBlocks, 3, none, 1)
theorem ku_Mo_lookAtBlocks : zk_My km_Mo_lookAtBlocks := ⟨kw2293, kw17, by decide, by decide, by decide, by decide +kernel⟩
theorem kv_Mo_lookAtBlocks : zk_Mv km_Mo_lookAtBlocks := ⟨kw2292, zk_inS 215 (q := (⟨"PlantKeeperModel", "lookAtBlocks", "(I)V"⟩, 96)) (by decide +kernel)⟩
abbrev kc_Mo_lookAlone : ByteArray := prog_14_method_82_code
def km_Mo_lookAlone : zk_MT := (⟨"PlantKeeperModel", "lookAlone", "(I)V"⟩, kc_Mo_lookAlone, 4, none, 1)
theorem ku_Mo_lookAlone : zk_My km_Mo_lookAlone := ⟨kw2255, kw17, by decide, by decide, by decide, by decide +kernel⟩
theorem kv_Mo_lookAlone : zk_Mv km_Mo_lookAlone := ⟨kw2254, zk_inS 206 (q := (⟨"PlantKeeperModel", "lookAlone", "(I)V"⟩, 96)) (by decide +kernel)⟩
abbrev kc_Mo_look : ByteArray := prog_14_method_81_code
def km_Mo_look : zk_MT := (⟨"PlantKeeperModel", "look", "(I)V"⟩, kc_Mo_look, 3, none, 1)
theorem ku_Mo_look : zk_My km_Mo_look := ⟨kw2251, kw17, by decide, by decide, by decide, by decide +kernel⟩
theorem kv_Mo_look : zk_Mv km_Mo_look := ⟨kw2250, zk_inS 205 (q := (⟨"PlantKeeperModel", "look", "(I)V"⟩, 96)) (by decide +kernel)⟩
abbrev kc_Mo_judge : ByteArray := prog_14_method_80_code
def km_Mo_judge : zk_MT := (⟨"PlantKeeperModel", "judge", "()I"⟩, kc_Mo_judge, 2, some .int, 0)
theorem ku_Mo_judge : zk_My km_Mo_judge := ⟨kw1996, kw17, by decide, by decide, by decide, by decide +kernel⟩
theorem kv_Mo_judge : zk_Mv km_Mo_judge := ⟨kw1995, zk_inS 148 (q := (⟨"PlantKeeperModel", "judge", "()I"⟩, 96)) (by decide +kernel)⟩
abbrev kc_Mo_load : ByteArray := prog_14_method_165_code
def km_Mo_load : zk_MT := (⟨"PlantKeeperModel", "load", "(I)I"⟩, kc_Mo_load, 3, some .int, 1)
theorem ku_Mo_load : zk_My km_Mo_load := ⟨kw1987, kw17, by decide, by decide, by decide, by decide +kernel⟩
theorem kv_Mo_load : zk_Mv km_Mo_load := ⟨kw1985, kw1986⟩
theorem kd_Mo_skip_0 : decode kc_Mo_skip 0 = .ok (.iload_n 1, 1) := by decide +kernel
theorem kd_Mo_skip_1 : decode kc_Mo_skip 1 = .ok (.istore_n 2, 1) := by decide +kernel
theorem kd_Mo_skip_2 : decode kc_Mo_skip 2 = .ok (.iload_n 2, 1) := by decide +kernel
theorem kd_Mo_skip_3 : decode kc_Mo_skip 3 = .ok (.aload_n 0, 1) := by decide +kernel
theorem kd_Mo_skip_4 : decode kc_Mo_skip 4 = .ok (.getfield 184, 3) := by decide +kernel
theorem kd_Mo_skip_7 : decode kc_Mo_skip 7 = .ok (.if_icmp .ge 131, 3) := by decide +kernel
theorem kd_Mo_skip_10 : decode kc_Mo_skip 10 = .ok (.aload_n 0, 1) := by decide +kernel
theorem kd_Mo_skip_11 : decode kc_Mo_skip 11 = .ok (.iload_n 2, 1) := by decide +kernel
theorem kd_Mo_skip_12 : decode kc_Mo_skip 12 = .ok (.invokevirtual 187, 3) := by decide +kernel
theorem kd_Mo_skip_15 : decode kc_Mo_skip 15 = .ok (.istore_n 3, 1) := by decide +kernel
theorem kd_Mo_skip_16 : decode kc_Mo_skip 16 = .ok (.iload_n 3, 1) := by decide +kernel
theorem kd_Mo_skip_17 : decode kc_Mo_skip 17 = .ok (.bipush 9, 2) := by decide +kernel
theorem kd_Mo_skip_19 : decode kc_Mo_skip 19 = .ok (.if_icmp .eq 21, 3) := by decide +kernel
theorem kd_Mo_skip_22 : decode kc_Mo_skip 22 = .ok (.iload_n 3, 1) := by decide +kernel
theorem kd_Mo_skip_23 : decode kc_Mo_skip 23 = .ok (.bipush 10, 2) := by decide +kernel
theorem kd_Mo_skip_25 : decode kc_Mo_skip 25 = .ok (.if_icmp .eq 15, 3) := by decide +kernel
theorem kd_Mo_skip_28 : decode kc_Mo_skip 28 = .ok (.iload_n 3, 1) := by decide +kernel
theorem kd_Mo_skip_29 : decode kc_Mo_skip 29 = .ok (.bipush 13, 2) := by decide +kernel
theorem kd_Mo_skip_31 : decode kc_Mo_skip 31 = .ok (.if_icmp .eq 9, 3) := by decide +kernel
theorem kd_Mo_skip_34 : decode kc_Mo_skip 34 = .ok (.iload_n 3, 1) := by decide +kernel
theorem kd_Mo_skip_35 : decode kc_Mo_skip 35 = .ok (.bipush 32, 2) := by decide +kernel
theorem kd_Mo_skip_37 : decode kc_Mo_skip 37 = .ok (.if_icmp .ne 9, 3) := by decide +kernel
theorem kd_Mo_skip_40 : decode kc_Mo_skip 40 = .ok (.iinc 2 1, 3) := by decide +kernel
theorem kd_Mo_skip_43 : decode kc_Mo_skip 43 = .ok (.goto 92, 3) := by decide +kernel
theorem kd_Mo_skip_46 : decode kc_Mo_skip 46 = .ok (.iload_n 3, 1) := by decide +kernel
theorem kd_Mo_skip_47 : decode kc_Mo_skip 47 = .ok (.bipush 40, 2) := by decide +kernel
theorem kd_Mo_skip_49 : decode kc_Mo_skip 49 = .ok (.if_icmp .ne 84, 3) := by decide +kernel
theorem kd_Mo_skip_52 : decode kc_Mo_skip 52 = .ok (.aload_n 0, 1) := by decide +kernel
theorem kd_Mo_skip_53 : decode kc_Mo_skip 53 = .ok (.iload_n 2, 1) := by decide +kernel
theorem kd_Mo_skip_54 : decode kc_Mo_skip 54 = .ok (.iconst 1, 1) := by decide +kernel
theorem kd_Mo_skip_55 : decode kc_Mo_skip 55 = .ok (.iadd, 1) := by decide +kernel
theorem kd_Mo_skip_56 : decode kc_Mo_skip 56 = .ok (.invokevirtual 187, 3) := by decide +kernel
theorem kd_Mo_skip_59 : decode kc_Mo_skip 59 = .ok (.bipush 42, 2) := by decide +kernel
theorem kd_Mo_skip_61 : decode kc_Mo_skip 61 = .ok (.if_icmp .ne 72, 3) := by decide +kernel
theorem kd_Mo_skip_64 : decode kc_Mo_skip 64 = .ok (.iload_n 2, 1) := by decide +kernel
theorem kd_Mo_skip_65 : decode kc_Mo_skip 65 = .ok (.iconst 2, 1) := by decide +kernel
theorem kd_Mo_skip_66 : decode kc_Mo_skip 66 = .ok (.iadd, 1) := by decide +kernel
theorem kd_Mo_skip_67 : decode kc_Mo_skip 67 = .ok (.istore 4, 2) := by decide +kernel
theorem kd_Mo_skip_69 : decode kc_Mo_skip 69 = .ok (.iload 4, 2) := by decide +kernel
theorem kd_Mo_skip_71 : decode kc_Mo_skip 71 = .ok (.aload_n 0, 1) := by decide +kernel
theorem kd_Mo_skip_72 : decode kc_Mo_skip 72 = .ok (.getfield 184, 3) := by decide +kernel
theorem kd_Mo_skip_75 : decode kc_Mo_skip 75 = .ok (.if_icmp .ge 33, 3) := by decide +kernel
theorem kd_Mo_skip_78 : decode kc_Mo_skip 78 = .ok (.aload_n 0, 1) := by decide +kernel
theorem kd_Mo_skip_79 : decode kc_Mo_skip 79 = .ok (.iload 4, 2) := by decide +kernel
theorem kd_Mo_skip_81 : decode kc_Mo_skip 81 = .ok (.invokevirtual 187, 3) := by decide +kernel
theorem kd_Mo_skip_84 : decode kc_Mo_skip 84 = .ok (.bipush 42, 2) := by decide +kernel
theorem kd_Mo_skip_86 : decode kc_Mo_skip 86 = .ok (.if_icmp .ne 16, 3) := by decide +kernel
theorem kd_Mo_skip_89 : decode kc_Mo_skip 89 = .ok (.aload_n 0, 1) := by decide +kernel
theorem kd_Mo_skip_90 : decode kc_Mo_skip 90 = .ok (.iload 4, 2) := by decide +kernel
theorem kd_Mo_skip_92 : decode kc_Mo_skip 92 = .ok (.iconst 1, 1) := by decide +kernel
theorem kd_Mo_skip_93 : decode kc_Mo_skip 93 = .ok (.iadd, 1) := by decide +kernel
theorem kd_Mo_skip_94 : decode kc_Mo_skip 94 = .ok (.invokevirtual 187, 3) := by decide +kernel
theorem kd_Mo_skip_97 : decode kc_Mo_skip 97 = .ok (.bipush 41, 2) := by decide +kernel
theorem kd_Mo_skip_99 : decode kc_Mo_skip 99 = .ok (.if_icmp .eq 9, 3) := by decide +kernel
theorem kd_Mo_skip_102 : decode kc_Mo_skip 102 = .ok (.iinc 4 1, 3) := by decide +kernel
theorem kd_Mo_skip_105 : decode kc_Mo_skip 105 = .ok (.goto (-36), 3) := by decide +kernel
theorem kd_Mo_skip_108 : decode kc_Mo_skip 108 = .ok (.iload 4, 2) := by decide +kernel
theorem kd_Mo_skip_110 : decode kc_Mo_skip 110 = .ok (.aload_n 0, 1) := by decide +kernel
theorem kd_Mo_skip_111 : decode kc_Mo_skip 111 = .ok (.getfield 184, 3) := by decide +kernel
theorem kd_Mo_skip_114 : decode kc_Mo_skip 114 = .ok (.if_icmp .lt 11, 3) := by decide +kernel
theorem kd_Mo_skip_117 : decode kc_Mo_skip 117 = .ok (.aload_n 0, 1) := by decide +kernel
theorem kd_Mo_skip_118 : decode kc_Mo_skip 118 = .ok (.iconst 2, 1) := by decide +kernel
theorem kd_Mo_skip_119 : decode kc_Mo_skip 119 = .ok (.iload_n 2, 1) := by decide +kernel
theorem kd_Mo_skip_120 : decode kc_Mo_skip 120 = .ok (.invokevirtual 204, 3) := by decide +kernel
theorem kd_Mo_skip_123 : decode kc_Mo_skip 123 = .ok (.iconst (-1), 1) := by decide +kernel
theorem kd_Mo_skip_124 : decode kc_Mo_skip 124 = .ok (.ireturn, 1) := by decide +kernel
theorem kd_Mo_skip_125 : decode kc_Mo_skip 125 = .ok (.iload 4, 2) := by decide +kernel
theorem kd_Mo_skip_127 : decode kc_Mo_skip 127 = .ok (.iconst 2, 1) := by decide +kernel
theorem kd_Mo_skip_128 : decode kc_Mo_skip 128 = .ok (.iadd, 1) := by decide +kernel
theorem kd_Mo_skip_129 : decode kc_Mo_skip 129 = .ok (.istore_n 2, 1) := by decide +kernel
theorem kd_Mo_skip_130 : decode kc_Mo_skip 130 = .ok (.goto 5, 3) := by decide +kernel
theorem kd_Mo_skip_133 : decode kc_Mo_skip 133 = .ok (.iload_n 2, 1) := by decide +kernel
theorem kd_Mo_skip_134 : decode kc_Mo_skip 134 = .ok (.ireturn, 1) := by decide +kernel
theorem kd_Mo_skip_135 : decode kc_Mo_skip 135 = .ok (.goto (-133), 3) := by decide +kernel
theorem kd_Mo_skip_138 : decode kc_Mo_skip 138 = .ok (.iload_n 2, 1) := by decide +kernel
theorem kd_Mo_skip_139 : decode kc_Mo_skip 139 = .ok (.ireturn, 1) := by decide +kernel
theorem kd_Mo_byteOf_0 : decode kc_Mo_byteOf 0 = .ok (.iload_n 1, 1) := by decide +kernel
theorem kd_Mo_byteOf_1 : decode kc_Mo_byteOf 1 = .ok (.ifCond .lt 24, 3) := by decide +kernel
theorem kd_Mo_byteOf_4 : decode kc_Mo_byteOf 4 = .ok (.iload_n 1, 1) := by decide +kernel
theorem kd_Mo_byteOf_5 : decode kc_Mo_byteOf 5 = .ok (.aload_n 0, 1) := by decide +kernel
theorem kd_Mo_byteOf_6 : decode kc_Mo_byteOf 6 = .ok (.getfield 184, 3) := by decide +kernel
theorem kd_Mo_byteOf_9 : decode kc_Mo_byteOf 9 = .ok (.if_icmp .ge 16, 3) := by decide +kernel
theorem kd_Mo_byteOf_12 : decode kc_Mo_byteOf 12 = .ok (.aload_n 0, 1) := by decide +kernel
theorem kd_Mo_byteOf_13 : decode kc_Mo_byteOf 13 = .ok (.getfield 7, 3) := by decide +kernel
theorem kd_Mo_byteOf_16 : decode kc_Mo_byteOf 16 = .ok (.iload_n 1, 1) := by decide +kernel
theorem kd_Mo_byteOf_17 : decode kc_Mo_byteOf 17 = .ok (.baload, 1) := by decide +kernel
theorem kd_Mo_byteOf_18 : decode kc_Mo_byteOf 18 = .ok (.sipush 255, 3) := by decide +kernel
theorem kd_Mo_byteOf_21 : decode kc_Mo_byteOf 21 = .ok (.iand, 1) := by decide +kernel
theorem kd_Mo_byteOf_22 : decode kc_Mo_byteOf 22 = .ok (.goto 4, 3) := by decide +kernel
theorem kd_Mo_byteOf_25 : decode kc_Mo_byteOf 25 = .ok (.iconst (-1), 1) := by decide +kernel
theorem kd_Mo_byteOf_26 : decode kc_Mo_byteOf 26 = .ok (.ireturn, 1) := by decide +kernel
theorem kd_Mo_great_0 : decode kc_Mo_great 0 = .ok (.aload_n 0, 1) := by decide +kernel
theorem kd_Mo_great_1 : decode kc_Mo_great 1 = .ok (.iload_n 1, 1) := by decide +kernel
theorem kd_Mo_great_2 : decode kc_Mo_great 2 = .ok (.invokevirtual 187, 3) := by decide +kernel
theorem kd_Mo_great_5 : decode kc_Mo_great 5 = .ok (.istore_n 2, 1) := by decide +kernel
theorem kd_Mo_great_6 : decode kc_Mo_great 6 = .ok (.iload_n 2, 1) := by decide +kernel
theorem kd_Mo_great_7 : decode kc_Mo_great 7 = .ok (.bipush 97, 2) := by decide +kernel
theorem kd_Mo_great_9 : decode kc_Mo_great 9 = .ok (.if_icmp .lt 16, 3) := by decide +kernel
theorem kd_Mo_great_12 : decode kc_Mo_great 12 = .ok (.iload_n 2, 1) := by decide +kernel
theorem kd_Mo_great_13 : decode kc_Mo_great 13 = .ok (.bipush 122, 2) := by decide +kernel
theorem kd_Mo_great_15 : decode kc_Mo_great 15 = .ok (.if_icmp .gt 10, 3) := by decide +kernel
theorem kd_Mo_great_18 : decode kc_Mo_great 18 = .ok (.iload_n 2, 1) := by decide +kernel
theorem kd_Mo_great_19 : decode kc_Mo_great 19 = .ok (.bipush 32, 2) := by decide +kernel
theorem kd_Mo_great_21 : decode kc_Mo_great 21 = .ok (.isub, 1) := by decide +kernel
theorem kd_Mo_great_22 : decode kc_Mo_great 22 = .ok (.goto 4, 3) := by decide +kernel
theorem kd_Mo_great_25 : decode kc_Mo_great 25 = .ok (.iload_n 2, 1) := by decide +kernel
theorem kd_Mo_great_26 : decode kc_Mo_great 26 = .ok (.ireturn, 1) := by decide +kernel
theorem kd_Mo_next_0 : decode kc_Mo_next 0 = .ok (.aload_n 0, 1) := by decide +kernel
theorem kd_Mo_next_1 : decode kc_Mo_next 1 = .ok (.aload_n 0, 1) := by decide +kernel
theorem kd_Mo_next_2 : decode kc_Mo_next 2 = .ok (.aload_n 0, 1) := by decide +kernel
theorem kd_Mo_next_3 : decode kc_Mo_next 3 = .ok (.getfield 208, 3) := by decide +kernel
theorem kd_Mo_next_6 : decode kc_Mo_next 6 = .ok (.invokevirtual 211, 3) := by decide +kernel
theorem kd_Mo_next_9 : decode kc_Mo_next 9 = .ok (.putfield 214, 3) := by decide +kernel
theorem kd_Mo_next_12 : decode kc_Mo_next 12 = .ok (.aload_n 0, 1) := by decide +kernel
theorem kd_Mo_next_13 : decode kc_Mo_next 13 = .ok (.getfield 214, 3) := by decide +kernel
theorem kd_Mo_next_16 : decode kc_Mo_next 16 = .ok (.ifCond .ge 9, 3) := by decide +kernel
theorem kd_Mo_next_19 : decode kc_Mo_next 19 = .ok (.aload_n 0, 1) := by decide +kernel
theorem kd_Mo_next_20 : decode kc_Mo_next 20 = .ok (.iconst 0, 1) := by decide +kernel
theorem kd_Mo_next_21 : decode kc_Mo_next 21 = .ok (.putfield 217, 3) := by decide +kernel
theorem kd_Mo_next_24 : decode kc_Mo_next 24 = .ok (.return_, 1) := by decide +kernel
theorem kd_Mo_next_25 : decode kc_Mo_next 25 = .ok (.aload_n 0, 1) := by decide +kernel
theorem kd_Mo_next_26 : decode kc_Mo_next 26 = .ok (.aload_n 0, 1) := by decide +kernel
theorem kd_Mo_next_27 : decode kc_Mo_next 27 = .ok (.getfield 214, 3) := by decide +kernel
theorem kd_Mo_next_30 : decode kc_Mo_next 30 = .ok (.invokevirtual 191, 3) := by decide +kernel
theorem kd_Mo_next_33 : decode kc_Mo_next 33 = .ok (.istore_n 1, 1) := by decide +kernel
theorem kd_Mo_next_34 : decode kc_Mo_next 34 = .ok (.aload_n 0, 1) := by decide +kernel
theorem kd_Mo_next_35 : decode kc_Mo_next 35 = .ok (.getfield 214, 3) := by decide +kernel
theorem kd_Mo_next_38 : decode kc_Mo_next 38 = .ok (.aload_n 0, 1) := by decide +kernel
theorem kd_Mo_next_39 : decode kc_Mo_next 39 = .ok (.getfield 184, 3) := by decide +kernel
theorem kd_Mo_next_42 : decode kc_Mo_next 42 = .ok (.if_icmp .lt 27, 3) := by decide +kernel
theorem kd_Mo_next_45 : decode kc_Mo_next 45 = .ok (.aload_n 0, 1) := by decide +kernel
theorem kd_Mo_next_46 : decode kc_Mo_next 46 = .ok (.iconst 0, 1) := by decide +kernel
theorem kd_Mo_next_47 : decode kc_Mo_next 47 = .ok (.putfield 217, 3) := by decide +kernel
theorem kd_Mo_next_50 : decode kc_Mo_next 50 = .ok (.aload_n 0, 1) := by decide +kernel
theorem kd_Mo_next_51 : decode kc_Mo_next 51 = .ok (.aload_n 0, 1) := by decide +kernel
theorem kd_Mo_next_52 : decode kc_Mo_next 52 = .ok (.getfield 184, 3) := by decide +kernel
theorem kd_Mo_next_55 : decode kc_Mo_next 55 = .ok (.putfield 214, 3) := by decide +kernel
theorem kd_Mo_next_58 : decode kc_Mo_next 58 = .ok (.aload_n 0, 1) := by decide +kernel
theorem kd_Mo_next_59 : decode kc_Mo_next 59 = .ok (.aload_n 0, 1) := by decide +kernel
theorem kd_Mo_next_60 : decode kc_Mo_next 60 = .ok (.getfield 184, 3) := by decide +kernel
theorem kd_Mo_next_63 : decode kc_Mo_next 63 = .ok (.putfield 208, 3) := by decide +kernel
theorem kd_Mo_next_66 : decode kc_Mo_next 66 = .ok (.goto 76, 3) := by decide +kernel
theorem kd_Mo_next_69 : decode kc_Mo_next 69 = .ok (.iload_n 1, 1) := by decide +kernel
theorem kd_Mo_next_70 : decode kc_Mo_next 70 = .ok (.bipush 84, 2) := by decide +kernel
theorem kd_Mo_next_72 : decode kc_Mo_next 72 = .ok (.if_icmp .ne 25, 3) := by decide +kernel
theorem kd_Mo_next_75 : decode kc_Mo_next 75 = .ok (.aload_n 0, 1) := by decide +kernel
theorem kd_Mo_next_76 : decode kc_Mo_next 76 = .ok (.aload_n 0, 1) := by decide +kernel
theorem kd_Mo_next_77 : decode kc_Mo_next 77 = .ok (.getfield 214, 3) := by decide +kernel
theorem kd_Mo_next_80 : decode kc_Mo_next 80 = .ok (.iconst 1, 1) := by decide +kernel
theorem kd_Mo_next_81 : decode kc_Mo_next 81 = .ok (.iadd, 1) := by decide +kernel
theorem kd_Mo_next_82 : decode kc_Mo_next 82 = .ok (.invokevirtual 187, 3) := by decide +kernel
theorem kd_Mo_next_85 : decode kc_Mo_next 85 = .ok (.bipush 35, 2) := by decide +kernel
theorem kd_Mo_next_87 : decode kc_Mo_next 87 = .ok (.if_icmp .ne 10, 3) := by decide +kernel
theorem kd_Mo_next_90 : decode kc_Mo_next 90 = .ok (.aload_n 0, 1) := by decide +kernel
theorem kd_Mo_next_91 : decode kc_Mo_next 91 = .ok (.invokevirtual 220, 3) := by decide +kernel
theorem kd_Mo_next_94 : decode kc_Mo_next 94 = .ok (.goto 48, 3) := by decide +kernel
theorem kd_Mo_next_97 : decode kc_Mo_next 97 = .ok (.iload_n 1, 1) := by decide +kernel
theorem kd_Mo_next_98 : decode kc_Mo_next 98 = .ok (.invokestatic 194, 3) := by decide +kernel
theorem kd_Mo_next_101 : decode kc_Mo_next 101 = .ok (.ifCond .eq 10, 3) := by decide +kernel
theorem kd_Mo_next_104 : decode kc_Mo_next 104 = .ok (.aload_n 0, 1) := by decide +kernel
theorem kd_Mo_next_105 : decode kc_Mo_next 105 = .ok (.invokevirtual 223, 3) := by decide +kernel
theorem kd_Mo_next_108 : decode kc_Mo_next 108 = .ok (.goto 34, 3) := by decide +kernel
theorem kd_Mo_next_111 : decode kc_Mo_next 111 = .ok (.iload_n 1, 1) := by decide +kernel
theorem kd_Mo_next_112 : decode kc_Mo_next 112 = .ok (.invokestatic 198, 3) := by decide +kernel
theorem kd_Mo_next_115 : decode kc_Mo_next 115 = .ok (.ifCond .eq 10, 3) := by decide +kernel
theorem kd_Mo_next_118 : decode kc_Mo_next 118 = .ok (.aload_n 0, 1) := by decide +kernel
theorem kd_Mo_next_119 : decode kc_Mo_next 119 = .ok (.invokevirtual 226, 3) := by decide +kernel
theorem kd_Mo_next_122 : decode kc_Mo_next 122 = .ok (.goto 20, 3) := by decide +kernel
theorem kd_Mo_next_125 : decode kc_Mo_next 125 = .ok (.iload_n 1, 1) := by decide +kernel
theorem kd_Mo_next_126 : decode kc_Mo_next 126 = .ok (.bipush 37, 2) := by decide +kernel
theorem kd_Mo_next_128 : decode kc_Mo_next 128 = .ok (.if_icmp .ne 10, 3) := by decide +kernel
theorem kd_Mo_next_131 : decode kc_Mo_next 131 = .ok (.aload_n 0, 1) := by decide +kernel
theorem kd_Mo_next_132 : decode kc_Mo_next 132 = .ok (.invokevirtual 229, 3) := by decide +kernel
theorem kd_Mo_next_135 : decode kc_Mo_next 135 = .ok (.goto 7, 3) := by decide +kernel
theorem kd_Mo_next_138 : decode kc_Mo_next 138 = .ok (.aload_n 0, 1) := by decide +kernel
theorem kd_Mo_next_139 : decode kc_Mo_next 139 = .ok (.invokevirtual 232, 3) := by decide +kernel
theorem kd_Mo_next_142 : decode kc_Mo_next 142 = .ok (.return_, 1) := by decide +kernel
theorem kd_Mo_node_0 : decode kc_Mo_node 0 = .ok (.aload_n 0, 1) := by decide +kernel
theorem kd_Mo_node_1 : decode kc_Mo_node 1 = .ok (.getfield 315, 3) := by decide +kernel
theorem kd_Mo_node_4 : decode kc_Mo_node 4 = .ok (.istore 4, 2) := by decide +kernel
theorem kd_Mo_node_6 : decode kc_Mo_node 6 = .ok (.aload_n 0, 1) := by decide +kernel
theorem kd_Mo_node_7 : decode kc_Mo_node 7 = .ok (.dup, 1) := by decide +kernel
theorem kd_Mo_node_8 : decode kc_Mo_node 8 = .ok (.getfield 315, 3) := by decide +kernel
theorem kd_Mo_node_11 : decode kc_Mo_node 11 = .ok (.iconst 1, 1) := by decide +kernel
theorem kd_Mo_node_12 : decode kc_Mo_node 12 = .ok (.iadd, 1) := by decide +kernel
theorem kd_Mo_node_13 : decode kc_Mo_node 13 = .ok (.putfield 315, 3) := by decide +kernel
theorem kd_Mo_node_16 : decode kc_Mo_node 16 = .ok (.aload_n 0, 1) := by decide +kernel
theorem kd_Mo_node_17 : decode kc_Mo_node 17 = .ok (.getfield 22, 3) := by decide +kernel
theorem kd_Mo_node_20 : decode kc_Mo_node 20 = .ok (.iload 4, 2) := by decide +kernel
theorem kd_Mo_node_22 : decode kc_Mo_node 22 = .ok (.iload_n 1, 1) := by decide +kernel
theorem kd_Mo_node_23 : decode kc_Mo_node 23 = .ok (.iastore, 1) := by decide +kernel
theorem kd_Mo_node_24 : decode kc_Mo_node 24 = .ok (.aload_n 0, 1) := by decide +kernel
theorem kd_Mo_node_25 : decode kc_Mo_node 25 = .ok (.getfield 25, 3) := by decide +kernel
theorem kd_Mo_node_28 : decode kc_Mo_node 28 = .ok (.iload 4, 2) := by decide +kernel
theorem kd_Mo_node_30 : decode kc_Mo_node 30 = .ok (.iload_n 2, 1) := by decide +kernel
theorem kd_Mo_node_31 : decode kc_Mo_node 31 = .ok (.iastore, 1) := by decide +kernel
theorem kd_Mo_node_32 : decode kc_Mo_node 32 = .ok (.aload_n 0, 1) := by decide +kernel
theorem kd_Mo_node_33 : decode kc_Mo_node 33 = .ok (.getfield 28, 3) := by decide +kernel
theorem kd_Mo_node_36 : decode kc_Mo_node 36 = .ok (.iload 4, 2) := by decide +kernel
theorem kd_Mo_node_38 : decode kc_Mo_node 38 = .ok (.iload_n 3, 1) := by decide +kernel
theorem kd_Mo_node_39 : decode kc_Mo_node 39 = .ok (.iastore, 1) := by decide +kernel
theorem kd_Mo_node_40 : decode kc_Mo_node 40 = .ok (.aload_n 0, 1) := by decide +kernel
theorem kd_Mo_node_41 : decode kc_Mo_node 41 = .ok (.getfield 31, 3) := by decide +kernel
theorem kd_Mo_node_44 : decode kc_Mo_node 44 = .ok (.iload 4, 2) := by decide +kernel
theorem kd_Mo_node_46 : decode kc_Mo_node 46 = .ok (.iconst (-1), 1) := by decide +kernel
theorem kd_Mo_node_47 : decode kc_Mo_node 47 = .ok (.iastore, 1) := by decide +kernel
theorem kd_Mo_node_48 : decode kc_Mo_node 48 = .ok (.aload_n 0, 1) := by decide +kernel
theorem kd_Mo_node_49 : decode kc_Mo_node 49 = .ok (.getfield 34, 3) := by decide +kernel
theorem kd_Mo_node_52 : decode kc_Mo_node 52 = .ok (.iload 4, 2) := by decide +kernel
theorem kd_Mo_node_54 : decode kc_Mo_node 54 = .ok (.iconst (-1), 1) := by decide +kernel
theorem kd_Mo_node_55 : decode kc_Mo_node 55 = .ok (.iastore, 1) := by decide +kernel
theorem kd_Mo_node_56 : decode kc_Mo_node 56 = .ok (.aload_n 0, 1) := by decide +kernel
theorem kd_Mo_node_57 : decode kc_Mo_node 57 = .ok (.getfield 37, 3) := by decide +kernel
theorem kd_Mo_node_60 : decode kc_Mo_node 60 = .ok (.iload 4, 2) := by decide +kernel
theorem kd_Mo_node_62 : decode kc_Mo_node 62 = .ok (.iconst (-1), 1) := by decide +kernel
theorem kd_Mo_node_63 : decode kc_Mo_node 63 = .ok (.iastore, 1) := by decide +kernel
theorem kd_Mo_node_64 : decode kc_Mo_node 64 = .ok (.aload_n 0, 1) := by decide +kernel
theorem kd_Mo_node_65 : decode kc_Mo_node 65 = .ok (.getfield 40, 3) := by decide +kernel
theorem kd_Mo_node_68 : decode kc_Mo_node 68 = .ok (.iload 4, 2) := by decide +kernel
theorem kd_Mo_node_70 : decode kc_Mo_node 70 = .ok (.iconst (-1), 1) := by decide +kernel
theorem kd_Mo_node_71 : decode kc_Mo_node 71 = .ok (.iastore, 1) := by decide +kernel
theorem kd_Mo_node_72 : decode kc_Mo_node 72 = .ok (.iload 4, 2) := by decide +kernel
theorem kd_Mo_node_74 : decode kc_Mo_node 74 = .ok (.ireturn, 1) := by decide +kernel
theorem kd_Mo_number_0 : decode kc_Mo_number 0 = .ok (.iconst 0, 1) := by decide +kernel
theorem kd_Mo_number_1 : decode kc_Mo_number 1 = .ok (.istore_n 1, 1) := by decide +kernel
theorem kd_Mo_number_2 : decode kc_Mo_number 2 = .ok (.iconst 0, 1) := by decide +kernel
theorem kd_Mo_number_3 : decode kc_Mo_number 3 = .ok (.istore_n 2, 1) := by decide +kernel
theorem kd_Mo_number_4 : decode kc_Mo_number 4 = .ok (.iload_n 2, 1) := by decide +kernel
theorem kd_Mo_number_5 : decode kc_Mo_number 5 = .ok (.ifCond .lt 80, 3) := by decide +kernel
theorem kd_Mo_number_8 : decode kc_Mo_number 8 = .ok (.aload_n 0, 1) := by decide +kernel
theorem kd_Mo_number_9 : decode kc_Mo_number 9 = .ok (.getfield 43, 3) := by decide +kernel
theorem kd_Mo_number_12 : decode kc_Mo_number 12 = .ok (.iload_n 1, 1) := by decide +kernel
theorem kd_Mo_number_13 : decode kc_Mo_number 13 = .ok (.iload_n 2, 1) := by decide +kernel
theorem kd_Mo_number_14 : decode kc_Mo_number 14 = .ok (.iastore, 1) := by decide +kernel
theorem kd_Mo_number_15 : decode kc_Mo_number 15 = .ok (.aload_n 0, 1) := by decide +kernel
theorem kd_Mo_number_16 : decode kc_Mo_number 16 = .ok (.getfield 46, 3) := by decide +kernel
theorem kd_Mo_number_19 : decode kc_Mo_number 19 = .ok (.iload_n 2, 1) := by decide +kernel
theorem kd_Mo_number_20 : decode kc_Mo_number 20 = .ok (.iload_n 1, 1) := by decide +kernel
theorem kd_Mo_number_21 : decode kc_Mo_number 21 = .ok (.iastore, 1) := by decide +kernel
theorem kd_Mo_number_22 : decode kc_Mo_number 22 = .ok (.iinc 1 1, 3) := by decide +kernel
theorem kd_Mo_number_25 : decode kc_Mo_number 25 = .ok (.aload_n 0, 1) := by decide +kernel
theorem kd_Mo_number_26 : decode kc_Mo_number 26 = .ok (.getfield 34, 3) := by decide +kernel
theorem kd_Mo_number_29 : decode kc_Mo_number 29 = .ok (.iload_n 2, 1) := by decide +kernel
theorem kd_Mo_number_30 : decode kc_Mo_number 30 = .ok (.iaload, 1) := by decide +kernel
theorem kd_Mo_number_31 : decode kc_Mo_number 31 = .ok (.ifCond .lt 13, 3) := by decide +kernel
theorem kd_Mo_number_34 : decode kc_Mo_number 34 = .ok (.aload_n 0, 1) := by decide +kernel
theorem kd_Mo_number_35 : decode kc_Mo_number 35 = .ok (.getfield 34, 3) := by decide +kernel
theorem kd_Mo_number_38 : decode kc_Mo_number 38 = .ok (.iload_n 2, 1) := by decide +kernel
theorem kd_Mo_number_39 : decode kc_Mo_number 39 = .ok (.iaload, 1) := by decide +kernel
theorem kd_Mo_number_40 : decode kc_Mo_number 40 = .ok (.istore_n 2, 1) := by decide +kernel
theorem kd_Mo_number_41 : decode kc_Mo_number 41 = .ok (.goto (-37), 3) := by decide +kernel
theorem kd_Mo_number_44 : decode kc_Mo_number 44 = .ok (.iload_n 2, 1) := by decide +kernel
theorem kd_Mo_number_45 : decode kc_Mo_number 45 = .ok (.ifCond .lt 22, 3) := by decide +kernel
theorem kd_Mo_number_48 : decode kc_Mo_number 48 = .ok (.aload_n 0, 1) := by decide +kernel
theorem kd_Mo_number_49 : decode kc_Mo_number 49 = .ok (.getfield 40, 3) := by decide +kernel
theorem kd_Mo_number_52 : decode kc_Mo_number 52 = .ok (.iload_n 2, 1) := by decide +kernel
theorem kd_Mo_number_53 : decode kc_Mo_number 53 = .ok (.iaload, 1) := by decide +kernel
theorem kd_Mo_number_54 : decode kc_Mo_number 54 = .ok (.ifCond .ge 13, 3) := by decide +kernel
theorem kd_Mo_number_57 : decode kc_Mo_number 57 = .ok (.aload_n 0, 1) := by decide +kernel
theorem kd_Mo_number_58 : decode kc_Mo_number 58 = .ok (.getfield 31, 3) := by decide +kernel
theorem kd_Mo_number_61 : decode kc_Mo_number 61 = .ok (.iload_n 2, 1) := by decide +kernel
theorem kd_Mo_number_62 : decode kc_Mo_number 62 = .ok (.iaload, 1) := by decide +kernel
theorem kd_Mo_number_63 : decode kc_Mo_number 63 = .ok (.istore_n 2, 1) := by decide +kernel
theorem kd_Mo_number_64 : decode kc_Mo_number 64 = .ok (.goto (-20), 3) := by decide +kernel
theorem kd_Mo_number_67 : decode kc_Mo_number 67 = .ok (.iload_n 2, 1) := by decide +kernel
theorem kd_Mo_number_68 : decode kc_Mo_number 68 = .ok (.ifCond .ge 7, 3) := by decide +kernel
theorem kd_Mo_number_71 : decode kc_Mo_number 71 = .ok (.iconst (-1), 1) := by decide +kernel
theorem kd_Mo_number_72 : decode kc_Mo_number 72 = .ok (.goto 9, 3) := by decide +kernel
theorem kd_Mo_number_75 : decode kc_Mo_number 75 = .ok (.aload_n 0, 1) := by decide +kernel
theorem kd_Mo_number_76 : decode kc_Mo_number 76 = .ok (.getfield 40, 3) := by decide +kernel
theorem kd_Mo_number_79 : decode kc_Mo_number 79 = .ok (.iload_n 2, 1) := by decide +kernel
theorem kd_Mo_number_80 : decode kc_Mo_number 80 = .ok (.iaload, 1) := by decide +kernel
theorem kd_Mo_number_81 : decode kc_Mo_number 81 = .ok (.istore_n 2, 1) := by decide +kernel
theorem kd_Mo_number_82 : decode kc_Mo_number 82 = .ok (.goto (-78), 3) := by decide +kernel
theorem kd_Mo_number_85 : decode kc_Mo_number 85 = .ok (.return_, 1) := by decide +kernel
theorem kd_Mo_readText_0 : decode kc_Mo_readText 0 = .ok (.aload_n 0, 1) := by decide +kernel
theorem kd_Mo_readText_1 : decode kc_Mo_readText 1 = .ok (.iconst 0, 1) := by decide +kernel
theorem kd_Mo_readText_2 : decode kc_Mo_readText 2 = .ok (.putfield 201, 3) := by decide +kernel
theorem kd_Mo_readText_5 : decode kc_Mo_readText 5 = .ok (.aload_n 0, 1) := by decide +kernel
theorem kd_Mo_readText_6 : decode kc_Mo_readText 6 = .ok (.iconst (-1), 1) := by decide +kernel
theorem kd_Mo_readText_7 : decode kc_Mo_readText 7 = .ok (.putfield 178, 3) := by decide +kernel
theorem kd_Mo_readText_10 : decode kc_Mo_readText 10 = .ok (.aload_n 0, 1) := by decide +kernel
theorem kd_Mo_readText_11 : decode kc_Mo_readText 11 = .ok (.iconst 0, 1) := by decide +kernel
theorem kd_Mo_readText_12 : decode kc_Mo_readText 12 = .ok (.putfield 315, 3) := by decide +kernel
theorem kd_Mo_readText_15 : decode kc_Mo_readText 15 = .ok (.aload_n 0, 1) := by decide +kernel
theorem kd_Mo_readText_16 : decode kc_Mo_readText 16 = .ok (.iconst 0, 1) := by decide +kernel
theorem kd_Mo_readText_17 : decode kc_Mo_readText 17 = .ok (.putfield 259, 3) := by decide +kernel
theorem kd_Mo_readText_20 : decode kc_Mo_readText 20 = .ok (.aload_n 0, 1) := by decide +kernel
theorem kd_Mo_readText_21 : decode kc_Mo_readText 21 = .ok (.iconst 0, 1) := by decide +kernel
theorem kd_Mo_readText_22 : decode kc_Mo_readText 22 = .ok (.putfield 325, 3) := by decide +kernel
theorem kd_Mo_readText_25 : decode kc_Mo_readText 25 = .ok (.aload_n 0, 1) := by decide +kernel
theorem kd_Mo_readText_26 : decode kc_Mo_readText 26 = .ok (.iconst 0, 1) := by decide +kernel
theorem kd_Mo_readText_27 : decode kc_Mo_readText 27 = .ok (.putfield 328, 3) := by decide +kernel
theorem kd_Mo_readText_30 : decode kc_Mo_readText 30 = .ok (.aload_n 0, 1) := by decide +kernel
theorem kd_Mo_readText_31 : decode kc_Mo_readText 31 = .ok (.iconst 0, 1) := by decide +kernel
theorem kd_Mo_readText_32 : decode kc_Mo_readText 32 = .ok (.putfield 312, 3) := by decide +kernel
theorem kd_Mo_readText_35 : decode kc_Mo_readText 35 = .ok (.aload_n 0, 1) := by decide +kernel
theorem kd_Mo_readText_36 : decode kc_Mo_readText 36 = .ok (.iconst 0, 1) := by decide +kernel
theorem kd_Mo_readText_37 : decode kc_Mo_readText 37 = .ok (.putfield 208, 3) := by decide +kernel
theorem kd_Mo_readText_40 : decode kc_Mo_readText 40 = .ok (.aload_n 0, 1) := by decide +kernel
theorem kd_Mo_readText_41 : decode kc_Mo_readText 41 = .ok (.iconst 0, 1) := by decide +kernel
theorem kd_Mo_readText_42 : decode kc_Mo_readText 42 = .ok (.putfield 331, 3) := by decide +kernel
theorem kd_Mo_readText_45 : decode kc_Mo_readText 45 = .ok (.aload_n 0, 1) := by decide +kernel
theorem kd_Mo_readText_46 : decode kc_Mo_readText 46 = .ok (.invokevirtual 296, 3) := by decide +kernel
theorem kd_Mo_readText_49 : decode kc_Mo_readText 49 = .ok (.aload_n 0, 1) := by decide +kernel
theorem kd_Mo_readText_50 : decode kc_Mo_readText 50 = .ok (.iconst 0, 1) := by decide +kernel
theorem kd_Mo_readText_51 : decode kc_Mo_readText 51 = .ok (.iconst 0, 1) := by decide +kernel
theorem kd_Mo_readText_52 : decode kc_Mo_readText 52 = .ok (.iconst 0, 1) := by decide +kernel
theorem kd_Mo_readText_53 : decode kc_Mo_readText 53 = .ok (.invokevirtual 318, 3) := by decide +kernel
theorem kd_Mo_readText_56 : decode kc_Mo_readText 56 = .ok (.istore_n 1, 1) := by decide +kernel
theorem kd_Mo_readText_57 : decode kc_Mo_readText 57 = .ok (.aload_n 0, 1) := by decide +kernel
theorem kd_Mo_readText_58 : decode kc_Mo_readText 58 = .ok (.getfield 201, 3) := by decide +kernel
theorem kd_Mo_readText_61 : decode kc_Mo_readText 61 = .ok (.ifCond .ne 18, 3) := by decide +kernel
theorem kd_Mo_readText_64 : decode kc_Mo_readText 64 = .ok (.aload_n 0, 1) := by decide +kernel
theorem kd_Mo_readText_65 : decode kc_Mo_readText 65 = .ok (.getfield 217, 3) := by decide +kernel
theorem kd_Mo_readText_68 : decode kc_Mo_readText 68 = .ok (.ifCond .eq 11, 3) := by decide +kernel
theorem kd_Mo_readText_71 : decode kc_Mo_readText 71 = .ok (.aload_n 0, 1) := by decide +kernel
theorem kd_Mo_readText_72 : decode kc_Mo_readText 72 = .ok (.iload_n 1, 1) := by decide +kernel
theorem kd_Mo_readText_73 : decode kc_Mo_readText 73 = .ok (.invokevirtual 335, 3) := by decide +kernel
theorem kd_Mo_readText_76 : decode kc_Mo_readText 76 = .ok (.goto (-19), 3) := by decide +kernel
theorem kd_Mo_readText_79 : decode kc_Mo_readText 79 = .ok (.aload_n 0, 1) := by decide +kernel
theorem kd_Mo_readText_80 : decode kc_Mo_readText 80 = .ok (.aload_n 0, 1) := by decide +kernel
theorem kd_Mo_readText_81 : decode kc_Mo_readText 81 = .ok (.getfield 201, 3) := by decide +kernel
theorem kd_Mo_readText_84 : decode kc_Mo_readText 84 = .ok (.ifCond .ne 7, 3) := by decide +kernel
theorem kd_Mo_readText_87 : decode kc_Mo_readText 87 = .ok (.iconst 1, 1) := by decide +kernel
theorem kd_Mo_readText_88 : decode kc_Mo_readText 88 = .ok (.goto 4, 3) := by decide +kernel
theorem kd_Mo_readText_91 : decode kc_Mo_readText 91 = .ok (.iconst 0, 1) := by decide +kernel
theorem kd_Mo_readText_92 : decode kc_Mo_readText 92 = .ok (.putfield 331, 3) := by decide +kernel
theorem kd_Mo_readText_95 : decode kc_Mo_readText 95 = .ok (.aload_n 0, 1) := by decide +kernel
theorem kd_Mo_readText_96 : decode kc_Mo_readText 96 = .ok (.getfield 331, 3) := by decide +kernel
theorem kd_Mo_readText_99 : decode kc_Mo_readText 99 = .ok (.ifCond .eq 10, 3) := by decide +kernel
theorem kd_Mo_readText_102 : decode kc_Mo_readText 102 = .ok (.aload_n 0, 1) := by decide +kernel
theorem kd_Mo_readText_103 : decode kc_Mo_readText 103 = .ok (.invokevirtual 339, 3) := by decide +kernel
theorem kd_Mo_readText_106 : decode kc_Mo_readText 106 = .ok (.goto 13, 3) := by decide +kernel
theorem kd_Mo_readText_109 : decode kc_Mo_readText 109 = .ok (.aload_n 0, 1) := by decide +kernel
theorem kd_Mo_readText_110 : decode kc_Mo_readText 110 = .ok (.iconst 0, 1) := by decide +kernel
theorem kd_Mo_readText_111 : decode kc_Mo_readText 111 = .ok (.putfield 315, 3) := by decide +kernel
theorem kd_Mo_readText_114 : decode kc_Mo_readText 114 = .ok (.aload_n 0, 1) := by decide +kernel
theorem kd_Mo_readText_115 : decode kc_Mo_readText 115 = .ok (.iconst 0, 1) := by decide +kernel
theorem kd_Mo_readText_116 : decode kc_Mo_readText 116 = .ok (.putfield 259, 3) := by decide +kernel
theorem kd_Mo_readText_119 : decode kc_Mo_readText 119 = .ok (.aload_n 0, 1) := by decide +kernel
theorem kd_Mo_readText_120 : decode kc_Mo_readText 120 = .ok (.getfield 201, 3) := by decide +kernel
theorem kd_Mo_readText_123 : decode kc_Mo_readText 123 = .ok (.ireturn, 1) := by decide +kernel
theorem kd_Mo_breaks_0 : decode kc_Mo_breaks 0 = .ok (.aload_n 0, 1) := by decide +kernel
theorem kd_Mo_breaks_1 : decode kc_Mo_breaks 1 = .ok (.getfield 445, 3) := by decide +kernel
theorem kd_Mo_breaks_4 : decode kc_Mo_breaks 4 = .ok (.ifCond .ne 18, 3) := by decide +kernel
theorem kd_Mo_breaks_7 : decode kc_Mo_breaks 7 = .ok (.aload_n 0, 1) := by decide +kernel
theorem kd_Mo_breaks_8 : decode kc_Mo_breaks 8 = .ok (.iload_n 1, 1) := by decide +kernel
theorem kd_Mo_breaks_9 : decode kc_Mo_breaks 9 = .ok (.putfield 445, 3) := by decide +kernel
theorem kd_Mo_breaks_12 : decode kc_Mo_breaks 12 = .ok (.aload_n 0, 1) := by decide +kernel
theorem kd_Mo_breaks_13 : decode kc_Mo_breaks 13 = .ok (.aload_n 0, 1) := by decide +kernel
theorem kd_Mo_breaks_14 : decode kc_Mo_breaks 14 = .ok (.getfield 25, 3) := by decide +kernel
theorem kd_Mo_breaks_17 : decode kc_Mo_breaks 17 = .ok (.iload_n 2, 1) := by decide +kernel
theorem kd_Mo_breaks_18 : decode kc_Mo_breaks 18 = .ok (.iaload, 1) := by decide +kernel
theorem kd_Mo_breaks_19 : decode kc_Mo_breaks 19 = .ok (.putfield 448, 3) := by decide +kernel
theorem kd_Mo_breaks_22 : decode kc_Mo_breaks 22 = .ok (.return_, 1) := by decide +kernel
theorem kd_Mo_rule_0 : decode kc_Mo_rule 0 = .ok (.iload_n 1, 1) := by decide +kernel
theorem kd_Mo_rule_1 : decode kc_Mo_rule 1 = .ok (.ifCond .eq 9, 3) := by decide +kernel
theorem kd_Mo_rule_4 : decode kc_Mo_rule 4 = .ok (.aload_n 0, 1) := by decide +kernel
theorem kd_Mo_rule_5 : decode kc_Mo_rule 5 = .ok (.iload_n 2, 1) := by decide +kernel
theorem kd_Mo_rule_6 : decode kc_Mo_rule 6 = .ok (.iload_n 3, 1) := by decide +kernel
theorem kd_Mo_rule_7 : decode kc_Mo_rule 7 = .ok (.invokevirtual 451, 3) := by decide +kernel
theorem kd_Mo_rule_10 : decode kc_Mo_rule 10 = .ok (.return_, 1) := by decide +kernel
theorem kd_Mo_lookAtText_0 : decode kc_Mo_lookAtText 0 = .ok (.aload_n 0, 1) := by decide +kernel
theorem kd_Mo_lookAtText_1 : decode kc_Mo_lookAtText 1 = .ok (.aload_n 0, 1) := by decide +kernel
theorem kd_Mo_lookAtText_2 : decode kc_Mo_lookAtText 2 = .ok (.getfield 462, 3) := by decide +kernel
theorem kd_Mo_lookAtText_5 : decode kc_Mo_lookAtText 5 = .ok (.ifCond .eq 18, 3) := by decide +kernel
theorem kd_Mo_lookAtText_8 : decode kc_Mo_lookAtText 8 = .ok (.aload_n 0, 1) := by decide +kernel
theorem kd_Mo_lookAtText_9 : decode kc_Mo_lookAtText 9 = .ok (.getfield 64, 3) := by decide +kernel
theorem kd_Mo_lookAtText_12 : decode kc_Mo_lookAtText 12 = .ok (.aload_n 0, 1) := by decide +kernel
theorem kd_Mo_lookAtText_13 : decode kc_Mo_lookAtText 13 = .ok (.getfield 462, 3) := by decide +kernel
theorem kd_Mo_lookAtText_16 : decode kc_Mo_lookAtText 16 = .ok (.iconst 1, 1) := by decide +kernel
theorem kd_Mo_lookAtText_17 : decode kc_Mo_lookAtText 17 = .ok (.isub, 1) := by decide +kernel
theorem kd_Mo_lookAtText_18 : decode kc_Mo_lookAtText 18 = .ok (.iaload, 1) := by decide +kernel
theorem kd_Mo_lookAtText_19 : decode kc_Mo_lookAtText 19 = .ok (.iconst 3, 1) := by decide +kernel
theorem kd_Mo_lookAtText_20 : decode kc_Mo_lookAtText 20 = .ok (.if_icmp .eq 7, 3) := by decide +kernel
theorem kd_Mo_lookAtText_23 : decode kc_Mo_lookAtText 23 = .ok (.iconst 1, 1) := by decide +kernel
theorem kd_Mo_lookAtText_24 : decode kc_Mo_lookAtText 24 = .ok (.goto 4, 3) := by decide +kernel
theorem kd_Mo_lookAtText_27 : decode kc_Mo_lookAtText 27 = .ok (.iconst 0, 1) := by decide +kernel
theorem kd_Mo_lookAtText_28 : decode kc_Mo_lookAtText 28 = .ok (.bipush 10, 2) := by decide +kernel
theorem kd_Mo_lookAtText_30 : decode kc_Mo_lookAtText 30 = .ok (.iload_n 1, 1) := by decide +kernel
theorem kd_Mo_lookAtText_31 : decode kc_Mo_lookAtText 31 = .ok (.invokevirtual 540, 3) := by decide +kernel
theorem kd_Mo_lookAtText_34 : decode kc_Mo_lookAtText 34 = .ok (.aload_n 0, 1) := by decide +kernel
theorem kd_Mo_lookAtText_35 : decode kc_Mo_lookAtText 35 = .ok (.getfield 445, 3) := by decide +kernel
theorem kd_Mo_lookAtText_38 : decode kc_Mo_lookAtText 38 = .ok (.ifCond .ne 17, 3) := by decide +kernel
theorem kd_Mo_lookAtText_41 : decode kc_Mo_lookAtText 41 = .ok (.aload_n 0, 1) := by decide +kernel
theorem kd_Mo_lookAtText_42 : decode kc_Mo_lookAtText 42 = .ok (.getfield 70, 3) := by decide +kernel
theorem kd_Mo_lookAtText_45 : decode kc_Mo_lookAtText 45 = .ok (.aload_n 0, 1) := by decide +kernel
theorem kd_Mo_lookAtText_46 : decode kc_Mo_lookAtText 46 = .ok (.getfield 462, 3) := by decide +kernel
theorem kd_Mo_lookAtText_49 : decode kc_Mo_lookAtText 49 = .ok (.iconst 1, 1) := by decide +kernel
theorem kd_Mo_lookAtText_50 : decode kc_Mo_lookAtText 50 = .ok (.isub, 1) := by decide +kernel
theorem kd_Mo_lookAtText_51 : decode kc_Mo_lookAtText 51 = .ok (.iaload, 1) := by decide +kernel
theorem kd_Mo_lookAtText_52 : decode kc_Mo_lookAtText 52 = .ok (.goto 4, 3) := by decide +kernel
theorem kd_Mo_lookAtText_55 : decode kc_Mo_lookAtText 55 = .ok (.iconst 0, 1) := by decide +kernel
theorem kd_Mo_lookAtText_56 : decode kc_Mo_lookAtText 56 = .ok (.istore_n 2, 1) := by decide +kernel
theorem kd_Mo_lookAtText_57 : decode kc_Mo_lookAtText 57 = .ok (.iconst 0, 1) := by decide +kernel
theorem kd_Mo_lookAtText_58 : decode kc_Mo_lookAtText 58 = .ok (.istore_n 3, 1) := by decide +kernel
theorem kd_Mo_lookAtText_59 : decode kc_Mo_lookAtText 59 = .ok (.iload_n 3, 1) := by decide +kernel
theorem kd_Mo_lookAtText_60 : decode kc_Mo_lookAtText 60 = .ok (.aload_n 0, 1) := by decide +kernel
theorem kd_Mo_lookAtText_61 : decode kc_Mo_lookAtText 61 = .ok (.getfield 462, 3) := by decide +kernel
theorem kd_Mo_lookAtText_64 : decode kc_Mo_lookAtText 64 = .ok (.if_icmp .ge 42, 3) := by decide +kernel
theorem kd_Mo_lookAtText_67 : decode kc_Mo_lookAtText 67 = .ok (.aload_n 0, 1) := by decide +kernel
theorem kd_Mo_lookAtText_68 : decode kc_Mo_lookAtText 68 = .ok (.getfield 445, 3) := by decide +kernel
theorem kd_Mo_lookAtText_71 : decode kc_Mo_lookAtText 71 = .ok (.ifCond .ne 35, 3) := by decide +kernel
theorem kd_Mo_lookAtText_74 : decode kc_Mo_lookAtText 74 = .ok (.aload_n 0, 1) := by decide +kernel
theorem kd_Mo_lookAtText_75 : decode kc_Mo_lookAtText 75 = .ok (.getfield 64, 3) := by decide +kernel
theorem kd_Mo_lookAtText_78 : decode kc_Mo_lookAtText 78 = .ok (.iload_n 3, 1) := by decide +kernel
theorem kd_Mo_lookAtText_79 : decode kc_Mo_lookAtText 79 = .ok (.iaload, 1) := by decide +kernel
theorem kd_Mo_lookAtText_80 : decode kc_Mo_lookAtText 80 = .ok (.iconst 1, 1) := by decide +kernel
theorem kd_Mo_lookAtText_81 : decode kc_Mo_lookAtText 81 = .ok (.if_icmp .ne 19, 3) := by decide +kernel
theorem kd_Mo_lookAtText_84 : decode kc_Mo_lookAtText 84 = .ok (.aload_n 0, 1) := by decide +kernel
theorem kd_Mo_lookAtText_85 : decode kc_Mo_lookAtText 85 = .ok (.getfield 73, 3) := by decide +kernel
theorem kd_Mo_lookAtText_88 : decode kc_Mo_lookAtText 88 = .ok (.iload_n 3, 1) := by decide +kernel
theorem kd_Mo_lookAtText_89 : decode kc_Mo_lookAtText 89 = .ok (.iload_n 2, 1) := by decide +kernel
theorem kd_Mo_lookAtText_90 : decode kc_Mo_lookAtText 90 = .ok (.iastore, 1) := by decide +kernel
theorem kd_Mo_lookAtText_91 : decode kc_Mo_lookAtText 91 = .ok (.iload_n 2, 1) := by decide +kernel
theorem kd_Mo_lookAtText_92 : decode kc_Mo_lookAtText 92 = .ok (.aload_n 0, 1) := by decide +kernel
theorem kd_Mo_lookAtText_93 : decode kc_Mo_lookAtText 93 = .ok (.getfield 70, 3) := by decide +kernel
theorem kd_Mo_lookAtText_96 : decode kc_Mo_lookAtText 96 = .ok (.iload_n 3, 1) := by decide +kernel
theorem kd_Mo_lookAtText_97 : decode kc_Mo_lookAtText 97 = .ok (.iaload, 1) := by decide +kernel
theorem kd_Mo_lookAtText_98 : decode kc_Mo_lookAtText 98 = .ok (.iadd, 1) := by decide +kernel
theorem kd_Mo_lookAtText_99 : decode kc_Mo_lookAtText 99 = .ok (.istore_n 2, 1) := by decide +kernel
theorem kd_Mo_lookAtText_100 : decode kc_Mo_lookAtText 100 = .ok (.iinc 3 1, 3) := by decide +kernel
theorem kd_Mo_lookAtText_103 : decode kc_Mo_lookAtText 103 = .ok (.goto (-44), 3) := by decide +kernel
theorem kd_Mo_lookAtText_106 : decode kc_Mo_lookAtText 106 = .ok (.aload_n 0, 1) := by decide +kernel
theorem kd_Mo_lookAtText_107 : decode kc_Mo_lookAtText 107 = .ok (.iload_n 2, 1) := by decide +kernel
theorem kd_Mo_lookAtText_108 : decode kc_Mo_lookAtText 108 = .ok (.sipush 8192, 3) := by decide +kernel
theorem kd_Mo_lookAtText_111 : decode kc_Mo_lookAtText 111 = .ok (.if_icmp .le 7, 3) := by decide +kernel
theorem kd_Mo_lookAtText_114 : decode kc_Mo_lookAtText 114 = .ok (.iconst 1, 1) := by decide +kernel
theorem kd_Mo_lookAtText_115 : decode kc_Mo_lookAtText 115 = .ok (.goto 4, 3) := by decide +kernel
theorem kd_Mo_lookAtText_118 : decode kc_Mo_lookAtText 118 = .ok (.iconst 0, 1) := by decide +kernel
theorem kd_Mo_lookAtText_119 : decode kc_Mo_lookAtText 119 = .ok (.bipush 42, 2) := by decide +kernel
theorem kd_Mo_lookAtText_121 : decode kc_Mo_lookAtText 121 = .ok (.iload_n 1, 1) := by decide +kernel
theorem kd_Mo_lookAtText_122 : decode kc_Mo_lookAtText 122 = .ok (.invokevirtual 540, 3) := by decide +kernel
theorem kd_Mo_lookAtText_125 : decode kc_Mo_lookAtText 125 = .ok (.aload_n 0, 1) := by decide +kernel
theorem kd_Mo_lookAtText_126 : decode kc_Mo_lookAtText 126 = .ok (.getfield 462, 3) := by decide +kernel
theorem kd_Mo_lookAtText_129 : decode kc_Mo_lookAtText 129 = .ok (.ifCond .le 15, 3) := by decide +kernel
theorem kd_Mo_lookAtText_132 : decode kc_Mo_lookAtText 132 = .ok (.aload_n 0, 1) := by decide +kernel
theorem kd_Mo_lookAtText_133 : decode kc_Mo_lookAtText 133 = .ok (.getfield 73, 3) := by decide +kernel
theorem kd_Mo_lookAtText_136 : decode kc_Mo_lookAtText 136 = .ok (.aload_n 0, 1) := by decide +kernel
theorem kd_Mo_lookAtText_137 : decode kc_Mo_lookAtText 137 = .ok (.getfield 462, 3) := by decide +kernel
theorem kd_Mo_lookAtText_140 : decode kc_Mo_lookAtText 140 = .ok (.iconst 1, 1) := by decide +kernel
theorem kd_Mo_lookAtText_141 : decode kc_Mo_lookAtText 141 = .ok (.isub, 1) := by decide +kernel
theorem kd_Mo_lookAtText_142 : decode kc_Mo_lookAtText 142 = .ok (.iconst 0, 1) := by decide +kernel
theorem kd_Mo_lookAtText_143 : decode kc_Mo_lookAtText 143 = .ok (.iastore, 1) := by decide +kernel
theorem kd_Mo_lookAtText_144 : decode kc_Mo_lookAtText 144 = .ok (.aload_n 0, 1) := by decide +kernel
theorem kd_Mo_lookAtText_145 : decode kc_Mo_lookAtText 145 = .ok (.iload_n 2, 1) := by decide +kernel
theorem kd_Mo_lookAtText_146 : decode kc_Mo_lookAtText 146 = .ok (.putfield 590, 3) := by decide +kernel
theorem kd_Mo_lookAtText_149 : decode kc_Mo_lookAtText 149 = .ok (.return_, 1) := by decide +kernel
theorem kd_Mo_lookAtBlocks_0 : decode kc_Mo_lookAtBlocks 0 = .ok (.aload_n 0, 1) := by decide +kernel
theorem kd_Mo_lookAtBlocks_1 : decode kc_Mo_lookAtBlocks 1 = .ok (.getfield 22, 3) := by decide +kernel
theorem kd_Mo_lookAtBlocks_4 : decode kc_Mo_lookAtBlocks 4 = .ok (.iload_n 1, 1) := by decide +kernel
theorem kd_Mo_lookAtBlocks_5 : decode kc_Mo_lookAtBlocks 5 = .ok (.iaload, 1) := by decide +kernel
theorem kd_Mo_lookAtBlocks_6 : decode kc_Mo_lookAtBlocks 6 = .ok (.tableswitch 265 0 9 #[54, 62, 62, 62, 105, 165, 173, 181, 242, 257], 54) := by decide +kernel
theorem kd_Mo_lookAtBlocks_60 : decode kc_Mo_lookAtBlocks 60 = .ok (.aload_n 0, 1) := by decide +kernel
theorem kd_Mo_lookAtBlocks_61 : decode kc_Mo_lookAtBlocks 61 = .ok (.iload_n 1, 1) := by decide +kernel
theorem kd_Mo_lookAtBlocks_62 : decode kc_Mo_lookAtBlocks 62 = .ok (.invokevirtual 560, 3) := by decide +kernel
theorem kd_Mo_lookAtBlocks_65 : decode kc_Mo_lookAtBlocks 65 = .ok (.goto 276, 3) := by decide +kernel
theorem kd_Mo_lookAtBlocks_68 : decode kc_Mo_lookAtBlocks 68 = .ok (.aload_n 0, 1) := by decide +kernel
theorem kd_Mo_lookAtBlocks_69 : decode kc_Mo_lookAtBlocks 69 = .ok (.aload_n 0, 1) := by decide +kernel
theorem kd_Mo_lookAtBlocks_70 : decode kc_Mo_lookAtBlocks 70 = .ok (.getfield 22, 3) := by decide +kernel
theorem kd_Mo_lookAtBlocks_73 : decode kc_Mo_lookAtBlocks 73 = .ok (.iload_n 1, 1) := by decide +kernel
theorem kd_Mo_lookAtBlocks_74 : decode kc_Mo_lookAtBlocks 74 = .ok (.iaload, 1) := by decide +kernel
theorem kd_Mo_lookAtBlocks_75 : decode kc_Mo_lookAtBlocks 75 = .ok (.iconst 1, 1) := by decide +kernel
theorem kd_Mo_lookAtBlocks_76 : decode kc_Mo_lookAtBlocks 76 = .ok (.if_icmp .ne 20, 3) := by decide +kernel
theorem kd_Mo_lookAtBlocks_79 : decode kc_Mo_lookAtBlocks 79 = .ok (.aload_n 0, 1) := by decide +kernel
theorem kd_Mo_lookAtBlocks_80 : decode kc_Mo_lookAtBlocks 80 = .ok (.aload_n 0, 1) := by decide +kernel
theorem kd_Mo_lookAtBlocks_81 : decode kc_Mo_lookAtBlocks 81 = .ok (.getfield 550, 3) := by decide +kernel
theorem kd_Mo_lookAtBlocks_84 : decode kc_Mo_lookAtBlocks 84 = .ok (.invokevirtual 563, 3) := by decide +kernel
theorem kd_Mo_lookAtBlocks_87 : decode kc_Mo_lookAtBlocks 87 = .ok (.bipush 8, 2) := by decide +kernel
theorem kd_Mo_lookAtBlocks_89 : decode kc_Mo_lookAtBlocks 89 = .ok (.if_icmp .le 7, 3) := by decide +kernel
theorem kd_Mo_lookAtBlocks_92 : decode kc_Mo_lookAtBlocks 92 = .ok (.iconst 1, 1) := by decide +kernel
theorem kd_Mo_lookAtBlocks_93 : decode kc_Mo_lookAtBlocks 93 = .ok (.goto 4, 3) := by decide +kernel
theorem kd_Mo_lookAtBlocks_96 : decode kc_Mo_lookAtBlocks 96 = .ok (.iconst 0, 1) := by decide +kernel
theorem kd_Mo_lookAtBlocks_97 : decode kc_Mo_lookAtBlocks 97 = .ok (.bipush 44, 2) := by decide +kernel
theorem kd_Mo_lookAtBlocks_99 : decode kc_Mo_lookAtBlocks 99 = .ok (.iload_n 1, 1) := by decide +kernel
theorem kd_Mo_lookAtBlocks_100 : decode kc_Mo_lookAtBlocks 100 = .ok (.invokevirtual 540, 3) := by decide +kernel
theorem kd_Mo_lookAtBlocks_103 : decode kc_Mo_lookAtBlocks 103 = .ok (.aload_n 0, 1) := by decide +kernel
theorem kd_Mo_lookAtBlocks_104 : decode kc_Mo_lookAtBlocks 104 = .ok (.iload_n 1, 1) := by decide +kernel
theorem kd_Mo_lookAtBlocks_105 : decode kc_Mo_lookAtBlocks 105 = .ok (.invokevirtual 566, 3) := by decide +kernel
theorem kd_Mo_lookAtBlocks_108 : decode kc_Mo_lookAtBlocks 108 = .ok (.goto 233, 3) := by decide +kernel
theorem kd_Mo_lookAtBlocks_111 : decode kc_Mo_lookAtBlocks 111 = .ok (.aload_n 0, 1) := by decide +kernel
theorem kd_Mo_lookAtBlocks_112 : decode kc_Mo_lookAtBlocks 112 = .ok (.aload_n 0, 1) := by decide +kernel
theorem kd_Mo_lookAtBlocks_113 : decode kc_Mo_lookAtBlocks 113 = .ok (.getfield 64, 3) := by decide +kernel
theorem kd_Mo_lookAtBlocks_116 : decode kc_Mo_lookAtBlocks 116 = .ok (.aload_n 0, 1) := by decide +kernel
theorem kd_Mo_lookAtBlocks_117 : decode kc_Mo_lookAtBlocks 117 = .ok (.getfield 550, 3) := by decide +kernel
theorem kd_Mo_lookAtBlocks_120 : decode kc_Mo_lookAtBlocks 120 = .ok (.iaload, 1) := by decide +kernel
theorem kd_Mo_lookAtBlocks_121 : decode kc_Mo_lookAtBlocks 121 = .ok (.iconst 3, 1) := by decide +kernel
theorem kd_Mo_lookAtBlocks_122 : decode kc_Mo_lookAtBlocks 122 = .ok (.if_icmp .ne 12, 3) := by decide +kernel
theorem kd_Mo_lookAtBlocks_125 : decode kc_Mo_lookAtBlocks 125 = .ok (.aload_n 0, 1) := by decide +kernel
theorem kd_Mo_lookAtBlocks_126 : decode kc_Mo_lookAtBlocks 126 = .ok (.getfield 28, 3) := by decide +kernel
theorem kd_Mo_lookAtBlocks_129 : decode kc_Mo_lookAtBlocks 129 = .ok (.iload_n 1, 1) := by decide +kernel
theorem kd_Mo_lookAtBlocks_130 : decode kc_Mo_lookAtBlocks 130 = .ok (.iaload, 1) := by decide +kernel
theorem kd_Mo_lookAtBlocks_131 : decode kc_Mo_lookAtBlocks 131 = .ok (.ifCond .ne 26, 3) := by decide +kernel
theorem kd_Mo_lookAtBlocks_134 : decode kc_Mo_lookAtBlocks 134 = .ok (.aload_n 0, 1) := by decide +kernel
theorem kd_Mo_lookAtBlocks_135 : decode kc_Mo_lookAtBlocks 135 = .ok (.getfield 64, 3) := by decide +kernel
theorem kd_Mo_lookAtBlocks_138 : decode kc_Mo_lookAtBlocks 138 = .ok (.aload_n 0, 1) := by decide +kernel
theorem kd_Mo_lookAtBlocks_139 : decode kc_Mo_lookAtBlocks 139 = .ok (.getfield 550, 3) := by decide +kernel
theorem kd_Mo_lookAtBlocks_142 : decode kc_Mo_lookAtBlocks 142 = .ok (.iaload, 1) := by decide +kernel
theorem kd_Mo_lookAtBlocks_143 : decode kc_Mo_lookAtBlocks 143 = .ok (.iconst 1, 1) := by decide +kernel
theorem kd_Mo_lookAtBlocks_144 : decode kc_Mo_lookAtBlocks 144 = .ok (.if_icmp .ne 17, 3) := by decide +kernel
theorem kd_Mo_lookAtBlocks_147 : decode kc_Mo_lookAtBlocks 147 = .ok (.aload_n 0, 1) := by decide +kernel
theorem kd_Mo_lookAtBlocks_148 : decode kc_Mo_lookAtBlocks 148 = .ok (.getfield 28, 3) := by decide +kernel
theorem kd_Mo_lookAtBlocks_151 : decode kc_Mo_lookAtBlocks 151 = .ok (.iload_n 1, 1) := by decide +kernel
theorem kd_Mo_lookAtBlocks_152 : decode kc_Mo_lookAtBlocks 152 = .ok (.iaload, 1) := by decide +kernel
theorem kd_Mo_lookAtBlocks_153 : decode kc_Mo_lookAtBlocks 153 = .ok (.iconst 2, 1) := by decide +kernel
theorem kd_Mo_lookAtBlocks_154 : decode kc_Mo_lookAtBlocks 154 = .ok (.if_icmp .ne 7, 3) := by decide +kernel
theorem kd_Mo_lookAtBlocks_157 : decode kc_Mo_lookAtBlocks 157 = .ok (.iconst 1, 1) := by decide +kernel
theorem kd_Mo_lookAtBlocks_158 : decode kc_Mo_lookAtBlocks 158 = .ok (.goto 4, 3) := by decide +kernel
theorem kd_Mo_lookAtBlocks_161 : decode kc_Mo_lookAtBlocks 161 = .ok (.iconst 0, 1) := by decide +kernel
theorem kd_Mo_lookAtBlocks_162 : decode kc_Mo_lookAtBlocks 162 = .ok (.bipush 13, 2) := by decide +kernel
theorem kd_Mo_lookAtBlocks_164 : decode kc_Mo_lookAtBlocks 164 = .ok (.iload_n 1, 1) := by decide +kernel
theorem kd_Mo_lookAtBlocks_165 : decode kc_Mo_lookAtBlocks 165 = .ok (.invokevirtual 540, 3) := by decide +kernel
theorem kd_Mo_lookAtBlocks_168 : decode kc_Mo_lookAtBlocks 168 = .ok (.goto 173, 3) := by decide +kernel
theorem kd_Mo_lookAtBlocks_171 : decode kc_Mo_lookAtBlocks 171 = .ok (.aload_n 0, 1) := by decide +kernel
theorem kd_Mo_lookAtBlocks_172 : decode kc_Mo_lookAtBlocks 172 = .ok (.iload_n 1, 1) := by decide +kernel
theorem kd_Mo_lookAtBlocks_173 : decode kc_Mo_lookAtBlocks 173 = .ok (.invokevirtual 569, 3) := by decide +kernel
theorem kd_Mo_lookAtBlocks_176 : decode kc_Mo_lookAtBlocks 176 = .ok (.goto 165, 3) := by decide +kernel
theorem kd_Mo_lookAtBlocks_179 : decode kc_Mo_lookAtBlocks 179 = .ok (.aload_n 0, 1) := by decide +kernel
theorem kd_Mo_lookAtBlocks_180 : decode kc_Mo_lookAtBlocks 180 = .ok (.iload_n 1, 1) := by decide +kernel
theorem kd_Mo_lookAtBlocks_181 : decode kc_Mo_lookAtBlocks 181 = .ok (.invokevirtual 572, 3) := by decide +kernel
theorem kd_Mo_lookAtBlocks_184 : decode kc_Mo_lookAtBlocks 184 = .ok (.goto 157, 3) := by decide +kernel
theorem kd_Mo_lookAtBlocks_187 : decode kc_Mo_lookAtBlocks 187 = .ok (.aload_n 0, 1) := by decide +kernel
theorem kd_Mo_lookAtBlocks_188 : decode kc_Mo_lookAtBlocks 188 = .ok (.aload_n 0, 1) := by decide +kernel
theorem kd_Mo_lookAtBlocks_189 : decode kc_Mo_lookAtBlocks 189 = .ok (.getfield 64, 3) := by decide +kernel
theorem kd_Mo_lookAtBlocks_192 : decode kc_Mo_lookAtBlocks 192 = .ok (.aload_n 0, 1) := by decide +kernel
theorem kd_Mo_lookAtBlocks_193 : decode kc_Mo_lookAtBlocks 193 = .ok (.getfield 550, 3) := by decide +kernel
theorem kd_Mo_lookAtBlocks_196 : decode kc_Mo_lookAtBlocks 196 = .ok (.iaload, 1) := by decide +kernel
theorem kd_Mo_lookAtBlocks_197 : decode kc_Mo_lookAtBlocks 197 = .ok (.iconst 3, 1) := by decide +kernel
theorem kd_Mo_lookAtBlocks_198 : decode kc_Mo_lookAtBlocks 198 = .ok (.if_icmp .ne 36, 3) := by decide +kernel
theorem kd_Mo_lookAtBlocks_201 : decode kc_Mo_lookAtBlocks 201 = .ok (.aload_n 0, 1) := by decide +kernel
theorem kd_Mo_lookAtBlocks_202 : decode kc_Mo_lookAtBlocks 202 = .ok (.getfield 40, 3) := by decide +kernel
theorem kd_Mo_lookAtBlocks_205 : decode kc_Mo_lookAtBlocks 205 = .ok (.aload_n 0, 1) := by decide +kernel
theorem kd_Mo_lookAtBlocks_206 : decode kc_Mo_lookAtBlocks 206 = .ok (.getfield 34, 3) := by decide +kernel
theorem kd_Mo_lookAtBlocks_209 : decode kc_Mo_lookAtBlocks 209 = .ok (.aload_n 0, 1) := by decide +kernel
theorem kd_Mo_lookAtBlocks_210 : decode kc_Mo_lookAtBlocks 210 = .ok (.getfield 31, 3) := by decide +kernel
theorem kd_Mo_lookAtBlocks_213 : decode kc_Mo_lookAtBlocks 213 = .ok (.iload_n 1, 1) := by decide +kernel
theorem kd_Mo_lookAtBlocks_214 : decode kc_Mo_lookAtBlocks 214 = .ok (.iaload, 1) := by decide +kernel
theorem kd_Mo_lookAtBlocks_215 : decode kc_Mo_lookAtBlocks 215 = .ok (.iaload, 1) := by decide +kernel
theorem kd_Mo_lookAtBlocks_216 : decode kc_Mo_lookAtBlocks 216 = .ok (.iaload, 1) := by decide +kernel
theorem kd_Mo_lookAtBlocks_217 : decode kc_Mo_lookAtBlocks 217 = .ok (.iload_n 1, 1) := by decide +kernel
theorem kd_Mo_lookAtBlocks_218 : decode kc_Mo_lookAtBlocks 218 = .ok (.if_icmp .ne 16, 3) := by decide +kernel
theorem kd_Mo_lookAtBlocks_221 : decode kc_Mo_lookAtBlocks 221 = .ok (.aload_n 0, 1) := by decide +kernel
theorem kd_Mo_lookAtBlocks_222 : decode kc_Mo_lookAtBlocks 222 = .ok (.aload_n 0, 1) := by decide +kernel
theorem kd_Mo_lookAtBlocks_223 : decode kc_Mo_lookAtBlocks 223 = .ok (.getfield 28, 3) := by decide +kernel
theorem kd_Mo_lookAtBlocks_226 : decode kc_Mo_lookAtBlocks 226 = .ok (.iload_n 1, 1) := by decide +kernel
theorem kd_Mo_lookAtBlocks_227 : decode kc_Mo_lookAtBlocks 227 = .ok (.iaload, 1) := by decide +kernel
theorem kd_Mo_lookAtBlocks_228 : decode kc_Mo_lookAtBlocks 228 = .ok (.invokevirtual 575, 3) := by decide +kernel
theorem kd_Mo_lookAtBlocks_231 : decode kc_Mo_lookAtBlocks 231 = .ok (.ifCond .eq 7, 3) := by decide +kernel
theorem kd_Mo_lookAtBlocks_234 : decode kc_Mo_lookAtBlocks 234 = .ok (.iconst 1, 1) := by decide +kernel
theorem kd_Mo_lookAtBlocks_235 : decode kc_Mo_lookAtBlocks 235 = .ok (.goto 4, 3) := by decide +kernel
theorem kd_Mo_lookAtBlocks_238 : decode kc_Mo_lookAtBlocks 238 = .ok (.iconst 0, 1) := by decide +kernel
theorem kd_Mo_lookAtBlocks_239 : decode kc_Mo_lookAtBlocks 239 = .ok (.bipush 14, 2) := by decide +kernel
theorem kd_Mo_lookAtBlocks_241 : decode kc_Mo_lookAtBlocks 241 = .ok (.iload_n 1, 1) := by decide +kernel
theorem kd_Mo_lookAtBlocks_242 : decode kc_Mo_lookAtBlocks 242 = .ok (.invokevirtual 540, 3) := by decide +kernel
theorem kd_Mo_lookAtBlocks_245 : decode kc_Mo_lookAtBlocks 245 = .ok (.goto 96, 3) := by decide +kernel
theorem kd_Mo_lookAtBlocks_248 : decode kc_Mo_lookAtBlocks 248 = .ok (.aload_n 0, 1) := by decide +kernel
theorem kd_Mo_lookAtBlocks_249 : decode kc_Mo_lookAtBlocks 249 = .ok (.getfield 106, 3) := by decide +kernel
theorem kd_Mo_lookAtBlocks_252 : decode kc_Mo_lookAtBlocks 252 = .ok (.iload_n 1, 1) := by decide +kernel
theorem kd_Mo_lookAtBlocks_253 : decode kc_Mo_lookAtBlocks 253 = .ok (.aload_n 0, 1) := by decide +kernel
theorem kd_Mo_lookAtBlocks_254 : decode kc_Mo_lookAtBlocks 254 = .ok (.getfield 28, 3) := by decide +kernel
theorem kd_Mo_lookAtBlocks_257 : decode kc_Mo_lookAtBlocks 257 = .ok (.iload_n 1, 1) := by decide +kernel
theorem kd_Mo_lookAtBlocks_258 : decode kc_Mo_lookAtBlocks 258 = .ok (.iaload, 1) := by decide +kernel
theorem kd_Mo_lookAtBlocks_259 : decode kc_Mo_lookAtBlocks 259 = .ok (.iastore, 1) := by decide +kernel
theorem kd_Mo_lookAtBlocks_260 : decode kc_Mo_lookAtBlocks 260 = .ok (.goto 81, 3) := by decide +kernel
theorem kd_Mo_lookAtBlocks_263 : decode kc_Mo_lookAtBlocks 263 = .ok (.aload_n 0, 1) := by decide +kernel
theorem kd_Mo_lookAtBlocks_264 : decode kc_Mo_lookAtBlocks 264 = .ok (.iload_n 1, 1) := by decide +kernel
theorem kd_Mo_lookAtBlocks_265 : decode kc_Mo_lookAtBlocks 265 = .ok (.invokevirtual 578, 3) := by decide +kernel
theorem kd_Mo_lookAtBlocks_268 : decode kc_Mo_lookAtBlocks 268 = .ok (.goto 73, 3) := by decide +kernel
theorem kd_Mo_lookAtBlocks_271 : decode kc_Mo_lookAtBlocks 271 = .ok (.aload_n 0, 1) := by decide +kernel
theorem kd_Mo_lookAtBlocks_272 : decode kc_Mo_lookAtBlocks 272 = .ok (.aload_n 0, 1) := by decide +kernel
theorem kd_Mo_lookAtBlocks_273 : decode kc_Mo_lookAtBlocks 273 = .ok (.getfield 28, 3) := by decide +kernel
theorem kd_Mo_lookAtBlocks_276 : decode kc_Mo_lookAtBlocks 276 = .ok (.iload_n 1, 1) := by decide +kernel
theorem kd_Mo_lookAtBlocks_277 : decode kc_Mo_lookAtBlocks 277 = .ok (.iaload, 1) := by decide +kernel
theorem kd_Mo_lookAtBlocks_278 : decode kc_Mo_lookAtBlocks 278 = .ok (.aload_n 0, 1) := by decide +kernel
theorem kd_Mo_lookAtBlocks_279 : decode kc_Mo_lookAtBlocks 279 = .ok (.getfield 550, 3) := by decide +kernel
theorem kd_Mo_lookAtBlocks_282 : decode kc_Mo_lookAtBlocks 282 = .ok (.invokevirtual 547, 3) := by decide +kernel
theorem kd_Mo_lookAtBlocks_285 : decode kc_Mo_lookAtBlocks 285 = .ok (.istore_n 2, 1) := by decide +kernel
theorem kd_Mo_lookAtBlocks_286 : decode kc_Mo_lookAtBlocks 286 = .ok (.aload_n 0, 1) := by decide +kernel
theorem kd_Mo_lookAtBlocks_287 : decode kc_Mo_lookAtBlocks 287 = .ok (.aload_n 0, 1) := by decide +kernel
theorem kd_Mo_lookAtBlocks_288 : decode kc_Mo_lookAtBlocks 288 = .ok (.getfield 64, 3) := by decide +kernel
theorem kd_Mo_lookAtBlocks_291 : decode kc_Mo_lookAtBlocks 291 = .ok (.aload_n 0, 1) := by decide +kernel
theorem kd_Mo_lookAtBlocks_292 : decode kc_Mo_lookAtBlocks 292 = .ok (.getfield 550, 3) := by decide +kernel
theorem kd_Mo_lookAtBlocks_295 : decode kc_Mo_lookAtBlocks 295 = .ok (.iaload, 1) := by decide +kernel
theorem kd_Mo_lookAtBlocks_296 : decode kc_Mo_lookAtBlocks 296 = .ok (.iconst 1, 1) := by decide +kernel
theorem kd_Mo_lookAtBlocks_297 : decode kc_Mo_lookAtBlocks 297 = .ok (.if_icmp .eq 33, 3) := by decide +kernel
theorem kd_Mo_lookAtBlocks_300 : decode kc_Mo_lookAtBlocks 300 = .ok (.aload_n 0, 1) := by decide +kernel
theorem kd_Mo_lookAtBlocks_301 : decode kc_Mo_lookAtBlocks 301 = .ok (.ldc_w 454, 3) := by decide +kernel
theorem kd_Mo_lookAtBlocks_304 : decode kc_Mo_lookAtBlocks 304 = .ok (.aload_n 0, 1) := by decide +kernel
theorem kd_Mo_lookAtBlocks_305 : decode kc_Mo_lookAtBlocks 305 = .ok (.getfield 28, 3) := by decide +kernel
theorem kd_Mo_lookAtBlocks_308 : decode kc_Mo_lookAtBlocks 308 = .ok (.iload_n 1, 1) := by decide +kernel
theorem kd_Mo_lookAtBlocks_309 : decode kc_Mo_lookAtBlocks 309 = .ok (.iaload, 1) := by decide +kernel
theorem kd_Mo_lookAtBlocks_310 : decode kc_Mo_lookAtBlocks 310 = .ok (.invokevirtual 456, 3) := by decide +kernel
theorem kd_Mo_lookAtBlocks_313 : decode kc_Mo_lookAtBlocks 313 = .ok (.ifCond .ge 21, 3) := by decide +kernel
theorem kd_Mo_lookAtBlocks_316 : decode kc_Mo_lookAtBlocks 316 = .ok (.iload_n 2, 1) := by decide +kernel
theorem kd_Mo_lookAtBlocks_317 : decode kc_Mo_lookAtBlocks 317 = .ok (.ifCond .lt 13, 3) := by decide +kernel
theorem kd_Mo_lookAtBlocks_320 : decode kc_Mo_lookAtBlocks 320 = .ok (.aload_n 0, 1) := by decide +kernel
theorem kd_Mo_lookAtBlocks_321 : decode kc_Mo_lookAtBlocks 321 = .ok (.getfield 64, 3) := by decide +kernel
theorem kd_Mo_lookAtBlocks_324 : decode kc_Mo_lookAtBlocks 324 = .ok (.iload_n 2, 1) := by decide +kernel
theorem kd_Mo_lookAtBlocks_325 : decode kc_Mo_lookAtBlocks 325 = .ok (.iaload, 1) := by decide +kernel
theorem kd_Mo_lookAtBlocks_326 : decode kc_Mo_lookAtBlocks 326 = .ok (.iconst 2, 1) := by decide +kernel
theorem kd_Mo_lookAtBlocks_327 : decode kc_Mo_lookAtBlocks 327 = .ok (.if_icmp .eq 7, 3) := by decide +kernel
theorem kd_Mo_lookAtBlocks_330 : decode kc_Mo_lookAtBlocks 330 = .ok (.iconst 1, 1) := by decide +kernel
theorem kd_Mo_lookAtBlocks_331 : decode kc_Mo_lookAtBlocks 331 = .ok (.goto 4, 3) := by decide +kernel
theorem kd_Mo_lookAtBlocks_334 : decode kc_Mo_lookAtBlocks 334 = .ok (.iconst 0, 1) := by decide +kernel
theorem kd_Mo_lookAtBlocks_335 : decode kc_Mo_lookAtBlocks 335 = .ok (.bipush 17, 2) := by decide +kernel
theorem kd_Mo_lookAtBlocks_337 : decode kc_Mo_lookAtBlocks 337 = .ok (.iload_n 1, 1) := by decide +kernel
theorem kd_Mo_lookAtBlocks_338 : decode kc_Mo_lookAtBlocks 338 = .ok (.invokevirtual 540, 3) := by decide +kernel
theorem kd_Mo_lookAtBlocks_341 : decode kc_Mo_lookAtBlocks 341 = .ok (.return_, 1) := by decide +kernel
theorem kd_Mo_lookAlone_0 : decode kc_Mo_lookAlone 0 = .ok (.aload_n 0, 1) := by decide +kernel
theorem kd_Mo_lookAlone_1 : decode kc_Mo_lookAlone 1 = .ok (.getfield 22, 3) := by decide +kernel
theorem kd_Mo_lookAlone_4 : decode kc_Mo_lookAlone 4 = .ok (.iload_n 1, 1) := by decide +kernel
theorem kd_Mo_lookAlone_5 : decode kc_Mo_lookAlone 5 = .ok (.iaload, 1) := by decide +kernel
theorem kd_Mo_lookAlone_6 : decode kc_Mo_lookAlone 6 = .ok (.istore_n 2, 1) := by decide +kernel
theorem kd_Mo_lookAlone_7 : decode kc_Mo_lookAlone 7 = .ok (.iload_n 2, 1) := by decide +kernel
theorem kd_Mo_lookAlone_8 : decode kc_Mo_lookAlone 8 = .ok (.ifCond .le 13, 3) := by decide +kernel
theorem kd_Mo_lookAlone_11 : decode kc_Mo_lookAlone 11 = .ok (.iload_n 2, 1) := by decide +kernel
theorem kd_Mo_lookAlone_12 : decode kc_Mo_lookAlone 12 = .ok (.iconst 4, 1) := by decide +kernel
theorem kd_Mo_lookAlone_13 : decode kc_Mo_lookAlone 13 = .ok (.if_icmp .ge 8, 3) := by decide +kernel
theorem kd_Mo_lookAlone_16 : decode kc_Mo_lookAlone 16 = .ok (.aload_n 0, 1) := by decide +kernel
theorem kd_Mo_lookAlone_17 : decode kc_Mo_lookAlone 17 = .ok (.iload_n 1, 1) := by decide +kernel
theorem kd_Mo_lookAlone_18 : decode kc_Mo_lookAlone 18 = .ok (.invokevirtual 528, 3) := by decide +kernel
theorem kd_Mo_lookAlone_21 : decode kc_Mo_lookAlone 21 = .ok (.aload_n 0, 1) := by decide +kernel
theorem kd_Mo_lookAlone_22 : decode kc_Mo_lookAlone 22 = .ok (.getfield 34, 3) := by decide +kernel
theorem kd_Mo_lookAlone_25 : decode kc_Mo_lookAlone 25 = .ok (.iload_n 1, 1) := by decide +kernel
theorem kd_Mo_lookAlone_26 : decode kc_Mo_lookAlone 26 = .ok (.iaload, 1) := by decide +kernel
theorem kd_Mo_lookAlone_27 : decode kc_Mo_lookAlone 27 = .ok (.istore_n 3, 1) := by decide +kernel
theorem kd_Mo_lookAlone_28 : decode kc_Mo_lookAlone 28 = .ok (.iload_n 3, 1) := by decide +kernel
theorem kd_Mo_lookAlone_29 : decode kc_Mo_lookAlone 29 = .ok (.ifCond .lt 25, 3) := by decide +kernel
theorem kd_Mo_lookAlone_32 : decode kc_Mo_lookAlone 32 = .ok (.aload_n 0, 1) := by decide +kernel
theorem kd_Mo_lookAlone_33 : decode kc_Mo_lookAlone 33 = .ok (.getfield 445, 3) := by decide +kernel
theorem kd_Mo_lookAlone_36 : decode kc_Mo_lookAlone 36 = .ok (.ifCond .ne 18, 3) := by decide +kernel
theorem kd_Mo_lookAlone_39 : decode kc_Mo_lookAlone 39 = .ok (.aload_n 0, 1) := by decide +kernel
theorem kd_Mo_lookAlone_40 : decode kc_Mo_lookAlone 40 = .ok (.iload_n 3, 1) := by decide +kernel
theorem kd_Mo_lookAlone_41 : decode kc_Mo_lookAlone 41 = .ok (.invokevirtual 519, 3) := by decide +kernel
theorem kd_Mo_lookAlone_44 : decode kc_Mo_lookAlone 44 = .ok (.aload_n 0, 1) := by decide +kernel
theorem kd_Mo_lookAlone_45 : decode kc_Mo_lookAlone 45 = .ok (.getfield 40, 3) := by decide +kernel
theorem kd_Mo_lookAlone_48 : decode kc_Mo_lookAlone 48 = .ok (.iload_n 3, 1) := by decide +kernel
theorem kd_Mo_lookAlone_49 : decode kc_Mo_lookAlone 49 = .ok (.iaload, 1) := by decide +kernel
theorem kd_Mo_lookAlone_50 : decode kc_Mo_lookAlone 50 = .ok (.istore_n 3, 1) := by decide +kernel
theorem kd_Mo_lookAlone_51 : decode kc_Mo_lookAlone 51 = .ok (.goto (-23), 3) := by decide +kernel
theorem kd_Mo_lookAlone_54 : decode kc_Mo_lookAlone 54 = .ok (.aload_n 0, 1) := by decide +kernel
theorem kd_Mo_lookAlone_55 : decode kc_Mo_lookAlone 55 = .ok (.getfield 445, 3) := by decide +kernel
theorem kd_Mo_lookAlone_58 : decode kc_Mo_lookAlone 58 = .ok (.ifCond .ne 50, 3) := by decide +kernel
theorem kd_Mo_lookAlone_61 : decode kc_Mo_lookAlone 61 = .ok (.iload_n 2, 1) := by decide +kernel
theorem kd_Mo_lookAlone_62 : decode kc_Mo_lookAlone 62 = .ok (.bipush 11, 2) := by decide +kernel
theorem kd_Mo_lookAlone_64 : decode kc_Mo_lookAlone 64 = .ok (.if_icmp .ge 11, 3) := by decide +kernel
theorem kd_Mo_lookAlone_67 : decode kc_Mo_lookAlone 67 = .ok (.aload_n 0, 1) := by decide +kernel
theorem kd_Mo_lookAlone_68 : decode kc_Mo_lookAlone 68 = .ok (.iload_n 1, 1) := by decide +kernel
theorem kd_Mo_lookAlone_69 : decode kc_Mo_lookAlone 69 = .ok (.invokevirtual 531, 3) := by decide +kernel
theorem kd_Mo_lookAlone_72 : decode kc_Mo_lookAlone 72 = .ok (.goto 36, 3) := by decide +kernel
theorem kd_Mo_lookAlone_75 : decode kc_Mo_lookAlone 75 = .ok (.iload_n 2, 1) := by decide +kernel
theorem kd_Mo_lookAlone_76 : decode kc_Mo_lookAlone 76 = .ok (.bipush 22, 2) := by decide +kernel
theorem kd_Mo_lookAlone_78 : decode kc_Mo_lookAlone 78 = .ok (.if_icmp .ge 11, 3) := by decide +kernel
theorem kd_Mo_lookAlone_81 : decode kc_Mo_lookAlone 81 = .ok (.aload_n 0, 1) := by decide +kernel
theorem kd_Mo_lookAlone_82 : decode kc_Mo_lookAlone 82 = .ok (.iload_n 1, 1) := by decide +kernel
theorem kd_Mo_lookAlone_83 : decode kc_Mo_lookAlone 83 = .ok (.invokevirtual 534, 3) := by decide +kernel
theorem kd_Mo_lookAlone_86 : decode kc_Mo_lookAlone 86 = .ok (.goto 22, 3) := by decide +kernel
theorem kd_Mo_lookAlone_89 : decode kc_Mo_lookAlone 89 = .ok (.iload_n 2, 1) := by decide +kernel
theorem kd_Mo_lookAlone_90 : decode kc_Mo_lookAlone 90 = .ok (.bipush 30, 2) := by decide +kernel
theorem kd_Mo_lookAlone_92 : decode kc_Mo_lookAlone 92 = .ok (.if_icmp .ge 11, 3) := by decide +kernel
theorem kd_Mo_lookAlone_95 : decode kc_Mo_lookAlone 95 = .ok (.aload_n 0, 1) := by decide +kernel
theorem kd_Mo_lookAlone_96 : decode kc_Mo_lookAlone 96 = .ok (.iload_n 1, 1) := by decide +kernel
theorem kd_Mo_lookAlone_97 : decode kc_Mo_lookAlone 97 = .ok (.invokevirtual 537, 3) := by decide +kernel
theorem kd_Mo_lookAlone_100 : decode kc_Mo_lookAlone 100 = .ok (.goto 8, 3) := by decide +kernel
theorem kd_Mo_lookAlone_103 : decode kc_Mo_lookAlone 103 = .ok (.aload_n 0, 1) := by decide +kernel
theorem kd_Mo_lookAlone_104 : decode kc_Mo_lookAlone 104 = .ok (.iload_n 1, 1) := by decide +kernel
theorem kd_Mo_lookAlone_105 : decode kc_Mo_lookAlone 105 = .ok (.invokevirtual 525, 3) := by decide +kernel
theorem kd_Mo_lookAlone_108 : decode kc_Mo_lookAlone 108 = .ok (.return_, 1) := by decide +kernel
theorem kd_Mo_look_0 : decode kc_Mo_look 0 = .ok (.iload_n 1, 1) := by decide +kernel
theorem kd_Mo_look_1 : decode kc_Mo_look 1 = .ok (.istore_n 2, 1) := by decide +kernel
theorem kd_Mo_look_2 : decode kc_Mo_look 2 = .ok (.aload_n 0, 1) := by decide +kernel
theorem kd_Mo_look_3 : decode kc_Mo_look 3 = .ok (.getfield 22, 3) := by decide +kernel
theorem kd_Mo_look_6 : decode kc_Mo_look 6 = .ok (.iload_n 2, 1) := by decide +kernel
theorem kd_Mo_look_7 : decode kc_Mo_look 7 = .ok (.iaload, 1) := by decide +kernel
theorem kd_Mo_look_8 : decode kc_Mo_look 8 = .ok (.bipush 35, 2) := by decide +kernel
theorem kd_Mo_look_10 : decode kc_Mo_look 10 = .ok (.if_icmp .ne 13, 3) := by decide +kernel
theorem kd_Mo_look_13 : decode kc_Mo_look 13 = .ok (.aload_n 0, 1) := by decide +kernel
theorem kd_Mo_look_14 : decode kc_Mo_look 14 = .ok (.getfield 34, 3) := by decide +kernel
theorem kd_Mo_look_17 : decode kc_Mo_look 17 = .ok (.iload_n 2, 1) := by decide +kernel
theorem kd_Mo_look_18 : decode kc_Mo_look 18 = .ok (.iaload, 1) := by decide +kernel
theorem kd_Mo_look_19 : decode kc_Mo_look 19 = .ok (.istore_n 2, 1) := by decide +kernel
theorem kd_Mo_look_20 : decode kc_Mo_look 20 = .ok (.goto (-18), 3) := by decide +kernel
theorem kd_Mo_look_23 : decode kc_Mo_look 23 = .ok (.aload_n 0, 1) := by decide +kernel
theorem kd_Mo_look_24 : decode kc_Mo_look 24 = .ok (.iload_n 2, 1) := by decide +kernel
theorem kd_Mo_look_25 : decode kc_Mo_look 25 = .ok (.invokevirtual 522, 3) := by decide +kernel
theorem kd_Mo_look_28 : decode kc_Mo_look 28 = .ok (.iload_n 2, 1) := by decide +kernel
theorem kd_Mo_look_29 : decode kc_Mo_look 29 = .ok (.iload_n 1, 1) := by decide +kernel
theorem kd_Mo_look_30 : decode kc_Mo_look 30 = .ok (.if_icmp .eq 42, 3) := by decide +kernel
theorem kd_Mo_look_33 : decode kc_Mo_look 33 = .ok (.aload_n 0, 1) := by decide +kernel
theorem kd_Mo_look_34 : decode kc_Mo_look 34 = .ok (.getfield 445, 3) := by decide +kernel
theorem kd_Mo_look_37 : decode kc_Mo_look 37 = .ok (.ifCond .ne 35, 3) := by decide +kernel
theorem kd_Mo_look_40 : decode kc_Mo_look 40 = .ok (.aload_n 0, 1) := by decide +kernel
theorem kd_Mo_look_41 : decode kc_Mo_look 41 = .ok (.getfield 31, 3) := by decide +kernel
theorem kd_Mo_look_44 : decode kc_Mo_look 44 = .ok (.iload_n 2, 1) := by decide +kernel
theorem kd_Mo_look_45 : decode kc_Mo_look 45 = .ok (.iaload, 1) := by decide +kernel
theorem kd_Mo_look_46 : decode kc_Mo_look 46 = .ok (.istore_n 2, 1) := by decide +kernel
theorem kd_Mo_look_47 : decode kc_Mo_look 47 = .ok (.aload_n 0, 1) := by decide +kernel
theorem kd_Mo_look_48 : decode kc_Mo_look 48 = .ok (.aload_n 0, 1) := by decide +kernel
theorem kd_Mo_look_49 : decode kc_Mo_look 49 = .ok (.getfield 37, 3) := by decide +kernel
theorem kd_Mo_look_52 : decode kc_Mo_look 52 = .ok (.iload_n 2, 1) := by decide +kernel
theorem kd_Mo_look_53 : decode kc_Mo_look 53 = .ok (.iaload, 1) := by decide +kernel
theorem kd_Mo_look_54 : decode kc_Mo_look 54 = .ok (.invokevirtual 519, 3) := by decide +kernel
theorem kd_Mo_look_57 : decode kc_Mo_look 57 = .ok (.aload_n 0, 1) := by decide +kernel
theorem kd_Mo_look_58 : decode kc_Mo_look 58 = .ok (.getfield 445, 3) := by decide +kernel
theorem kd_Mo_look_61 : decode kc_Mo_look 61 = .ok (.ifCond .ne (-33), 3) := by decide +kernel
theorem kd_Mo_look_64 : decode kc_Mo_look 64 = .ok (.aload_n 0, 1) := by decide +kernel
theorem kd_Mo_look_65 : decode kc_Mo_look 65 = .ok (.iload_n 2, 1) := by decide +kernel
theorem kd_Mo_look_66 : decode kc_Mo_look 66 = .ok (.invokevirtual 525, 3) := by decide +kernel
theorem kd_Mo_look_69 : decode kc_Mo_look 69 = .ok (.goto (-41), 3) := by decide +kernel
theorem kd_Mo_look_72 : decode kc_Mo_look 72 = .ok (.return_, 1) := by decide +kernel
theorem kd_Mo_judge_0 : decode kc_Mo_judge 0 = .ok (.aload_n 0, 1) := by decide +kernel
theorem kd_Mo_judge_1 : decode kc_Mo_judge 1 = .ok (.aload_n 0, 1) := by decide +kernel
theorem kd_Mo_judge_2 : decode kc_Mo_judge 2 = .ok (.invokevirtual 510, 3) := by decide +kernel
theorem kd_Mo_judge_5 : decode kc_Mo_judge 5 = .ok (.putfield 445, 3) := by decide +kernel
theorem kd_Mo_judge_8 : decode kc_Mo_judge 8 = .ok (.aload_n 0, 1) := by decide +kernel
theorem kd_Mo_judge_9 : decode kc_Mo_judge 9 = .ok (.aload_n 0, 1) := by decide +kernel
theorem kd_Mo_judge_10 : decode kc_Mo_judge 10 = .ok (.getfield 178, 3) := by decide +kernel
theorem kd_Mo_judge_13 : decode kc_Mo_judge 13 = .ok (.putfield 448, 3) := by decide +kernel
theorem kd_Mo_judge_16 : decode kc_Mo_judge 16 = .ok (.aload_n 0, 1) := by decide +kernel
theorem kd_Mo_judge_17 : decode kc_Mo_judge 17 = .ok (.iconst 0, 1) := by decide +kernel
theorem kd_Mo_judge_18 : decode kc_Mo_judge 18 = .ok (.putfield 462, 3) := by decide +kernel
theorem kd_Mo_judge_21 : decode kc_Mo_judge 21 = .ok (.aload_n 0, 1) := by decide +kernel
theorem kd_Mo_judge_22 : decode kc_Mo_judge 22 = .ok (.iconst 0, 1) := by decide +kernel
theorem kd_Mo_judge_23 : decode kc_Mo_judge 23 = .ok (.putfield 465, 3) := by decide +kernel
theorem kd_Mo_judge_26 : decode kc_Mo_judge 26 = .ok (.aload_n 0, 1) := by decide +kernel
theorem kd_Mo_judge_27 : decode kc_Mo_judge 27 = .ok (.iconst 0, 1) := by decide +kernel
theorem kd_Mo_judge_28 : decode kc_Mo_judge 28 = .ok (.putfield 513, 3) := by decide +kernel
theorem kd_Mo_judge_31 : decode kc_Mo_judge 31 = .ok (.aload_n 0, 1) := by decide +kernel
theorem kd_Mo_judge_32 : decode kc_Mo_judge 32 = .ok (.getfield 445, 3) := by decide +kernel
theorem kd_Mo_judge_35 : decode kc_Mo_judge 35 = .ok (.ifCond .ne 93, 3) := by decide +kernel
theorem kd_Mo_judge_38 : decode kc_Mo_judge 38 = .ok (.aload_n 0, 1) := by decide +kernel
theorem kd_Mo_judge_39 : decode kc_Mo_judge 39 = .ok (.iconst 0, 1) := by decide +kernel
theorem kd_Mo_judge_40 : decode kc_Mo_judge 40 = .ok (.putfield 516, 3) := by decide +kernel
theorem kd_Mo_judge_43 : decode kc_Mo_judge 43 = .ok (.iconst 0, 1) := by decide +kernel
theorem kd_Mo_judge_44 : decode kc_Mo_judge 44 = .ok (.istore_n 1, 1) := by decide +kernel
theorem kd_Mo_judge_45 : decode kc_Mo_judge 45 = .ok (.iload_n 1, 1) := by decide +kernel
theorem kd_Mo_judge_46 : decode kc_Mo_judge 46 = .ok (.aload_n 0, 1) := by decide +kernel
theorem kd_Mo_judge_47 : decode kc_Mo_judge 47 = .ok (.getfield 315, 3) := by decide +kernel
theorem kd_Mo_judge_50 : decode kc_Mo_judge 50 = .ok (.if_icmp .ge 57, 3) := by decide +kernel
theorem kd_Mo_judge_53 : decode kc_Mo_judge 53 = .ok (.aload_n 0, 1) := by decide +kernel
theorem kd_Mo_judge_54 : decode kc_Mo_judge 54 = .ok (.getfield 106, 3) := by decide +kernel
theorem kd_Mo_judge_57 : decode kc_Mo_judge 57 = .ok (.iload_n 1, 1) := by decide +kernel
theorem kd_Mo_judge_58 : decode kc_Mo_judge 58 = .ok (.iconst (-1), 1) := by decide +kernel
theorem kd_Mo_judge_59 : decode kc_Mo_judge 59 = .ok (.iastore, 1) := by decide +kernel
theorem kd_Mo_judge_60 : decode kc_Mo_judge 60 = .ok (.aload_n 0, 1) := by decide +kernel
theorem kd_Mo_judge_61 : decode kc_Mo_judge 61 = .ok (.getfield 109, 3) := by decide +kernel
theorem kd_Mo_judge_64 : decode kc_Mo_judge 64 = .ok (.iload_n 1, 1) := by decide +kernel
theorem kd_Mo_judge_65 : decode kc_Mo_judge 65 = .ok (.iconst (-1), 1) := by decide +kernel
theorem kd_Mo_judge_66 : decode kc_Mo_judge 66 = .ok (.iastore, 1) := by decide +kernel
theorem kd_Mo_judge_67 : decode kc_Mo_judge 67 = .ok (.aload_n 0, 1) := by decide +kernel
theorem kd_Mo_judge_68 : decode kc_Mo_judge 68 = .ok (.getfield 112, 3) := by decide +kernel
theorem kd_Mo_judge_71 : decode kc_Mo_judge 71 = .ok (.iload_n 1, 1) := by decide +kernel
theorem kd_Mo_judge_72 : decode kc_Mo_judge 72 = .ok (.iconst (-1), 1) := by decide +kernel
theorem kd_Mo_judge_73 : decode kc_Mo_judge 73 = .ok (.iastore, 1) := by decide +kernel
theorem kd_Mo_judge_74 : decode kc_Mo_judge 74 = .ok (.aload_n 0, 1) := by decide +kernel
theorem kd_Mo_judge_75 : decode kc_Mo_judge 75 = .ok (.dup, 1) := by decide +kernel
theorem kd_Mo_judge_76 : decode kc_Mo_judge 76 = .ok (.getfield 516, 3) := by decide +kernel
theorem kd_Mo_judge_79 : decode kc_Mo_judge 79 = .ok (.iload_n 1, 1) := by decide +kernel
theorem kd_Mo_judge_80 : decode kc_Mo_judge 80 = .ok (.ifCond .eq 12, 3) := by decide +kernel
theorem kd_Mo_judge_83 : decode kc_Mo_judge 83 = .ok (.aload_n 0, 1) := by decide +kernel
theorem kd_Mo_judge_84 : decode kc_Mo_judge 84 = .ok (.getfield 31, 3) := by decide +kernel
theorem kd_Mo_judge_87 : decode kc_Mo_judge 87 = .ok (.iload_n 1, 1) := by decide +kernel
theorem kd_Mo_judge_88 : decode kc_Mo_judge 88 = .ok (.iaload, 1) := by decide +kernel
theorem kd_Mo_judge_89 : decode kc_Mo_judge 89 = .ok (.ifCond .lt 7, 3) := by decide +kernel
theorem kd_Mo_judge_92 : decode kc_Mo_judge 92 = .ok (.iconst 1, 1) := by decide +kernel
theorem kd_Mo_judge_93 : decode kc_Mo_judge 93 = .ok (.goto 4, 3) := by decide +kernel
theorem kd_Mo_judge_96 : decode kc_Mo_judge 96 = .ok (.iconst 0, 1) := by decide +kernel
theorem kd_Mo_judge_97 : decode kc_Mo_judge 97 = .ok (.iadd, 1) := by decide +kernel
theorem kd_Mo_judge_98 : decode kc_Mo_judge 98 = .ok (.putfield 516, 3) := by decide +kernel
theorem kd_Mo_judge_101 : decode kc_Mo_judge 101 = .ok (.iinc 1 1, 3) := by decide +kernel
theorem kd_Mo_judge_104 : decode kc_Mo_judge 104 = .ok (.goto (-59), 3) := by decide +kernel
theorem kd_Mo_judge_107 : decode kc_Mo_judge 107 = .ok (.aload_n 0, 1) := by decide +kernel
theorem kd_Mo_judge_108 : decode kc_Mo_judge 108 = .ok (.iconst 0, 1) := by decide +kernel
theorem kd_Mo_judge_109 : decode kc_Mo_judge 109 = .ok (.invokevirtual 519, 3) := by decide +kernel
theorem kd_Mo_judge_112 : decode kc_Mo_judge 112 = .ok (.aload_n 0, 1) := by decide +kernel
theorem kd_Mo_judge_113 : decode kc_Mo_judge 113 = .ok (.aload_n 0, 1) := by decide +kernel
theorem kd_Mo_judge_114 : decode kc_Mo_judge 114 = .ok (.getfield 445, 3) := by decide +kernel
theorem kd_Mo_judge_117 : decode kc_Mo_judge 117 = .ok (.ifCond .ne 7, 3) := by decide +kernel
theorem kd_Mo_judge_120 : decode kc_Mo_judge 120 = .ok (.iconst 1, 1) := by decide +kernel
theorem kd_Mo_judge_121 : decode kc_Mo_judge 121 = .ok (.goto 4, 3) := by decide +kernel
theorem kd_Mo_judge_124 : decode kc_Mo_judge 124 = .ok (.iconst 0, 1) := by decide +kernel
theorem kd_Mo_judge_125 : decode kc_Mo_judge 125 = .ok (.putfield 513, 3) := by decide +kernel
theorem kd_Mo_judge_128 : decode kc_Mo_judge 128 = .ok (.aload_n 0, 1) := by decide +kernel
theorem kd_Mo_judge_129 : decode kc_Mo_judge 129 = .ok (.getfield 445, 3) := by decide +kernel
theorem kd_Mo_judge_132 : decode kc_Mo_judge 132 = .ok (.ireturn, 1) := by decide +kernel
theorem kd_Mo_load_0 : decode kc_Mo_load 0 = .ok (.iload_n 1, 1) := by decide +kernel
theorem kd_Mo_load_1 : decode kc_Mo_load 1 = .ok (.bipush 100, 2) := by decide +kernel
theorem kd_Mo_load_3 : decode kc_Mo_load 3 = .ok (.if_icmp .lt 10, 3) := by decide +kernel
theorem kd_Mo_load_6 : decode kc_Mo_load 6 = .ok (.iload_n 1, 1) := by decide +kernel
theorem kd_Mo_load_7 : decode kc_Mo_load 7 = .ok (.ldc_w 498, 3) := by decide +kernel
theorem kd_Mo_load_10 : decode kc_Mo_load 10 = .ok (.if_icmp .le 5, 3) := by decide +kernel
theorem kd_Mo_load_13 : decode kc_Mo_load 13 = .ok (.iconst (-1), 1) := by decide +kernel
theorem kd_Mo_load_14 : decode kc_Mo_load 14 = .ok (.ireturn, 1) := by decide +kernel
theorem kd_Mo_load_15 : decode kc_Mo_load 15 = .ok (.aload_n 0, 1) := by decide +kernel
theorem kd_Mo_load_16 : decode kc_Mo_load 16 = .ok (.aload_n 0, 1) := by decide +kernel
theorem kd_Mo_load_17 : decode kc_Mo_load 17 = .ok (.invokevirtual 850, 3) := by decide +kernel
theorem kd_Mo_load_20 : decode kc_Mo_load 20 = .ok (.putfield 184, 3) := by decide +kernel
theorem kd_Mo_load_23 : decode kc_Mo_load 23 = .ok (.iconst 0, 1) := by decide +kernel
theorem kd_Mo_load_24 : decode kc_Mo_load 24 = .ok (.istore_n 2, 1) := by decide +kernel
theorem kd_Mo_load_25 : decode kc_Mo_load 25 = .ok (.iload_n 2, 1) := by decide +kernel
theorem kd_Mo_load_26 : decode kc_Mo_load 26 = .ok (.aload_n 0, 1) := by decide +kernel
theorem kd_Mo_load_27 : decode kc_Mo_load 27 = .ok (.getfield 184, 3) := by decide +kernel
theorem kd_Mo_load_30 : decode kc_Mo_load 30 = .ok (.if_icmp .ge 21, 3) := by decide +kernel
theorem kd_Mo_load_33 : decode kc_Mo_load 33 = .ok (.aload_n 0, 1) := by decide +kernel
theorem kd_Mo_load_34 : decode kc_Mo_load 34 = .ok (.getfield 7, 3) := by decide +kernel
theorem kd_Mo_load_37 : decode kc_Mo_load 37 = .ok (.iload_n 2, 1) := by decide +kernel
theorem kd_Mo_load_38 : decode kc_Mo_load 38 = .ok (.aload_n 0, 1) := by decide +kernel
theorem kd_Mo_load_39 : decode kc_Mo_load 39 = .ok (.getfield 156, 3) := by decide +kernel
theorem kd_Mo_load_42 : decode kc_Mo_load 42 = .ok (.iload_n 2, 1) := by decide +kernel
theorem kd_Mo_load_43 : decode kc_Mo_load 43 = .ok (.baload, 1) := by decide +kernel
theorem kd_Mo_load_44 : decode kc_Mo_load 44 = .ok (.bastore, 1) := by decide +kernel
theorem kd_Mo_load_45 : decode kc_Mo_load 45 = .ok (.iinc 2 1, 3) := by decide +kernel
theorem kd_Mo_load_48 : decode kc_Mo_load 48 = .ok (.goto (-23), 3) := by decide +kernel
theorem kd_Mo_load_51 : decode kc_Mo_load 51 = .ok (.aload_n 0, 1) := by decide +kernel
theorem kd_Mo_load_52 : decode kc_Mo_load 52 = .ok (.aload_n 0, 1) := by decide +kernel
theorem kd_Mo_load_53 : decode kc_Mo_load 53 = .ok (.invokevirtual 853, 3) := by decide +kernel
theorem kd_Mo_load_56 : decode kc_Mo_load 56 = .ok (.putfield 856, 3) := by decide +kernel
theorem kd_Mo_load_59 : decode kc_Mo_load 59 = .ok (.aload_n 0, 1) := by decide +kernel
theorem kd_Mo_load_60 : decode kc_Mo_load 60 = .ok (.aload_n 0, 1) := by decide +kernel
theorem kd_Mo_load_61 : decode kc_Mo_load 61 = .ok (.getfield 448, 3) := by decide +kernel
theorem kd_Mo_load_64 : decode kc_Mo_load 64 = .ok (.putfield 159, 3) := by decide +kernel
theorem kd_Mo_load_67 : decode kc_Mo_load 67 = .ok (.aload_n 0, 1) := by decide +kernel
theorem kd_Mo_load_68 : decode kc_Mo_load 68 = .ok (.getfield 856, 3) := by decide +kernel
theorem kd_Mo_load_71 : decode kc_Mo_load 71 = .ok (.ifCond .ne 17, 3) := by decide +kernel
theorem kd_Mo_load_74 : decode kc_Mo_load 74 = .ok (.aload_n 0, 1) := by decide +kernel
theorem kd_Mo_load_75 : decode kc_Mo_load 75 = .ok (.invokevirtual 859, 3) := by decide +kernel
theorem kd_Mo_load_78 : decode kc_Mo_load 78 = .ok (.ifCond .ne 10, 3) := by decide +kernel
theorem kd_Mo_load_81 : decode kc_Mo_load 81 = .ok (.aload_n 0, 1) := by decide +kernel
theorem kd_Mo_load_82 : decode kc_Mo_load 82 = .ok (.bipush 50, 2) := by decide +kernel
theorem kd_Mo_load_84 : decode kc_Mo_load 84 = .ok (.iconst 0, 1) := by decide +kernel
theorem kd_Mo_load_85 : decode kc_Mo_load 85 = .ok (.invokevirtual 862, 3) := by decide +kernel
theorem kd_Mo_load_88 : decode kc_Mo_load 88 = .ok (.iconst 0, 1) := by decide +kernel
theorem kd_Mo_load_89 : decode kc_Mo_load 89 = .ok (.istore_n 2, 1) := by decide +kernel
theorem kd_Mo_load_90 : decode kc_Mo_load 90 = .ok (.iload_n 2, 1) := by decide +kernel
theorem kd_Mo_load_91 : decode kc_Mo_load 91 = .ok (.aload_n 0, 1) := by decide +kernel
theorem kd_Mo_load_92 : decode kc_Mo_load 92 = .ok (.getfield 462, 3) := by decide +kernel
theorem kd_Mo_load_95 : decode kc_Mo_load 95 = .ok (.if_icmp .ge 85, 3) := by decide +kernel
theorem kd_Mo_load_98 : decode kc_Mo_load 98 = .ok (.aload_n 0, 1) := by decide +kernel
theorem kd_Mo_load_99 : decode kc_Mo_load 99 = .ok (.getfield 856, 3) := by decide +kernel
theorem kd_Mo_load_102 : decode kc_Mo_load 102 = .ok (.ifCond .ne 78, 3) := by decide +kernel
theorem kd_Mo_load_105 : decode kc_Mo_load 105 = .ok (.aload_n 0, 1) := by decide +kernel
theorem kd_Mo_load_106 : decode kc_Mo_load 106 = .ok (.iload_n 2, 1) := by decide +kernel
theorem kd_Mo_load_107 : decode kc_Mo_load 107 = .ok (.invokevirtual 865, 3) := by decide +kernel
theorem kd_Mo_load_110 : decode kc_Mo_load 110 = .ok (.ifCond .eq 23, 3) := by decide +kernel
theorem kd_Mo_load_113 : decode kc_Mo_load 113 = .ok (.aload_n 0, 1) := by decide +kernel
theorem kd_Mo_load_114 : decode kc_Mo_load 114 = .ok (.bipush 51, 2) := by decide +kernel
theorem kd_Mo_load_116 : decode kc_Mo_load 116 = .ok (.aload_n 0, 1) := by decide +kernel
theorem kd_Mo_load_117 : decode kc_Mo_load 117 = .ok (.getfield 25, 3) := by decide +kernel
theorem kd_Mo_load_120 : decode kc_Mo_load 120 = .ok (.aload_n 0, 1) := by decide +kernel
theorem kd_Mo_load_121 : decode kc_Mo_load 121 = .ok (.getfield 58, 3) := by decide +kernel
theorem kd_Mo_load_124 : decode kc_Mo_load 124 = .ok (.iload_n 2, 1) := by decide +kernel
theorem kd_Mo_load_125 : decode kc_Mo_load 125 = .ok (.iaload, 1) := by decide +kernel
theorem kd_Mo_load_126 : decode kc_Mo_load 126 = .ok (.iaload, 1) := by decide +kernel
theorem kd_Mo_load_127 : decode kc_Mo_load 127 = .ok (.invokevirtual 862, 3) := by decide +kernel
theorem kd_Mo_load_130 : decode kc_Mo_load 130 = .ok (.goto 44, 3) := by decide +kernel
theorem kd_Mo_load_133 : decode kc_Mo_load 133 = .ok (.aload_n 0, 1) := by decide +kernel
theorem kd_Mo_load_134 : decode kc_Mo_load 134 = .ok (.getfield 133, 3) := by decide +kernel
theorem kd_Mo_load_137 : decode kc_Mo_load 137 = .ok (.iload_n 2, 1) := by decide +kernel
theorem kd_Mo_load_138 : decode kc_Mo_load 138 = .ok (.aload_n 0, 1) := by decide +kernel
theorem kd_Mo_load_139 : decode kc_Mo_load 139 = .ok (.iload_n 2, 1) := by decide +kernel
theorem kd_Mo_load_140 : decode kc_Mo_load 140 = .ok (.invokevirtual 868, 3) := by decide +kernel
theorem kd_Mo_load_143 : decode kc_Mo_load 143 = .ok (.lastore, 1) := by decide +kernel
theorem kd_Mo_load_144 : decode kc_Mo_load 144 = .ok (.aload_n 0, 1) := by decide +kernel
theorem kd_Mo_load_145 : decode kc_Mo_load 145 = .ok (.getfield 133, 3) := by decide +kernel
theorem kd_Mo_load_148 : decode kc_Mo_load 148 = .ok (.iload_n 2, 1) := by decide +kernel
theorem kd_Mo_load_149 : decode kc_Mo_load 149 = .ok (.laload, 1) := by decide +kernel
theorem kd_Mo_load_150 : decode kc_Mo_load 150 = .ok (.ldc2_w 872, 3) := by decide +kernel
theorem kd_Mo_load_153 : decode kc_Mo_load 153 = .ok (.lcmp, 1) := by decide +kernel
theorem kd_Mo_load_154 : decode kc_Mo_load 154 = .ok (.ifCond .le 20, 3) := by decide +kernel
theorem kd_Mo_load_157 : decode kc_Mo_load 157 = .ok (.aload_n 0, 1) := by decide +kernel
theorem kd_Mo_load_158 : decode kc_Mo_load 158 = .ok (.bipush 52, 2) := by decide +kernel
theorem kd_Mo_load_160 : decode kc_Mo_load 160 = .ok (.aload_n 0, 1) := by decide +kernel
theorem kd_Mo_load_161 : decode kc_Mo_load 161 = .ok (.getfield 25, 3) := by decide +kernel
theorem kd_Mo_load_164 : decode kc_Mo_load 164 = .ok (.aload_n 0, 1) := by decide +kernel
theorem kd_Mo_load_165 : decode kc_Mo_load 165 = .ok (.getfield 58, 3) := by decide +kernel
theorem kd_Mo_load_168 : decode kc_Mo_load 168 = .ok (.iload_n 2, 1) := by decide +kernel
theorem kd_Mo_load_169 : decode kc_Mo_load 169 = .ok (.iaload, 1) := by decide +kernel
theorem kd_Mo_load_170 : decode kc_Mo_load 170 = .ok (.iaload, 1) := by decide +kernel
theorem kd_Mo_load_171 : decode kc_Mo_load 171 = .ok (.invokevirtual 862, 3) := by decide +kernel
theorem kd_Mo_load_174 : decode kc_Mo_load 174 = .ok (.iinc 2 1, 3) := by decide +kernel
theorem kd_Mo_load_177 : decode kc_Mo_load 177 = .ok (.goto (-87), 3) := by decide +kernel
theorem kd_Mo_load_180 : decode kc_Mo_load 180 = .ok (.aload_n 0, 1) := by decide +kernel
theorem kd_Mo_load_181 : decode kc_Mo_load 181 = .ok (.getfield 856, 3) := by decide +kernel
theorem kd_Mo_load_184 : decode kc_Mo_load 184 = .ok (.ifCond .ne 42, 3) := by decide +kernel
theorem kd_Mo_load_187 : decode kc_Mo_load 187 = .ok (.aload_n 0, 1) := by decide +kernel
theorem kd_Mo_load_188 : decode kc_Mo_load 188 = .ok (.getfield 133, 3) := by decide +kernel
theorem kd_Mo_load_191 : decode kc_Mo_load 191 = .ok (.aload_n 0, 1) := by decide +kernel
theorem kd_Mo_load_192 : decode kc_Mo_load 192 = .ok (.getfield 462, 3) := by decide +kernel
theorem kd_Mo_load_195 : decode kc_Mo_load 195 = .ok (.iconst 1, 1) := by decide +kernel
theorem kd_Mo_load_196 : decode kc_Mo_load 196 = .ok (.isub, 1) := by decide +kernel
theorem kd_Mo_load_197 : decode kc_Mo_load 197 = .ok (.laload, 1) := by decide +kernel
theorem kd_Mo_load_198 : decode kc_Mo_load 198 = .ok (.iload_n 1, 1) := by decide +kernel
theorem kd_Mo_load_199 : decode kc_Mo_load 199 = .ok (.i2l, 1) := by decide +kernel
theorem kd_Mo_load_200 : decode kc_Mo_load 200 = .ok (.lcmp, 1) := by decide +kernel
theorem kd_Mo_load_201 : decode kc_Mo_load 201 = .ok (.ifCond .le 25, 3) := by decide +kernel
theorem kd_Mo_load_204 : decode kc_Mo_load 204 = .ok (.aload_n 0, 1) := by decide +kernel
theorem kd_Mo_load_205 : decode kc_Mo_load 205 = .ok (.bipush 53, 2) := by decide +kernel
theorem kd_Mo_load_207 : decode kc_Mo_load 207 = .ok (.aload_n 0, 1) := by decide +kernel
theorem kd_Mo_load_208 : decode kc_Mo_load 208 = .ok (.getfield 25, 3) := by decide +kernel
theorem kd_Mo_load_211 : decode kc_Mo_load 211 = .ok (.aload_n 0, 1) := by decide +kernel
theorem kd_Mo_load_212 : decode kc_Mo_load 212 = .ok (.getfield 58, 3) := by decide +kernel
theorem kd_Mo_load_215 : decode kc_Mo_load 215 = .ok (.aload_n 0, 1) := by decide +kernel
theorem kd_Mo_load_216 : decode kc_Mo_load 216 = .ok (.getfield 462, 3) := by decide +kernel
theorem kd_Mo_load_219 : decode kc_Mo_load 219 = .ok (.iconst 1, 1) := by decide +kernel
theorem kd_Mo_load_220 : decode kc_Mo_load 220 = .ok (.isub, 1) := by decide +kernel
theorem kd_Mo_load_221 : decode kc_Mo_load 221 = .ok (.iaload, 1) := by decide +kernel
theorem kd_Mo_load_222 : decode kc_Mo_load 222 = .ok (.iaload, 1) := by decide +kernel
theorem kd_Mo_load_223 : decode kc_Mo_load 223 = .ok (.invokevirtual 862, 3) := by decide +kernel
theorem kd_Mo_load_226 : decode kc_Mo_load 226 = .ok (.aload_n 0, 1) := by decide +kernel
theorem kd_Mo_load_227 : decode kc_Mo_load 227 = .ok (.aload_n 0, 1) := by decide +kernel
theorem kd_Mo_load_228 : decode kc_Mo_load 228 = .ok (.getfield 856, 3) := by decide +kernel
theorem kd_Mo_load_231 : decode kc_Mo_load 231 = .ok (.ifCond .ne 7, 3) := by decide +kernel
theorem kd_Mo_load_234 : decode kc_Mo_load 234 = .ok (.iconst 1, 1) := by decide +kernel
theorem kd_Mo_load_235 : decode kc_Mo_load 235 = .ok (.goto 4, 3) := by decide +kernel
theorem kd_Mo_load_238 : decode kc_Mo_load 238 = .ok (.iconst 0, 1) := by decide +kernel
theorem kd_Mo_load_239 : decode kc_Mo_load 239 = .ok (.putfield 874, 3) := by decide +kernel
theorem kd_Mo_load_242 : decode kc_Mo_load 242 = .ok (.aload_n 0, 1) := by decide +kernel
theorem kd_Mo_load_243 : decode kc_Mo_load 243 = .ok (.getfield 874, 3) := by decide +kernel
theorem kd_Mo_load_246 : decode kc_Mo_load 246 = .ok (.ifCond .eq 27, 3) := by decide +kernel
theorem kd_Mo_load_249 : decode kc_Mo_load 249 = .ok (.aload_n 0, 1) := by decide +kernel
theorem kd_Mo_load_250 : decode kc_Mo_load 250 = .ok (.iconst 0, 1) := by decide +kernel
theorem kd_Mo_load_251 : decode kc_Mo_load 251 = .ok (.putfield 832, 3) := by decide +kernel
theorem kd_Mo_load_254 : decode kc_Mo_load 254 = .ok (.aload_n 0, 1) := by decide +kernel
theorem kd_Mo_load_255 : decode kc_Mo_load 255 = .ok (.iconst 0, 1) := by decide +kernel
theorem kd_Mo_load_256 : decode kc_Mo_load 256 = .ok (.putfield 817, 3) := by decide +kernel
theorem kd_Mo_load_259 : decode kc_Mo_load 259 = .ok (.aload_n 0, 1) := by decide +kernel
theorem kd_Mo_load_260 : decode kc_Mo_load 260 = .ok (.iconst 0, 1) := by decide +kernel
theorem kd_Mo_load_261 : decode kc_Mo_load 261 = .ok (.putfield 877, 3) := by decide +kernel
theorem kd_Mo_load_264 : decode kc_Mo_load 264 = .ok (.aload_n 0, 1) := by decide +kernel
theorem kd_Mo_load_265 : decode kc_Mo_load 265 = .ok (.iconst 0, 1) := by decide +kernel
theorem kd_Mo_load_266 : decode kc_Mo_load 266 = .ok (.putfield 880, 3) := by decide +kernel
theorem kd_Mo_load_269 : decode kc_Mo_load 269 = .ok (.aload_n 0, 1) := by decide +kernel
theorem kd_Mo_load_270 : decode kc_Mo_load 270 = .ok (.invokevirtual 883, 3) := by decide +kernel
theorem kd_Mo_load_273 : decode kc_Mo_load 273 = .ok (.aload_n 0, 1) := by decide +kernel
theorem kd_Mo_load_274 : decode kc_Mo_load 274 = .ok (.getfield 856, 3) := by decide +kernel
theorem kd_Mo_load_277 : decode kc_Mo_load 277 = .ok (.ireturn, 1) := by decide +kernel
set_option maxHeartbeats 4000000 in
set_option maxRecDepth 100000 in
theorem zq_c_useTape1 {l : Launch} {D : va_G} {sz0 : Nat} {S : zs_T} {P : ze_T} (h : zs_H) (e_68_78 : h.1 68 78 = 0) : zk_Sp (zs_G S l D sz0) (ze_E P) km_Mo_useTape { frames := 0, cells := 0, slots := 0, locals := 0 } [.ref (S.1 68)] (zs_W S h) (fun v w => (v = some (.int 0) ∧ w = zs_W S (zs_uF h 68 78 0))) := by
  refine zk_met ku_Mo_useTape (Nat.le_of_ble_eq_true rfl) (ze_Em P) ?_
  intro X C hR
  refine zk_lvs (lv' := [(0, .ref (S.1 68))]) [0] rfl ?_
  refine zk_aload_n C kd_Mo_useTape_0 rfl 0 rfl rfl ?_
  refine zs_get (v := .int 0) C 68 78 rfl rfl (congrArg Value.int e_68_78) rfl ki_Mo (by decide) kw1761 kd_Mo_useTape_1 rfl ?_
  refine zk_istore_n (lv' := [(1, _), (0, _)]) C kd_Mo_useTape_4 rfl (by decide) rfl rfl ?_
  refine zk_aload_n C kd_Mo_useTape_5 rfl 1 rfl rfl ?_
  refine zk_iconst (v := 0) C kd_Mo_useTape_6 (by decide) rfl ?_
  refine zs_put (ty := .int) C 68 78 0 rfl rfl rfl rfl ki_Mo ky_Mo ko_Mo kn_Mo (by decide) kw1761 rfl rfl rfl rfl (by decide) kd_Mo_useTape_7 rfl ?_
  refine zk_iload_n C kd_Mo_useTape_10 rfl 0 rfl rfl ?_
  exact zk_iret C hR kd_Mo_useTape_11 rfl rfl ⟨rfl, rfl⟩
set_option maxHeartbeats 4000000 in
set_option maxRecDepth 100000 in
theorem zq_c_skip1 {l : Launch} {D : va_G} {sz0 : Nat} {S : zs_T} {P : ze_T} (h : zs_H) (e_68_1 : h.1 68 1 = 0) : zk_Sp (zs_G S l D sz0) (ze_E P) km_Mo_skip { frames := 0, cells := 0, slots := 0, locals := 0 } [.ref (S.1 68), .int 0] (zs_W S h) (fun v w => (v = some (.int 0) ∧ w = zs_W S h)) := by
  refine zk_met ku_Mo_skip (Nat.le_of_ble_eq_true rfl) (ze_Em P) ?_
  intro X C hR
  refine zk_lvs (lv' := [(0, .ref (S.1 68)), (1, .int 0)]) [0, 1] rfl ?_
  refine zk_iload_n C kd_Mo_skip_0 rfl 1 rfl rfl ?_
  refine zk_istore_n (lv' := [(2, _), (0, _), (1, _)]) C kd_Mo_skip_1 rfl (by decide) rfl rfl ?_
  refine zk_iload_n C kd_Mo_skip_2 rfl 0 rfl rfl ?_
  refine zk_aload_n C kd_Mo_skip_3 rfl 1 rfl rfl ?_
  refine zs_get (v := .int 0) C 68 1 rfl rfl (congrArg Value.int e_68_1) rfl ki_Mo (by decide) kw1684 kd_Mo_skip_4 rfl ?_
  refine zk_icmp_ge (tgt := 138) C kd_Mo_skip_7 (by decide) rfl (fun h_1 => ?_) (fun h_1 => absurd (by decide) h_1)
  refine zk_iload_n C kd_Mo_skip_138 rfl 0 rfl rfl ?_
  exact zk_iret C hR kd_Mo_skip_139 rfl rfl ⟨rfl, rfl⟩
set_option maxHeartbeats 4000000 in
set_option maxRecDepth 100000 in
theorem zq_c_byteOf1 {l : Launch} {D : va_G} {sz0 : Nat} {S : zs_T} {P : ze_T} (h : zs_H) (e_68_1 : h.1 68 1 = 0) : zk_Sp (zs_G S l D sz0) (ze_E P) km_Mo_byteOf { frames := 0, cells := 0, slots := 0, locals := 0 } [.ref (S.1 68), .int 0] (zs_W S h) (fun v w => (v = some (.int (-1)) ∧ w = zs_W S h)) := by
  refine zk_met ku_Mo_byteOf (Nat.le_of_ble_eq_true rfl) (ze_Em P) ?_
  intro X C hR
  refine zk_lvs (lv' := [(0, .ref (S.1 68)), (1, .int 0)]) [0, 1] rfl ?_
  refine zk_iload_n C kd_Mo_byteOf_0 rfl 1 rfl rfl ?_
  refine zk_if_lt (tgt := 25) C kd_Mo_byteOf_1 (by decide) rfl (fun h_1 => absurd h_1 (by decide)) (fun h_1 => ?_)
  refine zk_iload_n C kd_Mo_byteOf_4 rfl 1 rfl rfl ?_
  refine zk_aload_n C kd_Mo_byteOf_5 rfl 0 rfl rfl ?_
  refine zs_get (v := .int 0) C 68 1 rfl rfl (congrArg Value.int e_68_1) rfl ki_Mo (by decide) kw1684 kd_Mo_byteOf_6 rfl ?_
  refine zk_icmp_ge (tgt := 25) C kd_Mo_byteOf_9 (by decide) rfl (fun h_2 => ?_) (fun h_2 => absurd (by decide) h_2)
  refine zk_iconst (v := (-1)) C kd_Mo_byteOf_25 (by decide) rfl ?_
  exact zk_iret C hR kd_Mo_byteOf_26 rfl rfl ⟨rfl, rfl⟩
set_option maxHeartbeats 4000000 in
set_option maxRecDepth 100000 in
theorem zq_c_great1 {l : Launch} {D : va_G} {sz0 : Nat} {S : zs_T} {P : ze_T} (h : zs_H) (e_68_1 : h.1 68 1 = 0) : zk_Sp (zs_G S l D sz0) (ze_E P) km_Mo_great { frames := 1, cells := 0, slots := 0, locals := 21 } [.ref (S.1 68), .int 0] (zs_W S h) (fun v w => (v = some (.int (-1)) ∧ w = zs_W S h)) := by
  refine zk_met ku_Mo_great (Nat.le_of_ble_eq_true rfl) (ze_Em P) ?_
  intro X C hR
  refine zk_lvs (lv' := [(0, .ref (S.1 68)), (1, .int 0)]) [0, 1] rfl ?_
  refine zk_aload_n C kd_Mo_great_0 rfl 0 rfl rfl ?_
  refine zk_iload_n C kd_Mo_great_1 rfl 1 rfl rfl ?_
  refine zs_callV (k := 68) (rn := { frames := 0, cells := 0, slots := 0, locals := 0 }) (As := [.int 0]) (rest := []) C (zq_c_byteOf1 h e_68_1) ku_Mo_byteOf kw2009 kv_Mo_byteOf rfl ⟨by decide, by decide⟩ ⟨by decide, by decide⟩ rfl rfl rfl (Nat.le_of_ble_eq_true rfl) kd_Mo_great_2 rfl (c1 := 0) (s1 := 0) rfl rfl (fun v w hp => ?_)
  obtain ⟨rfl, rfl⟩ := hp
  refine zk_stk (r' := [.int (-1)]) rfl ?_
  refine zk_istore_n (lv' := [(2, _), (0, _), (1, _)]) C kd_Mo_great_5 rfl (by decide) rfl rfl ?_
  refine zk_iload_n C kd_Mo_great_6 rfl 0 rfl rfl ?_
  refine zk_bipush (v := 97) C kd_Mo_great_7 (by decide) rfl ?_
  refine zk_icmp_lt (tgt := 25) C kd_Mo_great_9 (by decide) rfl (fun h_1 => ?_) (fun h_1 => absurd (by decide) h_1)
  refine zk_iload_n C kd_Mo_great_25 rfl 0 rfl rfl ?_
  exact zk_iret C hR kd_Mo_great_26 rfl rfl ⟨rfl, rfl⟩
set_option maxHeartbeats 4000000 in
set_option maxRecDepth 100000 in
theorem zq_c_next1 {l : Launch} {D : va_G} {sz0 : Nat} {S : zs_T} {P : ze_T} (h : zs_H) (e_68_1 : h.1 68 1 = 0) (e_68_8 : h.1 68 8 = 0) : zk_Sp (zs_G S l D sz0) (ze_E P) km_Mo_next { frames := 2, cells := 0, slots := 0, locals := 43 } [.ref (S.1 68)] (zs_W S h) (fun v w => (v = none ∧ w = zs_W S (zs_uF (zs_uF (zs_uF (zs_uF h 68 7 0) 68 6 0) 68 7 0) 68 8 0))) := by
  refine zk_met ku_Mo_next (Nat.le_of_ble_eq_true rfl) (ze_Em P) ?_
  intro X C hR
  refine zk_lvs (lv' := [(0, .ref (S.1 68))]) [0] rfl ?_
  refine zk_aload_n C kd_Mo_next_0 rfl 0 rfl rfl ?_
  refine zk_aload_n C kd_Mo_next_1 rfl 0 rfl rfl ?_
  refine zk_aload_n C kd_Mo_next_2 rfl 0 rfl rfl ?_
  refine zs_get (v := .int 0) C 68 8 rfl rfl (congrArg Value.int e_68_8) rfl ki_Mo (by decide) kw1691 kd_Mo_next_3 rfl ?_
  refine zs_callV (k := 68) (rn := { frames := 0, cells := 0, slots := 0, locals := 0 }) (As := [.int 0]) (rest := [.ref (S.1 68)]) C (zq_c_skip1 h e_68_1) ku_Mo_skip kw2005 kv_Mo_skip rfl ⟨by decide, by decide⟩ ⟨by decide, by decide⟩ rfl rfl rfl (Nat.le_of_ble_eq_true rfl) kd_Mo_next_6 rfl (c1 := 0) (s1 := 0) rfl rfl (fun v w hp => ?_)
  obtain ⟨rfl, rfl⟩ := hp
  refine zk_stk (r' := [.int 0, .ref (S.1 68)]) rfl ?_
  refine zs_put (ty := .int) C 68 7 0 rfl rfl rfl rfl ki_Mo ky_Mo ko_Mo kn_Mo (by decide) kw1690 rfl rfl rfl rfl (by decide) kd_Mo_next_9 rfl ?_
  refine zk_aload_n C kd_Mo_next_12 rfl 0 rfl rfl ?_
  refine zs_get (v := .int 0) C 68 7 rfl rfl rfl rfl ki_Mo (by decide) kw1690 kd_Mo_next_13 rfl ?_
  refine zk_if_ge (tgt := 25) C kd_Mo_next_16 (by decide) rfl (fun h_1 => ?_) (fun h_1 => absurd (by decide) h_1)
  refine zk_aload_n C kd_Mo_next_25 rfl 0 rfl rfl ?_
  refine zk_aload_n C kd_Mo_next_26 rfl 0 rfl rfl ?_
  refine zs_get (v := .int 0) C 68 7 rfl rfl rfl rfl ki_Mo (by decide) kw1690 kd_Mo_next_27 rfl ?_
  refine zs_callV (k := 68) (rn := { frames := 1, cells := 0, slots := 0, locals := 21 }) (As := [.int 0]) (rest := []) C (zq_c_great1 (zs_uF h 68 7 0) e_68_1) ku_Mo_great kw2017 kv_Mo_great rfl ⟨by decide, by decide⟩ ⟨by decide, by decide⟩ rfl rfl rfl (Nat.le_of_ble_eq_true rfl) kd_Mo_next_30 rfl (c1 := 0) (s1 := 0) rfl rfl (fun v w hp => ?_)
  obtain ⟨rfl, rfl⟩ := hp
  refine zk_stk (r' := [.int (-1)]) rfl ?_
  refine zk_istore_n (lv' := [(1, _), (0, _)]) C kd_Mo_next_33 rfl (by decide) rfl rfl ?_
  refine zk_aload_n C kd_Mo_next_34 rfl 1 rfl rfl ?_
  refine zs_get (v := .int 0) C 68 7 rfl rfl rfl rfl ki_Mo (by decide) kw1690 kd_Mo_next_35 rfl ?_
  refine zk_aload_n C kd_Mo_next_38 rfl 1 rfl rfl ?_
  refine zs_get (v := .int 0) C 68 1 rfl rfl (congrArg Value.int e_68_1) rfl ki_Mo (by decide) kw1684 kd_Mo_next_39 rfl ?_
  refine zk_icmp_lt (tgt := 69) C kd_Mo_next_42 (by decide) rfl (fun h_2 => absurd h_2 (by decide)) (fun h_2 => ?_)
  refine zk_aload_n C kd_Mo_next_45 rfl 1 rfl rfl ?_
  refine zk_iconst (v := 0) C kd_Mo_next_46 (by decide) rfl ?_
  refine zs_put (ty := .int) C 68 6 0 rfl rfl rfl rfl ki_Mo ky_Mo ko_Mo kn_Mo (by decide) kw1689 rfl rfl rfl rfl (by decide) kd_Mo_next_47 rfl ?_
  refine zk_aload_n C kd_Mo_next_50 rfl 1 rfl rfl ?_
  refine zk_aload_n C kd_Mo_next_51 rfl 1 rfl rfl ?_
  refine zs_get (v := .int 0) C 68 1 rfl rfl (congrArg Value.int e_68_1) rfl ki_Mo (by decide) kw1684 kd_Mo_next_52 rfl ?_
  refine zs_put (ty := .int) C 68 7 0 rfl rfl rfl rfl ki_Mo ky_Mo ko_Mo kn_Mo (by decide) kw1690 rfl rfl rfl rfl (by decide) kd_Mo_next_55 rfl ?_
  refine zk_aload_n C kd_Mo_next_58 rfl 1 rfl rfl ?_
  refine zk_aload_n C kd_Mo_next_59 rfl 1 rfl rfl ?_
  refine zs_get (v := .int 0) C 68 1 rfl rfl (congrArg Value.int e_68_1) rfl ki_Mo (by decide) kw1684 kd_Mo_next_60 rfl ?_
  refine zs_put (ty := .int) C 68 8 0 rfl rfl rfl rfl ki_Mo ky_Mo ko_Mo kn_Mo (by decide) kw1691 rfl rfl rfl rfl (by decide) kd_Mo_next_63 rfl ?_
  refine zk_goto (tgt := 142) C kd_Mo_next_66 (by decide) ?_
  exact zk_vret C hR kd_Mo_next_142 rfl rfl ⟨rfl, rfl⟩
set_option maxHeartbeats 4000000 in
set_option maxRecDepth 100000 in
theorem zq_c_node1 {l : Launch} {D : va_G} {sz0 : Nat} {S : zs_T} {P : ze_T} (h : zs_H) (e_68_14 : h.1 68 14 = 0) : zk_Sp (zs_G S l D sz0) (ze_E P) km_Mo_node { frames := 0, cells := 0, slots := 0, locals := 0 } [.ref (S.1 68), .int 0, .int 0, .int 0] (zs_W S h) (fun v w => (v = some (.int 0) ∧ w = zs_W S (zs_uM (zs_uM (zs_uM (zs_uM (zs_uM (zs_uM (zs_uM (zs_uF h 68 14 1) 72 ((0 : Int32)).toNatClampNeg 0) 73 ((0 : Int32)).toNatClampNeg 0) 74 ((0 : Int32)).toNatClampNeg 0) 75 ((0 : Int32)).toNatClampNeg (-1)) 76 ((0 : Int32)).toNatClampNeg (-1)) 77 ((0 : Int32)).toNatClampNeg (-1)) 78 ((0 : Int32)).toNatClampNeg (-1)))) := by
  refine zk_met ku_Mo_node (Nat.le_of_ble_eq_true rfl) (ze_Em P) ?_
  intro X C hR
  refine zk_lvs (lv' := [(0, .ref (S.1 68)), (1, .int 0), (2, .int 0), (3, .int 0)]) [0, 1, 2, 3] rfl ?_
  refine zk_aload_n C kd_Mo_node_0 rfl 0 rfl rfl ?_
  refine zs_get (v := .int 0) C 68 14 rfl rfl (congrArg Value.int e_68_14) rfl ki_Mo (by decide) kw1697 kd_Mo_node_1 rfl ?_
  refine zk_istore (lv' := [(4, _), (0, _), (1, _), (2, _), (3, _)]) C kd_Mo_node_4 (by decide) rfl rfl ?_
  refine zk_aload_n C kd_Mo_node_6 rfl 1 rfl rfl ?_
  refine zk_dup C kd_Mo_node_7 rfl rfl ?_
  refine zs_get (v := .int 0) C 68 14 rfl rfl (congrArg Value.int e_68_14) rfl ki_Mo (by decide) kw1697 kd_Mo_node_8 rfl ?_
  refine zk_iconst (v := 1) C kd_Mo_node_11 (by decide) rfl ?_
  refine zk_iadd C kd_Mo_node_12 rfl ?_
  refine zk_stk (r' := [.int 1, .ref (S.1 68)]) (by rw [show (0 : Int32) + 1 = 1 by decide]) ?_
  refine zs_put (ty := .int) C 68 14 1 rfl rfl rfl rfl ki_Mo ky_Mo ko_Mo kn_Mo (by decide) kw1697 rfl rfl rfl rfl (by decide) kd_Mo_node_13 rfl ?_
  refine zk_aload_n C kd_Mo_node_16 rfl 1 rfl rfl ?_
  refine zs_get (v := .ref (S.1 72)) C 68 15 rfl rfl rfl rfl ki_Mo (by decide) kw1698 kd_Mo_node_17 rfl ?_
  refine zk_iload C kd_Mo_node_20 0 rfl rfl ?_
  refine zk_iload_n C kd_Mo_node_22 rfl 2 rfl rfl ?_
  refine zs_iast C 72 rfl (zp_dec rfl) kd_Mo_node_23 rfl ?_
  refine zk_aload_n C kd_Mo_node_24 rfl 1 rfl rfl ?_
  refine zs_get (v := .ref (S.1 73)) C 68 16 rfl rfl rfl rfl ki_Mo (by decide) kw1699 kd_Mo_node_25 rfl ?_
  refine zk_iload C kd_Mo_node_28 0 rfl rfl ?_
  refine zk_iload_n C kd_Mo_node_30 rfl 3 rfl rfl ?_
  refine zs_iast C 73 rfl (zp_dec rfl) kd_Mo_node_31 rfl ?_
  refine zk_aload_n C kd_Mo_node_32 rfl 1 rfl rfl ?_
  refine zs_get (v := .ref (S.1 74)) C 68 17 rfl rfl rfl rfl ki_Mo (by decide) kw1700 kd_Mo_node_33 rfl ?_
  refine zk_iload C kd_Mo_node_36 0 rfl rfl ?_
  refine zk_iload_n C kd_Mo_node_38 rfl 4 rfl rfl ?_
  refine zs_iast C 74 rfl (zp_dec rfl) kd_Mo_node_39 rfl ?_
  refine zk_aload_n C kd_Mo_node_40 rfl 1 rfl rfl ?_
  refine zs_get (v := .ref (S.1 75)) C 68 18 rfl rfl rfl rfl ki_Mo (by decide) kw1701 kd_Mo_node_41 rfl ?_
  refine zk_iload C kd_Mo_node_44 0 rfl rfl ?_
  refine zk_iconst (v := (-1)) C kd_Mo_node_46 (by decide) rfl ?_
  refine zs_iast C 75 rfl (zp_dec rfl) kd_Mo_node_47 rfl ?_
  refine zk_aload_n C kd_Mo_node_48 rfl 1 rfl rfl ?_
  refine zs_get (v := .ref (S.1 76)) C 68 19 rfl rfl rfl rfl ki_Mo (by decide) kw1702 kd_Mo_node_49 rfl ?_
  refine zk_iload C kd_Mo_node_52 0 rfl rfl ?_
  refine zk_iconst (v := (-1)) C kd_Mo_node_54 (by decide) rfl ?_
  refine zs_iast C 76 rfl (zp_dec rfl) kd_Mo_node_55 rfl ?_
  refine zk_aload_n C kd_Mo_node_56 rfl 1 rfl rfl ?_
  refine zs_get (v := .ref (S.1 77)) C 68 20 rfl rfl rfl rfl ki_Mo (by decide) kw1703 kd_Mo_node_57 rfl ?_
  refine zk_iload C kd_Mo_node_60 0 rfl rfl ?_
  refine zk_iconst (v := (-1)) C kd_Mo_node_62 (by decide) rfl ?_
  refine zs_iast C 77 rfl (zp_dec rfl) kd_Mo_node_63 rfl ?_
  refine zk_aload_n C kd_Mo_node_64 rfl 1 rfl rfl ?_
  refine zs_get (v := .ref (S.1 78)) C 68 21 rfl rfl rfl rfl ki_Mo (by decide) kw1704 kd_Mo_node_65 rfl ?_
  refine zk_iload C kd_Mo_node_68 0 rfl rfl ?_
  refine zk_iconst (v := (-1)) C kd_Mo_node_70 (by decide) rfl ?_
  refine zs_iast C 78 rfl (zp_dec rfl) kd_Mo_node_71 rfl ?_
  refine zk_iload C kd_Mo_node_72 0 rfl rfl ?_
  exact zk_iret C hR kd_Mo_node_74 rfl rfl ⟨rfl, rfl⟩
set_option maxHeartbeats 4000000 in
set_option maxRecDepth 100000 in
theorem zq_c_number1 {l : Launch} {D : va_G} {sz0 : Nat} {S : zs_T} {P : ze_T} (h : zs_H) (m_75_0 : h.2.1 75 0 = (-1)) (m_76_0 : h.2.1 76 0 = (-1)) (m_78_0 : h.2.1 78 0 = (-1)) : zk_Sp (zs_G S l D sz0) (ze_E P) km_Mo_number { frames := 0, cells := 0, slots := 0, locals := 0 } [.ref (S.1 68)] (zs_W S h) (fun v w => (v = none ∧ w = zs_W S (zs_uM (zs_uM h 79 ((0 : Int32)).toNatClampNeg 0) 80 ((0 : Int32)).toNatClampNeg 0))) := by
  refine zk_met ku_Mo_number (Nat.le_of_ble_eq_true rfl) (ze_Em P) ?_
  intro X C hR
  refine zk_lvs (lv' := [(0, .ref (S.1 68))]) [0] rfl ?_
  refine zk_iconst (v := 0) C kd_Mo_number_0 (by decide) rfl ?_
  refine zk_istore_n (lv' := [(1, _), (0, _)]) C kd_Mo_number_1 rfl (by decide) rfl rfl ?_
  refine zk_iconst (v := 0) C kd_Mo_number_2 (by decide) rfl ?_
  refine zk_istore_n (lv' := [(2, _), (1, _), (0, _)]) C kd_Mo_number_3 rfl (by decide) rfl rfl ?_
  refine zk_iload_n C kd_Mo_number_4 rfl 0 rfl rfl ?_
  refine zk_if_lt (tgt := 85) C kd_Mo_number_5 (by decide) rfl (fun h_1 => absurd h_1 (by decide)) (fun h_1 => ?_)
  refine zk_aload_n C kd_Mo_number_8 rfl 2 rfl rfl ?_
  refine zs_get (v := .ref (S.1 79)) C 68 23 rfl rfl rfl rfl ki_Mo (by decide) kw1706 kd_Mo_number_9 rfl ?_
  refine zk_iload_n C kd_Mo_number_12 rfl 1 rfl rfl ?_
  refine zk_iload_n C kd_Mo_number_13 rfl 0 rfl rfl ?_
  refine zs_iast C 79 rfl (zp_dec rfl) kd_Mo_number_14 rfl ?_
  refine zk_aload_n C kd_Mo_number_15 rfl 2 rfl rfl ?_
  refine zs_get (v := .ref (S.1 80)) C 68 24 rfl rfl rfl rfl ki_Mo (by decide) kw1707 kd_Mo_number_16 rfl ?_
  refine zk_iload_n C kd_Mo_number_19 rfl 0 rfl rfl ?_
  refine zk_iload_n C kd_Mo_number_20 rfl 1 rfl rfl ?_
  refine zs_iast C 80 rfl (zp_dec rfl) kd_Mo_number_21 rfl ?_
  refine zk_iinc (v := 1) (lv' := [(1, _), (2, _), (0, _)]) C kd_Mo_number_22 1 rfl (by decide) (by decide) rfl rfl ?_
  refine zk_aload_n C kd_Mo_number_25 rfl 2 rfl rfl ?_
  refine zs_get (v := .ref (S.1 76)) C 68 19 rfl rfl rfl rfl ki_Mo (by decide) kw1702 kd_Mo_number_26 rfl ?_
  refine zk_iload_n C kd_Mo_number_29 rfl 1 rfl rfl ?_
  refine zs_iald C 76 rfl (zp_dec rfl) kd_Mo_number_30 rfl ?_
  refine zk_stk (r' := [.int (-1)]) (congrArg (fun z => Value.int z :: []) m_76_0) ?_
  refine zk_if_lt (tgt := 44) C kd_Mo_number_31 (by decide) rfl (fun h_2 => ?_) (fun h_2 => absurd (by decide) h_2)
  refine zk_iload_n C kd_Mo_number_44 rfl 1 rfl rfl ?_
  refine zk_if_lt (tgt := 67) C kd_Mo_number_45 (by decide) rfl (fun h_3 => absurd h_3 (by decide)) (fun h_3 => ?_)
  refine zk_aload_n C kd_Mo_number_48 rfl 2 rfl rfl ?_
  refine zs_get (v := .ref (S.1 78)) C 68 21 rfl rfl rfl rfl ki_Mo (by decide) kw1704 kd_Mo_number_49 rfl ?_
  refine zk_iload_n C kd_Mo_number_52 rfl 1 rfl rfl ?_
  refine zs_iald C 78 rfl (zp_dec rfl) kd_Mo_number_53 rfl ?_
  refine zk_stk (r' := [.int (-1)]) (congrArg (fun z => Value.int z :: []) m_78_0) ?_
  refine zk_if_ge (tgt := 67) C kd_Mo_number_54 (by decide) rfl (fun h_4 => absurd h_4 (by decide)) (fun h_4 => ?_)
  refine zk_aload_n C kd_Mo_number_57 rfl 2 rfl rfl ?_
  refine zs_get (v := .ref (S.1 75)) C 68 18 rfl rfl rfl rfl ki_Mo (by decide) kw1701 kd_Mo_number_58 rfl ?_
  refine zk_iload_n C kd_Mo_number_61 rfl 1 rfl rfl ?_
  refine zs_iald C 75 rfl (zp_dec rfl) kd_Mo_number_62 rfl ?_
  refine zk_stk (r' := [.int (-1)]) (congrArg (fun z => Value.int z :: []) m_75_0) ?_
  refine zk_istore_n (lv' := [(2, _), (1, _), (0, _)]) C kd_Mo_number_63 rfl (by decide) rfl rfl ?_
  refine zk_goto (tgt := 44) C kd_Mo_number_64 (by decide) ?_
  refine zk_iload_n C kd_Mo_number_44 rfl 0 rfl rfl ?_
  refine zk_if_lt (tgt := 67) C kd_Mo_number_45 (by decide) rfl (fun h_5 => ?_) (fun h_5 => absurd (by decide) h_5)
  refine zk_iload_n C kd_Mo_number_67 rfl 0 rfl rfl ?_
  refine zk_if_ge (tgt := 75) C kd_Mo_number_68 (by decide) rfl (fun h_6 => absurd h_6 (by decide)) (fun h_6 => ?_)
  refine zk_iconst (v := (-1)) C kd_Mo_number_71 (by decide) rfl ?_
  refine zk_goto (tgt := 81) C kd_Mo_number_72 (by decide) ?_
  refine zk_istore_n (lv' := [(2, _), (1, _), (0, _)]) C kd_Mo_number_81 rfl (by decide) rfl rfl ?_
  refine zk_goto (tgt := 4) C kd_Mo_number_82 (by decide) ?_
  refine zk_iload_n C kd_Mo_number_4 rfl 0 rfl rfl ?_
  refine zk_if_lt (tgt := 85) C kd_Mo_number_5 (by decide) rfl (fun h_7 => ?_) (fun h_7 => absurd (by decide) h_7)
  exact zk_vret C hR kd_Mo_number_85 rfl rfl ⟨rfl, rfl⟩
set_option maxHeartbeats 4000000 in
set_option maxRecDepth 100000 in
theorem zq_c_readText1 {l : Launch} {D : va_G} {sz0 : Nat} {S : zs_T} {P : ze_T} (h : zs_H) (e_68_1 : h.1 68 1 = 0) : zk_Sp (zs_G S l D sz0) (ze_E P) km_Mo_readText { frames := 3, cells := 0, slots := 0, locals := 64 } [.ref (S.1 68)] (zs_W S h) (fun v w => (v = some (.int 0) ∧ w = zs_W S (zs_uM (zs_uM (zs_uF (zs_uM (zs_uM (zs_uM (zs_uM (zs_uM (zs_uM (zs_uM (zs_uF (zs_uF (zs_uF (zs_uF (zs_uF (zs_uF (zs_uF (zs_uF (zs_uF (zs_uF (zs_uF (zs_uF (zs_uF (zs_uF h 68 10 0) 68 11 (-1)) 68 14 0) 68 3 0) 68 25 0) 68 13 0) 68 12 0) 68 8 0) 68 22 0) 68 7 0) 68 6 0) 68 7 0) 68 8 0) 68 14 1) 72 ((0 : Int32)).toNatClampNeg 0) 73 ((0 : Int32)).toNatClampNeg 0) 74 ((0 : Int32)).toNatClampNeg 0) 75 ((0 : Int32)).toNatClampNeg (-1)) 76 ((0 : Int32)).toNatClampNeg (-1)) 77 ((0 : Int32)).toNatClampNeg (-1)) 78 ((0 : Int32)).toNatClampNeg (-1)) 68 22 1) 79 ((0 : Int32)).toNatClampNeg 0) 80 ((0 : Int32)).toNatClampNeg 0))) := by
  refine zk_met ku_Mo_readText (Nat.le_of_ble_eq_true rfl) (ze_Em P) ?_
  intro X C hR
  refine zk_lvs (lv' := [(0, .ref (S.1 68))]) [0] rfl ?_
  refine zk_aload_n C kd_Mo_readText_0 rfl 0 rfl rfl ?_
  refine zk_iconst (v := 0) C kd_Mo_readText_1 (by decide) rfl ?_
  refine zs_put (ty := .int) C 68 10 0 rfl rfl rfl rfl ki_Mo ky_Mo ko_Mo kn_Mo (by decide) kw1693 rfl rfl rfl rfl (by decide) kd_Mo_readText_2 rfl ?_
  refine zk_aload_n C kd_Mo_readText_5 rfl 0 rfl rfl ?_
  refine zk_iconst (v := (-1)) C kd_Mo_readText_6 (by decide) rfl ?_
  refine zs_put (ty := .int) C 68 11 (-1) rfl rfl rfl rfl ki_Mo ky_Mo ko_Mo kn_Mo (by decide) kw1694 rfl rfl rfl rfl (by decide) kd_Mo_readText_7 rfl ?_
  refine zk_aload_n C kd_Mo_readText_10 rfl 0 rfl rfl ?_
  refine zk_iconst (v := 0) C kd_Mo_readText_11 (by decide) rfl ?_
  refine zs_put (ty := .int) C 68 14 0 rfl rfl rfl rfl ki_Mo ky_Mo ko_Mo kn_Mo (by decide) kw1697 rfl rfl rfl rfl (by decide) kd_Mo_readText_12 rfl ?_
  refine zk_aload_n C kd_Mo_readText_15 rfl 0 rfl rfl ?_
  refine zk_iconst (v := 0) C kd_Mo_readText_16 (by decide) rfl ?_
  refine zs_put (ty := .int) C 68 3 0 rfl rfl rfl rfl ki_Mo ky_Mo ko_Mo kn_Mo (by decide) kw1686 rfl rfl rfl rfl (by decide) kd_Mo_readText_17 rfl ?_
  refine zk_aload_n C kd_Mo_readText_20 rfl 0 rfl rfl ?_
  refine zk_iconst (v := 0) C kd_Mo_readText_21 (by decide) rfl ?_
  refine zs_put (ty := .int) C 68 25 0 rfl rfl rfl rfl ki_Mo ky_Mo ko_Mo kn_Mo (by decide) kw1708 rfl rfl rfl rfl (by decide) kd_Mo_readText_22 rfl ?_
  refine zk_aload_n C kd_Mo_readText_25 rfl 0 rfl rfl ?_
  refine zk_iconst (v := 0) C kd_Mo_readText_26 (by decide) rfl ?_
  refine zs_put (ty := .int) C 68 13 0 rfl rfl rfl rfl ki_Mo ky_Mo ko_Mo kn_Mo (by decide) kw1696 rfl rfl rfl rfl (by decide) kd_Mo_readText_27 rfl ?_
  refine zk_aload_n C kd_Mo_readText_30 rfl 0 rfl rfl ?_
  refine zk_iconst (v := 0) C kd_Mo_readText_31 (by decide) rfl ?_
  refine zs_put (ty := .int) C 68 12 0 rfl rfl rfl rfl ki_Mo ky_Mo ko_Mo kn_Mo (by decide) kw1695 rfl rfl rfl rfl (by decide) kd_Mo_readText_32 rfl ?_
  refine zk_aload_n C kd_Mo_readText_35 rfl 0 rfl rfl ?_
  refine zk_iconst (v := 0) C kd_Mo_readText_36 (by decide) rfl ?_
  refine zs_put (ty := .int) C 68 8 0 rfl rfl rfl rfl ki_Mo ky_Mo ko_Mo kn_Mo (by decide) kw1691 rfl rfl rfl rfl (by decide) kd_Mo_readText_37 rfl ?_
  refine zk_aload_n C kd_Mo_readText_40 rfl 0 rfl rfl ?_
  refine zk_iconst (v := 0) C kd_Mo_readText_41 (by decide) rfl ?_
  refine zs_put (ty := .boolean) C 68 22 0 rfl rfl rfl rfl ki_Mo ky_Mo ko_Mo kn_Mo (by decide) kw1705 rfl rfl rfl rfl (by decide) kd_Mo_readText_42 rfl ?_
  refine zk_aload_n C kd_Mo_readText_45 rfl 0 rfl rfl ?_
  refine zs_callV (k := 68) (rn := { frames := 2, cells := 0, slots := 0, locals := 43 }) (As := []) (rest := []) C (zq_c_next1 (zs_uF (zs_uF (zs_uF (zs_uF (zs_uF (zs_uF (zs_uF (zs_uF (zs_uF h 68 10 0) 68 11 (-1)) 68 14 0) 68 3 0) 68 25 0) 68 13 0) 68 12 0) 68 8 0) 68 22 0) e_68_1 rfl) ku_Mo_next kw2001 kv_Mo_next rfl ⟨by decide, by decide⟩ ⟨by decide, by decide⟩ rfl rfl rfl (Nat.le_of_ble_eq_true rfl) kd_Mo_readText_46 rfl (c1 := 0) (s1 := 0) rfl rfl (fun v w hp => ?_)
  obtain ⟨rfl, rfl⟩ := hp
  refine zk_stk (r' := []) rfl ?_
  refine zk_aload_n C kd_Mo_readText_49 rfl 0 rfl rfl ?_
  refine zk_iconst (v := 0) C kd_Mo_readText_50 (by decide) rfl ?_
  refine zk_iconst (v := 0) C kd_Mo_readText_51 (by decide) rfl ?_
  refine zk_iconst (v := 0) C kd_Mo_readText_52 (by decide) rfl ?_
  refine zs_callV (k := 68) (rn := { frames := 0, cells := 0, slots := 0, locals := 0 }) (As := [.int 0, .int 0, .int 0]) (rest := []) C (zq_c_node1 (zs_uF (zs_uF (zs_uF (zs_uF (zs_uF (zs_uF (zs_uF (zs_uF (zs_uF (zs_uF (zs_uF (zs_uF (zs_uF h 68 10 0) 68 11 (-1)) 68 14 0) 68 3 0) 68 25 0) 68 13 0) 68 12 0) 68 8 0) 68 22 0) 68 7 0) 68 6 0) 68 7 0) 68 8 0) rfl) ku_Mo_node kw2085 kv_Mo_node rfl ⟨by decide, by decide⟩ ⟨by decide, by decide⟩ rfl rfl rfl (Nat.le_of_ble_eq_true rfl) kd_Mo_readText_53 rfl (c1 := 0) (s1 := 0) rfl rfl (fun v w hp => ?_)
  obtain ⟨rfl, rfl⟩ := hp
  refine zk_stk (r' := [.int 0]) rfl ?_
  refine zk_istore_n (lv' := [(1, _), (0, _)]) C kd_Mo_readText_56 rfl (by decide) rfl rfl ?_
  refine zk_aload_n C kd_Mo_readText_57 rfl 1 rfl rfl ?_
  refine zs_get (v := .int 0) C 68 10 rfl rfl rfl rfl ki_Mo (by decide) kw1693 kd_Mo_readText_58 rfl ?_
  refine zk_if_ne (tgt := 79) C kd_Mo_readText_61 (by decide) rfl (fun h_1 => absurd (by decide) h_1) (fun h_1 => ?_)
  refine zk_aload_n C kd_Mo_readText_64 rfl 1 rfl rfl ?_
  refine zs_get (v := .int 0) C 68 6 rfl rfl rfl rfl ki_Mo (by decide) kw1689 kd_Mo_readText_65 rfl ?_
  refine zk_if_eq (tgt := 79) C kd_Mo_readText_68 (by decide) rfl (fun h_2 => ?_) (fun h_2 => absurd (by decide) h_2)
  refine zk_aload_n C kd_Mo_readText_79 rfl 1 rfl rfl ?_
  refine zk_aload_n C kd_Mo_readText_80 rfl 1 rfl rfl ?_
  refine zs_get (v := .int 0) C 68 10 rfl rfl rfl rfl ki_Mo (by decide) kw1693 kd_Mo_readText_81 rfl ?_
  refine zk_if_ne (tgt := 91) C kd_Mo_readText_84 (by decide) rfl (fun h_3 => absurd (by decide) h_3) (fun h_3 => ?_)
  refine zk_iconst (v := 1) C kd_Mo_readText_87 (by decide) rfl ?_
  refine zk_goto (tgt := 92) C kd_Mo_readText_88 (by decide) ?_
  refine zs_put (ty := .boolean) C 68 22 1 rfl rfl rfl rfl ki_Mo ky_Mo ko_Mo kn_Mo (by decide) kw1705 rfl rfl rfl rfl (by decide) kd_Mo_readText_92 rfl ?_
  refine zk_aload_n C kd_Mo_readText_95 rfl 1 rfl rfl ?_
  refine zs_get (v := .int 1) C 68 22 rfl rfl rfl rfl ki_Mo (by decide) kw1705 kd_Mo_readText_96 rfl ?_
  refine zk_if_eq (tgt := 109) C kd_Mo_readText_99 (by decide) rfl (fun h_4 => absurd h_4 (by decide)) (fun h_4 => ?_)
  refine zk_aload_n C kd_Mo_readText_102 rfl 1 rfl rfl ?_
  refine zs_callV (k := 68) (rn := { frames := 0, cells := 0, slots := 0, locals := 0 }) (As := []) (rest := []) C (zq_c_number1 (zs_uF (zs_uM (zs_uM (zs_uM (zs_uM (zs_uM (zs_uM (zs_uM (zs_uF (zs_uF (zs_uF (zs_uF (zs_uF (zs_uF (zs_uF (zs_uF (zs_uF (zs_uF (zs_uF (zs_uF (zs_uF (zs_uF h 68 10 0) 68 11 (-1)) 68 14 0) 68 3 0) 68 25 0) 68 13 0) 68 12 0) 68 8 0) 68 22 0) 68 7 0) 68 6 0) 68 7 0) 68 8 0) 68 14 1) 72 ((0 : Int32)).toNatClampNeg 0) 73 ((0 : Int32)).toNatClampNeg 0) 74 ((0 : Int32)).toNatClampNeg 0) 75 ((0 : Int32)).toNatClampNeg (-1)) 76 ((0 : Int32)).toNatClampNeg (-1)) 77 ((0 : Int32)).toNatClampNeg (-1)) 78 ((0 : Int32)).toNatClampNeg (-1)) 68 22 1) rfl rfl rfl) ku_Mo_number kw2244 kv_Mo_number rfl ⟨by decide, by decide⟩ ⟨by decide, by decide⟩ rfl rfl rfl (Nat.le_of_ble_eq_true rfl) kd_Mo_readText_103 rfl (c1 := 0) (s1 := 0) rfl rfl (fun v w hp => ?_)
  obtain ⟨rfl, rfl⟩ := hp
  refine zk_stk (r' := []) rfl ?_
  refine zk_goto (tgt := 119) C kd_Mo_readText_106 (by decide) ?_
  refine zk_aload_n C kd_Mo_readText_119 rfl 1 rfl rfl ?_
  refine zs_get (v := .int 0) C 68 10 rfl rfl rfl rfl ki_Mo (by decide) kw1693 kd_Mo_readText_120 rfl ?_
  exact zk_iret C hR kd_Mo_readText_123 rfl rfl ⟨rfl, rfl⟩
set_option maxHeartbeats 4000000 in
set_option maxRecDepth 100000 in
theorem zq_c_breaks1 {l : Launch} {D : va_G} {sz0 : Nat} {S : zs_T} {P : ze_T} (h : zs_H) (e_68_29 : h.1 68 29 = 0) (m_73_0 : h.2.1 73 0 = 0) : zk_Sp (zs_G S l D sz0) (ze_E P) km_Mo_breaks { frames := 0, cells := 0, slots := 0, locals := 0 } [.ref (S.1 68), .int 10, .int 0] (zs_W S h) (fun v w => (v = none ∧ w = zs_W S (zs_uF (zs_uF h 68 29 10) 68 30 0))) := by
  refine zk_met ku_Mo_breaks (Nat.le_of_ble_eq_true rfl) (ze_Em P) ?_
  intro X C hR
  refine zk_lvs (lv' := [(0, .ref (S.1 68)), (1, .int 10), (2, .int 0)]) [0, 1, 2] rfl ?_
  refine zk_aload_n C kd_Mo_breaks_0 rfl 0 rfl rfl ?_
  refine zs_get (v := .int 0) C 68 29 rfl rfl (congrArg Value.int e_68_29) rfl ki_Mo (by decide) kw1712 kd_Mo_breaks_1 rfl ?_
  refine zk_if_ne (tgt := 22) C kd_Mo_breaks_4 (by decide) rfl (fun h_1 => absurd (by decide) h_1) (fun h_1 => ?_)
  refine zk_aload_n C kd_Mo_breaks_7 rfl 0 rfl rfl ?_
  refine zk_iload_n C kd_Mo_breaks_8 rfl 1 rfl rfl ?_
  refine zs_put (ty := .int) C 68 29 10 rfl rfl rfl rfl ki_Mo ky_Mo ko_Mo kn_Mo (by decide) kw1712 rfl rfl rfl rfl (by decide) kd_Mo_breaks_9 rfl ?_
  refine zk_aload_n C kd_Mo_breaks_12 rfl 0 rfl rfl ?_
  refine zk_aload_n C kd_Mo_breaks_13 rfl 0 rfl rfl ?_
  refine zs_get (v := .ref (S.1 73)) C 68 16 rfl rfl rfl rfl ki_Mo (by decide) kw1699 kd_Mo_breaks_14 rfl ?_
  refine zk_iload_n C kd_Mo_breaks_17 rfl 2 rfl rfl ?_
  refine zs_iald C 73 rfl (zp_dec rfl) kd_Mo_breaks_18 rfl ?_
  refine zk_stk (r' := [.int 0, .ref (S.1 68)]) (congrArg (fun z => Value.int z :: [.ref (S.1 68)]) m_73_0) ?_
  refine zs_put (ty := .int) C 68 30 0 rfl rfl rfl rfl ki_Mo ky_Mo ko_Mo kn_Mo (by decide) kw1713 rfl rfl rfl rfl (by decide) kd_Mo_breaks_19 rfl ?_
  exact zk_vret C hR kd_Mo_breaks_22 rfl rfl ⟨rfl, rfl⟩
set_option maxHeartbeats 4000000 in
set_option maxRecDepth 100000 in
theorem zq_c_rule1 {l : Launch} {D : va_G} {sz0 : Nat} {S : zs_T} {P : ze_T} (h : zs_H) (e_68_29 : h.1 68 29 = 0) (m_73_0 : h.2.1 73 0 = 0) : zk_Sp (zs_G S l D sz0) (ze_E P) km_Mo_rule { frames := 1, cells := 0, slots := 0, locals := 22 } [.ref (S.1 68), .int 1, .int 10, .int 0] (zs_W S h) (fun v w => (v = none ∧ w = zs_W S (zs_uF (zs_uF h 68 29 10) 68 30 0))) := by
  refine zk_met ku_Mo_rule (Nat.le_of_ble_eq_true rfl) (ze_Em P) ?_
  intro X C hR
  refine zk_lvs (lv' := [(0, .ref (S.1 68)), (1, .int 1), (2, .int 10), (3, .int 0)]) [0, 1, 2, 3] rfl ?_
  refine zk_iload_n C kd_Mo_rule_0 rfl 1 rfl rfl ?_
  refine zk_if_eq (tgt := 10) C kd_Mo_rule_1 (by decide) rfl (fun h_1 => absurd h_1 (by decide)) (fun h_1 => ?_)
  refine zk_aload_n C kd_Mo_rule_4 rfl 0 rfl rfl ?_
  refine zk_iload_n C kd_Mo_rule_5 rfl 2 rfl rfl ?_
  refine zk_iload_n C kd_Mo_rule_6 rfl 3 rfl rfl ?_
  refine zs_callV (k := 68) (rn := { frames := 0, cells := 0, slots := 0, locals := 0 }) (As := [.int 10, .int 0]) (rest := []) C (zq_c_breaks1 h e_68_29 m_73_0) ku_Mo_breaks kw2264 kv_Mo_breaks rfl ⟨by decide, by decide⟩ ⟨by decide, by decide⟩ rfl rfl rfl (Nat.le_of_ble_eq_true rfl) kd_Mo_rule_7 rfl (c1 := 0) (s1 := 0) rfl rfl (fun v w hp => ?_)
  obtain ⟨rfl, rfl⟩ := hp
  refine zk_stk (r' := []) rfl ?_
  exact zk_vret C hR kd_Mo_rule_10 rfl rfl ⟨rfl, rfl⟩
set_option maxHeartbeats 4000000 in
set_option maxRecDepth 100000 in
theorem zq_c_rule2 {l : Launch} {D : va_G} {sz0 : Nat} {S : zs_T} {P : ze_T} (h : zs_H) : zk_Sp (zs_G S l D sz0) (ze_E P) km_Mo_rule { frames := 0, cells := 0, slots := 0, locals := 0 } [.ref (S.1 68), .int 0, .int 42, .int 0] (zs_W S h) (fun v w => (v = none ∧ w = zs_W S h)) := by
  refine zk_met ku_Mo_rule (Nat.le_of_ble_eq_true rfl) (ze_Em P) ?_
  intro X C hR
  refine zk_lvs (lv' := [(0, .ref (S.1 68)), (1, .int 0), (2, .int 42), (3, .int 0)]) [0, 1, 2, 3] rfl ?_
  refine zk_iload_n C kd_Mo_rule_0 rfl 1 rfl rfl ?_
  refine zk_if_eq (tgt := 10) C kd_Mo_rule_1 (by decide) rfl (fun h_1 => ?_) (fun h_1 => absurd (by decide) h_1)
  exact zk_vret C hR kd_Mo_rule_10 rfl rfl ⟨rfl, rfl⟩
set_option maxHeartbeats 4000000 in
set_option maxRecDepth 100000 in
theorem zq_c_lookAtText1 {l : Launch} {D : va_G} {sz0 : Nat} {S : zs_T} {P : ze_T} (h : zs_H) (e_68_29 : h.1 68 29 = 0) (e_68_33 : h.1 68 33 = 0) (m_73_0 : h.2.1 73 0 = 0) : zk_Sp (zs_G S l D sz0) (ze_E P) km_Mo_lookAtText { frames := 2, cells := 0, slots := 0, locals := 45 } [.ref (S.1 68), .int 0] (zs_W S h) (fun v w => (v = none ∧ w = zs_W S (zs_uF (zs_uF (zs_uF h 68 29 10) 68 30 0) 68 55 0))) := by
  refine zk_met ku_Mo_lookAtText (Nat.le_of_ble_eq_true rfl) (ze_Em P) ?_
  intro X C hR
  refine zk_lvs (lv' := [(0, .ref (S.1 68)), (1, .int 0)]) [0, 1] rfl ?_
  refine zk_aload_n C kd_Mo_lookAtText_0 rfl 0 rfl rfl ?_
  refine zk_aload_n C kd_Mo_lookAtText_1 rfl 0 rfl rfl ?_
  refine zs_get (v := .int 0) C 68 33 rfl rfl (congrArg Value.int e_68_33) rfl ki_Mo (by decide) kw1716 kd_Mo_lookAtText_2 rfl ?_
  refine zk_if_eq (tgt := 23) C kd_Mo_lookAtText_5 (by decide) rfl (fun h_1 => ?_) (fun h_1 => absurd (by decide) h_1)
  refine zk_iconst (v := 1) C kd_Mo_lookAtText_23 (by decide) rfl ?_
  refine zk_goto (tgt := 28) C kd_Mo_lookAtText_24 (by decide) ?_
  refine zk_bipush (v := 10) C kd_Mo_lookAtText_28 (by decide) rfl ?_
  refine zk_iload_n C kd_Mo_lookAtText_30 rfl 1 rfl rfl ?_
  refine zs_callV (k := 68) (rn := { frames := 1, cells := 0, slots := 0, locals := 22 }) (As := [.int 1, .int 10, .int 0]) (rest := []) C (zq_c_rule1 h e_68_29 m_73_0) ku_Mo_rule kw2260 kv_Mo_rule rfl ⟨by decide, by decide⟩ ⟨by decide, by decide⟩ rfl rfl rfl (Nat.le_of_ble_eq_true rfl) kd_Mo_lookAtText_31 rfl (c1 := 0) (s1 := 0) rfl rfl (fun v w hp => ?_)
  obtain ⟨rfl, rfl⟩ := hp
  refine zk_stk (r' := []) rfl ?_
  refine zk_aload_n C kd_Mo_lookAtText_34 rfl 0 rfl rfl ?_
  refine zs_get (v := .int 10) C 68 29 rfl rfl rfl rfl ki_Mo (by decide) kw1712 kd_Mo_lookAtText_35 rfl ?_
  refine zk_if_ne (tgt := 55) C kd_Mo_lookAtText_38 (by decide) rfl (fun h_2 => ?_) (fun h_2 => absurd h_2 (by decide))
  refine zk_iconst (v := 0) C kd_Mo_lookAtText_55 (by decide) rfl ?_
  refine zk_istore_n (lv' := [(2, _), (0, _), (1, _)]) C kd_Mo_lookAtText_56 rfl (by decide) rfl rfl ?_
  refine zk_iconst (v := 0) C kd_Mo_lookAtText_57 (by decide) rfl ?_
  refine zk_istore_n (lv' := [(3, _), (2, _), (0, _), (1, _)]) C kd_Mo_lookAtText_58 rfl (by decide) rfl rfl ?_
  refine zk_iload_n C kd_Mo_lookAtText_59 rfl 0 rfl rfl ?_
  refine zk_aload_n C kd_Mo_lookAtText_60 rfl 2 rfl rfl ?_
  refine zs_get (v := .int 0) C 68 33 rfl rfl (congrArg Value.int e_68_33) rfl ki_Mo (by decide) kw1716 kd_Mo_lookAtText_61 rfl ?_
  refine zk_icmp_ge (tgt := 106) C kd_Mo_lookAtText_64 (by decide) rfl (fun h_3 => ?_) (fun h_3 => absurd (by decide) h_3)
  refine zk_aload_n C kd_Mo_lookAtText_106 rfl 2 rfl rfl ?_
  refine zk_iload_n C kd_Mo_lookAtText_107 rfl 1 rfl rfl ?_
  refine zk_sipush (v := 8192) C kd_Mo_lookAtText_108 (by decide) rfl ?_
  refine zk_icmp_le (tgt := 118) C kd_Mo_lookAtText_111 (by decide) rfl (fun h_4 => ?_) (fun h_4 => absurd (by decide) h_4)
  refine zk_iconst (v := 0) C kd_Mo_lookAtText_118 (by decide) rfl ?_
  refine zk_bipush (v := 42) C kd_Mo_lookAtText_119 (by decide) rfl ?_
  refine zk_iload_n C kd_Mo_lookAtText_121 rfl 3 rfl rfl ?_
  refine zs_callV (k := 68) (rn := { frames := 0, cells := 0, slots := 0, locals := 0 }) (As := [.int 0, .int 42, .int 0]) (rest := []) C (zq_c_rule2 (zs_uF (zs_uF h 68 29 10) 68 30 0)) ku_Mo_rule kw2260 kv_Mo_rule rfl ⟨by decide, by decide⟩ ⟨by decide, by decide⟩ rfl rfl rfl (Nat.le_of_ble_eq_true rfl) kd_Mo_lookAtText_122 rfl (c1 := 0) (s1 := 0) rfl rfl (fun v w hp => ?_)
  obtain ⟨rfl, rfl⟩ := hp
  refine zk_stk (r' := []) rfl ?_
  refine zk_aload_n C kd_Mo_lookAtText_125 rfl 2 rfl rfl ?_
  refine zs_get (v := .int 0) C 68 33 rfl rfl (congrArg Value.int e_68_33) rfl ki_Mo (by decide) kw1716 kd_Mo_lookAtText_126 rfl ?_
  refine zk_if_le (tgt := 144) C kd_Mo_lookAtText_129 (by decide) rfl (fun h_5 => ?_) (fun h_5 => absurd (by decide) h_5)
  refine zk_aload_n C kd_Mo_lookAtText_144 rfl 2 rfl rfl ?_
  refine zk_iload_n C kd_Mo_lookAtText_145 rfl 1 rfl rfl ?_
  refine zs_put (ty := .int) C 68 55 0 rfl rfl rfl rfl ki_Mo ky_Mo ko_Mo kn_Mo (by decide) kw1738 rfl rfl rfl rfl (by decide) kd_Mo_lookAtText_146 rfl ?_
  exact zk_vret C hR kd_Mo_lookAtText_149 rfl rfl ⟨rfl, rfl⟩
set_option maxHeartbeats 4000000 in
set_option maxRecDepth 100000 in
theorem zq_c_lookAtBlocks1 {l : Launch} {D : va_G} {sz0 : Nat} {S : zs_T} {P : ze_T} (h : zs_H) (e_68_29 : h.1 68 29 = 0) (e_68_33 : h.1 68 33 = 0) (m_72_0 : h.2.1 72 0 = 0) (m_73_0 : h.2.1 73 0 = 0) : zk_Sp (zs_G S l D sz0) (ze_E P) km_Mo_lookAtBlocks { frames := 3, cells := 0, slots := 0, locals := 68 } [.ref (S.1 68), .int 0] (zs_W S h) (fun v w => (v = none ∧ w = zs_W S (zs_uF (zs_uF (zs_uF h 68 29 10) 68 30 0) 68 55 0))) := by
  refine zk_met ku_Mo_lookAtBlocks (Nat.le_of_ble_eq_true rfl) (ze_Em P) ?_
  intro X C hR
  refine zk_lvs (lv' := [(0, .ref (S.1 68)), (1, .int 0)]) [0, 1] rfl ?_
  refine zk_aload_n C kd_Mo_lookAtBlocks_0 rfl 0 rfl rfl ?_
  refine zs_get (v := .ref (S.1 72)) C 68 15 rfl rfl rfl rfl ki_Mo (by decide) kw1698 kd_Mo_lookAtBlocks_1 rfl ?_
  refine zk_iload_n C kd_Mo_lookAtBlocks_4 rfl 1 rfl rfl ?_
  refine zs_iald C 72 rfl (zp_dec rfl) kd_Mo_lookAtBlocks_5 rfl ?_
  refine zk_stk (r' := [.int 0]) (congrArg (fun z => Value.int z :: []) m_72_0) ?_
  refine zk_tableIn (tgt := 60) C kd_Mo_lookAtBlocks_6 (by decide) (by decide) rfl (by decide) ?_
  refine zk_aload_n C kd_Mo_lookAtBlocks_60 rfl 0 rfl rfl ?_
  refine zk_iload_n C kd_Mo_lookAtBlocks_61 rfl 1 rfl rfl ?_
  refine zs_callV (k := 68) (rn := { frames := 2, cells := 0, slots := 0, locals := 45 }) (As := [.int 0]) (rest := []) C (zq_c_lookAtText1 h e_68_29 e_68_33 m_73_0) ku_Mo_lookAtText kw2294 kv_Mo_lookAtText rfl ⟨by decide, by decide⟩ ⟨by decide, by decide⟩ rfl rfl rfl (Nat.le_of_ble_eq_true rfl) kd_Mo_lookAtBlocks_62 rfl (c1 := 0) (s1 := 0) rfl rfl (fun v w hp => ?_)
  obtain ⟨rfl, rfl⟩ := hp
  refine zk_stk (r' := []) rfl ?_
  refine zk_goto (tgt := 341) C kd_Mo_lookAtBlocks_65 (by decide) ?_
  exact zk_vret C hR kd_Mo_lookAtBlocks_341 rfl rfl ⟨rfl, rfl⟩
set_option maxHeartbeats 4000000 in
set_option maxRecDepth 100000 in
theorem zq_c_lookAlone1 {l : Launch} {D : va_G} {sz0 : Nat} {S : zs_T} {P : ze_T} (h : zs_H) (e_68_29 : h.1 68 29 = 0) (e_68_33 : h.1 68 33 = 0) (m_72_0 : h.2.1 72 0 = 0) (m_73_0 : h.2.1 73 0 = 0) (m_76_0 : h.2.1 76 0 = (-1)) : zk_Sp (zs_G S l D sz0) (ze_E P) km_Mo_lookAlone { frames := 4, cells := 0, slots := 0, locals := 90 } [.ref (S.1 68), .int 0] (zs_W S h) (fun v w => (v = none ∧ w = zs_W S (zs_uF (zs_uF (zs_uF h 68 29 10) 68 30 0) 68 55 0))) := by
  refine zk_met ku_Mo_lookAlone (Nat.le_of_ble_eq_true rfl) (ze_Em P) ?_
  intro X C hR
  refine zk_lvs (lv' := [(0, .ref (S.1 68)), (1, .int 0)]) [0, 1] rfl ?_
  refine zk_aload_n C kd_Mo_lookAlone_0 rfl 0 rfl rfl ?_
  refine zs_get (v := .ref (S.1 72)) C 68 15 rfl rfl rfl rfl ki_Mo (by decide) kw1698 kd_Mo_lookAlone_1 rfl ?_
  refine zk_iload_n C kd_Mo_lookAlone_4 rfl 1 rfl rfl ?_
  refine zs_iald C 72 rfl (zp_dec rfl) kd_Mo_lookAlone_5 rfl ?_
  refine zk_stk (r' := [.int 0]) (congrArg (fun z => Value.int z :: []) m_72_0) ?_
  refine zk_istore_n (lv' := [(2, _), (0, _), (1, _)]) C kd_Mo_lookAlone_6 rfl (by decide) rfl rfl ?_
  refine zk_iload_n C kd_Mo_lookAlone_7 rfl 0 rfl rfl ?_
  refine zk_if_le (tgt := 21) C kd_Mo_lookAlone_8 (by decide) rfl (fun h_1 => ?_) (fun h_1 => absurd (by decide) h_1)
  refine zk_aload_n C kd_Mo_lookAlone_21 rfl 1 rfl rfl ?_
  refine zs_get (v := .ref (S.1 76)) C 68 19 rfl rfl rfl rfl ki_Mo (by decide) kw1702 kd_Mo_lookAlone_22 rfl ?_
  refine zk_iload_n C kd_Mo_lookAlone_25 rfl 2 rfl rfl ?_
  refine zs_iald C 76 rfl (zp_dec rfl) kd_Mo_lookAlone_26 rfl ?_
  refine zk_stk (r' := [.int (-1)]) (congrArg (fun z => Value.int z :: []) m_76_0) ?_
  refine zk_istore_n (lv' := [(3, _), (2, _), (0, _), (1, _)]) C kd_Mo_lookAlone_27 rfl (by decide) rfl rfl ?_
  refine zk_iload_n C kd_Mo_lookAlone_28 rfl 0 rfl rfl ?_
  refine zk_if_lt (tgt := 54) C kd_Mo_lookAlone_29 (by decide) rfl (fun h_2 => ?_) (fun h_2 => absurd (by decide) h_2)
  refine zk_aload_n C kd_Mo_lookAlone_54 rfl 2 rfl rfl ?_
  refine zs_get (v := .int 0) C 68 29 rfl rfl (congrArg Value.int e_68_29) rfl ki_Mo (by decide) kw1712 kd_Mo_lookAlone_55 rfl ?_
  refine zk_if_ne (tgt := 108) C kd_Mo_lookAlone_58 (by decide) rfl (fun h_3 => absurd (by decide) h_3) (fun h_3 => ?_)
  refine zk_iload_n C kd_Mo_lookAlone_61 rfl 1 rfl rfl ?_
  refine zk_bipush (v := 11) C kd_Mo_lookAlone_62 (by decide) rfl ?_
  refine zk_icmp_ge (tgt := 75) C kd_Mo_lookAlone_64 (by decide) rfl (fun h_4 => absurd h_4 (by decide)) (fun h_4 => ?_)
  refine zk_aload_n C kd_Mo_lookAlone_67 rfl 2 rfl rfl ?_
  refine zk_iload_n C kd_Mo_lookAlone_68 rfl 3 rfl rfl ?_
  refine zs_callV (k := 68) (rn := { frames := 3, cells := 0, slots := 0, locals := 68 }) (As := [.int 0]) (rest := []) C (zq_c_lookAtBlocks1 h e_68_29 e_68_33 m_72_0 m_73_0) ku_Mo_lookAtBlocks kw2290 kv_Mo_lookAtBlocks rfl ⟨by decide, by decide⟩ ⟨by decide, by decide⟩ rfl rfl rfl (Nat.le_of_ble_eq_true rfl) kd_Mo_lookAlone_69 rfl (c1 := 0) (s1 := 0) rfl rfl (fun v w hp => ?_)
  obtain ⟨rfl, rfl⟩ := hp
  refine zk_stk (r' := []) rfl ?_
  refine zk_goto (tgt := 108) C kd_Mo_lookAlone_72 (by decide) ?_
  exact zk_vret C hR kd_Mo_lookAlone_108 rfl rfl ⟨rfl, rfl⟩
set_option maxHeartbeats 4000000 in
set_option maxRecDepth 100000 in
theorem zq_c_look1 {l : Launch} {D : va_G} {sz0 : Nat} {S : zs_T} {P : ze_T} (h : zs_H) (e_68_29 : h.1 68 29 = 0) (e_68_33 : h.1 68 33 = 0) (m_72_0 : h.2.1 72 0 = 0) (m_73_0 : h.2.1 73 0 = 0) (m_76_0 : h.2.1 76 0 = (-1)) : zk_Sp (zs_G S l D sz0) (ze_E P) km_Mo_look { frames := 5, cells := 0, slots := 0, locals := 113 } [.ref (S.1 68), .int 0] (zs_W S h) (fun v w => (v = none ∧ w = zs_W S (zs_uF (zs_uF (zs_uF h 68 29 10) 68 30 0) 68 55 0))) := by
  refine zk_met ku_Mo_look (Nat.le_of_ble_eq_true rfl) (ze_Em P) ?_
  intro X C hR
  refine zk_lvs (lv' := [(0, .ref (S.1 68)), (1, .int 0)]) [0, 1] rfl ?_
  refine zk_iload_n C kd_Mo_look_0 rfl 1 rfl rfl ?_
  refine zk_istore_n (lv' := [(2, _), (0, _), (1, _)]) C kd_Mo_look_1 rfl (by decide) rfl rfl ?_
  refine zk_aload_n C kd_Mo_look_2 rfl 1 rfl rfl ?_
  refine zs_get (v := .ref (S.1 72)) C 68 15 rfl rfl rfl rfl ki_Mo (by decide) kw1698 kd_Mo_look_3 rfl ?_
  refine zk_iload_n C kd_Mo_look_6 rfl 0 rfl rfl ?_
  refine zs_iald C 72 rfl (zp_dec rfl) kd_Mo_look_7 rfl ?_
  refine zk_stk (r' := [.int 0]) (congrArg (fun z => Value.int z :: []) m_72_0) ?_
  refine zk_bipush (v := 35) C kd_Mo_look_8 (by decide) rfl ?_
  refine zk_icmp_ne (tgt := 23) C kd_Mo_look_10 (by decide) rfl (fun h_1 => ?_) (fun h_1 => absurd h_1 (by decide))
  refine zk_aload_n C kd_Mo_look_23 rfl 1 rfl rfl ?_
  refine zk_iload_n C kd_Mo_look_24 rfl 0 rfl rfl ?_
  refine zs_callV (k := 68) (rn := { frames := 4, cells := 0, slots := 0, locals := 90 }) (As := [.int 0]) (rest := []) C (zq_c_lookAlone1 h e_68_29 e_68_33 m_72_0 m_73_0 m_76_0) ku_Mo_lookAlone kw2252 kv_Mo_lookAlone rfl ⟨by decide, by decide⟩ ⟨by decide, by decide⟩ rfl rfl rfl (Nat.le_of_ble_eq_true rfl) kd_Mo_look_25 rfl (c1 := 0) (s1 := 0) rfl rfl (fun v w hp => ?_)
  obtain ⟨rfl, rfl⟩ := hp
  refine zk_stk (r' := []) rfl ?_
  refine zk_iload_n C kd_Mo_look_28 rfl 0 rfl rfl ?_
  refine zk_iload_n C kd_Mo_look_29 rfl 2 rfl rfl ?_
  refine zk_icmp_eq (tgt := 72) C kd_Mo_look_30 (by decide) rfl (fun h_2 => ?_) (fun h_2 => absurd (by decide) h_2)
  exact zk_vret C hR kd_Mo_look_72 rfl rfl ⟨rfl, rfl⟩
set_option maxHeartbeats 4000000 in
set_option maxRecDepth 100000 in
theorem zq_c_judge1 {l : Launch} {D : va_G} {sz0 : Nat} {S : zs_T} {P : ze_T} (h : zs_H) (e_68_1 : h.1 68 1 = 0) : zk_Sp (zs_G S l D sz0) (ze_E P) km_Mo_judge { frames := 6, cells := 0, slots := 0, locals := 135 } [.ref (S.1 68)] (zs_W S h) (fun v w => (v = some (.int 10) ∧ w = zs_W S (zs_uF (zs_uF (zs_uF (zs_uF (zs_uF (zs_uM (zs_uM (zs_uM (zs_uF (zs_uF (zs_uF (zs_uF (zs_uF (zs_uF (zs_uM (zs_uM (zs_uF (zs_uM (zs_uM (zs_uM (zs_uM (zs_uM (zs_uM (zs_uM (zs_uF (zs_uF (zs_uF (zs_uF (zs_uF (zs_uF (zs_uF (zs_uF (zs_uF (zs_uF (zs_uF (zs_uF (zs_uF (zs_uF h 68 10 0) 68 11 (-1)) 68 14 0) 68 3 0) 68 25 0) 68 13 0) 68 12 0) 68 8 0) 68 22 0) 68 7 0) 68 6 0) 68 7 0) 68 8 0) 68 14 1) 72 ((0 : Int32)).toNatClampNeg 0) 73 ((0 : Int32)).toNatClampNeg 0) 74 ((0 : Int32)).toNatClampNeg 0) 75 ((0 : Int32)).toNatClampNeg (-1)) 76 ((0 : Int32)).toNatClampNeg (-1)) 77 ((0 : Int32)).toNatClampNeg (-1)) 78 ((0 : Int32)).toNatClampNeg (-1)) 68 22 1) 79 ((0 : Int32)).toNatClampNeg 0) 80 ((0 : Int32)).toNatClampNeg 0) 68 29 0) 68 30 (-1)) 68 33 0) 68 41 0) 68 31 0) 68 32 0) 100 ((0 : Int32)).toNatClampNeg (-1)) 101 ((0 : Int32)).toNatClampNeg (-1)) 102 ((0 : Int32)).toNatClampNeg (-1)) 68 32 1) 68 29 10) 68 30 0) 68 55 0) 68 31 0))) := by
  refine zk_met ku_Mo_judge (Nat.le_of_ble_eq_true rfl) (ze_Em P) ?_
  intro X C hR
  refine zk_lvs (lv' := [(0, .ref (S.1 68))]) [0] rfl ?_
  refine zk_aload_n C kd_Mo_judge_0 rfl 0 rfl rfl ?_
  refine zk_aload_n C kd_Mo_judge_1 rfl 0 rfl rfl ?_
  refine zs_callV (k := 68) (rn := { frames := 3, cells := 0, slots := 0, locals := 64 }) (As := []) (rest := [.ref (S.1 68)]) C (zq_c_readText1 h e_68_1) ku_Mo_readText kw1997 kv_Mo_readText rfl ⟨by decide, by decide⟩ ⟨by decide, by decide⟩ rfl rfl rfl (Nat.le_of_ble_eq_true rfl) kd_Mo_judge_2 rfl (c1 := 0) (s1 := 0) rfl rfl (fun v w hp => ?_)
  obtain ⟨rfl, rfl⟩ := hp
  refine zk_stk (r' := [.int 0, .ref (S.1 68)]) rfl ?_
  refine zs_put (ty := .int) C 68 29 0 rfl rfl rfl rfl ki_Mo ky_Mo ko_Mo kn_Mo (by decide) kw1712 rfl rfl rfl rfl (by decide) kd_Mo_judge_5 rfl ?_
  refine zk_aload_n C kd_Mo_judge_8 rfl 0 rfl rfl ?_
  refine zk_aload_n C kd_Mo_judge_9 rfl 0 rfl rfl ?_
  refine zs_get (v := .int (-1)) C 68 11 rfl rfl rfl rfl ki_Mo (by decide) kw1694 kd_Mo_judge_10 rfl ?_
  refine zs_put (ty := .int) C 68 30 (-1) rfl rfl rfl rfl ki_Mo ky_Mo ko_Mo kn_Mo (by decide) kw1713 rfl rfl rfl rfl (by decide) kd_Mo_judge_13 rfl ?_
  refine zk_aload_n C kd_Mo_judge_16 rfl 0 rfl rfl ?_
  refine zk_iconst (v := 0) C kd_Mo_judge_17 (by decide) rfl ?_
  refine zs_put (ty := .int) C 68 33 0 rfl rfl rfl rfl ki_Mo ky_Mo ko_Mo kn_Mo (by decide) kw1716 rfl rfl rfl rfl (by decide) kd_Mo_judge_18 rfl ?_
  refine zk_aload_n C kd_Mo_judge_21 rfl 0 rfl rfl ?_
  refine zk_iconst (v := 0) C kd_Mo_judge_22 (by decide) rfl ?_
  refine zs_put (ty := .int) C 68 41 0 rfl rfl rfl rfl ki_Mo ky_Mo ko_Mo kn_Mo (by decide) kw1724 rfl rfl rfl rfl (by decide) kd_Mo_judge_23 rfl ?_
  refine zk_aload_n C kd_Mo_judge_26 rfl 0 rfl rfl ?_
  refine zk_iconst (v := 0) C kd_Mo_judge_27 (by decide) rfl ?_
  refine zs_put (ty := .boolean) C 68 31 0 rfl rfl rfl rfl ki_Mo ky_Mo ko_Mo kn_Mo (by decide) kw1714 rfl rfl rfl rfl (by decide) kd_Mo_judge_28 rfl ?_
  refine zk_aload_n C kd_Mo_judge_31 rfl 0 rfl rfl ?_
  refine zs_get (v := .int 0) C 68 29 rfl rfl rfl rfl ki_Mo (by decide) kw1712 kd_Mo_judge_32 rfl ?_
  refine zk_if_ne (tgt := 128) C kd_Mo_judge_35 (by decide) rfl (fun h_1 => absurd (by decide) h_1) (fun h_1 => ?_)
  refine zk_aload_n C kd_Mo_judge_38 rfl 0 rfl rfl ?_
  refine zk_iconst (v := 0) C kd_Mo_judge_39 (by decide) rfl ?_
  refine zs_put (ty := .int) C 68 32 0 rfl rfl rfl rfl ki_Mo ky_Mo ko_Mo kn_Mo (by decide) kw1715 rfl rfl rfl rfl (by decide) kd_Mo_judge_40 rfl ?_
  refine zk_iconst (v := 0) C kd_Mo_judge_43 (by decide) rfl ?_
  refine zk_istore_n (lv' := [(1, _), (0, _)]) C kd_Mo_judge_44 rfl (by decide) rfl rfl ?_
  refine zk_iload_n C kd_Mo_judge_45 rfl 0 rfl rfl ?_
  refine zk_aload_n C kd_Mo_judge_46 rfl 1 rfl rfl ?_
  refine zs_get (v := .int 1) C 68 14 rfl rfl rfl rfl ki_Mo (by decide) kw1697 kd_Mo_judge_47 rfl ?_
  refine zk_icmp_ge (tgt := 107) C kd_Mo_judge_50 (by decide) rfl (fun h_2 => absurd h_2 (by decide)) (fun h_2 => ?_)
  refine zk_aload_n C kd_Mo_judge_53 rfl 1 rfl rfl ?_
  refine zs_get (v := .ref (S.1 100)) C 68 51 rfl rfl rfl rfl ki_Mo (by decide) kw1734 kd_Mo_judge_54 rfl ?_
  refine zk_iload_n C kd_Mo_judge_57 rfl 0 rfl rfl ?_
  refine zk_iconst (v := (-1)) C kd_Mo_judge_58 (by decide) rfl ?_
  refine zs_iast C 100 rfl (zp_dec rfl) kd_Mo_judge_59 rfl ?_
  refine zk_aload_n C kd_Mo_judge_60 rfl 1 rfl rfl ?_
  refine zs_get (v := .ref (S.1 101)) C 68 52 rfl rfl rfl rfl ki_Mo (by decide) kw1735 kd_Mo_judge_61 rfl ?_
  refine zk_iload_n C kd_Mo_judge_64 rfl 0 rfl rfl ?_
  refine zk_iconst (v := (-1)) C kd_Mo_judge_65 (by decide) rfl ?_
  refine zs_iast C 101 rfl (zp_dec rfl) kd_Mo_judge_66 rfl ?_
  refine zk_aload_n C kd_Mo_judge_67 rfl 1 rfl rfl ?_
  refine zs_get (v := .ref (S.1 102)) C 68 53 rfl rfl rfl rfl ki_Mo (by decide) kw1736 kd_Mo_judge_68 rfl ?_
  refine zk_iload_n C kd_Mo_judge_71 rfl 0 rfl rfl ?_
  refine zk_iconst (v := (-1)) C kd_Mo_judge_72 (by decide) rfl ?_
  refine zs_iast C 102 rfl (zp_dec rfl) kd_Mo_judge_73 rfl ?_
  refine zk_aload_n C kd_Mo_judge_74 rfl 1 rfl rfl ?_
  refine zk_dup C kd_Mo_judge_75 rfl rfl ?_
  refine zs_get (v := .int 0) C 68 32 rfl rfl rfl rfl ki_Mo (by decide) kw1715 kd_Mo_judge_76 rfl ?_
  refine zk_iload_n C kd_Mo_judge_79 rfl 0 rfl rfl ?_
  refine zk_if_eq (tgt := 92) C kd_Mo_judge_80 (by decide) rfl (fun h_3 => ?_) (fun h_3 => absurd (by decide) h_3)
  refine zk_iconst (v := 1) C kd_Mo_judge_92 (by decide) rfl ?_
  refine zk_goto (tgt := 97) C kd_Mo_judge_93 (by decide) ?_
  refine zk_iadd C kd_Mo_judge_97 rfl ?_
  refine zk_stk (r' := [.int 1, .ref (S.1 68)]) (by rw [show (0 : Int32) + 1 = 1 by decide]) ?_
  refine zs_put (ty := .int) C 68 32 1 rfl rfl rfl rfl ki_Mo ky_Mo ko_Mo kn_Mo (by decide) kw1715 rfl rfl rfl rfl (by decide) kd_Mo_judge_98 rfl ?_
  refine zk_iinc (v := 1) (lv' := [(1, _), (0, _)]) C kd_Mo_judge_101 0 rfl (by decide) (by decide) rfl rfl ?_
  refine zk_goto (tgt := 45) C kd_Mo_judge_104 (by decide) ?_
  refine zk_iload_n C kd_Mo_judge_45 rfl 0 rfl rfl ?_
  refine zk_aload_n C kd_Mo_judge_46 rfl 1 rfl rfl ?_
  refine zs_get (v := .int 1) C 68 14 rfl rfl rfl rfl ki_Mo (by decide) kw1697 kd_Mo_judge_47 rfl ?_
  refine zk_icmp_ge (tgt := 107) C kd_Mo_judge_50 (by decide) rfl (fun h_4 => ?_) (fun h_4 => absurd (by decide) h_4)
  refine zk_aload_n C kd_Mo_judge_107 rfl 1 rfl rfl ?_
  refine zk_iconst (v := 0) C kd_Mo_judge_108 (by decide) rfl ?_
  refine zs_callV (k := 68) (rn := { frames := 5, cells := 0, slots := 0, locals := 113 }) (As := [.int 0]) (rest := []) C (zq_c_look1 (zs_uF (zs_uM (zs_uM (zs_uM (zs_uF (zs_uF (zs_uF (zs_uF (zs_uF (zs_uF (zs_uM (zs_uM (zs_uF (zs_uM (zs_uM (zs_uM (zs_uM (zs_uM (zs_uM (zs_uM (zs_uF (zs_uF (zs_uF (zs_uF (zs_uF (zs_uF (zs_uF (zs_uF (zs_uF (zs_uF (zs_uF (zs_uF (zs_uF (zs_uF h 68 10 0) 68 11 (-1)) 68 14 0) 68 3 0) 68 25 0) 68 13 0) 68 12 0) 68 8 0) 68 22 0) 68 7 0) 68 6 0) 68 7 0) 68 8 0) 68 14 1) 72 ((0 : Int32)).toNatClampNeg 0) 73 ((0 : Int32)).toNatClampNeg 0) 74 ((0 : Int32)).toNatClampNeg 0) 75 ((0 : Int32)).toNatClampNeg (-1)) 76 ((0 : Int32)).toNatClampNeg (-1)) 77 ((0 : Int32)).toNatClampNeg (-1)) 78 ((0 : Int32)).toNatClampNeg (-1)) 68 22 1) 79 ((0 : Int32)).toNatClampNeg 0) 80 ((0 : Int32)).toNatClampNeg 0) 68 29 0) 68 30 (-1)) 68 33 0) 68 41 0) 68 31 0) 68 32 0) 100 ((0 : Int32)).toNatClampNeg (-1)) 101 ((0 : Int32)).toNatClampNeg (-1)) 102 ((0 : Int32)).toNatClampNeg (-1)) 68 32 1) rfl rfl rfl rfl rfl) ku_Mo_look kw2248 kv_Mo_look rfl ⟨by decide, by decide⟩ ⟨by decide, by decide⟩ rfl rfl rfl (Nat.le_of_ble_eq_true rfl) kd_Mo_judge_109 rfl (c1 := 0) (s1 := 0) rfl rfl (fun v w hp => ?_)
  obtain ⟨rfl, rfl⟩ := hp
  refine zk_stk (r' := []) rfl ?_
  refine zk_aload_n C kd_Mo_judge_112 rfl 1 rfl rfl ?_
  refine zk_aload_n C kd_Mo_judge_113 rfl 1 rfl rfl ?_
  refine zs_get (v := .int 10) C 68 29 rfl rfl rfl rfl ki_Mo (by decide) kw1712 kd_Mo_judge_114 rfl ?_
  refine zk_if_ne (tgt := 124) C kd_Mo_judge_117 (by decide) rfl (fun h_5 => ?_) (fun h_5 => absurd h_5 (by decide))
  refine zk_iconst (v := 0) C kd_Mo_judge_124 (by decide) rfl ?_
  refine zs_put (ty := .boolean) C 68 31 0 rfl rfl rfl rfl ki_Mo ky_Mo ko_Mo kn_Mo (by decide) kw1714 rfl rfl rfl rfl (by decide) kd_Mo_judge_125 rfl ?_
  refine zk_aload_n C kd_Mo_judge_128 rfl 1 rfl rfl ?_
  refine zs_get (v := .int 10) C 68 29 rfl rfl rfl rfl ki_Mo (by decide) kw1712 kd_Mo_judge_129 rfl ?_
  exact zk_iret C hR kd_Mo_judge_132 rfl rfl ⟨rfl, rfl⟩
set_option maxHeartbeats 4000000 in
set_option maxRecDepth 100000 in
theorem zq_c_load1 {l : Launch} {D : va_G} {sz0 : Nat} {S : zs_T} {P : ze_T} (h : zs_H) (e_68_78 : h.1 68 78 = 0) (x1 : Int32) : zk_Sp (zs_G S l D sz0) (ze_E P) km_Mo_load { frames := 7, cells := 0, slots := 0, locals := 156 } [.ref (S.1 68), .int x1] (zs_W S h) (fun v w => (x1 < 100 ∧ v = some (.int (-1)) ∧ w = zs_W S h) ∨ (¬ x1 < 100 ∧ x1 ≤ 100000 ∧ v = some (.int 10) ∧ w = zs_W S (zs_uF (zs_uF (zs_uF (zs_uF (zs_uF (zs_uF (zs_uF (zs_uF (zs_uM (zs_uM (zs_uM (zs_uF (zs_uF (zs_uF (zs_uF (zs_uF (zs_uF (zs_uM (zs_uM (zs_uF (zs_uM (zs_uM (zs_uM (zs_uM (zs_uM (zs_uM (zs_uM (zs_uF (zs_uF (zs_uF (zs_uF (zs_uF (zs_uF (zs_uF (zs_uF (zs_uF (zs_uF (zs_uF (zs_uF (zs_uF (zs_uF (zs_uF (zs_uF h 68 78 0) 68 1 0) 68 10 0) 68 11 (-1)) 68 14 0) 68 3 0) 68 25 0) 68 13 0) 68 12 0) 68 8 0) 68 22 0) 68 7 0) 68 6 0) 68 7 0) 68 8 0) 68 14 1) 72 ((0 : Int32)).toNatClampNeg 0) 73 ((0 : Int32)).toNatClampNeg 0) 74 ((0 : Int32)).toNatClampNeg 0) 75 ((0 : Int32)).toNatClampNeg (-1)) 76 ((0 : Int32)).toNatClampNeg (-1)) 77 ((0 : Int32)).toNatClampNeg (-1)) 78 ((0 : Int32)).toNatClampNeg (-1)) 68 22 1) 79 ((0 : Int32)).toNatClampNeg 0) 80 ((0 : Int32)).toNatClampNeg 0) 68 29 0) 68 30 (-1)) 68 33 0) 68 41 0) 68 31 0) 68 32 0) 100 ((0 : Int32)).toNatClampNeg (-1)) 101 ((0 : Int32)).toNatClampNeg (-1)) 102 ((0 : Int32)).toNatClampNeg (-1)) 68 32 1) 68 29 10) 68 30 0) 68 55 0) 68 31 0) 68 80 10) 68 81 0) 68 82 0)) ∨ (¬ x1 < 100 ∧ ¬ x1 ≤ 100000 ∧ v = some (.int (-1)) ∧ w = zs_W S h)) := by
  refine zk_met ku_Mo_load (Nat.le_of_ble_eq_true rfl) (ze_Em P) ?_
  intro X C hR
  refine zk_lvs (lv' := [(0, .ref (S.1 68)), (1, .int x1)]) [0, 1] rfl ?_
  refine zk_iload_n C kd_Mo_load_0 rfl 1 rfl rfl ?_
  refine zk_bipush (v := 100) C kd_Mo_load_1 (by decide) rfl ?_
  refine zk_icmp_lt (tgt := 13) C kd_Mo_load_3 (by decide) rfl (fun h_1 => ?_) (fun h_1 => ?_)
  · refine zk_iconst (v := (-1)) C kd_Mo_load_13 (by decide) rfl ?_
    exact zk_iret C hR kd_Mo_load_14 rfl rfl (Or.inl ⟨h_1, rfl, rfl⟩)
  · refine zk_iload_n C kd_Mo_load_6 rfl 1 rfl rfl ?_
    refine zk_ldcw (v := 100000) C kw1988 kd_Mo_load_7 rfl ?_
    refine zk_icmp_le (tgt := 15) C kd_Mo_load_10 (by decide) rfl (fun h_2 => ?_) (fun h_2 => ?_)
    · refine zk_aload_n C kd_Mo_load_15 rfl 0 rfl rfl ?_
      refine zk_aload_n C kd_Mo_load_16 rfl 0 rfl rfl ?_
      refine zs_callV (k := 68) (rn := { frames := 0, cells := 0, slots := 0, locals := 0 }) (As := []) (rest := [.ref (S.1 68)]) C (zq_c_useTape1 h e_68_78) ku_Mo_useTape kw1989 kv_Mo_useTape rfl ⟨by decide, by decide⟩ ⟨by decide, by decide⟩ rfl rfl rfl (Nat.le_of_ble_eq_true rfl) kd_Mo_load_17 rfl (c1 := 0) (s1 := 0) rfl rfl (fun v w hp => ?_)
      obtain ⟨rfl, rfl⟩ := hp
      refine zk_stk (r' := [.int 0, .ref (S.1 68)]) rfl ?_
      refine zs_put (ty := .int) C 68 1 0 rfl rfl rfl rfl ki_Mo ky_Mo ko_Mo kn_Mo (by decide) kw1684 rfl rfl rfl rfl (by decide) kd_Mo_load_20 rfl ?_
      refine zk_iconst (v := 0) C kd_Mo_load_23 (by decide) rfl ?_
      refine zk_istore_n (lv' := [(2, _), (0, _), (1, _)]) C kd_Mo_load_24 rfl (by decide) rfl rfl ?_
      refine zk_iload_n C kd_Mo_load_25 rfl 0 rfl rfl ?_
      refine zk_aload_n C kd_Mo_load_26 rfl 1 rfl rfl ?_
      refine zs_get (v := .int 0) C 68 1 rfl rfl rfl rfl ki_Mo (by decide) kw1684 kd_Mo_load_27 rfl ?_
      refine zk_icmp_ge (tgt := 51) C kd_Mo_load_30 (by decide) rfl (fun h_3 => ?_) (fun h_3 => absurd (by decide) h_3)
      refine zk_aload_n C kd_Mo_load_51 rfl 1 rfl rfl ?_
      refine zk_aload_n C kd_Mo_load_52 rfl 1 rfl rfl ?_
      refine zs_callV (k := 68) (rn := { frames := 6, cells := 0, slots := 0, locals := 135 }) (As := []) (rest := [.ref (S.1 68)]) C (zq_c_judge1 (zs_uF (zs_uF h 68 78 0) 68 1 0) rfl) ku_Mo_judge kw1993 kv_Mo_judge rfl ⟨by decide, by decide⟩ ⟨by decide, by decide⟩ rfl rfl rfl (Nat.le_of_ble_eq_true rfl) kd_Mo_load_53 rfl (c1 := 0) (s1 := 0) rfl rfl (fun v w hp => ?_)
      obtain ⟨rfl, rfl⟩ := hp
      refine zk_stk (r' := [.int 10, .ref (S.1 68)]) rfl ?_
      refine zs_put (ty := .int) C 68 80 10 rfl rfl rfl rfl ki_Mo ky_Mo ko_Mo kn_Mo (by decide) kw1763 rfl rfl rfl rfl (by decide) kd_Mo_load_56 rfl ?_
      refine zk_aload_n C kd_Mo_load_59 rfl 1 rfl rfl ?_
      refine zk_aload_n C kd_Mo_load_60 rfl 1 rfl rfl ?_
      refine zs_get (v := .int 0) C 68 30 rfl rfl rfl rfl ki_Mo (by decide) kw1713 kd_Mo_load_61 rfl ?_
      refine zs_put (ty := .int) C 68 81 0 rfl rfl rfl rfl ki_Mo ky_Mo ko_Mo kn_Mo (by decide) kw1764 rfl rfl rfl rfl (by decide) kd_Mo_load_64 rfl ?_
      refine zk_aload_n C kd_Mo_load_67 rfl 1 rfl rfl ?_
      refine zs_get (v := .int 10) C 68 80 rfl rfl rfl rfl ki_Mo (by decide) kw1763 kd_Mo_load_68 rfl ?_
      refine zk_if_ne (tgt := 88) C kd_Mo_load_71 (by decide) rfl (fun h_4 => ?_) (fun h_4 => absurd h_4 (by decide))
      refine zk_iconst (v := 0) C kd_Mo_load_88 (by decide) rfl ?_
      refine zk_istore_n (lv' := [(2, _), (0, _), (1, _)]) C kd_Mo_load_89 rfl (by decide) rfl rfl ?_
      refine zk_iload_n C kd_Mo_load_90 rfl 0 rfl rfl ?_
      refine zk_aload_n C kd_Mo_load_91 rfl 1 rfl rfl ?_
      refine zs_get (v := .int 0) C 68 33 rfl rfl rfl rfl ki_Mo (by decide) kw1716 kd_Mo_load_92 rfl ?_
      refine zk_icmp_ge (tgt := 180) C kd_Mo_load_95 (by decide) rfl (fun h_5 => ?_) (fun h_5 => absurd (by decide) h_5)
      refine zk_aload_n C kd_Mo_load_180 rfl 1 rfl rfl ?_
      refine zs_get (v := .int 10) C 68 80 rfl rfl rfl rfl ki_Mo (by decide) kw1763 kd_Mo_load_181 rfl ?_
      refine zk_if_ne (tgt := 226) C kd_Mo_load_184 (by decide) rfl (fun h_6 => ?_) (fun h_6 => absurd h_6 (by decide))
      refine zk_aload_n C kd_Mo_load_226 rfl 1 rfl rfl ?_
      refine zk_aload_n C kd_Mo_load_227 rfl 1 rfl rfl ?_
      refine zs_get (v := .int 10) C 68 80 rfl rfl rfl rfl ki_Mo (by decide) kw1763 kd_Mo_load_228 rfl ?_
      refine zk_if_ne (tgt := 238) C kd_Mo_load_231 (by decide) rfl (fun h_7 => ?_) (fun h_7 => absurd h_7 (by decide))
      refine zk_iconst (v := 0) C kd_Mo_load_238 (by decide) rfl ?_
      refine zs_put (ty := .boolean) C 68 82 0 rfl rfl rfl rfl ki_Mo ky_Mo ko_Mo kn_Mo (by decide) kw1765 rfl rfl rfl rfl (by decide) kd_Mo_load_239 rfl ?_
      refine zk_aload_n C kd_Mo_load_242 rfl 1 rfl rfl ?_
      refine zs_get (v := .int 0) C 68 82 rfl rfl rfl rfl ki_Mo (by decide) kw1765 kd_Mo_load_243 rfl ?_
      refine zk_if_eq (tgt := 273) C kd_Mo_load_246 (by decide) rfl (fun h_8 => ?_) (fun h_8 => absurd (by decide) h_8)
      refine zk_aload_n C kd_Mo_load_273 rfl 1 rfl rfl ?_
      refine zs_get (v := .int 10) C 68 80 rfl rfl rfl rfl ki_Mo (by decide) kw1763 kd_Mo_load_274 rfl ?_
      exact zk_iret C hR kd_Mo_load_277 rfl rfl (Or.inr (Or.inl ⟨h_1, h_2, rfl, rfl⟩))
    · refine zk_iconst (v := (-1)) C kd_Mo_load_13 (by decide) rfl ?_
      exact zk_iret C hR kd_Mo_load_14 rfl rfl (Or.inr (Or.inr ⟨h_1, h_2, rfl, rfl⟩))
