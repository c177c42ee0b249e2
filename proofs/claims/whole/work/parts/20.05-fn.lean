theorem kw19 : Jvm.Cond.initialized "java/lang/Math" ∈ zk_BW := zk_inT 19 (by decide +kernel) rfl
theorem kw797 : Jvm.Cond.static ({ cls := "java/lang/Math", name := "max", desc := "(II)I" } : Jvm.MethodName) ∈ zk_BW := zk_inT 797 (by decide +kernel) rfl
theorem kw800 : Jvm.Cond.instanceMethod ({ cls := "java/lang/String", name := "indexOf", desc := "(I)I" } : Jvm.MethodName) ∈ zk_BW := zk_inT 800 (by decide +kernel) rfl
theorem kw801 : Jvm.Cond.selects "java/lang/String" ({ cls := "java/lang/String", name := "indexOf", desc := "(I)I" } : Jvm.MethodName) ({ cls := "java/lang/String", name := "indexOf", desc := "(I)I" } : Jvm.MethodName) ∈ zk_BW := zk_inT 801 (by decide +kernel) rfl
theorem kw802 : Jvm.Cond.code ({ cls := "java/lang/String", name := "indexOf", desc := "(I)I" } : Jvm.MethodName) prog_18_method_79_code (2 : Nat) (Option.some FieldType.int) ∈ zk_BW := zk_inT 802 (by decide +kernel) rfl
theorem kw803 : Jvm.Cond.methodLink "java/lang/String" (633 : Nat) ({ cls := "java/lang/String", name := "indexOf", desc := "(II)I" } : Jvm.MethodName) ∈ zk_BW := zk_inT 803 (by decide +kernel) rfl
theorem kw804 : Jvm.Cond.instanceMethod ({ cls := "java/lang/String", name := "indexOf", desc := "(II)I" } : Jvm.MethodName) ∈ zk_BW := zk_inT 804 (by decide +kernel) rfl
theorem kw805 : Jvm.Cond.selects "java/lang/String" ({ cls := "java/lang/String", name := "indexOf", desc := "(II)I" } : Jvm.MethodName) ({ cls := "java/lang/String", name := "indexOf", desc := "(II)I" } : Jvm.MethodName) ∈ zk_BW := zk_inT 805 (by decide +kernel) rfl
theorem kw806 : Jvm.Cond.code ({ cls := "java/lang/String", name := "indexOf", desc := "(II)I" } : Jvm.MethodName) prog_18_method_80_code (3 : Nat) (Option.some FieldType.int) ∈ zk_BW := zk_inT 806 (by decide +kernel) rfl
theorem kw807 : Jvm.Cond.methodLink "java/lang/String" (505 : Nat) ({ cls := "java/lang/String", name := "length", desc := "()I" } : Jvm.MethodName) ∈ zk_BW := zk_inT 807 (by decide +kernel) rfl
theorem kw808 : Jvm.Cond.methodLink "java/lang/String" (637 : Nat) ({ cls := "java/lang/StringLatin1", name := "indexOf", desc := "([BIII)I" } : Jvm.MethodName) ∈ zk_BW := zk_inT 808 (by decide +kernel) rfl
theorem kw809 : Jvm.Cond.static ({ cls := "java/lang/StringLatin1", name := "indexOf", desc := "([BIII)I" } : Jvm.MethodName) ∈ zk_BW := zk_inT 809 (by decide +kernel) rfl
theorem kw810 : Jvm.Cond.code ({ cls := "java/lang/StringLatin1", name := "indexOf", desc := "([BIII)I" } : Jvm.MethodName) prog_19_method_22_code (4 : Nat) (Option.some FieldType.int) ∈ zk_BW := zk_inT 810 (by decide +kernel) rfl
theorem kw811 : Jvm.Cond.methodLink "java/lang/StringLatin1" (88 : Nat) ({ cls := "java/lang/StringLatin1", name := "canEncode", desc := "(I)Z" } : Jvm.MethodName) ∈ zk_BW := zk_inT 811 (by decide +kernel) rfl
theorem kw812 : Jvm.Cond.static ({ cls := "java/lang/StringLatin1", name := "canEncode", desc := "(I)Z" } : Jvm.MethodName) ∈ zk_BW := zk_inT 812 (by decide +kernel) rfl
theorem kw813 : Jvm.Cond.code ({ cls := "java/lang/StringLatin1", name := "canEncode", desc := "(I)Z" } : Jvm.MethodName) prog_19_method_4_code (1 : Nat) (Option.some FieldType.boolean) ∈ zk_BW := zk_inT 813 (by decide +kernel) rfl
theorem kw814 : Jvm.Cond.methodLink "java/lang/StringLatin1" (92 : Nat) ({ cls := "java/lang/Math", name := "max", desc := "(II)I" } : Jvm.MethodName) ∈ zk_BW := zk_inT 814 (by decide +kernel) rfl
theorem kw815 : Jvm.Cond.methodLink "java/lang/StringLatin1" (38 : Nat) ({ cls := "java/lang/Math", name := "min", desc := "(II)I" } : Jvm.MethodName) ∈ zk_BW := zk_inT 815 (by decide +kernel) rfl
theorem kw816 : Jvm.Cond.static ({ cls := "java/lang/Math", name := "min", desc := "(II)I" } : Jvm.MethodName) ∈ zk_BW := zk_inT 816 (by decide +kernel) rfl
theorem kw818 : Jvm.Cond.methodLink "java/lang/StringLatin1" (95 : Nat) ({ cls := "java/lang/StringLatin1", name := "indexOfChar", desc := "([BIII)I" } : Jvm.MethodName) ∈ zk_BW := zk_inT 818 (by decide +kernel) rfl
theorem kw819 : Jvm.Cond.static ({ cls := "java/lang/StringLatin1", name := "indexOfChar", desc := "([BIII)I" } : Jvm.MethodName) ∈ zk_BW := zk_inT 819 (by decide +kernel) rfl
theorem kw820 : Jvm.Cond.code ({ cls := "java/lang/StringLatin1", name := "indexOfChar", desc := "([BIII)I" } : Jvm.MethodName) prog_19_method_23_code (6 : Nat) (Option.some FieldType.int) ∈ zk_BW := zk_inT 820 (by decide +kernel) rfl
theorem kw1697 : Jvm.Cond.fieldLink "PlantKeeperModel" (315 : Nat) "PlantKeeperModel" "made" "I" ∈ zk_BW := zk_inT 1697 (by decide +kernel) rfl
theorem kw2001 : Jvm.Cond.methodLink "PlantKeeperModel" (296 : Nat) ({ cls := "PlantKeeperModel", name := "next", desc := "()V" } : Jvm.MethodName) ∈ zk_BW := zk_inT 2001 (by decide +kernel) rfl
theorem kw2003 : Jvm.Cond.instanceMethod ({ cls := "PlantKeeperModel", name := "next", desc := "()V" } : Jvm.MethodName) ∈ zk_BW := zk_inT 2003 (by decide +kernel) rfl
theorem kw2004 : Jvm.Cond.code ({ cls := "PlantKeeperModel", name := "next", desc := "()V" } : Jvm.MethodName) prog_14_method_10_code (2 : Nat) (Option.none : Option FieldType) ∈ zk_BW := zk_inT 2004 (by decide +kernel) rfl
theorem kw2005 : Jvm.Cond.methodLink "PlantKeeperModel" (211 : Nat) ({ cls := "PlantKeeperModel", name := "skip", desc := "(I)I" } : Jvm.MethodName) ∈ zk_BW := zk_inT 2005 (by decide +kernel) rfl
theorem kw2021 : Jvm.Cond.methodLink "PlantKeeperModel" (220 : Nat) ({ cls := "PlantKeeperModel", name := "readTime", desc := "()V" } : Jvm.MethodName) ∈ zk_BW := zk_inT 2021 (by decide +kernel) rfl
theorem kw2051 : Jvm.Cond.methodLink "PlantKeeperModel" (223 : Nat) ({ cls := "PlantKeeperModel", name := "readName", desc := "()V" } : Jvm.MethodName) ∈ zk_BW := zk_inT 2051 (by decide +kernel) rfl
theorem kw2066 : Jvm.Cond.methodLink "PlantKeeperModel" (226 : Nat) ({ cls := "PlantKeeperModel", name := "readNumber", desc := "()V" } : Jvm.MethodName) ∈ zk_BW := zk_inT 2066 (by decide +kernel) rfl
theorem kw2072 : Jvm.Cond.methodLink "PlantKeeperModel" (229 : Nat) ({ cls := "PlantKeeperModel", name := "readPlace", desc := "()V" } : Jvm.MethodName) ∈ zk_BW := zk_inT 2072 (by decide +kernel) rfl
theorem kw2074 : Jvm.Cond.instanceMethod ({ cls := "PlantKeeperModel", name := "readPlace", desc := "()V" } : Jvm.MethodName) ∈ zk_BW := zk_inT 2074 (by decide +kernel) rfl
theorem kw2075 : Jvm.Cond.code ({ cls := "PlantKeeperModel", name := "readPlace", desc := "()V" } : Jvm.MethodName) prog_14_method_19_code (4 : Nat) (Option.none : Option FieldType) ∈ zk_BW := zk_inT 2075 (by decide +kernel) rfl
theorem kw2077 : Jvm.Cond.constantLong "PlantKeeperModel" (287 : Nat) (255 : Int64) ∈ zk_BW := zk_inT 2077 (by decide +kernel) rfl
theorem kw2078 : Jvm.Cond.constantLong "PlantKeeperModel" (289 : Nat) (63 : Int64) ∈ zk_BW := zk_inT 2078 (by decide +kernel) rfl
theorem kw2079 : Jvm.Cond.methodLink "PlantKeeperModel" (232 : Nat) ({ cls := "PlantKeeperModel", name := "readSign", desc := "()V" } : Jvm.MethodName) ∈ zk_BW := zk_inT 2079 (by decide +kernel) rfl
theorem kw2081 : Jvm.Cond.instanceMethod ({ cls := "PlantKeeperModel", name := "readSign", desc := "()V" } : Jvm.MethodName) ∈ zk_BW := zk_inT 2081 (by decide +kernel) rfl
theorem kw2082 : Jvm.Cond.code ({ cls := "PlantKeeperModel", name := "readSign", desc := "()V" } : Jvm.MethodName) prog_14_method_20_code (5 : Nat) (Option.none : Option FieldType) ∈ zk_BW := zk_inT 2082 (by decide +kernel) rfl
theorem kw2084 : Jvm.Cond.methodLink "PlantKeeperModel" (293 : Nat) ({ cls := "java/lang/String", name := "indexOf", desc := "(I)I" } : Jvm.MethodName) ∈ zk_BW := zk_inT 2084 (by decide +kernel) rfl
theorem kw2085 : Jvm.Cond.methodLink "PlantKeeperModel" (318 : Nat) ({ cls := "PlantKeeperModel", name := "node", desc := "(III)I" } : Jvm.MethodName) ∈ zk_BW := zk_inT 2085 (by decide +kernel) rfl
theorem kw2087 : Jvm.Cond.instanceMethod ({ cls := "PlantKeeperModel", name := "node", desc := "(III)I" } : Jvm.MethodName) ∈ zk_BW := zk_inT 2087 (by decide +kernel) rfl
theorem kw2088 : Jvm.Cond.code ({ cls := "PlantKeeperModel", name := "node", desc := "(III)I" } : Jvm.MethodName) prog_14_method_28_code (5 : Nat) (Option.some FieldType.int) ∈ zk_BW := zk_inT 2088 (by decide +kernel) rfl
theorem kw2093 : Jvm.Cond.methodLink "PlantKeeperModel" (299 : Nat) ({ cls := "PlantKeeperModel", name := "wrong", desc := "()V" } : Jvm.MethodName) ∈ zk_BW := zk_inT 2093 (by decide +kernel) rfl
theorem kw2095 : Jvm.Cond.instanceMethod ({ cls := "PlantKeeperModel", name := "wrong", desc := "()V" } : Jvm.MethodName) ∈ zk_BW := zk_inT 2095 (by decide +kernel) rfl
theorem kw2096 : Jvm.Cond.code ({ cls := "PlantKeeperModel", name := "wrong", desc := "()V" } : Jvm.MethodName) prog_14_method_23_code (1 : Nat) (Option.none : Option FieldType) ∈ zk_BW := zk_inT 2096 (by decide +kernel) rfl
theorem kw2097 : Jvm.Cond.methodLink "PlantKeeperModel" (342 : Nat) ({ cls := "PlantKeeperModel", name := "add", desc := "(IIII)I" } : Jvm.MethodName) ∈ zk_BW := zk_inT 2097 (by decide +kernel) rfl
theorem kw2099 : Jvm.Cond.instanceMethod ({ cls := "PlantKeeperModel", name := "add", desc := "(IIII)I" } : Jvm.MethodName) ∈ zk_BW := zk_inT 2099 (by decide +kernel) rfl
theorem kw2100 : Jvm.Cond.code ({ cls := "PlantKeeperModel", name := "add", desc := "(IIII)I" } : Jvm.MethodName) prog_14_method_30_code (6 : Nat) (Option.some FieldType.int) ∈ zk_BW := zk_inT 2100 (by decide +kernel) rfl
theorem kw2101 : Jvm.Cond.methodLink "PlantKeeperModel" (322 : Nat) ({ cls := "PlantKeeperModel", name := "hang", desc := "(II)V" } : Jvm.MethodName) ∈ zk_BW := zk_inT 2101 (by decide +kernel) rfl
theorem kw2103 : Jvm.Cond.instanceMethod ({ cls := "PlantKeeperModel", name := "hang", desc := "(II)V" } : Jvm.MethodName) ∈ zk_BW := zk_inT 2103 (by decide +kernel) rfl
theorem kw2104 : Jvm.Cond.code ({ cls := "PlantKeeperModel", name := "hang", desc := "(II)V" } : Jvm.MethodName) prog_14_method_29_code (3 : Nat) (Option.none : Option FieldType) ∈ zk_BW := zk_inT 2104 (by decide +kernel) rfl
theorem kw2107 : Jvm.Cond.instanceMethod ({ cls := "PlantKeeperModel", name := "name", desc := "()I" } : Jvm.MethodName) ∈ zk_BW := zk_inT 2107 (by decide +kernel) rfl
theorem kw2108 : Jvm.Cond.code ({ cls := "PlantKeeperModel", name := "name", desc := "()I" } : Jvm.MethodName) prog_14_method_33_code (2 : Nat) (Option.some FieldType.int) ∈ zk_BW := zk_inT 2108 (by decide +kernel) rfl
theorem kw2109 : Jvm.Cond.methodLink "PlantKeeperModel" (305 : Nat) ({ cls := "PlantKeeperModel", name := "want", desc := "(Z)V" } : Jvm.MethodName) ∈ zk_BW := zk_inT 2109 (by decide +kernel) rfl
theorem kw2111 : Jvm.Cond.instanceMethod ({ cls := "PlantKeeperModel", name := "want", desc := "(Z)V" } : Jvm.MethodName) ∈ zk_BW := zk_inT 2111 (by decide +kernel) rfl
theorem kw2112 : Jvm.Cond.code ({ cls := "PlantKeeperModel", name := "want", desc := "(Z)V" } : Jvm.MethodName) prog_14_method_24_code (2 : Nat) (Option.none : Option FieldType) ∈ zk_BW := zk_inT 2112 (by decide +kernel) rfl
theorem kw2113 : Jvm.Cond.methodLink "PlantKeeperModel" (349 : Nat) ({ cls := "PlantKeeperModel", name := "wantSign", desc := "(I)V" } : Jvm.MethodName) ∈ zk_BW := zk_inT 2113 (by decide +kernel) rfl
theorem kw2115 : Jvm.Cond.instanceMethod ({ cls := "PlantKeeperModel", name := "wantSign", desc := "(I)V" } : Jvm.MethodName) ∈ zk_BW := zk_inT 2115 (by decide +kernel) rfl
theorem kw2116 : Jvm.Cond.code ({ cls := "PlantKeeperModel", name := "wantSign", desc := "(I)V" } : Jvm.MethodName) prog_14_method_26_code (2 : Nat) (Option.none : Option FieldType) ∈ zk_BW := zk_inT 2116 (by decide +kernel) rfl
theorem kw2117 : Jvm.Cond.methodLink "PlantKeeperModel" (309 : Nat) ({ cls := "PlantKeeperModel", name := "isSign", desc := "(I)Z" } : Jvm.MethodName) ∈ zk_BW := zk_inT 2117 (by decide +kernel) rfl
theorem kw2119 : Jvm.Cond.instanceMethod ({ cls := "PlantKeeperModel", name := "isSign", desc := "(I)Z" } : Jvm.MethodName) ∈ zk_BW := zk_inT 2119 (by decide +kernel) rfl
theorem kw2120 : Jvm.Cond.code ({ cls := "PlantKeeperModel", name := "isSign", desc := "(I)Z" } : Jvm.MethodName) prog_14_method_22_code (2 : Nat) (Option.some FieldType.boolean) ∈ zk_BW := zk_inT 2120 (by decide +kernel) rfl
theorem kw2123 : Jvm.Cond.instanceMethod ({ cls := "PlantKeeperModel", name := "simple", desc := "(I)V" } : Jvm.MethodName) ∈ zk_BW := zk_inT 2123 (by decide +kernel) rfl
theorem kw2124 : Jvm.Cond.code ({ cls := "PlantKeeperModel", name := "simple", desc := "(I)V" } : Jvm.MethodName) prog_14_method_35_code (4 : Nat) (Option.none : Option FieldType) ∈ zk_BW := zk_inT 2124 (by decide +kernel) rfl
theorem kw2127 : Jvm.Cond.instanceMethod ({ cls := "PlantKeeperModel", name := "isWord", desc := "(I)Z" } : Jvm.MethodName) ∈ zk_BW := zk_inT 2127 (by decide +kernel) rfl
theorem kw2128 : Jvm.Cond.code ({ cls := "PlantKeeperModel", name := "isWord", desc := "(I)Z" } : Jvm.MethodName) prog_14_method_21_code (2 : Nat) (Option.some FieldType.boolean) ∈ zk_BW := zk_inT 2128 (by decide +kernel) rfl
theorem kw2155 : Jvm.Cond.instanceMethod ({ cls := "PlantKeeperModel", name := "readCell", desc := "(I)V" } : Jvm.MethodName) ∈ zk_BW := zk_inT 2155 (by decide +kernel) rfl
theorem kw2156 : Jvm.Cond.code ({ cls := "PlantKeeperModel", name := "readCell", desc := "(I)V" } : Jvm.MethodName) prog_14_method_61_code (6 : Nat) (Option.none : Option FieldType) ∈ zk_BW := zk_inT 2156 (by decide +kernel) rfl
theorem kw2157 : Jvm.Cond.methodLink "PlantKeeperModel" (442 : Nat) ({ cls := "PlantKeeperModel", name := "contact", desc := "(I)V" } : Jvm.MethodName) ∈ zk_BW := zk_inT 2157 (by decide +kernel) rfl
theorem kw2159 : Jvm.Cond.instanceMethod ({ cls := "PlantKeeperModel", name := "contact", desc := "(I)V" } : Jvm.MethodName) ∈ zk_BW := zk_inT 2159 (by decide +kernel) rfl
theorem kw2160 : Jvm.Cond.code ({ cls := "PlantKeeperModel", name := "contact", desc := "(I)V" } : Jvm.MethodName) prog_14_method_62_code (7 : Nat) (Option.none : Option FieldType) ∈ zk_BW := zk_inT 2160 (by decide +kernel) rfl
abbrev kc_Mo_add : ByteArray := prog_14_method_30_code
def km_Mo_add : zk_MT := (⟨"PlantKeeperModel", "add", "(IIII)I"⟩, kc_Mo_add, 6, some .int, 4)
theorem ku_Mo_add : zk_My km_Mo_add := ⟨kw2100, kw17, by decide, by decide, by decide, by decide +kernel⟩
theorem kv_Mo_add : zk_Mv km_Mo_add := ⟨kw2099, zk_inS 168 (q := (⟨"PlantKeeperModel", "add", "(IIII)I"⟩, 96)) (by decide +kernel)⟩
abbrev kc_Mo_contact : ByteArray := prog_14_method_62_code
def km_Mo_contact : zk_MT := (⟨"PlantKeeperModel", "contact", "(I)V"⟩, kc_Mo_contact, 7, none, 1)
theorem ku_Mo_contact : zk_My km_Mo_contact := ⟨kw2160, kw17, by decide, by decide, by decide, by decide +kernel⟩
theorem kv_Mo_contact : zk_Mv km_Mo_contact := ⟨kw2159, zk_inS 183 (q := (⟨"PlantKeeperModel", "contact", "(I)V"⟩, 96)) (by decide +kernel)⟩
abbrev kc_Mo_hang : ByteArray := prog_14_method_29_code
def km_Mo_hang : zk_MT := (⟨"PlantKeeperModel", "hang", "(II)V"⟩, kc_Mo_hang, 3, none, 2)
theorem ku_Mo_hang : zk_My km_Mo_hang := ⟨kw2104, kw17, by decide, by decide, by decide, by decide +kernel⟩
theorem kv_Mo_hang : zk_Mv km_Mo_hang := ⟨kw2103, zk_inS 169 (q := (⟨"PlantKeeperModel", "hang", "(II)V"⟩, 96)) (by decide +kernel)⟩
abbrev kc_Mo_isSign : ByteArray := prog_14_method_22_code
def km_Mo_isSign : zk_MT := (⟨"PlantKeeperModel", "isSign", "(I)Z"⟩, kc_Mo_isSign, 2, some .boolean, 1)
theorem ku_Mo_isSign : zk_My km_Mo_isSign := ⟨kw2120, kw17, by decide, by decide, by decide, by decide +kernel⟩
theorem kv_Mo_isSign : zk_Mv km_Mo_isSign := ⟨kw2119, zk_inS 173 (q := (⟨"PlantKeeperModel", "isSign", "(I)Z"⟩, 96)) (by decide +kernel)⟩
abbrev kc_Mo_isWord : ByteArray := prog_14_method_21_code
def km_Mo_isWord : zk_MT := (⟨"PlantKeeperModel", "isWord", "(I)Z"⟩, kc_Mo_isWord, 2, some .boolean, 1)
theorem ku_Mo_isWord : zk_My km_Mo_isWord := ⟨kw2128, kw17, by decide, by decide, by decide, by decide +kernel⟩
theorem kv_Mo_isWord : zk_Mv km_Mo_isWord := ⟨kw2127, zk_inS 175 (q := (⟨"PlantKeeperModel", "isWord", "(I)Z"⟩, 96)) (by decide +kernel)⟩
abbrev kc_Mo_name : ByteArray := prog_14_method_33_code
def km_Mo_name : zk_MT := (⟨"PlantKeeperModel", "name", "()I"⟩, kc_Mo_name, 2, some .int, 0)
theorem ku_Mo_name : zk_My km_Mo_name := ⟨kw2108, kw17, by decide, by decide, by decide, by decide +kernel⟩
theorem kv_Mo_name : zk_Mv km_Mo_name := ⟨kw2107, zk_inS 170 (q := (⟨"PlantKeeperModel", "name", "()I"⟩, 96)) (by decide +kernel)⟩
abbrev kc_Mo_next : ByteArray := prog_14_method_10_code
def km_Mo_next : zk_MT := (⟨"PlantKeeperModel", "next", "()V"⟩, kc_Mo_next, 2, none, 0)
theorem ku_Mo_next : zk_My km_Mo_next := ⟨kw2004, kw17, by decide, by decide, by decide, by decide +kernel⟩
theorem kv_Mo_next : zk_Mv km_Mo_next := ⟨kw2003, zk_inS 150 (q := (⟨"PlantKeeperModel", "next", "()V"⟩, 96)) (by decide +kernel)⟩
abbrev kc_Mo_node : ByteArray := prog_14_method_28_code
def km_Mo_node : zk_MT := (⟨"PlantKeeperModel", "node", "(III)I"⟩, kc_Mo_node, 5, some .int, 3)
theorem ku_Mo_node : zk_My km_Mo_node := ⟨kw2088, kw17, by decide, by decide, by decide, by decide +kernel⟩
theorem kv_Mo_node : zk_Mv km_Mo_node := ⟨kw2087, zk_inS 165 (q := (⟨"PlantKeeperModel", "node", "(III)I"⟩, 96)) (by decide +kernel)⟩
abbrev kc_Mo_readCell : ByteArray := prog_14_method_61_code
def km_Mo_readCell : zk_MT := (⟨"PlantKeeperModel", "readCell", "(I)V"⟩, kc_Mo_readCell, 6, none, 1)
theorem ku_Mo_readCell : zk_My km_Mo_readCell := ⟨kw2156, kw17, by decide, by decide, by decide, by decide +kernel⟩
theorem kv_Mo_readCell : zk_Mv km_Mo_readCell := ⟨kw2155, zk_inS 182 (q := (⟨"PlantKeeperModel", "readCell", "(I)V"⟩, 96)) (by decide +kernel)⟩
abbrev kc_Mo_readPlace : ByteArray := prog_14_method_19_code
def km_Mo_readPlace : zk_MT := (⟨"PlantKeeperModel", "readPlace", "()V"⟩, kc_Mo_readPlace, 4, none, 0)
theorem ku_Mo_readPlace : zk_My km_Mo_readPlace := ⟨kw2075, kw17, by decide, by decide, by decide, by decide +kernel⟩
theorem kv_Mo_readPlace : zk_Mv km_Mo_readPlace := ⟨kw2074, zk_inS 163 (q := (⟨"PlantKeeperModel", "readPlace", "()V"⟩, 96)) (by decide +kernel)⟩
abbrev kc_Mo_readSign : ByteArray := prog_14_method_20_code
def km_Mo_readSign : zk_MT := (⟨"PlantKeeperModel", "readSign", "()V"⟩, kc_Mo_readSign, 5, none, 0)
theorem ku_Mo_readSign : zk_My km_Mo_readSign := ⟨kw2082, kw17, by decide, by decide, by decide, by decide +kernel⟩
theorem kv_Mo_readSign : zk_Mv km_Mo_readSign := ⟨kw2081, zk_inS 164 (q := (⟨"PlantKeeperModel", "readSign", "()V"⟩, 96)) (by decide +kernel)⟩
abbrev kc_Mo_simple : ByteArray := prog_14_method_35_code
def km_Mo_simple : zk_MT := (⟨"PlantKeeperModel", "simple", "(I)V"⟩, kc_Mo_simple, 4, none, 1)
theorem ku_Mo_simple : zk_My km_Mo_simple := ⟨kw2124, kw17, by decide, by decide, by decide, by decide +kernel⟩
theorem kv_Mo_simple : zk_Mv km_Mo_simple := ⟨kw2123, zk_inS 174 (q := (⟨"PlantKeeperModel", "simple", "(I)V"⟩, 96)) (by decide +kernel)⟩
abbrev kc_Mo_want : ByteArray := prog_14_method_24_code
def km_Mo_want : zk_MT := (⟨"PlantKeeperModel", "want", "(Z)V"⟩, kc_Mo_want, 2, none, 1)
theorem ku_Mo_want : zk_My km_Mo_want := ⟨kw2112, kw17, by decide, by decide, by decide, by decide +kernel⟩
theorem kv_Mo_want : zk_Mv km_Mo_want := ⟨kw2111, zk_inS 171 (q := (⟨"PlantKeeperModel", "want", "(Z)V"⟩, 96)) (by decide +kernel)⟩
abbrev kc_Mo_wantSign : ByteArray := prog_14_method_26_code
def km_Mo_wantSign : zk_MT := (⟨"PlantKeeperModel", "wantSign", "(I)V"⟩, kc_Mo_wantSign, 2, none, 1)
theorem ku_Mo_wantSign : zk_My km_Mo_wantSign := ⟨kw2116, kw17, by decide, by decide, by decide, by decide +kernel⟩
theorem kv_Mo_wantSign : zk_Mv km_Mo_wantSign := ⟨kw2115, zk_inS 172 (q := (⟨"PlantKeeperModel", "wantSign", "(I)V"⟩, 96)) (by decide +kernel)⟩
abbrev kc_Mo_wrong : ByteArray := prog_14_method_23_code
def km_Mo_wrong : zk_MT := (⟨"PlantKeeperModel", "wrong", "()V"⟩, kc_Mo_wrong, 1, none, 0)
theorem ku_Mo_wrong : zk_My km_Mo_wrong := ⟨kw2096, kw17, by decide, by decide, by decide, by decide +kernel⟩
theorem kv_Mo_wrong : zk_Mv km_Mo_wrong := ⟨kw2095, zk_inS 167 (q := (⟨"PlantKeeperModel", "wrong", "()V"⟩, 96)) (by decide +kernel)⟩
abbrev kc_Sl_canEncode : ByteArray := prog_19_method_4_code
def km_Sl_canEncode : zk_MT := (⟨"java/lang/StringLatin1", "canEncode", "(I)Z"⟩, kc_Sl_canEncode, 1, some .boolean, 1)
theorem ku_Sl_canEncode : zk_My km_Sl_canEncode := ⟨kw813, kw4, by decide, by decide, by decide, by decide +kernel⟩
theorem ks_Sl_canEncode : Cond.static km_Sl_canEncode.1 ∈ zk_BW := kw812
abbrev kc_Sl_indexOf : ByteArray := prog_19_method_22_code
def km_Sl_indexOf : zk_MT := (⟨"java/lang/StringLatin1", "indexOf", "([BIII)I"⟩, kc_Sl_indexOf, 4, some .int, 4)
theorem ku_Sl_indexOf : zk_My km_Sl_indexOf := ⟨kw810, kw4, by decide, by decide, by decide, by decide +kernel⟩
theorem ks_Sl_indexOf : Cond.static km_Sl_indexOf.1 ∈ zk_BW := kw809
abbrev kc_Sl_indexOfChar : ByteArray := prog_19_method_23_code
def km_Sl_indexOfChar : zk_MT := (⟨"java/lang/StringLatin1", "indexOfChar", "([BIII)I"⟩, kc_Sl_indexOfChar, 6, some .int, 4)
theorem ku_Sl_indexOfChar : zk_My km_Sl_indexOfChar := ⟨kw820, kw4, by decide, by decide, by decide, by decide +kernel⟩
theorem ks_Sl_indexOfChar : Cond.static km_Sl_indexOfChar.1 ∈ zk_BW := kw819
abbrev kc_St_indexOf : ByteArray := prog_18_method_79_code
def km_St_indexOf : zk_MT := (⟨"java/lang/String", "indexOf", "(I)I"⟩, kc_St_indexOf, 2, some .int, 1)
theorem ku_St_indexOf : zk_My km_St_indexOf := ⟨kw802, kw3, by decide, by decide, by decide, by decide +kernel⟩
theorem kv_St_indexOf : zk_Mv km_St_indexOf := ⟨kw800, kw801⟩
abbrev kc_St_indexOf2 : ByteArray := prog_18_method_80_code
def km_St_indexOf2 : zk_MT := (⟨"java/lang/String", "indexOf", "(II)I"⟩, kc_St_indexOf2, 3, some .int, 2)
theorem ku_St_indexOf2 : zk_My km_St_indexOf2 := ⟨kw806, kw3, by decide, by decide, by decide, by decide +kernel⟩
theorem kv_St_indexOf2 : zk_Mv km_St_indexOf2 := ⟨kw804, kw805⟩
theorem kd_Mo_add_0 : decode kc_Mo_add 0 = .ok (.aload_n 0, 1) := by decide +kernel
theorem kd_Mo_add_1 : decode kc_Mo_add 1 = .ok (.iload_n 2, 1) := by decide +kernel
theorem kd_Mo_add_2 : decode kc_Mo_add 2 = .ok (.iload_n 3, 1) := by decide +kernel
theorem kd_Mo_add_3 : decode kc_Mo_add 3 = .ok (.iload 4, 2) := by decide +kernel
theorem kd_Mo_add_5 : decode kc_Mo_add 5 = .ok (.invokevirtual 318, 3) := by decide +kernel
theorem kd_Mo_add_8 : decode kc_Mo_add 8 = .ok (.istore 5, 2) := by decide +kernel
theorem kd_Mo_add_10 : decode kc_Mo_add 10 = .ok (.aload_n 0, 1) := by decide +kernel
theorem kd_Mo_add_11 : decode kc_Mo_add 11 = .ok (.iload 5, 2) := by decide +kernel
theorem kd_Mo_add_13 : decode kc_Mo_add 13 = .ok (.iload_n 1, 1) := by decide +kernel
theorem kd_Mo_add_14 : decode kc_Mo_add 14 = .ok (.invokevirtual 322, 3) := by decide +kernel
theorem kd_Mo_add_17 : decode kc_Mo_add 17 = .ok (.iload 5, 2) := by decide +kernel
theorem kd_Mo_add_19 : decode kc_Mo_add 19 = .ok (.ireturn, 1) := by decide +kernel
theorem kd_Mo_contact_0 : decode kc_Mo_contact 0 = .ok (.aload_n 0, 1) := by decide +kernel
theorem kd_Mo_contact_1 : decode kc_Mo_contact 1 = .ok (.iload_n 1, 1) := by decide +kernel
theorem kd_Mo_contact_2 : decode kc_Mo_contact 2 = .ok (.bipush 25, 2) := by decide +kernel
theorem kd_Mo_contact_4 : decode kc_Mo_contact 4 = .ok (.aload_n 0, 1) := by decide +kernel
theorem kd_Mo_contact_5 : decode kc_Mo_contact 5 = .ok (.getfield 214, 3) := by decide +kernel
theorem kd_Mo_contact_8 : decode kc_Mo_contact 8 = .ok (.aload_n 0, 1) := by decide +kernel
theorem kd_Mo_contact_9 : decode kc_Mo_contact 9 = .ok (.bipush 47, 2) := by decide +kernel
theorem kd_Mo_contact_11 : decode kc_Mo_contact 11 = .ok (.invokevirtual 309, 3) := by decide +kernel
theorem kd_Mo_contact_14 : decode kc_Mo_contact 14 = .ok (.ifCond .eq 7, 3) := by decide +kernel
theorem kd_Mo_contact_17 : decode kc_Mo_contact 17 = .ok (.iconst 1, 1) := by decide +kernel
theorem kd_Mo_contact_18 : decode kc_Mo_contact 18 = .ok (.goto 30, 3) := by decide +kernel
theorem kd_Mo_contact_21 : decode kc_Mo_contact 21 = .ok (.aload_n 0, 1) := by decide +kernel
theorem kd_Mo_contact_22 : decode kc_Mo_contact 22 = .ok (.bipush 62, 2) := by decide +kernel
theorem kd_Mo_contact_24 : decode kc_Mo_contact 24 = .ok (.invokevirtual 309, 3) := by decide +kernel
theorem kd_Mo_contact_27 : decode kc_Mo_contact 27 = .ok (.ifCond .eq 7, 3) := by decide +kernel
theorem kd_Mo_contact_30 : decode kc_Mo_contact 30 = .ok (.iconst 2, 1) := by decide +kernel
theorem kd_Mo_contact_31 : decode kc_Mo_contact 31 = .ok (.goto 17, 3) := by decide +kernel
theorem kd_Mo_contact_34 : decode kc_Mo_contact 34 = .ok (.aload_n 0, 1) := by decide +kernel
theorem kd_Mo_contact_35 : decode kc_Mo_contact 35 = .ok (.bipush 60, 2) := by decide +kernel
theorem kd_Mo_contact_37 : decode kc_Mo_contact 37 = .ok (.invokevirtual 309, 3) := by decide +kernel
theorem kd_Mo_contact_40 : decode kc_Mo_contact 40 = .ok (.ifCond .eq 7, 3) := by decide +kernel
theorem kd_Mo_contact_43 : decode kc_Mo_contact 43 = .ok (.iconst 3, 1) := by decide +kernel
theorem kd_Mo_contact_44 : decode kc_Mo_contact 44 = .ok (.goto 4, 3) := by decide +kernel
theorem kd_Mo_contact_47 : decode kc_Mo_contact 47 = .ok (.iconst 0, 1) := by decide +kernel
theorem kd_Mo_contact_48 : decode kc_Mo_contact 48 = .ok (.invokevirtual 342, 3) := by decide +kernel
theorem kd_Mo_contact_51 : decode kc_Mo_contact 51 = .ok (.istore_n 2, 1) := by decide +kernel
theorem kd_Mo_contact_52 : decode kc_Mo_contact 52 = .ok (.aload_n 0, 1) := by decide +kernel
theorem kd_Mo_contact_53 : decode kc_Mo_contact 53 = .ok (.getfield 28, 3) := by decide +kernel
theorem kd_Mo_contact_56 : decode kc_Mo_contact 56 = .ok (.iload_n 2, 1) := by decide +kernel
theorem kd_Mo_contact_57 : decode kc_Mo_contact 57 = .ok (.iaload, 1) := by decide +kernel
theorem kd_Mo_contact_58 : decode kc_Mo_contact 58 = .ok (.ifCond .le 7, 3) := by decide +kernel
theorem kd_Mo_contact_61 : decode kc_Mo_contact 61 = .ok (.aload_n 0, 1) := by decide +kernel
theorem kd_Mo_contact_62 : decode kc_Mo_contact 62 = .ok (.invokevirtual 296, 3) := by decide +kernel
theorem kd_Mo_contact_65 : decode kc_Mo_contact 65 = .ok (.aload_n 0, 1) := by decide +kernel
theorem kd_Mo_contact_66 : decode kc_Mo_contact 66 = .ok (.getfield 214, 3) := by decide +kernel
theorem kd_Mo_contact_69 : decode kc_Mo_contact 69 = .ok (.istore_n 3, 1) := by decide +kernel
theorem kd_Mo_contact_70 : decode kc_Mo_contact 70 = .ok (.aload_n 0, 1) := by decide +kernel
theorem kd_Mo_contact_71 : decode kc_Mo_contact 71 = .ok (.getfield 242, 3) := by decide +kernel
theorem kd_Mo_contact_74 : decode kc_Mo_contact 74 = .ok (.istore 4, 2) := by decide +kernel
theorem kd_Mo_contact_76 : decode kc_Mo_contact 76 = .ok (.aload_n 0, 1) := by decide +kernel
theorem kd_Mo_contact_77 : decode kc_Mo_contact 77 = .ok (.aload_n 0, 1) := by decide +kernel
theorem kd_Mo_contact_78 : decode kc_Mo_contact 78 = .ok (.getfield 217, 3) := by decide +kernel
theorem kd_Mo_contact_81 : decode kc_Mo_contact 81 = .ok (.iconst 1, 1) := by decide +kernel
theorem kd_Mo_contact_82 : decode kc_Mo_contact 82 = .ok (.if_icmp .ne 7, 3) := by decide +kernel
theorem kd_Mo_contact_85 : decode kc_Mo_contact 85 = .ok (.iconst 1, 1) := by decide +kernel
theorem kd_Mo_contact_86 : decode kc_Mo_contact 86 = .ok (.goto 4, 3) := by decide +kernel
theorem kd_Mo_contact_89 : decode kc_Mo_contact 89 = .ok (.iconst 0, 1) := by decide +kernel
theorem kd_Mo_contact_90 : decode kc_Mo_contact 90 = .ok (.invokevirtual 305, 3) := by decide +kernel
theorem kd_Mo_contact_93 : decode kc_Mo_contact 93 = .ok (.aload_n 0, 1) := by decide +kernel
theorem kd_Mo_contact_94 : decode kc_Mo_contact 94 = .ok (.bipush 46, 2) := by decide +kernel
theorem kd_Mo_contact_96 : decode kc_Mo_contact 96 = .ok (.invokevirtual 309, 3) := by decide +kernel
theorem kd_Mo_contact_99 : decode kc_Mo_contact 99 = .ok (.ifCond .eq 57, 3) := by decide +kernel
theorem kd_Mo_contact_102 : decode kc_Mo_contact 102 = .ok (.aload_n 0, 1) := by decide +kernel
theorem kd_Mo_contact_103 : decode kc_Mo_contact 103 = .ok (.iload_n 2, 1) := by decide +kernel
theorem kd_Mo_contact_104 : decode kc_Mo_contact 104 = .ok (.bipush 33, 2) := by decide +kernel
theorem kd_Mo_contact_106 : decode kc_Mo_contact 106 = .ok (.iload_n 3, 1) := by decide +kernel
theorem kd_Mo_contact_107 : decode kc_Mo_contact 107 = .ok (.iload 4, 2) := by decide +kernel
theorem kd_Mo_contact_109 : decode kc_Mo_contact 109 = .ok (.invokevirtual 342, 3) := by decide +kernel
theorem kd_Mo_contact_112 : decode kc_Mo_contact 112 = .ok (.istore 5, 2) := by decide +kernel
theorem kd_Mo_contact_114 : decode kc_Mo_contact 114 = .ok (.aload_n 0, 1) := by decide +kernel
theorem kd_Mo_contact_115 : decode kc_Mo_contact 115 = .ok (.invokevirtual 296, 3) := by decide +kernel
theorem kd_Mo_contact_118 : decode kc_Mo_contact 118 = .ok (.aload_n 0, 1) := by decide +kernel
theorem kd_Mo_contact_119 : decode kc_Mo_contact 119 = .ok (.iload 5, 2) := by decide +kernel
theorem kd_Mo_contact_121 : decode kc_Mo_contact 121 = .ok (.bipush 6, 2) := by decide +kernel
theorem kd_Mo_contact_123 : decode kc_Mo_contact 123 = .ok (.aload_n 0, 1) := by decide +kernel
theorem kd_Mo_contact_124 : decode kc_Mo_contact 124 = .ok (.getfield 214, 3) := by decide +kernel
theorem kd_Mo_contact_127 : decode kc_Mo_contact 127 = .ok (.aload_n 0, 1) := by decide +kernel
theorem kd_Mo_contact_128 : decode kc_Mo_contact 128 = .ok (.getfield 242, 3) := by decide +kernel
theorem kd_Mo_contact_131 : decode kc_Mo_contact 131 = .ok (.invokevirtual 342, 3) := by decide +kernel
theorem kd_Mo_contact_134 : decode kc_Mo_contact 134 = .ok (.istore 6, 2) := by decide +kernel
theorem kd_Mo_contact_136 : decode kc_Mo_contact 136 = .ok (.aload_n 0, 1) := by decide +kernel
theorem kd_Mo_contact_137 : decode kc_Mo_contact 137 = .ok (.aload_n 0, 1) := by decide +kernel
theorem kd_Mo_contact_138 : decode kc_Mo_contact 138 = .ok (.getfield 217, 3) := by decide +kernel
theorem kd_Mo_contact_141 : decode kc_Mo_contact 141 = .ok (.iconst 1, 1) := by decide +kernel
theorem kd_Mo_contact_142 : decode kc_Mo_contact 142 = .ok (.if_icmp .ne 7, 3) := by decide +kernel
theorem kd_Mo_contact_145 : decode kc_Mo_contact 145 = .ok (.iconst 1, 1) := by decide +kernel
theorem kd_Mo_contact_146 : decode kc_Mo_contact 146 = .ok (.goto 4, 3) := by decide +kernel
theorem kd_Mo_contact_149 : decode kc_Mo_contact 149 = .ok (.iconst 0, 1) := by decide +kernel
theorem kd_Mo_contact_150 : decode kc_Mo_contact 150 = .ok (.invokevirtual 305, 3) := by decide +kernel
theorem kd_Mo_contact_153 : decode kc_Mo_contact 153 = .ok (.goto 15, 3) := by decide +kernel
theorem kd_Mo_contact_156 : decode kc_Mo_contact 156 = .ok (.aload_n 0, 1) := by decide +kernel
theorem kd_Mo_contact_157 : decode kc_Mo_contact 157 = .ok (.iload_n 2, 1) := by decide +kernel
theorem kd_Mo_contact_158 : decode kc_Mo_contact 158 = .ok (.bipush 6, 2) := by decide +kernel
theorem kd_Mo_contact_160 : decode kc_Mo_contact 160 = .ok (.iload_n 3, 1) := by decide +kernel
theorem kd_Mo_contact_161 : decode kc_Mo_contact 161 = .ok (.iload 4, 2) := by decide +kernel
theorem kd_Mo_contact_163 : decode kc_Mo_contact 163 = .ok (.invokevirtual 342, 3) := by decide +kernel
theorem kd_Mo_contact_166 : decode kc_Mo_contact 166 = .ok (.istore 5, 2) := by decide +kernel
theorem kd_Mo_contact_168 : decode kc_Mo_contact 168 = .ok (.return_, 1) := by decide +kernel
theorem kd_Mo_hang_0 : decode kc_Mo_hang 0 = .ok (.aload_n 0, 1) := by decide +kernel
theorem kd_Mo_hang_1 : decode kc_Mo_hang 1 = .ok (.getfield 34, 3) := by decide +kernel
theorem kd_Mo_hang_4 : decode kc_Mo_hang 4 = .ok (.iload_n 2, 1) := by decide +kernel
theorem kd_Mo_hang_5 : decode kc_Mo_hang 5 = .ok (.iaload, 1) := by decide +kernel
theorem kd_Mo_hang_6 : decode kc_Mo_hang 6 = .ok (.ifCond .ge 13, 3) := by decide +kernel
theorem kd_Mo_hang_9 : decode kc_Mo_hang 9 = .ok (.aload_n 0, 1) := by decide +kernel
theorem kd_Mo_hang_10 : decode kc_Mo_hang 10 = .ok (.getfield 34, 3) := by decide +kernel
theorem kd_Mo_hang_13 : decode kc_Mo_hang 13 = .ok (.iload_n 2, 1) := by decide +kernel
theorem kd_Mo_hang_14 : decode kc_Mo_hang 14 = .ok (.iload_n 1, 1) := by decide +kernel
theorem kd_Mo_hang_15 : decode kc_Mo_hang 15 = .ok (.iastore, 1) := by decide +kernel
theorem kd_Mo_hang_16 : decode kc_Mo_hang 16 = .ok (.goto 15, 3) := by decide +kernel
theorem kd_Mo_hang_19 : decode kc_Mo_hang 19 = .ok (.aload_n 0, 1) := by decide +kernel
theorem kd_Mo_hang_20 : decode kc_Mo_hang 20 = .ok (.getfield 40, 3) := by decide +kernel
theorem kd_Mo_hang_23 : decode kc_Mo_hang 23 = .ok (.aload_n 0, 1) := by decide +kernel
theorem kd_Mo_hang_24 : decode kc_Mo_hang 24 = .ok (.getfield 37, 3) := by decide +kernel
theorem kd_Mo_hang_27 : decode kc_Mo_hang 27 = .ok (.iload_n 2, 1) := by decide +kernel
theorem kd_Mo_hang_28 : decode kc_Mo_hang 28 = .ok (.iaload, 1) := by decide +kernel
theorem kd_Mo_hang_29 : decode kc_Mo_hang 29 = .ok (.iload_n 1, 1) := by decide +kernel
theorem kd_Mo_hang_30 : decode kc_Mo_hang 30 = .ok (.iastore, 1) := by decide +kernel
theorem kd_Mo_hang_31 : decode kc_Mo_hang 31 = .ok (.aload_n 0, 1) := by decide +kernel
theorem kd_Mo_hang_32 : decode kc_Mo_hang 32 = .ok (.getfield 37, 3) := by decide +kernel
theorem kd_Mo_hang_35 : decode kc_Mo_hang 35 = .ok (.iload_n 2, 1) := by decide +kernel
theorem kd_Mo_hang_36 : decode kc_Mo_hang 36 = .ok (.iload_n 1, 1) := by decide +kernel
theorem kd_Mo_hang_37 : decode kc_Mo_hang 37 = .ok (.iastore, 1) := by decide +kernel
theorem kd_Mo_hang_38 : decode kc_Mo_hang 38 = .ok (.aload_n 0, 1) := by decide +kernel
theorem kd_Mo_hang_39 : decode kc_Mo_hang 39 = .ok (.getfield 31, 3) := by decide +kernel
theorem kd_Mo_hang_42 : decode kc_Mo_hang 42 = .ok (.iload_n 1, 1) := by decide +kernel
theorem kd_Mo_hang_43 : decode kc_Mo_hang 43 = .ok (.iload_n 2, 1) := by decide +kernel
theorem kd_Mo_hang_44 : decode kc_Mo_hang 44 = .ok (.iastore, 1) := by decide +kernel
theorem kd_Mo_hang_45 : decode kc_Mo_hang 45 = .ok (.return_, 1) := by decide +kernel
theorem kd_Mo_isSign_0 : decode kc_Mo_isSign 0 = .ok (.aload_n 0, 1) := by decide +kernel
theorem kd_Mo_isSign_1 : decode kc_Mo_isSign 1 = .ok (.getfield 201, 3) := by decide +kernel
theorem kd_Mo_isSign_4 : decode kc_Mo_isSign 4 = .ok (.ifCond .ne 23, 3) := by decide +kernel
theorem kd_Mo_isSign_7 : decode kc_Mo_isSign 7 = .ok (.aload_n 0, 1) := by decide +kernel
theorem kd_Mo_isSign_8 : decode kc_Mo_isSign 8 = .ok (.getfield 217, 3) := by decide +kernel
theorem kd_Mo_isSign_11 : decode kc_Mo_isSign 11 = .ok (.iconst 5, 1) := by decide +kernel
theorem kd_Mo_isSign_12 : decode kc_Mo_isSign 12 = .ok (.if_icmp .ne 15, 3) := by decide +kernel
theorem kd_Mo_isSign_15 : decode kc_Mo_isSign 15 = .ok (.aload_n 0, 1) := by decide +kernel
theorem kd_Mo_isSign_16 : decode kc_Mo_isSign 16 = .ok (.getfield 242, 3) := by decide +kernel
theorem kd_Mo_isSign_19 : decode kc_Mo_isSign 19 = .ok (.iload_n 1, 1) := by decide +kernel
theorem kd_Mo_isSign_20 : decode kc_Mo_isSign 20 = .ok (.if_icmp .ne 7, 3) := by decide +kernel
theorem kd_Mo_isSign_23 : decode kc_Mo_isSign 23 = .ok (.iconst 1, 1) := by decide +kernel
theorem kd_Mo_isSign_24 : decode kc_Mo_isSign 24 = .ok (.goto 4, 3) := by decide +kernel
theorem kd_Mo_isSign_27 : decode kc_Mo_isSign 27 = .ok (.iconst 0, 1) := by decide +kernel
theorem kd_Mo_isSign_28 : decode kc_Mo_isSign 28 = .ok (.ireturn, 1) := by decide +kernel
theorem kd_Mo_isWord_0 : decode kc_Mo_isWord 0 = .ok (.aload_n 0, 1) := by decide +kernel
theorem kd_Mo_isWord_1 : decode kc_Mo_isWord 1 = .ok (.getfield 201, 3) := by decide +kernel
theorem kd_Mo_isWord_4 : decode kc_Mo_isWord 4 = .ok (.ifCond .ne 23, 3) := by decide +kernel
theorem kd_Mo_isWord_7 : decode kc_Mo_isWord 7 = .ok (.aload_n 0, 1) := by decide +kernel
theorem kd_Mo_isWord_8 : decode kc_Mo_isWord 8 = .ok (.getfield 217, 3) := by decide +kernel
theorem kd_Mo_isWord_11 : decode kc_Mo_isWord 11 = .ok (.iconst 2, 1) := by decide +kernel
theorem kd_Mo_isWord_12 : decode kc_Mo_isWord 12 = .ok (.if_icmp .ne 15, 3) := by decide +kernel
theorem kd_Mo_isWord_15 : decode kc_Mo_isWord 15 = .ok (.aload_n 0, 1) := by decide +kernel
theorem kd_Mo_isWord_16 : decode kc_Mo_isWord 16 = .ok (.getfield 242, 3) := by decide +kernel
theorem kd_Mo_isWord_19 : decode kc_Mo_isWord 19 = .ok (.iload_n 1, 1) := by decide +kernel
theorem kd_Mo_isWord_20 : decode kc_Mo_isWord 20 = .ok (.if_icmp .ne 7, 3) := by decide +kernel
theorem kd_Mo_isWord_23 : decode kc_Mo_isWord 23 = .ok (.iconst 1, 1) := by decide +kernel
theorem kd_Mo_isWord_24 : decode kc_Mo_isWord 24 = .ok (.goto 4, 3) := by decide +kernel
theorem kd_Mo_isWord_27 : decode kc_Mo_isWord 27 = .ok (.iconst 0, 1) := by decide +kernel
theorem kd_Mo_isWord_28 : decode kc_Mo_isWord 28 = .ok (.ireturn, 1) := by decide +kernel
theorem kd_Mo_name_0 : decode kc_Mo_name 0 = .ok (.aload_n 0, 1) := by decide +kernel
theorem kd_Mo_name_1 : decode kc_Mo_name 1 = .ok (.getfield 242, 3) := by decide +kernel
theorem kd_Mo_name_4 : decode kc_Mo_name 4 = .ok (.istore_n 1, 1) := by decide +kernel
theorem kd_Mo_name_5 : decode kc_Mo_name 5 = .ok (.aload_n 0, 1) := by decide +kernel
theorem kd_Mo_name_6 : decode kc_Mo_name 6 = .ok (.aload_n 0, 1) := by decide +kernel
theorem kd_Mo_name_7 : decode kc_Mo_name 7 = .ok (.getfield 217, 3) := by decide +kernel
theorem kd_Mo_name_10 : decode kc_Mo_name 10 = .ok (.iconst 1, 1) := by decide +kernel
theorem kd_Mo_name_11 : decode kc_Mo_name 11 = .ok (.if_icmp .ne 7, 3) := by decide +kernel
theorem kd_Mo_name_14 : decode kc_Mo_name 14 = .ok (.iconst 1, 1) := by decide +kernel
theorem kd_Mo_name_15 : decode kc_Mo_name 15 = .ok (.goto 4, 3) := by decide +kernel
theorem kd_Mo_name_18 : decode kc_Mo_name 18 = .ok (.iconst 0, 1) := by decide +kernel
theorem kd_Mo_name_19 : decode kc_Mo_name 19 = .ok (.invokevirtual 305, 3) := by decide +kernel
theorem kd_Mo_name_22 : decode kc_Mo_name 22 = .ok (.iload_n 1, 1) := by decide +kernel
theorem kd_Mo_name_23 : decode kc_Mo_name 23 = .ok (.ireturn, 1) := by decide +kernel
theorem kd_Mo_next_0 : decode kc_Mo_next 0 = .ok (.aload_n 0, 1) := by decide +kernel
theorem kd_Mo_next_1 : decode kc_Mo_next 1 = .ok (.aload_n 0, 1) := by decide +kernel
theorem kd_Mo_next_2 : decode kc_Mo_next 2 = .ok (.aload_n 0, 1) := by decide +kernel
theorem kd_Mo_next_3 : decode kc_Mo_next 3 = .ok (.getfield 208, 3) := by decide +kernel
theorem kd_Mo_next_6 : decode kc_Mo_next 6 = .ok (.invokevirtual 211, 3) := by decide +kernel
theorem kd_Mo_next_9 : decode kc_Mo_next 9 = .ok (.putfield 214, 3) := by decide +kernel
theorem kd_Mo_next_12 : decode kc_Mo_next 12 = .ok (.aload_n 0, 1) := by decide +kernel
theorem kd_Mo_next_13 : decode kc_Mo_next 13 = .ok (.getfield 214, 3) := by decide +kernel
theorem kd_Mo_next_16 : decode kc_Mo_next 16 = .ok (.ifCond .ge 9, 3) := by decide +kernel
theorem kd_Mo_next_19 : decode kc_Mo_next 19 = .ok (.aload_n 0, 1) := by decide +kernel
theorem kd_Mo_next_20 : decode kc_Mo_next 20 = .ok (.iconst 0, 1) := by decide +kernel
theorem kd_Mo_next_21 : decode kc_Mo_next 21 = .ok (.putfield 217, 3) := by decide +kernel
theorem kd_Mo_next_24 : decode kc_Mo_next 24 = .ok (.return_, 1) := by decide +kernel
theorem kd_Mo_next_25 : decode kc_Mo_next 25 = .ok (.aload_n 0, 1) := by decide +kernel
theorem kd_Mo_next_26 : decode kc_Mo_next 26 = .ok (.aload_n 0, 1) := by decide +kernel
theorem kd_Mo_next_27 : decode kc_Mo_next 27 = .ok (.getfield 214, 3) := by decide +kernel
theorem kd_Mo_next_30 : decode kc_Mo_next 30 = .ok (.invokevirtual 191, 3) := by decide +kernel
theorem kd_Mo_next_33 : decode kc_Mo_next 33 = .ok (.istore_n 1, 1) := by decide +kernel
theorem kd_Mo_next_34 : decode kc_Mo_next 34 = .ok (.aload_n 0, 1) := by decide +kernel
theorem kd_Mo_next_35 : decode kc_Mo_next 35 = .ok (.getfield 214, 3) := by decide +kernel
theorem kd_Mo_next_38 : decode kc_Mo_next 38 = .ok (.aload_n 0, 1) := by decide +kernel
theorem kd_Mo_next_39 : decode kc_Mo_next 39 = .ok (.getfield 184, 3) := by decide +kernel
theorem kd_Mo_next_42 : decode kc_Mo_next 42 = .ok (.if_icmp .lt 27, 3) := by decide +kernel
theorem kd_Mo_next_45 : decode kc_Mo_next 45 = .ok (.aload_n 0, 1) := by decide +kernel
theorem kd_Mo_next_46 : decode kc_Mo_next 46 = .ok (.iconst 0, 1) := by decide +kernel
theorem kd_Mo_next_47 : decode kc_Mo_next 47 = .ok (.putfield 217, 3) := by decide +kernel
theorem kd_Mo_next_50 : decode kc_Mo_next 50 = .ok (.aload_n 0, 1) := by decide +kernel
theorem kd_Mo_next_51 : decode kc_Mo_next 51 = .ok (.aload_n 0, 1) := by decide +kernel
theorem kd_Mo_next_52 : decode kc_Mo_next 52 = .ok (.getfield 184, 3) := by decide +kernel
theorem kd_Mo_next_55 : decode kc_Mo_next 55 = .ok (.putfield 214, 3) := by decide +kernel
theorem kd_Mo_next_58 : decode kc_Mo_next 58 = .ok (.aload_n 0, 1) := by decide +kernel
theorem kd_Mo_next_59 : decode kc_Mo_next 59 = .ok (.aload_n 0, 1) := by decide +kernel
theorem kd_Mo_next_60 : decode kc_Mo_next 60 = .ok (.getfield 184, 3) := by decide +kernel
theorem kd_Mo_next_63 : decode kc_Mo_next 63 = .ok (.putfield 208, 3) := by decide +kernel
theorem kd_Mo_next_66 : decode kc_Mo_next 66 = .ok (.goto 76, 3) := by decide +kernel
theorem kd_Mo_next_69 : decode kc_Mo_next 69 = .ok (.iload_n 1, 1) := by decide +kernel
theorem kd_Mo_next_70 : decode kc_Mo_next 70 = .ok (.bipush 84, 2) := by decide +kernel
theorem kd_Mo_next_72 : decode kc_Mo_next 72 = .ok (.if_icmp .ne 25, 3) := by decide +kernel
theorem kd_Mo_next_75 : decode kc_Mo_next 75 = .ok (.aload_n 0, 1) := by decide +kernel
theorem kd_Mo_next_76 : decode kc_Mo_next 76 = .ok (.aload_n 0, 1) := by decide +kernel
theorem kd_Mo_next_77 : decode kc_Mo_next 77 = .ok (.getfield 214, 3) := by decide +kernel
theorem kd_Mo_next_80 : decode kc_Mo_next 80 = .ok (.iconst 1, 1) := by decide +kernel
theorem kd_Mo_next_81 : decode kc_Mo_next 81 = .ok (.iadd, 1) := by decide +kernel
theorem kd_Mo_next_82 : decode kc_Mo_next 82 = .ok (.invokevirtual 187, 3) := by decide +kernel
theorem kd_Mo_next_85 : decode kc_Mo_next 85 = .ok (.bipush 35, 2) := by decide +kernel
theorem kd_Mo_next_87 : decode kc_Mo_next 87 = .ok (.if_icmp .ne 10, 3) := by decide +kernel
theorem kd_Mo_next_90 : decode kc_Mo_next 90 = .ok (.aload_n 0, 1) := by decide +kernel
theorem kd_Mo_next_91 : decode kc_Mo_next 91 = .ok (.invokevirtual 220, 3) := by decide +kernel
theorem kd_Mo_next_94 : decode kc_Mo_next 94 = .ok (.goto 48, 3) := by decide +kernel
theorem kd_Mo_next_97 : decode kc_Mo_next 97 = .ok (.iload_n 1, 1) := by decide +kernel
theorem kd_Mo_next_98 : decode kc_Mo_next 98 = .ok (.invokestatic 194, 3) := by decide +kernel
theorem kd_Mo_next_101 : decode kc_Mo_next 101 = .ok (.ifCond .eq 10, 3) := by decide +kernel
theorem kd_Mo_next_104 : decode kc_Mo_next 104 = .ok (.aload_n 0, 1) := by decide +kernel
theorem kd_Mo_next_105 : decode kc_Mo_next 105 = .ok (.invokevirtual 223, 3) := by decide +kernel
theorem kd_Mo_next_108 : decode kc_Mo_next 108 = .ok (.goto 34, 3) := by decide +kernel
theorem kd_Mo_next_111 : decode kc_Mo_next 111 = .ok (.iload_n 1, 1) := by decide +kernel
theorem kd_Mo_next_112 : decode kc_Mo_next 112 = .ok (.invokestatic 198, 3) := by decide +kernel
theorem kd_Mo_next_115 : decode kc_Mo_next 115 = .ok (.ifCond .eq 10, 3) := by decide +kernel
theorem kd_Mo_next_118 : decode kc_Mo_next 118 = .ok (.aload_n 0, 1) := by decide +kernel
theorem kd_Mo_next_119 : decode kc_Mo_next 119 = .ok (.invokevirtual 226, 3) := by decide +kernel
theorem kd_Mo_next_122 : decode kc_Mo_next 122 = .ok (.goto 20, 3) := by decide +kernel
theorem kd_Mo_next_125 : decode kc_Mo_next 125 = .ok (.iload_n 1, 1) := by decide +kernel
theorem kd_Mo_next_126 : decode kc_Mo_next 126 = .ok (.bipush 37, 2) := by decide +kernel
theorem kd_Mo_next_128 : decode kc_Mo_next 128 = .ok (.if_icmp .ne 10, 3) := by decide +kernel
theorem kd_Mo_next_131 : decode kc_Mo_next 131 = .ok (.aload_n 0, 1) := by decide +kernel
theorem kd_Mo_next_132 : decode kc_Mo_next 132 = .ok (.invokevirtual 229, 3) := by decide +kernel
theorem kd_Mo_next_135 : decode kc_Mo_next 135 = .ok (.goto 7, 3) := by decide +kernel
theorem kd_Mo_next_138 : decode kc_Mo_next 138 = .ok (.aload_n 0, 1) := by decide +kernel
theorem kd_Mo_next_139 : decode kc_Mo_next 139 = .ok (.invokevirtual 232, 3) := by decide +kernel
theorem kd_Mo_next_142 : decode kc_Mo_next 142 = .ok (.return_, 1) := by decide +kernel
theorem kd_Mo_node_0 : decode kc_Mo_node 0 = .ok (.aload_n 0, 1) := by decide +kernel
theorem kd_Mo_node_1 : decode kc_Mo_node 1 = .ok (.getfield 315, 3) := by decide +kernel
theorem kd_Mo_node_4 : decode kc_Mo_node 4 = .ok (.istore 4, 2) := by decide +kernel
theorem kd_Mo_node_6 : decode kc_Mo_node 6 = .ok (.aload_n 0, 1) := by decide +kernel
theorem kd_Mo_node_7 : decode kc_Mo_node 7 = .ok (.dup, 1) := by decide +kernel
theorem kd_Mo_node_8 : decode kc_Mo_node 8 = .ok (.getfield 315, 3) := by decide +kernel
theorem kd_Mo_node_11 : decode kc_Mo_node 11 = .ok (.iconst 1, 1) := by decide +kernel
theorem kd_Mo_node_12 : decode kc_Mo_node 12 = .ok (.iadd, 1) := by decide +kernel
theorem kd_Mo_node_13 : decode kc_Mo_node 13 = .ok (.putfield 315, 3) := by decide +kernel
theorem kd_Mo_node_16 : decode kc_Mo_node 16 = .ok (.aload_n 0, 1) := by decide +kernel
theorem kd_Mo_node_17 : decode kc_Mo_node 17 = .ok (.getfield 22, 3) := by decide +kernel
theorem kd_Mo_node_20 : decode kc_Mo_node 20 = .ok (.iload 4, 2) := by decide +kernel
theorem kd_Mo_node_22 : decode kc_Mo_node 22 = .ok (.iload_n 1, 1) := by decide +kernel
theorem kd_Mo_node_23 : decode kc_Mo_node 23 = .ok (.iastore, 1) := by decide +kernel
theorem kd_Mo_node_24 : decode kc_Mo_node 24 = .ok (.aload_n 0, 1) := by decide +kernel
theorem kd_Mo_node_25 : decode kc_Mo_node 25 = .ok (.getfield 25, 3) := by decide +kernel
theorem kd_Mo_node_28 : decode kc_Mo_node 28 = .ok (.iload 4, 2) := by decide +kernel
theorem kd_Mo_node_30 : decode kc_Mo_node 30 = .ok (.iload_n 2, 1) := by decide +kernel
theorem kd_Mo_node_31 : decode kc_Mo_node 31 = .ok (.iastore, 1) := by decide +kernel
theorem kd_Mo_node_32 : decode kc_Mo_node 32 = .ok (.aload_n 0, 1) := by decide +kernel
theorem kd_Mo_node_33 : decode kc_Mo_node 33 = .ok (.getfield 28, 3) := by decide +kernel
theorem kd_Mo_node_36 : decode kc_Mo_node 36 = .ok (.iload 4, 2) := by decide +kernel
theorem kd_Mo_node_38 : decode kc_Mo_node 38 = .ok (.iload_n 3, 1) := by decide +kernel
theorem kd_Mo_node_39 : decode kc_Mo_node 39 = .ok (.iastore, 1) := by decide +kernel
theorem kd_Mo_node_40 : decode kc_Mo_node 40 = .ok (.aload_n 0, 1) := by decide +kernel
theorem kd_Mo_node_41 : decode kc_Mo_node 41 = .ok (.getfield 31, 3) := by decide +kernel
theorem kd_Mo_node_44 : decode kc_Mo_node 44 = .ok (.iload 4, 2) := by decide +kernel
theorem kd_Mo_node_46 : decode kc_Mo_node 46 = .ok (.iconst (-1), 1) := by decide +kernel
theorem kd_Mo_node_47 : decode kc_Mo_node 47 = .ok (.iastore, 1) := by decide +kernel
theorem kd_Mo_node_48 : decode kc_Mo_node 48 = .ok (.aload_n 0, 1) := by decide +kernel
theorem kd_Mo_node_49 : decode kc_Mo_node 49 = .ok (.getfield 34, 3) := by decide +kernel
theorem kd_Mo_node_52 : decode kc_Mo_node 52 = .ok (.iload 4, 2) := by decide +kernel
theorem kd_Mo_node_54 : decode kc_Mo_node 54 = .ok (.iconst (-1), 1) := by decide +kernel
theorem kd_Mo_node_55 : decode kc_Mo_node 55 = .ok (.iastore, 1) := by decide +kernel
theorem kd_Mo_node_56 : decode kc_Mo_node 56 = .ok (.aload_n 0, 1) := by decide +kernel
theorem kd_Mo_node_57 : decode kc_Mo_node 57 = .ok (.getfield 37, 3) := by decide +kernel
theorem kd_Mo_node_60 : decode kc_Mo_node 60 = .ok (.iload 4, 2) := by decide +kernel
theorem kd_Mo_node_62 : decode kc_Mo_node 62 = .ok (.iconst (-1), 1) := by decide +kernel
theorem kd_Mo_node_63 : decode kc_Mo_node 63 = .ok (.iastore, 1) := by decide +kernel
theorem kd_Mo_node_64 : decode kc_Mo_node 64 = .ok (.aload_n 0, 1) := by decide +kernel
theorem kd_Mo_node_65 : decode kc_Mo_node 65 = .ok (.getfield 40, 3) := by decide +kernel
theorem kd_Mo_node_68 : decode kc_Mo_node 68 = .ok (.iload 4, 2) := by decide +kernel
theorem kd_Mo_node_70 : decode kc_Mo_node 70 = .ok (.iconst (-1), 1) := by decide +kernel
theorem kd_Mo_node_71 : decode kc_Mo_node 71 = .ok (.iastore, 1) := by decide +kernel
theorem kd_Mo_node_72 : decode kc_Mo_node 72 = .ok (.iload 4, 2) := by decide +kernel
theorem kd_Mo_node_74 : decode kc_Mo_node 74 = .ok (.ireturn, 1) := by decide +kernel
theorem kd_Mo_readCell_0 : decode kc_Mo_readCell 0 = .ok (.aload_n 0, 1) := by decide +kernel
theorem kd_Mo_readCell_1 : decode kc_Mo_readCell 1 = .ok (.getfield 201, 3) := by decide +kernel
theorem kd_Mo_readCell_4 : decode kc_Mo_readCell 4 = .ok (.ifCond .le 4, 3) := by decide +kernel
theorem kd_Mo_readCell_7 : decode kc_Mo_readCell 7 = .ok (.return_, 1) := by decide +kernel
theorem kd_Mo_readCell_8 : decode kc_Mo_readCell 8 = .ok (.aload_n 0, 1) := by decide +kernel
theorem kd_Mo_readCell_9 : decode kc_Mo_readCell 9 = .ok (.getfield 214, 3) := by decide +kernel
theorem kd_Mo_readCell_12 : decode kc_Mo_readCell 12 = .ok (.istore_n 2, 1) := by decide +kernel
theorem kd_Mo_readCell_13 : decode kc_Mo_readCell 13 = .ok (.aload_n 0, 1) := by decide +kernel
theorem kd_Mo_readCell_14 : decode kc_Mo_readCell 14 = .ok (.bipush 45, 2) := by decide +kernel
theorem kd_Mo_readCell_16 : decode kc_Mo_readCell 16 = .ok (.invokevirtual 309, 3) := by decide +kernel
theorem kd_Mo_readCell_19 : decode kc_Mo_readCell 19 = .ok (.ifCond .ne 12, 3) := by decide +kernel
theorem kd_Mo_readCell_22 : decode kc_Mo_readCell 22 = .ok (.aload_n 0, 1) := by decide +kernel
theorem kd_Mo_readCell_23 : decode kc_Mo_readCell 23 = .ok (.bipush 42, 2) := by decide +kernel
theorem kd_Mo_readCell_25 : decode kc_Mo_readCell 25 = .ok (.invokevirtual 309, 3) := by decide +kernel
theorem kd_Mo_readCell_28 : decode kc_Mo_readCell 28 = .ok (.ifCond .eq 37, 3) := by decide +kernel
theorem kd_Mo_readCell_31 : decode kc_Mo_readCell 31 = .ok (.aload_n 0, 1) := by decide +kernel
theorem kd_Mo_readCell_32 : decode kc_Mo_readCell 32 = .ok (.iload_n 1, 1) := by decide +kernel
theorem kd_Mo_readCell_33 : decode kc_Mo_readCell 33 = .ok (.aload_n 0, 1) := by decide +kernel
theorem kd_Mo_readCell_34 : decode kc_Mo_readCell 34 = .ok (.getfield 242, 3) := by decide +kernel
theorem kd_Mo_readCell_37 : decode kc_Mo_readCell 37 = .ok (.bipush 45, 2) := by decide +kernel
theorem kd_Mo_readCell_39 : decode kc_Mo_readCell 39 = .ok (.if_icmp .ne 8, 3) := by decide +kernel
theorem kd_Mo_readCell_42 : decode kc_Mo_readCell 42 = .ok (.bipush 26, 2) := by decide +kernel
theorem kd_Mo_readCell_44 : decode kc_Mo_readCell 44 = .ok (.goto 5, 3) := by decide +kernel
theorem kd_Mo_readCell_47 : decode kc_Mo_readCell 47 = .ok (.bipush 27, 2) := by decide +kernel
theorem kd_Mo_readCell_49 : decode kc_Mo_readCell 49 = .ok (.aload_n 0, 1) := by decide +kernel
theorem kd_Mo_readCell_50 : decode kc_Mo_readCell 50 = .ok (.getfield 214, 3) := by decide +kernel
theorem kd_Mo_readCell_53 : decode kc_Mo_readCell 53 = .ok (.iconst 0, 1) := by decide +kernel
theorem kd_Mo_readCell_54 : decode kc_Mo_readCell 54 = .ok (.invokevirtual 342, 3) := by decide +kernel
theorem kd_Mo_readCell_57 : decode kc_Mo_readCell 57 = .ok (.istore_n 3, 1) := by decide +kernel
theorem kd_Mo_readCell_58 : decode kc_Mo_readCell 58 = .ok (.aload_n 0, 1) := by decide +kernel
theorem kd_Mo_readCell_59 : decode kc_Mo_readCell 59 = .ok (.invokevirtual 296, 3) := by decide +kernel
theorem kd_Mo_readCell_62 : decode kc_Mo_readCell 62 = .ok (.goto 125, 3) := by decide +kernel
theorem kd_Mo_readCell_65 : decode kc_Mo_readCell 65 = .ok (.aload_n 0, 1) := by decide +kernel
theorem kd_Mo_readCell_66 : decode kc_Mo_readCell 66 = .ok (.bipush 40, 2) := by decide +kernel
theorem kd_Mo_readCell_68 : decode kc_Mo_readCell 68 = .ok (.invokevirtual 309, 3) := by decide +kernel
theorem kd_Mo_readCell_71 : decode kc_Mo_readCell 71 = .ok (.ifCond .eq 111, 3) := by decide +kernel
theorem kd_Mo_readCell_74 : decode kc_Mo_readCell 74 = .ok (.aload_n 0, 1) := by decide +kernel
theorem kd_Mo_readCell_75 : decode kc_Mo_readCell 75 = .ok (.invokevirtual 296, 3) := by decide +kernel
theorem kd_Mo_readCell_78 : decode kc_Mo_readCell 78 = .ok (.aload_n 0, 1) := by decide +kernel
theorem kd_Mo_readCell_79 : decode kc_Mo_readCell 79 = .ok (.bipush 47, 2) := by decide +kernel
theorem kd_Mo_readCell_81 : decode kc_Mo_readCell 81 = .ok (.invokevirtual 309, 3) := by decide +kernel
theorem kd_Mo_readCell_84 : decode kc_Mo_readCell 84 = .ok (.ifCond .eq 7, 3) := by decide +kernel
theorem kd_Mo_readCell_87 : decode kc_Mo_readCell 87 = .ok (.iconst 1, 1) := by decide +kernel
theorem kd_Mo_readCell_88 : decode kc_Mo_readCell 88 = .ok (.goto 30, 3) := by decide +kernel
theorem kd_Mo_readCell_91 : decode kc_Mo_readCell 91 = .ok (.aload_n 0, 1) := by decide +kernel
theorem kd_Mo_readCell_92 : decode kc_Mo_readCell 92 = .ok (.bipush 43, 2) := by decide +kernel
theorem kd_Mo_readCell_94 : decode kc_Mo_readCell 94 = .ok (.invokevirtual 309, 3) := by decide +kernel
theorem kd_Mo_readCell_97 : decode kc_Mo_readCell 97 = .ok (.ifCond .eq 7, 3) := by decide +kernel
theorem kd_Mo_readCell_100 : decode kc_Mo_readCell 100 = .ok (.iconst 2, 1) := by decide +kernel
theorem kd_Mo_readCell_101 : decode kc_Mo_readCell 101 = .ok (.goto 17, 3) := by decide +kernel
theorem kd_Mo_readCell_104 : decode kc_Mo_readCell 104 = .ok (.aload_n 0, 1) := by decide +kernel
theorem kd_Mo_readCell_105 : decode kc_Mo_readCell 105 = .ok (.bipush 45, 2) := by decide +kernel
theorem kd_Mo_readCell_107 : decode kc_Mo_readCell 107 = .ok (.invokevirtual 309, 3) := by decide +kernel
theorem kd_Mo_readCell_110 : decode kc_Mo_readCell 110 = .ok (.ifCond .eq 7, 3) := by decide +kernel
theorem kd_Mo_readCell_113 : decode kc_Mo_readCell 113 = .ok (.iconst 3, 1) := by decide +kernel
theorem kd_Mo_readCell_114 : decode kc_Mo_readCell 114 = .ok (.goto 4, 3) := by decide +kernel
theorem kd_Mo_readCell_117 : decode kc_Mo_readCell 117 = .ok (.iconst 0, 1) := by decide +kernel
theorem kd_Mo_readCell_118 : decode kc_Mo_readCell 118 = .ok (.istore_n 3, 1) := by decide +kernel
theorem kd_Mo_readCell_119 : decode kc_Mo_readCell 119 = .ok (.iload_n 3, 1) := by decide +kernel
theorem kd_Mo_readCell_120 : decode kc_Mo_readCell 120 = .ok (.ifCond .le 7, 3) := by decide +kernel
theorem kd_Mo_readCell_123 : decode kc_Mo_readCell 123 = .ok (.aload_n 0, 1) := by decide +kernel
theorem kd_Mo_readCell_124 : decode kc_Mo_readCell 124 = .ok (.invokevirtual 296, 3) := by decide +kernel
theorem kd_Mo_readCell_127 : decode kc_Mo_readCell 127 = .ok (.aload_n 0, 1) := by decide +kernel
theorem kd_Mo_readCell_128 : decode kc_Mo_readCell 128 = .ok (.iload_n 1, 1) := by decide +kernel
theorem kd_Mo_readCell_129 : decode kc_Mo_readCell 129 = .ok (.bipush 28, 2) := by decide +kernel
theorem kd_Mo_readCell_131 : decode kc_Mo_readCell 131 = .ok (.iload_n 2, 1) := by decide +kernel
theorem kd_Mo_readCell_132 : decode kc_Mo_readCell 132 = .ok (.iload_n 3, 1) := by decide +kernel
theorem kd_Mo_readCell_133 : decode kc_Mo_readCell 133 = .ok (.invokevirtual 342, 3) := by decide +kernel
theorem kd_Mo_readCell_136 : decode kc_Mo_readCell 136 = .ok (.istore 4, 2) := by decide +kernel
theorem kd_Mo_readCell_138 : decode kc_Mo_readCell 138 = .ok (.aload_n 0, 1) := by decide +kernel
theorem kd_Mo_readCell_139 : decode kc_Mo_readCell 139 = .ok (.iload 4, 2) := by decide +kernel
theorem kd_Mo_readCell_141 : decode kc_Mo_readCell 141 = .ok (.bipush 6, 2) := by decide +kernel
theorem kd_Mo_readCell_143 : decode kc_Mo_readCell 143 = .ok (.aload_n 0, 1) := by decide +kernel
theorem kd_Mo_readCell_144 : decode kc_Mo_readCell 144 = .ok (.getfield 214, 3) := by decide +kernel
theorem kd_Mo_readCell_147 : decode kc_Mo_readCell 147 = .ok (.aload_n 0, 1) := by decide +kernel
theorem kd_Mo_readCell_148 : decode kc_Mo_readCell 148 = .ok (.getfield 242, 3) := by decide +kernel
theorem kd_Mo_readCell_151 : decode kc_Mo_readCell 151 = .ok (.invokevirtual 342, 3) := by decide +kernel
theorem kd_Mo_readCell_154 : decode kc_Mo_readCell 154 = .ok (.istore 5, 2) := by decide +kernel
theorem kd_Mo_readCell_156 : decode kc_Mo_readCell 156 = .ok (.aload_n 0, 1) := by decide +kernel
theorem kd_Mo_readCell_157 : decode kc_Mo_readCell 157 = .ok (.aload_n 0, 1) := by decide +kernel
theorem kd_Mo_readCell_158 : decode kc_Mo_readCell 158 = .ok (.getfield 217, 3) := by decide +kernel
theorem kd_Mo_readCell_161 : decode kc_Mo_readCell 161 = .ok (.iconst 1, 1) := by decide +kernel
theorem kd_Mo_readCell_162 : decode kc_Mo_readCell 162 = .ok (.if_icmp .ne 7, 3) := by decide +kernel
theorem kd_Mo_readCell_165 : decode kc_Mo_readCell 165 = .ok (.iconst 1, 1) := by decide +kernel
theorem kd_Mo_readCell_166 : decode kc_Mo_readCell 166 = .ok (.goto 4, 3) := by decide +kernel
theorem kd_Mo_readCell_169 : decode kc_Mo_readCell 169 = .ok (.iconst 0, 1) := by decide +kernel
theorem kd_Mo_readCell_170 : decode kc_Mo_readCell 170 = .ok (.invokevirtual 305, 3) := by decide +kernel
theorem kd_Mo_readCell_173 : decode kc_Mo_readCell 173 = .ok (.aload_n 0, 1) := by decide +kernel
theorem kd_Mo_readCell_174 : decode kc_Mo_readCell 174 = .ok (.bipush 41, 2) := by decide +kernel
theorem kd_Mo_readCell_176 : decode kc_Mo_readCell 176 = .ok (.invokevirtual 349, 3) := by decide +kernel
theorem kd_Mo_readCell_179 : decode kc_Mo_readCell 179 = .ok (.goto 8, 3) := by decide +kernel
theorem kd_Mo_readCell_182 : decode kc_Mo_readCell 182 = .ok (.aload_n 0, 1) := by decide +kernel
theorem kd_Mo_readCell_183 : decode kc_Mo_readCell 183 = .ok (.iload_n 1, 1) := by decide +kernel
theorem kd_Mo_readCell_184 : decode kc_Mo_readCell 184 = .ok (.invokevirtual 442, 3) := by decide +kernel
theorem kd_Mo_readCell_187 : decode kc_Mo_readCell 187 = .ok (.return_, 1) := by decide +kernel
theorem kd_Mo_readPlace_0 : decode kc_Mo_readPlace 0 = .ok (.iconst (-1), 1) := by decide +kernel
theorem kd_Mo_readPlace_1 : decode kc_Mo_readPlace 1 = .ok (.istore_n 1, 1) := by decide +kernel
theorem kd_Mo_readPlace_2 : decode kc_Mo_readPlace 2 = .ok (.iconst 0, 1) := by decide +kernel
theorem kd_Mo_readPlace_3 : decode kc_Mo_readPlace 3 = .ok (.istore_n 2, 1) := by decide +kernel
theorem kd_Mo_readPlace_4 : decode kc_Mo_readPlace 4 = .ok (.iload_n 2, 1) := by decide +kernel
theorem kd_Mo_readPlace_5 : decode kc_Mo_readPlace 5 = .ok (.bipush 6, 2) := by decide +kernel
theorem kd_Mo_readPlace_7 : decode kc_Mo_readPlace 7 = .ok (.if_icmp .ge 61, 3) := by decide +kernel
theorem kd_Mo_readPlace_10 : decode kc_Mo_readPlace 10 = .ok (.aload_n 0, 1) := by decide +kernel
theorem kd_Mo_readPlace_11 : decode kc_Mo_readPlace 11 = .ok (.aload_n 0, 1) := by decide +kernel
theorem kd_Mo_readPlace_12 : decode kc_Mo_readPlace 12 = .ok (.getfield 214, 3) := by decide +kernel
theorem kd_Mo_readPlace_15 : decode kc_Mo_readPlace 15 = .ok (.iconst 1, 1) := by decide +kernel
theorem kd_Mo_readPlace_16 : decode kc_Mo_readPlace 16 = .ok (.iadd, 1) := by decide +kernel
theorem kd_Mo_readPlace_17 : decode kc_Mo_readPlace 17 = .ok (.invokevirtual 191, 3) := by decide +kernel
theorem kd_Mo_readPlace_20 : decode kc_Mo_readPlace 20 = .ok (.ldc_w 285, 3) := by decide +kernel
theorem kd_Mo_readPlace_23 : decode kc_Mo_readPlace 23 = .ok (.iconst 2, 1) := by decide +kernel
theorem kd_Mo_readPlace_24 : decode kc_Mo_readPlace 24 = .ok (.iload_n 2, 1) := by decide +kernel
theorem kd_Mo_readPlace_25 : decode kc_Mo_readPlace 25 = .ok (.imul, 1) := by decide +kernel
theorem kd_Mo_readPlace_26 : decode kc_Mo_readPlace 26 = .ok (.invokevirtual 255, 3) := by decide +kernel
theorem kd_Mo_readPlace_29 : decode kc_Mo_readPlace 29 = .ok (.if_icmp .ne 31, 3) := by decide +kernel
theorem kd_Mo_readPlace_32 : decode kc_Mo_readPlace 32 = .ok (.aload_n 0, 1) := by decide +kernel
theorem kd_Mo_readPlace_33 : decode kc_Mo_readPlace 33 = .ok (.aload_n 0, 1) := by decide +kernel
theorem kd_Mo_readPlace_34 : decode kc_Mo_readPlace 34 = .ok (.getfield 214, 3) := by decide +kernel
theorem kd_Mo_readPlace_37 : decode kc_Mo_readPlace 37 = .ok (.iconst 2, 1) := by decide +kernel
theorem kd_Mo_readPlace_38 : decode kc_Mo_readPlace 38 = .ok (.iadd, 1) := by decide +kernel
theorem kd_Mo_readPlace_39 : decode kc_Mo_readPlace 39 = .ok (.invokevirtual 191, 3) := by decide +kernel
theorem kd_Mo_readPlace_42 : decode kc_Mo_readPlace 42 = .ok (.ldc_w 285, 3) := by decide +kernel
theorem kd_Mo_readPlace_45 : decode kc_Mo_readPlace 45 = .ok (.iconst 2, 1) := by decide +kernel
theorem kd_Mo_readPlace_46 : decode kc_Mo_readPlace 46 = .ok (.iload_n 2, 1) := by decide +kernel
theorem kd_Mo_readPlace_47 : decode kc_Mo_readPlace 47 = .ok (.imul, 1) := by decide +kernel
theorem kd_Mo_readPlace_48 : decode kc_Mo_readPlace 48 = .ok (.iconst 1, 1) := by decide +kernel
theorem kd_Mo_readPlace_49 : decode kc_Mo_readPlace 49 = .ok (.iadd, 1) := by decide +kernel
theorem kd_Mo_readPlace_50 : decode kc_Mo_readPlace 50 = .ok (.invokevirtual 255, 3) := by decide +kernel
theorem kd_Mo_readPlace_53 : decode kc_Mo_readPlace 53 = .ok (.if_icmp .ne 7, 3) := by decide +kernel
theorem kd_Mo_readPlace_56 : decode kc_Mo_readPlace 56 = .ok (.iload_n 2, 1) := by decide +kernel
theorem kd_Mo_readPlace_57 : decode kc_Mo_readPlace 57 = .ok (.goto 4, 3) := by decide +kernel
theorem kd_Mo_readPlace_60 : decode kc_Mo_readPlace 60 = .ok (.iload_n 1, 1) := by decide +kernel
theorem kd_Mo_readPlace_61 : decode kc_Mo_readPlace 61 = .ok (.istore_n 1, 1) := by decide +kernel
theorem kd_Mo_readPlace_62 : decode kc_Mo_readPlace 62 = .ok (.iinc 2 1, 3) := by decide +kernel
theorem kd_Mo_readPlace_65 : decode kc_Mo_readPlace 65 = .ok (.goto (-61), 3) := by decide +kernel
theorem kd_Mo_readPlace_68 : decode kc_Mo_readPlace 68 = .ok (.iload_n 1, 1) := by decide +kernel
theorem kd_Mo_readPlace_69 : decode kc_Mo_readPlace 69 = .ok (.ifCond .ge 9, 3) := by decide +kernel
theorem kd_Mo_readPlace_72 : decode kc_Mo_readPlace 72 = .ok (.ldc2_w 262, 3) := by decide +kernel
theorem kd_Mo_readPlace_75 : decode kc_Mo_readPlace 75 = .ok (.goto 15, 3) := by decide +kernel
theorem kd_Mo_readPlace_78 : decode kc_Mo_readPlace 78 = .ok (.aload_n 0, 1) := by decide +kernel
theorem kd_Mo_readPlace_79 : decode kc_Mo_readPlace 79 = .ok (.aload_n 0, 1) := by decide +kernel
theorem kd_Mo_readPlace_80 : decode kc_Mo_readPlace 80 = .ok (.getfield 214, 3) := by decide +kernel
theorem kd_Mo_readPlace_83 : decode kc_Mo_readPlace 83 = .ok (.iconst 3, 1) := by decide +kernel
theorem kd_Mo_readPlace_84 : decode kc_Mo_readPlace 84 = .ok (.iadd, 1) := by decide +kernel
theorem kd_Mo_readPlace_85 : decode kc_Mo_readPlace 85 = .ok (.bipush 10, 2) := by decide +kernel
theorem kd_Mo_readPlace_87 : decode kc_Mo_readPlace 87 = .ok (.invokevirtual 271, 3) := by decide +kernel
theorem kd_Mo_readPlace_90 : decode kc_Mo_readPlace 90 = .ok (.lstore_n 2, 1) := by decide +kernel
theorem kd_Mo_readPlace_91 : decode kc_Mo_readPlace 91 = .ok (.lload_n 2, 1) := by decide +kernel
theorem kd_Mo_readPlace_92 : decode kc_Mo_readPlace 92 = .ok (.lconst 0, 1) := by decide +kernel
theorem kd_Mo_readPlace_93 : decode kc_Mo_readPlace 93 = .ok (.lcmp, 1) := by decide +kernel
theorem kd_Mo_readPlace_94 : decode kc_Mo_readPlace 94 = .ok (.ifCond .lt 33, 3) := by decide +kernel
theorem kd_Mo_readPlace_97 : decode kc_Mo_readPlace 97 = .ok (.lload_n 2, 1) := by decide +kernel
theorem kd_Mo_readPlace_98 : decode kc_Mo_readPlace 98 = .ok (.iload_n 1, 1) := by decide +kernel
theorem kd_Mo_readPlace_99 : decode kc_Mo_readPlace 99 = .ok (.iconst 3, 1) := by decide +kernel
theorem kd_Mo_readPlace_100 : decode kc_Mo_readPlace 100 = .ok (.if_icmp .ge 9, 3) := by decide +kernel
theorem kd_Mo_readPlace_103 : decode kc_Mo_readPlace 103 = .ok (.ldc2_w 287, 3) := by decide +kernel
theorem kd_Mo_readPlace_106 : decode kc_Mo_readPlace 106 = .ok (.goto 6, 3) := by decide +kernel
theorem kd_Mo_readPlace_109 : decode kc_Mo_readPlace 109 = .ok (.ldc2_w 289, 3) := by decide +kernel
theorem kd_Mo_readPlace_112 : decode kc_Mo_readPlace 112 = .ok (.lcmp, 1) := by decide +kernel
theorem kd_Mo_readPlace_113 : decode kc_Mo_readPlace 113 = .ok (.ifCond .gt 14, 3) := by decide +kernel
theorem kd_Mo_readPlace_116 : decode kc_Mo_readPlace 116 = .ok (.aload_n 0, 1) := by decide +kernel
theorem kd_Mo_readPlace_117 : decode kc_Mo_readPlace 117 = .ok (.aload_n 0, 1) := by decide +kernel
theorem kd_Mo_readPlace_118 : decode kc_Mo_readPlace 118 = .ok (.getfield 208, 3) := by decide +kernel
theorem kd_Mo_readPlace_121 : decode kc_Mo_readPlace 121 = .ok (.invokevirtual 235, 3) := by decide +kernel
theorem kd_Mo_readPlace_124 : decode kc_Mo_readPlace 124 = .ok (.ifCond .eq 15, 3) := by decide +kernel
theorem kd_Mo_readPlace_127 : decode kc_Mo_readPlace 127 = .ok (.aload_n 0, 1) := by decide +kernel
theorem kd_Mo_readPlace_128 : decode kc_Mo_readPlace 128 = .ok (.iconst 5, 1) := by decide +kernel
theorem kd_Mo_readPlace_129 : decode kc_Mo_readPlace 129 = .ok (.aload_n 0, 1) := by decide +kernel
theorem kd_Mo_readPlace_130 : decode kc_Mo_readPlace 130 = .ok (.getfield 214, 3) := by decide +kernel
theorem kd_Mo_readPlace_133 : decode kc_Mo_readPlace 133 = .ok (.invokevirtual 204, 3) := by decide +kernel
theorem kd_Mo_readPlace_136 : decode kc_Mo_readPlace 136 = .ok (.goto 20, 3) := by decide +kernel
theorem kd_Mo_readPlace_139 : decode kc_Mo_readPlace 139 = .ok (.aload_n 0, 1) := by decide +kernel
theorem kd_Mo_readPlace_140 : decode kc_Mo_readPlace 140 = .ok (.iconst 4, 1) := by decide +kernel
theorem kd_Mo_readPlace_141 : decode kc_Mo_readPlace 141 = .ok (.putfield 217, 3) := by decide +kernel
theorem kd_Mo_readPlace_144 : decode kc_Mo_readPlace 144 = .ok (.aload_n 0, 1) := by decide +kernel
theorem kd_Mo_readPlace_145 : decode kc_Mo_readPlace 145 = .ok (.sipush 256, 3) := by decide +kernel
theorem kd_Mo_readPlace_148 : decode kc_Mo_readPlace 148 = .ok (.iload_n 1, 1) := by decide +kernel
theorem kd_Mo_readPlace_149 : decode kc_Mo_readPlace 149 = .ok (.imul, 1) := by decide +kernel
theorem kd_Mo_readPlace_150 : decode kc_Mo_readPlace 150 = .ok (.lload_n 2, 1) := by decide +kernel
theorem kd_Mo_readPlace_151 : decode kc_Mo_readPlace 151 = .ok (.l2i, 1) := by decide +kernel
theorem kd_Mo_readPlace_152 : decode kc_Mo_readPlace 152 = .ok (.iadd, 1) := by decide +kernel
theorem kd_Mo_readPlace_153 : decode kc_Mo_readPlace 153 = .ok (.putfield 242, 3) := by decide +kernel
theorem kd_Mo_readPlace_156 : decode kc_Mo_readPlace 156 = .ok (.return_, 1) := by decide +kernel
theorem kd_Mo_readSign_0 : decode kc_Mo_readSign 0 = .ok (.aload_n 0, 1) := by decide +kernel
theorem kd_Mo_readSign_1 : decode kc_Mo_readSign 1 = .ok (.aload_n 0, 1) := by decide +kernel
theorem kd_Mo_readSign_2 : decode kc_Mo_readSign 2 = .ok (.getfield 214, 3) := by decide +kernel
theorem kd_Mo_readSign_5 : decode kc_Mo_readSign 5 = .ok (.invokevirtual 187, 3) := by decide +kernel
theorem kd_Mo_readSign_8 : decode kc_Mo_readSign 8 = .ok (.istore_n 1, 1) := by decide +kernel
theorem kd_Mo_readSign_9 : decode kc_Mo_readSign 9 = .ok (.aload_n 0, 1) := by decide +kernel
theorem kd_Mo_readSign_10 : decode kc_Mo_readSign 10 = .ok (.aload_n 0, 1) := by decide +kernel
theorem kd_Mo_readSign_11 : decode kc_Mo_readSign 11 = .ok (.getfield 214, 3) := by decide +kernel
theorem kd_Mo_readSign_14 : decode kc_Mo_readSign 14 = .ok (.iconst 1, 1) := by decide +kernel
theorem kd_Mo_readSign_15 : decode kc_Mo_readSign 15 = .ok (.iadd, 1) := by decide +kernel
theorem kd_Mo_readSign_16 : decode kc_Mo_readSign 16 = .ok (.invokevirtual 187, 3) := by decide +kernel
theorem kd_Mo_readSign_19 : decode kc_Mo_readSign 19 = .ok (.istore_n 2, 1) := by decide +kernel
theorem kd_Mo_readSign_20 : decode kc_Mo_readSign 20 = .ok (.iload_n 1, 1) := by decide +kernel
theorem kd_Mo_readSign_21 : decode kc_Mo_readSign 21 = .ok (.bipush 58, 2) := by decide +kernel
theorem kd_Mo_readSign_23 : decode kc_Mo_readSign 23 = .ok (.if_icmp .ne 15, 3) := by decide +kernel
theorem kd_Mo_readSign_26 : decode kc_Mo_readSign 26 = .ok (.iload_n 2, 1) := by decide +kernel
theorem kd_Mo_readSign_27 : decode kc_Mo_readSign 27 = .ok (.bipush 61, 2) := by decide +kernel
theorem kd_Mo_readSign_29 : decode kc_Mo_readSign 29 = .ok (.if_icmp .ne 9, 3) := by decide +kernel
theorem kd_Mo_readSign_32 : decode kc_Mo_readSign 32 = .ok (.sipush 256, 3) := by decide +kernel
theorem kd_Mo_readSign_35 : decode kc_Mo_readSign 35 = .ok (.goto 76, 3) := by decide +kernel
theorem kd_Mo_readSign_38 : decode kc_Mo_readSign 38 = .ok (.iload_n 1, 1) := by decide +kernel
theorem kd_Mo_readSign_39 : decode kc_Mo_readSign 39 = .ok (.bipush 46, 2) := by decide +kernel
theorem kd_Mo_readSign_41 : decode kc_Mo_readSign 41 = .ok (.if_icmp .ne 15, 3) := by decide +kernel
theorem kd_Mo_readSign_44 : decode kc_Mo_readSign 44 = .ok (.iload_n 2, 1) := by decide +kernel
theorem kd_Mo_readSign_45 : decode kc_Mo_readSign 45 = .ok (.bipush 46, 2) := by decide +kernel
theorem kd_Mo_readSign_47 : decode kc_Mo_readSign 47 = .ok (.if_icmp .ne 9, 3) := by decide +kernel
theorem kd_Mo_readSign_50 : decode kc_Mo_readSign 50 = .ok (.sipush 257, 3) := by decide +kernel
theorem kd_Mo_readSign_53 : decode kc_Mo_readSign 53 = .ok (.goto 58, 3) := by decide +kernel
theorem kd_Mo_readSign_56 : decode kc_Mo_readSign 56 = .ok (.iload_n 1, 1) := by decide +kernel
theorem kd_Mo_readSign_57 : decode kc_Mo_readSign 57 = .ok (.bipush 60, 2) := by decide +kernel
theorem kd_Mo_readSign_59 : decode kc_Mo_readSign 59 = .ok (.if_icmp .ne 15, 3) := by decide +kernel
theorem kd_Mo_readSign_62 : decode kc_Mo_readSign 62 = .ok (.iload_n 2, 1) := by decide +kernel
theorem kd_Mo_readSign_63 : decode kc_Mo_readSign 63 = .ok (.bipush 61, 2) := by decide +kernel
theorem kd_Mo_readSign_65 : decode kc_Mo_readSign 65 = .ok (.if_icmp .ne 9, 3) := by decide +kernel
theorem kd_Mo_readSign_68 : decode kc_Mo_readSign 68 = .ok (.sipush 258, 3) := by decide +kernel
theorem kd_Mo_readSign_71 : decode kc_Mo_readSign 71 = .ok (.goto 40, 3) := by decide +kernel
theorem kd_Mo_readSign_74 : decode kc_Mo_readSign 74 = .ok (.iload_n 1, 1) := by decide +kernel
theorem kd_Mo_readSign_75 : decode kc_Mo_readSign 75 = .ok (.bipush 62, 2) := by decide +kernel
theorem kd_Mo_readSign_77 : decode kc_Mo_readSign 77 = .ok (.if_icmp .ne 15, 3) := by decide +kernel
theorem kd_Mo_readSign_80 : decode kc_Mo_readSign 80 = .ok (.iload_n 2, 1) := by decide +kernel
theorem kd_Mo_readSign_81 : decode kc_Mo_readSign 81 = .ok (.bipush 61, 2) := by decide +kernel
theorem kd_Mo_readSign_83 : decode kc_Mo_readSign 83 = .ok (.if_icmp .ne 9, 3) := by decide +kernel
theorem kd_Mo_readSign_86 : decode kc_Mo_readSign 86 = .ok (.sipush 259, 3) := by decide +kernel
theorem kd_Mo_readSign_89 : decode kc_Mo_readSign 89 = .ok (.goto 22, 3) := by decide +kernel
theorem kd_Mo_readSign_92 : decode kc_Mo_readSign 92 = .ok (.iload_n 1, 1) := by decide +kernel
theorem kd_Mo_readSign_93 : decode kc_Mo_readSign 93 = .ok (.bipush 60, 2) := by decide +kernel
theorem kd_Mo_readSign_95 : decode kc_Mo_readSign 95 = .ok (.if_icmp .ne 15, 3) := by decide +kernel
theorem kd_Mo_readSign_98 : decode kc_Mo_readSign 98 = .ok (.iload_n 2, 1) := by decide +kernel
theorem kd_Mo_readSign_99 : decode kc_Mo_readSign 99 = .ok (.bipush 62, 2) := by decide +kernel
theorem kd_Mo_readSign_101 : decode kc_Mo_readSign 101 = .ok (.if_icmp .ne 9, 3) := by decide +kernel
theorem kd_Mo_readSign_104 : decode kc_Mo_readSign 104 = .ok (.sipush 260, 3) := by decide +kernel
theorem kd_Mo_readSign_107 : decode kc_Mo_readSign 107 = .ok (.goto 4, 3) := by decide +kernel
theorem kd_Mo_readSign_110 : decode kc_Mo_readSign 110 = .ok (.iconst 0, 1) := by decide +kernel
theorem kd_Mo_readSign_111 : decode kc_Mo_readSign 111 = .ok (.istore_n 3, 1) := by decide +kernel
theorem kd_Mo_readSign_112 : decode kc_Mo_readSign 112 = .ok (.iload_n 1, 1) := by decide +kernel
theorem kd_Mo_readSign_113 : decode kc_Mo_readSign 113 = .ok (.ifCond .le 25, 3) := by decide +kernel
theorem kd_Mo_readSign_116 : decode kc_Mo_readSign 116 = .ok (.iload_n 1, 1) := by decide +kernel
theorem kd_Mo_readSign_117 : decode kc_Mo_readSign 117 = .ok (.sipush 128, 3) := by decide +kernel
theorem kd_Mo_readSign_120 : decode kc_Mo_readSign 120 = .ok (.if_icmp .ge 18, 3) := by decide +kernel
theorem kd_Mo_readSign_123 : decode kc_Mo_readSign 123 = .ok (.ldc_w 291, 3) := by decide +kernel
theorem kd_Mo_readSign_126 : decode kc_Mo_readSign 126 = .ok (.iload_n 1, 1) := by decide +kernel
theorem kd_Mo_readSign_127 : decode kc_Mo_readSign 127 = .ok (.i2c, 1) := by decide +kernel
theorem kd_Mo_readSign_128 : decode kc_Mo_readSign 128 = .ok (.invokevirtual 293, 3) := by decide +kernel
theorem kd_Mo_readSign_131 : decode kc_Mo_readSign 131 = .ok (.ifCond .lt 7, 3) := by decide +kernel
theorem kd_Mo_readSign_134 : decode kc_Mo_readSign 134 = .ok (.iconst 1, 1) := by decide +kernel
theorem kd_Mo_readSign_135 : decode kc_Mo_readSign 135 = .ok (.goto 4, 3) := by decide +kernel
theorem kd_Mo_readSign_138 : decode kc_Mo_readSign 138 = .ok (.iconst 0, 1) := by decide +kernel
theorem kd_Mo_readSign_139 : decode kc_Mo_readSign 139 = .ok (.istore 4, 2) := by decide +kernel
theorem kd_Mo_readSign_141 : decode kc_Mo_readSign 141 = .ok (.iload_n 3, 1) := by decide +kernel
theorem kd_Mo_readSign_142 : decode kc_Mo_readSign 142 = .ok (.ifCond .ne 20, 3) := by decide +kernel
theorem kd_Mo_readSign_145 : decode kc_Mo_readSign 145 = .ok (.iload 4, 2) := by decide +kernel
theorem kd_Mo_readSign_147 : decode kc_Mo_readSign 147 = .ok (.ifCond .ne 15, 3) := by decide +kernel
theorem kd_Mo_readSign_150 : decode kc_Mo_readSign 150 = .ok (.aload_n 0, 1) := by decide +kernel
theorem kd_Mo_readSign_151 : decode kc_Mo_readSign 151 = .ok (.iconst 1, 1) := by decide +kernel
theorem kd_Mo_readSign_152 : decode kc_Mo_readSign 152 = .ok (.aload_n 0, 1) := by decide +kernel
theorem kd_Mo_readSign_153 : decode kc_Mo_readSign 153 = .ok (.getfield 214, 3) := by decide +kernel
theorem kd_Mo_readSign_156 : decode kc_Mo_readSign 156 = .ok (.invokevirtual 204, 3) := by decide +kernel
theorem kd_Mo_readSign_159 : decode kc_Mo_readSign 159 = .ok (.goto 39, 3) := by decide +kernel
theorem kd_Mo_readSign_162 : decode kc_Mo_readSign 162 = .ok (.aload_n 0, 1) := by decide +kernel
theorem kd_Mo_readSign_163 : decode kc_Mo_readSign 163 = .ok (.iconst 5, 1) := by decide +kernel
theorem kd_Mo_readSign_164 : decode kc_Mo_readSign 164 = .ok (.putfield 217, 3) := by decide +kernel
theorem kd_Mo_readSign_167 : decode kc_Mo_readSign 167 = .ok (.aload_n 0, 1) := by decide +kernel
theorem kd_Mo_readSign_168 : decode kc_Mo_readSign 168 = .ok (.iload_n 3, 1) := by decide +kernel
theorem kd_Mo_readSign_169 : decode kc_Mo_readSign 169 = .ok (.ifCond .le 7, 3) := by decide +kernel
theorem kd_Mo_readSign_172 : decode kc_Mo_readSign 172 = .ok (.iload_n 3, 1) := by decide +kernel
theorem kd_Mo_readSign_173 : decode kc_Mo_readSign 173 = .ok (.goto 4, 3) := by decide +kernel
theorem kd_Mo_readSign_176 : decode kc_Mo_readSign 176 = .ok (.iload_n 1, 1) := by decide +kernel
theorem kd_Mo_readSign_177 : decode kc_Mo_readSign 177 = .ok (.putfield 242, 3) := by decide +kernel
theorem kd_Mo_readSign_180 : decode kc_Mo_readSign 180 = .ok (.aload_n 0, 1) := by decide +kernel
theorem kd_Mo_readSign_181 : decode kc_Mo_readSign 181 = .ok (.aload_n 0, 1) := by decide +kernel
theorem kd_Mo_readSign_182 : decode kc_Mo_readSign 182 = .ok (.getfield 214, 3) := by decide +kernel
theorem kd_Mo_readSign_185 : decode kc_Mo_readSign 185 = .ok (.iload_n 3, 1) := by decide +kernel
theorem kd_Mo_readSign_186 : decode kc_Mo_readSign 186 = .ok (.ifCond .le 7, 3) := by decide +kernel
theorem kd_Mo_readSign_189 : decode kc_Mo_readSign 189 = .ok (.iconst 2, 1) := by decide +kernel
theorem kd_Mo_readSign_190 : decode kc_Mo_readSign 190 = .ok (.goto 4, 3) := by decide +kernel
theorem kd_Mo_readSign_193 : decode kc_Mo_readSign 193 = .ok (.iconst 1, 1) := by decide +kernel
theorem kd_Mo_readSign_194 : decode kc_Mo_readSign 194 = .ok (.iadd, 1) := by decide +kernel
theorem kd_Mo_readSign_195 : decode kc_Mo_readSign 195 = .ok (.putfield 208, 3) := by decide +kernel
theorem kd_Mo_readSign_198 : decode kc_Mo_readSign 198 = .ok (.return_, 1) := by decide +kernel
theorem kd_Mo_simple_0 : decode kc_Mo_simple 0 = .ok (.aload_n 0, 1) := by decide +kernel
theorem kd_Mo_simple_1 : decode kc_Mo_simple 1 = .ok (.getfield 217, 3) := by decide +kernel
theorem kd_Mo_simple_4 : decode kc_Mo_simple 4 = .ok (.iconst 2, 1) := by decide +kernel
theorem kd_Mo_simple_5 : decode kc_Mo_simple 5 = .ok (.if_icmp .ne 25, 3) := by decide +kernel
theorem kd_Mo_simple_8 : decode kc_Mo_simple 8 = .ok (.aload_n 0, 1) := by decide +kernel
theorem kd_Mo_simple_9 : decode kc_Mo_simple 9 = .ok (.getfield 242, 3) := by decide +kernel
theorem kd_Mo_simple_12 : decode kc_Mo_simple 12 = .ok (.bipush 11, 2) := by decide +kernel
theorem kd_Mo_simple_14 : decode kc_Mo_simple 14 = .ok (.if_icmp .lt 16, 3) := by decide +kernel
theorem kd_Mo_simple_17 : decode kc_Mo_simple 17 = .ok (.aload_n 0, 1) := by decide +kernel
theorem kd_Mo_simple_18 : decode kc_Mo_simple 18 = .ok (.getfield 242, 3) := by decide +kernel
theorem kd_Mo_simple_21 : decode kc_Mo_simple 21 = .ok (.bipush 14, 2) := by decide +kernel
theorem kd_Mo_simple_23 : decode kc_Mo_simple 23 = .ok (.if_icmp .ge 7, 3) := by decide +kernel
theorem kd_Mo_simple_26 : decode kc_Mo_simple 26 = .ok (.iconst 1, 1) := by decide +kernel
theorem kd_Mo_simple_27 : decode kc_Mo_simple 27 = .ok (.goto 4, 3) := by decide +kernel
theorem kd_Mo_simple_30 : decode kc_Mo_simple 30 = .ok (.iconst 0, 1) := by decide +kernel
theorem kd_Mo_simple_31 : decode kc_Mo_simple 31 = .ok (.istore_n 2, 1) := by decide +kernel
theorem kd_Mo_simple_32 : decode kc_Mo_simple 32 = .ok (.iload_n 2, 1) := by decide +kernel
theorem kd_Mo_simple_33 : decode kc_Mo_simple 33 = .ok (.ifCond .eq 24, 3) := by decide +kernel
theorem kd_Mo_simple_36 : decode kc_Mo_simple 36 = .ok (.aload_n 0, 1) := by decide +kernel
theorem kd_Mo_simple_37 : decode kc_Mo_simple 37 = .ok (.iload_n 1, 1) := by decide +kernel
theorem kd_Mo_simple_38 : decode kc_Mo_simple 38 = .ok (.bipush 8, 2) := by decide +kernel
theorem kd_Mo_simple_40 : decode kc_Mo_simple 40 = .ok (.aload_n 0, 1) := by decide +kernel
theorem kd_Mo_simple_41 : decode kc_Mo_simple 41 = .ok (.getfield 214, 3) := by decide +kernel
theorem kd_Mo_simple_44 : decode kc_Mo_simple 44 = .ok (.aload_n 0, 1) := by decide +kernel
theorem kd_Mo_simple_45 : decode kc_Mo_simple 45 = .ok (.getfield 242, 3) := by decide +kernel
theorem kd_Mo_simple_48 : decode kc_Mo_simple 48 = .ok (.bipush 11, 2) := by decide +kernel
theorem kd_Mo_simple_50 : decode kc_Mo_simple 50 = .ok (.isub, 1) := by decide +kernel
theorem kd_Mo_simple_51 : decode kc_Mo_simple 51 = .ok (.invokevirtual 342, 3) := by decide +kernel
theorem kd_Mo_simple_54 : decode kc_Mo_simple 54 = .ok (.goto 4, 3) := by decide +kernel
theorem kd_Mo_simple_57 : decode kc_Mo_simple 57 = .ok (.iconst (-1), 1) := by decide +kernel
theorem kd_Mo_simple_58 : decode kc_Mo_simple 58 = .ok (.istore_n 3, 1) := by decide +kernel
theorem kd_Mo_simple_59 : decode kc_Mo_simple 59 = .ok (.aload_n 0, 1) := by decide +kernel
theorem kd_Mo_simple_60 : decode kc_Mo_simple 60 = .ok (.iload_n 2, 1) := by decide +kernel
theorem kd_Mo_simple_61 : decode kc_Mo_simple 61 = .ok (.invokevirtual 305, 3) := by decide +kernel
theorem kd_Mo_simple_64 : decode kc_Mo_simple 64 = .ok (.return_, 1) := by decide +kernel
theorem kd_Mo_want_0 : decode kc_Mo_want 0 = .ok (.aload_n 0, 1) := by decide +kernel
theorem kd_Mo_want_1 : decode kc_Mo_want 1 = .ok (.getfield 201, 3) := by decide +kernel
theorem kd_Mo_want_4 : decode kc_Mo_want 4 = .ok (.ifCond .ne 18, 3) := by decide +kernel
theorem kd_Mo_want_7 : decode kc_Mo_want 7 = .ok (.iload_n 1, 1) := by decide +kernel
theorem kd_Mo_want_8 : decode kc_Mo_want 8 = .ok (.ifCond .eq 10, 3) := by decide +kernel
theorem kd_Mo_want_11 : decode kc_Mo_want 11 = .ok (.aload_n 0, 1) := by decide +kernel
theorem kd_Mo_want_12 : decode kc_Mo_want 12 = .ok (.invokevirtual 296, 3) := by decide +kernel
theorem kd_Mo_want_15 : decode kc_Mo_want 15 = .ok (.goto 7, 3) := by decide +kernel
theorem kd_Mo_want_18 : decode kc_Mo_want 18 = .ok (.aload_n 0, 1) := by decide +kernel
theorem kd_Mo_want_19 : decode kc_Mo_want 19 = .ok (.invokevirtual 299, 3) := by decide +kernel
theorem kd_Mo_want_22 : decode kc_Mo_want 22 = .ok (.return_, 1) := by decide +kernel
theorem kd_Mo_wantSign_0 : decode kc_Mo_wantSign 0 = .ok (.aload_n 0, 1) := by decide +kernel
theorem kd_Mo_wantSign_1 : decode kc_Mo_wantSign 1 = .ok (.aload_n 0, 1) := by decide +kernel
theorem kd_Mo_wantSign_2 : decode kc_Mo_wantSign 2 = .ok (.iload_n 1, 1) := by decide +kernel
theorem kd_Mo_wantSign_3 : decode kc_Mo_wantSign 3 = .ok (.invokevirtual 309, 3) := by decide +kernel
theorem kd_Mo_wantSign_6 : decode kc_Mo_wantSign 6 = .ok (.invokevirtual 305, 3) := by decide +kernel
theorem kd_Mo_wantSign_9 : decode kc_Mo_wantSign 9 = .ok (.return_, 1) := by decide +kernel
theorem kd_Mo_wrong_0 : decode kc_Mo_wrong 0 = .ok (.aload_n 0, 1) := by decide +kernel
theorem kd_Mo_wrong_1 : decode kc_Mo_wrong 1 = .ok (.bipush 6, 2) := by decide +kernel
theorem kd_Mo_wrong_3 : decode kc_Mo_wrong 3 = .ok (.aload_n 0, 1) := by decide +kernel
theorem kd_Mo_wrong_4 : decode kc_Mo_wrong 4 = .ok (.getfield 214, 3) := by decide +kernel
theorem kd_Mo_wrong_7 : decode kc_Mo_wrong 7 = .ok (.invokevirtual 204, 3) := by decide +kernel
theorem kd_Mo_wrong_10 : decode kc_Mo_wrong 10 = .ok (.return_, 1) := by decide +kernel
theorem kd_Sl_canEncode_0 : decode kc_Sl_canEncode 0 = .ok (.iload_n 0, 1) := by decide +kernel
theorem kd_Sl_canEncode_1 : decode kc_Sl_canEncode 1 = .ok (.ifCond .lt 14, 3) := by decide +kernel
theorem kd_Sl_canEncode_4 : decode kc_Sl_canEncode 4 = .ok (.iload_n 0, 1) := by decide +kernel
theorem kd_Sl_canEncode_5 : decode kc_Sl_canEncode 5 = .ok (.sipush 255, 3) := by decide +kernel
theorem kd_Sl_canEncode_8 : decode kc_Sl_canEncode 8 = .ok (.if_icmp .gt 7, 3) := by decide +kernel
theorem kd_Sl_canEncode_11 : decode kc_Sl_canEncode 11 = .ok (.iconst 1, 1) := by decide +kernel
theorem kd_Sl_canEncode_12 : decode kc_Sl_canEncode 12 = .ok (.goto 4, 3) := by decide +kernel
theorem kd_Sl_canEncode_15 : decode kc_Sl_canEncode 15 = .ok (.iconst 0, 1) := by decide +kernel
theorem kd_Sl_canEncode_16 : decode kc_Sl_canEncode 16 = .ok (.ireturn, 1) := by decide +kernel
theorem kd_Sl_indexOf_0 : decode kc_Sl_indexOf 0 = .ok (.iload_n 1, 1) := by decide +kernel
theorem kd_Sl_indexOf_1 : decode kc_Sl_indexOf 1 = .ok (.invokestatic 88, 3) := by decide +kernel
theorem kd_Sl_indexOf_4 : decode kc_Sl_indexOf 4 = .ok (.ifCond .ne 5, 3) := by decide +kernel
theorem kd_Sl_indexOf_7 : decode kc_Sl_indexOf 7 = .ok (.iconst (-1), 1) := by decide +kernel
theorem kd_Sl_indexOf_8 : decode kc_Sl_indexOf 8 = .ok (.ireturn, 1) := by decide +kernel
theorem kd_Sl_indexOf_9 : decode kc_Sl_indexOf 9 = .ok (.iload_n 2, 1) := by decide +kernel
theorem kd_Sl_indexOf_10 : decode kc_Sl_indexOf 10 = .ok (.iconst 0, 1) := by decide +kernel
theorem kd_Sl_indexOf_11 : decode kc_Sl_indexOf 11 = .ok (.invokestatic 92, 3) := by decide +kernel
theorem kd_Sl_indexOf_14 : decode kc_Sl_indexOf 14 = .ok (.istore_n 2, 1) := by decide +kernel
theorem kd_Sl_indexOf_15 : decode kc_Sl_indexOf 15 = .ok (.iload_n 3, 1) := by decide +kernel
theorem kd_Sl_indexOf_16 : decode kc_Sl_indexOf 16 = .ok (.aload_n 0, 1) := by decide +kernel
theorem kd_Sl_indexOf_17 : decode kc_Sl_indexOf 17 = .ok (.arraylength, 1) := by decide +kernel
theorem kd_Sl_indexOf_18 : decode kc_Sl_indexOf 18 = .ok (.invokestatic 38, 3) := by decide +kernel
theorem kd_Sl_indexOf_21 : decode kc_Sl_indexOf 21 = .ok (.istore_n 3, 1) := by decide +kernel
theorem kd_Sl_indexOf_22 : decode kc_Sl_indexOf 22 = .ok (.iload_n 2, 1) := by decide +kernel
theorem kd_Sl_indexOf_23 : decode kc_Sl_indexOf 23 = .ok (.iload_n 3, 1) := by decide +kernel
theorem kd_Sl_indexOf_24 : decode kc_Sl_indexOf 24 = .ok (.if_icmp .lt 5, 3) := by decide +kernel
theorem kd_Sl_indexOf_27 : decode kc_Sl_indexOf 27 = .ok (.iconst (-1), 1) := by decide +kernel
theorem kd_Sl_indexOf_28 : decode kc_Sl_indexOf 28 = .ok (.ireturn, 1) := by decide +kernel
theorem kd_Sl_indexOf_29 : decode kc_Sl_indexOf 29 = .ok (.aload_n 0, 1) := by decide +kernel
theorem kd_Sl_indexOf_30 : decode kc_Sl_indexOf 30 = .ok (.iload_n 1, 1) := by decide +kernel
theorem kd_Sl_indexOf_31 : decode kc_Sl_indexOf 31 = .ok (.iload_n 2, 1) := by decide +kernel
theorem kd_Sl_indexOf_32 : decode kc_Sl_indexOf 32 = .ok (.iload_n 3, 1) := by decide +kernel
theorem kd_Sl_indexOf_33 : decode kc_Sl_indexOf 33 = .ok (.invokestatic 95, 3) := by decide +kernel
theorem kd_Sl_indexOf_36 : decode kc_Sl_indexOf 36 = .ok (.ireturn, 1) := by decide +kernel
theorem kd_Sl_indexOfChar_0 : decode kc_Sl_indexOfChar 0 = .ok (.iload_n 1, 1) := by decide +kernel
theorem kd_Sl_indexOfChar_1 : decode kc_Sl_indexOfChar 1 = .ok (.i2b, 1) := by decide +kernel
theorem kd_Sl_indexOfChar_2 : decode kc_Sl_indexOfChar 2 = .ok (.istore 4, 2) := by decide +kernel
theorem kd_Sl_indexOfChar_4 : decode kc_Sl_indexOfChar 4 = .ok (.iload_n 2, 1) := by decide +kernel
theorem kd_Sl_indexOfChar_5 : decode kc_Sl_indexOfChar 5 = .ok (.istore 5, 2) := by decide +kernel
theorem kd_Sl_indexOfChar_7 : decode kc_Sl_indexOfChar 7 = .ok (.iload 5, 2) := by decide +kernel
theorem kd_Sl_indexOfChar_9 : decode kc_Sl_indexOfChar 9 = .ok (.iload_n 3, 1) := by decide +kernel
theorem kd_Sl_indexOfChar_10 : decode kc_Sl_indexOfChar 10 = .ok (.if_icmp .ge 21, 3) := by decide +kernel
theorem kd_Sl_indexOfChar_13 : decode kc_Sl_indexOfChar 13 = .ok (.aload_n 0, 1) := by decide +kernel
theorem kd_Sl_indexOfChar_14 : decode kc_Sl_indexOfChar 14 = .ok (.iload 5, 2) := by decide +kernel
theorem kd_Sl_indexOfChar_16 : decode kc_Sl_indexOfChar 16 = .ok (.baload, 1) := by decide +kernel
theorem kd_Sl_indexOfChar_17 : decode kc_Sl_indexOfChar 17 = .ok (.iload 4, 2) := by decide +kernel
theorem kd_Sl_indexOfChar_19 : decode kc_Sl_indexOfChar 19 = .ok (.if_icmp .ne 6, 3) := by decide +kernel
theorem kd_Sl_indexOfChar_22 : decode kc_Sl_indexOfChar 22 = .ok (.iload 5, 2) := by decide +kernel
theorem kd_Sl_indexOfChar_24 : decode kc_Sl_indexOfChar 24 = .ok (.ireturn, 1) := by decide +kernel
theorem kd_Sl_indexOfChar_25 : decode kc_Sl_indexOfChar 25 = .ok (.iinc 5 1, 3) := by decide +kernel
theorem kd_Sl_indexOfChar_28 : decode kc_Sl_indexOfChar 28 = .ok (.goto (-21), 3) := by decide +kernel
theorem kd_Sl_indexOfChar_31 : decode kc_Sl_indexOfChar 31 = .ok (.iconst (-1), 1) := by decide +kernel
theorem kd_Sl_indexOfChar_32 : decode kc_Sl_indexOfChar 32 = .ok (.ireturn, 1) := by decide +kernel
theorem kd_St_indexOf_0 : decode kc_St_indexOf 0 = .ok (.aload_n 0, 1) := by decide +kernel
theorem kd_St_indexOf_1 : decode kc_St_indexOf 1 = .ok (.iload_n 1, 1) := by decide +kernel
theorem kd_St_indexOf_2 : decode kc_St_indexOf 2 = .ok (.iconst 0, 1) := by decide +kernel
theorem kd_St_indexOf_3 : decode kc_St_indexOf 3 = .ok (.invokevirtual 633, 3) := by decide +kernel
theorem kd_St_indexOf_6 : decode kc_St_indexOf 6 = .ok (.ireturn, 1) := by decide +kernel
theorem kd_St_indexOf2_0 : decode kc_St_indexOf2 0 = .ok (.aload_n 0, 1) := by decide +kernel
theorem kd_St_indexOf2_1 : decode kc_St_indexOf2 1 = .ok (.invokevirtual 492, 3) := by decide +kernel
theorem kd_St_indexOf2_4 : decode kc_St_indexOf2 4 = .ok (.ifCond .eq 19, 3) := by decide +kernel
theorem kd_St_indexOf2_7 : decode kc_St_indexOf2 7 = .ok (.aload_n 0, 1) := by decide +kernel
theorem kd_St_indexOf2_8 : decode kc_St_indexOf2 8 = .ok (.getfield 9, 3) := by decide +kernel
theorem kd_St_indexOf2_11 : decode kc_St_indexOf2 11 = .ok (.iload_n 1, 1) := by decide +kernel
theorem kd_St_indexOf2_12 : decode kc_St_indexOf2 12 = .ok (.iload_n 2, 1) := by decide +kernel
theorem kd_St_indexOf2_13 : decode kc_St_indexOf2 13 = .ok (.aload_n 0, 1) := by decide +kernel
theorem kd_St_indexOf2_14 : decode kc_St_indexOf2 14 = .ok (.invokevirtual 505, 3) := by decide +kernel
theorem kd_St_indexOf2_17 : decode kc_St_indexOf2 17 = .ok (.invokestatic 637, 3) := by decide +kernel
theorem kd_St_indexOf2_20 : decode kc_St_indexOf2 20 = .ok (.goto 16, 3) := by decide +kernel
theorem kd_St_indexOf2_36 : decode kc_St_indexOf2 36 = .ok (.ireturn, 1) := by decide +kernel
set_option maxHeartbeats 4000000 in
set_option maxRecDepth 100000 in
theorem zb_Mo_readPlace_61 {X : zkj_T} {S : zs_T} {P : ze_T} {l : Launch} {D : va_G} {sz0 : Nat} {rh : zs_H} (C : zk_C X km_Mo_readPlace (zs_G S l D sz0) { frames := 4, cells := 0, slots := 0, locals := 85 } (ze_E P)) (hR : zkj_R X (zd_PV S rh) (none)) {k4 : zs_H → Int32 → Int32 → (Option zs_H)} (hk4 : ∀ (h : zs_H) (x1 : Int32) (x2 : Int32), k4 h x1 x2 = some rh → zk_Ab X (zs_W S h) 0 0 4 [(0, .ref (S.1 68)), (1, .int x1), (2, .int x2)] []) (h : zs_H) (x2 : Int32) (y0 : Int32) (e : f_Mo_readPlace_61 k4 h x2 y0 = some rh) : zk_Ab X (zs_W S h) 0 0 61 [(0, .ref (S.1 68)), (2, .int x2)] [.int y0] := by
  unfold f_Mo_readPlace_61 at e
  refine zk_istore_n (lv' := [(1, _), (0, _), (2, _)]) C kd_Mo_readPlace_61 rfl (by decide) rfl rfl ?_
  refine zk_iinc (v := (x2 + 1)) (lv' := [(2, _), (1, _), (0, _)]) C kd_Mo_readPlace_62 2 rfl rfl (by decide) rfl rfl ?_
  refine zk_goto (tgt := 4) C kd_Mo_readPlace_65 (by decide) ?_
  refine zk_lvs (lv' := [(0, .ref (S.1 68)), (1, .int y0), (2, .int (x2 + 1))]) [2, 1, 0] rfl ?_
  exact hk4 h y0 (x2 + 1) e
set_option maxHeartbeats 4000000 in
set_option maxRecDepth 100000 in
theorem zb_Mo_readPlace_60 {X : zkj_T} {S : zs_T} {P : ze_T} {l : Launch} {D : va_G} {sz0 : Nat} {rh : zs_H} (C : zk_C X km_Mo_readPlace (zs_G S l D sz0) { frames := 4, cells := 0, slots := 0, locals := 85 } (ze_E P)) (hR : zkj_R X (zd_PV S rh) (none)) {k4 : zs_H → Int32 → Int32 → (Option zs_H)} (hk4 : ∀ (h : zs_H) (x1 : Int32) (x2 : Int32), k4 h x1 x2 = some rh → zk_Ab X (zs_W S h) 0 0 4 [(0, .ref (S.1 68)), (1, .int x1), (2, .int x2)] []) (h : zs_H) (x1 : Int32) (x2 : Int32) (e : f_Mo_readPlace_60 k4 h x1 x2 = some rh) : zk_Ab X (zs_W S h) 0 0 60 [(0, .ref (S.1 68)), (1, .int x1), (2, .int x2)] [] := by
  unfold f_Mo_readPlace_60 at e
  refine zk_iload_n C kd_Mo_readPlace_60 rfl 1 rfl rfl ?_
  refine zk_lvs (lv' := [(0, .ref (S.1 68)), (2, .int x2)]) [0, 2] rfl ?_
  exact zb_Mo_readPlace_61 C hR hk4 h x2 x1 e
set_option maxHeartbeats 4000000 in
set_option maxRecDepth 100000 in
theorem zb_Mo_readPlace_127 {X : zkj_T} {S : zs_T} {P : ze_T} {l : Launch} {D : va_G} {sz0 : Nat} {rh : zs_H} (C : zk_C X km_Mo_readPlace (zs_G S l D sz0) { frames := 4, cells := 0, slots := 0, locals := 85 } (ze_E P)) (hR : zkj_R X (zd_PV S rh) (none)) (h : zs_H) (e : f_Mo_readPlace_127 h = some rh) : zk_Ab X (zs_W S h) 0 0 127 [(0, .ref (S.1 68))] [] := by
  unfold f_Mo_readPlace_127 at e
  refine zk_aload_n C kd_Mo_readPlace_127 rfl 0 rfl rfl ?_
  refine zk_iconst (v := 5) C kd_Mo_readPlace_128 (by decide) rfl ?_
  refine zk_aload_n C kd_Mo_readPlace_129 rfl 0 rfl rfl ?_
  refine zs_get (v := .int (h.1 68 7)) C 68 7 rfl rfl rfl rfl ki_Mo (by decide) kw1690 kd_Mo_readPlace_130 rfl ?_
  obtain ⟨h2, c1, e⟩ := zd_b e
  refine zs_callV (k := 68) (rn := { frames := 0, cells := 0, slots := 0, locals := 0 }) (As := [.int 5, .int (h.1 68 7)]) (rest := []) C (zc_Mo_fail h 5 (h.1 68 7) c1) ku_Mo_fail kw2013 kv_Mo_fail rfl ⟨by decide, by decide⟩ ⟨by decide, by decide⟩ rfl rfl rfl (Nat.le_of_ble_eq_true rfl) kd_Mo_readPlace_133 rfl (c1 := 0) (s1 := 0) rfl rfl (fun v w hp => ?_)
  obtain ⟨rfl, rfl⟩ := hp
  refine zk_stk (r' := []) rfl ?_
  refine zk_goto (tgt := 156) C kd_Mo_readPlace_136 (by decide) ?_
  exact zk_vret C hR kd_Mo_readPlace_156 rfl rfl (zd_rV e)
set_option maxHeartbeats 4000000 in
set_option maxRecDepth 100000 in
theorem zb_Mo_readPlace_112 {X : zkj_T} {S : zs_T} {P : ze_T} {l : Launch} {D : va_G} {sz0 : Nat} {rh : zs_H} (C : zk_C X km_Mo_readPlace (zs_G S l D sz0) { frames := 4, cells := 0, slots := 0, locals := 85 } (ze_E P)) (hR : zkj_R X (zd_PV S rh) (none)) (h : zs_H) (x1 : Int32) (x2 : Int64) (y0 : Int64) (y1 : Int64) (e : f_Mo_readPlace_112 h x1 x2 y0 y1 = some rh) : zk_Ab X (zs_W S h) 0 0 112 [(0, .ref (S.1 68)), (1, .int x1), (2, .long x2)] [.long y0, .long y1] := by
  unfold f_Mo_readPlace_112 at e
  refine zk_lcmp C kd_Mo_readPlace_112 rfl ?_
  refine zk_if_gt (tgt := 127) C kd_Mo_readPlace_113 (by decide) rfl (fun b1 => ?_) (fun b1 => ?_)
  · replace e := zd_pos (zd_cgt.mp b1) e
    refine zk_lvs (lv' := [(0, .ref (S.1 68))]) [0] rfl ?_
    exact zb_Mo_readPlace_127 C hR h e
  · replace e := zd_neg (fun z => b1 (zd_cgt.mpr z)) e
    refine zk_aload_n C kd_Mo_readPlace_116 rfl 0 rfl rfl ?_
    refine zk_aload_n C kd_Mo_readPlace_117 rfl 0 rfl rfl ?_
    refine zs_get (v := .int (h.1 68 8)) C 68 8 rfl rfl rfl rfl ki_Mo (by decide) kw1691 kd_Mo_readPlace_118 rfl ?_
    obtain ⟨v3, c2, e⟩ := zd_b e
    refine zs_callV (k := 68) (rn := { frames := 2, cells := 0, slots := 0, locals := 43 }) (As := [.int (h.1 68 8)]) (rest := []) C (zc_Mo_goesOn h (h.1 68 8) c2) ku_Mo_goesOn kw2044 kv_Mo_goesOn rfl ⟨by decide, by decide⟩ ⟨by decide, by decide⟩ rfl rfl rfl (Nat.le_of_ble_eq_true rfl) kd_Mo_readPlace_121 rfl (c1 := 0) (s1 := 0) rfl rfl (fun v w hp => ?_)
    obtain ⟨rfl, rfl, z4⟩ := hp
    refine zk_stk (r' := [.int v3]) rfl ?_
    refine zk_if_eq (tgt := 139) C kd_Mo_readPlace_124 (by decide) rfl (fun b5 => ?_) (fun b5 => ?_)
    · replace e := zd_pos b5 e
      refine zk_aload_n C kd_Mo_readPlace_139 rfl 0 rfl rfl ?_
      refine zk_iconst (v := 4) C kd_Mo_readPlace_140 (by decide) rfl ?_
      refine zs_put (ty := .int) C 68 6 4 rfl rfl rfl rfl ki_Mo ky_Mo ko_Mo kn_Mo (by decide) kw1689 rfl rfl rfl rfl (by decide) kd_Mo_readPlace_141 rfl ?_
      refine zk_aload_n C kd_Mo_readPlace_144 rfl 0 rfl rfl ?_
      refine zk_sipush (v := 256) C kd_Mo_readPlace_145 (by decide) rfl ?_
      refine zk_iload_n C kd_Mo_readPlace_148 rfl 1 rfl rfl ?_
      refine zk_imul C kd_Mo_readPlace_149 rfl ?_
      refine zk_lload_n C kd_Mo_readPlace_150 rfl 2 rfl rfl ?_
      refine zk_l2i C kd_Mo_readPlace_151 rfl ?_
      refine zk_iadd C kd_Mo_readPlace_152 rfl ?_
      refine zs_put (ty := .int) C 68 9 ((256 * x1) + (x2.toInt32)) rfl rfl rfl rfl ki_Mo ky_Mo ko_Mo kn_Mo (by decide) kw1692 rfl rfl rfl rfl (by decide) kd_Mo_readPlace_153 rfl ?_
      exact zk_vret C hR kd_Mo_readPlace_156 rfl rfl (zd_rV e)
    · replace e := zd_neg b5 e
      refine zk_lvs (lv' := [(0, .ref (S.1 68))]) [0] rfl ?_
      exact zb_Mo_readPlace_127 C hR h e
set_option maxHeartbeats 4000000 in
set_option maxRecDepth 100000 in
theorem zb_Mo_readPlace_90 {X : zkj_T} {S : zs_T} {P : ze_T} {l : Launch} {D : va_G} {sz0 : Nat} {rh : zs_H} (C : zk_C X km_Mo_readPlace (zs_G S l D sz0) { frames := 4, cells := 0, slots := 0, locals := 85 } (ze_E P)) (hR : zkj_R X (zd_PV S rh) (none)) (h : zs_H) (x1 : Int32) (y0 : Int64) (e : f_Mo_readPlace_90 h x1 y0 = some rh) : zk_Ab X (zs_W S h) 0 0 90 [(0, .ref (S.1 68)), (1, .int x1)] [.long y0] := by
  unfold f_Mo_readPlace_90 at e
  refine zk_lstore_n (lv' := [(2, _), (0, _), (1, _)]) C kd_Mo_readPlace_90 rfl (by decide) rfl rfl ?_
  refine zk_lload_n C kd_Mo_readPlace_91 rfl 0 rfl rfl ?_
  refine zk_lconst (v := 0) C kd_Mo_readPlace_92 (by decide) rfl ?_
  refine zk_lcmp C kd_Mo_readPlace_93 rfl ?_
  refine zk_if_lt (tgt := 127) C kd_Mo_readPlace_94 (by decide) rfl (fun b1 => ?_) (fun b1 => ?_)
  · replace e := zd_pos (zd_clt.mp b1) e
    refine zk_lvs (lv' := [(0, .ref (S.1 68))]) [1] rfl ?_
    exact zb_Mo_readPlace_127 C hR h e
  · replace e := zd_neg (fun z => b1 (zd_clt.mpr z)) e
    refine zk_lload_n C kd_Mo_readPlace_97 rfl 0 rfl rfl ?_
    refine zk_iload_n C kd_Mo_readPlace_98 rfl 2 rfl rfl ?_
    refine zk_iconst (v := 3) C kd_Mo_readPlace_99 (by decide) rfl ?_
    refine zk_icmp_ge (tgt := 109) C kd_Mo_readPlace_100 (by decide) rfl (fun b2 => ?_) (fun b2 => ?_)
    · replace e := zd_pos b2 e
      refine zk_ldc2 (v := 63) C kw2078 kd_Mo_readPlace_109 rfl ?_
      refine zk_lvs (lv' := [(0, .ref (S.1 68)), (1, .int x1), (2, .long y0)]) [1, 2, 0] rfl ?_
      exact zb_Mo_readPlace_112 C hR h x1 y0 (63 : Int64) y0 e
    · replace e := zd_neg b2 e
      refine zk_ldc2 (v := 255) C kw2077 kd_Mo_readPlace_103 rfl ?_
      refine zk_goto (tgt := 112) C kd_Mo_readPlace_106 (by decide) ?_
      refine zk_lvs (lv' := [(0, .ref (S.1 68)), (1, .int x1), (2, .long y0)]) [1, 2, 0] rfl ?_
      exact zb_Mo_readPlace_112 C hR h x1 y0 (255 : Int64) y0 e
set_option maxHeartbeats 4000000 in
set_option maxRecDepth 100000 in
theorem zb_Mo_readPlace_4 {X : zkj_T} {S : zs_T} {P : ze_T} {l : Launch} {D : va_G} {sz0 : Nat} {rh : zs_H} (C : zk_C X km_Mo_readPlace (zs_G S l D sz0) { frames := 4, cells := 0, slots := 0, locals := 85 } (ze_E P)) (hR : zkj_R X (zd_PV S rh) (none)) {k4 : zs_H → Int32 → Int32 → (Option zs_H)} (hk4 : ∀ (h : zs_H) (x1 : Int32) (x2 : Int32), k4 h x1 x2 = some rh → zk_Ab X (zs_W S h) 0 0 4 [(0, .ref (S.1 68)), (1, .int x1), (2, .int x2)] []) (h : zs_H) (x1 : Int32) (x2 : Int32) (e : f_Mo_readPlace_4 k4 h x1 x2 = some rh) : zk_Ab X (zs_W S h) 0 0 4 [(0, .ref (S.1 68)), (1, .int x1), (2, .int x2)] [] := by
  unfold f_Mo_readPlace_4 at e
  refine zk_iload_n C kd_Mo_readPlace_4 rfl 2 rfl rfl ?_
  refine zk_bipush (v := 6) C kd_Mo_readPlace_5 (by decide) rfl ?_
  refine zk_icmp_ge (tgt := 68) C kd_Mo_readPlace_7 (by decide) rfl (fun b1 => ?_) (fun b1 => ?_)
  · replace e := zd_pos b1 e
    refine zk_iload_n C kd_Mo_readPlace_68 rfl 1 rfl rfl ?_
    refine zk_if_ge (tgt := 78) C kd_Mo_readPlace_69 (by decide) rfl (fun b2 => ?_) (fun b2 => ?_)
    · replace e := zd_pos b2 e
      refine zk_aload_n C kd_Mo_readPlace_78 rfl 0 rfl rfl ?_
      refine zk_aload_n C kd_Mo_readPlace_79 rfl 0 rfl rfl ?_
      refine zs_get (v := .int (h.1 68 7)) C 68 7 rfl rfl rfl rfl ki_Mo (by decide) kw1690 kd_Mo_readPlace_80 rfl ?_
      refine zk_iconst (v := 3) C kd_Mo_readPlace_83 (by decide) rfl ?_
      refine zk_iadd C kd_Mo_readPlace_84 rfl ?_
      refine zk_bipush (v := 10) C kd_Mo_readPlace_85 (by decide) rfl ?_
      obtain ⟨v4, h5, c3, e⟩ := zd_Be e
      refine zs_callV (k := 68) (rn := { frames := 2, cells := 0, slots := 0, locals := 43 }) (As := [.int ((h.1 68 7) + 3), .int 10]) (rest := []) C (zc_Mo_digits h ((h.1 68 7) + 3) 10 c3) ku_Mo_digits kw2025 kv_Mo_digits rfl ⟨by decide, by decide⟩ ⟨by decide, by decide⟩ rfl rfl rfl (Nat.le_of_ble_eq_true rfl) kd_Mo_readPlace_87 rfl (c1 := 0) (s1 := 0) rfl rfl (fun v w hp => ?_)
      obtain ⟨rfl, rfl⟩ := hp
      refine zk_stk (r' := [.long v4]) rfl ?_
      refine zk_lvs (lv' := [(0, .ref (S.1 68)), (1, .int x1)]) [0, 1] rfl ?_
      exact zb_Mo_readPlace_90 C hR h5 x1 v4 e
    · replace e := zd_neg b2 e
      refine zk_ldc2 (v := (-1)) C kw2029 kd_Mo_readPlace_72 rfl ?_
      refine zk_goto (tgt := 90) C kd_Mo_readPlace_75 (by decide) ?_
      refine zk_lvs (lv' := [(0, .ref (S.1 68)), (1, .int x1)]) [0, 1] rfl ?_
      exact zb_Mo_readPlace_90 C hR h x1 (-1 : Int64) e
  · replace e := zd_neg b1 e
    refine zk_aload_n C kd_Mo_readPlace_10 rfl 0 rfl rfl ?_
    refine zk_aload_n C kd_Mo_readPlace_11 rfl 0 rfl rfl ?_
    refine zs_get (v := .int (h.1 68 7)) C 68 7 rfl rfl rfl rfl ki_Mo (by decide) kw1690 kd_Mo_readPlace_12 rfl ?_
    refine zk_iconst (v := 1) C kd_Mo_readPlace_15 (by decide) rfl ?_
    refine zk_iadd C kd_Mo_readPlace_16 rfl ?_
    obtain ⟨v7, c6, e⟩ := zd_b e
    refine zs_callV (k := 68) (rn := { frames := 1, cells := 0, slots := 0, locals := 21 }) (As := [.int ((h.1 68 7) + 1)]) (rest := []) C (zc_Mo_great h ((h.1 68 7) + 1) c6) ku_Mo_great kw2017 kv_Mo_great rfl ⟨by decide, by decide⟩ ⟨by decide, by decide⟩ rfl rfl rfl (Nat.le_of_ble_eq_true rfl) kd_Mo_readPlace_17 rfl (c1 := 0) (s1 := 0) rfl rfl (fun v w hp => ?_)
    obtain ⟨rfl, rfl⟩ := hp
    refine zk_stk (r' := [.int v7]) rfl ?_
    refine ze_ldcSw (i := 8) C (zd_str 8 rfl) kd_Mo_readPlace_20 rfl ?_
    refine zk_iconst (v := 2) C kd_Mo_readPlace_23 (by decide) rfl ?_
    refine zk_iload_n C kd_Mo_readPlace_24 rfl 2 rfl rfl ?_
    refine zk_imul C kd_Mo_readPlace_25 rfl ?_
    obtain ⟨q8, e⟩ := zd_g e
    refine ze_callStr (i := 8) (As := [.int (2 * x2)]) (rest := [.int v7]) C (zd_charAt (zs_W S h) 8 (by decide) (2 * x2) q8 (by decide)) ku_St_charAt kw2061 kv_St_charAt (by decide) rfl rfl ⟨by decide, by decide⟩ ⟨by decide, by decide⟩ rfl (Nat.le_of_ble_eq_true rfl) kd_Mo_readPlace_26 rfl (c1 := 0) (s1 := 0) rfl rfl (fun v w hp => ?_)
    obtain ⟨rfl, rfl⟩ := hp
    refine zk_stk (r' := [.int (ze_f 8 (2 * x2).toNatClampNeg &&& 255), .int v7]) rfl ?_
    refine zk_icmp_ne (tgt := 60) C kd_Mo_readPlace_29 (by decide) rfl (fun b9 => ?_) (fun b9 => ?_)
    · replace e := zd_neg b9 e
      refine zk_lvs (lv' := [(0, .ref (S.1 68)), (1, .int x1), (2, .int x2)]) [0, 1, 2] rfl ?_
      exact zb_Mo_readPlace_60 C hR hk4 h x1 x2 e
    · replace e := zd_pos b9 e
      refine zk_aload_n C kd_Mo_readPlace_32 rfl 0 rfl rfl ?_
      refine zk_aload_n C kd_Mo_readPlace_33 rfl 0 rfl rfl ?_
      refine zs_get (v := .int (h.1 68 7)) C 68 7 rfl rfl rfl rfl ki_Mo (by decide) kw1690 kd_Mo_readPlace_34 rfl ?_
      refine zk_iconst (v := 2) C kd_Mo_readPlace_37 (by decide) rfl ?_
      refine zk_iadd C kd_Mo_readPlace_38 rfl ?_
      obtain ⟨v11, c10, e⟩ := zd_b e
      refine zs_callV (k := 68) (rn := { frames := 1, cells := 0, slots := 0, locals := 21 }) (As := [.int ((h.1 68 7) + 2)]) (rest := []) C (zc_Mo_great h ((h.1 68 7) + 2) c10) ku_Mo_great kw2017 kv_Mo_great rfl ⟨by decide, by decide⟩ ⟨by decide, by decide⟩ rfl rfl rfl (Nat.le_of_ble_eq_true rfl) kd_Mo_readPlace_39 rfl (c1 := 0) (s1 := 0) rfl rfl (fun v w hp => ?_)
      obtain ⟨rfl, rfl⟩ := hp
      refine zk_stk (r' := [.int v11]) rfl ?_
      refine ze_ldcSw (i := 8) C (zd_str 8 rfl) kd_Mo_readPlace_42 rfl ?_
      refine zk_iconst (v := 2) C kd_Mo_readPlace_45 (by decide) rfl ?_
      refine zk_iload_n C kd_Mo_readPlace_46 rfl 2 rfl rfl ?_
      refine zk_imul C kd_Mo_readPlace_47 rfl ?_
      refine zk_iconst (v := 1) C kd_Mo_readPlace_48 (by decide) rfl ?_
      refine zk_iadd C kd_Mo_readPlace_49 rfl ?_
      obtain ⟨q12, e⟩ := zd_g e
      refine ze_callStr (i := 8) (As := [.int ((2 * x2) + 1)]) (rest := [.int v11]) C (zd_charAt (zs_W S h) 8 (by decide) ((2 * x2) + 1) q12 (by decide)) ku_St_charAt kw2061 kv_St_charAt (by decide) rfl rfl ⟨by decide, by decide⟩ ⟨by decide, by decide⟩ rfl (Nat.le_of_ble_eq_true rfl) kd_Mo_readPlace_50 rfl (c1 := 0) (s1 := 0) rfl rfl (fun v w hp => ?_)
      obtain ⟨rfl, rfl⟩ := hp
      refine zk_stk (r' := [.int (ze_f 8 ((2 * x2) + 1).toNatClampNeg &&& 255), .int v11]) rfl ?_
      refine zk_icmp_ne (tgt := 60) C kd_Mo_readPlace_53 (by decide) rfl (fun b13 => ?_) (fun b13 => ?_)
      · replace e := zd_neg b13 e
        refine zk_lvs (lv' := [(0, .ref (S.1 68)), (1, .int x1), (2, .int x2)]) [0, 1, 2] rfl ?_
        exact zb_Mo_readPlace_60 C hR hk4 h x1 x2 e
      · replace e := zd_pos b13 e
        refine zk_iload_n C kd_Mo_readPlace_56 rfl 2 rfl rfl ?_
        refine zk_goto (tgt := 61) C kd_Mo_readPlace_57 (by decide) ?_
        refine zk_lvs (lv' := [(0, .ref (S.1 68)), (2, .int x2)]) [0, 2] rfl ?_
        exact zb_Mo_readPlace_61 C hR hk4 h x2 x2 e
theorem zl_Mo_readPlace_4 {X : zkj_T} {S : zs_T} {P : ze_T} {l : Launch} {D : va_G} {sz0 : Nat} {rh : zs_H} (C : zk_C X km_Mo_readPlace (zs_G S l D sz0) { frames := 4, cells := 0, slots := 0, locals := 85 } (ze_E P)) (hR : zkj_R X (zd_PV S rh) (none)) (n : Nat) : ∀ (h : zs_H) (x1 : Int32) (x2 : Int32), f_Mo_readPlace_L4 n h x1 x2 = some rh → zk_Ab X (zs_W S h) 0 0 4 [(0, .ref (S.1 68)), (1, .int x1), (2, .int x2)] [] := by
  induction n with
  | zero => intro h x1 x2 e; exact zd_no e
  | succ n ih => intro h x1 x2 e; exact zb_Mo_readPlace_4 (k4 := f_Mo_readPlace_L4  n) C hR ih h x1 x2 e
set_option maxHeartbeats 4000000 in
set_option maxRecDepth 100000 in
theorem zc_Mo_readPlace {l : Launch} {D : va_G} {sz0 : Nat} {S : zs_T} {P : ze_T} (h : zs_H) {rh : zs_H} (e : f_Mo_readPlace h = some rh) : zk_Sp (zs_G S l D sz0) (ze_E P) km_Mo_readPlace { frames := 4, cells := 0, slots := 0, locals := 85 } [.ref (S.1 68)] (zs_W S h) (zd_PV S rh) := by
  refine zk_met ku_Mo_readPlace (Nat.le_of_ble_eq_true rfl) (ze_Em P) ?_
  intro X C hR
  refine zk_lvs (lv' := [(0, .ref (S.1 68))]) [0] rfl ?_
  unfold f_Mo_readPlace at e
  refine zk_iconst (v := (-1)) C kd_Mo_readPlace_0 (by decide) rfl ?_
  refine zk_istore_n (lv' := [(1, _), (0, _)]) C kd_Mo_readPlace_1 rfl (by decide) rfl rfl ?_
  refine zk_iconst (v := 0) C kd_Mo_readPlace_2 (by decide) rfl ?_
  refine zk_istore_n (lv' := [(2, _), (1, _), (0, _)]) C kd_Mo_readPlace_3 rfl (by decide) rfl rfl ?_
  refine zk_lvs (lv' := [(0, .ref (S.1 68)), (1, .int (-1)), (2, .int 0)]) [2, 1, 0] rfl ?_
  exact zl_Mo_readPlace_4 C hR zF h (-1) 0 e
set_option maxHeartbeats 4000000 in
set_option maxRecDepth 100000 in
theorem zc_Sl_canEncode {l : Launch} {D : va_G} {sz0 : Nat} {S : zs_T} {P : ze_T} (h : zs_H) (x0 : Int32) : zk_Sp (zs_G S l D sz0) (ze_E P) km_Sl_canEncode { frames := 0, cells := 0, slots := 0, locals := 0 } [.int x0] (zs_W S h) (zd_PZ S (f_Sl_canEncode x0) h) := by
  obtain ⟨rv, e⟩ : ∃ rv, f_Sl_canEncode x0 = rv := ⟨_, rfl⟩
  rw [e]
  refine zk_met ku_Sl_canEncode (Nat.le_of_ble_eq_true rfl) (ze_Em P) ?_
  intro X C hR
  refine zk_lvs (lv' := [(0, .int x0)]) [0] rfl ?_
  unfold f_Sl_canEncode at e
  refine zk_iload_n C kd_Sl_canEncode_0 rfl 0 rfl rfl ?_
  refine zk_if_lt (tgt := 15) C kd_Sl_canEncode_1 (by decide) rfl (fun b1 => ?_) (fun b1 => ?_)
  · replace e := zd_pos b1 e
    refine zk_iconst (v := 0) C kd_Sl_canEncode_15 (by decide) rfl ?_
    exact zk_zret C hR (zd_nb (Or.inl rfl)) kd_Sl_canEncode_16 rfl rfl (zd_rZT (Or.inl rfl) e)
  · replace e := zd_neg b1 e
    refine zk_iload_n C kd_Sl_canEncode_4 rfl 0 rfl rfl ?_
    refine zk_sipush (v := 255) C kd_Sl_canEncode_5 (by decide) rfl ?_
    refine zk_icmp_gt (tgt := 15) C kd_Sl_canEncode_8 (by decide) rfl (fun b2 => ?_) (fun b2 => ?_)
    · replace e := zd_pos b2 e
      refine zk_iconst (v := 0) C kd_Sl_canEncode_15 (by decide) rfl ?_
      exact zk_zret C hR (zd_nb (Or.inl rfl)) kd_Sl_canEncode_16 rfl rfl (zd_rZT (Or.inl rfl) e)
    · replace e := zd_neg b2 e
      refine zk_iconst (v := 1) C kd_Sl_canEncode_11 (by decide) rfl ?_
      refine zk_goto (tgt := 16) C kd_Sl_canEncode_12 (by decide) ?_
      exact zk_zret C hR (zd_nb (Or.inr rfl)) kd_Sl_canEncode_16 rfl rfl (zd_rZT (Or.inr rfl) e)
set_option maxHeartbeats 4000000 in
set_option maxRecDepth 100000 in
theorem zb_Sl_indexOfChar_v9_7 {X : zkj_T} {S : zs_T} {P : ze_T} {l : Launch} {D : va_G} {sz0 : Nat} {rv : Int32} {h : zs_H} (C : zk_C X km_Sl_indexOfChar (zs_G S l D sz0) { frames := 0, cells := 0, slots := 0, locals := 0 } (ze_E P)) (hR : zkj_R X (zd_PI S rv h) (some .int)) {k7 : Int32 → Int32 → Int32 → (Option Int32)} (hk7 : ∀ (x3 : Int32) (x4 : Int32) (x5 : Int32), k7 x3 x4 x5 = some rv → zk_Ab X (zs_W S h) 0 0 7 [(0, .ref (P.2.1 9)), (3, .int x3), (4, .int x4), (5, .int x5)] []) (x3 : Int32) (x4 : Int32) (x5 : Int32) (e : f_Sl_indexOfChar_v9_7 k7 x3 x4 x5 = some rv) : zk_Ab X (zs_W S h) 0 0 7 [(0, .ref (P.2.1 9)), (3, .int x3), (4, .int x4), (5, .int x5)] [] := by
  unfold f_Sl_indexOfChar_v9_7 at e
  refine zk_iload C kd_Sl_indexOfChar_7 3 rfl rfl ?_
  refine zk_iload_n C kd_Sl_indexOfChar_9 rfl 1 rfl rfl ?_
  refine zk_icmp_ge (tgt := 31) C kd_Sl_indexOfChar_10 (by decide) rfl (fun b1 => ?_) (fun b1 => ?_)
  · replace e := zd_pos b1 e
    refine zk_iconst (v := (-1)) C kd_Sl_indexOfChar_31 (by decide) rfl ?_
    exact zk_iret C hR kd_Sl_indexOfChar_32 rfl rfl (zd_rIO e)
  · replace e := zd_neg b1 e
    refine zk_aload_n C kd_Sl_indexOfChar_13 rfl 0 rfl rfl ?_
    refine zk_iload C kd_Sl_indexOfChar_14 3 rfl rfl ?_
    obtain ⟨q2, e⟩ := zd_g e
    refine ze_vld C (by decide) (zd_vp q2) kd_Sl_indexOfChar_16 rfl ?_
    refine zk_stk (r' := [.int (ze_f 9 x5.toNatClampNeg)]) rfl ?_
    refine zk_iload C kd_Sl_indexOfChar_17 2 rfl rfl ?_
    refine zk_icmp_ne (tgt := 25) C kd_Sl_indexOfChar_19 (by decide) rfl (fun b3 => ?_) (fun b3 => ?_)
    · replace e := zd_neg b3 e
      refine zk_iinc (v := (x5 + 1)) (lv' := [(5, _), (0, _), (3, _), (4, _)]) C kd_Sl_indexOfChar_25 3 rfl rfl (by decide) rfl rfl ?_
      refine zk_goto (tgt := 7) C kd_Sl_indexOfChar_28 (by decide) ?_
      refine zk_lvs (lv' := [(0, .ref (P.2.1 9)), (3, .int x3), (4, .int x4), (5, .int (x5 + 1))]) [1, 2, 3, 0] rfl ?_
      exact hk7 x3 x4 (x5 + 1) e
    · replace e := zd_pos b3 e
      refine zk_iload C kd_Sl_indexOfChar_22 3 rfl rfl ?_
      exact zk_iret C hR kd_Sl_indexOfChar_24 rfl rfl (zd_rIO e)
theorem zl_Sl_indexOfChar_v9_7 {X : zkj_T} {S : zs_T} {P : ze_T} {l : Launch} {D : va_G} {sz0 : Nat} {rv : Int32} {h : zs_H} (C : zk_C X km_Sl_indexOfChar (zs_G S l D sz0) { frames := 0, cells := 0, slots := 0, locals := 0 } (ze_E P)) (hR : zkj_R X (zd_PI S rv h) (some .int)) (n : Nat) : ∀ (x3 : Int32) (x4 : Int32) (x5 : Int32), f_Sl_indexOfChar_v9_L7 n x3 x4 x5 = some rv → zk_Ab X (zs_W S h) 0 0 7 [(0, .ref (P.2.1 9)), (3, .int x3), (4, .int x4), (5, .int x5)] [] := by
  induction n with
  | zero => intro x3 x4 x5 e; exact zd_no e
  | succ n ih => intro x3 x4 x5 e; exact zb_Sl_indexOfChar_v9_7 (k7 := f_Sl_indexOfChar_v9_L7  n) C hR ih x3 x4 x5 e
set_option maxHeartbeats 4000000 in
set_option maxRecDepth 100000 in
theorem zc_Sl_indexOfChar_v9 {l : Launch} {D : va_G} {sz0 : Nat} {S : zs_T} {P : ze_T} (h : zs_H) (x1 : Int32) (x2 : Int32) (x3 : Int32) {rv : Int32} (e : f_Sl_indexOfChar_v9 x1 x2 x3 = some rv) : zk_Sp (zs_G S l D sz0) (ze_E P) km_Sl_indexOfChar { frames := 0, cells := 0, slots := 0, locals := 0 } [.ref (P.2.1 9), .int x1, .int x2, .int x3] (zs_W S h) (zd_PI S rv h) := by
  refine zk_met ku_Sl_indexOfChar (Nat.le_of_ble_eq_true rfl) (ze_Em P) ?_
  intro X C hR
  refine zk_lvs (lv' := [(0, .ref (P.2.1 9)), (1, .int x1), (2, .int x2), (3, .int x3)]) [0, 1, 2, 3] rfl ?_
  unfold f_Sl_indexOfChar_v9 at e
  refine zk_iload_n C kd_Sl_indexOfChar_0 rfl 1 rfl rfl ?_
  refine zk_i2b C kd_Sl_indexOfChar_1 rfl ?_
  refine zk_istore (lv' := [(4, _), (0, _), (1, _), (2, _), (3, _)]) C kd_Sl_indexOfChar_2 (by decide) rfl rfl ?_
  refine zk_iload_n C kd_Sl_indexOfChar_4 rfl 3 rfl rfl ?_
  refine zk_istore (lv' := [(5, _), (4, _), (0, _), (1, _), (2, _), (3, _)]) C kd_Sl_indexOfChar_5 (by decide) rfl rfl ?_
  refine zk_lvs (lv' := [(0, .ref (P.2.1 9)), (3, .int x3), (4, .int (x1.toInt8.toInt32)), (5, .int x2)]) [2, 5, 1, 0] rfl ?_
  exact zl_Sl_indexOfChar_v9_7 C hR zF x3 (x1.toInt8.toInt32) x2 e
set_option maxHeartbeats 4000000 in
set_option maxRecDepth 100000 in
theorem zc_Sl_indexOf_v9 {l : Launch} {D : va_G} {sz0 : Nat} {S : zs_T} {P : ze_T} (h : zs_H) (x1 : Int32) (x2 : Int32) (x3 : Int32) {rv : Int32} (e : f_Sl_indexOf_v9 x1 x2 x3 = some rv) : zk_Sp (zs_G S l D sz0) (ze_E P) km_Sl_indexOf { frames := 1, cells := 0, slots := 0, locals := 25 } [.ref (P.2.1 9), .int x1, .int x2, .int x3] (zs_W S h) (zd_PI S rv h) := by
  refine zk_met ku_Sl_indexOf (Nat.le_of_ble_eq_true rfl) (ze_Em P) ?_
  intro X C hR
  refine zk_lvs (lv' := [(0, .ref (P.2.1 9)), (1, .int x1), (2, .int x2), (3, .int x3)]) [0, 1, 2, 3] rfl ?_
  unfold f_Sl_indexOf_v9 at e
  refine zk_iload_n C kd_Sl_indexOf_0 rfl 1 rfl rfl ?_
  refine zk_callS (rn := { frames := 0, cells := 0, slots := 0, locals := 0 }) (As := [.int x1]) (rest := []) C (zc_Sl_canEncode h x1) ku_Sl_canEncode kw811 ks_Sl_canEncode rfl ⟨by decide, by decide⟩ ⟨by decide, by decide⟩ rfl (Nat.le_of_ble_eq_true rfl) kd_Sl_indexOf_1 rfl (c1 := 0) (s1 := 0) rfl rfl (fun v w hp => ?_)
  obtain ⟨rfl, rfl, z1⟩ := hp
  refine zk_stk (r' := [.int (f_Sl_canEncode x1)]) rfl ?_
  refine zk_if_ne (tgt := 9) C kd_Sl_indexOf_4 (by decide) rfl (fun b2 => ?_) (fun b2 => ?_)
  · replace e := zd_neg b2 e
    refine zk_iload_n C kd_Sl_indexOf_9 rfl 2 rfl rfl ?_
    refine zk_iconst (v := 0) C kd_Sl_indexOf_10 (by decide) rfl ?_
    refine zk_mmax C kw814 kw797 kw19 (by decide) (Nat.le_of_ble_eq_true rfl) (Nat.le_refl _) (Nat.le_refl _) kd_Sl_indexOf_11 rfl ?_
    refine zk_istore_n (lv' := [(2, _), (0, _), (1, _), (3, _)]) C kd_Sl_indexOf_14 rfl (by decide) rfl rfl ?_
    refine zk_iload_n C kd_Sl_indexOf_15 rfl 3 rfl rfl ?_
    refine zk_aload_n C kd_Sl_indexOf_16 rfl 1 rfl rfl ?_
    refine ze_vlen C (by decide) kd_Sl_indexOf_17 rfl ?_
    refine zk_stk (r' := [.int 17, .int x3]) rfl ?_
    refine zk_mmin C kw815 kw816 kw19 (by decide) (Nat.le_of_ble_eq_true rfl) (Nat.le_refl _) (Nat.le_refl _) kd_Sl_indexOf_18 rfl ?_
    refine zk_istore_n (lv' := [(3, _), (2, _), (0, _), (1, _)]) C kd_Sl_indexOf_21 rfl (by decide) rfl rfl ?_
    refine zk_iload_n C kd_Sl_indexOf_22 rfl 1 rfl rfl ?_
    refine zk_iload_n C kd_Sl_indexOf_23 rfl 0 rfl rfl ?_
    refine zk_icmp_lt (tgt := 29) C kd_Sl_indexOf_24 (by decide) rfl (fun b3 => ?_) (fun b3 => ?_)
    · replace e := zd_pos b3 e
      refine zk_aload_n C kd_Sl_indexOf_29 rfl 2 rfl rfl ?_
      refine zk_iload_n C kd_Sl_indexOf_30 rfl 3 rfl rfl ?_
      refine zk_iload_n C kd_Sl_indexOf_31 rfl 1 rfl rfl ?_
      refine zk_iload_n C kd_Sl_indexOf_32 rfl 0 rfl rfl ?_
      obtain ⟨v5, c4, e⟩ := zd_b e
      refine zk_callS (rn := { frames := 0, cells := 0, slots := 0, locals := 0 }) (As := [.ref (P.2.1 9), .int x1, .int (zd_max x2 0), .int (zd_min x3 17)]) (rest := []) C (zc_Sl_indexOfChar_v9 h x1 (zd_max x2 0) (zd_min x3 17) c4) ku_Sl_indexOfChar kw818 ks_Sl_indexOfChar rfl ⟨by decide, by decide⟩ ⟨by decide, by decide⟩ rfl (Nat.le_of_ble_eq_true rfl) kd_Sl_indexOf_33 rfl (c1 := 0) (s1 := 0) rfl rfl (fun v w hp => ?_)
      obtain ⟨rfl, rfl⟩ := hp
      refine zk_stk (r' := [.int v5]) rfl ?_
      exact zk_iret C hR kd_Sl_indexOf_36 rfl rfl (zd_rIO e)
    · replace e := zd_neg b3 e
      refine zk_iconst (v := (-1)) C kd_Sl_indexOf_27 (by decide) rfl ?_
      exact zk_iret C hR kd_Sl_indexOf_28 rfl rfl (zd_rIO e)
  · replace e := zd_pos b2 e
    refine zk_iconst (v := (-1)) C kd_Sl_indexOf_7 (by decide) rfl ?_
    exact zk_iret C hR kd_Sl_indexOf_8 rfl rfl (zd_rIO e)
set_option maxHeartbeats 4000000 in
set_option maxRecDepth 100000 in
theorem zc_St_indexOf2_s9 {l : Launch} {D : va_G} {sz0 : Nat} {S : zs_T} {P : ze_T} (h : zs_H) (x1 : Int32) (x2 : Int32) {rv : Int32} (e : f_St_indexOf2_s9 h x1 x2 = some rv) : zk_Sp (zs_G S l D sz0) (ze_E P) km_St_indexOf2 { frames := 2, cells := 0, slots := 0, locals := 48 } [.ref (P.1 9), .int x1, .int x2] (zs_W S h) (zd_PI S rv h) := by
  refine zk_met ku_St_indexOf2 (Nat.le_of_ble_eq_true rfl) (ze_Em P) ?_
  intro X C hR
  refine zk_lvs (lv' := [(0, .ref (P.1 9)), (1, .int x1), (2, .int x2)]) [0, 1, 2] rfl ?_
  unfold f_St_indexOf2_s9 at e
  refine zk_aload_n C kd_St_indexOf2_0 rfl 0 rfl rfl ?_
  refine ze_callStr (i := 9) (As := []) (rest := []) C (cs_isLatin1 (zs_W S h) 9 (by decide)) ku_St_isLatin1 kw57 kv_St_isLatin1 (by decide) rfl rfl ⟨by decide, by decide⟩ ⟨by decide, by decide⟩ rfl (Nat.le_of_ble_eq_true rfl) kd_St_indexOf2_1 rfl (c1 := 0) (s1 := 0) rfl rfl (fun v w hp => ?_)
  obtain ⟨rfl, rfl⟩ := hp
  refine zk_stk (r' := [.int 1]) rfl ?_
  refine zk_if_eq (tgt := 23) C kd_St_indexOf2_4 (by decide) rfl (fun b1 => absurd b1 (by decide)) (fun b1 => ?_)
  refine zk_aload_n C kd_St_indexOf2_7 rfl 0 rfl rfl ?_
  refine ze_value (i := 9) C (by decide) kw2416 kd_St_indexOf2_8 rfl ?_
  refine zk_iload_n C kd_St_indexOf2_11 rfl 1 rfl rfl ?_
  refine zk_iload_n C kd_St_indexOf2_12 rfl 2 rfl rfl ?_
  refine zk_aload_n C kd_St_indexOf2_13 rfl 0 rfl rfl ?_
  refine ze_callStr (i := 9) (As := []) (rest := [.int x2, .int x1, .ref (P.2.1 9)]) C (cs_length (zs_W S h) 9 (by decide)) ku_St_length kw807 kv_St_length (by decide) rfl rfl ⟨by decide, by decide⟩ ⟨by decide, by decide⟩ rfl (Nat.le_of_ble_eq_true rfl) kd_St_indexOf2_14 rfl (c1 := 0) (s1 := 0) rfl rfl (fun v w hp => ?_)
  obtain ⟨rfl, rfl⟩ := hp
  refine zk_stk (r' := [.int 17, .int x2, .int x1, .ref (P.2.1 9)]) rfl ?_
  obtain ⟨v3, c2, e⟩ := zd_b e
  refine zk_callS (rn := { frames := 1, cells := 0, slots := 0, locals := 25 }) (As := [.ref (P.2.1 9), .int x1, .int x2, .int 17]) (rest := []) C (zc_Sl_indexOf_v9 h x1 x2 17 c2) ku_Sl_indexOf kw808 ks_Sl_indexOf rfl ⟨by decide, by decide⟩ ⟨by decide, by decide⟩ rfl (Nat.le_of_ble_eq_true rfl) kd_St_indexOf2_17 rfl (c1 := 0) (s1 := 0) rfl rfl (fun v w hp => ?_)
  obtain ⟨rfl, rfl⟩ := hp
  refine zk_stk (r' := [.int v3]) rfl ?_
  refine zk_goto (tgt := 36) C kd_St_indexOf2_20 (by decide) ?_
  exact zk_iret C hR kd_St_indexOf2_36 rfl rfl (zd_rIO e)
set_option maxHeartbeats 4000000 in
set_option maxRecDepth 100000 in
theorem zc_St_indexOf_s9 {l : Launch} {D : va_G} {sz0 : Nat} {S : zs_T} {P : ze_T} (h : zs_H) (x1 : Int32) {rv : Int32} (e : f_St_indexOf_s9 h x1 = some rv) : zk_Sp (zs_G S l D sz0) (ze_E P) km_St_indexOf { frames := 3, cells := 0, slots := 0, locals := 70 } [.ref (P.1 9), .int x1] (zs_W S h) (zd_PI S rv h) := by
  refine zk_met ku_St_indexOf (Nat.le_of_ble_eq_true rfl) (ze_Em P) ?_
  intro X C hR
  refine zk_lvs (lv' := [(0, .ref (P.1 9)), (1, .int x1)]) [0, 1] rfl ?_
  unfold f_St_indexOf_s9 at e
  refine zk_aload_n C kd_St_indexOf_0 rfl 0 rfl rfl ?_
  refine zk_iload_n C kd_St_indexOf_1 rfl 1 rfl rfl ?_
  refine zk_iconst (v := 0) C kd_St_indexOf_2 (by decide) rfl ?_
  obtain ⟨v2, c1, e⟩ := zd_b e
  refine ze_callStr (i := 9) (rn := { frames := 2, cells := 0, slots := 0, locals := 48 }) (As := [.int x1, .int 0]) (rest := []) C (zc_St_indexOf2_s9 h x1 0 c1) ku_St_indexOf2 kw803 kv_St_indexOf2 (by decide) rfl rfl ⟨by decide, by decide⟩ ⟨by decide, by decide⟩ rfl (Nat.le_of_ble_eq_true rfl) kd_St_indexOf_3 rfl (c1 := 0) (s1 := 0) rfl rfl (fun v w hp => ?_)
  obtain ⟨rfl, rfl⟩ := hp
  refine zk_stk (r' := [.int v2]) rfl ?_
  exact zk_iret C hR kd_St_indexOf_6 rfl rfl (zd_rIO e)
set_option maxHeartbeats 4000000 in
set_option maxRecDepth 100000 in
theorem zb_Mo_readSign_194 {X : zkj_T} {S : zs_T} {P : ze_T} {l : Launch} {D : va_G} {sz0 : Nat} {rh : zs_H} (C : zk_C X km_Mo_readSign (zs_G S l D sz0) { frames := 4, cells := 0, slots := 0, locals := 91 } (ze_E P)) (hR : zkj_R X (zd_PV S rh) (none)) (h : zs_H) (y0 : Int32) (y1 : Int32) (e : f_Mo_readSign_194 h y0 y1 = some rh) : zk_Ab X (zs_W S h) 0 0 194 [] [.int y0, .int y1, .ref (S.1 68)] := by
  unfold f_Mo_readSign_194 at e
  refine zk_iadd C kd_Mo_readSign_194 rfl ?_
  refine zs_put (ty := .int) C 68 8 (y1 + y0) rfl rfl rfl rfl ki_Mo ky_Mo ko_Mo kn_Mo (by decide) kw1691 rfl rfl rfl rfl (by decide) kd_Mo_readSign_195 rfl ?_
  exact zk_vret C hR kd_Mo_readSign_198 rfl rfl (zd_rV e)
set_option maxHeartbeats 4000000 in
set_option maxRecDepth 100000 in
theorem zb_Mo_readSign_177 {X : zkj_T} {S : zs_T} {P : ze_T} {l : Launch} {D : va_G} {sz0 : Nat} {rh : zs_H} (C : zk_C X km_Mo_readSign (zs_G S l D sz0) { frames := 4, cells := 0, slots := 0, locals := 91 } (ze_E P)) (hR : zkj_R X (zd_PV S rh) (none)) (h : zs_H) (x3 : Int32) (y0 : Int32) (e : f_Mo_readSign_177 h x3 y0 = some rh) : zk_Ab X (zs_W S h) 0 0 177 [(0, .ref (S.1 68)), (3, .int x3)] [.int y0, .ref (S.1 68)] := by
  unfold f_Mo_readSign_177 at e
  refine zs_put (ty := .int) C 68 9 y0 rfl rfl rfl rfl ki_Mo ky_Mo ko_Mo kn_Mo (by decide) kw1692 rfl rfl rfl rfl (by decide) kd_Mo_readSign_177 rfl ?_
  refine zk_aload_n C kd_Mo_readSign_180 rfl 0 rfl rfl ?_
  refine zk_aload_n C kd_Mo_readSign_181 rfl 0 rfl rfl ?_
  refine zs_get (v := .int (h.1 68 7)) C 68 7 rfl rfl rfl rfl ki_Mo (by decide) kw1690 kd_Mo_readSign_182 rfl ?_
  refine zk_iload_n C kd_Mo_readSign_185 rfl 1 rfl rfl ?_
  refine zk_if_le (tgt := 193) C kd_Mo_readSign_186 (by decide) rfl (fun b1 => ?_) (fun b1 => ?_)
  · replace e := zd_pos b1 e
    refine zk_iconst (v := 1) C kd_Mo_readSign_193 (by decide) rfl ?_
    refine zk_lvs (lv' := []) [] rfl ?_
    exact zb_Mo_readSign_194 C hR (zs_uF h 68 9 y0) 1 (h.1 68 7) e
  · replace e := zd_neg b1 e
    refine zk_iconst (v := 2) C kd_Mo_readSign_189 (by decide) rfl ?_
    refine zk_goto (tgt := 194) C kd_Mo_readSign_190 (by decide) ?_
    refine zk_lvs (lv' := []) [] rfl ?_
    exact zb_Mo_readSign_194 C hR (zs_uF h 68 9 y0) 2 (h.1 68 7) e
set_option maxHeartbeats 4000000 in
set_option maxRecDepth 100000 in
theorem zb_Mo_readSign_162 {X : zkj_T} {S : zs_T} {P : ze_T} {l : Launch} {D : va_G} {sz0 : Nat} {rh : zs_H} (C : zk_C X km_Mo_readSign (zs_G S l D sz0) { frames := 4, cells := 0, slots := 0, locals := 91 } (ze_E P)) (hR : zkj_R X (zd_PV S rh) (none)) (h : zs_H) (x1 : Int32) (x3 : Int32) (e : f_Mo_readSign_162 h x1 x3 = some rh) : zk_Ab X (zs_W S h) 0 0 162 [(0, .ref (S.1 68)), (1, .int x1), (3, .int x3)] [] := by
  unfold f_Mo_readSign_162 at e
  refine zk_aload_n C kd_Mo_readSign_162 rfl 0 rfl rfl ?_
  refine zk_iconst (v := 5) C kd_Mo_readSign_163 (by decide) rfl ?_
  refine zs_put (ty := .int) C 68 6 5 rfl rfl rfl rfl ki_Mo ky_Mo ko_Mo kn_Mo (by decide) kw1689 rfl rfl rfl rfl (by decide) kd_Mo_readSign_164 rfl ?_
  refine zk_aload_n C kd_Mo_readSign_167 rfl 0 rfl rfl ?_
  refine zk_iload_n C kd_Mo_readSign_168 rfl 2 rfl rfl ?_
  refine zk_if_le (tgt := 176) C kd_Mo_readSign_169 (by decide) rfl (fun b1 => ?_) (fun b1 => ?_)
  · replace e := zd_pos b1 e
    refine zk_iload_n C kd_Mo_readSign_176 rfl 1 rfl rfl ?_
    refine zk_lvs (lv' := [(0, .ref (S.1 68)), (3, .int x3)]) [0, 2] rfl ?_
    exact zb_Mo_readSign_177 C hR (zs_uF h 68 6 5) x3 x1 e
  · replace e := zd_neg b1 e
    refine zk_iload_n C kd_Mo_readSign_172 rfl 2 rfl rfl ?_
    refine zk_goto (tgt := 177) C kd_Mo_readSign_173 (by decide) ?_
    refine zk_lvs (lv' := [(0, .ref (S.1 68)), (3, .int x3)]) [0, 2] rfl ?_
    exact zb_Mo_readSign_177 C hR (zs_uF h 68 6 5) x3 x3 e
set_option maxHeartbeats 4000000 in
set_option maxRecDepth 100000 in
theorem zb_Mo_readSign_139 {X : zkj_T} {S : zs_T} {P : ze_T} {l : Launch} {D : va_G} {sz0 : Nat} {rh : zs_H} (C : zk_C X km_Mo_readSign (zs_G S l D sz0) { frames := 4, cells := 0, slots := 0, locals := 91 } (ze_E P)) (hR : zkj_R X (zd_PV S rh) (none)) (h : zs_H) (x1 : Int32) (x3 : Int32) (y0 : Int32) (e : f_Mo_readSign_139 h x1 x3 y0 = some rh) : zk_Ab X (zs_W S h) 0 0 139 [(0, .ref (S.1 68)), (1, .int x1), (3, .int x3)] [.int y0] := by
  unfold f_Mo_readSign_139 at e
  refine zk_istore (lv' := [(4, _), (0, _), (1, _), (3, _)]) C kd_Mo_readSign_139 (by decide) rfl rfl ?_
  refine zk_iload_n C kd_Mo_readSign_141 rfl 3 rfl rfl ?_
  refine zk_if_ne (tgt := 162) C kd_Mo_readSign_142 (by decide) rfl (fun b1 => ?_) (fun b1 => ?_)
  · replace e := zd_neg b1 e
    refine zk_lvs (lv' := [(0, .ref (S.1 68)), (1, .int x1), (3, .int x3)]) [1, 2, 3] rfl ?_
    exact zb_Mo_readSign_162 C hR h x1 x3 e
  · replace e := zd_pos b1 e
    refine zk_iload C kd_Mo_readSign_145 0 rfl rfl ?_
    refine zk_if_ne (tgt := 162) C kd_Mo_readSign_147 (by decide) rfl (fun b2 => ?_) (fun b2 => ?_)
    · replace e := zd_neg b2 e
      refine zk_lvs (lv' := [(0, .ref (S.1 68)), (1, .int x1), (3, .int x3)]) [1, 2, 3] rfl ?_
      exact zb_Mo_readSign_162 C hR h x1 x3 e
    · replace e := zd_pos b2 e
      refine zk_aload_n C kd_Mo_readSign_150 rfl 1 rfl rfl ?_
      refine zk_iconst (v := 1) C kd_Mo_readSign_151 (by decide) rfl ?_
      refine zk_aload_n C kd_Mo_readSign_152 rfl 1 rfl rfl ?_
      refine zs_get (v := .int (h.1 68 7)) C 68 7 rfl rfl rfl rfl ki_Mo (by decide) kw1690 kd_Mo_readSign_153 rfl ?_
      obtain ⟨h4, c3, e⟩ := zd_b e
      refine zs_callV (k := 68) (rn := { frames := 0, cells := 0, slots := 0, locals := 0 }) (As := [.int 1, .int (h.1 68 7)]) (rest := []) C (zc_Mo_fail h 1 (h.1 68 7) c3) ku_Mo_fail kw2013 kv_Mo_fail rfl ⟨by decide, by decide⟩ ⟨by decide, by decide⟩ rfl rfl rfl (Nat.le_of_ble_eq_true rfl) kd_Mo_readSign_156 rfl (c1 := 0) (s1 := 0) rfl rfl (fun v w hp => ?_)
      obtain ⟨rfl, rfl⟩ := hp
      refine zk_stk (r' := []) rfl ?_
      refine zk_goto (tgt := 198) C kd_Mo_readSign_159 (by decide) ?_
      exact zk_vret C hR kd_Mo_readSign_198 rfl rfl (zd_rV e)
set_option maxHeartbeats 4000000 in
set_option maxRecDepth 100000 in
theorem zb_Mo_readSign_138 {X : zkj_T} {S : zs_T} {P : ze_T} {l : Launch} {D : va_G} {sz0 : Nat} {rh : zs_H} (C : zk_C X km_Mo_readSign (zs_G S l D sz0) { frames := 4, cells := 0, slots := 0, locals := 91 } (ze_E P)) (hR : zkj_R X (zd_PV S rh) (none)) (h : zs_H) (x1 : Int32) (x3 : Int32) (e : f_Mo_readSign_138 h x1 x3 = some rh) : zk_Ab X (zs_W S h) 0 0 138 [(0, .ref (S.1 68)), (1, .int x1), (3, .int x3)] [] := by
  unfold f_Mo_readSign_138 at e
  refine zk_iconst (v := 0) C kd_Mo_readSign_138 (by decide) rfl ?_
  refine zk_lvs (lv' := [(0, .ref (S.1 68)), (1, .int x1), (3, .int x3)]) [0, 1, 2] rfl ?_
  exact zb_Mo_readSign_139 C hR h x1 x3 0 e
set_option maxHeartbeats 4000000 in
set_option maxRecDepth 100000 in
theorem zb_Mo_readSign_111 {X : zkj_T} {S : zs_T} {P : ze_T} {l : Launch} {D : va_G} {sz0 : Nat} {rh : zs_H} (C : zk_C X km_Mo_readSign (zs_G S l D sz0) { frames := 4, cells := 0, slots := 0, locals := 91 } (ze_E P)) (hR : zkj_R X (zd_PV S rh) (none)) (h : zs_H) (x1 : Int32) (y0 : Int32) (e : f_Mo_readSign_111 h x1 y0 = some rh) : zk_Ab X (zs_W S h) 0 0 111 [(0, .ref (S.1 68)), (1, .int x1)] [.int y0] := by
  unfold f_Mo_readSign_111 at e
  refine zk_istore_n (lv' := [(3, _), (0, _), (1, _)]) C kd_Mo_readSign_111 rfl (by decide) rfl rfl ?_
  refine zk_iload_n C kd_Mo_readSign_112 rfl 2 rfl rfl ?_
  refine zk_if_le (tgt := 138) C kd_Mo_readSign_113 (by decide) rfl (fun b1 => ?_) (fun b1 => ?_)
  · replace e := zd_pos b1 e
    refine zk_lvs (lv' := [(0, .ref (S.1 68)), (1, .int x1), (3, .int y0)]) [1, 2, 0] rfl ?_
    exact zb_Mo_readSign_138 C hR h x1 y0 e
  · replace e := zd_neg b1 e
    refine zk_iload_n C kd_Mo_readSign_116 rfl 2 rfl rfl ?_
    refine zk_sipush (v := 128) C kd_Mo_readSign_117 (by decide) rfl ?_
    refine zk_icmp_ge (tgt := 138) C kd_Mo_readSign_120 (by decide) rfl (fun b2 => ?_) (fun b2 => ?_)
    · replace e := zd_pos b2 e
      refine zk_lvs (lv' := [(0, .ref (S.1 68)), (1, .int x1), (3, .int y0)]) [1, 2, 0] rfl ?_
      exact zb_Mo_readSign_138 C hR h x1 y0 e
    · replace e := zd_neg b2 e
      refine ze_ldcSw (i := 9) C (zd_str 9 rfl) kd_Mo_readSign_123 rfl ?_
      refine zk_iload_n C kd_Mo_readSign_126 rfl 2 rfl rfl ?_
      refine zk_i2c C kd_Mo_readSign_127 rfl ?_
      obtain ⟨v4, c3, e⟩ := zd_b e
      refine ze_callStr (i := 9) (rn := { frames := 3, cells := 0, slots := 0, locals := 70 }) (As := [.int ((x1.toUInt32 % 65536).toInt32)]) (rest := []) C (zc_St_indexOf_s9 h ((x1.toUInt32 % 65536).toInt32) c3) ku_St_indexOf kw2084 kv_St_indexOf (by decide) rfl rfl ⟨by decide, by decide⟩ ⟨by decide, by decide⟩ rfl (Nat.le_of_ble_eq_true rfl) kd_Mo_readSign_128 rfl (c1 := 0) (s1 := 0) rfl rfl (fun v w hp => ?_)
      obtain ⟨rfl, rfl⟩ := hp
      refine zk_stk (r' := [.int v4]) rfl ?_
      refine zk_if_lt (tgt := 138) C kd_Mo_readSign_131 (by decide) rfl (fun b5 => ?_) (fun b5 => ?_)
      · replace e := zd_pos b5 e
        refine zk_lvs (lv' := [(0, .ref (S.1 68)), (1, .int x1), (3, .int y0)]) [1, 2, 0] rfl ?_
        exact zb_Mo_readSign_138 C hR h x1 y0 e
      · replace e := zd_neg b5 e
        refine zk_iconst (v := 1) C kd_Mo_readSign_134 (by decide) rfl ?_
        refine zk_goto (tgt := 139) C kd_Mo_readSign_135 (by decide) ?_
        refine zk_lvs (lv' := [(0, .ref (S.1 68)), (1, .int x1), (3, .int y0)]) [1, 2, 0] rfl ?_
        exact zb_Mo_readSign_139 C hR h x1 y0 1 e
set_option maxHeartbeats 4000000 in
set_option maxRecDepth 100000 in
theorem zb_Mo_readSign_110 {X : zkj_T} {S : zs_T} {P : ze_T} {l : Launch} {D : va_G} {sz0 : Nat} {rh : zs_H} (C : zk_C X km_Mo_readSign (zs_G S l D sz0) { frames := 4, cells := 0, slots := 0, locals := 91 } (ze_E P)) (hR : zkj_R X (zd_PV S rh) (none)) (h : zs_H) (x1 : Int32) (e : f_Mo_readSign_110 h x1 = some rh) : zk_Ab X (zs_W S h) 0 0 110 [(0, .ref (S.1 68)), (1, .int x1)] [] := by
  unfold f_Mo_readSign_110 at e
  refine zk_iconst (v := 0) C kd_Mo_readSign_110 (by decide) rfl ?_
  refine zk_lvs (lv' := [(0, .ref (S.1 68)), (1, .int x1)]) [0, 1] rfl ?_
  exact zb_Mo_readSign_111 C hR h x1 0 e
set_option maxHeartbeats 4000000 in
set_option maxRecDepth 100000 in
theorem zb_Mo_readSign_92 {X : zkj_T} {S : zs_T} {P : ze_T} {l : Launch} {D : va_G} {sz0 : Nat} {rh : zs_H} (C : zk_C X km_Mo_readSign (zs_G S l D sz0) { frames := 4, cells := 0, slots := 0, locals := 91 } (ze_E P)) (hR : zkj_R X (zd_PV S rh) (none)) (h : zs_H) (x1 : Int32) (x2 : Int32) (e : f_Mo_readSign_92 h x1 x2 = some rh) : zk_Ab X (zs_W S h) 0 0 92 [(0, .ref (S.1 68)), (1, .int x1), (2, .int x2)] [] := by
  unfold f_Mo_readSign_92 at e
  refine zk_iload_n C kd_Mo_readSign_92 rfl 1 rfl rfl ?_
  refine zk_bipush (v := 60) C kd_Mo_readSign_93 (by decide) rfl ?_
  refine zk_icmp_ne (tgt := 110) C kd_Mo_readSign_95 (by decide) rfl (fun b1 => ?_) (fun b1 => ?_)
  · replace e := zd_neg b1 e
    refine zk_lvs (lv' := [(0, .ref (S.1 68)), (1, .int x1)]) [0, 1] rfl ?_
    exact zb_Mo_readSign_110 C hR h x1 e
  · replace e := zd_pos b1 e
    refine zk_iload_n C kd_Mo_readSign_98 rfl 2 rfl rfl ?_
    refine zk_bipush (v := 62) C kd_Mo_readSign_99 (by decide) rfl ?_
    refine zk_icmp_ne (tgt := 110) C kd_Mo_readSign_101 (by decide) rfl (fun b2 => ?_) (fun b2 => ?_)
    · replace e := zd_neg b2 e
      refine zk_lvs (lv' := [(0, .ref (S.1 68)), (1, .int x1)]) [0, 1] rfl ?_
      exact zb_Mo_readSign_110 C hR h x1 e
    · replace e := zd_pos b2 e
      refine zk_sipush (v := 260) C kd_Mo_readSign_104 (by decide) rfl ?_
      refine zk_goto (tgt := 111) C kd_Mo_readSign_107 (by decide) ?_
      refine zk_lvs (lv' := [(0, .ref (S.1 68)), (1, .int x1)]) [0, 1] rfl ?_
      exact zb_Mo_readSign_111 C hR h x1 260 e
set_option maxHeartbeats 4000000 in
set_option maxRecDepth 100000 in
theorem zb_Mo_readSign_74 {X : zkj_T} {S : zs_T} {P : ze_T} {l : Launch} {D : va_G} {sz0 : Nat} {rh : zs_H} (C : zk_C X km_Mo_readSign (zs_G S l D sz0) { frames := 4, cells := 0, slots := 0, locals := 91 } (ze_E P)) (hR : zkj_R X (zd_PV S rh) (none)) (h : zs_H) (x1 : Int32) (x2 : Int32) (e : f_Mo_readSign_74 h x1 x2 = some rh) : zk_Ab X (zs_W S h) 0 0 74 [(0, .ref (S.1 68)), (1, .int x1), (2, .int x2)] [] := by
  unfold f_Mo_readSign_74 at e
  refine zk_iload_n C kd_Mo_readSign_74 rfl 1 rfl rfl ?_
  refine zk_bipush (v := 62) C kd_Mo_readSign_75 (by decide) rfl ?_
  refine zk_icmp_ne (tgt := 92) C kd_Mo_readSign_77 (by decide) rfl (fun b1 => ?_) (fun b1 => ?_)
  · replace e := zd_neg b1 e
    refine zk_lvs (lv' := [(0, .ref (S.1 68)), (1, .int x1), (2, .int x2)]) [0, 1, 2] rfl ?_
    exact zb_Mo_readSign_92 C hR h x1 x2 e
  · replace e := zd_pos b1 e
    refine zk_iload_n C kd_Mo_readSign_80 rfl 2 rfl rfl ?_
    refine zk_bipush (v := 61) C kd_Mo_readSign_81 (by decide) rfl ?_
    refine zk_icmp_ne (tgt := 92) C kd_Mo_readSign_83 (by decide) rfl (fun b2 => ?_) (fun b2 => ?_)
    · replace e := zd_neg b2 e
      refine zk_lvs (lv' := [(0, .ref (S.1 68)), (1, .int x1), (2, .int x2)]) [0, 1, 2] rfl ?_
      exact zb_Mo_readSign_92 C hR h x1 x2 e
    · replace e := zd_pos b2 e
      refine zk_sipush (v := 259) C kd_Mo_readSign_86 (by decide) rfl ?_
      refine zk_goto (tgt := 111) C kd_Mo_readSign_89 (by decide) ?_
      refine zk_lvs (lv' := [(0, .ref (S.1 68)), (1, .int x1)]) [0, 1] rfl ?_
      exact zb_Mo_readSign_111 C hR h x1 259 e
set_option maxHeartbeats 4000000 in
set_option maxRecDepth 100000 in
theorem zb_Mo_readSign_56 {X : zkj_T} {S : zs_T} {P : ze_T} {l : Launch} {D : va_G} {sz0 : Nat} {rh : zs_H} (C : zk_C X km_Mo_readSign (zs_G S l D sz0) { frames := 4, cells := 0, slots := 0, locals := 91 } (ze_E P)) (hR : zkj_R X (zd_PV S rh) (none)) (h : zs_H) (x1 : Int32) (x2 : Int32) (e : f_Mo_readSign_56 h x1 x2 = some rh) : zk_Ab X (zs_W S h) 0 0 56 [(0, .ref (S.1 68)), (1, .int x1), (2, .int x2)] [] := by
  unfold f_Mo_readSign_56 at e
  refine zk_iload_n C kd_Mo_readSign_56 rfl 1 rfl rfl ?_
  refine zk_bipush (v := 60) C kd_Mo_readSign_57 (by decide) rfl ?_
  refine zk_icmp_ne (tgt := 74) C kd_Mo_readSign_59 (by decide) rfl (fun b1 => ?_) (fun b1 => ?_)
  · replace e := zd_neg b1 e
    refine zk_lvs (lv' := [(0, .ref (S.1 68)), (1, .int x1), (2, .int x2)]) [0, 1, 2] rfl ?_
    exact zb_Mo_readSign_74 C hR h x1 x2 e
  · replace e := zd_pos b1 e
    refine zk_iload_n C kd_Mo_readSign_62 rfl 2 rfl rfl ?_
    refine zk_bipush (v := 61) C kd_Mo_readSign_63 (by decide) rfl ?_
    refine zk_icmp_ne (tgt := 74) C kd_Mo_readSign_65 (by decide) rfl (fun b2 => ?_) (fun b2 => ?_)
    · replace e := zd_neg b2 e
      refine zk_lvs (lv' := [(0, .ref (S.1 68)), (1, .int x1), (2, .int x2)]) [0, 1, 2] rfl ?_
      exact zb_Mo_readSign_74 C hR h x1 x2 e
    · replace e := zd_pos b2 e
      refine zk_sipush (v := 258) C kd_Mo_readSign_68 (by decide) rfl ?_
      refine zk_goto (tgt := 111) C kd_Mo_readSign_71 (by decide) ?_
      refine zk_lvs (lv' := [(0, .ref (S.1 68)), (1, .int x1)]) [0, 1] rfl ?_
      exact zb_Mo_readSign_111 C hR h x1 258 e
set_option maxHeartbeats 4000000 in
set_option maxRecDepth 100000 in
theorem zb_Mo_readSign_38 {X : zkj_T} {S : zs_T} {P : ze_T} {l : Launch} {D : va_G} {sz0 : Nat} {rh : zs_H} (C : zk_C X km_Mo_readSign (zs_G S l D sz0) { frames := 4, cells := 0, slots := 0, locals := 91 } (ze_E P)) (hR : zkj_R X (zd_PV S rh) (none)) (h : zs_H) (x1 : Int32) (x2 : Int32) (e : f_Mo_readSign_38 h x1 x2 = some rh) : zk_Ab X (zs_W S h) 0 0 38 [(0, .ref (S.1 68)), (1, .int x1), (2, .int x2)] [] := by
  unfold f_Mo_readSign_38 at e
  refine zk_iload_n C kd_Mo_readSign_38 rfl 1 rfl rfl ?_
  refine zk_bipush (v := 46) C kd_Mo_readSign_39 (by decide) rfl ?_
  refine zk_icmp_ne (tgt := 56) C kd_Mo_readSign_41 (by decide) rfl (fun b1 => ?_) (fun b1 => ?_)
  · replace e := zd_neg b1 e
    refine zk_lvs (lv' := [(0, .ref (S.1 68)), (1, .int x1), (2, .int x2)]) [0, 1, 2] rfl ?_
    exact zb_Mo_readSign_56 C hR h x1 x2 e
  · replace e := zd_pos b1 e
    refine zk_iload_n C kd_Mo_readSign_44 rfl 2 rfl rfl ?_
    refine zk_bipush (v := 46) C kd_Mo_readSign_45 (by decide) rfl ?_
    refine zk_icmp_ne (tgt := 56) C kd_Mo_readSign_47 (by decide) rfl (fun b2 => ?_) (fun b2 => ?_)
    · replace e := zd_neg b2 e
      refine zk_lvs (lv' := [(0, .ref (S.1 68)), (1, .int x1), (2, .int x2)]) [0, 1, 2] rfl ?_
      exact zb_Mo_readSign_56 C hR h x1 x2 e
    · replace e := zd_pos b2 e
      refine zk_sipush (v := 257) C kd_Mo_readSign_50 (by decide) rfl ?_
      refine zk_goto (tgt := 111) C kd_Mo_readSign_53 (by decide) ?_
      refine zk_lvs (lv' := [(0, .ref (S.1 68)), (1, .int x1)]) [0, 1] rfl ?_
      exact zb_Mo_readSign_111 C hR h x1 257 e
set_option maxHeartbeats 4000000 in
set_option maxRecDepth 100000 in
theorem zc_Mo_readSign {l : Launch} {D : va_G} {sz0 : Nat} {S : zs_T} {P : ze_T} (h : zs_H) {rh : zs_H} (e : f_Mo_readSign h = some rh) : zk_Sp (zs_G S l D sz0) (ze_E P) km_Mo_readSign { frames := 4, cells := 0, slots := 0, locals := 91 } [.ref (S.1 68)] (zs_W S h) (zd_PV S rh) := by
  refine zk_met ku_Mo_readSign (Nat.le_of_ble_eq_true rfl) (ze_Em P) ?_
  intro X C hR
  refine zk_lvs (lv' := [(0, .ref (S.1 68))]) [0] rfl ?_
  unfold f_Mo_readSign at e
  refine zk_aload_n C kd_Mo_readSign_0 rfl 0 rfl rfl ?_
  refine zk_aload_n C kd_Mo_readSign_1 rfl 0 rfl rfl ?_
  refine zs_get (v := .int (h.1 68 7)) C 68 7 rfl rfl rfl rfl ki_Mo (by decide) kw1690 kd_Mo_readSign_2 rfl ?_
  obtain ⟨v2, c1, e⟩ := zd_b e
  refine zs_callV (k := 68) (rn := { frames := 0, cells := 0, slots := 0, locals := 0 }) (As := [.int (h.1 68 7)]) (rest := []) C (zc_Mo_byteOf h (h.1 68 7) c1) ku_Mo_byteOf kw2009 kv_Mo_byteOf rfl ⟨by decide, by decide⟩ ⟨by decide, by decide⟩ rfl rfl rfl (Nat.le_of_ble_eq_true rfl) kd_Mo_readSign_5 rfl (c1 := 0) (s1 := 0) rfl rfl (fun v w hp => ?_)
  obtain ⟨rfl, rfl⟩ := hp
  refine zk_stk (r' := [.int v2]) rfl ?_
  refine zk_istore_n (lv' := [(1, _), (0, _)]) C kd_Mo_readSign_8 rfl (by decide) rfl rfl ?_
  refine zk_aload_n C kd_Mo_readSign_9 rfl 1 rfl rfl ?_
  refine zk_aload_n C kd_Mo_readSign_10 rfl 1 rfl rfl ?_
  refine zs_get (v := .int (h.1 68 7)) C 68 7 rfl rfl rfl rfl ki_Mo (by decide) kw1690 kd_Mo_readSign_11 rfl ?_
  refine zk_iconst (v := 1) C kd_Mo_readSign_14 (by decide) rfl ?_
  refine zk_iadd C kd_Mo_readSign_15 rfl ?_
  obtain ⟨v4, c3, e⟩ := zd_b e
  refine zs_callV (k := 68) (rn := { frames := 0, cells := 0, slots := 0, locals := 0 }) (As := [.int ((h.1 68 7) + 1)]) (rest := []) C (zc_Mo_byteOf h ((h.1 68 7) + 1) c3) ku_Mo_byteOf kw2009 kv_Mo_byteOf rfl ⟨by decide, by decide⟩ ⟨by decide, by decide⟩ rfl rfl rfl (Nat.le_of_ble_eq_true rfl) kd_Mo_readSign_16 rfl (c1 := 0) (s1 := 0) rfl rfl (fun v w hp => ?_)
  obtain ⟨rfl, rfl⟩ := hp
  refine zk_stk (r' := [.int v4]) rfl ?_
  refine zk_istore_n (lv' := [(2, _), (1, _), (0, _)]) C kd_Mo_readSign_19 rfl (by decide) rfl rfl ?_
  refine zk_iload_n C kd_Mo_readSign_20 rfl 1 rfl rfl ?_
  refine zk_bipush (v := 58) C kd_Mo_readSign_21 (by decide) rfl ?_
  refine zk_icmp_ne (tgt := 38) C kd_Mo_readSign_23 (by decide) rfl (fun b5 => ?_) (fun b5 => ?_)
  · replace e := zd_neg b5 e
    refine zk_lvs (lv' := [(0, .ref (S.1 68)), (1, .int v2), (2, .int v4)]) [2, 1, 0] rfl ?_
    exact zb_Mo_readSign_38 C hR h v2 v4 e
  · replace e := zd_pos b5 e
    refine zk_iload_n C kd_Mo_readSign_26 rfl 0 rfl rfl ?_
    refine zk_bipush (v := 61) C kd_Mo_readSign_27 (by decide) rfl ?_
    refine zk_icmp_ne (tgt := 38) C kd_Mo_readSign_29 (by decide) rfl (fun b6 => ?_) (fun b6 => ?_)
    · replace e := zd_neg b6 e
      refine zk_lvs (lv' := [(0, .ref (S.1 68)), (1, .int v2), (2, .int v4)]) [2, 1, 0] rfl ?_
      exact zb_Mo_readSign_38 C hR h v2 v4 e
    · replace e := zd_pos b6 e
      refine zk_sipush (v := 256) C kd_Mo_readSign_32 (by decide) rfl ?_
      refine zk_goto (tgt := 111) C kd_Mo_readSign_35 (by decide) ?_
      refine zk_lvs (lv' := [(0, .ref (S.1 68)), (1, .int v2)]) [2, 1] rfl ?_
      exact zb_Mo_readSign_111 C hR h v2 256 e
set_option maxHeartbeats 4000000 in
set_option maxRecDepth 100000 in
theorem zb_Mo_next_97 {X : zkj_T} {S : zs_T} {P : ze_T} {l : Launch} {D : va_G} {sz0 : Nat} {rh : zs_H} (C : zk_C X km_Mo_next (zs_G S l D sz0) { frames := 6, cells := 0, slots := 0, locals := 129 } (ze_E P)) (hR : zkj_R X (zd_PV S rh) (none)) (h : zs_H) (x1 : Int32) (e : f_Mo_next_97 h x1 = some rh) : zk_Ab X (zs_W S h) 0 0 97 [(0, .ref (S.1 68)), (1, .int x1)] [] := by
  unfold f_Mo_next_97 at e
  refine zk_iload_n C kd_Mo_next_97 rfl 1 rfl rfl ?_
  refine zk_callS (rn := { frames := 0, cells := 0, slots := 0, locals := 0 }) (As := [.int x1]) (rest := []) C (zc_Mo_isLetter h x1) ku_Mo_isLetter kw2048 ks_Mo_isLetter rfl ⟨by decide, by decide⟩ ⟨by decide, by decide⟩ rfl (Nat.le_of_ble_eq_true rfl) kd_Mo_next_98 rfl (c1 := 0) (s1 := 0) rfl rfl (fun v w hp => ?_)
  obtain ⟨rfl, rfl, z1⟩ := hp
  refine zk_stk (r' := [.int (f_Mo_isLetter x1)]) rfl ?_
  refine zk_if_eq (tgt := 111) C kd_Mo_next_101 (by decide) rfl (fun b2 => ?_) (fun b2 => ?_)
  · replace e := zd_pos b2 e
    refine zk_iload_n C kd_Mo_next_111 rfl 1 rfl rfl ?_
    refine zk_callS (rn := { frames := 0, cells := 0, slots := 0, locals := 0 }) (As := [.int x1]) (rest := []) C (zc_Mo_isDigit h x1) ku_Mo_isDigit kw2033 ks_Mo_isDigit rfl ⟨by decide, by decide⟩ ⟨by decide, by decide⟩ rfl (Nat.le_of_ble_eq_true rfl) kd_Mo_next_112 rfl (c1 := 0) (s1 := 0) rfl rfl (fun v w hp => ?_)
    obtain ⟨rfl, rfl, z3⟩ := hp
    refine zk_stk (r' := [.int (f_Mo_isDigit x1)]) rfl ?_
    refine zk_if_eq (tgt := 125) C kd_Mo_next_115 (by decide) rfl (fun b4 => ?_) (fun b4 => ?_)
    · replace e := zd_pos b4 e
      refine zk_iload_n C kd_Mo_next_125 rfl 1 rfl rfl ?_
      refine zk_bipush (v := 37) C kd_Mo_next_126 (by decide) rfl ?_
      refine zk_icmp_ne (tgt := 138) C kd_Mo_next_128 (by decide) rfl (fun b5 => ?_) (fun b5 => ?_)
      · replace e := zd_neg b5 e
        refine zk_aload_n C kd_Mo_next_138 rfl 0 rfl rfl ?_
        obtain ⟨h7, c6, e⟩ := zd_b e
        refine zs_callV (k := 68) (rn := { frames := 4, cells := 0, slots := 0, locals := 91 }) (As := []) (rest := []) C (zc_Mo_readSign h c6) ku_Mo_readSign kw2079 kv_Mo_readSign rfl ⟨by decide, by decide⟩ ⟨by decide, by decide⟩ rfl rfl rfl (Nat.le_of_ble_eq_true rfl) kd_Mo_next_139 rfl (c1 := 0) (s1 := 0) rfl rfl (fun v w hp => ?_)
        obtain ⟨rfl, rfl⟩ := hp
        refine zk_stk (r' := []) rfl ?_
        exact zk_vret C hR kd_Mo_next_142 rfl rfl (zd_rV e)
      · replace e := zd_pos b5 e
        refine zk_aload_n C kd_Mo_next_131 rfl 0 rfl rfl ?_
        obtain ⟨h9, c8, e⟩ := zd_b e
        refine zs_callV (k := 68) (rn := { frames := 4, cells := 0, slots := 0, locals := 85 }) (As := []) (rest := []) C (zc_Mo_readPlace h c8) ku_Mo_readPlace kw2072 kv_Mo_readPlace rfl ⟨by decide, by decide⟩ ⟨by decide, by decide⟩ rfl rfl rfl (Nat.le_of_ble_eq_true rfl) kd_Mo_next_132 rfl (c1 := 0) (s1 := 0) rfl rfl (fun v w hp => ?_)
        obtain ⟨rfl, rfl⟩ := hp
        refine zk_stk (r' := []) rfl ?_
        refine zk_goto (tgt := 142) C kd_Mo_next_135 (by decide) ?_
        exact zk_vret C hR kd_Mo_next_142 rfl rfl (zd_rV e)
    · replace e := zd_neg b4 e
      refine zk_aload_n C kd_Mo_next_118 rfl 0 rfl rfl ?_
      obtain ⟨h11, c10, e⟩ := zd_b e
      refine zs_callV (k := 68) (rn := { frames := 4, cells := 0, slots := 0, locals := 86 }) (As := []) (rest := []) C (zc_Mo_readNumber h c10) ku_Mo_readNumber kw2066 kv_Mo_readNumber rfl ⟨by decide, by decide⟩ ⟨by decide, by decide⟩ rfl rfl rfl (Nat.le_of_ble_eq_true rfl) kd_Mo_next_119 rfl (c1 := 0) (s1 := 0) rfl rfl (fun v w hp => ?_)
      obtain ⟨rfl, rfl⟩ := hp
      refine zk_stk (r' := []) rfl ?_
      refine zk_goto (tgt := 142) C kd_Mo_next_122 (by decide) ?_
      exact zk_vret C hR kd_Mo_next_142 rfl rfl (zd_rV e)
  · replace e := zd_neg b2 e
    refine zk_aload_n C kd_Mo_next_104 rfl 0 rfl rfl ?_
    obtain ⟨h13, c12, e⟩ := zd_b e
    refine zs_callV (k := 68) (rn := { frames := 5, cells := 0, slots := 0, locals := 109 }) (As := []) (rest := []) C (zc_Mo_readName h c12) ku_Mo_readName kw2051 kv_Mo_readName rfl ⟨by decide, by decide⟩ ⟨by decide, by decide⟩ rfl rfl rfl (Nat.le_of_ble_eq_true rfl) kd_Mo_next_105 rfl (c1 := 0) (s1 := 0) rfl rfl (fun v w hp => ?_)
    obtain ⟨rfl, rfl⟩ := hp
    refine zk_stk (r' := []) rfl ?_
    refine zk_goto (tgt := 142) C kd_Mo_next_108 (by decide) ?_
    exact zk_vret C hR kd_Mo_next_142 rfl rfl (zd_rV e)
set_option maxHeartbeats 4000000 in
set_option maxRecDepth 100000 in
theorem zc_Mo_next {l : Launch} {D : va_G} {sz0 : Nat} {S : zs_T} {P : ze_T} (h : zs_H) {rh : zs_H} (e : f_Mo_next h = some rh) : zk_Sp (zs_G S l D sz0) (ze_E P) km_Mo_next { frames := 6, cells := 0, slots := 0, locals := 129 } [.ref (S.1 68)] (zs_W S h) (zd_PV S rh) := by
  refine zk_met ku_Mo_next (Nat.le_of_ble_eq_true rfl) (ze_Em P) ?_
  intro X C hR
  refine zk_lvs (lv' := [(0, .ref (S.1 68))]) [0] rfl ?_
  unfold f_Mo_next at e
  refine zk_aload_n C kd_Mo_next_0 rfl 0 rfl rfl ?_
  refine zk_aload_n C kd_Mo_next_1 rfl 0 rfl rfl ?_
  refine zk_aload_n C kd_Mo_next_2 rfl 0 rfl rfl ?_
  refine zs_get (v := .int (h.1 68 8)) C 68 8 rfl rfl rfl rfl ki_Mo (by decide) kw1691 kd_Mo_next_3 rfl ?_
  obtain ⟨v2, h3, c1, e⟩ := zd_Be e
  refine zs_callV (k := 68) (rn := { frames := 1, cells := 0, slots := 0, locals := 22 }) (As := [.int (h.1 68 8)]) (rest := [.ref (S.1 68)]) C (zc_Mo_skip h (h.1 68 8) c1) ku_Mo_skip kw2005 kv_Mo_skip rfl ⟨by decide, by decide⟩ ⟨by decide, by decide⟩ rfl rfl rfl (Nat.le_of_ble_eq_true rfl) kd_Mo_next_6 rfl (c1 := 0) (s1 := 0) rfl rfl (fun v w hp => ?_)
  obtain ⟨rfl, rfl⟩ := hp
  refine zk_stk (r' := [.int v2, .ref (S.1 68)]) rfl ?_
  refine zs_put (ty := .int) C 68 7 v2 rfl rfl rfl rfl ki_Mo ky_Mo ko_Mo kn_Mo (by decide) kw1690 rfl rfl rfl rfl (by decide) kd_Mo_next_9 rfl ?_
  refine zk_aload_n C kd_Mo_next_12 rfl 0 rfl rfl ?_
  refine zs_get (v := .int v2) C 68 7 rfl rfl rfl rfl ki_Mo (by decide) kw1690 kd_Mo_next_13 rfl ?_
  refine zk_if_ge (tgt := 25) C kd_Mo_next_16 (by decide) rfl (fun b4 => ?_) (fun b4 => ?_)
  · replace e := zd_pos b4 e
    refine zk_aload_n C kd_Mo_next_25 rfl 0 rfl rfl ?_
    refine zk_aload_n C kd_Mo_next_26 rfl 0 rfl rfl ?_
    refine zs_get (v := .int v2) C 68 7 rfl rfl rfl rfl ki_Mo (by decide) kw1690 kd_Mo_next_27 rfl ?_
    obtain ⟨v6, c5, e⟩ := zd_b e
    refine zs_callV (k := 68) (rn := { frames := 1, cells := 0, slots := 0, locals := 21 }) (As := [.int v2]) (rest := []) C (zc_Mo_great (zs_uF h3 68 7 v2) v2 c5) ku_Mo_great kw2017 kv_Mo_great rfl ⟨by decide, by decide⟩ ⟨by decide, by decide⟩ rfl rfl rfl (Nat.le_of_ble_eq_true rfl) kd_Mo_next_30 rfl (c1 := 0) (s1 := 0) rfl rfl (fun v w hp => ?_)
    obtain ⟨rfl, rfl⟩ := hp
    refine zk_stk (r' := [.int v6]) rfl ?_
    refine zk_istore_n (lv' := [(1, _), (0, _)]) C kd_Mo_next_33 rfl (by decide) rfl rfl ?_
    refine zk_aload_n C kd_Mo_next_34 rfl 1 rfl rfl ?_
    refine zs_get (v := .int v2) C 68 7 rfl rfl rfl rfl ki_Mo (by decide) kw1690 kd_Mo_next_35 rfl ?_
    refine zk_aload_n C kd_Mo_next_38 rfl 1 rfl rfl ?_
    refine zs_get (v := .int (h3.1 68 1)) C 68 1 rfl rfl rfl rfl ki_Mo (by decide) kw1684 kd_Mo_next_39 rfl ?_
    refine zk_icmp_lt (tgt := 69) C kd_Mo_next_42 (by decide) rfl (fun b7 => ?_) (fun b7 => ?_)
    · replace e := zd_pos b7 e
      refine zk_iload_n C kd_Mo_next_69 rfl 0 rfl rfl ?_
      refine zk_bipush (v := 84) C kd_Mo_next_70 (by decide) rfl ?_
      refine zk_icmp_ne (tgt := 97) C kd_Mo_next_72 (by decide) rfl (fun b8 => ?_) (fun b8 => ?_)
      · replace e := zd_neg b8 e
        refine zk_lvs (lv' := [(0, .ref (S.1 68)), (1, .int v6)]) [1, 0] rfl ?_
        exact zb_Mo_next_97 C hR (zs_uF h3 68 7 v2) v6 e
      · replace e := zd_pos b8 e
        refine zk_aload_n C kd_Mo_next_75 rfl 1 rfl rfl ?_
        refine zk_aload_n C kd_Mo_next_76 rfl 1 rfl rfl ?_
        refine zs_get (v := .int v2) C 68 7 rfl rfl rfl rfl ki_Mo (by decide) kw1690 kd_Mo_next_77 rfl ?_
        refine zk_iconst (v := 1) C kd_Mo_next_80 (by decide) rfl ?_
        refine zk_iadd C kd_Mo_next_81 rfl ?_
        obtain ⟨v10, c9, e⟩ := zd_b e
        refine zs_callV (k := 68) (rn := { frames := 0, cells := 0, slots := 0, locals := 0 }) (As := [.int (v2 + 1)]) (rest := []) C (zc_Mo_byteOf (zs_uF h3 68 7 v2) (v2 + 1) c9) ku_Mo_byteOf kw2009 kv_Mo_byteOf rfl ⟨by decide, by decide⟩ ⟨by decide, by decide⟩ rfl rfl rfl (Nat.le_of_ble_eq_true rfl) kd_Mo_next_82 rfl (c1 := 0) (s1 := 0) rfl rfl (fun v w hp => ?_)
        obtain ⟨rfl, rfl⟩ := hp
        refine zk_stk (r' := [.int v10]) rfl ?_
        refine zk_bipush (v := 35) C kd_Mo_next_85 (by decide) rfl ?_
        refine zk_icmp_ne (tgt := 97) C kd_Mo_next_87 (by decide) rfl (fun b11 => ?_) (fun b11 => ?_)
        · replace e := zd_neg b11 e
          refine zk_lvs (lv' := [(0, .ref (S.1 68)), (1, .int v6)]) [1, 0] rfl ?_
          exact zb_Mo_next_97 C hR (zs_uF h3 68 7 v2) v6 e
        · replace e := zd_pos b11 e
          refine zk_aload_n C kd_Mo_next_90 rfl 1 rfl rfl ?_
          obtain ⟨h13, c12, e⟩ := zd_b e
          refine zs_callV (k := 68) (rn := { frames := 4, cells := 0, slots := 0, locals := 86 }) (As := []) (rest := []) C (zc_Mo_readTime (zs_uF h3 68 7 v2) c12) ku_Mo_readTime kw2021 kv_Mo_readTime rfl ⟨by decide, by decide⟩ ⟨by decide, by decide⟩ rfl rfl rfl (Nat.le_of_ble_eq_true rfl) kd_Mo_next_91 rfl (c1 := 0) (s1 := 0) rfl rfl (fun v w hp => ?_)
          obtain ⟨rfl, rfl⟩ := hp
          refine zk_stk (r' := []) rfl ?_
          refine zk_goto (tgt := 142) C kd_Mo_next_94 (by decide) ?_
          exact zk_vret C hR kd_Mo_next_142 rfl rfl (zd_rV e)
    · replace e := zd_neg b7 e
      refine zk_aload_n C kd_Mo_next_45 rfl 1 rfl rfl ?_
      refine zk_iconst (v := 0) C kd_Mo_next_46 (by decide) rfl ?_
      refine zs_put (ty := .int) C 68 6 0 rfl rfl rfl rfl ki_Mo ky_Mo ko_Mo kn_Mo (by decide) kw1689 rfl rfl rfl rfl (by decide) kd_Mo_next_47 rfl ?_
      refine zk_aload_n C kd_Mo_next_50 rfl 1 rfl rfl ?_
      refine zk_aload_n C kd_Mo_next_51 rfl 1 rfl rfl ?_
      refine zs_get (v := .int (h3.1 68 1)) C 68 1 rfl rfl rfl rfl ki_Mo (by decide) kw1684 kd_Mo_next_52 rfl ?_
      refine zs_put (ty := .int) C 68 7 (h3.1 68 1) rfl rfl rfl rfl ki_Mo ky_Mo ko_Mo kn_Mo (by decide) kw1690 rfl rfl rfl rfl (by decide) kd_Mo_next_55 rfl ?_
      refine zk_aload_n C kd_Mo_next_58 rfl 1 rfl rfl ?_
      refine zk_aload_n C kd_Mo_next_59 rfl 1 rfl rfl ?_
      refine zs_get (v := .int (h3.1 68 1)) C 68 1 rfl rfl rfl rfl ki_Mo (by decide) kw1684 kd_Mo_next_60 rfl ?_
      refine zs_put (ty := .int) C 68 8 (h3.1 68 1) rfl rfl rfl rfl ki_Mo ky_Mo ko_Mo kn_Mo (by decide) kw1691 rfl rfl rfl rfl (by decide) kd_Mo_next_63 rfl ?_
      refine zk_goto (tgt := 142) C kd_Mo_next_66 (by decide) ?_
      exact zk_vret C hR kd_Mo_next_142 rfl rfl (zd_rV e)
  · replace e := zd_neg b4 e
    refine zk_aload_n C kd_Mo_next_19 rfl 0 rfl rfl ?_
    refine zk_iconst (v := 0) C kd_Mo_next_20 (by decide) rfl ?_
    refine zs_put (ty := .int) C 68 6 0 rfl rfl rfl rfl ki_Mo ky_Mo ko_Mo kn_Mo (by decide) kw1689 rfl rfl rfl rfl (by decide) kd_Mo_next_21 rfl ?_
    exact zk_vret C hR kd_Mo_next_24 rfl rfl (zd_rV e)
set_option maxHeartbeats 4000000 in
set_option maxRecDepth 100000 in
theorem zc_Mo_node {l : Launch} {D : va_G} {sz0 : Nat} {S : zs_T} {P : ze_T} (h : zs_H) (x1 : Int32) (x2 : Int32) (x3 : Int32) {rv : Int32} {rh : zs_H} (e : f_Mo_node h x1 x2 x3 = some (rv, rh)) : zk_Sp (zs_G S l D sz0) (ze_E P) km_Mo_node { frames := 0, cells := 0, slots := 0, locals := 0 } [.ref (S.1 68), .int x1, .int x2, .int x3] (zs_W S h) (zd_PI S rv rh) := by
  refine zk_met ku_Mo_node (Nat.le_of_ble_eq_true rfl) (ze_Em P) ?_
  intro X C hR
  refine zk_lvs (lv' := [(0, .ref (S.1 68)), (1, .int x1), (2, .int x2), (3, .int x3)]) [0, 1, 2, 3] rfl ?_
  unfold f_Mo_node at e
  refine zk_aload_n C kd_Mo_node_0 rfl 0 rfl rfl ?_
  refine zs_get (v := .int (h.1 68 14)) C 68 14 rfl rfl rfl rfl ki_Mo (by decide) kw1697 kd_Mo_node_1 rfl ?_
  refine zk_istore (lv' := [(4, _), (0, _), (1, _), (2, _), (3, _)]) C kd_Mo_node_4 (by decide) rfl rfl ?_
  refine zk_aload_n C kd_Mo_node_6 rfl 1 rfl rfl ?_
  refine zk_dup C kd_Mo_node_7 rfl rfl ?_
  refine zs_get (v := .int (h.1 68 14)) C 68 14 rfl rfl rfl rfl ki_Mo (by decide) kw1697 kd_Mo_node_8 rfl ?_
  refine zk_iconst (v := 1) C kd_Mo_node_11 (by decide) rfl ?_
  refine zk_iadd C kd_Mo_node_12 rfl ?_
  refine zs_put (ty := .int) C 68 14 ((h.1 68 14) + 1) rfl rfl rfl rfl ki_Mo ky_Mo ko_Mo kn_Mo (by decide) kw1697 rfl rfl rfl rfl (by decide) kd_Mo_node_13 rfl ?_
  refine zk_aload_n C kd_Mo_node_16 rfl 1 rfl rfl ?_
  refine zs_get (v := .ref (S.1 72)) C 68 15 rfl rfl rfl rfl ki_Mo (by decide) kw1698 kd_Mo_node_17 rfl ?_
  refine zk_iload C kd_Mo_node_20 0 rfl rfl ?_
  refine zk_iload_n C kd_Mo_node_22 rfl 2 rfl rfl ?_
  obtain ⟨q1, e⟩ := zd_g e
  refine zs_iast C 72 rfl (zd_vp q1) kd_Mo_node_23 rfl ?_
  refine zk_aload_n C kd_Mo_node_24 rfl 1 rfl rfl ?_
  refine zs_get (v := .ref (S.1 73)) C 68 16 rfl rfl rfl rfl ki_Mo (by decide) kw1699 kd_Mo_node_25 rfl ?_
  refine zk_iload C kd_Mo_node_28 0 rfl rfl ?_
  refine zk_iload_n C kd_Mo_node_30 rfl 3 rfl rfl ?_
  refine zs_iast C 73 rfl (zd_vp q1) kd_Mo_node_31 rfl ?_
  refine zk_aload_n C kd_Mo_node_32 rfl 1 rfl rfl ?_
  refine zs_get (v := .ref (S.1 74)) C 68 17 rfl rfl rfl rfl ki_Mo (by decide) kw1700 kd_Mo_node_33 rfl ?_
  refine zk_iload C kd_Mo_node_36 0 rfl rfl ?_
  refine zk_iload_n C kd_Mo_node_38 rfl 4 rfl rfl ?_
  refine zs_iast C 74 rfl (zd_vp q1) kd_Mo_node_39 rfl ?_
  refine zk_aload_n C kd_Mo_node_40 rfl 1 rfl rfl ?_
  refine zs_get (v := .ref (S.1 75)) C 68 18 rfl rfl rfl rfl ki_Mo (by decide) kw1701 kd_Mo_node_41 rfl ?_
  refine zk_iload C kd_Mo_node_44 0 rfl rfl ?_
  refine zk_iconst (v := (-1)) C kd_Mo_node_46 (by decide) rfl ?_
  refine zs_iast C 75 rfl (zd_vp q1) kd_Mo_node_47 rfl ?_
  refine zk_aload_n C kd_Mo_node_48 rfl 1 rfl rfl ?_
  refine zs_get (v := .ref (S.1 76)) C 68 19 rfl rfl rfl rfl ki_Mo (by decide) kw1702 kd_Mo_node_49 rfl ?_
  refine zk_iload C kd_Mo_node_52 0 rfl rfl ?_
  refine zk_iconst (v := (-1)) C kd_Mo_node_54 (by decide) rfl ?_
  refine zs_iast C 76 rfl (zd_vp q1) kd_Mo_node_55 rfl ?_
  refine zk_aload_n C kd_Mo_node_56 rfl 1 rfl rfl ?_
  refine zs_get (v := .ref (S.1 77)) C 68 20 rfl rfl rfl rfl ki_Mo (by decide) kw1703 kd_Mo_node_57 rfl ?_
  refine zk_iload C kd_Mo_node_60 0 rfl rfl ?_
  refine zk_iconst (v := (-1)) C kd_Mo_node_62 (by decide) rfl ?_
  refine zs_iast C 77 rfl (zd_vp q1) kd_Mo_node_63 rfl ?_
  refine zk_aload_n C kd_Mo_node_64 rfl 1 rfl rfl ?_
  refine zs_get (v := .ref (S.1 78)) C 68 21 rfl rfl rfl rfl ki_Mo (by decide) kw1704 kd_Mo_node_65 rfl ?_
  refine zk_iload C kd_Mo_node_68 0 rfl rfl ?_
  refine zk_iconst (v := (-1)) C kd_Mo_node_70 (by decide) rfl ?_
  refine zs_iast C 78 rfl (zd_vp q1) kd_Mo_node_71 rfl ?_
  refine zk_iload C kd_Mo_node_72 0 rfl rfl ?_
  exact zk_iret C hR kd_Mo_node_74 rfl rfl (zd_rIS e)
set_option maxHeartbeats 4000000 in
set_option maxRecDepth 100000 in
theorem zc_Mo_wrong {l : Launch} {D : va_G} {sz0 : Nat} {S : zs_T} {P : ze_T} (h : zs_H) {rh : zs_H} (e : f_Mo_wrong h = some rh) : zk_Sp (zs_G S l D sz0) (ze_E P) km_Mo_wrong { frames := 1, cells := 0, slots := 0, locals := 22 } [.ref (S.1 68)] (zs_W S h) (zd_PV S rh) := by
  refine zk_met ku_Mo_wrong (Nat.le_of_ble_eq_true rfl) (ze_Em P) ?_
  intro X C hR
  refine zk_lvs (lv' := [(0, .ref (S.1 68))]) [0] rfl ?_
  unfold f_Mo_wrong at e
  refine zk_aload_n C kd_Mo_wrong_0 rfl 0 rfl rfl ?_
  refine zk_bipush (v := 6) C kd_Mo_wrong_1 (by decide) rfl ?_
  refine zk_aload_n C kd_Mo_wrong_3 rfl 0 rfl rfl ?_
  refine zs_get (v := .int (h.1 68 7)) C 68 7 rfl rfl rfl rfl ki_Mo (by decide) kw1690 kd_Mo_wrong_4 rfl ?_
  obtain ⟨h2, c1, e⟩ := zd_b e
  refine zs_callV (k := 68) (rn := { frames := 0, cells := 0, slots := 0, locals := 0 }) (As := [.int 6, .int (h.1 68 7)]) (rest := []) C (zc_Mo_fail h 6 (h.1 68 7) c1) ku_Mo_fail kw2013 kv_Mo_fail rfl ⟨by decide, by decide⟩ ⟨by decide, by decide⟩ rfl rfl rfl (Nat.le_of_ble_eq_true rfl) kd_Mo_wrong_7 rfl (c1 := 0) (s1 := 0) rfl rfl (fun v w hp => ?_)
  obtain ⟨rfl, rfl⟩ := hp
  refine zk_stk (r' := []) rfl ?_
  exact zk_vret C hR kd_Mo_wrong_10 rfl rfl (zd_rV e)
set_option maxHeartbeats 4000000 in
set_option maxRecDepth 100000 in
theorem zb_Mo_hang_31 {X : zkj_T} {S : zs_T} {P : ze_T} {l : Launch} {D : va_G} {sz0 : Nat} {rh : zs_H} (C : zk_C X km_Mo_hang (zs_G S l D sz0) { frames := 0, cells := 0, slots := 0, locals := 0 } (ze_E P)) (hR : zkj_R X (zd_PV S rh) (none)) (h : zs_H) (x1 : Int32) (x2 : Int32) (e : f_Mo_hang_31 h x1 x2 = some rh) : zk_Ab X (zs_W S h) 0 0 31 [(0, .ref (S.1 68)), (1, .int x1), (2, .int x2)] [] := by
  unfold f_Mo_hang_31 at e
  refine zk_aload_n C kd_Mo_hang_31 rfl 0 rfl rfl ?_
  refine zs_get (v := .ref (S.1 77)) C 68 20 rfl rfl rfl rfl ki_Mo (by decide) kw1703 kd_Mo_hang_32 rfl ?_
  refine zk_iload_n C kd_Mo_hang_35 rfl 2 rfl rfl ?_
  refine zk_iload_n C kd_Mo_hang_36 rfl 1 rfl rfl ?_
  obtain ⟨q1, e⟩ := zd_g e
  refine zs_iast C 77 rfl (zd_vp q1) kd_Mo_hang_37 rfl ?_
  refine zk_aload_n C kd_Mo_hang_38 rfl 0 rfl rfl ?_
  refine zs_get (v := .ref (S.1 75)) C 68 18 rfl rfl rfl rfl ki_Mo (by decide) kw1701 kd_Mo_hang_39 rfl ?_
  refine zk_iload_n C kd_Mo_hang_42 rfl 1 rfl rfl ?_
  refine zk_iload_n C kd_Mo_hang_43 rfl 2 rfl rfl ?_
  obtain ⟨q2, e⟩ := zd_g e
  refine zs_iast C 75 rfl (zd_vp q2) kd_Mo_hang_44 rfl ?_
  exact zk_vret C hR kd_Mo_hang_45 rfl rfl (zd_rV e)
set_option maxHeartbeats 4000000 in
set_option maxRecDepth 100000 in
theorem zc_Mo_hang {l : Launch} {D : va_G} {sz0 : Nat} {S : zs_T} {P : ze_T} (h : zs_H) (x1 : Int32) (x2 : Int32) {rh : zs_H} (e : f_Mo_hang h x1 x2 = some rh) : zk_Sp (zs_G S l D sz0) (ze_E P) km_Mo_hang { frames := 0, cells := 0, slots := 0, locals := 0 } [.ref (S.1 68), .int x1, .int x2] (zs_W S h) (zd_PV S rh) := by
  refine zk_met ku_Mo_hang (Nat.le_of_ble_eq_true rfl) (ze_Em P) ?_
  intro X C hR
  refine zk_lvs (lv' := [(0, .ref (S.1 68)), (1, .int x1), (2, .int x2)]) [0, 1, 2] rfl ?_
  unfold f_Mo_hang at e
  refine zk_aload_n C kd_Mo_hang_0 rfl 0 rfl rfl ?_
  refine zs_get (v := .ref (S.1 76)) C 68 19 rfl rfl rfl rfl ki_Mo (by decide) kw1702 kd_Mo_hang_1 rfl ?_
  refine zk_iload_n C kd_Mo_hang_4 rfl 2 rfl rfl ?_
  obtain ⟨q1, e⟩ := zd_g e
  refine zs_iald C 76 rfl (zd_vp q1) kd_Mo_hang_5 rfl ?_
  refine zk_if_ge (tgt := 19) C kd_Mo_hang_6 (by decide) rfl (fun b2 => ?_) (fun b2 => ?_)
  · replace e := zd_pos b2 e
    refine zk_aload_n C kd_Mo_hang_19 rfl 0 rfl rfl ?_
    refine zs_get (v := .ref (S.1 78)) C 68 21 rfl rfl rfl rfl ki_Mo (by decide) kw1704 kd_Mo_hang_20 rfl ?_
    refine zk_aload_n C kd_Mo_hang_23 rfl 0 rfl rfl ?_
    refine zs_get (v := .ref (S.1 77)) C 68 20 rfl rfl rfl rfl ki_Mo (by decide) kw1703 kd_Mo_hang_24 rfl ?_
    refine zk_iload_n C kd_Mo_hang_27 rfl 2 rfl rfl ?_
    refine zs_iald C 77 rfl (zd_vp q1) kd_Mo_hang_28 rfl ?_
    refine zk_iload_n C kd_Mo_hang_29 rfl 1 rfl rfl ?_
    obtain ⟨q3, e⟩ := zd_g e
    refine zs_iast C 78 rfl (zd_vp q3) kd_Mo_hang_30 rfl ?_
    refine zk_lvs (lv' := [(0, .ref (S.1 68)), (1, .int x1), (2, .int x2)]) [0, 1, 2] rfl ?_
    exact zb_Mo_hang_31 C hR (zs_uM h 78 (h.2.1 77 x2.toNatClampNeg).toNatClampNeg x1) x1 x2 e
  · replace e := zd_neg b2 e
    refine zk_aload_n C kd_Mo_hang_9 rfl 0 rfl rfl ?_
    refine zs_get (v := .ref (S.1 76)) C 68 19 rfl rfl rfl rfl ki_Mo (by decide) kw1702 kd_Mo_hang_10 rfl ?_
    refine zk_iload_n C kd_Mo_hang_13 rfl 2 rfl rfl ?_
    refine zk_iload_n C kd_Mo_hang_14 rfl 1 rfl rfl ?_
    refine zs_iast C 76 rfl (zd_vp q1) kd_Mo_hang_15 rfl ?_
    refine zk_goto (tgt := 31) C kd_Mo_hang_16 (by decide) ?_
    refine zk_lvs (lv' := [(0, .ref (S.1 68)), (1, .int x1), (2, .int x2)]) [0, 1, 2] rfl ?_
    exact zb_Mo_hang_31 C hR (zs_uM h 76 x2.toNatClampNeg x1) x1 x2 e
set_option maxHeartbeats 4000000 in
set_option maxRecDepth 100000 in
theorem zc_Mo_add {l : Launch} {D : va_G} {sz0 : Nat} {S : zs_T} {P : ze_T} (h : zs_H) (x1 : Int32) (x2 : Int32) (x3 : Int32) (x4 : Int32) {rv : Int32} {rh : zs_H} (e : f_Mo_add h x1 x2 x3 x4 = some (rv, rh)) : zk_Sp (zs_G S l D sz0) (ze_E P) km_Mo_add { frames := 1, cells := 0, slots := 0, locals := 24 } [.ref (S.1 68), .int x1, .int x2, .int x3, .int x4] (zs_W S h) (zd_PI S rv rh) := by
  refine zk_met ku_Mo_add (Nat.le_of_ble_eq_true rfl) (ze_Em P) ?_
  intro X C hR
  refine zk_lvs (lv' := [(0, .ref (S.1 68)), (1, .int x1), (2, .int x2), (3, .int x3), (4, .int x4)]) [0, 1, 2, 3, 4] rfl ?_
  unfold f_Mo_add at e
  refine zk_aload_n C kd_Mo_add_0 rfl 0 rfl rfl ?_
  refine zk_iload_n C kd_Mo_add_1 rfl 2 rfl rfl ?_
  refine zk_iload_n C kd_Mo_add_2 rfl 3 rfl rfl ?_
  refine zk_iload C kd_Mo_add_3 4 rfl rfl ?_
  obtain ⟨v2, h3, c1, e⟩ := zd_Be e
  refine zs_callV (k := 68) (rn := { frames := 0, cells := 0, slots := 0, locals := 0 }) (As := [.int x2, .int x3, .int x4]) (rest := []) C (zc_Mo_node h x2 x3 x4 c1) ku_Mo_node kw2085 kv_Mo_node rfl ⟨by decide, by decide⟩ ⟨by decide, by decide⟩ rfl rfl rfl (Nat.le_of_ble_eq_true rfl) kd_Mo_add_5 rfl (c1 := 0) (s1 := 0) rfl rfl (fun v w hp => ?_)
  obtain ⟨rfl, rfl⟩ := hp
  refine zk_stk (r' := [.int v2]) rfl ?_
  refine zk_istore (lv' := [(5, _), (0, _), (1, _), (2, _), (3, _), (4, _)]) C kd_Mo_add_8 (by decide) rfl rfl ?_
  refine zk_aload_n C kd_Mo_add_10 rfl 1 rfl rfl ?_
  refine zk_iload C kd_Mo_add_11 0 rfl rfl ?_
  refine zk_iload_n C kd_Mo_add_13 rfl 2 rfl rfl ?_
  obtain ⟨h5, c4, e⟩ := zd_b e
  refine zs_callV (k := 68) (rn := { frames := 0, cells := 0, slots := 0, locals := 0 }) (As := [.int v2, .int x1]) (rest := []) C (zc_Mo_hang h3 v2 x1 c4) ku_Mo_hang kw2101 kv_Mo_hang rfl ⟨by decide, by decide⟩ ⟨by decide, by decide⟩ rfl rfl rfl (Nat.le_of_ble_eq_true rfl) kd_Mo_add_14 rfl (c1 := 0) (s1 := 0) rfl rfl (fun v w hp => ?_)
  obtain ⟨rfl, rfl⟩ := hp
  refine zk_stk (r' := []) rfl ?_
  refine zk_iload C kd_Mo_add_17 0 rfl rfl ?_
  exact zk_iret C hR kd_Mo_add_19 rfl rfl (zd_rIS e)
set_option maxHeartbeats 4000000 in
set_option maxRecDepth 100000 in
theorem zc_Mo_want {l : Launch} {D : va_G} {sz0 : Nat} {S : zs_T} {P : ze_T} (h : zs_H) (x1 : Int32) {rh : zs_H} (e : f_Mo_want h x1 = some rh) : zk_Sp (zs_G S l D sz0) (ze_E P) km_Mo_want { frames := 7, cells := 0, slots := 0, locals := 150 } [.ref (S.1 68), .int x1] (zs_W S h) (zd_PV S rh) := by
  refine zk_met ku_Mo_want (Nat.le_of_ble_eq_true rfl) (ze_Em P) ?_
  intro X C hR
  refine zk_lvs (lv' := [(0, .ref (S.1 68)), (1, .int x1)]) [0, 1] rfl ?_
  unfold f_Mo_want at e
  refine zk_aload_n C kd_Mo_want_0 rfl 0 rfl rfl ?_
  refine zs_get (v := .int (h.1 68 10)) C 68 10 rfl rfl rfl rfl ki_Mo (by decide) kw1693 kd_Mo_want_1 rfl ?_
  refine zk_if_ne (tgt := 22) C kd_Mo_want_4 (by decide) rfl (fun b1 => ?_) (fun b1 => ?_)
  · replace e := zd_neg b1 e
    exact zk_vret C hR kd_Mo_want_22 rfl rfl (zd_rV e)
  · replace e := zd_pos b1 e
    refine zk_iload_n C kd_Mo_want_7 rfl 1 rfl rfl ?_
    refine zk_if_eq (tgt := 18) C kd_Mo_want_8 (by decide) rfl (fun b2 => ?_) (fun b2 => ?_)
    · replace e := zd_pos b2 e
      refine zk_aload_n C kd_Mo_want_18 rfl 0 rfl rfl ?_
      obtain ⟨h4, c3, e⟩ := zd_b e
      refine zs_callV (k := 68) (rn := { frames := 1, cells := 0, slots := 0, locals := 22 }) (As := []) (rest := []) C (zc_Mo_wrong h c3) ku_Mo_wrong kw2093 kv_Mo_wrong rfl ⟨by decide, by decide⟩ ⟨by decide, by decide⟩ rfl rfl rfl (Nat.le_of_ble_eq_true rfl) kd_Mo_want_19 rfl (c1 := 0) (s1 := 0) rfl rfl (fun v w hp => ?_)
      obtain ⟨rfl, rfl⟩ := hp
      refine zk_stk (r' := []) rfl ?_
      exact zk_vret C hR kd_Mo_want_22 rfl rfl (zd_rV e)
    · replace e := zd_neg b2 e
      refine zk_aload_n C kd_Mo_want_11 rfl 0 rfl rfl ?_
      obtain ⟨h6, c5, e⟩ := zd_b e
      refine zs_callV (k := 68) (rn := { frames := 6, cells := 0, slots := 0, locals := 129 }) (As := []) (rest := []) C (zc_Mo_next h c5) ku_Mo_next kw2001 kv_Mo_next rfl ⟨by decide, by decide⟩ ⟨by decide, by decide⟩ rfl rfl rfl (Nat.le_of_ble_eq_true rfl) kd_Mo_want_12 rfl (c1 := 0) (s1 := 0) rfl rfl (fun v w hp => ?_)
      obtain ⟨rfl, rfl⟩ := hp
      refine zk_stk (r' := []) rfl ?_
      refine zk_goto (tgt := 22) C kd_Mo_want_15 (by decide) ?_
      exact zk_vret C hR kd_Mo_want_22 rfl rfl (zd_rV e)
set_option maxHeartbeats 4000000 in
set_option maxRecDepth 100000 in
theorem zb_Mo_name_19 {X : zkj_T} {S : zs_T} {P : ze_T} {l : Launch} {D : va_G} {sz0 : Nat} {rv : Int32} {rh : zs_H} (C : zk_C X km_Mo_name (zs_G S l D sz0) { frames := 8, cells := 0, slots := 0, locals := 171 } (ze_E P)) (hR : zkj_R X (zd_PI S rv rh) (some .int)) (h : zs_H) (x1 : Int32) (y0 : Int32) (e : f_Mo_name_19 h x1 y0 = some (rv, rh)) : zk_Ab X (zs_W S h) 0 0 19 [(1, .int x1)] [.int y0, .ref (S.1 68)] := by
  unfold f_Mo_name_19 at e
  obtain ⟨h2, c1, e⟩ := zd_b e
  refine zs_callV (k := 68) (rn := { frames := 7, cells := 0, slots := 0, locals := 150 }) (As := [.int y0]) (rest := []) C (zc_Mo_want h y0 c1) ku_Mo_want kw2109 kv_Mo_want rfl ⟨by decide, by decide⟩ ⟨by decide, by decide⟩ rfl rfl rfl (Nat.le_of_ble_eq_true rfl) kd_Mo_name_19 rfl (c1 := 0) (s1 := 0) rfl rfl (fun v w hp => ?_)
  obtain ⟨rfl, rfl⟩ := hp
  refine zk_stk (r' := []) rfl ?_
  refine zk_iload_n C kd_Mo_name_22 rfl 0 rfl rfl ?_
  exact zk_iret C hR kd_Mo_name_23 rfl rfl (zd_rIS e)
set_option maxHeartbeats 4000000 in
set_option maxRecDepth 100000 in
theorem zc_Mo_name {l : Launch} {D : va_G} {sz0 : Nat} {S : zs_T} {P : ze_T} (h : zs_H) {rv : Int32} {rh : zs_H} (e : f_Mo_name h = some (rv, rh)) : zk_Sp (zs_G S l D sz0) (ze_E P) km_Mo_name { frames := 8, cells := 0, slots := 0, locals := 171 } [.ref (S.1 68)] (zs_W S h) (zd_PI S rv rh) := by
  refine zk_met ku_Mo_name (Nat.le_of_ble_eq_true rfl) (ze_Em P) ?_
  intro X C hR
  refine zk_lvs (lv' := [(0, .ref (S.1 68))]) [0] rfl ?_
  unfold f_Mo_name at e
  refine zk_aload_n C kd_Mo_name_0 rfl 0 rfl rfl ?_
  refine zs_get (v := .int (h.1 68 9)) C 68 9 rfl rfl rfl rfl ki_Mo (by decide) kw1692 kd_Mo_name_1 rfl ?_
  refine zk_istore_n (lv' := [(1, _), (0, _)]) C kd_Mo_name_4 rfl (by decide) rfl rfl ?_
  refine zk_aload_n C kd_Mo_name_5 rfl 1 rfl rfl ?_
  refine zk_aload_n C kd_Mo_name_6 rfl 1 rfl rfl ?_
  refine zs_get (v := .int (h.1 68 6)) C 68 6 rfl rfl rfl rfl ki_Mo (by decide) kw1689 kd_Mo_name_7 rfl ?_
  refine zk_iconst (v := 1) C kd_Mo_name_10 (by decide) rfl ?_
  refine zk_icmp_ne (tgt := 18) C kd_Mo_name_11 (by decide) rfl (fun b1 => ?_) (fun b1 => ?_)
  · replace e := zd_neg b1 e
    refine zk_iconst (v := 0) C kd_Mo_name_18 (by decide) rfl ?_
    refine zk_lvs (lv' := [(1, .int (h.1 68 9))]) [0] rfl ?_
    exact zb_Mo_name_19 C hR h (h.1 68 9) 0 e
  · replace e := zd_pos b1 e
    refine zk_iconst (v := 1) C kd_Mo_name_14 (by decide) rfl ?_
    refine zk_goto (tgt := 19) C kd_Mo_name_15 (by decide) ?_
    refine zk_lvs (lv' := [(1, .int (h.1 68 9))]) [0] rfl ?_
    exact zb_Mo_name_19 C hR h (h.1 68 9) 1 e
set_option maxHeartbeats 4000000 in
set_option maxRecDepth 100000 in
theorem zc_Mo_isSign {l : Launch} {D : va_G} {sz0 : Nat} {S : zs_T} {P : ze_T} (h : zs_H) (x1 : Int32) : zk_Sp (zs_G S l D sz0) (ze_E P) km_Mo_isSign { frames := 0, cells := 0, slots := 0, locals := 0 } [.ref (S.1 68), .int x1] (zs_W S h) (zd_PZ S (f_Mo_isSign h x1) h) := by
  obtain ⟨rv, e⟩ : ∃ rv, f_Mo_isSign h x1 = rv := ⟨_, rfl⟩
  rw [e]
  refine zk_met ku_Mo_isSign (Nat.le_of_ble_eq_true rfl) (ze_Em P) ?_
  intro X C hR
  refine zk_lvs (lv' := [(0, .ref (S.1 68)), (1, .int x1)]) [0, 1] rfl ?_
  unfold f_Mo_isSign at e
  refine zk_aload_n C kd_Mo_isSign_0 rfl 0 rfl rfl ?_
  refine zs_get (v := .int (h.1 68 10)) C 68 10 rfl rfl rfl rfl ki_Mo (by decide) kw1693 kd_Mo_isSign_1 rfl ?_
  refine zk_if_ne (tgt := 27) C kd_Mo_isSign_4 (by decide) rfl (fun b1 => ?_) (fun b1 => ?_)
  · replace e := zd_neg b1 e
    refine zk_iconst (v := 0) C kd_Mo_isSign_27 (by decide) rfl ?_
    exact zk_zret C hR (zd_nb (Or.inl rfl)) kd_Mo_isSign_28 rfl rfl (zd_rZT (Or.inl rfl) e)
  · replace e := zd_pos b1 e
    refine zk_aload_n C kd_Mo_isSign_7 rfl 0 rfl rfl ?_
    refine zs_get (v := .int (h.1 68 6)) C 68 6 rfl rfl rfl rfl ki_Mo (by decide) kw1689 kd_Mo_isSign_8 rfl ?_
    refine zk_iconst (v := 5) C kd_Mo_isSign_11 (by decide) rfl ?_
    refine zk_icmp_ne (tgt := 27) C kd_Mo_isSign_12 (by decide) rfl (fun b2 => ?_) (fun b2 => ?_)
    · replace e := zd_neg b2 e
      refine zk_iconst (v := 0) C kd_Mo_isSign_27 (by decide) rfl ?_
      exact zk_zret C hR (zd_nb (Or.inl rfl)) kd_Mo_isSign_28 rfl rfl (zd_rZT (Or.inl rfl) e)
    · replace e := zd_pos b2 e
      refine zk_aload_n C kd_Mo_isSign_15 rfl 0 rfl rfl ?_
      refine zs_get (v := .int (h.1 68 9)) C 68 9 rfl rfl rfl rfl ki_Mo (by decide) kw1692 kd_Mo_isSign_16 rfl ?_
      refine zk_iload_n C kd_Mo_isSign_19 rfl 1 rfl rfl ?_
      refine zk_icmp_ne (tgt := 27) C kd_Mo_isSign_20 (by decide) rfl (fun b3 => ?_) (fun b3 => ?_)
      · replace e := zd_neg b3 e
        refine zk_iconst (v := 0) C kd_Mo_isSign_27 (by decide) rfl ?_
        exact zk_zret C hR (zd_nb (Or.inl rfl)) kd_Mo_isSign_28 rfl rfl (zd_rZT (Or.inl rfl) e)
      · replace e := zd_pos b3 e
        refine zk_iconst (v := 1) C kd_Mo_isSign_23 (by decide) rfl ?_
        refine zk_goto (tgt := 28) C kd_Mo_isSign_24 (by decide) ?_
        exact zk_zret C hR (zd_nb (Or.inr rfl)) kd_Mo_isSign_28 rfl rfl (zd_rZT (Or.inr rfl) e)
set_option maxHeartbeats 4000000 in
set_option maxRecDepth 100000 in
theorem zc_Mo_wantSign {l : Launch} {D : va_G} {sz0 : Nat} {S : zs_T} {P : ze_T} (h : zs_H) (x1 : Int32) {rh : zs_H} (e : f_Mo_wantSign h x1 = some rh) : zk_Sp (zs_G S l D sz0) (ze_E P) km_Mo_wantSign { frames := 8, cells := 0, slots := 0, locals := 171 } [.ref (S.1 68), .int x1] (zs_W S h) (zd_PV S rh) := by
  refine zk_met ku_Mo_wantSign (Nat.le_of_ble_eq_true rfl) (ze_Em P) ?_
  intro X C hR
  refine zk_lvs (lv' := [(0, .ref (S.1 68)), (1, .int x1)]) [0, 1] rfl ?_
  unfold f_Mo_wantSign at e
  refine zk_aload_n C kd_Mo_wantSign_0 rfl 0 rfl rfl ?_
  refine zk_aload_n C kd_Mo_wantSign_1 rfl 0 rfl rfl ?_
  refine zk_iload_n C kd_Mo_wantSign_2 rfl 1 rfl rfl ?_
  refine zs_callV (k := 68) (rn := { frames := 0, cells := 0, slots := 0, locals := 0 }) (As := [.int x1]) (rest := [.ref (S.1 68)]) C (zc_Mo_isSign h x1) ku_Mo_isSign kw2117 kv_Mo_isSign rfl ⟨by decide, by decide⟩ ⟨by decide, by decide⟩ rfl rfl rfl (Nat.le_of_ble_eq_true rfl) kd_Mo_wantSign_3 rfl (c1 := 0) (s1 := 0) rfl rfl (fun v w hp => ?_)
  obtain ⟨rfl, rfl, z1⟩ := hp
  refine zk_stk (r' := [.int (f_Mo_isSign h x1), .ref (S.1 68)]) rfl ?_
  obtain ⟨h3, c2, e⟩ := zd_b e
  refine zs_callV (k := 68) (rn := { frames := 7, cells := 0, slots := 0, locals := 150 }) (As := [.int (f_Mo_isSign h x1)]) (rest := []) C (zc_Mo_want h (f_Mo_isSign h x1) c2) ku_Mo_want kw2109 kv_Mo_want rfl ⟨by decide, by decide⟩ ⟨by decide, by decide⟩ rfl rfl rfl (Nat.le_of_ble_eq_true rfl) kd_Mo_wantSign_6 rfl (c1 := 0) (s1 := 0) rfl rfl (fun v w hp => ?_)
  obtain ⟨rfl, rfl⟩ := hp
  refine zk_stk (r' := []) rfl ?_
  exact zk_vret C hR kd_Mo_wantSign_9 rfl rfl (zd_rV e)
set_option maxHeartbeats 4000000 in
set_option maxRecDepth 100000 in
theorem zb_Mo_simple_58 {X : zkj_T} {S : zs_T} {P : ze_T} {l : Launch} {D : va_G} {sz0 : Nat} {rh : zs_H} (C : zk_C X km_Mo_simple (zs_G S l D sz0) { frames := 8, cells := 0, slots := 0, locals := 171 } (ze_E P)) (hR : zkj_R X (zd_PV S rh) (none)) (h : zs_H) (x2 : Int32) (y0 : Int32) (e : f_Mo_simple_58 h x2 y0 = some rh) : zk_Ab X (zs_W S h) 0 0 58 [(0, .ref (S.1 68)), (2, .int x2)] [.int y0] := by
  unfold f_Mo_simple_58 at e
  refine zk_istore_n (lv' := [(3, _), (0, _), (2, _)]) C kd_Mo_simple_58 rfl (by decide) rfl rfl ?_
  refine zk_aload_n C kd_Mo_simple_59 rfl 1 rfl rfl ?_
  refine zk_iload_n C kd_Mo_simple_60 rfl 2 rfl rfl ?_
  obtain ⟨h2, c1, e⟩ := zd_b e
  refine zs_callV (k := 68) (rn := { frames := 7, cells := 0, slots := 0, locals := 150 }) (As := [.int x2]) (rest := []) C (zc_Mo_want h x2 c1) ku_Mo_want kw2109 kv_Mo_want rfl ⟨by decide, by decide⟩ ⟨by decide, by decide⟩ rfl rfl rfl (Nat.le_of_ble_eq_true rfl) kd_Mo_simple_61 rfl (c1 := 0) (s1 := 0) rfl rfl (fun v w hp => ?_)
  obtain ⟨rfl, rfl⟩ := hp
  refine zk_stk (r' := []) rfl ?_
  exact zk_vret C hR kd_Mo_simple_64 rfl rfl (zd_rV e)
set_option maxHeartbeats 4000000 in
set_option maxRecDepth 100000 in
theorem zb_Mo_simple_31 {X : zkj_T} {S : zs_T} {P : ze_T} {l : Launch} {D : va_G} {sz0 : Nat} {rh : zs_H} (C : zk_C X km_Mo_simple (zs_G S l D sz0) { frames := 8, cells := 0, slots := 0, locals := 171 } (ze_E P)) (hR : zkj_R X (zd_PV S rh) (none)) (h : zs_H) (x1 : Int32) (y0 : Int32) (e : f_Mo_simple_31 h x1 y0 = some rh) : zk_Ab X (zs_W S h) 0 0 31 [(0, .ref (S.1 68)), (1, .int x1)] [.int y0] := by
  unfold f_Mo_simple_31 at e
  refine zk_istore_n (lv' := [(2, _), (0, _), (1, _)]) C kd_Mo_simple_31 rfl (by decide) rfl rfl ?_
  refine zk_iload_n C kd_Mo_simple_32 rfl 0 rfl rfl ?_
  refine zk_if_eq (tgt := 57) C kd_Mo_simple_33 (by decide) rfl (fun b1 => ?_) (fun b1 => ?_)
  · replace e := zd_pos b1 e
    refine zk_iconst (v := (-1)) C kd_Mo_simple_57 (by decide) rfl ?_
    refine zk_lvs (lv' := [(0, .ref (S.1 68)), (2, .int y0)]) [1, 0] rfl ?_
    exact zb_Mo_simple_58 C hR h y0 (-1) e
  · replace e := zd_neg b1 e
    refine zk_aload_n C kd_Mo_simple_36 rfl 1 rfl rfl ?_
    refine zk_iload_n C kd_Mo_simple_37 rfl 2 rfl rfl ?_
    refine zk_bipush (v := 8) C kd_Mo_simple_38 (by decide) rfl ?_
    refine zk_aload_n C kd_Mo_simple_40 rfl 1 rfl rfl ?_
    refine zs_get (v := .int (h.1 68 7)) C 68 7 rfl rfl rfl rfl ki_Mo (by decide) kw1690 kd_Mo_simple_41 rfl ?_
    refine zk_aload_n C kd_Mo_simple_44 rfl 1 rfl rfl ?_
    refine zs_get (v := .int (h.1 68 9)) C 68 9 rfl rfl rfl rfl ki_Mo (by decide) kw1692 kd_Mo_simple_45 rfl ?_
    refine zk_bipush (v := 11) C kd_Mo_simple_48 (by decide) rfl ?_
    refine zk_isub C kd_Mo_simple_50 rfl ?_
    obtain ⟨v3, h4, c2, e⟩ := zd_Be e
    refine zs_callV (k := 68) (rn := { frames := 1, cells := 0, slots := 0, locals := 24 }) (As := [.int x1, .int 8, .int (h.1 68 7), .int ((h.1 68 9) - 11)]) (rest := []) C (zc_Mo_add h x1 8 (h.1 68 7) ((h.1 68 9) - 11) c2) ku_Mo_add kw2097 kv_Mo_add rfl ⟨by decide, by decide⟩ ⟨by decide, by decide⟩ rfl rfl rfl (Nat.le_of_ble_eq_true rfl) kd_Mo_simple_51 rfl (c1 := 0) (s1 := 0) rfl rfl (fun v w hp => ?_)
    obtain ⟨rfl, rfl⟩ := hp
    refine zk_stk (r' := [.int v3]) rfl ?_
    refine zk_goto (tgt := 58) C kd_Mo_simple_54 (by decide) ?_
    refine zk_lvs (lv' := [(0, .ref (S.1 68)), (2, .int y0)]) [1, 0] rfl ?_
    exact zb_Mo_simple_58 C hR h4 y0 v3 e
set_option maxHeartbeats 4000000 in
set_option maxRecDepth 100000 in
theorem zb_Mo_simple_30 {X : zkj_T} {S : zs_T} {P : ze_T} {l : Launch} {D : va_G} {sz0 : Nat} {rh : zs_H} (C : zk_C X km_Mo_simple (zs_G S l D sz0) { frames := 8, cells := 0, slots := 0, locals := 171 } (ze_E P)) (hR : zkj_R X (zd_PV S rh) (none)) (h : zs_H) (x1 : Int32) (e : f_Mo_simple_30 h x1 = some rh) : zk_Ab X (zs_W S h) 0 0 30 [(0, .ref (S.1 68)), (1, .int x1)] [] := by
  unfold f_Mo_simple_30 at e
  refine zk_iconst (v := 0) C kd_Mo_simple_30 (by decide) rfl ?_
  refine zk_lvs (lv' := [(0, .ref (S.1 68)), (1, .int x1)]) [0, 1] rfl ?_
  exact zb_Mo_simple_31 C hR h x1 0 e
set_option maxHeartbeats 4000000 in
set_option maxRecDepth 100000 in
theorem zc_Mo_simple {l : Launch} {D : va_G} {sz0 : Nat} {S : zs_T} {P : ze_T} (h : zs_H) (x1 : Int32) {rh : zs_H} (e : f_Mo_simple h x1 = some rh) : zk_Sp (zs_G S l D sz0) (ze_E P) km_Mo_simple { frames := 8, cells := 0, slots := 0, locals := 171 } [.ref (S.1 68), .int x1] (zs_W S h) (zd_PV S rh) := by
  refine zk_met ku_Mo_simple (Nat.le_of_ble_eq_true rfl) (ze_Em P) ?_
  intro X C hR
  refine zk_lvs (lv' := [(0, .ref (S.1 68)), (1, .int x1)]) [0, 1] rfl ?_
  unfold f_Mo_simple at e
  refine zk_aload_n C kd_Mo_simple_0 rfl 0 rfl rfl ?_
  refine zs_get (v := .int (h.1 68 6)) C 68 6 rfl rfl rfl rfl ki_Mo (by decide) kw1689 kd_Mo_simple_1 rfl ?_
  refine zk_iconst (v := 2) C kd_Mo_simple_4 (by decide) rfl ?_
  refine zk_icmp_ne (tgt := 30) C kd_Mo_simple_5 (by decide) rfl (fun b1 => ?_) (fun b1 => ?_)
  · replace e := zd_neg b1 e
    refine zk_lvs (lv' := [(0, .ref (S.1 68)), (1, .int x1)]) [0, 1] rfl ?_
    exact zb_Mo_simple_30 C hR h x1 e
  · replace e := zd_pos b1 e
    refine zk_aload_n C kd_Mo_simple_8 rfl 0 rfl rfl ?_
    refine zs_get (v := .int (h.1 68 9)) C 68 9 rfl rfl rfl rfl ki_Mo (by decide) kw1692 kd_Mo_simple_9 rfl ?_
    refine zk_bipush (v := 11) C kd_Mo_simple_12 (by decide) rfl ?_
    refine zk_icmp_lt (tgt := 30) C kd_Mo_simple_14 (by decide) rfl (fun b2 => ?_) (fun b2 => ?_)
    · replace e := zd_pos b2 e
      refine zk_lvs (lv' := [(0, .ref (S.1 68)), (1, .int x1)]) [0, 1] rfl ?_
      exact zb_Mo_simple_30 C hR h x1 e
    · replace e := zd_neg b2 e
      refine zk_aload_n C kd_Mo_simple_17 rfl 0 rfl rfl ?_
      refine zs_get (v := .int (h.1 68 9)) C 68 9 rfl rfl rfl rfl ki_Mo (by decide) kw1692 kd_Mo_simple_18 rfl ?_
      refine zk_bipush (v := 14) C kd_Mo_simple_21 (by decide) rfl ?_
      refine zk_icmp_ge (tgt := 30) C kd_Mo_simple_23 (by decide) rfl (fun b3 => ?_) (fun b3 => ?_)
      · replace e := zd_pos b3 e
        refine zk_lvs (lv' := [(0, .ref (S.1 68)), (1, .int x1)]) [0, 1] rfl ?_
        exact zb_Mo_simple_30 C hR h x1 e
      · replace e := zd_neg b3 e
        refine zk_iconst (v := 1) C kd_Mo_simple_26 (by decide) rfl ?_
        refine zk_goto (tgt := 31) C kd_Mo_simple_27 (by decide) ?_
        refine zk_lvs (lv' := [(0, .ref (S.1 68)), (1, .int x1)]) [0, 1] rfl ?_
        exact zb_Mo_simple_31 C hR h x1 1 e
set_option maxHeartbeats 4000000 in
set_option maxRecDepth 100000 in
theorem zc_Mo_isWord {l : Launch} {D : va_G} {sz0 : Nat} {S : zs_T} {P : ze_T} (h : zs_H) (x1 : Int32) : zk_Sp (zs_G S l D sz0) (ze_E P) km_Mo_isWord { frames := 0, cells := 0, slots := 0, locals := 0 } [.ref (S.1 68), .int x1] (zs_W S h) (zd_PZ S (f_Mo_isWord h x1) h) := by
  obtain ⟨rv, e⟩ : ∃ rv, f_Mo_isWord h x1 = rv := ⟨_, rfl⟩
  rw [e]
  refine zk_met ku_Mo_isWord (Nat.le_of_ble_eq_true rfl) (ze_Em P) ?_
  intro X C hR
  refine zk_lvs (lv' := [(0, .ref (S.1 68)), (1, .int x1)]) [0, 1] rfl ?_
  unfold f_Mo_isWord at e
  refine zk_aload_n C kd_Mo_isWord_0 rfl 0 rfl rfl ?_
  refine zs_get (v := .int (h.1 68 10)) C 68 10 rfl rfl rfl rfl ki_Mo (by decide) kw1693 kd_Mo_isWord_1 rfl ?_
  refine zk_if_ne (tgt := 27) C kd_Mo_isWord_4 (by decide) rfl (fun b1 => ?_) (fun b1 => ?_)
  · replace e := zd_neg b1 e
    refine zk_iconst (v := 0) C kd_Mo_isWord_27 (by decide) rfl ?_
    exact zk_zret C hR (zd_nb (Or.inl rfl)) kd_Mo_isWord_28 rfl rfl (zd_rZT (Or.inl rfl) e)
  · replace e := zd_pos b1 e
    refine zk_aload_n C kd_Mo_isWord_7 rfl 0 rfl rfl ?_
    refine zs_get (v := .int (h.1 68 6)) C 68 6 rfl rfl rfl rfl ki_Mo (by decide) kw1689 kd_Mo_isWord_8 rfl ?_
    refine zk_iconst (v := 2) C kd_Mo_isWord_11 (by decide) rfl ?_
    refine zk_icmp_ne (tgt := 27) C kd_Mo_isWord_12 (by decide) rfl (fun b2 => ?_) (fun b2 => ?_)
    · replace e := zd_neg b2 e
      refine zk_iconst (v := 0) C kd_Mo_isWord_27 (by decide) rfl ?_
      exact zk_zret C hR (zd_nb (Or.inl rfl)) kd_Mo_isWord_28 rfl rfl (zd_rZT (Or.inl rfl) e)
    · replace e := zd_pos b2 e
      refine zk_aload_n C kd_Mo_isWord_15 rfl 0 rfl rfl ?_
      refine zs_get (v := .int (h.1 68 9)) C 68 9 rfl rfl rfl rfl ki_Mo (by decide) kw1692 kd_Mo_isWord_16 rfl ?_
      refine zk_iload_n C kd_Mo_isWord_19 rfl 1 rfl rfl ?_
      refine zk_icmp_ne (tgt := 27) C kd_Mo_isWord_20 (by decide) rfl (fun b3 => ?_) (fun b3 => ?_)
      · replace e := zd_neg b3 e
        refine zk_iconst (v := 0) C kd_Mo_isWord_27 (by decide) rfl ?_
        exact zk_zret C hR (zd_nb (Or.inl rfl)) kd_Mo_isWord_28 rfl rfl (zd_rZT (Or.inl rfl) e)
      · replace e := zd_pos b3 e
        refine zk_iconst (v := 1) C kd_Mo_isWord_23 (by decide) rfl ?_
        refine zk_goto (tgt := 28) C kd_Mo_isWord_24 (by decide) ?_
        exact zk_zret C hR (zd_nb (Or.inr rfl)) kd_Mo_isWord_28 rfl rfl (zd_rZT (Or.inr rfl) e)
set_option maxHeartbeats 4000000 in
set_option maxRecDepth 100000 in
theorem zb_Mo_contact_150 {X : zkj_T} {S : zs_T} {P : ze_T} {l : Launch} {D : va_G} {sz0 : Nat} {rh : zs_H} (C : zk_C X km_Mo_contact (zs_G S l D sz0) { frames := 8, cells := 0, slots := 0, locals := 171 } (ze_E P)) (hR : zkj_R X (zd_PV S rh) (none)) (h : zs_H) (y0 : Int32) (e : f_Mo_contact_150 h y0 = some rh) : zk_Ab X (zs_W S h) 0 0 150 [] [.int y0, .ref (S.1 68)] := by
  unfold f_Mo_contact_150 at e
  obtain ⟨h2, c1, e⟩ := zd_b e
  refine zs_callV (k := 68) (rn := { frames := 7, cells := 0, slots := 0, locals := 150 }) (As := [.int y0]) (rest := []) C (zc_Mo_want h y0 c1) ku_Mo_want kw2109 kv_Mo_want rfl ⟨by decide, by decide⟩ ⟨by decide, by decide⟩ rfl rfl rfl (Nat.le_of_ble_eq_true rfl) kd_Mo_contact_150 rfl (c1 := 0) (s1 := 0) rfl rfl (fun v w hp => ?_)
  obtain ⟨rfl, rfl⟩ := hp
  refine zk_stk (r' := []) rfl ?_
  refine zk_goto (tgt := 168) C kd_Mo_contact_153 (by decide) ?_
  exact zk_vret C hR kd_Mo_contact_168 rfl rfl (zd_rV e)
set_option maxHeartbeats 4000000 in
set_option maxRecDepth 100000 in
theorem zb_Mo_contact_90 {X : zkj_T} {S : zs_T} {P : ze_T} {l : Launch} {D : va_G} {sz0 : Nat} {rh : zs_H} (C : zk_C X km_Mo_contact (zs_G S l D sz0) { frames := 8, cells := 0, slots := 0, locals := 171 } (ze_E P)) (hR : zkj_R X (zd_PV S rh) (none)) (h : zs_H) (x2 : Int32) (x3 : Int32) (x4 : Int32) (y0 : Int32) (e : f_Mo_contact_90 h x2 x3 x4 y0 = some rh) : zk_Ab X (zs_W S h) 0 0 90 [(0, .ref (S.1 68)), (2, .int x2), (3, .int x3), (4, .int x4)] [.int y0, .ref (S.1 68)] := by
  unfold f_Mo_contact_90 at e
  obtain ⟨h2, c1, e⟩ := zd_b e
  refine zs_callV (k := 68) (rn := { frames := 7, cells := 0, slots := 0, locals := 150 }) (As := [.int y0]) (rest := []) C (zc_Mo_want h y0 c1) ku_Mo_want kw2109 kv_Mo_want rfl ⟨by decide, by decide⟩ ⟨by decide, by decide⟩ rfl rfl rfl (Nat.le_of_ble_eq_true rfl) kd_Mo_contact_90 rfl (c1 := 0) (s1 := 0) rfl rfl (fun v w hp => ?_)
  obtain ⟨rfl, rfl⟩ := hp
  refine zk_stk (r' := []) rfl ?_
  refine zk_aload_n C kd_Mo_contact_93 rfl 0 rfl rfl ?_
  refine zk_bipush (v := 46) C kd_Mo_contact_94 (by decide) rfl ?_
  refine zs_callV (k := 68) (rn := { frames := 0, cells := 0, slots := 0, locals := 0 }) (As := [.int 46]) (rest := []) C (zc_Mo_isSign h2 46) ku_Mo_isSign kw2117 kv_Mo_isSign rfl ⟨by decide, by decide⟩ ⟨by decide, by decide⟩ rfl rfl rfl (Nat.le_of_ble_eq_true rfl) kd_Mo_contact_96 rfl (c1 := 0) (s1 := 0) rfl rfl (fun v w hp => ?_)
  obtain ⟨rfl, rfl, z3⟩ := hp
  refine zk_stk (r' := [.int (f_Mo_isSign h2 46)]) rfl ?_
  refine zk_if_eq (tgt := 156) C kd_Mo_contact_99 (by decide) rfl (fun b4 => ?_) (fun b4 => ?_)
  · replace e := zd_pos b4 e
    refine zk_aload_n C kd_Mo_contact_156 rfl 0 rfl rfl ?_
    refine zk_iload_n C kd_Mo_contact_157 rfl 1 rfl rfl ?_
    refine zk_bipush (v := 6) C kd_Mo_contact_158 (by decide) rfl ?_
    refine zk_iload_n C kd_Mo_contact_160 rfl 2 rfl rfl ?_
    refine zk_iload C kd_Mo_contact_161 3 rfl rfl ?_
    obtain ⟨v6, h7, c5, e⟩ := zd_Be e
    refine zs_callV (k := 68) (rn := { frames := 1, cells := 0, slots := 0, locals := 24 }) (As := [.int x2, .int 6, .int x3, .int x4]) (rest := []) C (zc_Mo_add h2 x2 6 x3 x4 c5) ku_Mo_add kw2097 kv_Mo_add rfl ⟨by decide, by decide⟩ ⟨by decide, by decide⟩ rfl rfl rfl (Nat.le_of_ble_eq_true rfl) kd_Mo_contact_163 rfl (c1 := 0) (s1 := 0) rfl rfl (fun v w hp => ?_)
    obtain ⟨rfl, rfl⟩ := hp
    refine zk_stk (r' := [.int v6]) rfl ?_
    refine zk_istore (lv' := [(5, _), (0, _), (2, _), (3, _), (4, _)]) C kd_Mo_contact_166 (by decide) rfl rfl ?_
    exact zk_vret C hR kd_Mo_contact_168 rfl rfl (zd_rV e)
  · replace e := zd_neg b4 e
    refine zk_aload_n C kd_Mo_contact_102 rfl 0 rfl rfl ?_
    refine zk_iload_n C kd_Mo_contact_103 rfl 1 rfl rfl ?_
    refine zk_bipush (v := 33) C kd_Mo_contact_104 (by decide) rfl ?_
    refine zk_iload_n C kd_Mo_contact_106 rfl 2 rfl rfl ?_
    refine zk_iload C kd_Mo_contact_107 3 rfl rfl ?_
    obtain ⟨v9, h10, c8, e⟩ := zd_Be e
    refine zs_callV (k := 68) (rn := { frames := 1, cells := 0, slots := 0, locals := 24 }) (As := [.int x2, .int 33, .int x3, .int x4]) (rest := []) C (zc_Mo_add h2 x2 33 x3 x4 c8) ku_Mo_add kw2097 kv_Mo_add rfl ⟨by decide, by decide⟩ ⟨by decide, by decide⟩ rfl rfl rfl (Nat.le_of_ble_eq_true rfl) kd_Mo_contact_109 rfl (c1 := 0) (s1 := 0) rfl rfl (fun v w hp => ?_)
    obtain ⟨rfl, rfl⟩ := hp
    refine zk_stk (r' := [.int v9]) rfl ?_
    refine zk_istore (lv' := [(5, _), (0, _), (2, _), (3, _), (4, _)]) C kd_Mo_contact_112 (by decide) rfl rfl ?_
    refine zk_aload_n C kd_Mo_contact_114 rfl 1 rfl rfl ?_
    obtain ⟨h12, c11, e⟩ := zd_b e
    refine zs_callV (k := 68) (rn := { frames := 6, cells := 0, slots := 0, locals := 129 }) (As := []) (rest := []) C (zc_Mo_next h10 c11) ku_Mo_next kw2001 kv_Mo_next rfl ⟨by decide, by decide⟩ ⟨by decide, by decide⟩ rfl rfl rfl (Nat.le_of_ble_eq_true rfl) kd_Mo_contact_115 rfl (c1 := 0) (s1 := 0) rfl rfl (fun v w hp => ?_)
    obtain ⟨rfl, rfl⟩ := hp
    refine zk_stk (r' := []) rfl ?_
    refine zk_aload_n C kd_Mo_contact_118 rfl 1 rfl rfl ?_
    refine zk_iload C kd_Mo_contact_119 0 rfl rfl ?_
    refine zk_bipush (v := 6) C kd_Mo_contact_121 (by decide) rfl ?_
    refine zk_aload_n C kd_Mo_contact_123 rfl 1 rfl rfl ?_
    refine zs_get (v := .int (h12.1 68 7)) C 68 7 rfl rfl rfl rfl ki_Mo (by decide) kw1690 kd_Mo_contact_124 rfl ?_
    refine zk_aload_n C kd_Mo_contact_127 rfl 1 rfl rfl ?_
    refine zs_get (v := .int (h12.1 68 9)) C 68 9 rfl rfl rfl rfl ki_Mo (by decide) kw1692 kd_Mo_contact_128 rfl ?_
    obtain ⟨v14, h15, c13, e⟩ := zd_Be e
    refine zs_callV (k := 68) (rn := { frames := 1, cells := 0, slots := 0, locals := 24 }) (As := [.int v9, .int 6, .int (h12.1 68 7), .int (h12.1 68 9)]) (rest := []) C (zc_Mo_add h12 v9 6 (h12.1 68 7) (h12.1 68 9) c13) ku_Mo_add kw2097 kv_Mo_add rfl ⟨by decide, by decide⟩ ⟨by decide, by decide⟩ rfl rfl rfl (Nat.le_of_ble_eq_true rfl) kd_Mo_contact_131 rfl (c1 := 0) (s1 := 0) rfl rfl (fun v w hp => ?_)
    obtain ⟨rfl, rfl⟩ := hp
    refine zk_stk (r' := [.int v14]) rfl ?_
    refine zk_istore (lv' := [(6, _), (5, _), (0, _), (2, _), (3, _), (4, _)]) C kd_Mo_contact_134 (by decide) rfl rfl ?_
    refine zk_aload_n C kd_Mo_contact_136 rfl 2 rfl rfl ?_
    refine zk_aload_n C kd_Mo_contact_137 rfl 2 rfl rfl ?_
    refine zs_get (v := .int (h15.1 68 6)) C 68 6 rfl rfl rfl rfl ki_Mo (by decide) kw1689 kd_Mo_contact_138 rfl ?_
    refine zk_iconst (v := 1) C kd_Mo_contact_141 (by decide) rfl ?_
    refine zk_icmp_ne (tgt := 149) C kd_Mo_contact_142 (by decide) rfl (fun b16 => ?_) (fun b16 => ?_)
    · replace e := zd_neg b16 e
      refine zk_iconst (v := 0) C kd_Mo_contact_149 (by decide) rfl ?_
      refine zk_lvs (lv' := []) [] rfl ?_
      exact zb_Mo_contact_150 C hR h15 0 e
    · replace e := zd_pos b16 e
      refine zk_iconst (v := 1) C kd_Mo_contact_145 (by decide) rfl ?_
      refine zk_goto (tgt := 150) C kd_Mo_contact_146 (by decide) ?_
      refine zk_lvs (lv' := []) [] rfl ?_
      exact zb_Mo_contact_150 C hR h15 1 e
set_option maxHeartbeats 4000000 in
set_option maxRecDepth 100000 in
theorem zb_Mo_contact_65 {X : zkj_T} {S : zs_T} {P : ze_T} {l : Launch} {D : va_G} {sz0 : Nat} {rh : zs_H} (C : zk_C X km_Mo_contact (zs_G S l D sz0) { frames := 8, cells := 0, slots := 0, locals := 171 } (ze_E P)) (hR : zkj_R X (zd_PV S rh) (none)) (h : zs_H) (x2 : Int32) (e : f_Mo_contact_65 h x2 = some rh) : zk_Ab X (zs_W S h) 0 0 65 [(0, .ref (S.1 68)), (2, .int x2)] [] := by
  unfold f_Mo_contact_65 at e
  refine zk_aload_n C kd_Mo_contact_65 rfl 0 rfl rfl ?_
  refine zs_get (v := .int (h.1 68 7)) C 68 7 rfl rfl rfl rfl ki_Mo (by decide) kw1690 kd_Mo_contact_66 rfl ?_
  refine zk_istore_n (lv' := [(3, _), (0, _), (2, _)]) C kd_Mo_contact_69 rfl (by decide) rfl rfl ?_
  refine zk_aload_n C kd_Mo_contact_70 rfl 1 rfl rfl ?_
  refine zs_get (v := .int (h.1 68 9)) C 68 9 rfl rfl rfl rfl ki_Mo (by decide) kw1692 kd_Mo_contact_71 rfl ?_
  refine zk_istore (lv' := [(4, _), (3, _), (0, _), (2, _)]) C kd_Mo_contact_74 (by decide) rfl rfl ?_
  refine zk_aload_n C kd_Mo_contact_76 rfl 2 rfl rfl ?_
  refine zk_aload_n C kd_Mo_contact_77 rfl 2 rfl rfl ?_
  refine zs_get (v := .int (h.1 68 6)) C 68 6 rfl rfl rfl rfl ki_Mo (by decide) kw1689 kd_Mo_contact_78 rfl ?_
  refine zk_iconst (v := 1) C kd_Mo_contact_81 (by decide) rfl ?_
  refine zk_icmp_ne (tgt := 89) C kd_Mo_contact_82 (by decide) rfl (fun b1 => ?_) (fun b1 => ?_)
  · replace e := zd_neg b1 e
    refine zk_iconst (v := 0) C kd_Mo_contact_89 (by decide) rfl ?_
    refine zk_lvs (lv' := [(0, .ref (S.1 68)), (2, .int x2), (3, .int (h.1 68 7)), (4, .int (h.1 68 9))]) [2, 3, 1, 0] rfl ?_
    exact zb_Mo_contact_90 C hR h x2 (h.1 68 7) (h.1 68 9) 0 e
  · replace e := zd_pos b1 e
    refine zk_iconst (v := 1) C kd_Mo_contact_85 (by decide) rfl ?_
    refine zk_goto (tgt := 90) C kd_Mo_contact_86 (by decide) ?_
    refine zk_lvs (lv' := [(0, .ref (S.1 68)), (2, .int x2), (3, .int (h.1 68 7)), (4, .int (h.1 68 9))]) [2, 3, 1, 0] rfl ?_
    exact zb_Mo_contact_90 C hR h x2 (h.1 68 7) (h.1 68 9) 1 e
set_option maxHeartbeats 4000000 in
set_option maxRecDepth 100000 in
theorem zb_Mo_contact_48 {X : zkj_T} {S : zs_T} {P : ze_T} {l : Launch} {D : va_G} {sz0 : Nat} {rh : zs_H} (C : zk_C X km_Mo_contact (zs_G S l D sz0) { frames := 8, cells := 0, slots := 0, locals := 171 } (ze_E P)) (hR : zkj_R X (zd_PV S rh) (none)) (h : zs_H) (y0 : Int32) (y1 : Int32) (y2 : Int32) (y3 : Int32) (e : f_Mo_contact_48 h y0 y1 y2 y3 = some rh) : zk_Ab X (zs_W S h) 0 0 48 [(0, .ref (S.1 68))] [.int y0, .int y1, .int y2, .int y3, .ref (S.1 68)] := by
  unfold f_Mo_contact_48 at e
  obtain ⟨v2, h3, c1, e⟩ := zd_Be e
  refine zs_callV (k := 68) (rn := { frames := 1, cells := 0, slots := 0, locals := 24 }) (As := [.int y3, .int y2, .int y1, .int y0]) (rest := []) C (zc_Mo_add h y3 y2 y1 y0 c1) ku_Mo_add kw2097 kv_Mo_add rfl ⟨by decide, by decide⟩ ⟨by decide, by decide⟩ rfl rfl rfl (Nat.le_of_ble_eq_true rfl) kd_Mo_contact_48 rfl (c1 := 0) (s1 := 0) rfl rfl (fun v w hp => ?_)
  obtain ⟨rfl, rfl⟩ := hp
  refine zk_stk (r' := [.int v2]) rfl ?_
  refine zk_istore_n (lv' := [(2, _), (0, _)]) C kd_Mo_contact_51 rfl (by decide) rfl rfl ?_
  refine zk_aload_n C kd_Mo_contact_52 rfl 1 rfl rfl ?_
  refine zs_get (v := .ref (S.1 74)) C 68 17 rfl rfl rfl rfl ki_Mo (by decide) kw1700 kd_Mo_contact_53 rfl ?_
  refine zk_iload_n C kd_Mo_contact_56 rfl 0 rfl rfl ?_
  obtain ⟨q4, e⟩ := zd_g e
  refine zs_iald C 74 rfl (zd_vp q4) kd_Mo_contact_57 rfl ?_
  refine zk_if_le (tgt := 65) C kd_Mo_contact_58 (by decide) rfl (fun b5 => ?_) (fun b5 => ?_)
  · replace e := zd_pos b5 e
    refine zk_lvs (lv' := [(0, .ref (S.1 68)), (2, .int v2)]) [1, 0] rfl ?_
    exact zb_Mo_contact_65 C hR h3 v2 e
  · replace e := zd_neg b5 e
    refine zk_aload_n C kd_Mo_contact_61 rfl 1 rfl rfl ?_
    obtain ⟨h7, c6, e⟩ := zd_b e
    refine zs_callV (k := 68) (rn := { frames := 6, cells := 0, slots := 0, locals := 129 }) (As := []) (rest := []) C (zc_Mo_next h3 c6) ku_Mo_next kw2001 kv_Mo_next rfl ⟨by decide, by decide⟩ ⟨by decide, by decide⟩ rfl rfl rfl (Nat.le_of_ble_eq_true rfl) kd_Mo_contact_62 rfl (c1 := 0) (s1 := 0) rfl rfl (fun v w hp => ?_)
    obtain ⟨rfl, rfl⟩ := hp
    refine zk_stk (r' := []) rfl ?_
    refine zk_lvs (lv' := [(0, .ref (S.1 68)), (2, .int v2)]) [1, 0] rfl ?_
    exact zb_Mo_contact_65 C hR h7 v2 e
set_option maxHeartbeats 4000000 in
set_option maxRecDepth 100000 in
theorem zc_Mo_contact {l : Launch} {D : va_G} {sz0 : Nat} {S : zs_T} {P : ze_T} (h : zs_H) (x1 : Int32) {rh : zs_H} (e : f_Mo_contact h x1 = some rh) : zk_Sp (zs_G S l D sz0) (ze_E P) km_Mo_contact { frames := 8, cells := 0, slots := 0, locals := 171 } [.ref (S.1 68), .int x1] (zs_W S h) (zd_PV S rh) := by
  refine zk_met ku_Mo_contact (Nat.le_of_ble_eq_true rfl) (ze_Em P) ?_
  intro X C hR
  refine zk_lvs (lv' := [(0, .ref (S.1 68)), (1, .int x1)]) [0, 1] rfl ?_
  unfold f_Mo_contact at e
  refine zk_aload_n C kd_Mo_contact_0 rfl 0 rfl rfl ?_
  refine zk_iload_n C kd_Mo_contact_1 rfl 1 rfl rfl ?_
  refine zk_bipush (v := 25) C kd_Mo_contact_2 (by decide) rfl ?_
  refine zk_aload_n C kd_Mo_contact_4 rfl 0 rfl rfl ?_
  refine zs_get (v := .int (h.1 68 7)) C 68 7 rfl rfl rfl rfl ki_Mo (by decide) kw1690 kd_Mo_contact_5 rfl ?_
  refine zk_aload_n C kd_Mo_contact_8 rfl 0 rfl rfl ?_
  refine zk_bipush (v := 47) C kd_Mo_contact_9 (by decide) rfl ?_
  refine zs_callV (k := 68) (rn := { frames := 0, cells := 0, slots := 0, locals := 0 }) (As := [.int 47]) (rest := [.int (h.1 68 7), .int 25, .int x1, .ref (S.1 68)]) C (zc_Mo_isSign h 47) ku_Mo_isSign kw2117 kv_Mo_isSign rfl ⟨by decide, by decide⟩ ⟨by decide, by decide⟩ rfl rfl rfl (Nat.le_of_ble_eq_true rfl) kd_Mo_contact_11 rfl (c1 := 0) (s1 := 0) rfl rfl (fun v w hp => ?_)
  obtain ⟨rfl, rfl, z1⟩ := hp
  refine zk_stk (r' := [.int (f_Mo_isSign h 47), .int (h.1 68 7), .int 25, .int x1, .ref (S.1 68)]) rfl ?_
  refine zk_if_eq (tgt := 21) C kd_Mo_contact_14 (by decide) rfl (fun b2 => ?_) (fun b2 => ?_)
  · replace e := zd_pos b2 e
    refine zk_aload_n C kd_Mo_contact_21 rfl 0 rfl rfl ?_
    refine zk_bipush (v := 62) C kd_Mo_contact_22 (by decide) rfl ?_
    refine zs_callV (k := 68) (rn := { frames := 0, cells := 0, slots := 0, locals := 0 }) (As := [.int 62]) (rest := [.int (h.1 68 7), .int 25, .int x1, .ref (S.1 68)]) C (zc_Mo_isSign h 62) ku_Mo_isSign kw2117 kv_Mo_isSign rfl ⟨by decide, by decide⟩ ⟨by decide, by decide⟩ rfl rfl rfl (Nat.le_of_ble_eq_true rfl) kd_Mo_contact_24 rfl (c1 := 0) (s1 := 0) rfl rfl (fun v w hp => ?_)
    obtain ⟨rfl, rfl, z3⟩ := hp
    refine zk_stk (r' := [.int (f_Mo_isSign h 62), .int (h.1 68 7), .int 25, .int x1, .ref (S.1 68)]) rfl ?_
    refine zk_if_eq (tgt := 34) C kd_Mo_contact_27 (by decide) rfl (fun b4 => ?_) (fun b4 => ?_)
    · replace e := zd_pos b4 e
      refine zk_aload_n C kd_Mo_contact_34 rfl 0 rfl rfl ?_
      refine zk_bipush (v := 60) C kd_Mo_contact_35 (by decide) rfl ?_
      refine zs_callV (k := 68) (rn := { frames := 0, cells := 0, slots := 0, locals := 0 }) (As := [.int 60]) (rest := [.int (h.1 68 7), .int 25, .int x1, .ref (S.1 68)]) C (zc_Mo_isSign h 60) ku_Mo_isSign kw2117 kv_Mo_isSign rfl ⟨by decide, by decide⟩ ⟨by decide, by decide⟩ rfl rfl rfl (Nat.le_of_ble_eq_true rfl) kd_Mo_contact_37 rfl (c1 := 0) (s1 := 0) rfl rfl (fun v w hp => ?_)
      obtain ⟨rfl, rfl, z5⟩ := hp
      refine zk_stk (r' := [.int (f_Mo_isSign h 60), .int (h.1 68 7), .int 25, .int x1, .ref (S.1 68)]) rfl ?_
      refine zk_if_eq (tgt := 47) C kd_Mo_contact_40 (by decide) rfl (fun b6 => ?_) (fun b6 => ?_)
      · replace e := zd_pos b6 e
        refine zk_iconst (v := 0) C kd_Mo_contact_47 (by decide) rfl ?_
        refine zk_lvs (lv' := [(0, .ref (S.1 68))]) [0] rfl ?_
        exact zb_Mo_contact_48 C hR h 0 (h.1 68 7) 25 x1 e
      · replace e := zd_neg b6 e
        refine zk_iconst (v := 3) C kd_Mo_contact_43 (by decide) rfl ?_
        refine zk_goto (tgt := 48) C kd_Mo_contact_44 (by decide) ?_
        refine zk_lvs (lv' := [(0, .ref (S.1 68))]) [0] rfl ?_
        exact zb_Mo_contact_48 C hR h 3 (h.1 68 7) 25 x1 e
    · replace e := zd_neg b4 e
      refine zk_iconst (v := 2) C kd_Mo_contact_30 (by decide) rfl ?_
      refine zk_goto (tgt := 48) C kd_Mo_contact_31 (by decide) ?_
      refine zk_lvs (lv' := [(0, .ref (S.1 68))]) [0] rfl ?_
      exact zb_Mo_contact_48 C hR h 2 (h.1 68 7) 25 x1 e
  · replace e := zd_neg b2 e
    refine zk_iconst (v := 1) C kd_Mo_contact_17 (by decide) rfl ?_
    refine zk_goto (tgt := 48) C kd_Mo_contact_18 (by decide) ?_
    refine zk_lvs (lv' := [(0, .ref (S.1 68))]) [0] rfl ?_
    exact zb_Mo_contact_48 C hR h 1 (h.1 68 7) 25 x1 e
set_option maxHeartbeats 4000000 in
set_option maxRecDepth 100000 in
theorem zb_Mo_readCell_49 {X : zkj_T} {S : zs_T} {P : ze_T} {l : Launch} {D : va_G} {sz0 : Nat} {rh : zs_H} (C : zk_C X km_Mo_readCell (zs_G S l D sz0) { frames := 9, cells := 0, slots := 0, locals := 197 } (ze_E P)) (hR : zkj_R X (zd_PV S rh) (none)) (h : zs_H) (y0 : Int32) (y1 : Int32) (e : f_Mo_readCell_49 h y0 y1 = some rh) : zk_Ab X (zs_W S h) 0 0 49 [(0, .ref (S.1 68))] [.int y0, .int y1, .ref (S.1 68)] := by
  unfold f_Mo_readCell_49 at e
  refine zk_aload_n C kd_Mo_readCell_49 rfl 0 rfl rfl ?_
  refine zs_get (v := .int (h.1 68 7)) C 68 7 rfl rfl rfl rfl ki_Mo (by decide) kw1690 kd_Mo_readCell_50 rfl ?_
  refine zk_iconst (v := 0) C kd_Mo_readCell_53 (by decide) rfl ?_
  obtain ⟨v2, h3, c1, e⟩ := zd_Be e
  refine zs_callV (k := 68) (rn := { frames := 1, cells := 0, slots := 0, locals := 24 }) (As := [.int y1, .int y0, .int (h.1 68 7), .int 0]) (rest := []) C (zc_Mo_add h y1 y0 (h.1 68 7) 0 c1) ku_Mo_add kw2097 kv_Mo_add rfl ⟨by decide, by decide⟩ ⟨by decide, by decide⟩ rfl rfl rfl (Nat.le_of_ble_eq_true rfl) kd_Mo_readCell_54 rfl (c1 := 0) (s1 := 0) rfl rfl (fun v w hp => ?_)
  obtain ⟨rfl, rfl⟩ := hp
  refine zk_stk (r' := [.int v2]) rfl ?_
  refine zk_istore_n (lv' := [(3, _), (0, _)]) C kd_Mo_readCell_57 rfl (by decide) rfl rfl ?_
  refine zk_aload_n C kd_Mo_readCell_58 rfl 1 rfl rfl ?_
  obtain ⟨h5, c4, e⟩ := zd_b e
  refine zs_callV (k := 68) (rn := { frames := 6, cells := 0, slots := 0, locals := 129 }) (As := []) (rest := []) C (zc_Mo_next h3 c4) ku_Mo_next kw2001 kv_Mo_next rfl ⟨by decide, by decide⟩ ⟨by decide, by decide⟩ rfl rfl rfl (Nat.le_of_ble_eq_true rfl) kd_Mo_readCell_59 rfl (c1 := 0) (s1 := 0) rfl rfl (fun v w hp => ?_)
  obtain ⟨rfl, rfl⟩ := hp
  refine zk_stk (r' := []) rfl ?_
  refine zk_goto (tgt := 187) C kd_Mo_readCell_62 (by decide) ?_
  exact zk_vret C hR kd_Mo_readCell_187 rfl rfl (zd_rV e)
set_option maxHeartbeats 4000000 in
set_option maxRecDepth 100000 in
theorem zb_Mo_readCell_31 {X : zkj_T} {S : zs_T} {P : ze_T} {l : Launch} {D : va_G} {sz0 : Nat} {rh : zs_H} (C : zk_C X km_Mo_readCell (zs_G S l D sz0) { frames := 9, cells := 0, slots := 0, locals := 197 } (ze_E P)) (hR : zkj_R X (zd_PV S rh) (none)) (h : zs_H) (x1 : Int32) (e : f_Mo_readCell_31 h x1 = some rh) : zk_Ab X (zs_W S h) 0 0 31 [(0, .ref (S.1 68)), (1, .int x1)] [] := by
  unfold f_Mo_readCell_31 at e
  refine zk_aload_n C kd_Mo_readCell_31 rfl 0 rfl rfl ?_
  refine zk_iload_n C kd_Mo_readCell_32 rfl 1 rfl rfl ?_
  refine zk_aload_n C kd_Mo_readCell_33 rfl 0 rfl rfl ?_
  refine zs_get (v := .int (h.1 68 9)) C 68 9 rfl rfl rfl rfl ki_Mo (by decide) kw1692 kd_Mo_readCell_34 rfl ?_
  refine zk_bipush (v := 45) C kd_Mo_readCell_37 (by decide) rfl ?_
  refine zk_icmp_ne (tgt := 47) C kd_Mo_readCell_39 (by decide) rfl (fun b1 => ?_) (fun b1 => ?_)
  · replace e := zd_neg b1 e
    refine zk_bipush (v := 27) C kd_Mo_readCell_47 (by decide) rfl ?_
    refine zk_lvs (lv' := [(0, .ref (S.1 68))]) [0] rfl ?_
    exact zb_Mo_readCell_49 C hR h 27 x1 e
  · replace e := zd_pos b1 e
    refine zk_bipush (v := 26) C kd_Mo_readCell_42 (by decide) rfl ?_
    refine zk_goto (tgt := 49) C kd_Mo_readCell_44 (by decide) ?_
    refine zk_lvs (lv' := [(0, .ref (S.1 68))]) [0] rfl ?_
    exact zb_Mo_readCell_49 C hR h 26 x1 e
set_option maxHeartbeats 4000000 in
set_option maxRecDepth 100000 in
theorem zb_Mo_readCell_170 {X : zkj_T} {S : zs_T} {P : ze_T} {l : Launch} {D : va_G} {sz0 : Nat} {rh : zs_H} (C : zk_C X km_Mo_readCell (zs_G S l D sz0) { frames := 9, cells := 0, slots := 0, locals := 197 } (ze_E P)) (hR : zkj_R X (zd_PV S rh) (none)) (h : zs_H) (y0 : Int32) (e : f_Mo_readCell_170 h y0 = some rh) : zk_Ab X (zs_W S h) 0 0 170 [(0, .ref (S.1 68))] [.int y0, .ref (S.1 68)] := by
  unfold f_Mo_readCell_170 at e
  obtain ⟨h2, c1, e⟩ := zd_b e
  refine zs_callV (k := 68) (rn := { frames := 7, cells := 0, slots := 0, locals := 150 }) (As := [.int y0]) (rest := []) C (zc_Mo_want h y0 c1) ku_Mo_want kw2109 kv_Mo_want rfl ⟨by decide, by decide⟩ ⟨by decide, by decide⟩ rfl rfl rfl (Nat.le_of_ble_eq_true rfl) kd_Mo_readCell_170 rfl (c1 := 0) (s1 := 0) rfl rfl (fun v w hp => ?_)
  obtain ⟨rfl, rfl⟩ := hp
  refine zk_stk (r' := []) rfl ?_
  refine zk_aload_n C kd_Mo_readCell_173 rfl 0 rfl rfl ?_
  refine zk_bipush (v := 41) C kd_Mo_readCell_174 (by decide) rfl ?_
  obtain ⟨h4, c3, e⟩ := zd_b e
  refine zs_callV (k := 68) (rn := { frames := 8, cells := 0, slots := 0, locals := 171 }) (As := [.int 41]) (rest := []) C (zc_Mo_wantSign h2 41 c3) ku_Mo_wantSign kw2113 kv_Mo_wantSign rfl ⟨by decide, by decide⟩ ⟨by decide, by decide⟩ rfl rfl rfl (Nat.le_of_ble_eq_true rfl) kd_Mo_readCell_176 rfl (c1 := 0) (s1 := 0) rfl rfl (fun v w hp => ?_)
  obtain ⟨rfl, rfl⟩ := hp
  refine zk_stk (r' := []) rfl ?_
  refine zk_goto (tgt := 187) C kd_Mo_readCell_179 (by decide) ?_
  exact zk_vret C hR kd_Mo_readCell_187 rfl rfl (zd_rV e)
set_option maxHeartbeats 4000000 in
set_option maxRecDepth 100000 in
theorem zb_Mo_readCell_127 {X : zkj_T} {S : zs_T} {P : ze_T} {l : Launch} {D : va_G} {sz0 : Nat} {rh : zs_H} (C : zk_C X km_Mo_readCell (zs_G S l D sz0) { frames := 9, cells := 0, slots := 0, locals := 197 } (ze_E P)) (hR : zkj_R X (zd_PV S rh) (none)) (h : zs_H) (x1 : Int32) (x2 : Int32) (x3 : Int32) (e : f_Mo_readCell_127 h x1 x2 x3 = some rh) : zk_Ab X (zs_W S h) 0 0 127 [(0, .ref (S.1 68)), (1, .int x1), (2, .int x2), (3, .int x3)] [] := by
  unfold f_Mo_readCell_127 at e
  refine zk_aload_n C kd_Mo_readCell_127 rfl 0 rfl rfl ?_
  refine zk_iload_n C kd_Mo_readCell_128 rfl 1 rfl rfl ?_
  refine zk_bipush (v := 28) C kd_Mo_readCell_129 (by decide) rfl ?_
  refine zk_iload_n C kd_Mo_readCell_131 rfl 2 rfl rfl ?_
  refine zk_iload_n C kd_Mo_readCell_132 rfl 3 rfl rfl ?_
  obtain ⟨v2, h3, c1, e⟩ := zd_Be e
  refine zs_callV (k := 68) (rn := { frames := 1, cells := 0, slots := 0, locals := 24 }) (As := [.int x1, .int 28, .int x2, .int x3]) (rest := []) C (zc_Mo_add h x1 28 x2 x3 c1) ku_Mo_add kw2097 kv_Mo_add rfl ⟨by decide, by decide⟩ ⟨by decide, by decide⟩ rfl rfl rfl (Nat.le_of_ble_eq_true rfl) kd_Mo_readCell_133 rfl (c1 := 0) (s1 := 0) rfl rfl (fun v w hp => ?_)
  obtain ⟨rfl, rfl⟩ := hp
  refine zk_stk (r' := [.int v2]) rfl ?_
  refine zk_istore (lv' := [(4, _), (0, _), (1, _), (2, _), (3, _)]) C kd_Mo_readCell_136 (by decide) rfl rfl ?_
  refine zk_aload_n C kd_Mo_readCell_138 rfl 1 rfl rfl ?_
  refine zk_iload C kd_Mo_readCell_139 0 rfl rfl ?_
  refine zk_bipush (v := 6) C kd_Mo_readCell_141 (by decide) rfl ?_
  refine zk_aload_n C kd_Mo_readCell_143 rfl 1 rfl rfl ?_
  refine zs_get (v := .int (h3.1 68 7)) C 68 7 rfl rfl rfl rfl ki_Mo (by decide) kw1690 kd_Mo_readCell_144 rfl ?_
  refine zk_aload_n C kd_Mo_readCell_147 rfl 1 rfl rfl ?_
  refine zs_get (v := .int (h3.1 68 9)) C 68 9 rfl rfl rfl rfl ki_Mo (by decide) kw1692 kd_Mo_readCell_148 rfl ?_
  obtain ⟨v5, h6, c4, e⟩ := zd_Be e
  refine zs_callV (k := 68) (rn := { frames := 1, cells := 0, slots := 0, locals := 24 }) (As := [.int v2, .int 6, .int (h3.1 68 7), .int (h3.1 68 9)]) (rest := []) C (zc_Mo_add h3 v2 6 (h3.1 68 7) (h3.1 68 9) c4) ku_Mo_add kw2097 kv_Mo_add rfl ⟨by decide, by decide⟩ ⟨by decide, by decide⟩ rfl rfl rfl (Nat.le_of_ble_eq_true rfl) kd_Mo_readCell_151 rfl (c1 := 0) (s1 := 0) rfl rfl (fun v w hp => ?_)
  obtain ⟨rfl, rfl⟩ := hp
  refine zk_stk (r' := [.int v5]) rfl ?_
  refine zk_istore (lv' := [(5, _), (4, _), (0, _), (1, _), (2, _), (3, _)]) C kd_Mo_readCell_154 (by decide) rfl rfl ?_
  refine zk_aload_n C kd_Mo_readCell_156 rfl 2 rfl rfl ?_
  refine zk_aload_n C kd_Mo_readCell_157 rfl 2 rfl rfl ?_
  refine zs_get (v := .int (h6.1 68 6)) C 68 6 rfl rfl rfl rfl ki_Mo (by decide) kw1689 kd_Mo_readCell_158 rfl ?_
  refine zk_iconst (v := 1) C kd_Mo_readCell_161 (by decide) rfl ?_
  refine zk_icmp_ne (tgt := 169) C kd_Mo_readCell_162 (by decide) rfl (fun b7 => ?_) (fun b7 => ?_)
  · replace e := zd_neg b7 e
    refine zk_iconst (v := 0) C kd_Mo_readCell_169 (by decide) rfl ?_
    refine zk_lvs (lv' := [(0, .ref (S.1 68))]) [2] rfl ?_
    exact zb_Mo_readCell_170 C hR h6 0 e
  · replace e := zd_pos b7 e
    refine zk_iconst (v := 1) C kd_Mo_readCell_165 (by decide) rfl ?_
    refine zk_goto (tgt := 170) C kd_Mo_readCell_166 (by decide) ?_
    refine zk_lvs (lv' := [(0, .ref (S.1 68))]) [2] rfl ?_
    exact zb_Mo_readCell_170 C hR h6 1 e
set_option maxHeartbeats 4000000 in
set_option maxRecDepth 100000 in
theorem zb_Mo_readCell_118 {X : zkj_T} {S : zs_T} {P : ze_T} {l : Launch} {D : va_G} {sz0 : Nat} {rh : zs_H} (C : zk_C X km_Mo_readCell (zs_G S l D sz0) { frames := 9, cells := 0, slots := 0, locals := 197 } (ze_E P)) (hR : zkj_R X (zd_PV S rh) (none)) (h : zs_H) (x1 : Int32) (x2 : Int32) (y0 : Int32) (e : f_Mo_readCell_118 h x1 x2 y0 = some rh) : zk_Ab X (zs_W S h) 0 0 118 [(0, .ref (S.1 68)), (1, .int x1), (2, .int x2)] [.int y0] := by
  unfold f_Mo_readCell_118 at e
  refine zk_istore_n (lv' := [(3, _), (0, _), (1, _), (2, _)]) C kd_Mo_readCell_118 rfl (by decide) rfl rfl ?_
  refine zk_iload_n C kd_Mo_readCell_119 rfl 0 rfl rfl ?_
  refine zk_if_le (tgt := 127) C kd_Mo_readCell_120 (by decide) rfl (fun b1 => ?_) (fun b1 => ?_)
  · replace e := zd_pos b1 e
    refine zk_lvs (lv' := [(0, .ref (S.1 68)), (1, .int x1), (2, .int x2), (3, .int y0)]) [1, 2, 3, 0] rfl ?_
    exact zb_Mo_readCell_127 C hR h x1 x2 y0 e
  · replace e := zd_neg b1 e
    refine zk_aload_n C kd_Mo_readCell_123 rfl 1 rfl rfl ?_
    obtain ⟨h3, c2, e⟩ := zd_b e
    refine zs_callV (k := 68) (rn := { frames := 6, cells := 0, slots := 0, locals := 129 }) (As := []) (rest := []) C (zc_Mo_next h c2) ku_Mo_next kw2001 kv_Mo_next rfl ⟨by decide, by decide⟩ ⟨by decide, by decide⟩ rfl rfl rfl (Nat.le_of_ble_eq_true rfl) kd_Mo_readCell_124 rfl (c1 := 0) (s1 := 0) rfl rfl (fun v w hp => ?_)
    obtain ⟨rfl, rfl⟩ := hp
    refine zk_stk (r' := []) rfl ?_
    refine zk_lvs (lv' := [(0, .ref (S.1 68)), (1, .int x1), (2, .int x2), (3, .int y0)]) [1, 2, 3, 0] rfl ?_
    exact zb_Mo_readCell_127 C hR h3 x1 x2 y0 e
set_option maxHeartbeats 4000000 in
set_option maxRecDepth 100000 in
theorem zc_Mo_readCell {l : Launch} {D : va_G} {sz0 : Nat} {S : zs_T} {P : ze_T} (h : zs_H) (x1 : Int32) {rh : zs_H} (e : f_Mo_readCell h x1 = some rh) : zk_Sp (zs_G S l D sz0) (ze_E P) km_Mo_readCell { frames := 9, cells := 0, slots := 0, locals := 197 } [.ref (S.1 68), .int x1] (zs_W S h) (zd_PV S rh) := by
  refine zk_met ku_Mo_readCell (Nat.le_of_ble_eq_true rfl) (ze_Em P) ?_
  intro X C hR
  refine zk_lvs (lv' := [(0, .ref (S.1 68)), (1, .int x1)]) [0, 1] rfl ?_
  unfold f_Mo_readCell at e
  refine zk_aload_n C kd_Mo_readCell_0 rfl 0 rfl rfl ?_
  refine zs_get (v := .int (h.1 68 10)) C 68 10 rfl rfl rfl rfl ki_Mo (by decide) kw1693 kd_Mo_readCell_1 rfl ?_
  refine zk_if_le (tgt := 8) C kd_Mo_readCell_4 (by decide) rfl (fun b1 => ?_) (fun b1 => ?_)
  · replace e := zd_pos b1 e
    refine zk_aload_n C kd_Mo_readCell_8 rfl 0 rfl rfl ?_
    refine zs_get (v := .int (h.1 68 7)) C 68 7 rfl rfl rfl rfl ki_Mo (by decide) kw1690 kd_Mo_readCell_9 rfl ?_
    refine zk_istore_n (lv' := [(2, _), (0, _), (1, _)]) C kd_Mo_readCell_12 rfl (by decide) rfl rfl ?_
    refine zk_aload_n C kd_Mo_readCell_13 rfl 1 rfl rfl ?_
    refine zk_bipush (v := 45) C kd_Mo_readCell_14 (by decide) rfl ?_
    refine zs_callV (k := 68) (rn := { frames := 0, cells := 0, slots := 0, locals := 0 }) (As := [.int 45]) (rest := []) C (zc_Mo_isSign h 45) ku_Mo_isSign kw2117 kv_Mo_isSign rfl ⟨by decide, by decide⟩ ⟨by decide, by decide⟩ rfl rfl rfl (Nat.le_of_ble_eq_true rfl) kd_Mo_readCell_16 rfl (c1 := 0) (s1 := 0) rfl rfl (fun v w hp => ?_)
    obtain ⟨rfl, rfl, z2⟩ := hp
    refine zk_stk (r' := [.int (f_Mo_isSign h 45)]) rfl ?_
    refine zk_if_ne (tgt := 31) C kd_Mo_readCell_19 (by decide) rfl (fun b3 => ?_) (fun b3 => ?_)
    · replace e := zd_neg b3 e
      refine zk_lvs (lv' := [(0, .ref (S.1 68)), (1, .int x1)]) [1, 2] rfl ?_
      exact zb_Mo_readCell_31 C hR h x1 e
    · replace e := zd_pos b3 e
      refine zk_aload_n C kd_Mo_readCell_22 rfl 1 rfl rfl ?_
      refine zk_bipush (v := 42) C kd_Mo_readCell_23 (by decide) rfl ?_
      refine zs_callV (k := 68) (rn := { frames := 0, cells := 0, slots := 0, locals := 0 }) (As := [.int 42]) (rest := []) C (zc_Mo_isSign h 42) ku_Mo_isSign kw2117 kv_Mo_isSign rfl ⟨by decide, by decide⟩ ⟨by decide, by decide⟩ rfl rfl rfl (Nat.le_of_ble_eq_true rfl) kd_Mo_readCell_25 rfl (c1 := 0) (s1 := 0) rfl rfl (fun v w hp => ?_)
      obtain ⟨rfl, rfl, z4⟩ := hp
      refine zk_stk (r' := [.int (f_Mo_isSign h 42)]) rfl ?_
      refine zk_if_eq (tgt := 65) C kd_Mo_readCell_28 (by decide) rfl (fun b5 => ?_) (fun b5 => ?_)
      · replace e := zd_pos b5 e
        refine zk_aload_n C kd_Mo_readCell_65 rfl 1 rfl rfl ?_
        refine zk_bipush (v := 40) C kd_Mo_readCell_66 (by decide) rfl ?_
        refine zs_callV (k := 68) (rn := { frames := 0, cells := 0, slots := 0, locals := 0 }) (As := [.int 40]) (rest := []) C (zc_Mo_isSign h 40) ku_Mo_isSign kw2117 kv_Mo_isSign rfl ⟨by decide, by decide⟩ ⟨by decide, by decide⟩ rfl rfl rfl (Nat.le_of_ble_eq_true rfl) kd_Mo_readCell_68 rfl (c1 := 0) (s1 := 0) rfl rfl (fun v w hp => ?_)
        obtain ⟨rfl, rfl, z6⟩ := hp
        refine zk_stk (r' := [.int (f_Mo_isSign h 40)]) rfl ?_
        refine zk_if_eq (tgt := 182) C kd_Mo_readCell_71 (by decide) rfl (fun b7 => ?_) (fun b7 => ?_)
        · replace e := zd_pos b7 e
          refine zk_aload_n C kd_Mo_readCell_182 rfl 1 rfl rfl ?_
          refine zk_iload_n C kd_Mo_readCell_183 rfl 2 rfl rfl ?_
          obtain ⟨h9, c8, e⟩ := zd_b e
          refine zs_callV (k := 68) (rn := { frames := 8, cells := 0, slots := 0, locals := 171 }) (As := [.int x1]) (rest := []) C (zc_Mo_contact h x1 c8) ku_Mo_contact kw2157 kv_Mo_contact rfl ⟨by decide, by decide⟩ ⟨by decide, by decide⟩ rfl rfl rfl (Nat.le_of_ble_eq_true rfl) kd_Mo_readCell_184 rfl (c1 := 0) (s1 := 0) rfl rfl (fun v w hp => ?_)
          obtain ⟨rfl, rfl⟩ := hp
          refine zk_stk (r' := []) rfl ?_
          exact zk_vret C hR kd_Mo_readCell_187 rfl rfl (zd_rV e)
        · replace e := zd_neg b7 e
          refine zk_aload_n C kd_Mo_readCell_74 rfl 1 rfl rfl ?_
          obtain ⟨h11, c10, e⟩ := zd_b e
          refine zs_callV (k := 68) (rn := { frames := 6, cells := 0, slots := 0, locals := 129 }) (As := []) (rest := []) C (zc_Mo_next h c10) ku_Mo_next kw2001 kv_Mo_next rfl ⟨by decide, by decide⟩ ⟨by decide, by decide⟩ rfl rfl rfl (Nat.le_of_ble_eq_true rfl) kd_Mo_readCell_75 rfl (c1 := 0) (s1 := 0) rfl rfl (fun v w hp => ?_)
          obtain ⟨rfl, rfl⟩ := hp
          refine zk_stk (r' := []) rfl ?_
          refine zk_aload_n C kd_Mo_readCell_78 rfl 1 rfl rfl ?_
          refine zk_bipush (v := 47) C kd_Mo_readCell_79 (by decide) rfl ?_
          refine zs_callV (k := 68) (rn := { frames := 0, cells := 0, slots := 0, locals := 0 }) (As := [.int 47]) (rest := []) C (zc_Mo_isSign h11 47) ku_Mo_isSign kw2117 kv_Mo_isSign rfl ⟨by decide, by decide⟩ ⟨by decide, by decide⟩ rfl rfl rfl (Nat.le_of_ble_eq_true rfl) kd_Mo_readCell_81 rfl (c1 := 0) (s1 := 0) rfl rfl (fun v w hp => ?_)
          obtain ⟨rfl, rfl, z12⟩ := hp
          refine zk_stk (r' := [.int (f_Mo_isSign h11 47)]) rfl ?_
          refine zk_if_eq (tgt := 91) C kd_Mo_readCell_84 (by decide) rfl (fun b13 => ?_) (fun b13 => ?_)
          · replace e := zd_pos b13 e
            refine zk_aload_n C kd_Mo_readCell_91 rfl 1 rfl rfl ?_
            refine zk_bipush (v := 43) C kd_Mo_readCell_92 (by decide) rfl ?_
            refine zs_callV (k := 68) (rn := { frames := 0, cells := 0, slots := 0, locals := 0 }) (As := [.int 43]) (rest := []) C (zc_Mo_isSign h11 43) ku_Mo_isSign kw2117 kv_Mo_isSign rfl ⟨by decide, by decide⟩ ⟨by decide, by decide⟩ rfl rfl rfl (Nat.le_of_ble_eq_true rfl) kd_Mo_readCell_94 rfl (c1 := 0) (s1 := 0) rfl rfl (fun v w hp => ?_)
            obtain ⟨rfl, rfl, z14⟩ := hp
            refine zk_stk (r' := [.int (f_Mo_isSign h11 43)]) rfl ?_
            refine zk_if_eq (tgt := 104) C kd_Mo_readCell_97 (by decide) rfl (fun b15 => ?_) (fun b15 => ?_)
            · replace e := zd_pos b15 e
              refine zk_aload_n C kd_Mo_readCell_104 rfl 1 rfl rfl ?_
              refine zk_bipush (v := 45) C kd_Mo_readCell_105 (by decide) rfl ?_
              refine zs_callV (k := 68) (rn := { frames := 0, cells := 0, slots := 0, locals := 0 }) (As := [.int 45]) (rest := []) C (zc_Mo_isSign h11 45) ku_Mo_isSign kw2117 kv_Mo_isSign rfl ⟨by decide, by decide⟩ ⟨by decide, by decide⟩ rfl rfl rfl (Nat.le_of_ble_eq_true rfl) kd_Mo_readCell_107 rfl (c1 := 0) (s1 := 0) rfl rfl (fun v w hp => ?_)
              obtain ⟨rfl, rfl, z16⟩ := hp
              refine zk_stk (r' := [.int (f_Mo_isSign h11 45)]) rfl ?_
              refine zk_if_eq (tgt := 117) C kd_Mo_readCell_110 (by decide) rfl (fun b17 => ?_) (fun b17 => ?_)
              · replace e := zd_pos b17 e
                refine zk_iconst (v := 0) C kd_Mo_readCell_117 (by decide) rfl ?_
                refine zk_lvs (lv' := [(0, .ref (S.1 68)), (1, .int x1), (2, .int (h.1 68 7))]) [1, 2, 0] rfl ?_
                exact zb_Mo_readCell_118 C hR h11 x1 (h.1 68 7) 0 e
              · replace e := zd_neg b17 e
                refine zk_iconst (v := 3) C kd_Mo_readCell_113 (by decide) rfl ?_
                refine zk_goto (tgt := 118) C kd_Mo_readCell_114 (by decide) ?_
                refine zk_lvs (lv' := [(0, .ref (S.1 68)), (1, .int x1), (2, .int (h.1 68 7))]) [1, 2, 0] rfl ?_
                exact zb_Mo_readCell_118 C hR h11 x1 (h.1 68 7) 3 e
            · replace e := zd_neg b15 e
              refine zk_iconst (v := 2) C kd_Mo_readCell_100 (by decide) rfl ?_
              refine zk_goto (tgt := 118) C kd_Mo_readCell_101 (by decide) ?_
              refine zk_lvs (lv' := [(0, .ref (S.1 68)), (1, .int x1), (2, .int (h.1 68 7))]) [1, 2, 0] rfl ?_
              exact zb_Mo_readCell_118 C hR h11 x1 (h.1 68 7) 2 e
          · replace e := zd_neg b13 e
            refine zk_iconst (v := 1) C kd_Mo_readCell_87 (by decide) rfl ?_
            refine zk_goto (tgt := 118) C kd_Mo_readCell_88 (by decide) ?_
            refine zk_lvs (lv' := [(0, .ref (S.1 68)), (1, .int x1), (2, .int (h.1 68 7))]) [1, 2, 0] rfl ?_
            exact zb_Mo_readCell_118 C hR h11 x1 (h.1 68 7) 1 e
      · replace e := zd_neg b5 e
        refine zk_lvs (lv' := [(0, .ref (S.1 68)), (1, .int x1)]) [1, 2] rfl ?_
        exact zb_Mo_readCell_31 C hR h x1 e
  · replace e := zd_neg b1 e
    exact zk_vret C hR kd_Mo_readCell_7 rfl rfl (zd_rV e)
