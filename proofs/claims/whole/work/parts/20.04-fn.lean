theorem kw1684 : Jvm.Cond.fieldLink "PlantKeeperModel" (184 : Nat) "PlantKeeperModel" "size" "I" ∈ zk_BW := zk_inT 1684 (by decide +kernel) rfl
theorem kw1686 : Jvm.Cond.fieldLink "PlantKeeperModel" (259 : Nat) "PlantKeeperModel" "names" "I" ∈ zk_BW := zk_inT 1686 (by decide +kernel) rfl
theorem kw1689 : Jvm.Cond.fieldLink "PlantKeeperModel" (217 : Nat) "PlantKeeperModel" "kind" "I" ∈ zk_BW := zk_inT 1689 (by decide +kernel) rfl
theorem kw1690 : Jvm.Cond.fieldLink "PlantKeeperModel" (214 : Nat) "PlantKeeperModel" "at" "I" ∈ zk_BW := zk_inT 1690 (by decide +kernel) rfl
theorem kw1691 : Jvm.Cond.fieldLink "PlantKeeperModel" (208 : Nat) "PlantKeeperModel" "behind" "I" ∈ zk_BW := zk_inT 1691 (by decide +kernel) rfl
theorem kw1692 : Jvm.Cond.fieldLink "PlantKeeperModel" (242 : Nat) "PlantKeeperModel" "value" "I" ∈ zk_BW := zk_inT 1692 (by decide +kernel) rfl
theorem kw1693 : Jvm.Cond.fieldLink "PlantKeeperModel" (201 : Nat) "PlantKeeperModel" "fault" "I" ∈ zk_BW := zk_inT 1693 (by decide +kernel) rfl
theorem kw2007 : Jvm.Cond.instanceMethod ({ cls := "PlantKeeperModel", name := "skip", desc := "(I)I" } : Jvm.MethodName) ∈ zk_BW := zk_inT 2007 (by decide +kernel) rfl
theorem kw2008 : Jvm.Cond.code ({ cls := "PlantKeeperModel", name := "skip", desc := "(I)I" } : Jvm.MethodName) prog_14_method_9_code (5 : Nat) (Option.some FieldType.int) ∈ zk_BW := zk_inT 2008 (by decide +kernel) rfl
theorem kw2009 : Jvm.Cond.methodLink "PlantKeeperModel" (187 : Nat) ({ cls := "PlantKeeperModel", name := "byteOf", desc := "(I)I" } : Jvm.MethodName) ∈ zk_BW := zk_inT 2009 (by decide +kernel) rfl
theorem kw2011 : Jvm.Cond.instanceMethod ({ cls := "PlantKeeperModel", name := "byteOf", desc := "(I)I" } : Jvm.MethodName) ∈ zk_BW := zk_inT 2011 (by decide +kernel) rfl
theorem kw2012 : Jvm.Cond.code ({ cls := "PlantKeeperModel", name := "byteOf", desc := "(I)I" } : Jvm.MethodName) prog_14_method_3_code (2 : Nat) (Option.some FieldType.int) ∈ zk_BW := zk_inT 2012 (by decide +kernel) rfl
theorem kw2013 : Jvm.Cond.methodLink "PlantKeeperModel" (204 : Nat) ({ cls := "PlantKeeperModel", name := "fail", desc := "(II)V" } : Jvm.MethodName) ∈ zk_BW := zk_inT 2013 (by decide +kernel) rfl
theorem kw2015 : Jvm.Cond.instanceMethod ({ cls := "PlantKeeperModel", name := "fail", desc := "(II)V" } : Jvm.MethodName) ∈ zk_BW := zk_inT 2015 (by decide +kernel) rfl
theorem kw2016 : Jvm.Cond.code ({ cls := "PlantKeeperModel", name := "fail", desc := "(II)V" } : Jvm.MethodName) prog_14_method_8_code (3 : Nat) (Option.none : Option FieldType) ∈ zk_BW := zk_inT 2016 (by decide +kernel) rfl
theorem kw2017 : Jvm.Cond.methodLink "PlantKeeperModel" (191 : Nat) ({ cls := "PlantKeeperModel", name := "great", desc := "(I)I" } : Jvm.MethodName) ∈ zk_BW := zk_inT 2017 (by decide +kernel) rfl
theorem kw2019 : Jvm.Cond.instanceMethod ({ cls := "PlantKeeperModel", name := "great", desc := "(I)I" } : Jvm.MethodName) ∈ zk_BW := zk_inT 2019 (by decide +kernel) rfl
theorem kw2020 : Jvm.Cond.code ({ cls := "PlantKeeperModel", name := "great", desc := "(I)I" } : Jvm.MethodName) prog_14_method_4_code (3 : Nat) (Option.some FieldType.int) ∈ zk_BW := zk_inT 2020 (by decide +kernel) rfl
theorem kw2023 : Jvm.Cond.instanceMethod ({ cls := "PlantKeeperModel", name := "readTime", desc := "()V" } : Jvm.MethodName) ∈ zk_BW := zk_inT 2023 (by decide +kernel) rfl
theorem kw2024 : Jvm.Cond.code ({ cls := "PlantKeeperModel", name := "readTime", desc := "()V" } : Jvm.MethodName) prog_14_method_18_code (5 : Nat) (Option.none : Option FieldType) ∈ zk_BW := zk_inT 2024 (by decide +kernel) rfl
theorem kw2025 : Jvm.Cond.methodLink "PlantKeeperModel" (271 : Nat) ({ cls := "PlantKeeperModel", name := "digits", desc := "(II)J" } : Jvm.MethodName) ∈ zk_BW := zk_inT 2025 (by decide +kernel) rfl
theorem kw2027 : Jvm.Cond.instanceMethod ({ cls := "PlantKeeperModel", name := "digits", desc := "(II)J" } : Jvm.MethodName) ∈ zk_BW := zk_inT 2027 (by decide +kernel) rfl
theorem kw2028 : Jvm.Cond.code ({ cls := "PlantKeeperModel", name := "digits", desc := "(II)J" } : Jvm.MethodName) prog_14_method_15_code (5 : Nat) (Option.some FieldType.long) ∈ zk_BW := zk_inT 2028 (by decide +kernel) rfl
theorem kw2029 : Jvm.Cond.constantLong "PlantKeeperModel" (262 : Nat) (-1 : Int64) ∈ zk_BW := zk_inT 2029 (by decide +kernel) rfl
theorem kw2030 : Jvm.Cond.methodLink "PlantKeeperModel" (264 : Nat) ({ cls := "PlantKeeperModel", name := "digit", desc := "(I)I" } : Jvm.MethodName) ∈ zk_BW := zk_inT 2030 (by decide +kernel) rfl
theorem kw2031 : Jvm.Cond.static ({ cls := "PlantKeeperModel", name := "digit", desc := "(I)I" } : Jvm.MethodName) ∈ zk_BW := zk_inT 2031 (by decide +kernel) rfl
theorem kw2032 : Jvm.Cond.code ({ cls := "PlantKeeperModel", name := "digit", desc := "(I)I" } : Jvm.MethodName) prog_14_method_14_code (1 : Nat) (Option.some FieldType.int) ∈ zk_BW := zk_inT 2032 (by decide +kernel) rfl
theorem kw2036 : Jvm.Cond.constantLong "PlantKeeperModel" (267 : Nat) (100000000000000000 : Int64) ∈ zk_BW := zk_inT 2036 (by decide +kernel) rfl
theorem kw2037 : Jvm.Cond.constant "PlantKeeperModel" (283 : Nat) (60000 : Int32) ∈ zk_BW := zk_inT 2037 (by decide +kernel) rfl
theorem kw2038 : Jvm.Cond.constant "PlantKeeperModel" (284 : Nat) (3600000 : Int32) ∈ zk_BW := zk_inT 2038 (by decide +kernel) rfl
theorem kw2040 : Jvm.Cond.methodLink "PlantKeeperModel" (279 : Nat) ({ cls := "PlantKeeperModel", name := "settle", desc := "(J)V" } : Jvm.MethodName) ∈ zk_BW := zk_inT 2040 (by decide +kernel) rfl
theorem kw2042 : Jvm.Cond.instanceMethod ({ cls := "PlantKeeperModel", name := "settle", desc := "(J)V" } : Jvm.MethodName) ∈ zk_BW := zk_inT 2042 (by decide +kernel) rfl
theorem kw2043 : Jvm.Cond.code ({ cls := "PlantKeeperModel", name := "settle", desc := "(J)V" } : Jvm.MethodName) prog_14_method_16_code (3 : Nat) (Option.none : Option FieldType) ∈ zk_BW := zk_inT 2043 (by decide +kernel) rfl
theorem kw2044 : Jvm.Cond.methodLink "PlantKeeperModel" (235 : Nat) ({ cls := "PlantKeeperModel", name := "goesOn", desc := "(I)Z" } : Jvm.MethodName) ∈ zk_BW := zk_inT 2044 (by decide +kernel) rfl
theorem kw2046 : Jvm.Cond.instanceMethod ({ cls := "PlantKeeperModel", name := "goesOn", desc := "(I)Z" } : Jvm.MethodName) ∈ zk_BW := zk_inT 2046 (by decide +kernel) rfl
theorem kw2047 : Jvm.Cond.code ({ cls := "PlantKeeperModel", name := "goesOn", desc := "(I)Z" } : Jvm.MethodName) prog_14_method_7_code (2 : Nat) (Option.some FieldType.boolean) ∈ zk_BW := zk_inT 2047 (by decide +kernel) rfl
theorem kw2053 : Jvm.Cond.instanceMethod ({ cls := "PlantKeeperModel", name := "readName", desc := "()V" } : Jvm.MethodName) ∈ zk_BW := zk_inT 2053 (by decide +kernel) rfl
theorem kw2054 : Jvm.Cond.code ({ cls := "PlantKeeperModel", name := "readName", desc := "()V" } : Jvm.MethodName) prog_14_method_11_code (1 : Nat) (Option.none : Option FieldType) ∈ zk_BW := zk_inT 2054 (by decide +kernel) rfl
theorem kw2055 : Jvm.Cond.methodLink "PlantKeeperModel" (238 : Nat) ({ cls := "PlantKeeperModel", name := "wordAt", desc := "()I" } : Jvm.MethodName) ∈ zk_BW := zk_inT 2055 (by decide +kernel) rfl
theorem kw2057 : Jvm.Cond.instanceMethod ({ cls := "PlantKeeperModel", name := "wordAt", desc := "()I" } : Jvm.MethodName) ∈ zk_BW := zk_inT 2057 (by decide +kernel) rfl
theorem kw2058 : Jvm.Cond.code ({ cls := "PlantKeeperModel", name := "wordAt", desc := "()I" } : Jvm.MethodName) prog_14_method_12_code (5 : Nat) (Option.some FieldType.int) ∈ zk_BW := zk_inT 2058 (by decide +kernel) rfl
theorem kw2060 : Jvm.Cond.methodLink "PlantKeeperModel" (250 : Nat) ({ cls := "java/lang/String", name := "length", desc := "()I" } : Jvm.MethodName) ∈ zk_BW := zk_inT 2060 (by decide +kernel) rfl
theorem kw2061 : Jvm.Cond.methodLink "PlantKeeperModel" (255 : Nat) ({ cls := "java/lang/String", name := "charAt", desc := "(I)C" } : Jvm.MethodName) ∈ zk_BW := zk_inT 2061 (by decide +kernel) rfl
theorem kw2062 : Jvm.Cond.methodLink "PlantKeeperModel" (245 : Nat) ({ cls := "PlantKeeperModel", name := "nameAt", desc := "()I" } : Jvm.MethodName) ∈ zk_BW := zk_inT 2062 (by decide +kernel) rfl
theorem kw2064 : Jvm.Cond.instanceMethod ({ cls := "PlantKeeperModel", name := "nameAt", desc := "()I" } : Jvm.MethodName) ∈ zk_BW := zk_inT 2064 (by decide +kernel) rfl
theorem kw2065 : Jvm.Cond.code ({ cls := "PlantKeeperModel", name := "nameAt", desc := "()I" } : Jvm.MethodName) prog_14_method_13_code (5 : Nat) (Option.some FieldType.int) ∈ zk_BW := zk_inT 2065 (by decide +kernel) rfl
theorem kw2068 : Jvm.Cond.instanceMethod ({ cls := "PlantKeeperModel", name := "readNumber", desc := "()V" } : Jvm.MethodName) ∈ zk_BW := zk_inT 2068 (by decide +kernel) rfl
theorem kw2069 : Jvm.Cond.code ({ cls := "PlantKeeperModel", name := "readNumber", desc := "()V" } : Jvm.MethodName) prog_14_method_17_code (3 : Nat) (Option.none : Option FieldType) ∈ zk_BW := zk_inT 2069 (by decide +kernel) rfl
theorem kw2070 : Jvm.Cond.constantLong "PlantKeeperModel" (275 : Nat) (16 : Int64) ∈ zk_BW := zk_inT 2070 (by decide +kernel) rfl
theorem kw2071 : Jvm.Cond.constantLong "PlantKeeperModel" (277 : Nat) (2 : Int64) ∈ zk_BW := zk_inT 2071 (by decide +kernel) rfl
theorem kw2699 : Jvm.Cond.methodLink "PlantKeeperModel" (883 : Nat) ({ cls := "PlantKeeperModel", name := "anew", desc := "()V" } : Jvm.MethodName) ∈ zk_BW := zk_inT 2699 (by decide +kernel) rfl
theorem kw2701 : Jvm.Cond.instanceMethod ({ cls := "PlantKeeperModel", name := "anew", desc := "()V" } : Jvm.MethodName) ∈ zk_BW := zk_inT 2701 (by decide +kernel) rfl
theorem kw2702 : Jvm.Cond.code ({ cls := "PlantKeeperModel", name := "anew", desc := "()V" } : Jvm.MethodName) prog_14_method_167_code (1 : Nat) (Option.none : Option FieldType) ∈ zk_BW := zk_inT 2702 (by decide +kernel) rfl
theorem kw2703 : Jvm.Cond.methodLink "PlantKeeperModel" (886 : Nat) ({ cls := "PlantKeeperModel", name := "fillAll", desc := "()V" } : Jvm.MethodName) ∈ zk_BW := zk_inT 2703 (by decide +kernel) rfl
theorem kw2705 : Jvm.Cond.instanceMethod ({ cls := "PlantKeeperModel", name := "fillAll", desc := "()V" } : Jvm.MethodName) ∈ zk_BW := zk_inT 2705 (by decide +kernel) rfl
theorem kw2706 : Jvm.Cond.code ({ cls := "PlantKeeperModel", name := "fillAll", desc := "()V" } : Jvm.MethodName) prog_14_method_153_code (2 : Nat) (Option.none : Option FieldType) ∈ zk_BW := zk_inT 2706 (by decide +kernel) rfl
theorem kw2716 : Jvm.Cond.instanceMethod ({ cls := "PlantKeeperModel", name := "restart", desc := "()I" } : Jvm.MethodName) ∈ zk_BW := zk_inT 2716 (by decide +kernel) rfl
theorem kw2717 : Jvm.Cond.selects "PlantKeeperModel" ({ cls := "PlantKeeperModel", name := "restart", desc := "()I" } : Jvm.MethodName) ({ cls := "PlantKeeperModel", name := "restart", desc := "()I" } : Jvm.MethodName) ∈ zk_BW := zk_inT 2717 (by decide +kernel) rfl
theorem kw2718 : Jvm.Cond.code ({ cls := "PlantKeeperModel", name := "restart", desc := "()I" } : Jvm.MethodName) prog_14_method_169_code (1 : Nat) (Option.some FieldType.int) ∈ zk_BW := zk_inT 2718 (by decide +kernel) rfl
abbrev kc_Mo_anew : ByteArray := prog_14_method_167_code
def km_Mo_anew : zk_MT := (⟨"PlantKeeperModel", "anew", "()V"⟩, kc_Mo_anew, 1, none, 0)
theorem ku_Mo_anew : zk_My km_Mo_anew := ⟨kw2702, kw17, by decide, by decide, by decide, by decide +kernel⟩
theorem kv_Mo_anew : zk_Mv km_Mo_anew := ⟨kw2701, zk_inS 286 (q := (⟨"PlantKeeperModel", "anew", "()V"⟩, 96)) (by decide +kernel)⟩
abbrev kc_Mo_byteOf : ByteArray := prog_14_method_3_code
def km_Mo_byteOf : zk_MT := (⟨"PlantKeeperModel", "byteOf", "(I)I"⟩, kc_Mo_byteOf, 2, some .int, 1)
theorem ku_Mo_byteOf : zk_My km_Mo_byteOf := ⟨kw2012, kw17, by decide, by decide, by decide, by decide +kernel⟩
theorem kv_Mo_byteOf : zk_Mv km_Mo_byteOf := ⟨kw2011, zk_inS 152 (q := (⟨"PlantKeeperModel", "byteOf", "(I)I"⟩, 96)) (by decide +kernel)⟩
abbrev kc_Mo_digit : ByteArray := prog_14_method_14_code
def km_Mo_digit : zk_MT := (⟨"PlantKeeperModel", "digit", "(I)I"⟩, kc_Mo_digit, 1, some .int, 1)
theorem ku_Mo_digit : zk_My km_Mo_digit := ⟨kw2032, kw17, by decide, by decide, by decide, by decide +kernel⟩
theorem ks_Mo_digit : Cond.static km_Mo_digit.1 ∈ zk_BW := kw2031
abbrev kc_Mo_digits : ByteArray := prog_14_method_15_code
def km_Mo_digits : zk_MT := (⟨"PlantKeeperModel", "digits", "(II)J"⟩, kc_Mo_digits, 5, some .long, 2)
theorem ku_Mo_digits : zk_My km_Mo_digits := ⟨kw2028, kw17, by decide, by decide, by decide, by decide +kernel⟩
theorem kv_Mo_digits : zk_Mv km_Mo_digits := ⟨kw2027, zk_inS 156 (q := (⟨"PlantKeeperModel", "digits", "(II)J"⟩, 96)) (by decide +kernel)⟩
abbrev kc_Mo_fail : ByteArray := prog_14_method_8_code
def km_Mo_fail : zk_MT := (⟨"PlantKeeperModel", "fail", "(II)V"⟩, kc_Mo_fail, 3, none, 2)
theorem ku_Mo_fail : zk_My km_Mo_fail := ⟨kw2016, kw17, by decide, by decide, by decide, by decide +kernel⟩
theorem kv_Mo_fail : zk_Mv km_Mo_fail := ⟨kw2015, zk_inS 153 (q := (⟨"PlantKeeperModel", "fail", "(II)V"⟩, 96)) (by decide +kernel)⟩
abbrev kc_Mo_fillAll : ByteArray := prog_14_method_153_code
def km_Mo_fillAll : zk_MT := (⟨"PlantKeeperModel", "fillAll", "()V"⟩, kc_Mo_fillAll, 2, none, 0)
theorem ku_Mo_fillAll : zk_My km_Mo_fillAll := ⟨kw2706, kw17, by decide, by decide, by decide, by decide +kernel⟩
theorem kv_Mo_fillAll : zk_Mv km_Mo_fillAll := ⟨kw2705, zk_inS 287 (q := (⟨"PlantKeeperModel", "fillAll", "()V"⟩, 96)) (by decide +kernel)⟩
abbrev kc_Mo_goesOn : ByteArray := prog_14_method_7_code
def km_Mo_goesOn : zk_MT := (⟨"PlantKeeperModel", "goesOn", "(I)Z"⟩, kc_Mo_goesOn, 2, some .boolean, 1)
theorem ku_Mo_goesOn : zk_My km_Mo_goesOn := ⟨kw2047, kw17, by decide, by decide, by decide, by decide +kernel⟩
theorem kv_Mo_goesOn : zk_Mv km_Mo_goesOn := ⟨kw2046, zk_inS 158 (q := (⟨"PlantKeeperModel", "goesOn", "(I)Z"⟩, 96)) (by decide +kernel)⟩
abbrev kc_Mo_great : ByteArray := prog_14_method_4_code
def km_Mo_great : zk_MT := (⟨"PlantKeeperModel", "great", "(I)I"⟩, kc_Mo_great, 3, some .int, 1)
theorem ku_Mo_great : zk_My km_Mo_great := ⟨kw2020, kw17, by decide, by decide, by decide, by decide +kernel⟩
theorem kv_Mo_great : zk_Mv km_Mo_great := ⟨kw2019, zk_inS 154 (q := (⟨"PlantKeeperModel", "great", "(I)I"⟩, 96)) (by decide +kernel)⟩
abbrev kc_Mo_nameAt : ByteArray := prog_14_method_13_code
def km_Mo_nameAt : zk_MT := (⟨"PlantKeeperModel", "nameAt", "()I"⟩, kc_Mo_nameAt, 5, some .int, 0)
theorem ku_Mo_nameAt : zk_My km_Mo_nameAt := ⟨kw2065, kw17, by decide, by decide, by decide, by decide +kernel⟩
theorem kv_Mo_nameAt : zk_Mv km_Mo_nameAt := ⟨kw2064, zk_inS 161 (q := (⟨"PlantKeeperModel", "nameAt", "()I"⟩, 96)) (by decide +kernel)⟩
abbrev kc_Mo_readName : ByteArray := prog_14_method_11_code
def km_Mo_readName : zk_MT := (⟨"PlantKeeperModel", "readName", "()V"⟩, kc_Mo_readName, 1, none, 0)
theorem ku_Mo_readName : zk_My km_Mo_readName := ⟨kw2054, kw17, by decide, by decide, by decide, by decide +kernel⟩
theorem kv_Mo_readName : zk_Mv km_Mo_readName := ⟨kw2053, zk_inS 159 (q := (⟨"PlantKeeperModel", "readName", "()V"⟩, 96)) (by decide +kernel)⟩
abbrev kc_Mo_readNumber : ByteArray := prog_14_method_17_code
def km_Mo_readNumber : zk_MT := (⟨"PlantKeeperModel", "readNumber", "()V"⟩, kc_Mo_readNumber, 3, none, 0)
theorem ku_Mo_readNumber : zk_My km_Mo_readNumber := ⟨kw2069, kw17, by decide, by decide, by decide, by decide +kernel⟩
theorem kv_Mo_readNumber : zk_Mv km_Mo_readNumber := ⟨kw2068, zk_inS 162 (q := (⟨"PlantKeeperModel", "readNumber", "()V"⟩, 96)) (by decide +kernel)⟩
abbrev kc_Mo_readTime : ByteArray := prog_14_method_18_code
def km_Mo_readTime : zk_MT := (⟨"PlantKeeperModel", "readTime", "()V"⟩, kc_Mo_readTime, 5, none, 0)
theorem ku_Mo_readTime : zk_My km_Mo_readTime := ⟨kw2024, kw17, by decide, by decide, by decide, by decide +kernel⟩
theorem kv_Mo_readTime : zk_Mv km_Mo_readTime := ⟨kw2023, zk_inS 155 (q := (⟨"PlantKeeperModel", "readTime", "()V"⟩, 96)) (by decide +kernel)⟩
abbrev kc_Mo_restart : ByteArray := prog_14_method_169_code
def km_Mo_restart : zk_MT := (⟨"PlantKeeperModel", "restart", "()I"⟩, kc_Mo_restart, 1, some .int, 0)
theorem ku_Mo_restart : zk_My km_Mo_restart := ⟨kw2718, kw17, by decide, by decide, by decide, by decide +kernel⟩
theorem kv_Mo_restart : zk_Mv km_Mo_restart := ⟨kw2716, kw2717⟩
abbrev kc_Mo_settle : ByteArray := prog_14_method_16_code
def km_Mo_settle : zk_MT := (⟨"PlantKeeperModel", "settle", "(J)V"⟩, kc_Mo_settle, 3, none, 1)
theorem ku_Mo_settle : zk_My km_Mo_settle := ⟨kw2043, kw17, by decide, by decide, by decide, by decide +kernel⟩
theorem kv_Mo_settle : zk_Mv km_Mo_settle := ⟨kw2042, zk_inS 157 (q := (⟨"PlantKeeperModel", "settle", "(J)V"⟩, 96)) (by decide +kernel)⟩
abbrev kc_Mo_skip : ByteArray := prog_14_method_9_code
def km_Mo_skip : zk_MT := (⟨"PlantKeeperModel", "skip", "(I)I"⟩, kc_Mo_skip, 5, some .int, 1)
theorem ku_Mo_skip : zk_My km_Mo_skip := ⟨kw2008, kw17, by decide, by decide, by decide, by decide +kernel⟩
theorem kv_Mo_skip : zk_Mv km_Mo_skip := ⟨kw2007, zk_inS 151 (q := (⟨"PlantKeeperModel", "skip", "(I)I"⟩, 96)) (by decide +kernel)⟩
abbrev kc_Mo_wordAt : ByteArray := prog_14_method_12_code
def km_Mo_wordAt : zk_MT := (⟨"PlantKeeperModel", "wordAt", "()I"⟩, kc_Mo_wordAt, 5, some .int, 0)
theorem ku_Mo_wordAt : zk_My km_Mo_wordAt := ⟨kw2058, kw17, by decide, by decide, by decide, by decide +kernel⟩
theorem kv_Mo_wordAt : zk_Mv km_Mo_wordAt := ⟨kw2057, zk_inS 160 (q := (⟨"PlantKeeperModel", "wordAt", "()I"⟩, 96)) (by decide +kernel)⟩
theorem kd_Mo_anew_0 : decode kc_Mo_anew 0 = .ok (.aload_n 0, 1) := by decide +kernel
theorem kd_Mo_anew_1 : decode kc_Mo_anew 1 = .ok (.invokevirtual 886, 3) := by decide +kernel
theorem kd_Mo_anew_4 : decode kc_Mo_anew 4 = .ok (.aload_n 0, 1) := by decide +kernel
theorem kd_Mo_anew_5 : decode kc_Mo_anew 5 = .ok (.invokevirtual 889, 3) := by decide +kernel
theorem kd_Mo_anew_8 : decode kc_Mo_anew 8 = .ok (.aload_n 0, 1) := by decide +kernel
theorem kd_Mo_anew_9 : decode kc_Mo_anew 9 = .ok (.iconst 0, 1) := by decide +kernel
theorem kd_Mo_anew_10 : decode kc_Mo_anew 10 = .ok (.putfield 892, 3) := by decide +kernel
theorem kd_Mo_anew_13 : decode kc_Mo_anew 13 = .ok (.return_, 1) := by decide +kernel
theorem kd_Mo_byteOf_0 : decode kc_Mo_byteOf 0 = .ok (.iload_n 1, 1) := by decide +kernel
theorem kd_Mo_byteOf_1 : decode kc_Mo_byteOf 1 = .ok (.ifCond .lt 24, 3) := by decide +kernel
theorem kd_Mo_byteOf_4 : decode kc_Mo_byteOf 4 = .ok (.iload_n 1, 1) := by decide +kernel
theorem kd_Mo_byteOf_5 : decode kc_Mo_byteOf 5 = .ok (.aload_n 0, 1) := by decide +kernel
theorem kd_Mo_byteOf_6 : decode kc_Mo_byteOf 6 = .ok (.getfield 184, 3) := by decide +kernel
theorem kd_Mo_byteOf_9 : decode kc_Mo_byteOf 9 = .ok (.if_icmp .ge 16, 3) := by decide +kernel
theorem kd_Mo_byteOf_12 : decode kc_Mo_byteOf 12 = .ok (.aload_n 0, 1) := by decide +kernel
theorem kd_Mo_byteOf_13 : decode kc_Mo_byteOf 13 = .ok (.getfield 7, 3) := by decide +kernel
theorem kd_Mo_byteOf_16 : decode kc_Mo_byteOf 16 = .ok (.iload_n 1, 1) := by decide +kernel
theorem kd_Mo_byteOf_17 : decode kc_Mo_byteOf 17 = .ok (.baload, 1) := by decide +kernel
theorem kd_Mo_byteOf_18 : decode kc_Mo_byteOf 18 = .ok (.sipush 255, 3) := by decide +kernel
theorem kd_Mo_byteOf_21 : decode kc_Mo_byteOf 21 = .ok (.iand, 1) := by decide +kernel
theorem kd_Mo_byteOf_22 : decode kc_Mo_byteOf 22 = .ok (.goto 4, 3) := by decide +kernel
theorem kd_Mo_byteOf_25 : decode kc_Mo_byteOf 25 = .ok (.iconst (-1), 1) := by decide +kernel
theorem kd_Mo_byteOf_26 : decode kc_Mo_byteOf 26 = .ok (.ireturn, 1) := by decide +kernel
theorem kd_Mo_digit_0 : decode kc_Mo_digit 0 = .ok (.iload_n 0, 1) := by decide +kernel
theorem kd_Mo_digit_1 : decode kc_Mo_digit 1 = .ok (.invokestatic 198, 3) := by decide +kernel
theorem kd_Mo_digit_4 : decode kc_Mo_digit 4 = .ok (.ifCond .eq 10, 3) := by decide +kernel
theorem kd_Mo_digit_7 : decode kc_Mo_digit 7 = .ok (.iload_n 0, 1) := by decide +kernel
theorem kd_Mo_digit_8 : decode kc_Mo_digit 8 = .ok (.bipush 48, 2) := by decide +kernel
theorem kd_Mo_digit_10 : decode kc_Mo_digit 10 = .ok (.isub, 1) := by decide +kernel
theorem kd_Mo_digit_11 : decode kc_Mo_digit 11 = .ok (.goto 24, 3) := by decide +kernel
theorem kd_Mo_digit_14 : decode kc_Mo_digit 14 = .ok (.iload_n 0, 1) := by decide +kernel
theorem kd_Mo_digit_15 : decode kc_Mo_digit 15 = .ok (.bipush 65, 2) := by decide +kernel
theorem kd_Mo_digit_17 : decode kc_Mo_digit 17 = .ok (.if_icmp .lt 16, 3) := by decide +kernel
theorem kd_Mo_digit_20 : decode kc_Mo_digit 20 = .ok (.iload_n 0, 1) := by decide +kernel
theorem kd_Mo_digit_21 : decode kc_Mo_digit 21 = .ok (.bipush 70, 2) := by decide +kernel
theorem kd_Mo_digit_23 : decode kc_Mo_digit 23 = .ok (.if_icmp .gt 10, 3) := by decide +kernel
theorem kd_Mo_digit_26 : decode kc_Mo_digit 26 = .ok (.iload_n 0, 1) := by decide +kernel
theorem kd_Mo_digit_27 : decode kc_Mo_digit 27 = .ok (.bipush 55, 2) := by decide +kernel
theorem kd_Mo_digit_29 : decode kc_Mo_digit 29 = .ok (.isub, 1) := by decide +kernel
theorem kd_Mo_digit_30 : decode kc_Mo_digit 30 = .ok (.goto 5, 3) := by decide +kernel
theorem kd_Mo_digit_33 : decode kc_Mo_digit 33 = .ok (.bipush 99, 2) := by decide +kernel
theorem kd_Mo_digit_35 : decode kc_Mo_digit 35 = .ok (.ireturn, 1) := by decide +kernel
theorem kd_Mo_digits_0 : decode kc_Mo_digits 0 = .ok (.aload_n 0, 1) := by decide +kernel
theorem kd_Mo_digits_1 : decode kc_Mo_digits 1 = .ok (.iload_n 1, 1) := by decide +kernel
theorem kd_Mo_digits_2 : decode kc_Mo_digits 2 = .ok (.putfield 208, 3) := by decide +kernel
theorem kd_Mo_digits_5 : decode kc_Mo_digits 5 = .ok (.ldc2_w 262, 3) := by decide +kernel
theorem kd_Mo_digits_8 : decode kc_Mo_digits 8 = .ok (.lstore_n 3, 1) := by decide +kernel
theorem kd_Mo_digits_9 : decode kc_Mo_digits 9 = .ok (.aload_n 0, 1) := by decide +kernel
theorem kd_Mo_digits_10 : decode kc_Mo_digits 10 = .ok (.aload_n 0, 1) := by decide +kernel
theorem kd_Mo_digits_11 : decode kc_Mo_digits 11 = .ok (.getfield 208, 3) := by decide +kernel
theorem kd_Mo_digits_14 : decode kc_Mo_digits 14 = .ok (.invokevirtual 191, 3) := by decide +kernel
theorem kd_Mo_digits_17 : decode kc_Mo_digits 17 = .ok (.invokestatic 264, 3) := by decide +kernel
theorem kd_Mo_digits_20 : decode kc_Mo_digits 20 = .ok (.iload_n 2, 1) := by decide +kernel
theorem kd_Mo_digits_21 : decode kc_Mo_digits 21 = .ok (.if_icmp .ge 60, 3) := by decide +kernel
theorem kd_Mo_digits_24 : decode kc_Mo_digits 24 = .ok (.lload_n 3, 1) := by decide +kernel
theorem kd_Mo_digits_25 : decode kc_Mo_digits 25 = .ok (.lconst 0, 1) := by decide +kernel
theorem kd_Mo_digits_26 : decode kc_Mo_digits 26 = .ok (.lcmp, 1) := by decide +kernel
theorem kd_Mo_digits_27 : decode kc_Mo_digits 27 = .ok (.ifCond .ge 7, 3) := by decide +kernel
theorem kd_Mo_digits_30 : decode kc_Mo_digits 30 = .ok (.lconst 0, 1) := by decide +kernel
theorem kd_Mo_digits_31 : decode kc_Mo_digits 31 = .ok (.goto 4, 3) := by decide +kernel
theorem kd_Mo_digits_34 : decode kc_Mo_digits 34 = .ok (.lload_n 3, 1) := by decide +kernel
theorem kd_Mo_digits_35 : decode kc_Mo_digits 35 = .ok (.iload_n 2, 1) := by decide +kernel
theorem kd_Mo_digits_36 : decode kc_Mo_digits 36 = .ok (.i2l, 1) := by decide +kernel
theorem kd_Mo_digits_37 : decode kc_Mo_digits 37 = .ok (.lmul, 1) := by decide +kernel
theorem kd_Mo_digits_38 : decode kc_Mo_digits 38 = .ok (.aload_n 0, 1) := by decide +kernel
theorem kd_Mo_digits_39 : decode kc_Mo_digits 39 = .ok (.aload_n 0, 1) := by decide +kernel
theorem kd_Mo_digits_40 : decode kc_Mo_digits 40 = .ok (.getfield 208, 3) := by decide +kernel
theorem kd_Mo_digits_43 : decode kc_Mo_digits 43 = .ok (.invokevirtual 191, 3) := by decide +kernel
theorem kd_Mo_digits_46 : decode kc_Mo_digits 46 = .ok (.invokestatic 264, 3) := by decide +kernel
theorem kd_Mo_digits_49 : decode kc_Mo_digits 49 = .ok (.i2l, 1) := by decide +kernel
theorem kd_Mo_digits_50 : decode kc_Mo_digits 50 = .ok (.ladd, 1) := by decide +kernel
theorem kd_Mo_digits_51 : decode kc_Mo_digits 51 = .ok (.lstore_n 3, 1) := by decide +kernel
theorem kd_Mo_digits_52 : decode kc_Mo_digits 52 = .ok (.lload_n 3, 1) := by decide +kernel
theorem kd_Mo_digits_53 : decode kc_Mo_digits 53 = .ok (.ldc2_w 267, 3) := by decide +kernel
theorem kd_Mo_digits_56 : decode kc_Mo_digits 56 = .ok (.lcmp, 1) := by decide +kernel
theorem kd_Mo_digits_57 : decode kc_Mo_digits 57 = .ok (.ifCond .le 9, 3) := by decide +kernel
theorem kd_Mo_digits_60 : decode kc_Mo_digits 60 = .ok (.ldc2_w 267, 3) := by decide +kernel
theorem kd_Mo_digits_63 : decode kc_Mo_digits 63 = .ok (.goto 4, 3) := by decide +kernel
theorem kd_Mo_digits_66 : decode kc_Mo_digits 66 = .ok (.lload_n 3, 1) := by decide +kernel
theorem kd_Mo_digits_67 : decode kc_Mo_digits 67 = .ok (.lstore_n 3, 1) := by decide +kernel
theorem kd_Mo_digits_68 : decode kc_Mo_digits 68 = .ok (.aload_n 0, 1) := by decide +kernel
theorem kd_Mo_digits_69 : decode kc_Mo_digits 69 = .ok (.dup, 1) := by decide +kernel
theorem kd_Mo_digits_70 : decode kc_Mo_digits 70 = .ok (.getfield 208, 3) := by decide +kernel
theorem kd_Mo_digits_73 : decode kc_Mo_digits 73 = .ok (.iconst 1, 1) := by decide +kernel
theorem kd_Mo_digits_74 : decode kc_Mo_digits 74 = .ok (.iadd, 1) := by decide +kernel
theorem kd_Mo_digits_75 : decode kc_Mo_digits 75 = .ok (.putfield 208, 3) := by decide +kernel
theorem kd_Mo_digits_78 : decode kc_Mo_digits 78 = .ok (.goto (-69), 3) := by decide +kernel
theorem kd_Mo_digits_81 : decode kc_Mo_digits 81 = .ok (.lload_n 3, 1) := by decide +kernel
theorem kd_Mo_digits_82 : decode kc_Mo_digits 82 = .ok (.lreturn, 1) := by decide +kernel
theorem kd_Mo_fail_0 : decode kc_Mo_fail 0 = .ok (.aload_n 0, 1) := by decide +kernel
theorem kd_Mo_fail_1 : decode kc_Mo_fail 1 = .ok (.getfield 201, 3) := by decide +kernel
theorem kd_Mo_fail_4 : decode kc_Mo_fail 4 = .ok (.ifCond .ne 13, 3) := by decide +kernel
theorem kd_Mo_fail_7 : decode kc_Mo_fail 7 = .ok (.aload_n 0, 1) := by decide +kernel
theorem kd_Mo_fail_8 : decode kc_Mo_fail 8 = .ok (.iload_n 1, 1) := by decide +kernel
theorem kd_Mo_fail_9 : decode kc_Mo_fail 9 = .ok (.putfield 201, 3) := by decide +kernel
theorem kd_Mo_fail_12 : decode kc_Mo_fail 12 = .ok (.aload_n 0, 1) := by decide +kernel
theorem kd_Mo_fail_13 : decode kc_Mo_fail 13 = .ok (.iload_n 2, 1) := by decide +kernel
theorem kd_Mo_fail_14 : decode kc_Mo_fail 14 = .ok (.putfield 178, 3) := by decide +kernel
theorem kd_Mo_fail_17 : decode kc_Mo_fail 17 = .ok (.return_, 1) := by decide +kernel
theorem kd_Mo_fillAll_0 : decode kc_Mo_fillAll 0 = .ok (.iconst 0, 1) := by decide +kernel
theorem kd_Mo_fillAll_1 : decode kc_Mo_fillAll 1 = .ok (.istore_n 1, 1) := by decide +kernel
theorem kd_Mo_fillAll_2 : decode kc_Mo_fillAll 2 = .ok (.iload_n 1, 1) := by decide +kernel
theorem kd_Mo_fillAll_3 : decode kc_Mo_fillAll 3 = .ok (.sipush 8192, 3) := by decide +kernel
theorem kd_Mo_fillAll_6 : decode kc_Mo_fillAll 6 = .ok (.if_icmp .ge 16, 3) := by decide +kernel
theorem kd_Mo_fillAll_9 : decode kc_Mo_fillAll 9 = .ok (.aload_n 0, 1) := by decide +kernel
theorem kd_Mo_fillAll_10 : decode kc_Mo_fillAll 10 = .ok (.getfield 150, 3) := by decide +kernel
theorem kd_Mo_fillAll_13 : decode kc_Mo_fillAll 13 = .ok (.iload_n 1, 1) := by decide +kernel
theorem kd_Mo_fillAll_14 : decode kc_Mo_fillAll 14 = .ok (.iconst 0, 1) := by decide +kernel
theorem kd_Mo_fillAll_15 : decode kc_Mo_fillAll 15 = .ok (.iastore, 1) := by decide +kernel
theorem kd_Mo_fillAll_16 : decode kc_Mo_fillAll 16 = .ok (.iinc 1 1, 3) := by decide +kernel
theorem kd_Mo_fillAll_19 : decode kc_Mo_fillAll 19 = .ok (.goto (-17), 3) := by decide +kernel
theorem kd_Mo_fillAll_22 : decode kc_Mo_fillAll 22 = .ok (.iconst 0, 1) := by decide +kernel
theorem kd_Mo_fillAll_23 : decode kc_Mo_fillAll 23 = .ok (.istore_n 1, 1) := by decide +kernel
theorem kd_Mo_fillAll_24 : decode kc_Mo_fillAll 24 = .ok (.iload_n 1, 1) := by decide +kernel
theorem kd_Mo_fillAll_25 : decode kc_Mo_fillAll 25 = .ok (.aload_n 0, 1) := by decide +kernel
theorem kd_Mo_fillAll_26 : decode kc_Mo_fillAll 26 = .ok (.getfield 462, 3) := by decide +kernel
theorem kd_Mo_fillAll_29 : decode kc_Mo_fillAll 29 = .ok (.if_icmp .ge 30, 3) := by decide +kernel
theorem kd_Mo_fillAll_32 : decode kc_Mo_fillAll 32 = .ok (.aload_n 0, 1) := by decide +kernel
theorem kd_Mo_fillAll_33 : decode kc_Mo_fillAll 33 = .ok (.getfield 64, 3) := by decide +kernel
theorem kd_Mo_fillAll_36 : decode kc_Mo_fillAll 36 = .ok (.iload_n 1, 1) := by decide +kernel
theorem kd_Mo_fillAll_37 : decode kc_Mo_fillAll 37 = .ok (.iaload, 1) := by decide +kernel
theorem kd_Mo_fillAll_38 : decode kc_Mo_fillAll 38 = .ok (.iconst 2, 1) := by decide +kernel
theorem kd_Mo_fillAll_39 : decode kc_Mo_fillAll 39 = .ok (.if_icmp .eq 14, 3) := by decide +kernel
theorem kd_Mo_fillAll_42 : decode kc_Mo_fillAll 42 = .ok (.aload_n 0, 1) := by decide +kernel
theorem kd_Mo_fillAll_43 : decode kc_Mo_fillAll 43 = .ok (.iload_n 1, 1) := by decide +kernel
theorem kd_Mo_fillAll_44 : decode kc_Mo_fillAll 44 = .ok (.aload_n 0, 1) := by decide +kernel
theorem kd_Mo_fillAll_45 : decode kc_Mo_fillAll 45 = .ok (.getfield 73, 3) := by decide +kernel
theorem kd_Mo_fillAll_48 : decode kc_Mo_fillAll 48 = .ok (.iload_n 1, 1) := by decide +kernel
theorem kd_Mo_fillAll_49 : decode kc_Mo_fillAll 49 = .ok (.iaload, 1) := by decide +kernel
theorem kd_Mo_fillAll_50 : decode kc_Mo_fillAll 50 = .ok (.invokevirtual 808, 3) := by decide +kernel
theorem kd_Mo_fillAll_53 : decode kc_Mo_fillAll 53 = .ok (.iinc 1 1, 3) := by decide +kernel
theorem kd_Mo_fillAll_56 : decode kc_Mo_fillAll 56 = .ok (.goto (-32), 3) := by decide +kernel
theorem kd_Mo_fillAll_59 : decode kc_Mo_fillAll 59 = .ok (.return_, 1) := by decide +kernel
theorem kd_Mo_goesOn_0 : decode kc_Mo_goesOn 0 = .ok (.aload_n 0, 1) := by decide +kernel
theorem kd_Mo_goesOn_1 : decode kc_Mo_goesOn 1 = .ok (.iload_n 1, 1) := by decide +kernel
theorem kd_Mo_goesOn_2 : decode kc_Mo_goesOn 2 = .ok (.invokevirtual 191, 3) := by decide +kernel
theorem kd_Mo_goesOn_5 : decode kc_Mo_goesOn 5 = .ok (.invokestatic 194, 3) := by decide +kernel
theorem kd_Mo_goesOn_8 : decode kc_Mo_goesOn 8 = .ok (.ifCond .ne 14, 3) := by decide +kernel
theorem kd_Mo_goesOn_11 : decode kc_Mo_goesOn 11 = .ok (.aload_n 0, 1) := by decide +kernel
theorem kd_Mo_goesOn_12 : decode kc_Mo_goesOn 12 = .ok (.iload_n 1, 1) := by decide +kernel
theorem kd_Mo_goesOn_13 : decode kc_Mo_goesOn 13 = .ok (.invokevirtual 187, 3) := by decide +kernel
theorem kd_Mo_goesOn_16 : decode kc_Mo_goesOn 16 = .ok (.invokestatic 198, 3) := by decide +kernel
theorem kd_Mo_goesOn_19 : decode kc_Mo_goesOn 19 = .ok (.ifCond .eq 7, 3) := by decide +kernel
theorem kd_Mo_goesOn_22 : decode kc_Mo_goesOn 22 = .ok (.iconst 1, 1) := by decide +kernel
theorem kd_Mo_goesOn_23 : decode kc_Mo_goesOn 23 = .ok (.goto 4, 3) := by decide +kernel
theorem kd_Mo_goesOn_26 : decode kc_Mo_goesOn 26 = .ok (.iconst 0, 1) := by decide +kernel
theorem kd_Mo_goesOn_27 : decode kc_Mo_goesOn 27 = .ok (.ireturn, 1) := by decide +kernel
theorem kd_Mo_great_0 : decode kc_Mo_great 0 = .ok (.aload_n 0, 1) := by decide +kernel
theorem kd_Mo_great_1 : decode kc_Mo_great 1 = .ok (.iload_n 1, 1) := by decide +kernel
theorem kd_Mo_great_2 : decode kc_Mo_great 2 = .ok (.invokevirtual 187, 3) := by decide +kernel
theorem kd_Mo_great_5 : decode kc_Mo_great 5 = .ok (.istore_n 2, 1) := by decide +kernel
theorem kd_Mo_great_6 : decode kc_Mo_great 6 = .ok (.iload_n 2, 1) := by decide +kernel
theorem kd_Mo_great_7 : decode kc_Mo_great 7 = .ok (.bipush 97, 2) := by decide +kernel
theorem kd_Mo_great_9 : decode kc_Mo_great 9 = .ok (.if_icmp .lt 16, 3) := by decide +kernel
theorem kd_Mo_great_12 : decode kc_Mo_great 12 = .ok (.iload_n 2, 1) := by decide +kernel
theorem kd_Mo_great_13 : decode kc_Mo_great 13 = .ok (.bipush 122, 2) := by decide +kernel
theorem kd_Mo_great_15 : decode kc_Mo_great 15 = .ok (.if_icmp .gt 10, 3) := by decide +kernel
theorem kd_Mo_great_18 : decode kc_Mo_great 18 = .ok (.iload_n 2, 1) := by decide +kernel
theorem kd_Mo_great_19 : decode kc_Mo_great 19 = .ok (.bipush 32, 2) := by decide +kernel
theorem kd_Mo_great_21 : decode kc_Mo_great 21 = .ok (.isub, 1) := by decide +kernel
theorem kd_Mo_great_22 : decode kc_Mo_great 22 = .ok (.goto 4, 3) := by decide +kernel
theorem kd_Mo_great_25 : decode kc_Mo_great 25 = .ok (.iload_n 2, 1) := by decide +kernel
theorem kd_Mo_great_26 : decode kc_Mo_great 26 = .ok (.ireturn, 1) := by decide +kernel
theorem kd_Mo_nameAt_0 : decode kc_Mo_nameAt 0 = .ok (.aload_n 0, 1) := by decide +kernel
theorem kd_Mo_nameAt_1 : decode kc_Mo_nameAt 1 = .ok (.getfield 208, 3) := by decide +kernel
theorem kd_Mo_nameAt_4 : decode kc_Mo_nameAt 4 = .ok (.aload_n 0, 1) := by decide +kernel
theorem kd_Mo_nameAt_5 : decode kc_Mo_nameAt 5 = .ok (.getfield 214, 3) := by decide +kernel
theorem kd_Mo_nameAt_8 : decode kc_Mo_nameAt 8 = .ok (.isub, 1) := by decide +kernel
theorem kd_Mo_nameAt_9 : decode kc_Mo_nameAt 9 = .ok (.istore_n 1, 1) := by decide +kernel
theorem kd_Mo_nameAt_10 : decode kc_Mo_nameAt 10 = .ok (.iconst 0, 1) := by decide +kernel
theorem kd_Mo_nameAt_11 : decode kc_Mo_nameAt 11 = .ok (.istore_n 2, 1) := by decide +kernel
theorem kd_Mo_nameAt_12 : decode kc_Mo_nameAt 12 = .ok (.iload_n 2, 1) := by decide +kernel
theorem kd_Mo_nameAt_13 : decode kc_Mo_nameAt 13 = .ok (.aload_n 0, 1) := by decide +kernel
theorem kd_Mo_nameAt_14 : decode kc_Mo_nameAt 14 = .ok (.getfield 259, 3) := by decide +kernel
theorem kd_Mo_nameAt_17 : decode kc_Mo_nameAt 17 = .ok (.if_icmp .ge 82, 3) := by decide +kernel
theorem kd_Mo_nameAt_20 : decode kc_Mo_nameAt 20 = .ok (.aload_n 0, 1) := by decide +kernel
theorem kd_Mo_nameAt_21 : decode kc_Mo_nameAt 21 = .ok (.getfield 17, 3) := by decide +kernel
theorem kd_Mo_nameAt_24 : decode kc_Mo_nameAt 24 = .ok (.iload_n 2, 1) := by decide +kernel
theorem kd_Mo_nameAt_25 : decode kc_Mo_nameAt 25 = .ok (.iaload, 1) := by decide +kernel
theorem kd_Mo_nameAt_26 : decode kc_Mo_nameAt 26 = .ok (.iload_n 1, 1) := by decide +kernel
theorem kd_Mo_nameAt_27 : decode kc_Mo_nameAt 27 = .ok (.if_icmp .ne 7, 3) := by decide +kernel
theorem kd_Mo_nameAt_30 : decode kc_Mo_nameAt 30 = .ok (.iconst 1, 1) := by decide +kernel
theorem kd_Mo_nameAt_31 : decode kc_Mo_nameAt 31 = .ok (.goto 4, 3) := by decide +kernel
theorem kd_Mo_nameAt_34 : decode kc_Mo_nameAt 34 = .ok (.iconst 0, 1) := by decide +kernel
theorem kd_Mo_nameAt_35 : decode kc_Mo_nameAt 35 = .ok (.istore_n 3, 1) := by decide +kernel
theorem kd_Mo_nameAt_36 : decode kc_Mo_nameAt 36 = .ok (.iconst 0, 1) := by decide +kernel
theorem kd_Mo_nameAt_37 : decode kc_Mo_nameAt 37 = .ok (.istore 4, 2) := by decide +kernel
theorem kd_Mo_nameAt_39 : decode kc_Mo_nameAt 39 = .ok (.iload 4, 2) := by decide +kernel
theorem kd_Mo_nameAt_41 : decode kc_Mo_nameAt 41 = .ok (.iload_n 1, 1) := by decide +kernel
theorem kd_Mo_nameAt_42 : decode kc_Mo_nameAt 42 = .ok (.if_icmp .ge 45, 3) := by decide +kernel
theorem kd_Mo_nameAt_45 : decode kc_Mo_nameAt 45 = .ok (.iload_n 3, 1) := by decide +kernel
theorem kd_Mo_nameAt_46 : decode kc_Mo_nameAt 46 = .ok (.ifCond .eq 41, 3) := by decide +kernel
theorem kd_Mo_nameAt_49 : decode kc_Mo_nameAt 49 = .ok (.aload_n 0, 1) := by decide +kernel
theorem kd_Mo_nameAt_50 : decode kc_Mo_nameAt 50 = .ok (.getfield 14, 3) := by decide +kernel
theorem kd_Mo_nameAt_53 : decode kc_Mo_nameAt 53 = .ok (.bipush 32, 2) := by decide +kernel
theorem kd_Mo_nameAt_55 : decode kc_Mo_nameAt 55 = .ok (.iload_n 2, 1) := by decide +kernel
theorem kd_Mo_nameAt_56 : decode kc_Mo_nameAt 56 = .ok (.imul, 1) := by decide +kernel
theorem kd_Mo_nameAt_57 : decode kc_Mo_nameAt 57 = .ok (.iload 4, 2) := by decide +kernel
theorem kd_Mo_nameAt_59 : decode kc_Mo_nameAt 59 = .ok (.iadd, 1) := by decide +kernel
theorem kd_Mo_nameAt_60 : decode kc_Mo_nameAt 60 = .ok (.baload, 1) := by decide +kernel
theorem kd_Mo_nameAt_61 : decode kc_Mo_nameAt 61 = .ok (.aload_n 0, 1) := by decide +kernel
theorem kd_Mo_nameAt_62 : decode kc_Mo_nameAt 62 = .ok (.aload_n 0, 1) := by decide +kernel
theorem kd_Mo_nameAt_63 : decode kc_Mo_nameAt 63 = .ok (.getfield 214, 3) := by decide +kernel
theorem kd_Mo_nameAt_66 : decode kc_Mo_nameAt 66 = .ok (.iload 4, 2) := by decide +kernel
theorem kd_Mo_nameAt_68 : decode kc_Mo_nameAt 68 = .ok (.iadd, 1) := by decide +kernel
theorem kd_Mo_nameAt_69 : decode kc_Mo_nameAt 69 = .ok (.invokevirtual 191, 3) := by decide +kernel
theorem kd_Mo_nameAt_72 : decode kc_Mo_nameAt 72 = .ok (.if_icmp .ne 7, 3) := by decide +kernel
theorem kd_Mo_nameAt_75 : decode kc_Mo_nameAt 75 = .ok (.iconst 1, 1) := by decide +kernel
theorem kd_Mo_nameAt_76 : decode kc_Mo_nameAt 76 = .ok (.goto 4, 3) := by decide +kernel
theorem kd_Mo_nameAt_79 : decode kc_Mo_nameAt 79 = .ok (.iconst 0, 1) := by decide +kernel
theorem kd_Mo_nameAt_80 : decode kc_Mo_nameAt 80 = .ok (.istore_n 3, 1) := by decide +kernel
theorem kd_Mo_nameAt_81 : decode kc_Mo_nameAt 81 = .ok (.iinc 4 1, 3) := by decide +kernel
theorem kd_Mo_nameAt_84 : decode kc_Mo_nameAt 84 = .ok (.goto (-45), 3) := by decide +kernel
theorem kd_Mo_nameAt_87 : decode kc_Mo_nameAt 87 = .ok (.iload_n 3, 1) := by decide +kernel
theorem kd_Mo_nameAt_88 : decode kc_Mo_nameAt 88 = .ok (.ifCond .eq 5, 3) := by decide +kernel
theorem kd_Mo_nameAt_91 : decode kc_Mo_nameAt 91 = .ok (.iload_n 2, 1) := by decide +kernel
theorem kd_Mo_nameAt_92 : decode kc_Mo_nameAt 92 = .ok (.ireturn, 1) := by decide +kernel
theorem kd_Mo_nameAt_93 : decode kc_Mo_nameAt 93 = .ok (.iinc 2 1, 3) := by decide +kernel
theorem kd_Mo_nameAt_96 : decode kc_Mo_nameAt 96 = .ok (.goto (-84), 3) := by decide +kernel
theorem kd_Mo_nameAt_99 : decode kc_Mo_nameAt 99 = .ok (.aload_n 0, 1) := by decide +kernel
theorem kd_Mo_nameAt_100 : decode kc_Mo_nameAt 100 = .ok (.getfield 17, 3) := by decide +kernel
theorem kd_Mo_nameAt_103 : decode kc_Mo_nameAt 103 = .ok (.aload_n 0, 1) := by decide +kernel
theorem kd_Mo_nameAt_104 : decode kc_Mo_nameAt 104 = .ok (.getfield 259, 3) := by decide +kernel
theorem kd_Mo_nameAt_107 : decode kc_Mo_nameAt 107 = .ok (.iload_n 1, 1) := by decide +kernel
theorem kd_Mo_nameAt_108 : decode kc_Mo_nameAt 108 = .ok (.iastore, 1) := by decide +kernel
theorem kd_Mo_nameAt_109 : decode kc_Mo_nameAt 109 = .ok (.iconst 0, 1) := by decide +kernel
theorem kd_Mo_nameAt_110 : decode kc_Mo_nameAt 110 = .ok (.istore_n 2, 1) := by decide +kernel
theorem kd_Mo_nameAt_111 : decode kc_Mo_nameAt 111 = .ok (.iload_n 2, 1) := by decide +kernel
theorem kd_Mo_nameAt_112 : decode kc_Mo_nameAt 112 = .ok (.iload_n 1, 1) := by decide +kernel
theorem kd_Mo_nameAt_113 : decode kc_Mo_nameAt 113 = .ok (.if_icmp .ge 34, 3) := by decide +kernel
theorem kd_Mo_nameAt_116 : decode kc_Mo_nameAt 116 = .ok (.aload_n 0, 1) := by decide +kernel
theorem kd_Mo_nameAt_117 : decode kc_Mo_nameAt 117 = .ok (.getfield 14, 3) := by decide +kernel
theorem kd_Mo_nameAt_120 : decode kc_Mo_nameAt 120 = .ok (.bipush 32, 2) := by decide +kernel
theorem kd_Mo_nameAt_122 : decode kc_Mo_nameAt 122 = .ok (.aload_n 0, 1) := by decide +kernel
theorem kd_Mo_nameAt_123 : decode kc_Mo_nameAt 123 = .ok (.getfield 259, 3) := by decide +kernel
theorem kd_Mo_nameAt_126 : decode kc_Mo_nameAt 126 = .ok (.imul, 1) := by decide +kernel
theorem kd_Mo_nameAt_127 : decode kc_Mo_nameAt 127 = .ok (.iload_n 2, 1) := by decide +kernel
theorem kd_Mo_nameAt_128 : decode kc_Mo_nameAt 128 = .ok (.iadd, 1) := by decide +kernel
theorem kd_Mo_nameAt_129 : decode kc_Mo_nameAt 129 = .ok (.aload_n 0, 1) := by decide +kernel
theorem kd_Mo_nameAt_130 : decode kc_Mo_nameAt 130 = .ok (.aload_n 0, 1) := by decide +kernel
theorem kd_Mo_nameAt_131 : decode kc_Mo_nameAt 131 = .ok (.getfield 214, 3) := by decide +kernel
theorem kd_Mo_nameAt_134 : decode kc_Mo_nameAt 134 = .ok (.iload_n 2, 1) := by decide +kernel
theorem kd_Mo_nameAt_135 : decode kc_Mo_nameAt 135 = .ok (.iadd, 1) := by decide +kernel
theorem kd_Mo_nameAt_136 : decode kc_Mo_nameAt 136 = .ok (.invokevirtual 191, 3) := by decide +kernel
theorem kd_Mo_nameAt_139 : decode kc_Mo_nameAt 139 = .ok (.i2b, 1) := by decide +kernel
theorem kd_Mo_nameAt_140 : decode kc_Mo_nameAt 140 = .ok (.bastore, 1) := by decide +kernel
theorem kd_Mo_nameAt_141 : decode kc_Mo_nameAt 141 = .ok (.iinc 2 1, 3) := by decide +kernel
theorem kd_Mo_nameAt_144 : decode kc_Mo_nameAt 144 = .ok (.goto (-33), 3) := by decide +kernel
theorem kd_Mo_nameAt_147 : decode kc_Mo_nameAt 147 = .ok (.aload_n 0, 1) := by decide +kernel
theorem kd_Mo_nameAt_148 : decode kc_Mo_nameAt 148 = .ok (.dup, 1) := by decide +kernel
theorem kd_Mo_nameAt_149 : decode kc_Mo_nameAt 149 = .ok (.getfield 259, 3) := by decide +kernel
theorem kd_Mo_nameAt_152 : decode kc_Mo_nameAt 152 = .ok (.iconst 1, 1) := by decide +kernel
theorem kd_Mo_nameAt_153 : decode kc_Mo_nameAt 153 = .ok (.iadd, 1) := by decide +kernel
theorem kd_Mo_nameAt_154 : decode kc_Mo_nameAt 154 = .ok (.putfield 259, 3) := by decide +kernel
theorem kd_Mo_nameAt_157 : decode kc_Mo_nameAt 157 = .ok (.aload_n 0, 1) := by decide +kernel
theorem kd_Mo_nameAt_158 : decode kc_Mo_nameAt 158 = .ok (.getfield 259, 3) := by decide +kernel
theorem kd_Mo_nameAt_161 : decode kc_Mo_nameAt 161 = .ok (.iconst 1, 1) := by decide +kernel
theorem kd_Mo_nameAt_162 : decode kc_Mo_nameAt 162 = .ok (.isub, 1) := by decide +kernel
theorem kd_Mo_nameAt_163 : decode kc_Mo_nameAt 163 = .ok (.ireturn, 1) := by decide +kernel
theorem kd_Mo_readName_0 : decode kc_Mo_readName 0 = .ok (.aload_n 0, 1) := by decide +kernel
theorem kd_Mo_readName_1 : decode kc_Mo_readName 1 = .ok (.aload_n 0, 1) := by decide +kernel
theorem kd_Mo_readName_2 : decode kc_Mo_readName 2 = .ok (.getfield 214, 3) := by decide +kernel
theorem kd_Mo_readName_5 : decode kc_Mo_readName 5 = .ok (.putfield 208, 3) := by decide +kernel
theorem kd_Mo_readName_8 : decode kc_Mo_readName 8 = .ok (.aload_n 0, 1) := by decide +kernel
theorem kd_Mo_readName_9 : decode kc_Mo_readName 9 = .ok (.aload_n 0, 1) := by decide +kernel
theorem kd_Mo_readName_10 : decode kc_Mo_readName 10 = .ok (.getfield 208, 3) := by decide +kernel
theorem kd_Mo_readName_13 : decode kc_Mo_readName 13 = .ok (.invokevirtual 235, 3) := by decide +kernel
theorem kd_Mo_readName_16 : decode kc_Mo_readName 16 = .ok (.ifCond .eq 16, 3) := by decide +kernel
theorem kd_Mo_readName_19 : decode kc_Mo_readName 19 = .ok (.aload_n 0, 1) := by decide +kernel
theorem kd_Mo_readName_20 : decode kc_Mo_readName 20 = .ok (.dup, 1) := by decide +kernel
theorem kd_Mo_readName_21 : decode kc_Mo_readName 21 = .ok (.getfield 208, 3) := by decide +kernel
theorem kd_Mo_readName_24 : decode kc_Mo_readName 24 = .ok (.iconst 1, 1) := by decide +kernel
theorem kd_Mo_readName_25 : decode kc_Mo_readName 25 = .ok (.iadd, 1) := by decide +kernel
theorem kd_Mo_readName_26 : decode kc_Mo_readName 26 = .ok (.putfield 208, 3) := by decide +kernel
theorem kd_Mo_readName_29 : decode kc_Mo_readName 29 = .ok (.goto (-21), 3) := by decide +kernel
theorem kd_Mo_readName_32 : decode kc_Mo_readName 32 = .ok (.aload_n 0, 1) := by decide +kernel
theorem kd_Mo_readName_33 : decode kc_Mo_readName 33 = .ok (.getfield 208, 3) := by decide +kernel
theorem kd_Mo_readName_36 : decode kc_Mo_readName 36 = .ok (.aload_n 0, 1) := by decide +kernel
theorem kd_Mo_readName_37 : decode kc_Mo_readName 37 = .ok (.getfield 214, 3) := by decide +kernel
theorem kd_Mo_readName_40 : decode kc_Mo_readName 40 = .ok (.isub, 1) := by decide +kernel
theorem kd_Mo_readName_41 : decode kc_Mo_readName 41 = .ok (.bipush 32, 2) := by decide +kernel
theorem kd_Mo_readName_43 : decode kc_Mo_readName 43 = .ok (.if_icmp .le 15, 3) := by decide +kernel
theorem kd_Mo_readName_46 : decode kc_Mo_readName 46 = .ok (.aload_n 0, 1) := by decide +kernel
theorem kd_Mo_readName_47 : decode kc_Mo_readName 47 = .ok (.iconst 3, 1) := by decide +kernel
theorem kd_Mo_readName_48 : decode kc_Mo_readName 48 = .ok (.aload_n 0, 1) := by decide +kernel
theorem kd_Mo_readName_49 : decode kc_Mo_readName 49 = .ok (.getfield 214, 3) := by decide +kernel
theorem kd_Mo_readName_52 : decode kc_Mo_readName 52 = .ok (.invokevirtual 204, 3) := by decide +kernel
theorem kd_Mo_readName_55 : decode kc_Mo_readName 55 = .ok (.goto 49, 3) := by decide +kernel
theorem kd_Mo_readName_58 : decode kc_Mo_readName 58 = .ok (.aload_n 0, 1) := by decide +kernel
theorem kd_Mo_readName_59 : decode kc_Mo_readName 59 = .ok (.aload_n 0, 1) := by decide +kernel
theorem kd_Mo_readName_60 : decode kc_Mo_readName 60 = .ok (.invokevirtual 238, 3) := by decide +kernel
theorem kd_Mo_readName_63 : decode kc_Mo_readName 63 = .ok (.putfield 242, 3) := by decide +kernel
theorem kd_Mo_readName_66 : decode kc_Mo_readName 66 = .ok (.aload_n 0, 1) := by decide +kernel
theorem kd_Mo_readName_67 : decode kc_Mo_readName 67 = .ok (.aload_n 0, 1) := by decide +kernel
theorem kd_Mo_readName_68 : decode kc_Mo_readName 68 = .ok (.getfield 242, 3) := by decide +kernel
theorem kd_Mo_readName_71 : decode kc_Mo_readName 71 = .ok (.ifCond .ge 7, 3) := by decide +kernel
theorem kd_Mo_readName_74 : decode kc_Mo_readName 74 = .ok (.iconst 1, 1) := by decide +kernel
theorem kd_Mo_readName_75 : decode kc_Mo_readName 75 = .ok (.goto 4, 3) := by decide +kernel
theorem kd_Mo_readName_78 : decode kc_Mo_readName 78 = .ok (.iconst 2, 1) := by decide +kernel
theorem kd_Mo_readName_79 : decode kc_Mo_readName 79 = .ok (.putfield 217, 3) := by decide +kernel
theorem kd_Mo_readName_82 : decode kc_Mo_readName 82 = .ok (.aload_n 0, 1) := by decide +kernel
theorem kd_Mo_readName_83 : decode kc_Mo_readName 83 = .ok (.aload_n 0, 1) := by decide +kernel
theorem kd_Mo_readName_84 : decode kc_Mo_readName 84 = .ok (.getfield 242, 3) := by decide +kernel
theorem kd_Mo_readName_87 : decode kc_Mo_readName 87 = .ok (.ifCond .ge 10, 3) := by decide +kernel
theorem kd_Mo_readName_90 : decode kc_Mo_readName 90 = .ok (.aload_n 0, 1) := by decide +kernel
theorem kd_Mo_readName_91 : decode kc_Mo_readName 91 = .ok (.invokevirtual 245, 3) := by decide +kernel
theorem kd_Mo_readName_94 : decode kc_Mo_readName 94 = .ok (.goto 7, 3) := by decide +kernel
theorem kd_Mo_readName_97 : decode kc_Mo_readName 97 = .ok (.aload_n 0, 1) := by decide +kernel
theorem kd_Mo_readName_98 : decode kc_Mo_readName 98 = .ok (.getfield 242, 3) := by decide +kernel
theorem kd_Mo_readName_101 : decode kc_Mo_readName 101 = .ok (.putfield 242, 3) := by decide +kernel
theorem kd_Mo_readName_104 : decode kc_Mo_readName 104 = .ok (.return_, 1) := by decide +kernel
theorem kd_Mo_readNumber_0 : decode kc_Mo_readNumber 0 = .ok (.aload_n 0, 1) := by decide +kernel
theorem kd_Mo_readNumber_1 : decode kc_Mo_readNumber 1 = .ok (.aload_n 0, 1) := by decide +kernel
theorem kd_Mo_readNumber_2 : decode kc_Mo_readNumber 2 = .ok (.getfield 214, 3) := by decide +kernel
theorem kd_Mo_readNumber_5 : decode kc_Mo_readNumber 5 = .ok (.bipush 10, 2) := by decide +kernel
theorem kd_Mo_readNumber_7 : decode kc_Mo_readNumber 7 = .ok (.invokevirtual 271, 3) := by decide +kernel
theorem kd_Mo_readNumber_10 : decode kc_Mo_readNumber 10 = .ok (.lstore_n 1, 1) := by decide +kernel
theorem kd_Mo_readNumber_11 : decode kc_Mo_readNumber 11 = .ok (.aload_n 0, 1) := by decide +kernel
theorem kd_Mo_readNumber_12 : decode kc_Mo_readNumber 12 = .ok (.aload_n 0, 1) := by decide +kernel
theorem kd_Mo_readNumber_13 : decode kc_Mo_readNumber 13 = .ok (.getfield 208, 3) := by decide +kernel
theorem kd_Mo_readNumber_16 : decode kc_Mo_readNumber 16 = .ok (.invokevirtual 187, 3) := by decide +kernel
theorem kd_Mo_readNumber_19 : decode kc_Mo_readNumber 19 = .ok (.bipush 35, 2) := by decide +kernel
theorem kd_Mo_readNumber_21 : decode kc_Mo_readNumber 21 = .ok (.if_icmp .ne 38, 3) := by decide +kernel
theorem kd_Mo_readNumber_24 : decode kc_Mo_readNumber 24 = .ok (.lload_n 1, 1) := by decide +kernel
theorem kd_Mo_readNumber_25 : decode kc_Mo_readNumber 25 = .ok (.ldc2_w 275, 3) := by decide +kernel
theorem kd_Mo_readNumber_28 : decode kc_Mo_readNumber 28 = .ok (.lcmp, 1) := by decide +kernel
theorem kd_Mo_readNumber_29 : decode kc_Mo_readNumber 29 = .ok (.ifCond .eq 11, 3) := by decide +kernel
theorem kd_Mo_readNumber_32 : decode kc_Mo_readNumber 32 = .ok (.lload_n 1, 1) := by decide +kernel
theorem kd_Mo_readNumber_33 : decode kc_Mo_readNumber 33 = .ok (.ldc2_w 277, 3) := by decide +kernel
theorem kd_Mo_readNumber_36 : decode kc_Mo_readNumber 36 = .ok (.lcmp, 1) := by decide +kernel
theorem kd_Mo_readNumber_37 : decode kc_Mo_readNumber 37 = .ok (.ifCond .ne 18, 3) := by decide +kernel
theorem kd_Mo_readNumber_40 : decode kc_Mo_readNumber 40 = .ok (.aload_n 0, 1) := by decide +kernel
theorem kd_Mo_readNumber_41 : decode kc_Mo_readNumber 41 = .ok (.aload_n 0, 1) := by decide +kernel
theorem kd_Mo_readNumber_42 : decode kc_Mo_readNumber 42 = .ok (.getfield 208, 3) := by decide +kernel
theorem kd_Mo_readNumber_45 : decode kc_Mo_readNumber 45 = .ok (.iconst 1, 1) := by decide +kernel
theorem kd_Mo_readNumber_46 : decode kc_Mo_readNumber 46 = .ok (.iadd, 1) := by decide +kernel
theorem kd_Mo_readNumber_47 : decode kc_Mo_readNumber 47 = .ok (.lload_n 1, 1) := by decide +kernel
theorem kd_Mo_readNumber_48 : decode kc_Mo_readNumber 48 = .ok (.l2i, 1) := by decide +kernel
theorem kd_Mo_readNumber_49 : decode kc_Mo_readNumber 49 = .ok (.invokevirtual 271, 3) := by decide +kernel
theorem kd_Mo_readNumber_52 : decode kc_Mo_readNumber 52 = .ok (.goto 6, 3) := by decide +kernel
theorem kd_Mo_readNumber_55 : decode kc_Mo_readNumber 55 = .ok (.ldc2_w 262, 3) := by decide +kernel
theorem kd_Mo_readNumber_58 : decode kc_Mo_readNumber 58 = .ok (.lstore_n 1, 1) := by decide +kernel
theorem kd_Mo_readNumber_59 : decode kc_Mo_readNumber 59 = .ok (.aload_n 0, 1) := by decide +kernel
theorem kd_Mo_readNumber_60 : decode kc_Mo_readNumber 60 = .ok (.lload_n 1, 1) := by decide +kernel
theorem kd_Mo_readNumber_61 : decode kc_Mo_readNumber 61 = .ok (.invokevirtual 279, 3) := by decide +kernel
theorem kd_Mo_readNumber_64 : decode kc_Mo_readNumber 64 = .ok (.return_, 1) := by decide +kernel
theorem kd_Mo_readTime_0 : decode kc_Mo_readTime 0 = .ok (.aload_n 0, 1) := by decide +kernel
theorem kd_Mo_readTime_1 : decode kc_Mo_readTime 1 = .ok (.aload_n 0, 1) := by decide +kernel
theorem kd_Mo_readTime_2 : decode kc_Mo_readTime 2 = .ok (.getfield 214, 3) := by decide +kernel
theorem kd_Mo_readTime_5 : decode kc_Mo_readTime 5 = .ok (.iconst 2, 1) := by decide +kernel
theorem kd_Mo_readTime_6 : decode kc_Mo_readTime 6 = .ok (.iadd, 1) := by decide +kernel
theorem kd_Mo_readTime_7 : decode kc_Mo_readTime 7 = .ok (.bipush 10, 2) := by decide +kernel
theorem kd_Mo_readTime_9 : decode kc_Mo_readTime 9 = .ok (.invokevirtual 271, 3) := by decide +kernel
theorem kd_Mo_readTime_12 : decode kc_Mo_readTime 12 = .ok (.lstore_n 1, 1) := by decide +kernel
theorem kd_Mo_readTime_13 : decode kc_Mo_readTime 13 = .ok (.aload_n 0, 1) := by decide +kernel
theorem kd_Mo_readTime_14 : decode kc_Mo_readTime 14 = .ok (.aload_n 0, 1) := by decide +kernel
theorem kd_Mo_readTime_15 : decode kc_Mo_readTime 15 = .ok (.getfield 208, 3) := by decide +kernel
theorem kd_Mo_readTime_18 : decode kc_Mo_readTime 18 = .ok (.invokevirtual 191, 3) := by decide +kernel
theorem kd_Mo_readTime_21 : decode kc_Mo_readTime 21 = .ok (.istore_n 3, 1) := by decide +kernel
theorem kd_Mo_readTime_22 : decode kc_Mo_readTime 22 = .ok (.iload_n 3, 1) := by decide +kernel
theorem kd_Mo_readTime_23 : decode kc_Mo_readTime 23 = .ok (.bipush 77, 2) := by decide +kernel
theorem kd_Mo_readTime_25 : decode kc_Mo_readTime 25 = .ok (.if_icmp .ne 22, 3) := by decide +kernel
theorem kd_Mo_readTime_28 : decode kc_Mo_readTime 28 = .ok (.aload_n 0, 1) := by decide +kernel
theorem kd_Mo_readTime_29 : decode kc_Mo_readTime 29 = .ok (.aload_n 0, 1) := by decide +kernel
theorem kd_Mo_readTime_30 : decode kc_Mo_readTime 30 = .ok (.getfield 208, 3) := by decide +kernel
theorem kd_Mo_readTime_33 : decode kc_Mo_readTime 33 = .ok (.iconst 1, 1) := by decide +kernel
theorem kd_Mo_readTime_34 : decode kc_Mo_readTime 34 = .ok (.iadd, 1) := by decide +kernel
theorem kd_Mo_readTime_35 : decode kc_Mo_readTime 35 = .ok (.invokevirtual 191, 3) := by decide +kernel
theorem kd_Mo_readTime_38 : decode kc_Mo_readTime 38 = .ok (.bipush 83, 2) := by decide +kernel
theorem kd_Mo_readTime_40 : decode kc_Mo_readTime 40 = .ok (.if_icmp .ne 7, 3) := by decide +kernel
theorem kd_Mo_readTime_43 : decode kc_Mo_readTime 43 = .ok (.iconst 1, 1) := by decide +kernel
theorem kd_Mo_readTime_44 : decode kc_Mo_readTime 44 = .ok (.goto 40, 3) := by decide +kernel
theorem kd_Mo_readTime_47 : decode kc_Mo_readTime 47 = .ok (.iload_n 3, 1) := by decide +kernel
theorem kd_Mo_readTime_48 : decode kc_Mo_readTime 48 = .ok (.bipush 83, 2) := by decide +kernel
theorem kd_Mo_readTime_50 : decode kc_Mo_readTime 50 = .ok (.if_icmp .ne 9, 3) := by decide +kernel
theorem kd_Mo_readTime_53 : decode kc_Mo_readTime 53 = .ok (.sipush 1000, 3) := by decide +kernel
theorem kd_Mo_readTime_56 : decode kc_Mo_readTime 56 = .ok (.goto 28, 3) := by decide +kernel
theorem kd_Mo_readTime_59 : decode kc_Mo_readTime 59 = .ok (.iload_n 3, 1) := by decide +kernel
theorem kd_Mo_readTime_60 : decode kc_Mo_readTime 60 = .ok (.bipush 77, 2) := by decide +kernel
theorem kd_Mo_readTime_62 : decode kc_Mo_readTime 62 = .ok (.if_icmp .ne 9, 3) := by decide +kernel
theorem kd_Mo_readTime_65 : decode kc_Mo_readTime 65 = .ok (.ldc_w 283, 3) := by decide +kernel
theorem kd_Mo_readTime_68 : decode kc_Mo_readTime 68 = .ok (.goto 16, 3) := by decide +kernel
theorem kd_Mo_readTime_71 : decode kc_Mo_readTime 71 = .ok (.iload_n 3, 1) := by decide +kernel
theorem kd_Mo_readTime_72 : decode kc_Mo_readTime 72 = .ok (.bipush 72, 2) := by decide +kernel
theorem kd_Mo_readTime_74 : decode kc_Mo_readTime 74 = .ok (.if_icmp .ne 9, 3) := by decide +kernel
theorem kd_Mo_readTime_77 : decode kc_Mo_readTime 77 = .ok (.ldc_w 284, 3) := by decide +kernel
theorem kd_Mo_readTime_80 : decode kc_Mo_readTime 80 = .ok (.goto 4, 3) := by decide +kernel
theorem kd_Mo_readTime_83 : decode kc_Mo_readTime 83 = .ok (.iconst 0, 1) := by decide +kernel
theorem kd_Mo_readTime_84 : decode kc_Mo_readTime 84 = .ok (.istore 4, 2) := by decide +kernel
theorem kd_Mo_readTime_86 : decode kc_Mo_readTime 86 = .ok (.aload_n 0, 1) := by decide +kernel
theorem kd_Mo_readTime_87 : decode kc_Mo_readTime 87 = .ok (.dup, 1) := by decide +kernel
theorem kd_Mo_readTime_88 : decode kc_Mo_readTime 88 = .ok (.getfield 208, 3) := by decide +kernel
theorem kd_Mo_readTime_91 : decode kc_Mo_readTime 91 = .ok (.iload 4, 2) := by decide +kernel
theorem kd_Mo_readTime_93 : decode kc_Mo_readTime 93 = .ok (.iconst 1, 1) := by decide +kernel
theorem kd_Mo_readTime_94 : decode kc_Mo_readTime 94 = .ok (.if_icmp .ne 7, 3) := by decide +kernel
theorem kd_Mo_readTime_97 : decode kc_Mo_readTime 97 = .ok (.iconst 2, 1) := by decide +kernel
theorem kd_Mo_readTime_98 : decode kc_Mo_readTime 98 = .ok (.goto 13, 3) := by decide +kernel
theorem kd_Mo_readTime_101 : decode kc_Mo_readTime 101 = .ok (.iload 4, 2) := by decide +kernel
theorem kd_Mo_readTime_103 : decode kc_Mo_readTime 103 = .ok (.ifCond .le 7, 3) := by decide +kernel
theorem kd_Mo_readTime_106 : decode kc_Mo_readTime 106 = .ok (.iconst 1, 1) := by decide +kernel
theorem kd_Mo_readTime_107 : decode kc_Mo_readTime 107 = .ok (.goto 4, 3) := by decide +kernel
theorem kd_Mo_readTime_110 : decode kc_Mo_readTime 110 = .ok (.iconst 0, 1) := by decide +kernel
theorem kd_Mo_readTime_111 : decode kc_Mo_readTime 111 = .ok (.iadd, 1) := by decide +kernel
theorem kd_Mo_readTime_112 : decode kc_Mo_readTime 112 = .ok (.putfield 208, 3) := by decide +kernel
theorem kd_Mo_readTime_115 : decode kc_Mo_readTime 115 = .ok (.aload_n 0, 1) := by decide +kernel
theorem kd_Mo_readTime_116 : decode kc_Mo_readTime 116 = .ok (.iload 4, 2) := by decide +kernel
theorem kd_Mo_readTime_118 : decode kc_Mo_readTime 118 = .ok (.ifCond .eq 9, 3) := by decide +kernel
theorem kd_Mo_readTime_121 : decode kc_Mo_readTime 121 = .ok (.lload_n 1, 1) := by decide +kernel
theorem kd_Mo_readTime_122 : decode kc_Mo_readTime 122 = .ok (.lconst 0, 1) := by decide +kernel
theorem kd_Mo_readTime_123 : decode kc_Mo_readTime 123 = .ok (.lcmp, 1) := by decide +kernel
theorem kd_Mo_readTime_124 : decode kc_Mo_readTime 124 = .ok (.ifCond .ge 9, 3) := by decide +kernel
theorem kd_Mo_readTime_127 : decode kc_Mo_readTime 127 = .ok (.ldc2_w 262, 3) := by decide +kernel
theorem kd_Mo_readTime_130 : decode kc_Mo_readTime 130 = .ok (.goto 20, 3) := by decide +kernel
theorem kd_Mo_readTime_133 : decode kc_Mo_readTime 133 = .ok (.lload_n 1, 1) := by decide +kernel
theorem kd_Mo_readTime_134 : decode kc_Mo_readTime 134 = .ok (.ldc2_w 269, 3) := by decide +kernel
theorem kd_Mo_readTime_137 : decode kc_Mo_readTime 137 = .ok (.lcmp, 1) := by decide +kernel
theorem kd_Mo_readTime_138 : decode kc_Mo_readTime 138 = .ok (.ifCond .le 7, 3) := by decide +kernel
theorem kd_Mo_readTime_141 : decode kc_Mo_readTime 141 = .ok (.lload_n 1, 1) := by decide +kernel
theorem kd_Mo_readTime_142 : decode kc_Mo_readTime 142 = .ok (.goto 8, 3) := by decide +kernel
theorem kd_Mo_readTime_145 : decode kc_Mo_readTime 145 = .ok (.lload_n 1, 1) := by decide +kernel
theorem kd_Mo_readTime_146 : decode kc_Mo_readTime 146 = .ok (.iload 4, 2) := by decide +kernel
theorem kd_Mo_readTime_148 : decode kc_Mo_readTime 148 = .ok (.i2l, 1) := by decide +kernel
theorem kd_Mo_readTime_149 : decode kc_Mo_readTime 149 = .ok (.lmul, 1) := by decide +kernel
theorem kd_Mo_readTime_150 : decode kc_Mo_readTime 150 = .ok (.invokevirtual 279, 3) := by decide +kernel
theorem kd_Mo_readTime_153 : decode kc_Mo_readTime 153 = .ok (.return_, 1) := by decide +kernel
theorem kd_Mo_restart_0 : decode kc_Mo_restart 0 = .ok (.aload_n 0, 1) := by decide +kernel
theorem kd_Mo_restart_1 : decode kc_Mo_restart 1 = .ok (.getfield 874, 3) := by decide +kernel
theorem kd_Mo_restart_4 : decode kc_Mo_restart 4 = .ok (.ifCond .ne 6, 3) := by decide +kernel
theorem kd_Mo_restart_7 : decode kc_Mo_restart 7 = .ok (.bipush (-5), 2) := by decide +kernel
theorem kd_Mo_restart_9 : decode kc_Mo_restart 9 = .ok (.ireturn, 1) := by decide +kernel
theorem kd_Mo_restart_10 : decode kc_Mo_restart 10 = .ok (.aload_n 0, 1) := by decide +kernel
theorem kd_Mo_restart_11 : decode kc_Mo_restart 11 = .ok (.invokevirtual 883, 3) := by decide +kernel
theorem kd_Mo_restart_14 : decode kc_Mo_restart 14 = .ok (.iconst 0, 1) := by decide +kernel
theorem kd_Mo_restart_15 : decode kc_Mo_restart 15 = .ok (.ireturn, 1) := by decide +kernel
theorem kd_Mo_settle_0 : decode kc_Mo_settle 0 = .ok (.lload_n 1, 1) := by decide +kernel
theorem kd_Mo_settle_1 : decode kc_Mo_settle 1 = .ok (.lconst 0, 1) := by decide +kernel
theorem kd_Mo_settle_2 : decode kc_Mo_settle 2 = .ok (.lcmp, 1) := by decide +kernel
theorem kd_Mo_settle_3 : decode kc_Mo_settle 3 = .ok (.ifCond .lt 22, 3) := by decide +kernel
theorem kd_Mo_settle_6 : decode kc_Mo_settle 6 = .ok (.lload_n 1, 1) := by decide +kernel
theorem kd_Mo_settle_7 : decode kc_Mo_settle 7 = .ok (.ldc2_w 269, 3) := by decide +kernel
theorem kd_Mo_settle_10 : decode kc_Mo_settle 10 = .ok (.lcmp, 1) := by decide +kernel
theorem kd_Mo_settle_11 : decode kc_Mo_settle 11 = .ok (.ifCond .gt 14, 3) := by decide +kernel
theorem kd_Mo_settle_14 : decode kc_Mo_settle 14 = .ok (.aload_n 0, 1) := by decide +kernel
theorem kd_Mo_settle_15 : decode kc_Mo_settle 15 = .ok (.aload_n 0, 1) := by decide +kernel
theorem kd_Mo_settle_16 : decode kc_Mo_settle 16 = .ok (.getfield 208, 3) := by decide +kernel
theorem kd_Mo_settle_19 : decode kc_Mo_settle 19 = .ok (.invokevirtual 235, 3) := by decide +kernel
theorem kd_Mo_settle_22 : decode kc_Mo_settle 22 = .ok (.ifCond .eq 15, 3) := by decide +kernel
theorem kd_Mo_settle_25 : decode kc_Mo_settle 25 = .ok (.aload_n 0, 1) := by decide +kernel
theorem kd_Mo_settle_26 : decode kc_Mo_settle 26 = .ok (.iconst 4, 1) := by decide +kernel
theorem kd_Mo_settle_27 : decode kc_Mo_settle 27 = .ok (.aload_n 0, 1) := by decide +kernel
theorem kd_Mo_settle_28 : decode kc_Mo_settle 28 = .ok (.getfield 214, 3) := by decide +kernel
theorem kd_Mo_settle_31 : decode kc_Mo_settle 31 = .ok (.invokevirtual 204, 3) := by decide +kernel
theorem kd_Mo_settle_34 : decode kc_Mo_settle 34 = .ok (.goto 14, 3) := by decide +kernel
theorem kd_Mo_settle_37 : decode kc_Mo_settle 37 = .ok (.aload_n 0, 1) := by decide +kernel
theorem kd_Mo_settle_38 : decode kc_Mo_settle 38 = .ok (.iconst 3, 1) := by decide +kernel
theorem kd_Mo_settle_39 : decode kc_Mo_settle 39 = .ok (.putfield 217, 3) := by decide +kernel
theorem kd_Mo_settle_42 : decode kc_Mo_settle 42 = .ok (.aload_n 0, 1) := by decide +kernel
theorem kd_Mo_settle_43 : decode kc_Mo_settle 43 = .ok (.lload_n 1, 1) := by decide +kernel
theorem kd_Mo_settle_44 : decode kc_Mo_settle 44 = .ok (.l2i, 1) := by decide +kernel
theorem kd_Mo_settle_45 : decode kc_Mo_settle 45 = .ok (.putfield 242, 3) := by decide +kernel
theorem kd_Mo_settle_48 : decode kc_Mo_settle 48 = .ok (.return_, 1) := by decide +kernel
theorem kd_Mo_skip_0 : decode kc_Mo_skip 0 = .ok (.iload_n 1, 1) := by decide +kernel
theorem kd_Mo_skip_1 : decode kc_Mo_skip 1 = .ok (.istore_n 2, 1) := by decide +kernel
theorem kd_Mo_skip_2 : decode kc_Mo_skip 2 = .ok (.iload_n 2, 1) := by decide +kernel
theorem kd_Mo_skip_3 : decode kc_Mo_skip 3 = .ok (.aload_n 0, 1) := by decide +kernel
theorem kd_Mo_skip_4 : decode kc_Mo_skip 4 = .ok (.getfield 184, 3) := by decide +kernel
theorem kd_Mo_skip_7 : decode kc_Mo_skip 7 = .ok (.if_icmp .ge 131, 3) := by decide +kernel
theorem kd_Mo_skip_10 : decode kc_Mo_skip 10 = .ok (.aload_n 0, 1) := by decide +kernel
theorem kd_Mo_skip_11 : decode kc_Mo_skip 11 = .ok (.iload_n 2, 1) := by decide +kernel
theorem kd_Mo_skip_12 : decode kc_Mo_skip 12 = .ok (.invokevirtual 187, 3) := by decide +kernel
theorem kd_Mo_skip_15 : decode kc_Mo_skip 15 = .ok (.istore_n 3, 1) := by decide +kernel
theorem kd_Mo_skip_16 : decode kc_Mo_skip 16 = .ok (.iload_n 3, 1) := by decide +kernel
theorem kd_Mo_skip_17 : decode kc_Mo_skip 17 = .ok (.bipush 9, 2) := by decide +kernel
theorem kd_Mo_skip_19 : decode kc_Mo_skip 19 = .ok (.if_icmp .eq 21, 3) := by decide +kernel
theorem kd_Mo_skip_22 : decode kc_Mo_skip 22 = .ok (.iload_n 3, 1) := by decide +kernel
theorem kd_Mo_skip_23 : decode kc_Mo_skip 23 = .ok (.bipush 10, 2) := by decide +kernel
theorem kd_Mo_skip_25 : decode kc_Mo_skip 25 = .ok (.if_icmp .eq 15, 3) := by decide +kernel
theorem kd_Mo_skip_28 : decode kc_Mo_skip 28 = .ok (.iload_n 3, 1) := by decide +kernel
theorem kd_Mo_skip_29 : decode kc_Mo_skip 29 = .ok (.bipush 13, 2) := by decide +kernel
theorem kd_Mo_skip_31 : decode kc_Mo_skip 31 = .ok (.if_icmp .eq 9, 3) := by decide +kernel
theorem kd_Mo_skip_34 : decode kc_Mo_skip 34 = .ok (.iload_n 3, 1) := by decide +kernel
theorem kd_Mo_skip_35 : decode kc_Mo_skip 35 = .ok (.bipush 32, 2) := by decide +kernel
theorem kd_Mo_skip_37 : decode kc_Mo_skip 37 = .ok (.if_icmp .ne 9, 3) := by decide +kernel
theorem kd_Mo_skip_40 : decode kc_Mo_skip 40 = .ok (.iinc 2 1, 3) := by decide +kernel
theorem kd_Mo_skip_43 : decode kc_Mo_skip 43 = .ok (.goto 92, 3) := by decide +kernel
theorem kd_Mo_skip_46 : decode kc_Mo_skip 46 = .ok (.iload_n 3, 1) := by decide +kernel
theorem kd_Mo_skip_47 : decode kc_Mo_skip 47 = .ok (.bipush 40, 2) := by decide +kernel
theorem kd_Mo_skip_49 : decode kc_Mo_skip 49 = .ok (.if_icmp .ne 84, 3) := by decide +kernel
theorem kd_Mo_skip_52 : decode kc_Mo_skip 52 = .ok (.aload_n 0, 1) := by decide +kernel
theorem kd_Mo_skip_53 : decode kc_Mo_skip 53 = .ok (.iload_n 2, 1) := by decide +kernel
theorem kd_Mo_skip_54 : decode kc_Mo_skip 54 = .ok (.iconst 1, 1) := by decide +kernel
theorem kd_Mo_skip_55 : decode kc_Mo_skip 55 = .ok (.iadd, 1) := by decide +kernel
theorem kd_Mo_skip_56 : decode kc_Mo_skip 56 = .ok (.invokevirtual 187, 3) := by decide +kernel
theorem kd_Mo_skip_59 : decode kc_Mo_skip 59 = .ok (.bipush 42, 2) := by decide +kernel
theorem kd_Mo_skip_61 : decode kc_Mo_skip 61 = .ok (.if_icmp .ne 72, 3) := by decide +kernel
theorem kd_Mo_skip_64 : decode kc_Mo_skip 64 = .ok (.iload_n 2, 1) := by decide +kernel
theorem kd_Mo_skip_65 : decode kc_Mo_skip 65 = .ok (.iconst 2, 1) := by decide +kernel
theorem kd_Mo_skip_66 : decode kc_Mo_skip 66 = .ok (.iadd, 1) := by decide +kernel
theorem kd_Mo_skip_67 : decode kc_Mo_skip 67 = .ok (.istore 4, 2) := by decide +kernel
theorem kd_Mo_skip_69 : decode kc_Mo_skip 69 = .ok (.iload 4, 2) := by decide +kernel
theorem kd_Mo_skip_71 : decode kc_Mo_skip 71 = .ok (.aload_n 0, 1) := by decide +kernel
theorem kd_Mo_skip_72 : decode kc_Mo_skip 72 = .ok (.getfield 184, 3) := by decide +kernel
theorem kd_Mo_skip_75 : decode kc_Mo_skip 75 = .ok (.if_icmp .ge 33, 3) := by decide +kernel
theorem kd_Mo_skip_78 : decode kc_Mo_skip 78 = .ok (.aload_n 0, 1) := by decide +kernel
theorem kd_Mo_skip_79 : decode kc_Mo_skip 79 = .ok (.iload 4, 2) := by decide +kernel
theorem kd_Mo_skip_81 : decode kc_Mo_skip 81 = .ok (.invokevirtual 187, 3) := by decide +kernel
theorem kd_Mo_skip_84 : decode kc_Mo_skip 84 = .ok (.bipush 42, 2) := by decide +kernel
theorem kd_Mo_skip_86 : decode kc_Mo_skip 86 = .ok (.if_icmp .ne 16, 3) := by decide +kernel
theorem kd_Mo_skip_89 : decode kc_Mo_skip 89 = .ok (.aload_n 0, 1) := by decide +kernel
theorem kd_Mo_skip_90 : decode kc_Mo_skip 90 = .ok (.iload 4, 2) := by decide +kernel
theorem kd_Mo_skip_92 : decode kc_Mo_skip 92 = .ok (.iconst 1, 1) := by decide +kernel
theorem kd_Mo_skip_93 : decode kc_Mo_skip 93 = .ok (.iadd, 1) := by decide +kernel
theorem kd_Mo_skip_94 : decode kc_Mo_skip 94 = .ok (.invokevirtual 187, 3) := by decide +kernel
theorem kd_Mo_skip_97 : decode kc_Mo_skip 97 = .ok (.bipush 41, 2) := by decide +kernel
theorem kd_Mo_skip_99 : decode kc_Mo_skip 99 = .ok (.if_icmp .eq 9, 3) := by decide +kernel
theorem kd_Mo_skip_102 : decode kc_Mo_skip 102 = .ok (.iinc 4 1, 3) := by decide +kernel
theorem kd_Mo_skip_105 : decode kc_Mo_skip 105 = .ok (.goto (-36), 3) := by decide +kernel
theorem kd_Mo_skip_108 : decode kc_Mo_skip 108 = .ok (.iload 4, 2) := by decide +kernel
theorem kd_Mo_skip_110 : decode kc_Mo_skip 110 = .ok (.aload_n 0, 1) := by decide +kernel
theorem kd_Mo_skip_111 : decode kc_Mo_skip 111 = .ok (.getfield 184, 3) := by decide +kernel
theorem kd_Mo_skip_114 : decode kc_Mo_skip 114 = .ok (.if_icmp .lt 11, 3) := by decide +kernel
theorem kd_Mo_skip_117 : decode kc_Mo_skip 117 = .ok (.aload_n 0, 1) := by decide +kernel
theorem kd_Mo_skip_118 : decode kc_Mo_skip 118 = .ok (.iconst 2, 1) := by decide +kernel
theorem kd_Mo_skip_119 : decode kc_Mo_skip 119 = .ok (.iload_n 2, 1) := by decide +kernel
theorem kd_Mo_skip_120 : decode kc_Mo_skip 120 = .ok (.invokevirtual 204, 3) := by decide +kernel
theorem kd_Mo_skip_123 : decode kc_Mo_skip 123 = .ok (.iconst (-1), 1) := by decide +kernel
theorem kd_Mo_skip_124 : decode kc_Mo_skip 124 = .ok (.ireturn, 1) := by decide +kernel
theorem kd_Mo_skip_125 : decode kc_Mo_skip 125 = .ok (.iload 4, 2) := by decide +kernel
theorem kd_Mo_skip_127 : decode kc_Mo_skip 127 = .ok (.iconst 2, 1) := by decide +kernel
theorem kd_Mo_skip_128 : decode kc_Mo_skip 128 = .ok (.iadd, 1) := by decide +kernel
theorem kd_Mo_skip_129 : decode kc_Mo_skip 129 = .ok (.istore_n 2, 1) := by decide +kernel
theorem kd_Mo_skip_130 : decode kc_Mo_skip 130 = .ok (.goto 5, 3) := by decide +kernel
theorem kd_Mo_skip_133 : decode kc_Mo_skip 133 = .ok (.iload_n 2, 1) := by decide +kernel
theorem kd_Mo_skip_134 : decode kc_Mo_skip 134 = .ok (.ireturn, 1) := by decide +kernel
theorem kd_Mo_skip_135 : decode kc_Mo_skip 135 = .ok (.goto (-133), 3) := by decide +kernel
theorem kd_Mo_skip_138 : decode kc_Mo_skip 138 = .ok (.iload_n 2, 1) := by decide +kernel
theorem kd_Mo_skip_139 : decode kc_Mo_skip 139 = .ok (.ireturn, 1) := by decide +kernel
theorem kd_Mo_wordAt_0 : decode kc_Mo_wordAt 0 = .ok (.iconst 0, 1) := by decide +kernel
theorem kd_Mo_wordAt_1 : decode kc_Mo_wordAt 1 = .ok (.istore_n 1, 1) := by decide +kernel
theorem kd_Mo_wordAt_2 : decode kc_Mo_wordAt 2 = .ok (.iconst 1, 1) := by decide +kernel
theorem kd_Mo_wordAt_3 : decode kc_Mo_wordAt 3 = .ok (.istore_n 2, 1) := by decide +kernel
theorem kd_Mo_wordAt_4 : decode kc_Mo_wordAt 4 = .ok (.iload_n 2, 1) := by decide +kernel
theorem kd_Mo_wordAt_5 : decode kc_Mo_wordAt 5 = .ok (.ldc 248, 2) := by decide +kernel
theorem kd_Mo_wordAt_7 : decode kc_Mo_wordAt 7 = .ok (.invokevirtual 250, 3) := by decide +kernel
theorem kd_Mo_wordAt_10 : decode kc_Mo_wordAt 10 = .ok (.if_icmp .ge 106, 3) := by decide +kernel
theorem kd_Mo_wordAt_13 : decode kc_Mo_wordAt 13 = .ok (.iconst 0, 1) := by decide +kernel
theorem kd_Mo_wordAt_14 : decode kc_Mo_wordAt 14 = .ok (.istore_n 3, 1) := by decide +kernel
theorem kd_Mo_wordAt_15 : decode kc_Mo_wordAt 15 = .ok (.iconst 1, 1) := by decide +kernel
theorem kd_Mo_wordAt_16 : decode kc_Mo_wordAt 16 = .ok (.istore 4, 2) := by decide +kernel
theorem kd_Mo_wordAt_18 : decode kc_Mo_wordAt 18 = .ok (.ldc 248, 2) := by decide +kernel
theorem kd_Mo_wordAt_20 : decode kc_Mo_wordAt 20 = .ok (.iload_n 2, 1) := by decide +kernel
theorem kd_Mo_wordAt_21 : decode kc_Mo_wordAt 21 = .ok (.iload_n 3, 1) := by decide +kernel
theorem kd_Mo_wordAt_22 : decode kc_Mo_wordAt 22 = .ok (.iadd, 1) := by decide +kernel
theorem kd_Mo_wordAt_23 : decode kc_Mo_wordAt 23 = .ok (.invokevirtual 255, 3) := by decide +kernel
theorem kd_Mo_wordAt_26 : decode kc_Mo_wordAt 26 = .ok (.bipush 32, 2) := by decide +kernel
theorem kd_Mo_wordAt_28 : decode kc_Mo_wordAt 28 = .ok (.if_icmp .eq 55, 3) := by decide +kernel
theorem kd_Mo_wordAt_31 : decode kc_Mo_wordAt 31 = .ok (.iload 4, 2) := by decide +kernel
theorem kd_Mo_wordAt_33 : decode kc_Mo_wordAt 33 = .ok (.ifCond .eq 41, 3) := by decide +kernel
theorem kd_Mo_wordAt_36 : decode kc_Mo_wordAt 36 = .ok (.aload_n 0, 1) := by decide +kernel
theorem kd_Mo_wordAt_37 : decode kc_Mo_wordAt 37 = .ok (.aload_n 0, 1) := by decide +kernel
theorem kd_Mo_wordAt_38 : decode kc_Mo_wordAt 38 = .ok (.getfield 214, 3) := by decide +kernel
theorem kd_Mo_wordAt_41 : decode kc_Mo_wordAt 41 = .ok (.iload_n 3, 1) := by decide +kernel
theorem kd_Mo_wordAt_42 : decode kc_Mo_wordAt 42 = .ok (.iadd, 1) := by decide +kernel
theorem kd_Mo_wordAt_43 : decode kc_Mo_wordAt 43 = .ok (.invokevirtual 191, 3) := by decide +kernel
theorem kd_Mo_wordAt_46 : decode kc_Mo_wordAt 46 = .ok (.ldc 248, 2) := by decide +kernel
theorem kd_Mo_wordAt_48 : decode kc_Mo_wordAt 48 = .ok (.iload_n 2, 1) := by decide +kernel
theorem kd_Mo_wordAt_49 : decode kc_Mo_wordAt 49 = .ok (.iload_n 3, 1) := by decide +kernel
theorem kd_Mo_wordAt_50 : decode kc_Mo_wordAt 50 = .ok (.iadd, 1) := by decide +kernel
theorem kd_Mo_wordAt_51 : decode kc_Mo_wordAt 51 = .ok (.invokevirtual 255, 3) := by decide +kernel
theorem kd_Mo_wordAt_54 : decode kc_Mo_wordAt 54 = .ok (.if_icmp .ne 20, 3) := by decide +kernel
theorem kd_Mo_wordAt_57 : decode kc_Mo_wordAt 57 = .ok (.aload_n 0, 1) := by decide +kernel
theorem kd_Mo_wordAt_58 : decode kc_Mo_wordAt 58 = .ok (.getfield 214, 3) := by decide +kernel
theorem kd_Mo_wordAt_61 : decode kc_Mo_wordAt 61 = .ok (.iload_n 3, 1) := by decide +kernel
theorem kd_Mo_wordAt_62 : decode kc_Mo_wordAt 62 = .ok (.iadd, 1) := by decide +kernel
theorem kd_Mo_wordAt_63 : decode kc_Mo_wordAt 63 = .ok (.aload_n 0, 1) := by decide +kernel
theorem kd_Mo_wordAt_64 : decode kc_Mo_wordAt 64 = .ok (.getfield 208, 3) := by decide +kernel
theorem kd_Mo_wordAt_67 : decode kc_Mo_wordAt 67 = .ok (.if_icmp .ge 7, 3) := by decide +kernel
theorem kd_Mo_wordAt_70 : decode kc_Mo_wordAt 70 = .ok (.iconst 1, 1) := by decide +kernel
theorem kd_Mo_wordAt_71 : decode kc_Mo_wordAt 71 = .ok (.goto 4, 3) := by decide +kernel
theorem kd_Mo_wordAt_74 : decode kc_Mo_wordAt 74 = .ok (.iconst 0, 1) := by decide +kernel
theorem kd_Mo_wordAt_75 : decode kc_Mo_wordAt 75 = .ok (.istore 4, 2) := by decide +kernel
theorem kd_Mo_wordAt_77 : decode kc_Mo_wordAt 77 = .ok (.iinc 3 1, 3) := by decide +kernel
theorem kd_Mo_wordAt_80 : decode kc_Mo_wordAt 80 = .ok (.goto (-62), 3) := by decide +kernel
theorem kd_Mo_wordAt_83 : decode kc_Mo_wordAt 83 = .ok (.iload 4, 2) := by decide +kernel
theorem kd_Mo_wordAt_85 : decode kc_Mo_wordAt 85 = .ok (.ifCond .eq 18, 3) := by decide +kernel
theorem kd_Mo_wordAt_88 : decode kc_Mo_wordAt 88 = .ok (.iload_n 3, 1) := by decide +kernel
theorem kd_Mo_wordAt_89 : decode kc_Mo_wordAt 89 = .ok (.aload_n 0, 1) := by decide +kernel
theorem kd_Mo_wordAt_90 : decode kc_Mo_wordAt 90 = .ok (.getfield 208, 3) := by decide +kernel
theorem kd_Mo_wordAt_93 : decode kc_Mo_wordAt 93 = .ok (.aload_n 0, 1) := by decide +kernel
theorem kd_Mo_wordAt_94 : decode kc_Mo_wordAt 94 = .ok (.getfield 214, 3) := by decide +kernel
theorem kd_Mo_wordAt_97 : decode kc_Mo_wordAt 97 = .ok (.isub, 1) := by decide +kernel
theorem kd_Mo_wordAt_98 : decode kc_Mo_wordAt 98 = .ok (.if_icmp .ne 5, 3) := by decide +kernel
theorem kd_Mo_wordAt_101 : decode kc_Mo_wordAt 101 = .ok (.iload_n 1, 1) := by decide +kernel
theorem kd_Mo_wordAt_102 : decode kc_Mo_wordAt 102 = .ok (.ireturn, 1) := by decide +kernel
theorem kd_Mo_wordAt_103 : decode kc_Mo_wordAt 103 = .ok (.iinc 1 1, 3) := by decide +kernel
theorem kd_Mo_wordAt_106 : decode kc_Mo_wordAt 106 = .ok (.iload_n 2, 1) := by decide +kernel
theorem kd_Mo_wordAt_107 : decode kc_Mo_wordAt 107 = .ok (.iload_n 3, 1) := by decide +kernel
theorem kd_Mo_wordAt_108 : decode kc_Mo_wordAt 108 = .ok (.iadd, 1) := by decide +kernel
theorem kd_Mo_wordAt_109 : decode kc_Mo_wordAt 109 = .ok (.istore_n 2, 1) := by decide +kernel
theorem kd_Mo_wordAt_110 : decode kc_Mo_wordAt 110 = .ok (.iinc 2 1, 3) := by decide +kernel
theorem kd_Mo_wordAt_113 : decode kc_Mo_wordAt 113 = .ok (.goto (-109), 3) := by decide +kernel
theorem kd_Mo_wordAt_116 : decode kc_Mo_wordAt 116 = .ok (.iconst (-1), 1) := by decide +kernel
theorem kd_Mo_wordAt_117 : decode kc_Mo_wordAt 117 = .ok (.ireturn, 1) := by decide +kernel
set_option maxHeartbeats 4000000 in
set_option maxRecDepth 100000 in
theorem zb_Mo_fillAll_53 {X : zkj_T} {S : zs_T} {P : ze_T} {l : Launch} {D : va_G} {sz0 : Nat} {rh : zs_H} (C : zk_C X km_Mo_fillAll (zs_G S l D sz0) { frames := 402, cells := 0, slots := 0, locals := 10049 } (ze_E P)) (hR : zkj_R X (zd_PV S rh) (none)) {k24 : zs_H → Int32 → (Option zs_H)} (hk24 : ∀ (h : zs_H) (x1 : Int32), k24 h x1 = some rh → zk_Ab X (zs_W S h) 0 0 24 [(0, .ref (S.1 68)), (1, .int x1)] []) (h : zs_H) (x1 : Int32) (e : f_Mo_fillAll_53 k24 h x1 = some rh) : zk_Ab X (zs_W S h) 0 0 53 [(0, .ref (S.1 68)), (1, .int x1)] [] := by
  unfold f_Mo_fillAll_53 at e
  refine zk_iinc (v := (x1 + 1)) (lv' := [(1, _), (0, _)]) C kd_Mo_fillAll_53 1 rfl rfl (by decide) rfl rfl ?_
  refine zk_goto (tgt := 24) C kd_Mo_fillAll_56 (by decide) ?_
  refine zk_lvs (lv' := [(0, .ref (S.1 68)), (1, .int (x1 + 1))]) [1, 0] rfl ?_
  exact hk24 h (x1 + 1) e
set_option maxHeartbeats 4000000 in
set_option maxRecDepth 100000 in
theorem zb_Mo_fillAll_24 {X : zkj_T} {S : zs_T} {P : ze_T} {l : Launch} {D : va_G} {sz0 : Nat} {rh : zs_H} (C : zk_C X km_Mo_fillAll (zs_G S l D sz0) { frames := 402, cells := 0, slots := 0, locals := 10049 } (ze_E P)) (hR : zkj_R X (zd_PV S rh) (none)) {k24 : zs_H → Int32 → (Option zs_H)} (hk24 : ∀ (h : zs_H) (x1 : Int32), k24 h x1 = some rh → zk_Ab X (zs_W S h) 0 0 24 [(0, .ref (S.1 68)), (1, .int x1)] []) (h : zs_H) (x1 : Int32) (e : f_Mo_fillAll_24 k24 h x1 = some rh) : zk_Ab X (zs_W S h) 0 0 24 [(0, .ref (S.1 68)), (1, .int x1)] [] := by
  unfold f_Mo_fillAll_24 at e
  refine zk_iload_n C kd_Mo_fillAll_24 rfl 1 rfl rfl ?_
  refine zk_aload_n C kd_Mo_fillAll_25 rfl 0 rfl rfl ?_
  refine zs_get (v := .int (h.1 68 33)) C 68 33 rfl rfl rfl rfl ki_Mo (by decide) kw1716 kd_Mo_fillAll_26 rfl ?_
  refine zk_icmp_ge (tgt := 59) C kd_Mo_fillAll_29 (by decide) rfl (fun b1 => ?_) (fun b1 => ?_)
  · replace e := zd_pos b1 e
    exact zk_vret C hR kd_Mo_fillAll_59 rfl rfl (zd_rV e)
  · replace e := zd_neg b1 e
    refine zk_aload_n C kd_Mo_fillAll_32 rfl 0 rfl rfl ?_
    refine zs_get (v := .ref (S.1 86)) C 68 36 rfl rfl rfl rfl ki_Mo (by decide) kw1719 kd_Mo_fillAll_33 rfl ?_
    refine zk_iload_n C kd_Mo_fillAll_36 rfl 1 rfl rfl ?_
    obtain ⟨q2, e⟩ := zd_g e
    refine zs_iald C 86 rfl (zd_vp q2) kd_Mo_fillAll_37 rfl ?_
    refine zk_iconst (v := 2) C kd_Mo_fillAll_38 (by decide) rfl ?_
    refine zk_icmp_eq (tgt := 53) C kd_Mo_fillAll_39 (by decide) rfl (fun b3 => ?_) (fun b3 => ?_)
    · replace e := zd_pos b3 e
      refine zk_lvs (lv' := [(0, .ref (S.1 68)), (1, .int x1)]) [0, 1] rfl ?_
      exact zb_Mo_fillAll_53 C hR hk24 h x1 e
    · replace e := zd_neg b3 e
      refine zk_aload_n C kd_Mo_fillAll_42 rfl 0 rfl rfl ?_
      refine zk_iload_n C kd_Mo_fillAll_43 rfl 1 rfl rfl ?_
      refine zk_aload_n C kd_Mo_fillAll_44 rfl 0 rfl rfl ?_
      refine zs_get (v := .ref (S.1 89)) C 68 39 rfl rfl rfl rfl ki_Mo (by decide) kw1722 kd_Mo_fillAll_45 rfl ?_
      refine zk_iload_n C kd_Mo_fillAll_48 rfl 1 rfl rfl ?_
      refine zs_iald C 89 rfl (zd_vp q2) kd_Mo_fillAll_49 rfl ?_
      obtain ⟨h5, c4, e⟩ := zd_b e
      refine zs_callV (k := 68) (rn := { frames := 1 + 400, cells := 0, slots := 0, locals := 24 + 25 * 400 }) (As := [.int x1, .int (h.2.1 89 x1.toNatClampNeg)]) (rest := []) C (zc_Mo_fill h x1 (h.2.1 89 x1.toNatClampNeg) c4) ku_Mo_fill kw2707 kv_Mo_fill rfl ⟨by decide, by decide⟩ ⟨by decide, by decide⟩ rfl rfl rfl (Nat.le_of_ble_eq_true rfl) kd_Mo_fillAll_50 rfl (c1 := 0) (s1 := 0) rfl rfl (fun v w hp => ?_)
      obtain ⟨rfl, rfl⟩ := hp
      refine zk_stk (r' := []) rfl ?_
      refine zk_lvs (lv' := [(0, .ref (S.1 68)), (1, .int x1)]) [0, 1] rfl ?_
      exact zb_Mo_fillAll_53 C hR hk24 h5 x1 e
theorem zl_Mo_fillAll_24 {X : zkj_T} {S : zs_T} {P : ze_T} {l : Launch} {D : va_G} {sz0 : Nat} {rh : zs_H} (C : zk_C X km_Mo_fillAll (zs_G S l D sz0) { frames := 402, cells := 0, slots := 0, locals := 10049 } (ze_E P)) (hR : zkj_R X (zd_PV S rh) (none)) (n : Nat) : ∀ (h : zs_H) (x1 : Int32), f_Mo_fillAll_L24 n h x1 = some rh → zk_Ab X (zs_W S h) 0 0 24 [(0, .ref (S.1 68)), (1, .int x1)] [] := by
  induction n with
  | zero => intro h x1 e; exact zd_no e
  | succ n ih => intro h x1 e; exact zb_Mo_fillAll_24 (k24 := f_Mo_fillAll_L24  n) C hR ih h x1 e
set_option maxHeartbeats 4000000 in
set_option maxRecDepth 100000 in
theorem zb_Mo_fillAll_2 {X : zkj_T} {S : zs_T} {P : ze_T} {l : Launch} {D : va_G} {sz0 : Nat} {rh : zs_H} (C : zk_C X km_Mo_fillAll (zs_G S l D sz0) { frames := 402, cells := 0, slots := 0, locals := 10049 } (ze_E P)) (hR : zkj_R X (zd_PV S rh) (none)) {k2 : zs_H → Int32 → (Option zs_H)} (hk2 : ∀ (h : zs_H) (x1 : Int32), k2 h x1 = some rh → zk_Ab X (zs_W S h) 0 0 2 [(0, .ref (S.1 68)), (1, .int x1)] []) (h : zs_H) (x1 : Int32) (e : f_Mo_fillAll_2 k2 h x1 = some rh) : zk_Ab X (zs_W S h) 0 0 2 [(0, .ref (S.1 68)), (1, .int x1)] [] := by
  unfold f_Mo_fillAll_2 at e
  refine zk_iload_n C kd_Mo_fillAll_2 rfl 1 rfl rfl ?_
  refine zk_sipush (v := 8192) C kd_Mo_fillAll_3 (by decide) rfl ?_
  refine zk_icmp_ge (tgt := 22) C kd_Mo_fillAll_6 (by decide) rfl (fun b1 => ?_) (fun b1 => ?_)
  · replace e := zd_pos b1 e
    refine zk_iconst (v := 0) C kd_Mo_fillAll_22 (by decide) rfl ?_
    refine zk_istore_n (lv' := [(1, _), (0, _)]) C kd_Mo_fillAll_23 rfl (by decide) rfl rfl ?_
    refine zk_lvs (lv' := [(0, .ref (S.1 68)), (1, .int 0)]) [1, 0] rfl ?_
    exact zl_Mo_fillAll_24 C hR zF h 0 e
  · replace e := zd_neg b1 e
    refine zk_aload_n C kd_Mo_fillAll_9 rfl 0 rfl rfl ?_
    refine zs_get (v := .ref (S.1 114)) C 68 72 rfl rfl rfl rfl ki_Mo (by decide) kw1755 kd_Mo_fillAll_10 rfl ?_
    refine zk_iload_n C kd_Mo_fillAll_13 rfl 1 rfl rfl ?_
    refine zk_iconst (v := 0) C kd_Mo_fillAll_14 (by decide) rfl ?_
    obtain ⟨q2, e⟩ := zd_g e
    refine zs_iast C 114 rfl (zd_vp q2) kd_Mo_fillAll_15 rfl ?_
    refine zk_iinc (v := (x1 + 1)) (lv' := [(1, _), (0, _)]) C kd_Mo_fillAll_16 1 rfl rfl (by decide) rfl rfl ?_
    refine zk_goto (tgt := 2) C kd_Mo_fillAll_19 (by decide) ?_
    refine zk_lvs (lv' := [(0, .ref (S.1 68)), (1, .int (x1 + 1))]) [1, 0] rfl ?_
    exact hk2 (zs_uM h 114 x1.toNatClampNeg 0) (x1 + 1) e
theorem zl_Mo_fillAll_2 {X : zkj_T} {S : zs_T} {P : ze_T} {l : Launch} {D : va_G} {sz0 : Nat} {rh : zs_H} (C : zk_C X km_Mo_fillAll (zs_G S l D sz0) { frames := 402, cells := 0, slots := 0, locals := 10049 } (ze_E P)) (hR : zkj_R X (zd_PV S rh) (none)) (n : Nat) : ∀ (h : zs_H) (x1 : Int32), f_Mo_fillAll_L2 n h x1 = some rh → zk_Ab X (zs_W S h) 0 0 2 [(0, .ref (S.1 68)), (1, .int x1)] [] := by
  induction n with
  | zero => intro h x1 e; exact zd_no e
  | succ n ih => intro h x1 e; exact zb_Mo_fillAll_2 (k2 := f_Mo_fillAll_L2  n) C hR ih h x1 e
set_option maxHeartbeats 4000000 in
set_option maxRecDepth 100000 in
theorem zc_Mo_fillAll {l : Launch} {D : va_G} {sz0 : Nat} {S : zs_T} {P : ze_T} (h : zs_H) {rh : zs_H} (e : f_Mo_fillAll h = some rh) : zk_Sp (zs_G S l D sz0) (ze_E P) km_Mo_fillAll { frames := 402, cells := 0, slots := 0, locals := 10049 } [.ref (S.1 68)] (zs_W S h) (zd_PV S rh) := by
  refine zk_met ku_Mo_fillAll (Nat.le_of_ble_eq_true rfl) (ze_Em P) ?_
  intro X C hR
  refine zk_lvs (lv' := [(0, .ref (S.1 68))]) [0] rfl ?_
  unfold f_Mo_fillAll at e
  refine zk_iconst (v := 0) C kd_Mo_fillAll_0 (by decide) rfl ?_
  refine zk_istore_n (lv' := [(1, _), (0, _)]) C kd_Mo_fillAll_1 rfl (by decide) rfl rfl ?_
  refine zk_lvs (lv' := [(0, .ref (S.1 68)), (1, .int 0)]) [1, 0] rfl ?_
  exact zl_Mo_fillAll_2 C hR zF h 0 e
set_option maxHeartbeats 4000000 in
set_option maxRecDepth 100000 in
theorem zc_Mo_anew {l : Launch} {D : va_G} {sz0 : Nat} {S : zs_T} {P : ze_T} (h : zs_H) {rh : zs_H} (e : f_Mo_anew h = some rh) : zk_Sp (zs_G S l D sz0) (ze_E P) km_Mo_anew { frames := 403, cells := 0, slots := 0, locals := 10070 } [.ref (S.1 68)] (zs_W S h) (zd_PV S rh) := by
  refine zk_met ku_Mo_anew (Nat.le_of_ble_eq_true rfl) (ze_Em P) ?_
  intro X C hR
  refine zk_lvs (lv' := [(0, .ref (S.1 68))]) [0] rfl ?_
  unfold f_Mo_anew at e
  refine zk_aload_n C kd_Mo_anew_0 rfl 0 rfl rfl ?_
  obtain ⟨h2, c1, e⟩ := zd_b e
  refine zs_callV (k := 68) (rn := { frames := 402, cells := 0, slots := 0, locals := 10049 }) (As := []) (rest := []) C (zc_Mo_fillAll h c1) ku_Mo_fillAll kw2703 kv_Mo_fillAll rfl ⟨by decide, by decide⟩ ⟨by decide, by decide⟩ rfl rfl rfl (Nat.le_of_ble_eq_true rfl) kd_Mo_anew_1 rfl (c1 := 0) (s1 := 0) rfl rfl (fun v w hp => ?_)
  obtain ⟨rfl, rfl⟩ := hp
  refine zk_stk (r' := []) rfl ?_
  refine zk_aload_n C kd_Mo_anew_4 rfl 0 rfl rfl ?_
  obtain ⟨h4, c3, e⟩ := zd_b e
  refine zs_callV (k := 68) (rn := { frames := 0, cells := 0, slots := 0, locals := 0 }) (As := []) (rest := []) C (zc_Mo_publishSafe h2 c3) ku_Mo_publishSafe kw2711 kv_Mo_publishSafe rfl ⟨by decide, by decide⟩ ⟨by decide, by decide⟩ rfl rfl rfl (Nat.le_of_ble_eq_true rfl) kd_Mo_anew_5 rfl (c1 := 0) (s1 := 0) rfl rfl (fun v w hp => ?_)
  obtain ⟨rfl, rfl⟩ := hp
  refine zk_stk (r' := []) rfl ?_
  refine zk_aload_n C kd_Mo_anew_8 rfl 0 rfl rfl ?_
  refine zk_iconst (v := 0) C kd_Mo_anew_9 (by decide) rfl ?_
  refine zs_put (ty := .boolean) C 68 86 0 rfl rfl rfl rfl ki_Mo ky_Mo ko_Mo kn_Mo (by decide) kw1769 rfl rfl rfl rfl (by decide) kd_Mo_anew_10 rfl ?_
  exact zk_vret C hR kd_Mo_anew_13 rfl rfl (zd_rV e)
set_option maxHeartbeats 4000000 in
set_option maxRecDepth 100000 in
theorem zc_Mo_restart {l : Launch} {D : va_G} {sz0 : Nat} {S : zs_T} {P : ze_T} (h : zs_H) {rv : Int32} {rh : zs_H} (e : f_Mo_restart h = some (rv, rh)) : zk_Sp (zs_G S l D sz0) (ze_E P) km_Mo_restart { frames := 404, cells := 0, slots := 0, locals := 10090 } [.ref (S.1 68)] (zs_W S h) (zd_PI S rv rh) := by
  refine zk_met ku_Mo_restart (Nat.le_of_ble_eq_true rfl) (ze_Em P) ?_
  intro X C hR
  refine zk_lvs (lv' := [(0, .ref (S.1 68))]) [0] rfl ?_
  unfold f_Mo_restart at e
  refine zk_aload_n C kd_Mo_restart_0 rfl 0 rfl rfl ?_
  refine zs_get (v := .int (h.1 68 82)) C 68 82 rfl rfl rfl rfl ki_Mo (by decide) kw1765 kd_Mo_restart_1 rfl ?_
  refine zk_if_ne (tgt := 10) C kd_Mo_restart_4 (by decide) rfl (fun b1 => ?_) (fun b1 => ?_)
  · replace e := zd_neg b1 e
    refine zk_aload_n C kd_Mo_restart_10 rfl 0 rfl rfl ?_
    obtain ⟨h3, c2, e⟩ := zd_b e
    refine zs_callV (k := 68) (rn := { frames := 403, cells := 0, slots := 0, locals := 10070 }) (As := []) (rest := []) C (zc_Mo_anew h c2) ku_Mo_anew kw2699 kv_Mo_anew rfl ⟨by decide, by decide⟩ ⟨by decide, by decide⟩ rfl rfl rfl (Nat.le_of_ble_eq_true rfl) kd_Mo_restart_11 rfl (c1 := 0) (s1 := 0) rfl rfl (fun v w hp => ?_)
    obtain ⟨rfl, rfl⟩ := hp
    refine zk_stk (r' := []) rfl ?_
    refine zk_iconst (v := 0) C kd_Mo_restart_14 (by decide) rfl ?_
    exact zk_iret C hR kd_Mo_restart_15 rfl rfl (zd_rIS e)
  · replace e := zd_pos b1 e
    refine zk_bipush (v := (-5)) C kd_Mo_restart_7 (by decide) rfl ?_
    exact zk_iret C hR kd_Mo_restart_9 rfl rfl (zd_rIS e)
set_option maxHeartbeats 4000000 in
set_option maxRecDepth 100000 in
theorem zc_Mo_byteOf {l : Launch} {D : va_G} {sz0 : Nat} {S : zs_T} {P : ze_T} (h : zs_H) (x1 : Int32) {rv : Int32} (e : f_Mo_byteOf h x1 = some rv) : zk_Sp (zs_G S l D sz0) (ze_E P) km_Mo_byteOf { frames := 0, cells := 0, slots := 0, locals := 0 } [.ref (S.1 68), .int x1] (zs_W S h) (zd_PI S rv h) := by
  refine zk_met ku_Mo_byteOf (Nat.le_of_ble_eq_true rfl) (ze_Em P) ?_
  intro X C hR
  refine zk_lvs (lv' := [(0, .ref (S.1 68)), (1, .int x1)]) [0, 1] rfl ?_
  unfold f_Mo_byteOf at e
  refine zk_iload_n C kd_Mo_byteOf_0 rfl 1 rfl rfl ?_
  refine zk_if_lt (tgt := 25) C kd_Mo_byteOf_1 (by decide) rfl (fun b1 => ?_) (fun b1 => ?_)
  · replace e := zd_pos b1 e
    refine zk_iconst (v := (-1)) C kd_Mo_byteOf_25 (by decide) rfl ?_
    exact zk_iret C hR kd_Mo_byteOf_26 rfl rfl (zd_rIO e)
  · replace e := zd_neg b1 e
    refine zk_iload_n C kd_Mo_byteOf_4 rfl 1 rfl rfl ?_
    refine zk_aload_n C kd_Mo_byteOf_5 rfl 0 rfl rfl ?_
    refine zs_get (v := .int (h.1 68 1)) C 68 1 rfl rfl rfl rfl ki_Mo (by decide) kw1684 kd_Mo_byteOf_6 rfl ?_
    refine zk_icmp_ge (tgt := 25) C kd_Mo_byteOf_9 (by decide) rfl (fun b2 => ?_) (fun b2 => ?_)
    · replace e := zd_pos b2 e
      refine zk_iconst (v := (-1)) C kd_Mo_byteOf_25 (by decide) rfl ?_
      exact zk_iret C hR kd_Mo_byteOf_26 rfl rfl (zd_rIO e)
    · replace e := zd_neg b2 e
      refine zk_aload_n C kd_Mo_byteOf_12 rfl 0 rfl rfl ?_
      refine zs_get (v := .ref (S.1 69)) C 68 2 rfl rfl rfl rfl ki_Mo (by decide) kw1685 kd_Mo_byteOf_13 rfl ?_
      refine zk_iload_n C kd_Mo_byteOf_16 rfl 1 rfl rfl ?_
      obtain ⟨q3, e⟩ := zd_g e
      refine zs_bald C 69 rfl (zd_vp q3) kd_Mo_byteOf_17 rfl ?_
      refine zk_sipush (v := 255) C kd_Mo_byteOf_18 (by decide) rfl ?_
      refine zk_iand C kd_Mo_byteOf_21 rfl ?_
      refine zk_goto (tgt := 26) C kd_Mo_byteOf_22 (by decide) ?_
      exact zk_iret C hR kd_Mo_byteOf_26 rfl rfl (zd_rIO e)
set_option maxHeartbeats 4000000 in
set_option maxRecDepth 100000 in
theorem zc_Mo_fail {l : Launch} {D : va_G} {sz0 : Nat} {S : zs_T} {P : ze_T} (h : zs_H) (x1 : Int32) (x2 : Int32) {rh : zs_H} (e : f_Mo_fail h x1 x2 = some rh) : zk_Sp (zs_G S l D sz0) (ze_E P) km_Mo_fail { frames := 0, cells := 0, slots := 0, locals := 0 } [.ref (S.1 68), .int x1, .int x2] (zs_W S h) (zd_PV S rh) := by
  refine zk_met ku_Mo_fail (Nat.le_of_ble_eq_true rfl) (ze_Em P) ?_
  intro X C hR
  refine zk_lvs (lv' := [(0, .ref (S.1 68)), (1, .int x1), (2, .int x2)]) [0, 1, 2] rfl ?_
  unfold f_Mo_fail at e
  refine zk_aload_n C kd_Mo_fail_0 rfl 0 rfl rfl ?_
  refine zs_get (v := .int (h.1 68 10)) C 68 10 rfl rfl rfl rfl ki_Mo (by decide) kw1693 kd_Mo_fail_1 rfl ?_
  refine zk_if_ne (tgt := 17) C kd_Mo_fail_4 (by decide) rfl (fun b1 => ?_) (fun b1 => ?_)
  · replace e := zd_neg b1 e
    exact zk_vret C hR kd_Mo_fail_17 rfl rfl (zd_rV e)
  · replace e := zd_pos b1 e
    refine zk_aload_n C kd_Mo_fail_7 rfl 0 rfl rfl ?_
    refine zk_iload_n C kd_Mo_fail_8 rfl 1 rfl rfl ?_
    refine zs_put (ty := .int) C 68 10 x1 rfl rfl rfl rfl ki_Mo ky_Mo ko_Mo kn_Mo (by decide) kw1693 rfl rfl rfl rfl (by decide) kd_Mo_fail_9 rfl ?_
    refine zk_aload_n C kd_Mo_fail_12 rfl 0 rfl rfl ?_
    refine zk_iload_n C kd_Mo_fail_13 rfl 2 rfl rfl ?_
    refine zs_put (ty := .int) C 68 11 x2 rfl rfl rfl rfl ki_Mo ky_Mo ko_Mo kn_Mo (by decide) kw1694 rfl rfl rfl rfl (by decide) kd_Mo_fail_14 rfl ?_
    exact zk_vret C hR kd_Mo_fail_17 rfl rfl (zd_rV e)
set_option maxHeartbeats 4000000 in
set_option maxRecDepth 100000 in
theorem zb_Mo_skip_135 {X : zkj_T} {S : zs_T} {P : ze_T} {l : Launch} {D : va_G} {sz0 : Nat} {rv : Int32} {rh : zs_H} (C : zk_C X km_Mo_skip (zs_G S l D sz0) { frames := 1, cells := 0, slots := 0, locals := 22 } (ze_E P)) (hR : zkj_R X (zd_PI S rv rh) (some .int)) {k2 : zs_H → Int32 → (Option (Int32 × zs_H))} (hk2 : ∀ (h : zs_H) (x2 : Int32), k2 h x2 = some (rv, rh) → zk_Ab X (zs_W S h) 0 0 2 [(0, .ref (S.1 68)), (2, .int x2)] []) (h : zs_H) (x2 : Int32) (e : f_Mo_skip_135 k2 h x2 = some (rv, rh)) : zk_Ab X (zs_W S h) 0 0 135 [(0, .ref (S.1 68)), (2, .int x2)] [] := by
  unfold f_Mo_skip_135 at e
  refine zk_goto (tgt := 2) C kd_Mo_skip_135 (by decide) ?_
  refine zk_lvs (lv' := [(0, .ref (S.1 68)), (2, .int x2)]) [0, 1] rfl ?_
  exact hk2 h x2 e
set_option maxHeartbeats 4000000 in
set_option maxRecDepth 100000 in
theorem zb_Mo_skip_40 {X : zkj_T} {S : zs_T} {P : ze_T} {l : Launch} {D : va_G} {sz0 : Nat} {rv : Int32} {rh : zs_H} (C : zk_C X km_Mo_skip (zs_G S l D sz0) { frames := 1, cells := 0, slots := 0, locals := 22 } (ze_E P)) (hR : zkj_R X (zd_PI S rv rh) (some .int)) {k2 : zs_H → Int32 → (Option (Int32 × zs_H))} (hk2 : ∀ (h : zs_H) (x2 : Int32), k2 h x2 = some (rv, rh) → zk_Ab X (zs_W S h) 0 0 2 [(0, .ref (S.1 68)), (2, .int x2)] []) (h : zs_H) (x2 : Int32) (e : f_Mo_skip_40 k2 h x2 = some (rv, rh)) : zk_Ab X (zs_W S h) 0 0 40 [(0, .ref (S.1 68)), (2, .int x2)] [] := by
  unfold f_Mo_skip_40 at e
  refine zk_iinc (v := (x2 + 1)) (lv' := [(2, _), (0, _)]) C kd_Mo_skip_40 1 rfl rfl (by decide) rfl rfl ?_
  refine zk_goto (tgt := 135) C kd_Mo_skip_43 (by decide) ?_
  refine zk_lvs (lv' := [(0, .ref (S.1 68)), (2, .int (x2 + 1))]) [1, 0] rfl ?_
  exact zb_Mo_skip_135 C hR hk2 h (x2 + 1) e
set_option maxHeartbeats 4000000 in
set_option maxRecDepth 100000 in
theorem zb_Mo_skip_102 {X : zkj_T} {S : zs_T} {P : ze_T} {l : Launch} {D : va_G} {sz0 : Nat} {rv : Int32} {rh : zs_H} (C : zk_C X km_Mo_skip (zs_G S l D sz0) { frames := 1, cells := 0, slots := 0, locals := 22 } (ze_E P)) (hR : zkj_R X (zd_PI S rv rh) (some .int)) {k2 : zs_H → Int32 → (Option (Int32 × zs_H))} (hk2 : ∀ (h : zs_H) (x2 : Int32), k2 h x2 = some (rv, rh) → zk_Ab X (zs_W S h) 0 0 2 [(0, .ref (S.1 68)), (2, .int x2)] []) {k69 : zs_H → Int32 → Int32 → (Option (Int32 × zs_H))} (hk69 : ∀ (h : zs_H) (x2 : Int32) (x4 : Int32), k69 h x2 x4 = some (rv, rh) → zk_Ab X (zs_W S h) 0 0 69 [(0, .ref (S.1 68)), (2, .int x2), (4, .int x4)] []) (h : zs_H) (x2 : Int32) (x4 : Int32) (e : f_Mo_skip_102 k2 k69 h x2 x4 = some (rv, rh)) : zk_Ab X (zs_W S h) 0 0 102 [(0, .ref (S.1 68)), (2, .int x2), (4, .int x4)] [] := by
  unfold f_Mo_skip_102 at e
  refine zk_iinc (v := (x4 + 1)) (lv' := [(4, _), (0, _), (2, _)]) C kd_Mo_skip_102 2 rfl rfl (by decide) rfl rfl ?_
  refine zk_goto (tgt := 69) C kd_Mo_skip_105 (by decide) ?_
  refine zk_lvs (lv' := [(0, .ref (S.1 68)), (2, .int x2), (4, .int (x4 + 1))]) [1, 2, 0] rfl ?_
  exact hk69 h x2 (x4 + 1) e
set_option maxHeartbeats 4000000 in
set_option maxRecDepth 100000 in
theorem zb_Mo_skip_108 {X : zkj_T} {S : zs_T} {P : ze_T} {l : Launch} {D : va_G} {sz0 : Nat} {rv : Int32} {rh : zs_H} (C : zk_C X km_Mo_skip (zs_G S l D sz0) { frames := 1, cells := 0, slots := 0, locals := 22 } (ze_E P)) (hR : zkj_R X (zd_PI S rv rh) (some .int)) {k2 : zs_H → Int32 → (Option (Int32 × zs_H))} (hk2 : ∀ (h : zs_H) (x2 : Int32), k2 h x2 = some (rv, rh) → zk_Ab X (zs_W S h) 0 0 2 [(0, .ref (S.1 68)), (2, .int x2)] []) (h : zs_H) (x2 : Int32) (x4 : Int32) (e : f_Mo_skip_108 k2 h x2 x4 = some (rv, rh)) : zk_Ab X (zs_W S h) 0 0 108 [(0, .ref (S.1 68)), (2, .int x2), (4, .int x4)] [] := by
  unfold f_Mo_skip_108 at e
  refine zk_iload C kd_Mo_skip_108 2 rfl rfl ?_
  refine zk_aload_n C kd_Mo_skip_110 rfl 0 rfl rfl ?_
  refine zs_get (v := .int (h.1 68 1)) C 68 1 rfl rfl rfl rfl ki_Mo (by decide) kw1684 kd_Mo_skip_111 rfl ?_
  refine zk_icmp_lt (tgt := 125) C kd_Mo_skip_114 (by decide) rfl (fun b1 => ?_) (fun b1 => ?_)
  · replace e := zd_pos b1 e
    refine zk_iload C kd_Mo_skip_125 2 rfl rfl ?_
    refine zk_iconst (v := 2) C kd_Mo_skip_127 (by decide) rfl ?_
    refine zk_iadd C kd_Mo_skip_128 rfl ?_
    refine zk_istore_n (lv' := [(2, _), (0, _), (4, _)]) C kd_Mo_skip_129 rfl (by decide) rfl rfl ?_
    refine zk_goto (tgt := 135) C kd_Mo_skip_130 (by decide) ?_
    refine zk_lvs (lv' := [(0, .ref (S.1 68)), (2, .int (x4 + 2))]) [1, 0] rfl ?_
    exact zb_Mo_skip_135 C hR hk2 h (x4 + 2) e
  · replace e := zd_neg b1 e
    refine zk_aload_n C kd_Mo_skip_117 rfl 0 rfl rfl ?_
    refine zk_iconst (v := 2) C kd_Mo_skip_118 (by decide) rfl ?_
    refine zk_iload_n C kd_Mo_skip_119 rfl 1 rfl rfl ?_
    obtain ⟨h3, c2, e⟩ := zd_b e
    refine zs_callV (k := 68) (rn := { frames := 0, cells := 0, slots := 0, locals := 0 }) (As := [.int 2, .int x2]) (rest := []) C (zc_Mo_fail h 2 x2 c2) ku_Mo_fail kw2013 kv_Mo_fail rfl ⟨by decide, by decide⟩ ⟨by decide, by decide⟩ rfl rfl rfl (Nat.le_of_ble_eq_true rfl) kd_Mo_skip_120 rfl (c1 := 0) (s1 := 0) rfl rfl (fun v w hp => ?_)
    obtain ⟨rfl, rfl⟩ := hp
    refine zk_stk (r' := []) rfl ?_
    refine zk_iconst (v := (-1)) C kd_Mo_skip_123 (by decide) rfl ?_
    exact zk_iret C hR kd_Mo_skip_124 rfl rfl (zd_rIS e)
set_option maxHeartbeats 4000000 in
set_option maxRecDepth 100000 in
theorem zb_Mo_skip_69 {X : zkj_T} {S : zs_T} {P : ze_T} {l : Launch} {D : va_G} {sz0 : Nat} {rv : Int32} {rh : zs_H} (C : zk_C X km_Mo_skip (zs_G S l D sz0) { frames := 1, cells := 0, slots := 0, locals := 22 } (ze_E P)) (hR : zkj_R X (zd_PI S rv rh) (some .int)) {k2 : zs_H → Int32 → (Option (Int32 × zs_H))} (hk2 : ∀ (h : zs_H) (x2 : Int32), k2 h x2 = some (rv, rh) → zk_Ab X (zs_W S h) 0 0 2 [(0, .ref (S.1 68)), (2, .int x2)] []) {k69 : zs_H → Int32 → Int32 → (Option (Int32 × zs_H))} (hk69 : ∀ (h : zs_H) (x2 : Int32) (x4 : Int32), k69 h x2 x4 = some (rv, rh) → zk_Ab X (zs_W S h) 0 0 69 [(0, .ref (S.1 68)), (2, .int x2), (4, .int x4)] []) (h : zs_H) (x2 : Int32) (x4 : Int32) (e : f_Mo_skip_69 k2 k69 h x2 x4 = some (rv, rh)) : zk_Ab X (zs_W S h) 0 0 69 [(0, .ref (S.1 68)), (2, .int x2), (4, .int x4)] [] := by
  unfold f_Mo_skip_69 at e
  refine zk_iload C kd_Mo_skip_69 2 rfl rfl ?_
  refine zk_aload_n C kd_Mo_skip_71 rfl 0 rfl rfl ?_
  refine zs_get (v := .int (h.1 68 1)) C 68 1 rfl rfl rfl rfl ki_Mo (by decide) kw1684 kd_Mo_skip_72 rfl ?_
  refine zk_icmp_ge (tgt := 108) C kd_Mo_skip_75 (by decide) rfl (fun b1 => ?_) (fun b1 => ?_)
  · replace e := zd_pos b1 e
    refine zk_lvs (lv' := [(0, .ref (S.1 68)), (2, .int x2), (4, .int x4)]) [0, 1, 2] rfl ?_
    exact zb_Mo_skip_108 C hR hk2 h x2 x4 e
  · replace e := zd_neg b1 e
    refine zk_aload_n C kd_Mo_skip_78 rfl 0 rfl rfl ?_
    refine zk_iload C kd_Mo_skip_79 2 rfl rfl ?_
    obtain ⟨v3, c2, e⟩ := zd_b e
    refine zs_callV (k := 68) (rn := { frames := 0, cells := 0, slots := 0, locals := 0 }) (As := [.int x4]) (rest := []) C (zc_Mo_byteOf h x4 c2) ku_Mo_byteOf kw2009 kv_Mo_byteOf rfl ⟨by decide, by decide⟩ ⟨by decide, by decide⟩ rfl rfl rfl (Nat.le_of_ble_eq_true rfl) kd_Mo_skip_81 rfl (c1 := 0) (s1 := 0) rfl rfl (fun v w hp => ?_)
    obtain ⟨rfl, rfl⟩ := hp
    refine zk_stk (r' := [.int v3]) rfl ?_
    refine zk_bipush (v := 42) C kd_Mo_skip_84 (by decide) rfl ?_
    refine zk_icmp_ne (tgt := 102) C kd_Mo_skip_86 (by decide) rfl (fun b4 => ?_) (fun b4 => ?_)
    · replace e := zd_neg b4 e
      refine zk_lvs (lv' := [(0, .ref (S.1 68)), (2, .int x2), (4, .int x4)]) [0, 1, 2] rfl ?_
      exact zb_Mo_skip_102 C hR hk2 hk69 h x2 x4 e
    · replace e := zd_pos b4 e
      refine zk_aload_n C kd_Mo_skip_89 rfl 0 rfl rfl ?_
      refine zk_iload C kd_Mo_skip_90 2 rfl rfl ?_
      refine zk_iconst (v := 1) C kd_Mo_skip_92 (by decide) rfl ?_
      refine zk_iadd C kd_Mo_skip_93 rfl ?_
      obtain ⟨v6, c5, e⟩ := zd_b e
      refine zs_callV (k := 68) (rn := { frames := 0, cells := 0, slots := 0, locals := 0 }) (As := [.int (x4 + 1)]) (rest := []) C (zc_Mo_byteOf h (x4 + 1) c5) ku_Mo_byteOf kw2009 kv_Mo_byteOf rfl ⟨by decide, by decide⟩ ⟨by decide, by decide⟩ rfl rfl rfl (Nat.le_of_ble_eq_true rfl) kd_Mo_skip_94 rfl (c1 := 0) (s1 := 0) rfl rfl (fun v w hp => ?_)
      obtain ⟨rfl, rfl⟩ := hp
      refine zk_stk (r' := [.int v6]) rfl ?_
      refine zk_bipush (v := 41) C kd_Mo_skip_97 (by decide) rfl ?_
      refine zk_icmp_eq (tgt := 108) C kd_Mo_skip_99 (by decide) rfl (fun b7 => ?_) (fun b7 => ?_)
      · replace e := zd_pos b7 e
        refine zk_lvs (lv' := [(0, .ref (S.1 68)), (2, .int x2), (4, .int x4)]) [0, 1, 2] rfl ?_
        exact zb_Mo_skip_108 C hR hk2 h x2 x4 e
      · replace e := zd_neg b7 e
        refine zk_lvs (lv' := [(0, .ref (S.1 68)), (2, .int x2), (4, .int x4)]) [0, 1, 2] rfl ?_
        exact zb_Mo_skip_102 C hR hk2 hk69 h x2 x4 e
theorem zl_Mo_skip_69 {X : zkj_T} {S : zs_T} {P : ze_T} {l : Launch} {D : va_G} {sz0 : Nat} {rv : Int32} {rh : zs_H} (C : zk_C X km_Mo_skip (zs_G S l D sz0) { frames := 1, cells := 0, slots := 0, locals := 22 } (ze_E P)) (hR : zkj_R X (zd_PI S rv rh) (some .int)) {k2 : zs_H → Int32 → (Option (Int32 × zs_H))} (hk2 : ∀ (h : zs_H) (x2 : Int32), k2 h x2 = some (rv, rh) → zk_Ab X (zs_W S h) 0 0 2 [(0, .ref (S.1 68)), (2, .int x2)] []) (n : Nat) : ∀ (h : zs_H) (x2 : Int32) (x4 : Int32), f_Mo_skip_L69 k2 n h x2 x4 = some (rv, rh) → zk_Ab X (zs_W S h) 0 0 69 [(0, .ref (S.1 68)), (2, .int x2), (4, .int x4)] [] := by
  induction n with
  | zero => intro h x2 x4 e; exact zd_no e
  | succ n ih => intro h x2 x4 e; exact zb_Mo_skip_69 (k69 := f_Mo_skip_L69 k2 n) C hR hk2 ih h x2 x4 e
set_option maxHeartbeats 4000000 in
set_option maxRecDepth 100000 in
theorem zb_Mo_skip_2 {X : zkj_T} {S : zs_T} {P : ze_T} {l : Launch} {D : va_G} {sz0 : Nat} {rv : Int32} {rh : zs_H} (C : zk_C X km_Mo_skip (zs_G S l D sz0) { frames := 1, cells := 0, slots := 0, locals := 22 } (ze_E P)) (hR : zkj_R X (zd_PI S rv rh) (some .int)) {k2 : zs_H → Int32 → (Option (Int32 × zs_H))} (hk2 : ∀ (h : zs_H) (x2 : Int32), k2 h x2 = some (rv, rh) → zk_Ab X (zs_W S h) 0 0 2 [(0, .ref (S.1 68)), (2, .int x2)] []) (h : zs_H) (x2 : Int32) (e : f_Mo_skip_2 k2 h x2 = some (rv, rh)) : zk_Ab X (zs_W S h) 0 0 2 [(0, .ref (S.1 68)), (2, .int x2)] [] := by
  unfold f_Mo_skip_2 at e
  refine zk_iload_n C kd_Mo_skip_2 rfl 1 rfl rfl ?_
  refine zk_aload_n C kd_Mo_skip_3 rfl 0 rfl rfl ?_
  refine zs_get (v := .int (h.1 68 1)) C 68 1 rfl rfl rfl rfl ki_Mo (by decide) kw1684 kd_Mo_skip_4 rfl ?_
  refine zk_icmp_ge (tgt := 138) C kd_Mo_skip_7 (by decide) rfl (fun b1 => ?_) (fun b1 => ?_)
  · replace e := zd_pos b1 e
    refine zk_iload_n C kd_Mo_skip_138 rfl 1 rfl rfl ?_
    exact zk_iret C hR kd_Mo_skip_139 rfl rfl (zd_rIS e)
  · replace e := zd_neg b1 e
    refine zk_aload_n C kd_Mo_skip_10 rfl 0 rfl rfl ?_
    refine zk_iload_n C kd_Mo_skip_11 rfl 1 rfl rfl ?_
    obtain ⟨v3, c2, e⟩ := zd_b e
    refine zs_callV (k := 68) (rn := { frames := 0, cells := 0, slots := 0, locals := 0 }) (As := [.int x2]) (rest := []) C (zc_Mo_byteOf h x2 c2) ku_Mo_byteOf kw2009 kv_Mo_byteOf rfl ⟨by decide, by decide⟩ ⟨by decide, by decide⟩ rfl rfl rfl (Nat.le_of_ble_eq_true rfl) kd_Mo_skip_12 rfl (c1 := 0) (s1 := 0) rfl rfl (fun v w hp => ?_)
    obtain ⟨rfl, rfl⟩ := hp
    refine zk_stk (r' := [.int v3]) rfl ?_
    refine zk_istore_n (lv' := [(3, _), (0, _), (2, _)]) C kd_Mo_skip_15 rfl (by decide) rfl rfl ?_
    refine zk_iload_n C kd_Mo_skip_16 rfl 0 rfl rfl ?_
    refine zk_bipush (v := 9) C kd_Mo_skip_17 (by decide) rfl ?_
    refine zk_icmp_eq (tgt := 40) C kd_Mo_skip_19 (by decide) rfl (fun b4 => ?_) (fun b4 => ?_)
    · replace e := zd_pos b4 e
      refine zk_lvs (lv' := [(0, .ref (S.1 68)), (2, .int x2)]) [1, 2] rfl ?_
      exact zb_Mo_skip_40 C hR hk2 h x2 e
    · replace e := zd_neg b4 e
      refine zk_iload_n C kd_Mo_skip_22 rfl 0 rfl rfl ?_
      refine zk_bipush (v := 10) C kd_Mo_skip_23 (by decide) rfl ?_
      refine zk_icmp_eq (tgt := 40) C kd_Mo_skip_25 (by decide) rfl (fun b5 => ?_) (fun b5 => ?_)
      · replace e := zd_pos b5 e
        refine zk_lvs (lv' := [(0, .ref (S.1 68)), (2, .int x2)]) [1, 2] rfl ?_
        exact zb_Mo_skip_40 C hR hk2 h x2 e
      · replace e := zd_neg b5 e
        refine zk_iload_n C kd_Mo_skip_28 rfl 0 rfl rfl ?_
        refine zk_bipush (v := 13) C kd_Mo_skip_29 (by decide) rfl ?_
        refine zk_icmp_eq (tgt := 40) C kd_Mo_skip_31 (by decide) rfl (fun b6 => ?_) (fun b6 => ?_)
        · replace e := zd_pos b6 e
          refine zk_lvs (lv' := [(0, .ref (S.1 68)), (2, .int x2)]) [1, 2] rfl ?_
          exact zb_Mo_skip_40 C hR hk2 h x2 e
        · replace e := zd_neg b6 e
          refine zk_iload_n C kd_Mo_skip_34 rfl 0 rfl rfl ?_
          refine zk_bipush (v := 32) C kd_Mo_skip_35 (by decide) rfl ?_
          refine zk_icmp_ne (tgt := 46) C kd_Mo_skip_37 (by decide) rfl (fun b7 => ?_) (fun b7 => ?_)
          · replace e := zd_neg b7 e
            refine zk_iload_n C kd_Mo_skip_46 rfl 0 rfl rfl ?_
            refine zk_bipush (v := 40) C kd_Mo_skip_47 (by decide) rfl ?_
            refine zk_icmp_ne (tgt := 133) C kd_Mo_skip_49 (by decide) rfl (fun b8 => ?_) (fun b8 => ?_)
            · replace e := zd_neg b8 e
              refine zk_iload_n C kd_Mo_skip_133 rfl 2 rfl rfl ?_
              exact zk_iret C hR kd_Mo_skip_134 rfl rfl (zd_rIS e)
            · replace e := zd_pos b8 e
              refine zk_aload_n C kd_Mo_skip_52 rfl 1 rfl rfl ?_
              refine zk_iload_n C kd_Mo_skip_53 rfl 2 rfl rfl ?_
              refine zk_iconst (v := 1) C kd_Mo_skip_54 (by decide) rfl ?_
              refine zk_iadd C kd_Mo_skip_55 rfl ?_
              obtain ⟨v10, c9, e⟩ := zd_b e
              refine zs_callV (k := 68) (rn := { frames := 0, cells := 0, slots := 0, locals := 0 }) (As := [.int (x2 + 1)]) (rest := []) C (zc_Mo_byteOf h (x2 + 1) c9) ku_Mo_byteOf kw2009 kv_Mo_byteOf rfl ⟨by decide, by decide⟩ ⟨by decide, by decide⟩ rfl rfl rfl (Nat.le_of_ble_eq_true rfl) kd_Mo_skip_56 rfl (c1 := 0) (s1 := 0) rfl rfl (fun v w hp => ?_)
              obtain ⟨rfl, rfl⟩ := hp
              refine zk_stk (r' := [.int v10]) rfl ?_
              refine zk_bipush (v := 42) C kd_Mo_skip_59 (by decide) rfl ?_
              refine zk_icmp_ne (tgt := 133) C kd_Mo_skip_61 (by decide) rfl (fun b11 => ?_) (fun b11 => ?_)
              · replace e := zd_neg b11 e
                refine zk_iload_n C kd_Mo_skip_133 rfl 2 rfl rfl ?_
                exact zk_iret C hR kd_Mo_skip_134 rfl rfl (zd_rIS e)
              · replace e := zd_pos b11 e
                refine zk_iload_n C kd_Mo_skip_64 rfl 2 rfl rfl ?_
                refine zk_iconst (v := 2) C kd_Mo_skip_65 (by decide) rfl ?_
                refine zk_iadd C kd_Mo_skip_66 rfl ?_
                refine zk_istore (lv' := [(4, _), (3, _), (0, _), (2, _)]) C kd_Mo_skip_67 (by decide) rfl rfl ?_
                refine zk_lvs (lv' := [(0, .ref (S.1 68)), (2, .int x2), (4, .int (x2 + 2))]) [2, 3, 0] rfl ?_
                exact zl_Mo_skip_69 C hR hk2 zF h x2 (x2 + 2) e
          · replace e := zd_pos b7 e
            refine zk_lvs (lv' := [(0, .ref (S.1 68)), (2, .int x2)]) [1, 2] rfl ?_
            exact zb_Mo_skip_40 C hR hk2 h x2 e
theorem zl_Mo_skip_2 {X : zkj_T} {S : zs_T} {P : ze_T} {l : Launch} {D : va_G} {sz0 : Nat} {rv : Int32} {rh : zs_H} (C : zk_C X km_Mo_skip (zs_G S l D sz0) { frames := 1, cells := 0, slots := 0, locals := 22 } (ze_E P)) (hR : zkj_R X (zd_PI S rv rh) (some .int)) (n : Nat) : ∀ (h : zs_H) (x2 : Int32), f_Mo_skip_L2 n h x2 = some (rv, rh) → zk_Ab X (zs_W S h) 0 0 2 [(0, .ref (S.1 68)), (2, .int x2)] [] := by
  induction n with
  | zero => intro h x2 e; exact zd_no e
  | succ n ih => intro h x2 e; exact zb_Mo_skip_2 (k2 := f_Mo_skip_L2  n) C hR ih h x2 e
set_option maxHeartbeats 4000000 in
set_option maxRecDepth 100000 in
theorem zc_Mo_skip {l : Launch} {D : va_G} {sz0 : Nat} {S : zs_T} {P : ze_T} (h : zs_H) (x1 : Int32) {rv : Int32} {rh : zs_H} (e : f_Mo_skip h x1 = some (rv, rh)) : zk_Sp (zs_G S l D sz0) (ze_E P) km_Mo_skip { frames := 1, cells := 0, slots := 0, locals := 22 } [.ref (S.1 68), .int x1] (zs_W S h) (zd_PI S rv rh) := by
  refine zk_met ku_Mo_skip (Nat.le_of_ble_eq_true rfl) (ze_Em P) ?_
  intro X C hR
  refine zk_lvs (lv' := [(0, .ref (S.1 68)), (1, .int x1)]) [0, 1] rfl ?_
  unfold f_Mo_skip at e
  refine zk_iload_n C kd_Mo_skip_0 rfl 1 rfl rfl ?_
  refine zk_istore_n (lv' := [(2, _), (0, _), (1, _)]) C kd_Mo_skip_1 rfl (by decide) rfl rfl ?_
  refine zk_lvs (lv' := [(0, .ref (S.1 68)), (2, .int x1)]) [1, 0] rfl ?_
  exact zl_Mo_skip_2 C hR zF h x1 e
set_option maxHeartbeats 4000000 in
set_option maxRecDepth 100000 in
theorem zc_Mo_great {l : Launch} {D : va_G} {sz0 : Nat} {S : zs_T} {P : ze_T} (h : zs_H) (x1 : Int32) {rv : Int32} (e : f_Mo_great h x1 = some rv) : zk_Sp (zs_G S l D sz0) (ze_E P) km_Mo_great { frames := 1, cells := 0, slots := 0, locals := 21 } [.ref (S.1 68), .int x1] (zs_W S h) (zd_PI S rv h) := by
  refine zk_met ku_Mo_great (Nat.le_of_ble_eq_true rfl) (ze_Em P) ?_
  intro X C hR
  refine zk_lvs (lv' := [(0, .ref (S.1 68)), (1, .int x1)]) [0, 1] rfl ?_
  unfold f_Mo_great at e
  refine zk_aload_n C kd_Mo_great_0 rfl 0 rfl rfl ?_
  refine zk_iload_n C kd_Mo_great_1 rfl 1 rfl rfl ?_
  obtain ⟨v2, c1, e⟩ := zd_b e
  refine zs_callV (k := 68) (rn := { frames := 0, cells := 0, slots := 0, locals := 0 }) (As := [.int x1]) (rest := []) C (zc_Mo_byteOf h x1 c1) ku_Mo_byteOf kw2009 kv_Mo_byteOf rfl ⟨by decide, by decide⟩ ⟨by decide, by decide⟩ rfl rfl rfl (Nat.le_of_ble_eq_true rfl) kd_Mo_great_2 rfl (c1 := 0) (s1 := 0) rfl rfl (fun v w hp => ?_)
  obtain ⟨rfl, rfl⟩ := hp
  refine zk_stk (r' := [.int v2]) rfl ?_
  refine zk_istore_n (lv' := [(2, _), (0, _), (1, _)]) C kd_Mo_great_5 rfl (by decide) rfl rfl ?_
  refine zk_iload_n C kd_Mo_great_6 rfl 0 rfl rfl ?_
  refine zk_bipush (v := 97) C kd_Mo_great_7 (by decide) rfl ?_
  refine zk_icmp_lt (tgt := 25) C kd_Mo_great_9 (by decide) rfl (fun b3 => ?_) (fun b3 => ?_)
  · replace e := zd_pos b3 e
    refine zk_iload_n C kd_Mo_great_25 rfl 0 rfl rfl ?_
    exact zk_iret C hR kd_Mo_great_26 rfl rfl (zd_rIO e)
  · replace e := zd_neg b3 e
    refine zk_iload_n C kd_Mo_great_12 rfl 0 rfl rfl ?_
    refine zk_bipush (v := 122) C kd_Mo_great_13 (by decide) rfl ?_
    refine zk_icmp_gt (tgt := 25) C kd_Mo_great_15 (by decide) rfl (fun b4 => ?_) (fun b4 => ?_)
    · replace e := zd_pos b4 e
      refine zk_iload_n C kd_Mo_great_25 rfl 0 rfl rfl ?_
      exact zk_iret C hR kd_Mo_great_26 rfl rfl (zd_rIO e)
    · replace e := zd_neg b4 e
      refine zk_iload_n C kd_Mo_great_18 rfl 0 rfl rfl ?_
      refine zk_bipush (v := 32) C kd_Mo_great_19 (by decide) rfl ?_
      refine zk_isub C kd_Mo_great_21 rfl ?_
      refine zk_goto (tgt := 26) C kd_Mo_great_22 (by decide) ?_
      exact zk_iret C hR kd_Mo_great_26 rfl rfl (zd_rIO e)
set_option maxHeartbeats 4000000 in
set_option maxRecDepth 100000 in
theorem zc_Mo_digit {l : Launch} {D : va_G} {sz0 : Nat} {S : zs_T} {P : ze_T} (h : zs_H) (x0 : Int32) : zk_Sp (zs_G S l D sz0) (ze_E P) km_Mo_digit { frames := 1, cells := 0, slots := 0, locals := 20 } [.int x0] (zs_W S h) (zd_PI S (f_Mo_digit x0) h) := by
  obtain ⟨rv, e⟩ : ∃ rv, f_Mo_digit x0 = rv := ⟨_, rfl⟩
  rw [e]
  refine zk_met ku_Mo_digit (Nat.le_of_ble_eq_true rfl) (ze_Em P) ?_
  intro X C hR
  refine zk_lvs (lv' := [(0, .int x0)]) [0] rfl ?_
  unfold f_Mo_digit at e
  refine zk_iload_n C kd_Mo_digit_0 rfl 0 rfl rfl ?_
  refine zk_callS (rn := { frames := 0, cells := 0, slots := 0, locals := 0 }) (As := [.int x0]) (rest := []) C (zc_Mo_isDigit h x0) ku_Mo_isDigit kw2033 ks_Mo_isDigit rfl ⟨by decide, by decide⟩ ⟨by decide, by decide⟩ rfl (Nat.le_of_ble_eq_true rfl) kd_Mo_digit_1 rfl (c1 := 0) (s1 := 0) rfl rfl (fun v w hp => ?_)
  obtain ⟨rfl, rfl, z1⟩ := hp
  refine zk_stk (r' := [.int (f_Mo_isDigit x0)]) rfl ?_
  refine zk_if_eq (tgt := 14) C kd_Mo_digit_4 (by decide) rfl (fun b2 => ?_) (fun b2 => ?_)
  · replace e := zd_pos b2 e
    refine zk_iload_n C kd_Mo_digit_14 rfl 0 rfl rfl ?_
    refine zk_bipush (v := 65) C kd_Mo_digit_15 (by decide) rfl ?_
    refine zk_icmp_lt (tgt := 33) C kd_Mo_digit_17 (by decide) rfl (fun b3 => ?_) (fun b3 => ?_)
    · replace e := zd_pos b3 e
      refine zk_bipush (v := 99) C kd_Mo_digit_33 (by decide) rfl ?_
      exact zk_iret C hR kd_Mo_digit_35 rfl rfl (zd_rIT e)
    · replace e := zd_neg b3 e
      refine zk_iload_n C kd_Mo_digit_20 rfl 0 rfl rfl ?_
      refine zk_bipush (v := 70) C kd_Mo_digit_21 (by decide) rfl ?_
      refine zk_icmp_gt (tgt := 33) C kd_Mo_digit_23 (by decide) rfl (fun b4 => ?_) (fun b4 => ?_)
      · replace e := zd_pos b4 e
        refine zk_bipush (v := 99) C kd_Mo_digit_33 (by decide) rfl ?_
        exact zk_iret C hR kd_Mo_digit_35 rfl rfl (zd_rIT e)
      · replace e := zd_neg b4 e
        refine zk_iload_n C kd_Mo_digit_26 rfl 0 rfl rfl ?_
        refine zk_bipush (v := 55) C kd_Mo_digit_27 (by decide) rfl ?_
        refine zk_isub C kd_Mo_digit_29 rfl ?_
        refine zk_goto (tgt := 35) C kd_Mo_digit_30 (by decide) ?_
        exact zk_iret C hR kd_Mo_digit_35 rfl rfl (zd_rIT e)
  · replace e := zd_neg b2 e
    refine zk_iload_n C kd_Mo_digit_7 rfl 0 rfl rfl ?_
    refine zk_bipush (v := 48) C kd_Mo_digit_8 (by decide) rfl ?_
    refine zk_isub C kd_Mo_digit_10 rfl ?_
    refine zk_goto (tgt := 35) C kd_Mo_digit_11 (by decide) ?_
    exact zk_iret C hR kd_Mo_digit_35 rfl rfl (zd_rIT e)
set_option maxHeartbeats 4000000 in
set_option maxRecDepth 100000 in
theorem zb_Mo_digits_67 {X : zkj_T} {S : zs_T} {P : ze_T} {l : Launch} {D : va_G} {sz0 : Nat} {rv : Int64} {rh : zs_H} (C : zk_C X km_Mo_digits (zs_G S l D sz0) { frames := 2, cells := 0, slots := 0, locals := 43 } (ze_E P)) (hR : zkj_R X (zd_PJ S rv rh) (some .long)) {k9 : zs_H → Int32 → Int64 → (Option (Int64 × zs_H))} (hk9 : ∀ (h : zs_H) (x2 : Int32) (x3 : Int64), k9 h x2 x3 = some (rv, rh) → zk_Ab X (zs_W S h) 0 0 9 [(0, .ref (S.1 68)), (2, .int x2), (3, .long x3)] []) (h : zs_H) (x2 : Int32) (y0 : Int64) (e : f_Mo_digits_67 k9 h x2 y0 = some (rv, rh)) : zk_Ab X (zs_W S h) 0 0 67 [(0, .ref (S.1 68)), (2, .int x2)] [.long y0] := by
  unfold f_Mo_digits_67 at e
  refine zk_lstore_n (lv' := [(3, _), (0, _), (2, _)]) C kd_Mo_digits_67 rfl (by decide) rfl rfl ?_
  refine zk_aload_n C kd_Mo_digits_68 rfl 1 rfl rfl ?_
  refine zk_dup C kd_Mo_digits_69 rfl rfl ?_
  refine zs_get (v := .int (h.1 68 8)) C 68 8 rfl rfl rfl rfl ki_Mo (by decide) kw1691 kd_Mo_digits_70 rfl ?_
  refine zk_iconst (v := 1) C kd_Mo_digits_73 (by decide) rfl ?_
  refine zk_iadd C kd_Mo_digits_74 rfl ?_
  refine zs_put (ty := .int) C 68 8 ((h.1 68 8) + 1) rfl rfl rfl rfl ki_Mo ky_Mo ko_Mo kn_Mo (by decide) kw1691 rfl rfl rfl rfl (by decide) kd_Mo_digits_75 rfl ?_
  refine zk_goto (tgt := 9) C kd_Mo_digits_78 (by decide) ?_
  refine zk_lvs (lv' := [(0, .ref (S.1 68)), (2, .int x2), (3, .long y0)]) [1, 2, 0] rfl ?_
  exact hk9 (zs_uF h 68 8 ((h.1 68 8) + 1)) x2 y0 e
set_option maxHeartbeats 4000000 in
set_option maxRecDepth 100000 in
theorem zb_Mo_digits_35 {X : zkj_T} {S : zs_T} {P : ze_T} {l : Launch} {D : va_G} {sz0 : Nat} {rv : Int64} {rh : zs_H} (C : zk_C X km_Mo_digits (zs_G S l D sz0) { frames := 2, cells := 0, slots := 0, locals := 43 } (ze_E P)) (hR : zkj_R X (zd_PJ S rv rh) (some .long)) {k9 : zs_H → Int32 → Int64 → (Option (Int64 × zs_H))} (hk9 : ∀ (h : zs_H) (x2 : Int32) (x3 : Int64), k9 h x2 x3 = some (rv, rh) → zk_Ab X (zs_W S h) 0 0 9 [(0, .ref (S.1 68)), (2, .int x2), (3, .long x3)] []) (h : zs_H) (x2 : Int32) (y0 : Int64) (e : f_Mo_digits_35 k9 h x2 y0 = some (rv, rh)) : zk_Ab X (zs_W S h) 0 0 35 [(0, .ref (S.1 68)), (2, .int x2)] [.long y0] := by
  unfold f_Mo_digits_35 at e
  refine zk_iload_n C kd_Mo_digits_35 rfl 1 rfl rfl ?_
  refine zk_i2l C kd_Mo_digits_36 rfl ?_
  refine zk_lmul C kd_Mo_digits_37 rfl ?_
  refine zk_aload_n C kd_Mo_digits_38 rfl 0 rfl rfl ?_
  refine zk_aload_n C kd_Mo_digits_39 rfl 0 rfl rfl ?_
  refine zs_get (v := .int (h.1 68 8)) C 68 8 rfl rfl rfl rfl ki_Mo (by decide) kw1691 kd_Mo_digits_40 rfl ?_
  obtain ⟨v2, c1, e⟩ := zd_b e
  refine zs_callV (k := 68) (rn := { frames := 1, cells := 0, slots := 0, locals := 21 }) (As := [.int (h.1 68 8)]) (rest := [.long (y0 * (x2.toInt64))]) C (zc_Mo_great h (h.1 68 8) c1) ku_Mo_great kw2017 kv_Mo_great rfl ⟨by decide, by decide⟩ ⟨by decide, by decide⟩ rfl rfl rfl (Nat.le_of_ble_eq_true rfl) kd_Mo_digits_43 rfl (c1 := 0) (s1 := 0) rfl rfl (fun v w hp => ?_)
  obtain ⟨rfl, rfl⟩ := hp
  refine zk_stk (r' := [.int v2, .long (y0 * (x2.toInt64))]) rfl ?_
  refine zk_callS (rn := { frames := 1, cells := 0, slots := 0, locals := 20 }) (As := [.int v2]) (rest := [.long (y0 * (x2.toInt64))]) C (zc_Mo_digit h v2) ku_Mo_digit kw2030 ks_Mo_digit rfl ⟨by decide, by decide⟩ ⟨by decide, by decide⟩ rfl (Nat.le_of_ble_eq_true rfl) kd_Mo_digits_46 rfl (c1 := 0) (s1 := 0) rfl rfl (fun v w hp => ?_)
  obtain ⟨rfl, rfl⟩ := hp
  refine zk_stk (r' := [.int (f_Mo_digit v2), .long (y0 * (x2.toInt64))]) rfl ?_
  refine zk_i2l C kd_Mo_digits_49 rfl ?_
  refine zk_ladd C kd_Mo_digits_50 rfl ?_
  refine zk_lstore_n (lv' := [(3, _), (0, _), (2, _)]) C kd_Mo_digits_51 rfl (by decide) rfl rfl ?_
  refine zk_lload_n C kd_Mo_digits_52 rfl 0 rfl rfl ?_
  refine zk_ldc2 (v := 100000000000000000) C kw2036 kd_Mo_digits_53 rfl ?_
  refine zk_lcmp C kd_Mo_digits_56 rfl ?_
  refine zk_if_le (tgt := 66) C kd_Mo_digits_57 (by decide) rfl (fun b3 => ?_) (fun b3 => ?_)
  · replace e := zd_pos (zd_cle.mp b3) e
    refine zk_lload_n C kd_Mo_digits_66 rfl 0 rfl rfl ?_
    refine zk_lvs (lv' := [(0, .ref (S.1 68)), (2, .int x2)]) [1, 2] rfl ?_
    exact zb_Mo_digits_67 C hR hk9 h x2 ((y0 * (x2.toInt64)) + ((f_Mo_digit v2).toInt64)) e
  · replace e := zd_neg (fun z => b3 (zd_cle.mpr z)) e
    refine zk_ldc2 (v := 100000000000000000) C kw2036 kd_Mo_digits_60 rfl ?_
    refine zk_goto (tgt := 67) C kd_Mo_digits_63 (by decide) ?_
    refine zk_lvs (lv' := [(0, .ref (S.1 68)), (2, .int x2)]) [1, 2] rfl ?_
    exact zb_Mo_digits_67 C hR hk9 h x2 (100000000000000000 : Int64) e
set_option maxHeartbeats 4000000 in
set_option maxRecDepth 100000 in
theorem zb_Mo_digits_9 {X : zkj_T} {S : zs_T} {P : ze_T} {l : Launch} {D : va_G} {sz0 : Nat} {rv : Int64} {rh : zs_H} (C : zk_C X km_Mo_digits (zs_G S l D sz0) { frames := 2, cells := 0, slots := 0, locals := 43 } (ze_E P)) (hR : zkj_R X (zd_PJ S rv rh) (some .long)) {k9 : zs_H → Int32 → Int64 → (Option (Int64 × zs_H))} (hk9 : ∀ (h : zs_H) (x2 : Int32) (x3 : Int64), k9 h x2 x3 = some (rv, rh) → zk_Ab X (zs_W S h) 0 0 9 [(0, .ref (S.1 68)), (2, .int x2), (3, .long x3)] []) (h : zs_H) (x2 : Int32) (x3 : Int64) (e : f_Mo_digits_9 k9 h x2 x3 = some (rv, rh)) : zk_Ab X (zs_W S h) 0 0 9 [(0, .ref (S.1 68)), (2, .int x2), (3, .long x3)] [] := by
  unfold f_Mo_digits_9 at e
  refine zk_aload_n C kd_Mo_digits_9 rfl 0 rfl rfl ?_
  refine zk_aload_n C kd_Mo_digits_10 rfl 0 rfl rfl ?_
  refine zs_get (v := .int (h.1 68 8)) C 68 8 rfl rfl rfl rfl ki_Mo (by decide) kw1691 kd_Mo_digits_11 rfl ?_
  obtain ⟨v2, c1, e⟩ := zd_b e
  refine zs_callV (k := 68) (rn := { frames := 1, cells := 0, slots := 0, locals := 21 }) (As := [.int (h.1 68 8)]) (rest := []) C (zc_Mo_great h (h.1 68 8) c1) ku_Mo_great kw2017 kv_Mo_great rfl ⟨by decide, by decide⟩ ⟨by decide, by decide⟩ rfl rfl rfl (Nat.le_of_ble_eq_true rfl) kd_Mo_digits_14 rfl (c1 := 0) (s1 := 0) rfl rfl (fun v w hp => ?_)
  obtain ⟨rfl, rfl⟩ := hp
  refine zk_stk (r' := [.int v2]) rfl ?_
  refine zk_callS (rn := { frames := 1, cells := 0, slots := 0, locals := 20 }) (As := [.int v2]) (rest := []) C (zc_Mo_digit h v2) ku_Mo_digit kw2030 ks_Mo_digit rfl ⟨by decide, by decide⟩ ⟨by decide, by decide⟩ rfl (Nat.le_of_ble_eq_true rfl) kd_Mo_digits_17 rfl (c1 := 0) (s1 := 0) rfl rfl (fun v w hp => ?_)
  obtain ⟨rfl, rfl⟩ := hp
  refine zk_stk (r' := [.int (f_Mo_digit v2)]) rfl ?_
  refine zk_iload_n C kd_Mo_digits_20 rfl 1 rfl rfl ?_
  refine zk_icmp_ge (tgt := 81) C kd_Mo_digits_21 (by decide) rfl (fun b3 => ?_) (fun b3 => ?_)
  · replace e := zd_pos b3 e
    refine zk_lload_n C kd_Mo_digits_81 rfl 2 rfl rfl ?_
    exact zk_lret C hR kd_Mo_digits_82 rfl rfl (zd_rJS e)
  · replace e := zd_neg b3 e
    refine zk_lload_n C kd_Mo_digits_24 rfl 2 rfl rfl ?_
    refine zk_lconst (v := 0) C kd_Mo_digits_25 (by decide) rfl ?_
    refine zk_lcmp C kd_Mo_digits_26 rfl ?_
    refine zk_if_ge (tgt := 34) C kd_Mo_digits_27 (by decide) rfl (fun b4 => ?_) (fun b4 => ?_)
    · replace e := zd_pos (zd_cge.mp b4) e
      refine zk_lload_n C kd_Mo_digits_34 rfl 2 rfl rfl ?_
      refine zk_lvs (lv' := [(0, .ref (S.1 68)), (2, .int x2)]) [0, 1] rfl ?_
      exact zb_Mo_digits_35 C hR hk9 h x2 x3 e
    · replace e := zd_neg (fun z => b4 (zd_cge.mpr z)) e
      refine zk_lconst (v := 0) C kd_Mo_digits_30 (by decide) rfl ?_
      refine zk_goto (tgt := 35) C kd_Mo_digits_31 (by decide) ?_
      refine zk_lvs (lv' := [(0, .ref (S.1 68)), (2, .int x2)]) [0, 1] rfl ?_
      exact zb_Mo_digits_35 C hR hk9 h x2 (0 : Int64) e
theorem zl_Mo_digits_9 {X : zkj_T} {S : zs_T} {P : ze_T} {l : Launch} {D : va_G} {sz0 : Nat} {rv : Int64} {rh : zs_H} (C : zk_C X km_Mo_digits (zs_G S l D sz0) { frames := 2, cells := 0, slots := 0, locals := 43 } (ze_E P)) (hR : zkj_R X (zd_PJ S rv rh) (some .long)) (n : Nat) : ∀ (h : zs_H) (x2 : Int32) (x3 : Int64), f_Mo_digits_L9 n h x2 x3 = some (rv, rh) → zk_Ab X (zs_W S h) 0 0 9 [(0, .ref (S.1 68)), (2, .int x2), (3, .long x3)] [] := by
  induction n with
  | zero => intro h x2 x3 e; exact zd_no e
  | succ n ih => intro h x2 x3 e; exact zb_Mo_digits_9 (k9 := f_Mo_digits_L9  n) C hR ih h x2 x3 e
set_option maxHeartbeats 4000000 in
set_option maxRecDepth 100000 in
theorem zc_Mo_digits {l : Launch} {D : va_G} {sz0 : Nat} {S : zs_T} {P : ze_T} (h : zs_H) (x1 : Int32) (x2 : Int32) {rv : Int64} {rh : zs_H} (e : f_Mo_digits h x1 x2 = some (rv, rh)) : zk_Sp (zs_G S l D sz0) (ze_E P) km_Mo_digits { frames := 2, cells := 0, slots := 0, locals := 43 } [.ref (S.1 68), .int x1, .int x2] (zs_W S h) (zd_PJ S rv rh) := by
  refine zk_met ku_Mo_digits (Nat.le_of_ble_eq_true rfl) (ze_Em P) ?_
  intro X C hR
  refine zk_lvs (lv' := [(0, .ref (S.1 68)), (1, .int x1), (2, .int x2)]) [0, 1, 2] rfl ?_
  unfold f_Mo_digits at e
  refine zk_aload_n C kd_Mo_digits_0 rfl 0 rfl rfl ?_
  refine zk_iload_n C kd_Mo_digits_1 rfl 1 rfl rfl ?_
  refine zs_put (ty := .int) C 68 8 x1 rfl rfl rfl rfl ki_Mo ky_Mo ko_Mo kn_Mo (by decide) kw1691 rfl rfl rfl rfl (by decide) kd_Mo_digits_2 rfl ?_
  refine zk_ldc2 (v := (-1)) C kw2029 kd_Mo_digits_5 rfl ?_
  refine zk_lstore_n (lv' := [(3, _), (0, _), (1, _), (2, _)]) C kd_Mo_digits_8 rfl (by decide) rfl rfl ?_
  refine zk_lvs (lv' := [(0, .ref (S.1 68)), (2, .int x2), (3, .long (-1))]) [1, 3, 0] rfl ?_
  exact zl_Mo_digits_9 C hR zF (zs_uF h 68 8 x1) x2 (-1 : Int64) e
set_option maxHeartbeats 4000000 in
set_option maxRecDepth 100000 in
theorem zc_Mo_goesOn {l : Launch} {D : va_G} {sz0 : Nat} {S : zs_T} {P : ze_T} (h : zs_H) (x1 : Int32) {rv : Int32} (e : f_Mo_goesOn h x1 = some rv) : zk_Sp (zs_G S l D sz0) (ze_E P) km_Mo_goesOn { frames := 2, cells := 0, slots := 0, locals := 43 } [.ref (S.1 68), .int x1] (zs_W S h) (zd_PZ S rv h) := by
  refine zk_met ku_Mo_goesOn (Nat.le_of_ble_eq_true rfl) (ze_Em P) ?_
  intro X C hR
  refine zk_lvs (lv' := [(0, .ref (S.1 68)), (1, .int x1)]) [0, 1] rfl ?_
  unfold f_Mo_goesOn at e
  refine zk_aload_n C kd_Mo_goesOn_0 rfl 0 rfl rfl ?_
  refine zk_iload_n C kd_Mo_goesOn_1 rfl 1 rfl rfl ?_
  obtain ⟨v2, c1, e⟩ := zd_b e
  refine zs_callV (k := 68) (rn := { frames := 1, cells := 0, slots := 0, locals := 21 }) (As := [.int x1]) (rest := []) C (zc_Mo_great h x1 c1) ku_Mo_great kw2017 kv_Mo_great rfl ⟨by decide, by decide⟩ ⟨by decide, by decide⟩ rfl rfl rfl (Nat.le_of_ble_eq_true rfl) kd_Mo_goesOn_2 rfl (c1 := 0) (s1 := 0) rfl rfl (fun v w hp => ?_)
  obtain ⟨rfl, rfl⟩ := hp
  refine zk_stk (r' := [.int v2]) rfl ?_
  refine zk_callS (rn := { frames := 0, cells := 0, slots := 0, locals := 0 }) (As := [.int v2]) (rest := []) C (zc_Mo_isLetter h v2) ku_Mo_isLetter kw2048 ks_Mo_isLetter rfl ⟨by decide, by decide⟩ ⟨by decide, by decide⟩ rfl (Nat.le_of_ble_eq_true rfl) kd_Mo_goesOn_5 rfl (c1 := 0) (s1 := 0) rfl rfl (fun v w hp => ?_)
  obtain ⟨rfl, rfl, z3⟩ := hp
  refine zk_stk (r' := [.int (f_Mo_isLetter v2)]) rfl ?_
  refine zk_if_ne (tgt := 22) C kd_Mo_goesOn_8 (by decide) rfl (fun b4 => ?_) (fun b4 => ?_)
  · replace e := zd_neg b4 e
    refine zk_iconst (v := 1) C kd_Mo_goesOn_22 (by decide) rfl ?_
    refine zk_goto (tgt := 27) C kd_Mo_goesOn_23 (by decide) ?_
    exact zk_zret C hR (zd_nb (Or.inr rfl)) kd_Mo_goesOn_27 rfl rfl (zd_rZO (Or.inr rfl) e)
  · replace e := zd_pos b4 e
    refine zk_aload_n C kd_Mo_goesOn_11 rfl 0 rfl rfl ?_
    refine zk_iload_n C kd_Mo_goesOn_12 rfl 1 rfl rfl ?_
    obtain ⟨v6, c5, e⟩ := zd_b e
    refine zs_callV (k := 68) (rn := { frames := 0, cells := 0, slots := 0, locals := 0 }) (As := [.int x1]) (rest := []) C (zc_Mo_byteOf h x1 c5) ku_Mo_byteOf kw2009 kv_Mo_byteOf rfl ⟨by decide, by decide⟩ ⟨by decide, by decide⟩ rfl rfl rfl (Nat.le_of_ble_eq_true rfl) kd_Mo_goesOn_13 rfl (c1 := 0) (s1 := 0) rfl rfl (fun v w hp => ?_)
    obtain ⟨rfl, rfl⟩ := hp
    refine zk_stk (r' := [.int v6]) rfl ?_
    refine zk_callS (rn := { frames := 0, cells := 0, slots := 0, locals := 0 }) (As := [.int v6]) (rest := []) C (zc_Mo_isDigit h v6) ku_Mo_isDigit kw2033 ks_Mo_isDigit rfl ⟨by decide, by decide⟩ ⟨by decide, by decide⟩ rfl (Nat.le_of_ble_eq_true rfl) kd_Mo_goesOn_16 rfl (c1 := 0) (s1 := 0) rfl rfl (fun v w hp => ?_)
    obtain ⟨rfl, rfl, z7⟩ := hp
    refine zk_stk (r' := [.int (f_Mo_isDigit v6)]) rfl ?_
    refine zk_if_eq (tgt := 26) C kd_Mo_goesOn_19 (by decide) rfl (fun b8 => ?_) (fun b8 => ?_)
    · replace e := zd_pos b8 e
      refine zk_iconst (v := 0) C kd_Mo_goesOn_26 (by decide) rfl ?_
      exact zk_zret C hR (zd_nb (Or.inl rfl)) kd_Mo_goesOn_27 rfl rfl (zd_rZO (Or.inl rfl) e)
    · replace e := zd_neg b8 e
      refine zk_iconst (v := 1) C kd_Mo_goesOn_22 (by decide) rfl ?_
      refine zk_goto (tgt := 27) C kd_Mo_goesOn_23 (by decide) ?_
      exact zk_zret C hR (zd_nb (Or.inr rfl)) kd_Mo_goesOn_27 rfl rfl (zd_rZO (Or.inr rfl) e)
set_option maxHeartbeats 4000000 in
set_option maxRecDepth 100000 in
theorem zb_Mo_settle_25 {X : zkj_T} {S : zs_T} {P : ze_T} {l : Launch} {D : va_G} {sz0 : Nat} {rh : zs_H} (C : zk_C X km_Mo_settle (zs_G S l D sz0) { frames := 3, cells := 0, slots := 0, locals := 64 } (ze_E P)) (hR : zkj_R X (zd_PV S rh) (none)) (h : zs_H) (e : f_Mo_settle_25 h = some rh) : zk_Ab X (zs_W S h) 0 0 25 [(0, .ref (S.1 68))] [] := by
  unfold f_Mo_settle_25 at e
  refine zk_aload_n C kd_Mo_settle_25 rfl 0 rfl rfl ?_
  refine zk_iconst (v := 4) C kd_Mo_settle_26 (by decide) rfl ?_
  refine zk_aload_n C kd_Mo_settle_27 rfl 0 rfl rfl ?_
  refine zs_get (v := .int (h.1 68 7)) C 68 7 rfl rfl rfl rfl ki_Mo (by decide) kw1690 kd_Mo_settle_28 rfl ?_
  obtain ⟨h2, c1, e⟩ := zd_b e
  refine zs_callV (k := 68) (rn := { frames := 0, cells := 0, slots := 0, locals := 0 }) (As := [.int 4, .int (h.1 68 7)]) (rest := []) C (zc_Mo_fail h 4 (h.1 68 7) c1) ku_Mo_fail kw2013 kv_Mo_fail rfl ⟨by decide, by decide⟩ ⟨by decide, by decide⟩ rfl rfl rfl (Nat.le_of_ble_eq_true rfl) kd_Mo_settle_31 rfl (c1 := 0) (s1 := 0) rfl rfl (fun v w hp => ?_)
  obtain ⟨rfl, rfl⟩ := hp
  refine zk_stk (r' := []) rfl ?_
  refine zk_goto (tgt := 48) C kd_Mo_settle_34 (by decide) ?_
  exact zk_vret C hR kd_Mo_settle_48 rfl rfl (zd_rV e)
set_option maxHeartbeats 4000000 in
set_option maxRecDepth 100000 in
theorem zc_Mo_settle {l : Launch} {D : va_G} {sz0 : Nat} {S : zs_T} {P : ze_T} (h : zs_H) (x1 : Int64) {rh : zs_H} (e : f_Mo_settle h x1 = some rh) : zk_Sp (zs_G S l D sz0) (ze_E P) km_Mo_settle { frames := 3, cells := 0, slots := 0, locals := 64 } [.ref (S.1 68), .long x1] (zs_W S h) (zd_PV S rh) := by
  refine zk_met ku_Mo_settle (Nat.le_of_ble_eq_true rfl) (ze_Em P) ?_
  intro X C hR
  refine zk_lvs (lv' := [(0, .ref (S.1 68)), (1, .long x1)]) [0, 1] rfl ?_
  unfold f_Mo_settle at e
  refine zk_lload_n C kd_Mo_settle_0 rfl 1 rfl rfl ?_
  refine zk_lconst (v := 0) C kd_Mo_settle_1 (by decide) rfl ?_
  refine zk_lcmp C kd_Mo_settle_2 rfl ?_
  refine zk_if_lt (tgt := 25) C kd_Mo_settle_3 (by decide) rfl (fun b1 => ?_) (fun b1 => ?_)
  · replace e := zd_pos (zd_clt.mp b1) e
    refine zk_lvs (lv' := [(0, .ref (S.1 68))]) [0] rfl ?_
    exact zb_Mo_settle_25 C hR h e
  · replace e := zd_neg (fun z => b1 (zd_clt.mpr z)) e
    refine zk_lload_n C kd_Mo_settle_6 rfl 1 rfl rfl ?_
    refine zk_ldc2 (v := 2147483647) C kw2039 kd_Mo_settle_7 rfl ?_
    refine zk_lcmp C kd_Mo_settle_10 rfl ?_
    refine zk_if_gt (tgt := 25) C kd_Mo_settle_11 (by decide) rfl (fun b2 => ?_) (fun b2 => ?_)
    · replace e := zd_pos (zd_cgt.mp b2) e
      refine zk_lvs (lv' := [(0, .ref (S.1 68))]) [0] rfl ?_
      exact zb_Mo_settle_25 C hR h e
    · replace e := zd_neg (fun z => b2 (zd_cgt.mpr z)) e
      refine zk_aload_n C kd_Mo_settle_14 rfl 0 rfl rfl ?_
      refine zk_aload_n C kd_Mo_settle_15 rfl 0 rfl rfl ?_
      refine zs_get (v := .int (h.1 68 8)) C 68 8 rfl rfl rfl rfl ki_Mo (by decide) kw1691 kd_Mo_settle_16 rfl ?_
      obtain ⟨v4, c3, e⟩ := zd_b e
      refine zs_callV (k := 68) (rn := { frames := 2, cells := 0, slots := 0, locals := 43 }) (As := [.int (h.1 68 8)]) (rest := []) C (zc_Mo_goesOn h (h.1 68 8) c3) ku_Mo_goesOn kw2044 kv_Mo_goesOn rfl ⟨by decide, by decide⟩ ⟨by decide, by decide⟩ rfl rfl rfl (Nat.le_of_ble_eq_true rfl) kd_Mo_settle_19 rfl (c1 := 0) (s1 := 0) rfl rfl (fun v w hp => ?_)
      obtain ⟨rfl, rfl, z5⟩ := hp
      refine zk_stk (r' := [.int v4]) rfl ?_
      refine zk_if_eq (tgt := 37) C kd_Mo_settle_22 (by decide) rfl (fun b6 => ?_) (fun b6 => ?_)
      · replace e := zd_pos b6 e
        refine zk_aload_n C kd_Mo_settle_37 rfl 0 rfl rfl ?_
        refine zk_iconst (v := 3) C kd_Mo_settle_38 (by decide) rfl ?_
        refine zs_put (ty := .int) C 68 6 3 rfl rfl rfl rfl ki_Mo ky_Mo ko_Mo kn_Mo (by decide) kw1689 rfl rfl rfl rfl (by decide) kd_Mo_settle_39 rfl ?_
        refine zk_aload_n C kd_Mo_settle_42 rfl 0 rfl rfl ?_
        refine zk_lload_n C kd_Mo_settle_43 rfl 1 rfl rfl ?_
        refine zk_l2i C kd_Mo_settle_44 rfl ?_
        refine zs_put (ty := .int) C 68 9 (x1.toInt32) rfl rfl rfl rfl ki_Mo ky_Mo ko_Mo kn_Mo (by decide) kw1692 rfl rfl rfl rfl (by decide) kd_Mo_settle_45 rfl ?_
        exact zk_vret C hR kd_Mo_settle_48 rfl rfl (zd_rV e)
      · replace e := zd_neg b6 e
        refine zk_lvs (lv' := [(0, .ref (S.1 68))]) [0] rfl ?_
        exact zb_Mo_settle_25 C hR h e
set_option maxHeartbeats 4000000 in
set_option maxRecDepth 100000 in
theorem zb_Mo_readTime_150 {X : zkj_T} {S : zs_T} {P : ze_T} {l : Launch} {D : va_G} {sz0 : Nat} {rh : zs_H} (C : zk_C X km_Mo_readTime (zs_G S l D sz0) { frames := 4, cells := 0, slots := 0, locals := 86 } (ze_E P)) (hR : zkj_R X (zd_PV S rh) (none)) (h : zs_H) (y0 : Int64) (e : f_Mo_readTime_150 h y0 = some rh) : zk_Ab X (zs_W S h) 0 0 150 [] [.long y0, .ref (S.1 68)] := by
  unfold f_Mo_readTime_150 at e
  obtain ⟨h2, c1, e⟩ := zd_b e
  refine zs_callV (k := 68) (rn := { frames := 3, cells := 0, slots := 0, locals := 64 }) (As := [.long y0]) (rest := []) C (zc_Mo_settle h y0 c1) ku_Mo_settle kw2040 kv_Mo_settle rfl ⟨by decide, by decide⟩ ⟨by decide, by decide⟩ rfl rfl rfl (Nat.le_of_ble_eq_true rfl) kd_Mo_readTime_150 rfl (c1 := 0) (s1 := 0) rfl rfl (fun v w hp => ?_)
  obtain ⟨rfl, rfl⟩ := hp
  refine zk_stk (r' := []) rfl ?_
  exact zk_vret C hR kd_Mo_readTime_153 rfl rfl (zd_rV e)
set_option maxHeartbeats 4000000 in
set_option maxRecDepth 100000 in
theorem zb_Mo_readTime_127 {X : zkj_T} {S : zs_T} {P : ze_T} {l : Launch} {D : va_G} {sz0 : Nat} {rh : zs_H} (C : zk_C X km_Mo_readTime (zs_G S l D sz0) { frames := 4, cells := 0, slots := 0, locals := 86 } (ze_E P)) (hR : zkj_R X (zd_PV S rh) (none)) (h : zs_H) (e : f_Mo_readTime_127 h = some rh) : zk_Ab X (zs_W S h) 0 0 127 [] [.ref (S.1 68)] := by
  unfold f_Mo_readTime_127 at e
  refine zk_ldc2 (v := (-1)) C kw2029 kd_Mo_readTime_127 rfl ?_
  refine zk_goto (tgt := 150) C kd_Mo_readTime_130 (by decide) ?_
  refine zk_lvs (lv' := []) [] rfl ?_
  exact zb_Mo_readTime_150 C hR h (-1 : Int64) e
set_option maxHeartbeats 4000000 in
set_option maxRecDepth 100000 in
theorem zb_Mo_readTime_111 {X : zkj_T} {S : zs_T} {P : ze_T} {l : Launch} {D : va_G} {sz0 : Nat} {rh : zs_H} (C : zk_C X km_Mo_readTime (zs_G S l D sz0) { frames := 4, cells := 0, slots := 0, locals := 86 } (ze_E P)) (hR : zkj_R X (zd_PV S rh) (none)) (h : zs_H) (x1 : Int64) (x4 : Int32) (y0 : Int32) (y1 : Int32) (e : f_Mo_readTime_111 h x1 x4 y0 y1 = some rh) : zk_Ab X (zs_W S h) 0 0 111 [(0, .ref (S.1 68)), (1, .long x1), (4, .int x4)] [.int y0, .int y1, .ref (S.1 68)] := by
  unfold f_Mo_readTime_111 at e
  refine zk_iadd C kd_Mo_readTime_111 rfl ?_
  refine zs_put (ty := .int) C 68 8 (y1 + y0) rfl rfl rfl rfl ki_Mo ky_Mo ko_Mo kn_Mo (by decide) kw1691 rfl rfl rfl rfl (by decide) kd_Mo_readTime_112 rfl ?_
  refine zk_aload_n C kd_Mo_readTime_115 rfl 0 rfl rfl ?_
  refine zk_iload C kd_Mo_readTime_116 2 rfl rfl ?_
  refine zk_if_eq (tgt := 127) C kd_Mo_readTime_118 (by decide) rfl (fun b1 => ?_) (fun b1 => ?_)
  · replace e := zd_pos b1 e
    refine zk_lvs (lv' := []) [] rfl ?_
    exact zb_Mo_readTime_127 C hR (zs_uF h 68 8 (y1 + y0)) e
  · replace e := zd_neg b1 e
    refine zk_lload_n C kd_Mo_readTime_121 rfl 1 rfl rfl ?_
    refine zk_lconst (v := 0) C kd_Mo_readTime_122 (by decide) rfl ?_
    refine zk_lcmp C kd_Mo_readTime_123 rfl ?_
    refine zk_if_ge (tgt := 133) C kd_Mo_readTime_124 (by decide) rfl (fun b2 => ?_) (fun b2 => ?_)
    · replace e := zd_pos (zd_cge.mp b2) e
      refine zk_lload_n C kd_Mo_readTime_133 rfl 1 rfl rfl ?_
      refine zk_ldc2 (v := 2147483647) C kw2039 kd_Mo_readTime_134 rfl ?_
      refine zk_lcmp C kd_Mo_readTime_137 rfl ?_
      refine zk_if_le (tgt := 145) C kd_Mo_readTime_138 (by decide) rfl (fun b3 => ?_) (fun b3 => ?_)
      · replace e := zd_pos (zd_cle.mp b3) e
        refine zk_lload_n C kd_Mo_readTime_145 rfl 1 rfl rfl ?_
        refine zk_iload C kd_Mo_readTime_146 2 rfl rfl ?_
        refine zk_i2l C kd_Mo_readTime_148 rfl ?_
        refine zk_lmul C kd_Mo_readTime_149 rfl ?_
        refine zk_lvs (lv' := []) [] rfl ?_
        exact zb_Mo_readTime_150 C hR (zs_uF h 68 8 (y1 + y0)) (x1 * (x4.toInt64)) e
      · replace e := zd_neg (fun z => b3 (zd_cle.mpr z)) e
        refine zk_lload_n C kd_Mo_readTime_141 rfl 1 rfl rfl ?_
        refine zk_goto (tgt := 150) C kd_Mo_readTime_142 (by decide) ?_
        refine zk_lvs (lv' := []) [] rfl ?_
        exact zb_Mo_readTime_150 C hR (zs_uF h 68 8 (y1 + y0)) x1 e
    · replace e := zd_neg (fun z => b2 (zd_cge.mpr z)) e
      refine zk_lvs (lv' := []) [] rfl ?_
      exact zb_Mo_readTime_127 C hR (zs_uF h 68 8 (y1 + y0)) e
set_option maxHeartbeats 4000000 in
set_option maxRecDepth 100000 in
theorem zb_Mo_readTime_84 {X : zkj_T} {S : zs_T} {P : ze_T} {l : Launch} {D : va_G} {sz0 : Nat} {rh : zs_H} (C : zk_C X km_Mo_readTime (zs_G S l D sz0) { frames := 4, cells := 0, slots := 0, locals := 86 } (ze_E P)) (hR : zkj_R X (zd_PV S rh) (none)) (h : zs_H) (x1 : Int64) (y0 : Int32) (e : f_Mo_readTime_84 h x1 y0 = some rh) : zk_Ab X (zs_W S h) 0 0 84 [(0, .ref (S.1 68)), (1, .long x1)] [.int y0] := by
  unfold f_Mo_readTime_84 at e
  refine zk_istore (lv' := [(4, _), (0, _), (1, _)]) C kd_Mo_readTime_84 (by decide) rfl rfl ?_
  refine zk_aload_n C kd_Mo_readTime_86 rfl 1 rfl rfl ?_
  refine zk_dup C kd_Mo_readTime_87 rfl rfl ?_
  refine zs_get (v := .int (h.1 68 8)) C 68 8 rfl rfl rfl rfl ki_Mo (by decide) kw1691 kd_Mo_readTime_88 rfl ?_
  refine zk_iload C kd_Mo_readTime_91 0 rfl rfl ?_
  refine zk_iconst (v := 1) C kd_Mo_readTime_93 (by decide) rfl ?_
  refine zk_icmp_ne (tgt := 101) C kd_Mo_readTime_94 (by decide) rfl (fun b1 => ?_) (fun b1 => ?_)
  · replace e := zd_neg b1 e
    refine zk_iload C kd_Mo_readTime_101 0 rfl rfl ?_
    refine zk_if_le (tgt := 110) C kd_Mo_readTime_103 (by decide) rfl (fun b2 => ?_) (fun b2 => ?_)
    · replace e := zd_pos b2 e
      refine zk_iconst (v := 0) C kd_Mo_readTime_110 (by decide) rfl ?_
      refine zk_lvs (lv' := [(0, .ref (S.1 68)), (1, .long x1), (4, .int y0)]) [1, 2, 0] rfl ?_
      exact zb_Mo_readTime_111 C hR h x1 y0 0 (h.1 68 8) e
    · replace e := zd_neg b2 e
      refine zk_iconst (v := 1) C kd_Mo_readTime_106 (by decide) rfl ?_
      refine zk_goto (tgt := 111) C kd_Mo_readTime_107 (by decide) ?_
      refine zk_lvs (lv' := [(0, .ref (S.1 68)), (1, .long x1), (4, .int y0)]) [1, 2, 0] rfl ?_
      exact zb_Mo_readTime_111 C hR h x1 y0 1 (h.1 68 8) e
  · replace e := zd_pos b1 e
    refine zk_iconst (v := 2) C kd_Mo_readTime_97 (by decide) rfl ?_
    refine zk_goto (tgt := 111) C kd_Mo_readTime_98 (by decide) ?_
    refine zk_lvs (lv' := [(0, .ref (S.1 68)), (1, .long x1), (4, .int y0)]) [1, 2, 0] rfl ?_
    exact zb_Mo_readTime_111 C hR h x1 y0 2 (h.1 68 8) e
set_option maxHeartbeats 4000000 in
set_option maxRecDepth 100000 in
theorem zb_Mo_readTime_47 {X : zkj_T} {S : zs_T} {P : ze_T} {l : Launch} {D : va_G} {sz0 : Nat} {rh : zs_H} (C : zk_C X km_Mo_readTime (zs_G S l D sz0) { frames := 4, cells := 0, slots := 0, locals := 86 } (ze_E P)) (hR : zkj_R X (zd_PV S rh) (none)) (h : zs_H) (x1 : Int64) (x3 : Int32) (e : f_Mo_readTime_47 h x1 x3 = some rh) : zk_Ab X (zs_W S h) 0 0 47 [(0, .ref (S.1 68)), (1, .long x1), (3, .int x3)] [] := by
  unfold f_Mo_readTime_47 at e
  refine zk_iload_n C kd_Mo_readTime_47 rfl 2 rfl rfl ?_
  refine zk_bipush (v := 83) C kd_Mo_readTime_48 (by decide) rfl ?_
  refine zk_icmp_ne (tgt := 59) C kd_Mo_readTime_50 (by decide) rfl (fun b1 => ?_) (fun b1 => ?_)
  · replace e := zd_neg b1 e
    refine zk_iload_n C kd_Mo_readTime_59 rfl 2 rfl rfl ?_
    refine zk_bipush (v := 77) C kd_Mo_readTime_60 (by decide) rfl ?_
    refine zk_icmp_ne (tgt := 71) C kd_Mo_readTime_62 (by decide) rfl (fun b2 => ?_) (fun b2 => ?_)
    · replace e := zd_neg b2 e
      refine zk_iload_n C kd_Mo_readTime_71 rfl 2 rfl rfl ?_
      refine zk_bipush (v := 72) C kd_Mo_readTime_72 (by decide) rfl ?_
      refine zk_icmp_ne (tgt := 83) C kd_Mo_readTime_74 (by decide) rfl (fun b3 => ?_) (fun b3 => ?_)
      · replace e := zd_neg b3 e
        refine zk_iconst (v := 0) C kd_Mo_readTime_83 (by decide) rfl ?_
        refine zk_lvs (lv' := [(0, .ref (S.1 68)), (1, .long x1)]) [0, 1] rfl ?_
        exact zb_Mo_readTime_84 C hR h x1 0 e
      · replace e := zd_pos b3 e
        refine zk_ldcw (v := 3600000) C kw2038 kd_Mo_readTime_77 rfl ?_
        refine zk_goto (tgt := 84) C kd_Mo_readTime_80 (by decide) ?_
        refine zk_lvs (lv' := [(0, .ref (S.1 68)), (1, .long x1)]) [0, 1] rfl ?_
        exact zb_Mo_readTime_84 C hR h x1 3600000 e
    · replace e := zd_pos b2 e
      refine zk_ldcw (v := 60000) C kw2037 kd_Mo_readTime_65 rfl ?_
      refine zk_goto (tgt := 84) C kd_Mo_readTime_68 (by decide) ?_
      refine zk_lvs (lv' := [(0, .ref (S.1 68)), (1, .long x1)]) [0, 1] rfl ?_
      exact zb_Mo_readTime_84 C hR h x1 60000 e
  · replace e := zd_pos b1 e
    refine zk_sipush (v := 1000) C kd_Mo_readTime_53 (by decide) rfl ?_
    refine zk_goto (tgt := 84) C kd_Mo_readTime_56 (by decide) ?_
    refine zk_lvs (lv' := [(0, .ref (S.1 68)), (1, .long x1)]) [0, 1] rfl ?_
    exact zb_Mo_readTime_84 C hR h x1 1000 e
set_option maxHeartbeats 4000000 in
set_option maxRecDepth 100000 in
theorem zc_Mo_readTime {l : Launch} {D : va_G} {sz0 : Nat} {S : zs_T} {P : ze_T} (h : zs_H) {rh : zs_H} (e : f_Mo_readTime h = some rh) : zk_Sp (zs_G S l D sz0) (ze_E P) km_Mo_readTime { frames := 4, cells := 0, slots := 0, locals := 86 } [.ref (S.1 68)] (zs_W S h) (zd_PV S rh) := by
  refine zk_met ku_Mo_readTime (Nat.le_of_ble_eq_true rfl) (ze_Em P) ?_
  intro X C hR
  refine zk_lvs (lv' := [(0, .ref (S.1 68))]) [0] rfl ?_
  unfold f_Mo_readTime at e
  refine zk_aload_n C kd_Mo_readTime_0 rfl 0 rfl rfl ?_
  refine zk_aload_n C kd_Mo_readTime_1 rfl 0 rfl rfl ?_
  refine zs_get (v := .int (h.1 68 7)) C 68 7 rfl rfl rfl rfl ki_Mo (by decide) kw1690 kd_Mo_readTime_2 rfl ?_
  refine zk_iconst (v := 2) C kd_Mo_readTime_5 (by decide) rfl ?_
  refine zk_iadd C kd_Mo_readTime_6 rfl ?_
  refine zk_bipush (v := 10) C kd_Mo_readTime_7 (by decide) rfl ?_
  obtain ⟨v2, h3, c1, e⟩ := zd_Be e
  refine zs_callV (k := 68) (rn := { frames := 2, cells := 0, slots := 0, locals := 43 }) (As := [.int ((h.1 68 7) + 2), .int 10]) (rest := []) C (zc_Mo_digits h ((h.1 68 7) + 2) 10 c1) ku_Mo_digits kw2025 kv_Mo_digits rfl ⟨by decide, by decide⟩ ⟨by decide, by decide⟩ rfl rfl rfl (Nat.le_of_ble_eq_true rfl) kd_Mo_readTime_9 rfl (c1 := 0) (s1 := 0) rfl rfl (fun v w hp => ?_)
  obtain ⟨rfl, rfl⟩ := hp
  refine zk_stk (r' := [.long v2]) rfl ?_
  refine zk_lstore_n (lv' := [(1, _), (0, _)]) C kd_Mo_readTime_12 rfl (by decide) rfl rfl ?_
  refine zk_aload_n C kd_Mo_readTime_13 rfl 1 rfl rfl ?_
  refine zk_aload_n C kd_Mo_readTime_14 rfl 1 rfl rfl ?_
  refine zs_get (v := .int (h3.1 68 8)) C 68 8 rfl rfl rfl rfl ki_Mo (by decide) kw1691 kd_Mo_readTime_15 rfl ?_
  obtain ⟨v5, c4, e⟩ := zd_b e
  refine zs_callV (k := 68) (rn := { frames := 1, cells := 0, slots := 0, locals := 21 }) (As := [.int (h3.1 68 8)]) (rest := []) C (zc_Mo_great h3 (h3.1 68 8) c4) ku_Mo_great kw2017 kv_Mo_great rfl ⟨by decide, by decide⟩ ⟨by decide, by decide⟩ rfl rfl rfl (Nat.le_of_ble_eq_true rfl) kd_Mo_readTime_18 rfl (c1 := 0) (s1 := 0) rfl rfl (fun v w hp => ?_)
  obtain ⟨rfl, rfl⟩ := hp
  refine zk_stk (r' := [.int v5]) rfl ?_
  refine zk_istore_n (lv' := [(3, _), (1, _), (0, _)]) C kd_Mo_readTime_21 rfl (by decide) rfl rfl ?_
  refine zk_iload_n C kd_Mo_readTime_22 rfl 0 rfl rfl ?_
  refine zk_bipush (v := 77) C kd_Mo_readTime_23 (by decide) rfl ?_
  refine zk_icmp_ne (tgt := 47) C kd_Mo_readTime_25 (by decide) rfl (fun b6 => ?_) (fun b6 => ?_)
  · replace e := zd_neg b6 e
    refine zk_lvs (lv' := [(0, .ref (S.1 68)), (1, .long v2), (3, .int v5)]) [2, 1, 0] rfl ?_
    exact zb_Mo_readTime_47 C hR h3 v2 v5 e
  · replace e := zd_pos b6 e
    refine zk_aload_n C kd_Mo_readTime_28 rfl 2 rfl rfl ?_
    refine zk_aload_n C kd_Mo_readTime_29 rfl 2 rfl rfl ?_
    refine zs_get (v := .int (h3.1 68 8)) C 68 8 rfl rfl rfl rfl ki_Mo (by decide) kw1691 kd_Mo_readTime_30 rfl ?_
    refine zk_iconst (v := 1) C kd_Mo_readTime_33 (by decide) rfl ?_
    refine zk_iadd C kd_Mo_readTime_34 rfl ?_
    obtain ⟨v8, c7, e⟩ := zd_b e
    refine zs_callV (k := 68) (rn := { frames := 1, cells := 0, slots := 0, locals := 21 }) (As := [.int ((h3.1 68 8) + 1)]) (rest := []) C (zc_Mo_great h3 ((h3.1 68 8) + 1) c7) ku_Mo_great kw2017 kv_Mo_great rfl ⟨by decide, by decide⟩ ⟨by decide, by decide⟩ rfl rfl rfl (Nat.le_of_ble_eq_true rfl) kd_Mo_readTime_35 rfl (c1 := 0) (s1 := 0) rfl rfl (fun v w hp => ?_)
    obtain ⟨rfl, rfl⟩ := hp
    refine zk_stk (r' := [.int v8]) rfl ?_
    refine zk_bipush (v := 83) C kd_Mo_readTime_38 (by decide) rfl ?_
    refine zk_icmp_ne (tgt := 47) C kd_Mo_readTime_40 (by decide) rfl (fun b9 => ?_) (fun b9 => ?_)
    · replace e := zd_neg b9 e
      refine zk_lvs (lv' := [(0, .ref (S.1 68)), (1, .long v2), (3, .int v5)]) [2, 1, 0] rfl ?_
      exact zb_Mo_readTime_47 C hR h3 v2 v5 e
    · replace e := zd_pos b9 e
      refine zk_iconst (v := 1) C kd_Mo_readTime_43 (by decide) rfl ?_
      refine zk_goto (tgt := 84) C kd_Mo_readTime_44 (by decide) ?_
      refine zk_lvs (lv' := [(0, .ref (S.1 68)), (1, .long v2)]) [2, 1] rfl ?_
      exact zb_Mo_readTime_84 C hR h3 v2 1 e
set_option maxHeartbeats 4000000 in
set_option maxRecDepth 100000 in
theorem zb_Mo_wordAt_75 {X : zkj_T} {S : zs_T} {P : ze_T} {l : Launch} {D : va_G} {sz0 : Nat} {rv : Int32} {h : zs_H} (C : zk_C X km_Mo_wordAt (zs_G S l D sz0) { frames := 4, cells := 0, slots := 0, locals := 85 } (ze_E P)) (hR : zkj_R X (zd_PI S rv h) (some .int)) {k4 : Int32 → Int32 → (Option Int32)} (hk4 : ∀ (x1 : Int32) (x2 : Int32), k4 x1 x2 = some rv → zk_Ab X (zs_W S h) 0 0 4 [(0, .ref (S.1 68)), (1, .int x1), (2, .int x2)] []) {k18 : Int32 → Int32 → Int32 → Int32 → (Option Int32)} (hk18 : ∀ (x1 : Int32) (x2 : Int32) (x3 : Int32) (x4 : Int32), k18 x1 x2 x3 x4 = some rv → zk_Ab X (zs_W S h) 0 0 18 [(0, .ref (S.1 68)), (1, .int x1), (2, .int x2), (3, .int x3), (4, .int x4)] []) (x1 : Int32) (x2 : Int32) (x3 : Int32) (y0 : Int32) (e : f_Mo_wordAt_75 h k4 k18 x1 x2 x3 y0 = some rv) : zk_Ab X (zs_W S h) 0 0 75 [(0, .ref (S.1 68)), (1, .int x1), (2, .int x2), (3, .int x3)] [.int y0] := by
  unfold f_Mo_wordAt_75 at e
  refine zk_istore (lv' := [(4, _), (0, _), (1, _), (2, _), (3, _)]) C kd_Mo_wordAt_75 (by decide) rfl rfl ?_
  refine zk_iinc (v := (x3 + 1)) (lv' := [(3, _), (4, _), (0, _), (1, _), (2, _)]) C kd_Mo_wordAt_77 4 rfl rfl (by decide) rfl rfl ?_
  refine zk_goto (tgt := 18) C kd_Mo_wordAt_80 (by decide) ?_
  refine zk_lvs (lv' := [(0, .ref (S.1 68)), (1, .int x1), (2, .int x2), (3, .int (x3 + 1)), (4, .int y0)]) [2, 3, 4, 0, 1] rfl ?_
  exact hk18 x1 x2 (x3 + 1) y0 e
set_option maxHeartbeats 4000000 in
set_option maxRecDepth 100000 in
theorem zb_Mo_wordAt_74 {X : zkj_T} {S : zs_T} {P : ze_T} {l : Launch} {D : va_G} {sz0 : Nat} {rv : Int32} {h : zs_H} (C : zk_C X km_Mo_wordAt (zs_G S l D sz0) { frames := 4, cells := 0, slots := 0, locals := 85 } (ze_E P)) (hR : zkj_R X (zd_PI S rv h) (some .int)) {k4 : Int32 → Int32 → (Option Int32)} (hk4 : ∀ (x1 : Int32) (x2 : Int32), k4 x1 x2 = some rv → zk_Ab X (zs_W S h) 0 0 4 [(0, .ref (S.1 68)), (1, .int x1), (2, .int x2)] []) {k18 : Int32 → Int32 → Int32 → Int32 → (Option Int32)} (hk18 : ∀ (x1 : Int32) (x2 : Int32) (x3 : Int32) (x4 : Int32), k18 x1 x2 x3 x4 = some rv → zk_Ab X (zs_W S h) 0 0 18 [(0, .ref (S.1 68)), (1, .int x1), (2, .int x2), (3, .int x3), (4, .int x4)] []) (x1 : Int32) (x2 : Int32) (x3 : Int32) (e : f_Mo_wordAt_74 h k4 k18 x1 x2 x3 = some rv) : zk_Ab X (zs_W S h) 0 0 74 [(0, .ref (S.1 68)), (1, .int x1), (2, .int x2), (3, .int x3)] [] := by
  unfold f_Mo_wordAt_74 at e
  refine zk_iconst (v := 0) C kd_Mo_wordAt_74 (by decide) rfl ?_
  refine zk_lvs (lv' := [(0, .ref (S.1 68)), (1, .int x1), (2, .int x2), (3, .int x3)]) [0, 1, 2, 3] rfl ?_
  exact zb_Mo_wordAt_75 C hR hk4 hk18 x1 x2 x3 0 e
set_option maxHeartbeats 4000000 in
set_option maxRecDepth 100000 in
theorem zb_Mo_wordAt_103 {X : zkj_T} {S : zs_T} {P : ze_T} {l : Launch} {D : va_G} {sz0 : Nat} {rv : Int32} {h : zs_H} (C : zk_C X km_Mo_wordAt (zs_G S l D sz0) { frames := 4, cells := 0, slots := 0, locals := 85 } (ze_E P)) (hR : zkj_R X (zd_PI S rv h) (some .int)) {k4 : Int32 → Int32 → (Option Int32)} (hk4 : ∀ (x1 : Int32) (x2 : Int32), k4 x1 x2 = some rv → zk_Ab X (zs_W S h) 0 0 4 [(0, .ref (S.1 68)), (1, .int x1), (2, .int x2)] []) (x1 : Int32) (x2 : Int32) (x3 : Int32) (e : f_Mo_wordAt_103 h k4 x1 x2 x3 = some rv) : zk_Ab X (zs_W S h) 0 0 103 [(0, .ref (S.1 68)), (1, .int x1), (2, .int x2), (3, .int x3)] [] := by
  unfold f_Mo_wordAt_103 at e
  refine zk_iinc (v := (x1 + 1)) (lv' := [(1, _), (0, _), (2, _), (3, _)]) C kd_Mo_wordAt_103 1 rfl rfl (by decide) rfl rfl ?_
  refine zk_iload_n C kd_Mo_wordAt_106 rfl 2 rfl rfl ?_
  refine zk_iload_n C kd_Mo_wordAt_107 rfl 3 rfl rfl ?_
  refine zk_iadd C kd_Mo_wordAt_108 rfl ?_
  refine zk_istore_n (lv' := [(2, _), (1, _), (0, _), (3, _)]) C kd_Mo_wordAt_109 rfl (by decide) rfl rfl ?_
  refine zk_iinc (v := ((x2 + x3) + 1)) (lv' := [(2, _), (1, _), (0, _), (3, _)]) C kd_Mo_wordAt_110 0 rfl rfl (by decide) rfl rfl ?_
  refine zk_goto (tgt := 4) C kd_Mo_wordAt_113 (by decide) ?_
  refine zk_lvs (lv' := [(0, .ref (S.1 68)), (1, .int (x1 + 1)), (2, .int ((x2 + x3) + 1))]) [2, 1, 0] rfl ?_
  exact hk4 (x1 + 1) ((x2 + x3) + 1) e
set_option maxHeartbeats 4000000 in
set_option maxRecDepth 100000 in
theorem zb_Mo_wordAt_18 {X : zkj_T} {S : zs_T} {P : ze_T} {l : Launch} {D : va_G} {sz0 : Nat} {rv : Int32} {h : zs_H} (C : zk_C X km_Mo_wordAt (zs_G S l D sz0) { frames := 4, cells := 0, slots := 0, locals := 85 } (ze_E P)) (hR : zkj_R X (zd_PI S rv h) (some .int)) {k4 : Int32 → Int32 → (Option Int32)} (hk4 : ∀ (x1 : Int32) (x2 : Int32), k4 x1 x2 = some rv → zk_Ab X (zs_W S h) 0 0 4 [(0, .ref (S.1 68)), (1, .int x1), (2, .int x2)] []) {k18 : Int32 → Int32 → Int32 → Int32 → (Option Int32)} (hk18 : ∀ (x1 : Int32) (x2 : Int32) (x3 : Int32) (x4 : Int32), k18 x1 x2 x3 x4 = some rv → zk_Ab X (zs_W S h) 0 0 18 [(0, .ref (S.1 68)), (1, .int x1), (2, .int x2), (3, .int x3), (4, .int x4)] []) (x1 : Int32) (x2 : Int32) (x3 : Int32) (x4 : Int32) (e : f_Mo_wordAt_18 h k4 k18 x1 x2 x3 x4 = some rv) : zk_Ab X (zs_W S h) 0 0 18 [(0, .ref (S.1 68)), (1, .int x1), (2, .int x2), (3, .int x3), (4, .int x4)] [] := by
  unfold f_Mo_wordAt_18 at e
  refine ze_ldcS (i := 7) C (zd_str 7 rfl) kd_Mo_wordAt_18 rfl ?_
  refine zk_iload_n C kd_Mo_wordAt_20 rfl 2 rfl rfl ?_
  refine zk_iload_n C kd_Mo_wordAt_21 rfl 3 rfl rfl ?_
  refine zk_iadd C kd_Mo_wordAt_22 rfl ?_
  obtain ⟨q1, e⟩ := zd_g e
  refine ze_callStr (i := 7) (As := [.int (x2 + x3)]) (rest := []) C (zd_charAt (zs_W S h) 7 (by decide) (x2 + x3) q1 (by decide)) ku_St_charAt kw2061 kv_St_charAt (by decide) rfl rfl ⟨by decide, by decide⟩ ⟨by decide, by decide⟩ rfl (Nat.le_of_ble_eq_true rfl) kd_Mo_wordAt_23 rfl (c1 := 0) (s1 := 0) rfl rfl (fun v w hp => ?_)
  obtain ⟨rfl, rfl⟩ := hp
  refine zk_stk (r' := [.int (ze_f 7 (x2 + x3).toNatClampNeg &&& 255)]) rfl ?_
  refine zk_bipush (v := 32) C kd_Mo_wordAt_26 (by decide) rfl ?_
  refine zk_icmp_eq (tgt := 83) C kd_Mo_wordAt_28 (by decide) rfl (fun b2 => ?_) (fun b2 => ?_)
  · replace e := zd_pos b2 e
    refine zk_iload C kd_Mo_wordAt_83 4 rfl rfl ?_
    refine zk_if_eq (tgt := 103) C kd_Mo_wordAt_85 (by decide) rfl (fun b3 => ?_) (fun b3 => ?_)
    · replace e := zd_pos b3 e
      refine zk_lvs (lv' := [(0, .ref (S.1 68)), (1, .int x1), (2, .int x2), (3, .int x3)]) [0, 1, 2, 3] rfl ?_
      exact zb_Mo_wordAt_103 C hR hk4 x1 x2 x3 e
    · replace e := zd_neg b3 e
      refine zk_iload_n C kd_Mo_wordAt_88 rfl 3 rfl rfl ?_
      refine zk_aload_n C kd_Mo_wordAt_89 rfl 0 rfl rfl ?_
      refine zs_get (v := .int (h.1 68 8)) C 68 8 rfl rfl rfl rfl ki_Mo (by decide) kw1691 kd_Mo_wordAt_90 rfl ?_
      refine zk_aload_n C kd_Mo_wordAt_93 rfl 0 rfl rfl ?_
      refine zs_get (v := .int (h.1 68 7)) C 68 7 rfl rfl rfl rfl ki_Mo (by decide) kw1690 kd_Mo_wordAt_94 rfl ?_
      refine zk_isub C kd_Mo_wordAt_97 rfl ?_
      refine zk_icmp_ne (tgt := 103) C kd_Mo_wordAt_98 (by decide) rfl (fun b4 => ?_) (fun b4 => ?_)
      · replace e := zd_neg b4 e
        refine zk_lvs (lv' := [(0, .ref (S.1 68)), (1, .int x1), (2, .int x2), (3, .int x3)]) [0, 1, 2, 3] rfl ?_
        exact zb_Mo_wordAt_103 C hR hk4 x1 x2 x3 e
      · replace e := zd_pos b4 e
        refine zk_iload_n C kd_Mo_wordAt_101 rfl 1 rfl rfl ?_
        exact zk_iret C hR kd_Mo_wordAt_102 rfl rfl (zd_rIO e)
  · replace e := zd_neg b2 e
    refine zk_iload C kd_Mo_wordAt_31 4 rfl rfl ?_
    refine zk_if_eq (tgt := 74) C kd_Mo_wordAt_33 (by decide) rfl (fun b5 => ?_) (fun b5 => ?_)
    · replace e := zd_pos b5 e
      refine zk_lvs (lv' := [(0, .ref (S.1 68)), (1, .int x1), (2, .int x2), (3, .int x3)]) [0, 1, 2, 3] rfl ?_
      exact zb_Mo_wordAt_74 C hR hk4 hk18 x1 x2 x3 e
    · replace e := zd_neg b5 e
      refine zk_aload_n C kd_Mo_wordAt_36 rfl 0 rfl rfl ?_
      refine zk_aload_n C kd_Mo_wordAt_37 rfl 0 rfl rfl ?_
      refine zs_get (v := .int (h.1 68 7)) C 68 7 rfl rfl rfl rfl ki_Mo (by decide) kw1690 kd_Mo_wordAt_38 rfl ?_
      refine zk_iload_n C kd_Mo_wordAt_41 rfl 3 rfl rfl ?_
      refine zk_iadd C kd_Mo_wordAt_42 rfl ?_
      obtain ⟨v7, c6, e⟩ := zd_b e
      refine zs_callV (k := 68) (rn := { frames := 1, cells := 0, slots := 0, locals := 21 }) (As := [.int ((h.1 68 7) + x3)]) (rest := []) C (zc_Mo_great h ((h.1 68 7) + x3) c6) ku_Mo_great kw2017 kv_Mo_great rfl ⟨by decide, by decide⟩ ⟨by decide, by decide⟩ rfl rfl rfl (Nat.le_of_ble_eq_true rfl) kd_Mo_wordAt_43 rfl (c1 := 0) (s1 := 0) rfl rfl (fun v w hp => ?_)
      obtain ⟨rfl, rfl⟩ := hp
      refine zk_stk (r' := [.int v7]) rfl ?_
      refine ze_ldcS (i := 7) C (zd_str 7 rfl) kd_Mo_wordAt_46 rfl ?_
      refine zk_iload_n C kd_Mo_wordAt_48 rfl 2 rfl rfl ?_
      refine zk_iload_n C kd_Mo_wordAt_49 rfl 3 rfl rfl ?_
      refine zk_iadd C kd_Mo_wordAt_50 rfl ?_
      refine ze_callStr (i := 7) (As := [.int (x2 + x3)]) (rest := [.int v7]) C (zd_charAt (zs_W S h) 7 (by decide) (x2 + x3) q1 (by decide)) ku_St_charAt kw2061 kv_St_charAt (by decide) rfl rfl ⟨by decide, by decide⟩ ⟨by decide, by decide⟩ rfl (Nat.le_of_ble_eq_true rfl) kd_Mo_wordAt_51 rfl (c1 := 0) (s1 := 0) rfl rfl (fun v w hp => ?_)
      obtain ⟨rfl, rfl⟩ := hp
      refine zk_stk (r' := [.int (ze_f 7 (x2 + x3).toNatClampNeg &&& 255), .int v7]) rfl ?_
      refine zk_icmp_ne (tgt := 74) C kd_Mo_wordAt_54 (by decide) rfl (fun b8 => ?_) (fun b8 => ?_)
      · replace e := zd_neg b8 e
        refine zk_lvs (lv' := [(0, .ref (S.1 68)), (1, .int x1), (2, .int x2), (3, .int x3)]) [0, 1, 2, 3] rfl ?_
        exact zb_Mo_wordAt_74 C hR hk4 hk18 x1 x2 x3 e
      · replace e := zd_pos b8 e
        refine zk_aload_n C kd_Mo_wordAt_57 rfl 0 rfl rfl ?_
        refine zs_get (v := .int (h.1 68 7)) C 68 7 rfl rfl rfl rfl ki_Mo (by decide) kw1690 kd_Mo_wordAt_58 rfl ?_
        refine zk_iload_n C kd_Mo_wordAt_61 rfl 3 rfl rfl ?_
        refine zk_iadd C kd_Mo_wordAt_62 rfl ?_
        refine zk_aload_n C kd_Mo_wordAt_63 rfl 0 rfl rfl ?_
        refine zs_get (v := .int (h.1 68 8)) C 68 8 rfl rfl rfl rfl ki_Mo (by decide) kw1691 kd_Mo_wordAt_64 rfl ?_
        refine zk_icmp_ge (tgt := 74) C kd_Mo_wordAt_67 (by decide) rfl (fun b9 => ?_) (fun b9 => ?_)
        · replace e := zd_pos b9 e
          refine zk_lvs (lv' := [(0, .ref (S.1 68)), (1, .int x1), (2, .int x2), (3, .int x3)]) [0, 1, 2, 3] rfl ?_
          exact zb_Mo_wordAt_74 C hR hk4 hk18 x1 x2 x3 e
        · replace e := zd_neg b9 e
          refine zk_iconst (v := 1) C kd_Mo_wordAt_70 (by decide) rfl ?_
          refine zk_goto (tgt := 75) C kd_Mo_wordAt_71 (by decide) ?_
          refine zk_lvs (lv' := [(0, .ref (S.1 68)), (1, .int x1), (2, .int x2), (3, .int x3)]) [0, 1, 2, 3] rfl ?_
          exact zb_Mo_wordAt_75 C hR hk4 hk18 x1 x2 x3 1 e
theorem zl_Mo_wordAt_18 {X : zkj_T} {S : zs_T} {P : ze_T} {l : Launch} {D : va_G} {sz0 : Nat} {rv : Int32} {h : zs_H} (C : zk_C X km_Mo_wordAt (zs_G S l D sz0) { frames := 4, cells := 0, slots := 0, locals := 85 } (ze_E P)) (hR : zkj_R X (zd_PI S rv h) (some .int)) {k4 : Int32 → Int32 → (Option Int32)} (hk4 : ∀ (x1 : Int32) (x2 : Int32), k4 x1 x2 = some rv → zk_Ab X (zs_W S h) 0 0 4 [(0, .ref (S.1 68)), (1, .int x1), (2, .int x2)] []) (n : Nat) : ∀ (x1 : Int32) (x2 : Int32) (x3 : Int32) (x4 : Int32), f_Mo_wordAt_L18 h k4 n x1 x2 x3 x4 = some rv → zk_Ab X (zs_W S h) 0 0 18 [(0, .ref (S.1 68)), (1, .int x1), (2, .int x2), (3, .int x3), (4, .int x4)] [] := by
  induction n with
  | zero => intro x1 x2 x3 x4 e; exact zd_no e
  | succ n ih => intro x1 x2 x3 x4 e; exact zb_Mo_wordAt_18 (k18 := f_Mo_wordAt_L18 h k4 n) C hR hk4 ih x1 x2 x3 x4 e
set_option maxHeartbeats 4000000 in
set_option maxRecDepth 100000 in
theorem zb_Mo_wordAt_4 {X : zkj_T} {S : zs_T} {P : ze_T} {l : Launch} {D : va_G} {sz0 : Nat} {rv : Int32} {h : zs_H} (C : zk_C X km_Mo_wordAt (zs_G S l D sz0) { frames := 4, cells := 0, slots := 0, locals := 85 } (ze_E P)) (hR : zkj_R X (zd_PI S rv h) (some .int)) {k4 : Int32 → Int32 → (Option Int32)} (hk4 : ∀ (x1 : Int32) (x2 : Int32), k4 x1 x2 = some rv → zk_Ab X (zs_W S h) 0 0 4 [(0, .ref (S.1 68)), (1, .int x1), (2, .int x2)] []) (x1 : Int32) (x2 : Int32) (e : f_Mo_wordAt_4 h k4 x1 x2 = some rv) : zk_Ab X (zs_W S h) 0 0 4 [(0, .ref (S.1 68)), (1, .int x1), (2, .int x2)] [] := by
  unfold f_Mo_wordAt_4 at e
  refine zk_iload_n C kd_Mo_wordAt_4 rfl 2 rfl rfl ?_
  refine ze_ldcS (i := 7) C (zd_str 7 rfl) kd_Mo_wordAt_5 rfl ?_
  refine ze_callStr (i := 7) (As := []) (rest := [.int x2]) C (cs_length (zs_W S h) 7 (by decide)) ku_St_length kw2060 kv_St_length (by decide) rfl rfl ⟨by decide, by decide⟩ ⟨by decide, by decide⟩ rfl (Nat.le_of_ble_eq_true rfl) kd_Mo_wordAt_7 rfl (c1 := 0) (s1 := 0) rfl rfl (fun v w hp => ?_)
  obtain ⟨rfl, rfl⟩ := hp
  refine zk_stk (r' := [.int 271, .int x2]) rfl ?_
  refine zk_icmp_ge (tgt := 116) C kd_Mo_wordAt_10 (by decide) rfl (fun b1 => ?_) (fun b1 => ?_)
  · replace e := zd_pos b1 e
    refine zk_iconst (v := (-1)) C kd_Mo_wordAt_116 (by decide) rfl ?_
    exact zk_iret C hR kd_Mo_wordAt_117 rfl rfl (zd_rIO e)
  · replace e := zd_neg b1 e
    refine zk_iconst (v := 0) C kd_Mo_wordAt_13 (by decide) rfl ?_
    refine zk_istore_n (lv' := [(3, _), (0, _), (1, _), (2, _)]) C kd_Mo_wordAt_14 rfl (by decide) rfl rfl ?_
    refine zk_iconst (v := 1) C kd_Mo_wordAt_15 (by decide) rfl ?_
    refine zk_istore (lv' := [(4, _), (3, _), (0, _), (1, _), (2, _)]) C kd_Mo_wordAt_16 (by decide) rfl rfl ?_
    refine zk_lvs (lv' := [(0, .ref (S.1 68)), (1, .int x1), (2, .int x2), (3, .int 0), (4, .int 1)]) [2, 3, 4, 1, 0] rfl ?_
    exact zl_Mo_wordAt_18 C hR hk4 zF x1 x2 0 1 e
theorem zl_Mo_wordAt_4 {X : zkj_T} {S : zs_T} {P : ze_T} {l : Launch} {D : va_G} {sz0 : Nat} {rv : Int32} {h : zs_H} (C : zk_C X km_Mo_wordAt (zs_G S l D sz0) { frames := 4, cells := 0, slots := 0, locals := 85 } (ze_E P)) (hR : zkj_R X (zd_PI S rv h) (some .int)) (n : Nat) : ∀ (x1 : Int32) (x2 : Int32), f_Mo_wordAt_L4 h n x1 x2 = some rv → zk_Ab X (zs_W S h) 0 0 4 [(0, .ref (S.1 68)), (1, .int x1), (2, .int x2)] [] := by
  induction n with
  | zero => intro x1 x2 e; exact zd_no e
  | succ n ih => intro x1 x2 e; exact zb_Mo_wordAt_4 (k4 := f_Mo_wordAt_L4 h n) C hR ih x1 x2 e
set_option maxHeartbeats 4000000 in
set_option maxRecDepth 100000 in
theorem zc_Mo_wordAt {l : Launch} {D : va_G} {sz0 : Nat} {S : zs_T} {P : ze_T} (h : zs_H) {rv : Int32} (e : f_Mo_wordAt h = some rv) : zk_Sp (zs_G S l D sz0) (ze_E P) km_Mo_wordAt { frames := 4, cells := 0, slots := 0, locals := 85 } [.ref (S.1 68)] (zs_W S h) (zd_PI S rv h) := by
  refine zk_met ku_Mo_wordAt (Nat.le_of_ble_eq_true rfl) (ze_Em P) ?_
  intro X C hR
  refine zk_lvs (lv' := [(0, .ref (S.1 68))]) [0] rfl ?_
  unfold f_Mo_wordAt at e
  refine zk_iconst (v := 0) C kd_Mo_wordAt_0 (by decide) rfl ?_
  refine zk_istore_n (lv' := [(1, _), (0, _)]) C kd_Mo_wordAt_1 rfl (by decide) rfl rfl ?_
  refine zk_iconst (v := 1) C kd_Mo_wordAt_2 (by decide) rfl ?_
  refine zk_istore_n (lv' := [(2, _), (1, _), (0, _)]) C kd_Mo_wordAt_3 rfl (by decide) rfl rfl ?_
  refine zk_lvs (lv' := [(0, .ref (S.1 68)), (1, .int 0), (2, .int 1)]) [2, 1, 0] rfl ?_
  exact zl_Mo_wordAt_4 C hR zF 0 1 e
set_option maxHeartbeats 4000000 in
set_option maxRecDepth 100000 in
theorem zb_Mo_nameAt_80 {X : zkj_T} {S : zs_T} {P : ze_T} {l : Launch} {D : va_G} {sz0 : Nat} {rv : Int32} {rh : zs_H} (C : zk_C X km_Mo_nameAt (zs_G S l D sz0) { frames := 2, cells := 0, slots := 0, locals := 43 } (ze_E P)) (hR : zkj_R X (zd_PI S rv rh) (some .int)) {k12 : zs_H → Int32 → Int32 → (Option (Int32 × zs_H))} (hk12 : ∀ (h : zs_H) (x1 : Int32) (x2 : Int32), k12 h x1 x2 = some (rv, rh) → zk_Ab X (zs_W S h) 0 0 12 [(0, .ref (S.1 68)), (1, .int x1), (2, .int x2)] []) {k39 : zs_H → Int32 → Int32 → Int32 → Int32 → (Option (Int32 × zs_H))} (hk39 : ∀ (h : zs_H) (x1 : Int32) (x2 : Int32) (x3 : Int32) (x4 : Int32), k39 h x1 x2 x3 x4 = some (rv, rh) → zk_Ab X (zs_W S h) 0 0 39 [(0, .ref (S.1 68)), (1, .int x1), (2, .int x2), (3, .int x3), (4, .int x4)] []) (h : zs_H) (x1 : Int32) (x2 : Int32) (x4 : Int32) (y0 : Int32) (e : f_Mo_nameAt_80 k12 k39 h x1 x2 x4 y0 = some (rv, rh)) : zk_Ab X (zs_W S h) 0 0 80 [(0, .ref (S.1 68)), (1, .int x1), (2, .int x2), (4, .int x4)] [.int y0] := by
  unfold f_Mo_nameAt_80 at e
  refine zk_istore_n (lv' := [(3, _), (0, _), (1, _), (2, _), (4, _)]) C kd_Mo_nameAt_80 rfl (by decide) rfl rfl ?_
  refine zk_iinc (v := (x4 + 1)) (lv' := [(4, _), (3, _), (0, _), (1, _), (2, _)]) C kd_Mo_nameAt_81 4 rfl rfl (by decide) rfl rfl ?_
  refine zk_goto (tgt := 39) C kd_Mo_nameAt_84 (by decide) ?_
  refine zk_lvs (lv' := [(0, .ref (S.1 68)), (1, .int x1), (2, .int x2), (3, .int y0), (4, .int (x4 + 1))]) [2, 3, 4, 1, 0] rfl ?_
  exact hk39 h x1 x2 y0 (x4 + 1) e
set_option maxHeartbeats 4000000 in
set_option maxRecDepth 100000 in
theorem zb_Mo_nameAt_87 {X : zkj_T} {S : zs_T} {P : ze_T} {l : Launch} {D : va_G} {sz0 : Nat} {rv : Int32} {rh : zs_H} (C : zk_C X km_Mo_nameAt (zs_G S l D sz0) { frames := 2, cells := 0, slots := 0, locals := 43 } (ze_E P)) (hR : zkj_R X (zd_PI S rv rh) (some .int)) {k12 : zs_H → Int32 → Int32 → (Option (Int32 × zs_H))} (hk12 : ∀ (h : zs_H) (x1 : Int32) (x2 : Int32), k12 h x1 x2 = some (rv, rh) → zk_Ab X (zs_W S h) 0 0 12 [(0, .ref (S.1 68)), (1, .int x1), (2, .int x2)] []) (h : zs_H) (x1 : Int32) (x2 : Int32) (x3 : Int32) (e : f_Mo_nameAt_87 k12 h x1 x2 x3 = some (rv, rh)) : zk_Ab X (zs_W S h) 0 0 87 [(0, .ref (S.1 68)), (1, .int x1), (2, .int x2), (3, .int x3)] [] := by
  unfold f_Mo_nameAt_87 at e
  refine zk_iload_n C kd_Mo_nameAt_87 rfl 3 rfl rfl ?_
  refine zk_if_eq (tgt := 93) C kd_Mo_nameAt_88 (by decide) rfl (fun b1 => ?_) (fun b1 => ?_)
  · replace e := zd_pos b1 e
    refine zk_iinc (v := (x2 + 1)) (lv' := [(2, _), (0, _), (1, _), (3, _)]) C kd_Mo_nameAt_93 2 rfl rfl (by decide) rfl rfl ?_
    refine zk_goto (tgt := 12) C kd_Mo_nameAt_96 (by decide) ?_
    refine zk_lvs (lv' := [(0, .ref (S.1 68)), (1, .int x1), (2, .int (x2 + 1))]) [1, 2, 0] rfl ?_
    exact hk12 h x1 (x2 + 1) e
  · replace e := zd_neg b1 e
    refine zk_iload_n C kd_Mo_nameAt_91 rfl 2 rfl rfl ?_
    exact zk_iret C hR kd_Mo_nameAt_92 rfl rfl (zd_rIS e)
set_option maxHeartbeats 4000000 in
set_option maxRecDepth 100000 in
theorem zb_Mo_nameAt_39 {X : zkj_T} {S : zs_T} {P : ze_T} {l : Launch} {D : va_G} {sz0 : Nat} {rv : Int32} {rh : zs_H} (C : zk_C X km_Mo_nameAt (zs_G S l D sz0) { frames := 2, cells := 0, slots := 0, locals := 43 } (ze_E P)) (hR : zkj_R X (zd_PI S rv rh) (some .int)) {k12 : zs_H → Int32 → Int32 → (Option (Int32 × zs_H))} (hk12 : ∀ (h : zs_H) (x1 : Int32) (x2 : Int32), k12 h x1 x2 = some (rv, rh) → zk_Ab X (zs_W S h) 0 0 12 [(0, .ref (S.1 68)), (1, .int x1), (2, .int x2)] []) {k39 : zs_H → Int32 → Int32 → Int32 → Int32 → (Option (Int32 × zs_H))} (hk39 : ∀ (h : zs_H) (x1 : Int32) (x2 : Int32) (x3 : Int32) (x4 : Int32), k39 h x1 x2 x3 x4 = some (rv, rh) → zk_Ab X (zs_W S h) 0 0 39 [(0, .ref (S.1 68)), (1, .int x1), (2, .int x2), (3, .int x3), (4, .int x4)] []) (h : zs_H) (x1 : Int32) (x2 : Int32) (x3 : Int32) (x4 : Int32) (e : f_Mo_nameAt_39 k12 k39 h x1 x2 x3 x4 = some (rv, rh)) : zk_Ab X (zs_W S h) 0 0 39 [(0, .ref (S.1 68)), (1, .int x1), (2, .int x2), (3, .int x3), (4, .int x4)] [] := by
  unfold f_Mo_nameAt_39 at e
  refine zk_iload C kd_Mo_nameAt_39 4 rfl rfl ?_
  refine zk_iload_n C kd_Mo_nameAt_41 rfl 1 rfl rfl ?_
  refine zk_icmp_ge (tgt := 87) C kd_Mo_nameAt_42 (by decide) rfl (fun b1 => ?_) (fun b1 => ?_)
  · replace e := zd_pos b1 e
    refine zk_lvs (lv' := [(0, .ref (S.1 68)), (1, .int x1), (2, .int x2), (3, .int x3)]) [0, 1, 2, 3] rfl ?_
    exact zb_Mo_nameAt_87 C hR hk12 h x1 x2 x3 e
  · replace e := zd_neg b1 e
    refine zk_iload_n C kd_Mo_nameAt_45 rfl 3 rfl rfl ?_
    refine zk_if_eq (tgt := 87) C kd_Mo_nameAt_46 (by decide) rfl (fun b2 => ?_) (fun b2 => ?_)
    · replace e := zd_pos b2 e
      refine zk_lvs (lv' := [(0, .ref (S.1 68)), (1, .int x1), (2, .int x2), (3, .int x3)]) [0, 1, 2, 3] rfl ?_
      exact zb_Mo_nameAt_87 C hR hk12 h x1 x2 x3 e
    · replace e := zd_neg b2 e
      refine zk_aload_n C kd_Mo_nameAt_49 rfl 0 rfl rfl ?_
      refine zs_get (v := .ref (S.1 70)) C 68 4 rfl rfl rfl rfl ki_Mo (by decide) kw1687 kd_Mo_nameAt_50 rfl ?_
      refine zk_bipush (v := 32) C kd_Mo_nameAt_53 (by decide) rfl ?_
      refine zk_iload_n C kd_Mo_nameAt_55 rfl 2 rfl rfl ?_
      refine zk_imul C kd_Mo_nameAt_56 rfl ?_
      refine zk_iload C kd_Mo_nameAt_57 4 rfl rfl ?_
      refine zk_iadd C kd_Mo_nameAt_59 rfl ?_
      obtain ⟨q3, e⟩ := zd_g e
      refine zs_bald C 70 rfl (zd_vp q3) kd_Mo_nameAt_60 rfl ?_
      refine zk_aload_n C kd_Mo_nameAt_61 rfl 0 rfl rfl ?_
      refine zk_aload_n C kd_Mo_nameAt_62 rfl 0 rfl rfl ?_
      refine zs_get (v := .int (h.1 68 7)) C 68 7 rfl rfl rfl rfl ki_Mo (by decide) kw1690 kd_Mo_nameAt_63 rfl ?_
      refine zk_iload C kd_Mo_nameAt_66 4 rfl rfl ?_
      refine zk_iadd C kd_Mo_nameAt_68 rfl ?_
      obtain ⟨v5, c4, e⟩ := zd_b e
      refine zs_callV (k := 68) (rn := { frames := 1, cells := 0, slots := 0, locals := 21 }) (As := [.int ((h.1 68 7) + x4)]) (rest := [.int (h.2.1 70 ((32 * x2) + x4).toNatClampNeg)]) C (zc_Mo_great h ((h.1 68 7) + x4) c4) ku_Mo_great kw2017 kv_Mo_great rfl ⟨by decide, by decide⟩ ⟨by decide, by decide⟩ rfl rfl rfl (Nat.le_of_ble_eq_true rfl) kd_Mo_nameAt_69 rfl (c1 := 0) (s1 := 0) rfl rfl (fun v w hp => ?_)
      obtain ⟨rfl, rfl⟩ := hp
      refine zk_stk (r' := [.int v5, .int (h.2.1 70 ((32 * x2) + x4).toNatClampNeg)]) rfl ?_
      refine zk_icmp_ne (tgt := 79) C kd_Mo_nameAt_72 (by decide) rfl (fun b6 => ?_) (fun b6 => ?_)
      · replace e := zd_neg b6 e
        refine zk_iconst (v := 0) C kd_Mo_nameAt_79 (by decide) rfl ?_
        refine zk_lvs (lv' := [(0, .ref (S.1 68)), (1, .int x1), (2, .int x2), (4, .int x4)]) [0, 1, 2, 4] rfl ?_
        exact zb_Mo_nameAt_80 C hR hk12 hk39 h x1 x2 x4 0 e
      · replace e := zd_pos b6 e
        refine zk_iconst (v := 1) C kd_Mo_nameAt_75 (by decide) rfl ?_
        refine zk_goto (tgt := 80) C kd_Mo_nameAt_76 (by decide) ?_
        refine zk_lvs (lv' := [(0, .ref (S.1 68)), (1, .int x1), (2, .int x2), (4, .int x4)]) [0, 1, 2, 4] rfl ?_
        exact zb_Mo_nameAt_80 C hR hk12 hk39 h x1 x2 x4 1 e
theorem zl_Mo_nameAt_39 {X : zkj_T} {S : zs_T} {P : ze_T} {l : Launch} {D : va_G} {sz0 : Nat} {rv : Int32} {rh : zs_H} (C : zk_C X km_Mo_nameAt (zs_G S l D sz0) { frames := 2, cells := 0, slots := 0, locals := 43 } (ze_E P)) (hR : zkj_R X (zd_PI S rv rh) (some .int)) {k12 : zs_H → Int32 → Int32 → (Option (Int32 × zs_H))} (hk12 : ∀ (h : zs_H) (x1 : Int32) (x2 : Int32), k12 h x1 x2 = some (rv, rh) → zk_Ab X (zs_W S h) 0 0 12 [(0, .ref (S.1 68)), (1, .int x1), (2, .int x2)] []) (n : Nat) : ∀ (h : zs_H) (x1 : Int32) (x2 : Int32) (x3 : Int32) (x4 : Int32), f_Mo_nameAt_L39 k12 n h x1 x2 x3 x4 = some (rv, rh) → zk_Ab X (zs_W S h) 0 0 39 [(0, .ref (S.1 68)), (1, .int x1), (2, .int x2), (3, .int x3), (4, .int x4)] [] := by
  induction n with
  | zero => intro h x1 x2 x3 x4 e; exact zd_no e
  | succ n ih => intro h x1 x2 x3 x4 e; exact zb_Mo_nameAt_39 (k39 := f_Mo_nameAt_L39 k12 n) C hR hk12 ih h x1 x2 x3 x4 e
set_option maxHeartbeats 4000000 in
set_option maxRecDepth 100000 in
theorem zb_Mo_nameAt_35 {X : zkj_T} {S : zs_T} {P : ze_T} {l : Launch} {D : va_G} {sz0 : Nat} {rv : Int32} {rh : zs_H} (C : zk_C X km_Mo_nameAt (zs_G S l D sz0) { frames := 2, cells := 0, slots := 0, locals := 43 } (ze_E P)) (hR : zkj_R X (zd_PI S rv rh) (some .int)) {k12 : zs_H → Int32 → Int32 → (Option (Int32 × zs_H))} (hk12 : ∀ (h : zs_H) (x1 : Int32) (x2 : Int32), k12 h x1 x2 = some (rv, rh) → zk_Ab X (zs_W S h) 0 0 12 [(0, .ref (S.1 68)), (1, .int x1), (2, .int x2)] []) (h : zs_H) (x1 : Int32) (x2 : Int32) (y0 : Int32) (e : f_Mo_nameAt_35 k12 h x1 x2 y0 = some (rv, rh)) : zk_Ab X (zs_W S h) 0 0 35 [(0, .ref (S.1 68)), (1, .int x1), (2, .int x2)] [.int y0] := by
  unfold f_Mo_nameAt_35 at e
  refine zk_istore_n (lv' := [(3, _), (0, _), (1, _), (2, _)]) C kd_Mo_nameAt_35 rfl (by decide) rfl rfl ?_
  refine zk_iconst (v := 0) C kd_Mo_nameAt_36 (by decide) rfl ?_
  refine zk_istore (lv' := [(4, _), (3, _), (0, _), (1, _), (2, _)]) C kd_Mo_nameAt_37 (by decide) rfl rfl ?_
  refine zk_lvs (lv' := [(0, .ref (S.1 68)), (1, .int x1), (2, .int x2), (3, .int y0), (4, .int 0)]) [2, 3, 4, 1, 0] rfl ?_
  exact zl_Mo_nameAt_39 C hR hk12 zF h x1 x2 y0 0 e
set_option maxHeartbeats 4000000 in
set_option maxRecDepth 100000 in
theorem zb_Mo_nameAt_111 {X : zkj_T} {S : zs_T} {P : ze_T} {l : Launch} {D : va_G} {sz0 : Nat} {rv : Int32} {rh : zs_H} (C : zk_C X km_Mo_nameAt (zs_G S l D sz0) { frames := 2, cells := 0, slots := 0, locals := 43 } (ze_E P)) (hR : zkj_R X (zd_PI S rv rh) (some .int)) {k111 : zs_H → Int32 → Int32 → (Option (Int32 × zs_H))} (hk111 : ∀ (h : zs_H) (x1 : Int32) (x2 : Int32), k111 h x1 x2 = some (rv, rh) → zk_Ab X (zs_W S h) 0 0 111 [(0, .ref (S.1 68)), (1, .int x1), (2, .int x2)] []) (h : zs_H) (x1 : Int32) (x2 : Int32) (e : f_Mo_nameAt_111 k111 h x1 x2 = some (rv, rh)) : zk_Ab X (zs_W S h) 0 0 111 [(0, .ref (S.1 68)), (1, .int x1), (2, .int x2)] [] := by
  unfold f_Mo_nameAt_111 at e
  refine zk_iload_n C kd_Mo_nameAt_111 rfl 2 rfl rfl ?_
  refine zk_iload_n C kd_Mo_nameAt_112 rfl 1 rfl rfl ?_
  refine zk_icmp_ge (tgt := 147) C kd_Mo_nameAt_113 (by decide) rfl (fun b1 => ?_) (fun b1 => ?_)
  · replace e := zd_pos b1 e
    refine zk_aload_n C kd_Mo_nameAt_147 rfl 0 rfl rfl ?_
    refine zk_dup C kd_Mo_nameAt_148 rfl rfl ?_
    refine zs_get (v := .int (h.1 68 3)) C 68 3 rfl rfl rfl rfl ki_Mo (by decide) kw1686 kd_Mo_nameAt_149 rfl ?_
    refine zk_iconst (v := 1) C kd_Mo_nameAt_152 (by decide) rfl ?_
    refine zk_iadd C kd_Mo_nameAt_153 rfl ?_
    refine zs_put (ty := .int) C 68 3 ((h.1 68 3) + 1) rfl rfl rfl rfl ki_Mo ky_Mo ko_Mo kn_Mo (by decide) kw1686 rfl rfl rfl rfl (by decide) kd_Mo_nameAt_154 rfl ?_
    refine zk_aload_n C kd_Mo_nameAt_157 rfl 0 rfl rfl ?_
    refine zs_get (v := .int ((h.1 68 3) + 1)) C 68 3 rfl rfl rfl rfl ki_Mo (by decide) kw1686 kd_Mo_nameAt_158 rfl ?_
    refine zk_iconst (v := 1) C kd_Mo_nameAt_161 (by decide) rfl ?_
    refine zk_isub C kd_Mo_nameAt_162 rfl ?_
    exact zk_iret C hR kd_Mo_nameAt_163 rfl rfl (zd_rIS e)
  · replace e := zd_neg b1 e
    refine zk_aload_n C kd_Mo_nameAt_116 rfl 0 rfl rfl ?_
    refine zs_get (v := .ref (S.1 70)) C 68 4 rfl rfl rfl rfl ki_Mo (by decide) kw1687 kd_Mo_nameAt_117 rfl ?_
    refine zk_bipush (v := 32) C kd_Mo_nameAt_120 (by decide) rfl ?_
    refine zk_aload_n C kd_Mo_nameAt_122 rfl 0 rfl rfl ?_
    refine zs_get (v := .int (h.1 68 3)) C 68 3 rfl rfl rfl rfl ki_Mo (by decide) kw1686 kd_Mo_nameAt_123 rfl ?_
    refine zk_imul C kd_Mo_nameAt_126 rfl ?_
    refine zk_iload_n C kd_Mo_nameAt_127 rfl 2 rfl rfl ?_
    refine zk_iadd C kd_Mo_nameAt_128 rfl ?_
    refine zk_aload_n C kd_Mo_nameAt_129 rfl 0 rfl rfl ?_
    refine zk_aload_n C kd_Mo_nameAt_130 rfl 0 rfl rfl ?_
    refine zs_get (v := .int (h.1 68 7)) C 68 7 rfl rfl rfl rfl ki_Mo (by decide) kw1690 kd_Mo_nameAt_131 rfl ?_
    refine zk_iload_n C kd_Mo_nameAt_134 rfl 2 rfl rfl ?_
    refine zk_iadd C kd_Mo_nameAt_135 rfl ?_
    obtain ⟨v3, c2, e⟩ := zd_b e
    refine zs_callV (k := 68) (rn := { frames := 1, cells := 0, slots := 0, locals := 21 }) (As := [.int ((h.1 68 7) + x2)]) (rest := [.int ((32 * (h.1 68 3)) + x2), .ref (S.1 70)]) C (zc_Mo_great h ((h.1 68 7) + x2) c2) ku_Mo_great kw2017 kv_Mo_great rfl ⟨by decide, by decide⟩ ⟨by decide, by decide⟩ rfl rfl rfl (Nat.le_of_ble_eq_true rfl) kd_Mo_nameAt_136 rfl (c1 := 0) (s1 := 0) rfl rfl (fun v w hp => ?_)
    obtain ⟨rfl, rfl⟩ := hp
    refine zk_stk (r' := [.int v3, .int ((32 * (h.1 68 3)) + x2), .ref (S.1 70)]) rfl ?_
    refine zk_i2b C kd_Mo_nameAt_139 rfl ?_
    obtain ⟨q4, e⟩ := zd_g e
    refine zs_bast C 70 rfl (zd_vp q4) kd_Mo_nameAt_140 rfl ?_
    refine zk_iinc (v := (x2 + 1)) (lv' := [(2, _), (0, _), (1, _)]) C kd_Mo_nameAt_141 2 rfl rfl (by decide) rfl rfl ?_
    refine zk_goto (tgt := 111) C kd_Mo_nameAt_144 (by decide) ?_
    refine zk_lvs (lv' := [(0, .ref (S.1 68)), (1, .int x1), (2, .int (x2 + 1))]) [1, 2, 0] rfl ?_
    exact hk111 (zs_uM h 70 ((32 * (h.1 68 3)) + x2).toNatClampNeg (vp_nar .byte (v3.toInt8.toInt32))) x1 (x2 + 1) e
theorem zl_Mo_nameAt_111 {X : zkj_T} {S : zs_T} {P : ze_T} {l : Launch} {D : va_G} {sz0 : Nat} {rv : Int32} {rh : zs_H} (C : zk_C X km_Mo_nameAt (zs_G S l D sz0) { frames := 2, cells := 0, slots := 0, locals := 43 } (ze_E P)) (hR : zkj_R X (zd_PI S rv rh) (some .int)) (n : Nat) : ∀ (h : zs_H) (x1 : Int32) (x2 : Int32), f_Mo_nameAt_L111 n h x1 x2 = some (rv, rh) → zk_Ab X (zs_W S h) 0 0 111 [(0, .ref (S.1 68)), (1, .int x1), (2, .int x2)] [] := by
  induction n with
  | zero => intro h x1 x2 e; exact zd_no e
  | succ n ih => intro h x1 x2 e; exact zb_Mo_nameAt_111 (k111 := f_Mo_nameAt_L111  n) C hR ih h x1 x2 e
set_option maxHeartbeats 4000000 in
set_option maxRecDepth 100000 in
theorem zb_Mo_nameAt_12 {X : zkj_T} {S : zs_T} {P : ze_T} {l : Launch} {D : va_G} {sz0 : Nat} {rv : Int32} {rh : zs_H} (C : zk_C X km_Mo_nameAt (zs_G S l D sz0) { frames := 2, cells := 0, slots := 0, locals := 43 } (ze_E P)) (hR : zkj_R X (zd_PI S rv rh) (some .int)) {k12 : zs_H → Int32 → Int32 → (Option (Int32 × zs_H))} (hk12 : ∀ (h : zs_H) (x1 : Int32) (x2 : Int32), k12 h x1 x2 = some (rv, rh) → zk_Ab X (zs_W S h) 0 0 12 [(0, .ref (S.1 68)), (1, .int x1), (2, .int x2)] []) (h : zs_H) (x1 : Int32) (x2 : Int32) (e : f_Mo_nameAt_12 k12 h x1 x2 = some (rv, rh)) : zk_Ab X (zs_W S h) 0 0 12 [(0, .ref (S.1 68)), (1, .int x1), (2, .int x2)] [] := by
  unfold f_Mo_nameAt_12 at e
  refine zk_iload_n C kd_Mo_nameAt_12 rfl 2 rfl rfl ?_
  refine zk_aload_n C kd_Mo_nameAt_13 rfl 0 rfl rfl ?_
  refine zs_get (v := .int (h.1 68 3)) C 68 3 rfl rfl rfl rfl ki_Mo (by decide) kw1686 kd_Mo_nameAt_14 rfl ?_
  refine zk_icmp_ge (tgt := 99) C kd_Mo_nameAt_17 (by decide) rfl (fun b1 => ?_) (fun b1 => ?_)
  · replace e := zd_pos b1 e
    refine zk_aload_n C kd_Mo_nameAt_99 rfl 0 rfl rfl ?_
    refine zs_get (v := .ref (S.1 71)) C 68 5 rfl rfl rfl rfl ki_Mo (by decide) kw1688 kd_Mo_nameAt_100 rfl ?_
    refine zk_aload_n C kd_Mo_nameAt_103 rfl 0 rfl rfl ?_
    refine zs_get (v := .int (h.1 68 3)) C 68 3 rfl rfl rfl rfl ki_Mo (by decide) kw1686 kd_Mo_nameAt_104 rfl ?_
    refine zk_iload_n C kd_Mo_nameAt_107 rfl 1 rfl rfl ?_
    obtain ⟨q2, e⟩ := zd_g e
    refine zs_iast C 71 rfl (zd_vp q2) kd_Mo_nameAt_108 rfl ?_
    refine zk_iconst (v := 0) C kd_Mo_nameAt_109 (by decide) rfl ?_
    refine zk_istore_n (lv' := [(2, _), (0, _), (1, _)]) C kd_Mo_nameAt_110 rfl (by decide) rfl rfl ?_
    refine zk_lvs (lv' := [(0, .ref (S.1 68)), (1, .int x1), (2, .int 0)]) [1, 2, 0] rfl ?_
    exact zl_Mo_nameAt_111 C hR zF (zs_uM h 71 (h.1 68 3).toNatClampNeg x1) x1 0 e
  · replace e := zd_neg b1 e
    refine zk_aload_n C kd_Mo_nameAt_20 rfl 0 rfl rfl ?_
    refine zs_get (v := .ref (S.1 71)) C 68 5 rfl rfl rfl rfl ki_Mo (by decide) kw1688 kd_Mo_nameAt_21 rfl ?_
    refine zk_iload_n C kd_Mo_nameAt_24 rfl 2 rfl rfl ?_
    obtain ⟨q3, e⟩ := zd_g e
    refine zs_iald C 71 rfl (zd_vp q3) kd_Mo_nameAt_25 rfl ?_
    refine zk_iload_n C kd_Mo_nameAt_26 rfl 1 rfl rfl ?_
    refine zk_icmp_ne (tgt := 34) C kd_Mo_nameAt_27 (by decide) rfl (fun b4 => ?_) (fun b4 => ?_)
    · replace e := zd_neg b4 e
      refine zk_iconst (v := 0) C kd_Mo_nameAt_34 (by decide) rfl ?_
      refine zk_lvs (lv' := [(0, .ref (S.1 68)), (1, .int x1), (2, .int x2)]) [0, 1, 2] rfl ?_
      exact zb_Mo_nameAt_35 C hR hk12 h x1 x2 0 e
    · replace e := zd_pos b4 e
      refine zk_iconst (v := 1) C kd_Mo_nameAt_30 (by decide) rfl ?_
      refine zk_goto (tgt := 35) C kd_Mo_nameAt_31 (by decide) ?_
      refine zk_lvs (lv' := [(0, .ref (S.1 68)), (1, .int x1), (2, .int x2)]) [0, 1, 2] rfl ?_
      exact zb_Mo_nameAt_35 C hR hk12 h x1 x2 1 e
theorem zl_Mo_nameAt_12 {X : zkj_T} {S : zs_T} {P : ze_T} {l : Launch} {D : va_G} {sz0 : Nat} {rv : Int32} {rh : zs_H} (C : zk_C X km_Mo_nameAt (zs_G S l D sz0) { frames := 2, cells := 0, slots := 0, locals := 43 } (ze_E P)) (hR : zkj_R X (zd_PI S rv rh) (some .int)) (n : Nat) : ∀ (h : zs_H) (x1 : Int32) (x2 : Int32), f_Mo_nameAt_L12 n h x1 x2 = some (rv, rh) → zk_Ab X (zs_W S h) 0 0 12 [(0, .ref (S.1 68)), (1, .int x1), (2, .int x2)] [] := by
  induction n with
  | zero => intro h x1 x2 e; exact zd_no e
  | succ n ih => intro h x1 x2 e; exact zb_Mo_nameAt_12 (k12 := f_Mo_nameAt_L12  n) C hR ih h x1 x2 e
set_option maxHeartbeats 4000000 in
set_option maxRecDepth 100000 in
theorem zc_Mo_nameAt {l : Launch} {D : va_G} {sz0 : Nat} {S : zs_T} {P : ze_T} (h : zs_H) {rv : Int32} {rh : zs_H} (e : f_Mo_nameAt h = some (rv, rh)) : zk_Sp (zs_G S l D sz0) (ze_E P) km_Mo_nameAt { frames := 2, cells := 0, slots := 0, locals := 43 } [.ref (S.1 68)] (zs_W S h) (zd_PI S rv rh) := by
  refine zk_met ku_Mo_nameAt (Nat.le_of_ble_eq_true rfl) (ze_Em P) ?_
  intro X C hR
  refine zk_lvs (lv' := [(0, .ref (S.1 68))]) [0] rfl ?_
  unfold f_Mo_nameAt at e
  refine zk_aload_n C kd_Mo_nameAt_0 rfl 0 rfl rfl ?_
  refine zs_get (v := .int (h.1 68 8)) C 68 8 rfl rfl rfl rfl ki_Mo (by decide) kw1691 kd_Mo_nameAt_1 rfl ?_
  refine zk_aload_n C kd_Mo_nameAt_4 rfl 0 rfl rfl ?_
  refine zs_get (v := .int (h.1 68 7)) C 68 7 rfl rfl rfl rfl ki_Mo (by decide) kw1690 kd_Mo_nameAt_5 rfl ?_
  refine zk_isub C kd_Mo_nameAt_8 rfl ?_
  refine zk_istore_n (lv' := [(1, _), (0, _)]) C kd_Mo_nameAt_9 rfl (by decide) rfl rfl ?_
  refine zk_iconst (v := 0) C kd_Mo_nameAt_10 (by decide) rfl ?_
  refine zk_istore_n (lv' := [(2, _), (1, _), (0, _)]) C kd_Mo_nameAt_11 rfl (by decide) rfl rfl ?_
  refine zk_lvs (lv' := [(0, .ref (S.1 68)), (1, .int ((h.1 68 8) - (h.1 68 7))), (2, .int 0)]) [2, 1, 0] rfl ?_
  exact zl_Mo_nameAt_12 C hR zF h ((h.1 68 8) - (h.1 68 7)) 0 e
set_option maxHeartbeats 4000000 in
set_option maxRecDepth 100000 in
theorem zb_Mo_readName_101 {X : zkj_T} {S : zs_T} {P : ze_T} {l : Launch} {D : va_G} {sz0 : Nat} {rh : zs_H} (C : zk_C X km_Mo_readName (zs_G S l D sz0) { frames := 5, cells := 0, slots := 0, locals := 109 } (ze_E P)) (hR : zkj_R X (zd_PV S rh) (none)) (h : zs_H) (y0 : Int32) (e : f_Mo_readName_101 h y0 = some rh) : zk_Ab X (zs_W S h) 0 0 101 [] [.int y0, .ref (S.1 68)] := by
  unfold f_Mo_readName_101 at e
  refine zs_put (ty := .int) C 68 9 y0 rfl rfl rfl rfl ki_Mo ky_Mo ko_Mo kn_Mo (by decide) kw1692 rfl rfl rfl rfl (by decide) kd_Mo_readName_101 rfl ?_
  exact zk_vret C hR kd_Mo_readName_104 rfl rfl (zd_rV e)
set_option maxHeartbeats 4000000 in
set_option maxRecDepth 100000 in
theorem zb_Mo_readName_79 {X : zkj_T} {S : zs_T} {P : ze_T} {l : Launch} {D : va_G} {sz0 : Nat} {rh : zs_H} (C : zk_C X km_Mo_readName (zs_G S l D sz0) { frames := 5, cells := 0, slots := 0, locals := 109 } (ze_E P)) (hR : zkj_R X (zd_PV S rh) (none)) (h : zs_H) (y0 : Int32) (e : f_Mo_readName_79 h y0 = some rh) : zk_Ab X (zs_W S h) 0 0 79 [(0, .ref (S.1 68))] [.int y0, .ref (S.1 68)] := by
  unfold f_Mo_readName_79 at e
  refine zs_put (ty := .int) C 68 6 y0 rfl rfl rfl rfl ki_Mo ky_Mo ko_Mo kn_Mo (by decide) kw1689 rfl rfl rfl rfl (by decide) kd_Mo_readName_79 rfl ?_
  refine zk_aload_n C kd_Mo_readName_82 rfl 0 rfl rfl ?_
  refine zk_aload_n C kd_Mo_readName_83 rfl 0 rfl rfl ?_
  refine zs_get (v := .int (h.1 68 9)) C 68 9 rfl rfl rfl rfl ki_Mo (by decide) kw1692 kd_Mo_readName_84 rfl ?_
  refine zk_if_ge (tgt := 97) C kd_Mo_readName_87 (by decide) rfl (fun b1 => ?_) (fun b1 => ?_)
  · replace e := zd_pos b1 e
    refine zk_aload_n C kd_Mo_readName_97 rfl 0 rfl rfl ?_
    refine zs_get (v := .int (h.1 68 9)) C 68 9 rfl rfl rfl rfl ki_Mo (by decide) kw1692 kd_Mo_readName_98 rfl ?_
    refine zk_lvs (lv' := []) [] rfl ?_
    exact zb_Mo_readName_101 C hR (zs_uF h 68 6 y0) (h.1 68 9) e
  · replace e := zd_neg b1 e
    refine zk_aload_n C kd_Mo_readName_90 rfl 0 rfl rfl ?_
    obtain ⟨v3, h4, c2, e⟩ := zd_Be e
    refine zs_callV (k := 68) (rn := { frames := 2, cells := 0, slots := 0, locals := 43 }) (As := []) (rest := [.ref (S.1 68)]) C (zc_Mo_nameAt (zs_uF h 68 6 y0) c2) ku_Mo_nameAt kw2062 kv_Mo_nameAt rfl ⟨by decide, by decide⟩ ⟨by decide, by decide⟩ rfl rfl rfl (Nat.le_of_ble_eq_true rfl) kd_Mo_readName_91 rfl (c1 := 0) (s1 := 0) rfl rfl (fun v w hp => ?_)
    obtain ⟨rfl, rfl⟩ := hp
    refine zk_stk (r' := [.int v3, .ref (S.1 68)]) rfl ?_
    refine zk_goto (tgt := 101) C kd_Mo_readName_94 (by decide) ?_
    refine zk_lvs (lv' := []) [] rfl ?_
    exact zb_Mo_readName_101 C hR h4 v3 e
set_option maxHeartbeats 4000000 in
set_option maxRecDepth 100000 in
theorem zb_Mo_readName_8 {X : zkj_T} {S : zs_T} {P : ze_T} {l : Launch} {D : va_G} {sz0 : Nat} {rh : zs_H} (C : zk_C X km_Mo_readName (zs_G S l D sz0) { frames := 5, cells := 0, slots := 0, locals := 109 } (ze_E P)) (hR : zkj_R X (zd_PV S rh) (none)) {k8 : zs_H → (Option zs_H)} (hk8 : ∀ (h : zs_H), k8 h = some rh → zk_Ab X (zs_W S h) 0 0 8 [(0, .ref (S.1 68))] []) (h : zs_H) (e : f_Mo_readName_8 k8 h = some rh) : zk_Ab X (zs_W S h) 0 0 8 [(0, .ref (S.1 68))] [] := by
  unfold f_Mo_readName_8 at e
  refine zk_aload_n C kd_Mo_readName_8 rfl 0 rfl rfl ?_
  refine zk_aload_n C kd_Mo_readName_9 rfl 0 rfl rfl ?_
  refine zs_get (v := .int (h.1 68 8)) C 68 8 rfl rfl rfl rfl ki_Mo (by decide) kw1691 kd_Mo_readName_10 rfl ?_
  obtain ⟨v2, c1, e⟩ := zd_b e
  refine zs_callV (k := 68) (rn := { frames := 2, cells := 0, slots := 0, locals := 43 }) (As := [.int (h.1 68 8)]) (rest := []) C (zc_Mo_goesOn h (h.1 68 8) c1) ku_Mo_goesOn kw2044 kv_Mo_goesOn rfl ⟨by decide, by decide⟩ ⟨by decide, by decide⟩ rfl rfl rfl (Nat.le_of_ble_eq_true rfl) kd_Mo_readName_13 rfl (c1 := 0) (s1 := 0) rfl rfl (fun v w hp => ?_)
  obtain ⟨rfl, rfl, z3⟩ := hp
  refine zk_stk (r' := [.int v2]) rfl ?_
  refine zk_if_eq (tgt := 32) C kd_Mo_readName_16 (by decide) rfl (fun b4 => ?_) (fun b4 => ?_)
  · replace e := zd_pos b4 e
    refine zk_aload_n C kd_Mo_readName_32 rfl 0 rfl rfl ?_
    refine zs_get (v := .int (h.1 68 8)) C 68 8 rfl rfl rfl rfl ki_Mo (by decide) kw1691 kd_Mo_readName_33 rfl ?_
    refine zk_aload_n C kd_Mo_readName_36 rfl 0 rfl rfl ?_
    refine zs_get (v := .int (h.1 68 7)) C 68 7 rfl rfl rfl rfl ki_Mo (by decide) kw1690 kd_Mo_readName_37 rfl ?_
    refine zk_isub C kd_Mo_readName_40 rfl ?_
    refine zk_bipush (v := 32) C kd_Mo_readName_41 (by decide) rfl ?_
    refine zk_icmp_le (tgt := 58) C kd_Mo_readName_43 (by decide) rfl (fun b5 => ?_) (fun b5 => ?_)
    · replace e := zd_pos b5 e
      refine zk_aload_n C kd_Mo_readName_58 rfl 0 rfl rfl ?_
      refine zk_aload_n C kd_Mo_readName_59 rfl 0 rfl rfl ?_
      obtain ⟨v7, c6, e⟩ := zd_b e
      refine zs_callV (k := 68) (rn := { frames := 4, cells := 0, slots := 0, locals := 85 }) (As := []) (rest := [.ref (S.1 68)]) C (zc_Mo_wordAt h c6) ku_Mo_wordAt kw2055 kv_Mo_wordAt rfl ⟨by decide, by decide⟩ ⟨by decide, by decide⟩ rfl rfl rfl (Nat.le_of_ble_eq_true rfl) kd_Mo_readName_60 rfl (c1 := 0) (s1 := 0) rfl rfl (fun v w hp => ?_)
      obtain ⟨rfl, rfl⟩ := hp
      refine zk_stk (r' := [.int v7, .ref (S.1 68)]) rfl ?_
      refine zs_put (ty := .int) C 68 9 v7 rfl rfl rfl rfl ki_Mo ky_Mo ko_Mo kn_Mo (by decide) kw1692 rfl rfl rfl rfl (by decide) kd_Mo_readName_63 rfl ?_
      refine zk_aload_n C kd_Mo_readName_66 rfl 0 rfl rfl ?_
      refine zk_aload_n C kd_Mo_readName_67 rfl 0 rfl rfl ?_
      refine zs_get (v := .int v7) C 68 9 rfl rfl rfl rfl ki_Mo (by decide) kw1692 kd_Mo_readName_68 rfl ?_
      refine zk_if_ge (tgt := 78) C kd_Mo_readName_71 (by decide) rfl (fun b8 => ?_) (fun b8 => ?_)
      · replace e := zd_pos b8 e
        refine zk_iconst (v := 2) C kd_Mo_readName_78 (by decide) rfl ?_
        refine zk_lvs (lv' := [(0, .ref (S.1 68))]) [0] rfl ?_
        exact zb_Mo_readName_79 C hR (zs_uF h 68 9 v7) 2 e
      · replace e := zd_neg b8 e
        refine zk_iconst (v := 1) C kd_Mo_readName_74 (by decide) rfl ?_
        refine zk_goto (tgt := 79) C kd_Mo_readName_75 (by decide) ?_
        refine zk_lvs (lv' := [(0, .ref (S.1 68))]) [0] rfl ?_
        exact zb_Mo_readName_79 C hR (zs_uF h 68 9 v7) 1 e
    · replace e := zd_neg b5 e
      refine zk_aload_n C kd_Mo_readName_46 rfl 0 rfl rfl ?_
      refine zk_iconst (v := 3) C kd_Mo_readName_47 (by decide) rfl ?_
      refine zk_aload_n C kd_Mo_readName_48 rfl 0 rfl rfl ?_
      refine zs_get (v := .int (h.1 68 7)) C 68 7 rfl rfl rfl rfl ki_Mo (by decide) kw1690 kd_Mo_readName_49 rfl ?_
      obtain ⟨h10, c9, e⟩ := zd_b e
      refine zs_callV (k := 68) (rn := { frames := 0, cells := 0, slots := 0, locals := 0 }) (As := [.int 3, .int (h.1 68 7)]) (rest := []) C (zc_Mo_fail h 3 (h.1 68 7) c9) ku_Mo_fail kw2013 kv_Mo_fail rfl ⟨by decide, by decide⟩ ⟨by decide, by decide⟩ rfl rfl rfl (Nat.le_of_ble_eq_true rfl) kd_Mo_readName_52 rfl (c1 := 0) (s1 := 0) rfl rfl (fun v w hp => ?_)
      obtain ⟨rfl, rfl⟩ := hp
      refine zk_stk (r' := []) rfl ?_
      refine zk_goto (tgt := 104) C kd_Mo_readName_55 (by decide) ?_
      exact zk_vret C hR kd_Mo_readName_104 rfl rfl (zd_rV e)
  · replace e := zd_neg b4 e
    refine zk_aload_n C kd_Mo_readName_19 rfl 0 rfl rfl ?_
    refine zk_dup C kd_Mo_readName_20 rfl rfl ?_
    refine zs_get (v := .int (h.1 68 8)) C 68 8 rfl rfl rfl rfl ki_Mo (by decide) kw1691 kd_Mo_readName_21 rfl ?_
    refine zk_iconst (v := 1) C kd_Mo_readName_24 (by decide) rfl ?_
    refine zk_iadd C kd_Mo_readName_25 rfl ?_
    refine zs_put (ty := .int) C 68 8 ((h.1 68 8) + 1) rfl rfl rfl rfl ki_Mo ky_Mo ko_Mo kn_Mo (by decide) kw1691 rfl rfl rfl rfl (by decide) kd_Mo_readName_26 rfl ?_
    refine zk_goto (tgt := 8) C kd_Mo_readName_29 (by decide) ?_
    refine zk_lvs (lv' := [(0, .ref (S.1 68))]) [0] rfl ?_
    exact hk8 (zs_uF h 68 8 ((h.1 68 8) + 1)) e
theorem zl_Mo_readName_8 {X : zkj_T} {S : zs_T} {P : ze_T} {l : Launch} {D : va_G} {sz0 : Nat} {rh : zs_H} (C : zk_C X km_Mo_readName (zs_G S l D sz0) { frames := 5, cells := 0, slots := 0, locals := 109 } (ze_E P)) (hR : zkj_R X (zd_PV S rh) (none)) (n : Nat) : ∀ (h : zs_H), f_Mo_readName_L8 n h = some rh → zk_Ab X (zs_W S h) 0 0 8 [(0, .ref (S.1 68))] [] := by
  induction n with
  | zero => intro h e; exact zd_no e
  | succ n ih => intro h e; exact zb_Mo_readName_8 (k8 := f_Mo_readName_L8  n) C hR ih h e
set_option maxHeartbeats 4000000 in
set_option maxRecDepth 100000 in
theorem zc_Mo_readName {l : Launch} {D : va_G} {sz0 : Nat} {S : zs_T} {P : ze_T} (h : zs_H) {rh : zs_H} (e : f_Mo_readName h = some rh) : zk_Sp (zs_G S l D sz0) (ze_E P) km_Mo_readName { frames := 5, cells := 0, slots := 0, locals := 109 } [.ref (S.1 68)] (zs_W S h) (zd_PV S rh) := by
  refine zk_met ku_Mo_readName (Nat.le_of_ble_eq_true rfl) (ze_Em P) ?_
  intro X C hR
  refine zk_lvs (lv' := [(0, .ref (S.1 68))]) [0] rfl ?_
  unfold f_Mo_readName at e
  refine zk_aload_n C kd_Mo_readName_0 rfl 0 rfl rfl ?_
  refine zk_aload_n C kd_Mo_readName_1 rfl 0 rfl rfl ?_
  refine zs_get (v := .int (h.1 68 7)) C 68 7 rfl rfl rfl rfl ki_Mo (by decide) kw1690 kd_Mo_readName_2 rfl ?_
  refine zs_put (ty := .int) C 68 8 (h.1 68 7) rfl rfl rfl rfl ki_Mo ky_Mo ko_Mo kn_Mo (by decide) kw1691 rfl rfl rfl rfl (by decide) kd_Mo_readName_5 rfl ?_
  refine zk_lvs (lv' := [(0, .ref (S.1 68))]) [0] rfl ?_
  exact zl_Mo_readName_8 C hR zF (zs_uF h 68 8 (h.1 68 7)) e
set_option maxHeartbeats 4000000 in
set_option maxRecDepth 100000 in
theorem zb_Mo_readNumber_59 {X : zkj_T} {S : zs_T} {P : ze_T} {l : Launch} {D : va_G} {sz0 : Nat} {rh : zs_H} (C : zk_C X km_Mo_readNumber (zs_G S l D sz0) { frames := 4, cells := 0, slots := 0, locals := 86 } (ze_E P)) (hR : zkj_R X (zd_PV S rh) (none)) (h : zs_H) (x1 : Int64) (e : f_Mo_readNumber_59 h x1 = some rh) : zk_Ab X (zs_W S h) 0 0 59 [(0, .ref (S.1 68)), (1, .long x1)] [] := by
  unfold f_Mo_readNumber_59 at e
  refine zk_aload_n C kd_Mo_readNumber_59 rfl 0 rfl rfl ?_
  refine zk_lload_n C kd_Mo_readNumber_60 rfl 1 rfl rfl ?_
  obtain ⟨h2, c1, e⟩ := zd_b e
  refine zs_callV (k := 68) (rn := { frames := 3, cells := 0, slots := 0, locals := 64 }) (As := [.long x1]) (rest := []) C (zc_Mo_settle h x1 c1) ku_Mo_settle kw2040 kv_Mo_settle rfl ⟨by decide, by decide⟩ ⟨by decide, by decide⟩ rfl rfl rfl (Nat.le_of_ble_eq_true rfl) kd_Mo_readNumber_61 rfl (c1 := 0) (s1 := 0) rfl rfl (fun v w hp => ?_)
  obtain ⟨rfl, rfl⟩ := hp
  refine zk_stk (r' := []) rfl ?_
  exact zk_vret C hR kd_Mo_readNumber_64 rfl rfl (zd_rV e)
set_option maxHeartbeats 4000000 in
set_option maxRecDepth 100000 in
theorem zb_Mo_readNumber_58 {X : zkj_T} {S : zs_T} {P : ze_T} {l : Launch} {D : va_G} {sz0 : Nat} {rh : zs_H} (C : zk_C X km_Mo_readNumber (zs_G S l D sz0) { frames := 4, cells := 0, slots := 0, locals := 86 } (ze_E P)) (hR : zkj_R X (zd_PV S rh) (none)) (h : zs_H) (y0 : Int64) (e : f_Mo_readNumber_58 h y0 = some rh) : zk_Ab X (zs_W S h) 0 0 58 [(0, .ref (S.1 68))] [.long y0] := by
  unfold f_Mo_readNumber_58 at e
  refine zk_lstore_n (lv' := [(1, _), (0, _)]) C kd_Mo_readNumber_58 rfl (by decide) rfl rfl ?_
  refine zk_lvs (lv' := [(0, .ref (S.1 68)), (1, .long y0)]) [1, 0] rfl ?_
  exact zb_Mo_readNumber_59 C hR h y0 e
set_option maxHeartbeats 4000000 in
set_option maxRecDepth 100000 in
theorem zb_Mo_readNumber_40 {X : zkj_T} {S : zs_T} {P : ze_T} {l : Launch} {D : va_G} {sz0 : Nat} {rh : zs_H} (C : zk_C X km_Mo_readNumber (zs_G S l D sz0) { frames := 4, cells := 0, slots := 0, locals := 86 } (ze_E P)) (hR : zkj_R X (zd_PV S rh) (none)) (h : zs_H) (x1 : Int64) (e : f_Mo_readNumber_40 h x1 = some rh) : zk_Ab X (zs_W S h) 0 0 40 [(0, .ref (S.1 68)), (1, .long x1)] [] := by
  unfold f_Mo_readNumber_40 at e
  refine zk_aload_n C kd_Mo_readNumber_40 rfl 0 rfl rfl ?_
  refine zk_aload_n C kd_Mo_readNumber_41 rfl 0 rfl rfl ?_
  refine zs_get (v := .int (h.1 68 8)) C 68 8 rfl rfl rfl rfl ki_Mo (by decide) kw1691 kd_Mo_readNumber_42 rfl ?_
  refine zk_iconst (v := 1) C kd_Mo_readNumber_45 (by decide) rfl ?_
  refine zk_iadd C kd_Mo_readNumber_46 rfl ?_
  refine zk_lload_n C kd_Mo_readNumber_47 rfl 1 rfl rfl ?_
  refine zk_l2i C kd_Mo_readNumber_48 rfl ?_
  obtain ⟨v2, h3, c1, e⟩ := zd_Be e
  refine zs_callV (k := 68) (rn := { frames := 2, cells := 0, slots := 0, locals := 43 }) (As := [.int ((h.1 68 8) + 1), .int (x1.toInt32)]) (rest := []) C (zc_Mo_digits h ((h.1 68 8) + 1) (x1.toInt32) c1) ku_Mo_digits kw2025 kv_Mo_digits rfl ⟨by decide, by decide⟩ ⟨by decide, by decide⟩ rfl rfl rfl (Nat.le_of_ble_eq_true rfl) kd_Mo_readNumber_49 rfl (c1 := 0) (s1 := 0) rfl rfl (fun v w hp => ?_)
  obtain ⟨rfl, rfl⟩ := hp
  refine zk_stk (r' := [.long v2]) rfl ?_
  refine zk_goto (tgt := 58) C kd_Mo_readNumber_52 (by decide) ?_
  refine zk_lvs (lv' := [(0, .ref (S.1 68))]) [0] rfl ?_
  exact zb_Mo_readNumber_58 C hR h3 v2 e
set_option maxHeartbeats 4000000 in
set_option maxRecDepth 100000 in
theorem zc_Mo_readNumber {l : Launch} {D : va_G} {sz0 : Nat} {S : zs_T} {P : ze_T} (h : zs_H) {rh : zs_H} (e : f_Mo_readNumber h = some rh) : zk_Sp (zs_G S l D sz0) (ze_E P) km_Mo_readNumber { frames := 4, cells := 0, slots := 0, locals := 86 } [.ref (S.1 68)] (zs_W S h) (zd_PV S rh) := by
  refine zk_met ku_Mo_readNumber (Nat.le_of_ble_eq_true rfl) (ze_Em P) ?_
  intro X C hR
  refine zk_lvs (lv' := [(0, .ref (S.1 68))]) [0] rfl ?_
  unfold f_Mo_readNumber at e
  refine zk_aload_n C kd_Mo_readNumber_0 rfl 0 rfl rfl ?_
  refine zk_aload_n C kd_Mo_readNumber_1 rfl 0 rfl rfl ?_
  refine zs_get (v := .int (h.1 68 7)) C 68 7 rfl rfl rfl rfl ki_Mo (by decide) kw1690 kd_Mo_readNumber_2 rfl ?_
  refine zk_bipush (v := 10) C kd_Mo_readNumber_5 (by decide) rfl ?_
  obtain ⟨v2, h3, c1, e⟩ := zd_Be e
  refine zs_callV (k := 68) (rn := { frames := 2, cells := 0, slots := 0, locals := 43 }) (As := [.int (h.1 68 7), .int 10]) (rest := []) C (zc_Mo_digits h (h.1 68 7) 10 c1) ku_Mo_digits kw2025 kv_Mo_digits rfl ⟨by decide, by decide⟩ ⟨by decide, by decide⟩ rfl rfl rfl (Nat.le_of_ble_eq_true rfl) kd_Mo_readNumber_7 rfl (c1 := 0) (s1 := 0) rfl rfl (fun v w hp => ?_)
  obtain ⟨rfl, rfl⟩ := hp
  refine zk_stk (r' := [.long v2]) rfl ?_
  refine zk_lstore_n (lv' := [(1, _), (0, _)]) C kd_Mo_readNumber_10 rfl (by decide) rfl rfl ?_
  refine zk_aload_n C kd_Mo_readNumber_11 rfl 1 rfl rfl ?_
  refine zk_aload_n C kd_Mo_readNumber_12 rfl 1 rfl rfl ?_
  refine zs_get (v := .int (h3.1 68 8)) C 68 8 rfl rfl rfl rfl ki_Mo (by decide) kw1691 kd_Mo_readNumber_13 rfl ?_
  obtain ⟨v5, c4, e⟩ := zd_b e
  refine zs_callV (k := 68) (rn := { frames := 0, cells := 0, slots := 0, locals := 0 }) (As := [.int (h3.1 68 8)]) (rest := []) C (zc_Mo_byteOf h3 (h3.1 68 8) c4) ku_Mo_byteOf kw2009 kv_Mo_byteOf rfl ⟨by decide, by decide⟩ ⟨by decide, by decide⟩ rfl rfl rfl (Nat.le_of_ble_eq_true rfl) kd_Mo_readNumber_16 rfl (c1 := 0) (s1 := 0) rfl rfl (fun v w hp => ?_)
  obtain ⟨rfl, rfl⟩ := hp
  refine zk_stk (r' := [.int v5]) rfl ?_
  refine zk_bipush (v := 35) C kd_Mo_readNumber_19 (by decide) rfl ?_
  refine zk_icmp_ne (tgt := 59) C kd_Mo_readNumber_21 (by decide) rfl (fun b6 => ?_) (fun b6 => ?_)
  · replace e := zd_neg b6 e
    refine zk_lvs (lv' := [(0, .ref (S.1 68)), (1, .long v2)]) [1, 0] rfl ?_
    exact zb_Mo_readNumber_59 C hR h3 v2 e
  · replace e := zd_pos b6 e
    refine zk_lload_n C kd_Mo_readNumber_24 rfl 0 rfl rfl ?_
    refine zk_ldc2 (v := 16) C kw2070 kd_Mo_readNumber_25 rfl ?_
    refine zk_lcmp C kd_Mo_readNumber_28 rfl ?_
    refine zk_if_eq (tgt := 40) C kd_Mo_readNumber_29 (by decide) rfl (fun b7 => ?_) (fun b7 => ?_)
    · replace e := zd_pos (zd_ceq.mp b7) e
      refine zk_lvs (lv' := [(0, .ref (S.1 68)), (1, .long v2)]) [1, 0] rfl ?_
      exact zb_Mo_readNumber_40 C hR h3 v2 e
    · replace e := zd_neg (fun z => b7 (zd_ceq.mpr z)) e
      refine zk_lload_n C kd_Mo_readNumber_32 rfl 0 rfl rfl ?_
      refine zk_ldc2 (v := 2) C kw2071 kd_Mo_readNumber_33 rfl ?_
      refine zk_lcmp C kd_Mo_readNumber_36 rfl ?_
      refine zk_if_ne (tgt := 55) C kd_Mo_readNumber_37 (by decide) rfl (fun b8 => ?_) (fun b8 => ?_)
      · replace e := zd_neg (fun w => b8 (zd_ceq.mpr w)) e
        refine zk_ldc2 (v := (-1)) C kw2029 kd_Mo_readNumber_55 rfl ?_
        refine zk_lvs (lv' := [(0, .ref (S.1 68))]) [1] rfl ?_
        exact zb_Mo_readNumber_58 C hR h3 (-1 : Int64) e
      · replace e := zd_pos (zd_ceq.mp b8) e
        refine zk_lvs (lv' := [(0, .ref (S.1 68)), (1, .long v2)]) [1, 0] rfl ?_
        exact zb_Mo_readNumber_40 C hR h3 v2 e
