theorem kw1724 : Jvm.Cond.fieldLink "PlantKeeperModel" (465 : Nat) "PlantKeeperModel" "variables" "I" ∈ zk_BW := zk_inT 1724 (by decide +kernel) rfl
theorem kw1776 : Jvm.Cond.fieldLink "PlantKeeperModel" (907 : Nat) "PlantKeeperModel" "pathAt" "I" ∈ zk_BW := zk_inT 1776 (by decide +kernel) rfl
theorem kw1777 : Jvm.Cond.fieldLink "PlantKeeperModel" (904 : Nat) "PlantKeeperModel" "pathEnd" "I" ∈ zk_BW := zk_inT 1777 (by decide +kernel) rfl
theorem kw1778 : Jvm.Cond.fieldLink "PlantKeeperModel" (910 : Nat) "PlantKeeperModel" "nameFrom" "I" ∈ zk_BW := zk_inT 1778 (by decide +kernel) rfl
theorem kw2033 : Jvm.Cond.methodLink "PlantKeeperModel" (198 : Nat) ({ cls := "PlantKeeperModel", name := "isDigit", desc := "(I)Z" } : Jvm.MethodName) ∈ zk_BW := zk_inT 2033 (by decide +kernel) rfl
theorem kw2034 : Jvm.Cond.static ({ cls := "PlantKeeperModel", name := "isDigit", desc := "(I)Z" } : Jvm.MethodName) ∈ zk_BW := zk_inT 2034 (by decide +kernel) rfl
theorem kw2035 : Jvm.Cond.code ({ cls := "PlantKeeperModel", name := "isDigit", desc := "(I)Z" } : Jvm.MethodName) prog_14_method_5_code (1 : Nat) (Option.some FieldType.boolean) ∈ zk_BW := zk_inT 2035 (by decide +kernel) rfl
theorem kw2039 : Jvm.Cond.constantLong "PlantKeeperModel" (269 : Nat) (2147483647 : Int64) ∈ zk_BW := zk_inT 2039 (by decide +kernel) rfl
theorem kw2048 : Jvm.Cond.methodLink "PlantKeeperModel" (194 : Nat) ({ cls := "PlantKeeperModel", name := "isLetter", desc := "(I)Z" } : Jvm.MethodName) ∈ zk_BW := zk_inT 2048 (by decide +kernel) rfl
theorem kw2049 : Jvm.Cond.static ({ cls := "PlantKeeperModel", name := "isLetter", desc := "(I)Z" } : Jvm.MethodName) ∈ zk_BW := zk_inT 2049 (by decide +kernel) rfl
theorem kw2050 : Jvm.Cond.code ({ cls := "PlantKeeperModel", name := "isLetter", desc := "(I)Z" } : Jvm.MethodName) prog_14_method_6_code (1 : Nat) (Option.some FieldType.boolean) ∈ zk_BW := zk_inT 2050 (by decide +kernel) rfl
theorem kw2528 : Jvm.Cond.methodLink "PlantKeeperModel" (673 : Nat) ({ cls := "PlantKeeperModel", name := "endOf", desc := "(I)I" } : Jvm.MethodName) ∈ zk_BW := zk_inT 2528 (by decide +kernel) rfl
theorem kw2530 : Jvm.Cond.instanceMethod ({ cls := "PlantKeeperModel", name := "endOf", desc := "(I)I" } : Jvm.MethodName) ∈ zk_BW := zk_inT 2530 (by decide +kernel) rfl
theorem kw2531 : Jvm.Cond.code ({ cls := "PlantKeeperModel", name := "endOf", desc := "(I)I" } : Jvm.MethodName) prog_14_method_114_code (2 : Nat) (Option.some FieldType.int) ∈ zk_BW := zk_inT 2531 (by decide +kernel) rfl
theorem kw2670 : Jvm.Cond.instanceMethod ({ cls := "PlantKeeperModel", name := "sizeOf", desc := "(I)I" } : Jvm.MethodName) ∈ zk_BW := zk_inT 2670 (by decide +kernel) rfl
theorem kw2671 : Jvm.Cond.code ({ cls := "PlantKeeperModel", name := "sizeOf", desc := "(I)I" } : Jvm.MethodName) prog_14_method_142_code (2 : Nat) (Option.some FieldType.int) ∈ zk_BW := zk_inT 2671 (by decide +kernel) rfl
theorem kw2762 : Jvm.Cond.instanceMethod ({ cls := "PlantKeeperModel", name := "on", desc := "(I)Z" } : Jvm.MethodName) ∈ zk_BW := zk_inT 2762 (by decide +kernel) rfl
theorem kw2763 : Jvm.Cond.code ({ cls := "PlantKeeperModel", name := "on", desc := "(I)Z" } : Jvm.MethodName) prog_14_method_157_code (2 : Nat) (Option.some FieldType.boolean) ∈ zk_BW := zk_inT 2763 (by decide +kernel) rfl
theorem kw2766 : Jvm.Cond.instanceMethod ({ cls := "PlantKeeperModel", name := "grown", desc := "(II)I" } : Jvm.MethodName) ∈ zk_BW := zk_inT 2766 (by decide +kernel) rfl
theorem kw2767 : Jvm.Cond.code ({ cls := "PlantKeeperModel", name := "grown", desc := "(II)I" } : Jvm.MethodName) prog_14_method_159_code (5 : Nat) (Option.some FieldType.int) ∈ zk_BW := zk_inT 2767 (by decide +kernel) rfl
theorem kw2770 : Jvm.Cond.instanceMethod ({ cls := "PlantKeeperModel", name := "turn", desc := "(IZ)V" } : Jvm.MethodName) ∈ zk_BW := zk_inT 2770 (by decide +kernel) rfl
theorem kw2771 : Jvm.Cond.code ({ cls := "PlantKeeperModel", name := "turn", desc := "(IZ)V" } : Jvm.MethodName) prog_14_method_158_code (3 : Nat) (Option.none : Option FieldType) ∈ zk_BW := zk_inT 2771 (by decide +kernel) rfl
theorem kw2778 : Jvm.Cond.instanceMethod ({ cls := "PlantKeeperModel", name := "readPathName", desc := "()Z" } : Jvm.MethodName) ∈ zk_BW := zk_inT 2778 (by decide +kernel) rfl
theorem kw2779 : Jvm.Cond.code ({ cls := "PlantKeeperModel", name := "readPathName", desc := "()Z" } : Jvm.MethodName) prog_14_method_178_code (1 : Nat) (Option.some FieldType.boolean) ∈ zk_BW := zk_inT 2779 (by decide +kernel) rfl
theorem kw2780 : Jvm.Cond.methodLink "PlantKeeperModel" (913 : Nat) ({ cls := "PlantKeeperModel", name := "tapeGreat", desc := "(I)I" } : Jvm.MethodName) ∈ zk_BW := zk_inT 2780 (by decide +kernel) rfl
theorem kw2782 : Jvm.Cond.instanceMethod ({ cls := "PlantKeeperModel", name := "tapeGreat", desc := "(I)I" } : Jvm.MethodName) ∈ zk_BW := zk_inT 2782 (by decide +kernel) rfl
theorem kw2783 : Jvm.Cond.code ({ cls := "PlantKeeperModel", name := "tapeGreat", desc := "(I)I" } : Jvm.MethodName) prog_14_method_177_code (3 : Nat) (Option.some FieldType.int) ∈ zk_BW := zk_inT 2783 (by decide +kernel) rfl
theorem kw2786 : Jvm.Cond.instanceMethod ({ cls := "PlantKeeperModel", name := "variableOnPath", desc := "(I)I" } : Jvm.MethodName) ∈ zk_BW := zk_inT 2786 (by decide +kernel) rfl
theorem kw2787 : Jvm.Cond.code ({ cls := "PlantKeeperModel", name := "variableOnPath", desc := "(I)I" } : Jvm.MethodName) prog_14_method_183_code (3 : Nat) (Option.some FieldType.int) ∈ zk_BW := zk_inT 2787 (by decide +kernel) rfl
theorem kw2788 : Jvm.Cond.methodLink "PlantKeeperModel" (934 : Nat) ({ cls := "PlantKeeperModel", name := "isPathName", desc := "(I)Z" } : Jvm.MethodName) ∈ zk_BW := zk_inT 2788 (by decide +kernel) rfl
theorem kw2790 : Jvm.Cond.instanceMethod ({ cls := "PlantKeeperModel", name := "isPathName", desc := "(I)Z" } : Jvm.MethodName) ∈ zk_BW := zk_inT 2790 (by decide +kernel) rfl
theorem kw2791 : Jvm.Cond.code ({ cls := "PlantKeeperModel", name := "isPathName", desc := "(I)Z" } : Jvm.MethodName) prog_14_method_179_code (4 : Nat) (Option.some FieldType.boolean) ∈ zk_BW := zk_inT 2791 (by decide +kernel) rfl
theorem kw2792 : Jvm.Cond.methodLink "PlantKeeperModel" (922 : Nat) ({ cls := "PlantKeeperModel", name := "passes", desc := "(I)Z" } : Jvm.MethodName) ∈ zk_BW := zk_inT 2792 (by decide +kernel) rfl
theorem kw2794 : Jvm.Cond.instanceMethod ({ cls := "PlantKeeperModel", name := "passes", desc := "(I)Z" } : Jvm.MethodName) ∈ zk_BW := zk_inT 2794 (by decide +kernel) rfl
theorem kw2795 : Jvm.Cond.code ({ cls := "PlantKeeperModel", name := "passes", desc := "(I)Z" } : Jvm.MethodName) prog_14_method_181_code (3 : Nat) (Option.some FieldType.boolean) ∈ zk_BW := zk_inT 2795 (by decide +kernel) rfl
theorem kw2806 : Jvm.Cond.instanceMethod ({ cls := "PlantKeeperModel", name := "see", desc := "(II)I" } : Jvm.MethodName) ∈ zk_BW := zk_inT 2806 (by decide +kernel) rfl
theorem kw2807 : Jvm.Cond.code ({ cls := "PlantKeeperModel", name := "see", desc := "(II)I" } : Jvm.MethodName) prog_14_method_184_code (3 : Nat) (Option.some FieldType.int) ∈ zk_BW := zk_inT 2807 (by decide +kernel) rfl
theorem kw2810 : Jvm.Cond.instanceMethod ({ cls := "PlantKeeperModel", name := "readIndex", desc := "()I" } : Jvm.MethodName) ∈ zk_BW := zk_inT 2810 (by decide +kernel) rfl
theorem kw2811 : Jvm.Cond.code ({ cls := "PlantKeeperModel", name := "readIndex", desc := "()I" } : Jvm.MethodName) prog_14_method_185_code (6 : Nat) (Option.some FieldType.int) ∈ zk_BW := zk_inT 2811 (by decide +kernel) rfl
theorem kw2812 : Jvm.Cond.constantLong "PlantKeeperModel" (940 : Nat) (10 : Int64) ∈ zk_BW := zk_inT 2812 (by decide +kernel) rfl
theorem kw2813 : Jvm.Cond.constantLong "PlantKeeperModel" (942 : Nat) (48 : Int64) ∈ zk_BW := zk_inT 2813 (by decide +kernel) rfl
theorem kw2814 : Jvm.Cond.constantLong "PlantKeeperModel" (944 : Nat) (3000000000 : Int64) ∈ zk_BW := zk_inT 2814 (by decide +kernel) rfl
theorem kw2815 : Jvm.Cond.constantLong "PlantKeeperModel" (946 : Nat) (-2147483648 : Int64) ∈ zk_BW := zk_inT 2815 (by decide +kernel) rfl
abbrev kc_Mo_endOf : ByteArray := prog_14_method_114_code
def km_Mo_endOf : zk_MT := (⟨"PlantKeeperModel", "endOf", "(I)I"⟩, kc_Mo_endOf, 2, some .int, 1)
theorem ku_Mo_endOf : zk_My km_Mo_endOf := ⟨kw2531, kw17, by decide, by decide, by decide, by decide +kernel⟩
theorem kv_Mo_endOf : zk_Mv km_Mo_endOf := ⟨kw2530, zk_inS 249 (q := (⟨"PlantKeeperModel", "endOf", "(I)I"⟩, 96)) (by decide +kernel)⟩
abbrev kc_Mo_grown : ByteArray := prog_14_method_159_code
def km_Mo_grown : zk_MT := (⟨"PlantKeeperModel", "grown", "(II)I"⟩, kc_Mo_grown, 5, some .int, 2)
theorem ku_Mo_grown : zk_My km_Mo_grown := ⟨kw2767, kw17, by decide, by decide, by decide, by decide +kernel⟩
theorem kv_Mo_grown : zk_Mv km_Mo_grown := ⟨kw2766, zk_inS 295 (q := (⟨"PlantKeeperModel", "grown", "(II)I"⟩, 96)) (by decide +kernel)⟩
abbrev kc_Mo_isDigit : ByteArray := prog_14_method_5_code
def km_Mo_isDigit : zk_MT := (⟨"PlantKeeperModel", "isDigit", "(I)Z"⟩, kc_Mo_isDigit, 1, some .boolean, 1)
theorem ku_Mo_isDigit : zk_My km_Mo_isDigit := ⟨kw2035, kw17, by decide, by decide, by decide, by decide +kernel⟩
theorem ks_Mo_isDigit : Cond.static km_Mo_isDigit.1 ∈ zk_BW := kw2034
abbrev kc_Mo_isLetter : ByteArray := prog_14_method_6_code
def km_Mo_isLetter : zk_MT := (⟨"PlantKeeperModel", "isLetter", "(I)Z"⟩, kc_Mo_isLetter, 1, some .boolean, 1)
theorem ku_Mo_isLetter : zk_My km_Mo_isLetter := ⟨kw2050, kw17, by decide, by decide, by decide, by decide +kernel⟩
theorem ks_Mo_isLetter : Cond.static km_Mo_isLetter.1 ∈ zk_BW := kw2049
abbrev kc_Mo_isPathName : ByteArray := prog_14_method_179_code
def km_Mo_isPathName : zk_MT := (⟨"PlantKeeperModel", "isPathName", "(I)Z"⟩, kc_Mo_isPathName, 4, some .boolean, 1)
theorem ku_Mo_isPathName : zk_My km_Mo_isPathName := ⟨kw2791, kw17, by decide, by decide, by decide, by decide +kernel⟩
theorem kv_Mo_isPathName : zk_Mv km_Mo_isPathName := ⟨kw2790, zk_inS 300 (q := (⟨"PlantKeeperModel", "isPathName", "(I)Z"⟩, 96)) (by decide +kernel)⟩
abbrev kc_Mo_on : ByteArray := prog_14_method_157_code
def km_Mo_on : zk_MT := (⟨"PlantKeeperModel", "on", "(I)Z"⟩, kc_Mo_on, 2, some .boolean, 1)
theorem ku_Mo_on : zk_My km_Mo_on := ⟨kw2763, kw17, by decide, by decide, by decide, by decide +kernel⟩
theorem kv_Mo_on : zk_Mv km_Mo_on := ⟨kw2762, zk_inS 294 (q := (⟨"PlantKeeperModel", "on", "(I)Z"⟩, 96)) (by decide +kernel)⟩
abbrev kc_Mo_passes : ByteArray := prog_14_method_181_code
def km_Mo_passes : zk_MT := (⟨"PlantKeeperModel", "passes", "(I)Z"⟩, kc_Mo_passes, 3, some .boolean, 1)
theorem ku_Mo_passes : zk_My km_Mo_passes := ⟨kw2795, kw17, by decide, by decide, by decide, by decide +kernel⟩
theorem kv_Mo_passes : zk_Mv km_Mo_passes := ⟨kw2794, zk_inS 301 (q := (⟨"PlantKeeperModel", "passes", "(I)Z"⟩, 96)) (by decide +kernel)⟩
abbrev kc_Mo_readIndex : ByteArray := prog_14_method_185_code
def km_Mo_readIndex : zk_MT := (⟨"PlantKeeperModel", "readIndex", "()I"⟩, kc_Mo_readIndex, 6, some .int, 0)
theorem ku_Mo_readIndex : zk_My km_Mo_readIndex := ⟨kw2811, kw17, by decide, by decide, by decide, by decide +kernel⟩
theorem kv_Mo_readIndex : zk_Mv km_Mo_readIndex := ⟨kw2810, zk_inS 305 (q := (⟨"PlantKeeperModel", "readIndex", "()I"⟩, 96)) (by decide +kernel)⟩
abbrev kc_Mo_readPathName : ByteArray := prog_14_method_178_code
def km_Mo_readPathName : zk_MT := (⟨"PlantKeeperModel", "readPathName", "()Z"⟩, kc_Mo_readPathName, 1, some .boolean, 0)
theorem ku_Mo_readPathName : zk_My km_Mo_readPathName := ⟨kw2779, kw17, by decide, by decide, by decide, by decide +kernel⟩
theorem kv_Mo_readPathName : zk_Mv km_Mo_readPathName := ⟨kw2778, zk_inS 297 (q := (⟨"PlantKeeperModel", "readPathName", "()Z"⟩, 96)) (by decide +kernel)⟩
abbrev kc_Mo_see : ByteArray := prog_14_method_184_code
def km_Mo_see : zk_MT := (⟨"PlantKeeperModel", "see", "(II)I"⟩, kc_Mo_see, 3, some .int, 2)
theorem ku_Mo_see : zk_My km_Mo_see := ⟨kw2807, kw17, by decide, by decide, by decide, by decide +kernel⟩
theorem kv_Mo_see : zk_Mv km_Mo_see := ⟨kw2806, zk_inS 304 (q := (⟨"PlantKeeperModel", "see", "(II)I"⟩, 96)) (by decide +kernel)⟩
abbrev kc_Mo_sizeOf : ByteArray := prog_14_method_142_code
def km_Mo_sizeOf : zk_MT := (⟨"PlantKeeperModel", "sizeOf", "(I)I"⟩, kc_Mo_sizeOf, 2, some .int, 1)
theorem ku_Mo_sizeOf : zk_My km_Mo_sizeOf := ⟨kw2671, kw17, by decide, by decide, by decide, by decide +kernel⟩
theorem kv_Mo_sizeOf : zk_Mv km_Mo_sizeOf := ⟨kw2670, zk_inS 281 (q := (⟨"PlantKeeperModel", "sizeOf", "(I)I"⟩, 96)) (by decide +kernel)⟩
abbrev kc_Mo_tapeGreat : ByteArray := prog_14_method_177_code
def km_Mo_tapeGreat : zk_MT := (⟨"PlantKeeperModel", "tapeGreat", "(I)I"⟩, kc_Mo_tapeGreat, 3, some .int, 1)
theorem ku_Mo_tapeGreat : zk_My km_Mo_tapeGreat := ⟨kw2783, kw17, by decide, by decide, by decide, by decide +kernel⟩
theorem kv_Mo_tapeGreat : zk_Mv km_Mo_tapeGreat := ⟨kw2782, zk_inS 298 (q := (⟨"PlantKeeperModel", "tapeGreat", "(I)I"⟩, 96)) (by decide +kernel)⟩
abbrev kc_Mo_turn : ByteArray := prog_14_method_158_code
def km_Mo_turn : zk_MT := (⟨"PlantKeeperModel", "turn", "(IZ)V"⟩, kc_Mo_turn, 3, none, 2)
theorem ku_Mo_turn : zk_My km_Mo_turn := ⟨kw2771, kw17, by decide, by decide, by decide, by decide +kernel⟩
theorem kv_Mo_turn : zk_Mv km_Mo_turn := ⟨kw2770, zk_inS 296 (q := (⟨"PlantKeeperModel", "turn", "(IZ)V"⟩, 96)) (by decide +kernel)⟩
abbrev kc_Mo_variableOnPath : ByteArray := prog_14_method_183_code
def km_Mo_variableOnPath : zk_MT := (⟨"PlantKeeperModel", "variableOnPath", "(I)I"⟩, kc_Mo_variableOnPath, 3, some .int, 1)
theorem ku_Mo_variableOnPath : zk_My km_Mo_variableOnPath := ⟨kw2787, kw17, by decide, by decide, by decide, by decide +kernel⟩
theorem kv_Mo_variableOnPath : zk_Mv km_Mo_variableOnPath := ⟨kw2786, zk_inS 299 (q := (⟨"PlantKeeperModel", "variableOnPath", "(I)I"⟩, 96)) (by decide +kernel)⟩
theorem kd_Mo_endOf_0 : decode kc_Mo_endOf 0 = .ok (.iload_n 1, 1) := by decide +kernel
theorem kd_Mo_endOf_1 : decode kc_Mo_endOf 1 = .ok (.aload_n 0, 1) := by decide +kernel
theorem kd_Mo_endOf_2 : decode kc_Mo_endOf 2 = .ok (.getfield 462, 3) := by decide +kernel
theorem kd_Mo_endOf_5 : decode kc_Mo_endOf 5 = .ok (.iconst 1, 1) := by decide +kernel
theorem kd_Mo_endOf_6 : decode kc_Mo_endOf 6 = .ok (.isub, 1) := by decide +kernel
theorem kd_Mo_endOf_7 : decode kc_Mo_endOf 7 = .ok (.if_icmp .ne 10, 3) := by decide +kernel
theorem kd_Mo_endOf_10 : decode kc_Mo_endOf 10 = .ok (.aload_n 0, 1) := by decide +kernel
theorem kd_Mo_endOf_11 : decode kc_Mo_endOf 11 = .ok (.getfield 465, 3) := by decide +kernel
theorem kd_Mo_endOf_14 : decode kc_Mo_endOf 14 = .ok (.goto 11, 3) := by decide +kernel
theorem kd_Mo_endOf_17 : decode kc_Mo_endOf 17 = .ok (.aload_n 0, 1) := by decide +kernel
theorem kd_Mo_endOf_18 : decode kc_Mo_endOf 18 = .ok (.getfield 76, 3) := by decide +kernel
theorem kd_Mo_endOf_21 : decode kc_Mo_endOf 21 = .ok (.iload_n 1, 1) := by decide +kernel
theorem kd_Mo_endOf_22 : decode kc_Mo_endOf 22 = .ok (.iconst 1, 1) := by decide +kernel
theorem kd_Mo_endOf_23 : decode kc_Mo_endOf 23 = .ok (.iadd, 1) := by decide +kernel
theorem kd_Mo_endOf_24 : decode kc_Mo_endOf 24 = .ok (.iaload, 1) := by decide +kernel
theorem kd_Mo_endOf_25 : decode kc_Mo_endOf 25 = .ok (.ireturn, 1) := by decide +kernel
theorem kd_Mo_grown_0 : decode kc_Mo_grown 0 = .ok (.aload_n 0, 1) := by decide +kernel
theorem kd_Mo_grown_1 : decode kc_Mo_grown 1 = .ok (.getfield 150, 3) := by decide +kernel
theorem kd_Mo_grown_4 : decode kc_Mo_grown 4 = .ok (.iload_n 1, 1) := by decide +kernel
theorem kd_Mo_grown_5 : decode kc_Mo_grown 5 = .ok (.iconst 3, 1) := by decide +kernel
theorem kd_Mo_grown_6 : decode kc_Mo_grown 6 = .ok (.iadd, 1) := by decide +kernel
theorem kd_Mo_grown_7 : decode kc_Mo_grown 7 = .ok (.iaload, 1) := by decide +kernel
theorem kd_Mo_grown_8 : decode kc_Mo_grown 8 = .ok (.i2l, 1) := by decide +kernel
theorem kd_Mo_grown_9 : decode kc_Mo_grown 9 = .ok (.aload_n 0, 1) := by decide +kernel
theorem kd_Mo_grown_10 : decode kc_Mo_grown 10 = .ok (.getfield 832, 3) := by decide +kernel
theorem kd_Mo_grown_13 : decode kc_Mo_grown 13 = .ok (.i2l, 1) := by decide +kernel
theorem kd_Mo_grown_14 : decode kc_Mo_grown 14 = .ok (.ladd, 1) := by decide +kernel
theorem kd_Mo_grown_15 : decode kc_Mo_grown 15 = .ok (.aload_n 0, 1) := by decide +kernel
theorem kd_Mo_grown_16 : decode kc_Mo_grown 16 = .ok (.getfield 150, 3) := by decide +kernel
theorem kd_Mo_grown_19 : decode kc_Mo_grown 19 = .ok (.iload_n 1, 1) := by decide +kernel
theorem kd_Mo_grown_20 : decode kc_Mo_grown 20 = .ok (.iconst 5, 1) := by decide +kernel
theorem kd_Mo_grown_21 : decode kc_Mo_grown 21 = .ok (.iadd, 1) := by decide +kernel
theorem kd_Mo_grown_22 : decode kc_Mo_grown 22 = .ok (.iaload, 1) := by decide +kernel
theorem kd_Mo_grown_23 : decode kc_Mo_grown 23 = .ok (.i2l, 1) := by decide +kernel
theorem kd_Mo_grown_24 : decode kc_Mo_grown 24 = .ok (.lsub, 1) := by decide +kernel
theorem kd_Mo_grown_25 : decode kc_Mo_grown 25 = .ok (.lstore_n 3, 1) := by decide +kernel
theorem kd_Mo_grown_26 : decode kc_Mo_grown 26 = .ok (.lload_n 3, 1) := by decide +kernel
theorem kd_Mo_grown_27 : decode kc_Mo_grown 27 = .ok (.iload_n 2, 1) := by decide +kernel
theorem kd_Mo_grown_28 : decode kc_Mo_grown 28 = .ok (.i2l, 1) := by decide +kernel
theorem kd_Mo_grown_29 : decode kc_Mo_grown 29 = .ok (.lcmp, 1) := by decide +kernel
theorem kd_Mo_grown_30 : decode kc_Mo_grown 30 = .ok (.ifCond .ge 7, 3) := by decide +kernel
theorem kd_Mo_grown_33 : decode kc_Mo_grown 33 = .ok (.lload_n 3, 1) := by decide +kernel
theorem kd_Mo_grown_34 : decode kc_Mo_grown 34 = .ok (.goto 5, 3) := by decide +kernel
theorem kd_Mo_grown_37 : decode kc_Mo_grown 37 = .ok (.iload_n 2, 1) := by decide +kernel
theorem kd_Mo_grown_38 : decode kc_Mo_grown 38 = .ok (.i2l, 1) := by decide +kernel
theorem kd_Mo_grown_39 : decode kc_Mo_grown 39 = .ok (.l2i, 1) := by decide +kernel
theorem kd_Mo_grown_40 : decode kc_Mo_grown 40 = .ok (.ireturn, 1) := by decide +kernel
theorem kd_Mo_isDigit_0 : decode kc_Mo_isDigit 0 = .ok (.iload_n 0, 1) := by decide +kernel
theorem kd_Mo_isDigit_1 : decode kc_Mo_isDigit 1 = .ok (.bipush 48, 2) := by decide +kernel
theorem kd_Mo_isDigit_3 : decode kc_Mo_isDigit 3 = .ok (.if_icmp .lt 13, 3) := by decide +kernel
theorem kd_Mo_isDigit_6 : decode kc_Mo_isDigit 6 = .ok (.iload_n 0, 1) := by decide +kernel
theorem kd_Mo_isDigit_7 : decode kc_Mo_isDigit 7 = .ok (.bipush 57, 2) := by decide +kernel
theorem kd_Mo_isDigit_9 : decode kc_Mo_isDigit 9 = .ok (.if_icmp .gt 7, 3) := by decide +kernel
theorem kd_Mo_isDigit_12 : decode kc_Mo_isDigit 12 = .ok (.iconst 1, 1) := by decide +kernel
theorem kd_Mo_isDigit_13 : decode kc_Mo_isDigit 13 = .ok (.goto 4, 3) := by decide +kernel
theorem kd_Mo_isDigit_16 : decode kc_Mo_isDigit 16 = .ok (.iconst 0, 1) := by decide +kernel
theorem kd_Mo_isDigit_17 : decode kc_Mo_isDigit 17 = .ok (.ireturn, 1) := by decide +kernel
theorem kd_Mo_isLetter_0 : decode kc_Mo_isLetter 0 = .ok (.iload_n 0, 1) := by decide +kernel
theorem kd_Mo_isLetter_1 : decode kc_Mo_isLetter 1 = .ok (.bipush 65, 2) := by decide +kernel
theorem kd_Mo_isLetter_3 : decode kc_Mo_isLetter 3 = .ok (.if_icmp .lt 9, 3) := by decide +kernel
theorem kd_Mo_isLetter_6 : decode kc_Mo_isLetter 6 = .ok (.iload_n 0, 1) := by decide +kernel
theorem kd_Mo_isLetter_7 : decode kc_Mo_isLetter 7 = .ok (.bipush 90, 2) := by decide +kernel
theorem kd_Mo_isLetter_9 : decode kc_Mo_isLetter 9 = .ok (.if_icmp .le 9, 3) := by decide +kernel
theorem kd_Mo_isLetter_12 : decode kc_Mo_isLetter 12 = .ok (.iload_n 0, 1) := by decide +kernel
theorem kd_Mo_isLetter_13 : decode kc_Mo_isLetter 13 = .ok (.bipush 95, 2) := by decide +kernel
theorem kd_Mo_isLetter_15 : decode kc_Mo_isLetter 15 = .ok (.if_icmp .ne 7, 3) := by decide +kernel
theorem kd_Mo_isLetter_18 : decode kc_Mo_isLetter 18 = .ok (.iconst 1, 1) := by decide +kernel
theorem kd_Mo_isLetter_19 : decode kc_Mo_isLetter 19 = .ok (.goto 4, 3) := by decide +kernel
theorem kd_Mo_isLetter_22 : decode kc_Mo_isLetter 22 = .ok (.iconst 0, 1) := by decide +kernel
theorem kd_Mo_isLetter_23 : decode kc_Mo_isLetter 23 = .ok (.ireturn, 1) := by decide +kernel
theorem kd_Mo_isPathName_0 : decode kc_Mo_isPathName 0 = .ok (.aload_n 0, 1) := by decide +kernel
theorem kd_Mo_isPathName_1 : decode kc_Mo_isPathName 1 = .ok (.getfield 17, 3) := by decide +kernel
theorem kd_Mo_isPathName_4 : decode kc_Mo_isPathName 4 = .ok (.iload_n 1, 1) := by decide +kernel
theorem kd_Mo_isPathName_5 : decode kc_Mo_isPathName 5 = .ok (.iaload, 1) := by decide +kernel
theorem kd_Mo_isPathName_6 : decode kc_Mo_isPathName 6 = .ok (.aload_n 0, 1) := by decide +kernel
theorem kd_Mo_isPathName_7 : decode kc_Mo_isPathName 7 = .ok (.getfield 907, 3) := by decide +kernel
theorem kd_Mo_isPathName_10 : decode kc_Mo_isPathName 10 = .ok (.aload_n 0, 1) := by decide +kernel
theorem kd_Mo_isPathName_11 : decode kc_Mo_isPathName 11 = .ok (.getfield 910, 3) := by decide +kernel
theorem kd_Mo_isPathName_14 : decode kc_Mo_isPathName 14 = .ok (.isub, 1) := by decide +kernel
theorem kd_Mo_isPathName_15 : decode kc_Mo_isPathName 15 = .ok (.if_icmp .ne 7, 3) := by decide +kernel
theorem kd_Mo_isPathName_18 : decode kc_Mo_isPathName 18 = .ok (.iconst 1, 1) := by decide +kernel
theorem kd_Mo_isPathName_19 : decode kc_Mo_isPathName 19 = .ok (.goto 4, 3) := by decide +kernel
theorem kd_Mo_isPathName_22 : decode kc_Mo_isPathName 22 = .ok (.iconst 0, 1) := by decide +kernel
theorem kd_Mo_isPathName_23 : decode kc_Mo_isPathName 23 = .ok (.istore_n 2, 1) := by decide +kernel
theorem kd_Mo_isPathName_24 : decode kc_Mo_isPathName 24 = .ok (.iconst 0, 1) := by decide +kernel
theorem kd_Mo_isPathName_25 : decode kc_Mo_isPathName 25 = .ok (.istore_n 3, 1) := by decide +kernel
theorem kd_Mo_isPathName_26 : decode kc_Mo_isPathName 26 = .ok (.iload_n 3, 1) := by decide +kernel
theorem kd_Mo_isPathName_27 : decode kc_Mo_isPathName 27 = .ok (.aload_n 0, 1) := by decide +kernel
theorem kd_Mo_isPathName_28 : decode kc_Mo_isPathName 28 = .ok (.getfield 17, 3) := by decide +kernel
theorem kd_Mo_isPathName_31 : decode kc_Mo_isPathName 31 = .ok (.iload_n 1, 1) := by decide +kernel
theorem kd_Mo_isPathName_32 : decode kc_Mo_isPathName 32 = .ok (.iaload, 1) := by decide +kernel
theorem kd_Mo_isPathName_33 : decode kc_Mo_isPathName 33 = .ok (.if_icmp .ge 43, 3) := by decide +kernel
theorem kd_Mo_isPathName_36 : decode kc_Mo_isPathName 36 = .ok (.iload_n 2, 1) := by decide +kernel
theorem kd_Mo_isPathName_37 : decode kc_Mo_isPathName 37 = .ok (.ifCond .eq 39, 3) := by decide +kernel
theorem kd_Mo_isPathName_40 : decode kc_Mo_isPathName 40 = .ok (.aload_n 0, 1) := by decide +kernel
theorem kd_Mo_isPathName_41 : decode kc_Mo_isPathName 41 = .ok (.getfield 14, 3) := by decide +kernel
theorem kd_Mo_isPathName_44 : decode kc_Mo_isPathName 44 = .ok (.bipush 32, 2) := by decide +kernel
theorem kd_Mo_isPathName_46 : decode kc_Mo_isPathName 46 = .ok (.iload_n 1, 1) := by decide +kernel
theorem kd_Mo_isPathName_47 : decode kc_Mo_isPathName 47 = .ok (.imul, 1) := by decide +kernel
theorem kd_Mo_isPathName_48 : decode kc_Mo_isPathName 48 = .ok (.iload_n 3, 1) := by decide +kernel
theorem kd_Mo_isPathName_49 : decode kc_Mo_isPathName 49 = .ok (.iadd, 1) := by decide +kernel
theorem kd_Mo_isPathName_50 : decode kc_Mo_isPathName 50 = .ok (.baload, 1) := by decide +kernel
theorem kd_Mo_isPathName_51 : decode kc_Mo_isPathName 51 = .ok (.aload_n 0, 1) := by decide +kernel
theorem kd_Mo_isPathName_52 : decode kc_Mo_isPathName 52 = .ok (.aload_n 0, 1) := by decide +kernel
theorem kd_Mo_isPathName_53 : decode kc_Mo_isPathName 53 = .ok (.getfield 910, 3) := by decide +kernel
theorem kd_Mo_isPathName_56 : decode kc_Mo_isPathName 56 = .ok (.iload_n 3, 1) := by decide +kernel
theorem kd_Mo_isPathName_57 : decode kc_Mo_isPathName 57 = .ok (.iadd, 1) := by decide +kernel
theorem kd_Mo_isPathName_58 : decode kc_Mo_isPathName 58 = .ok (.invokevirtual 913, 3) := by decide +kernel
theorem kd_Mo_isPathName_61 : decode kc_Mo_isPathName 61 = .ok (.if_icmp .ne 7, 3) := by decide +kernel
theorem kd_Mo_isPathName_64 : decode kc_Mo_isPathName 64 = .ok (.iconst 1, 1) := by decide +kernel
theorem kd_Mo_isPathName_65 : decode kc_Mo_isPathName 65 = .ok (.goto 4, 3) := by decide +kernel
theorem kd_Mo_isPathName_68 : decode kc_Mo_isPathName 68 = .ok (.iconst 0, 1) := by decide +kernel
theorem kd_Mo_isPathName_69 : decode kc_Mo_isPathName 69 = .ok (.istore_n 2, 1) := by decide +kernel
theorem kd_Mo_isPathName_70 : decode kc_Mo_isPathName 70 = .ok (.iinc 3 1, 3) := by decide +kernel
theorem kd_Mo_isPathName_73 : decode kc_Mo_isPathName 73 = .ok (.goto (-47), 3) := by decide +kernel
theorem kd_Mo_isPathName_76 : decode kc_Mo_isPathName 76 = .ok (.iload_n 2, 1) := by decide +kernel
theorem kd_Mo_isPathName_77 : decode kc_Mo_isPathName 77 = .ok (.ireturn, 1) := by decide +kernel
theorem kd_Mo_on_0 : decode kc_Mo_on 0 = .ok (.aload_n 0, 1) := by decide +kernel
theorem kd_Mo_on_1 : decode kc_Mo_on 1 = .ok (.getfield 150, 3) := by decide +kernel
theorem kd_Mo_on_4 : decode kc_Mo_on 4 = .ok (.iload_n 1, 1) := by decide +kernel
theorem kd_Mo_on_5 : decode kc_Mo_on 5 = .ok (.iaload, 1) := by decide +kernel
theorem kd_Mo_on_6 : decode kc_Mo_on 6 = .ok (.ifCond .eq 7, 3) := by decide +kernel
theorem kd_Mo_on_9 : decode kc_Mo_on 9 = .ok (.iconst 1, 1) := by decide +kernel
theorem kd_Mo_on_10 : decode kc_Mo_on 10 = .ok (.goto 4, 3) := by decide +kernel
theorem kd_Mo_on_13 : decode kc_Mo_on 13 = .ok (.iconst 0, 1) := by decide +kernel
theorem kd_Mo_on_14 : decode kc_Mo_on 14 = .ok (.ireturn, 1) := by decide +kernel
theorem kd_Mo_passes_0 : decode kc_Mo_passes 0 = .ok (.aload_n 0, 1) := by decide +kernel
theorem kd_Mo_passes_1 : decode kc_Mo_passes 1 = .ok (.getfield 907, 3) := by decide +kernel
theorem kd_Mo_passes_4 : decode kc_Mo_passes 4 = .ok (.aload_n 0, 1) := by decide +kernel
theorem kd_Mo_passes_5 : decode kc_Mo_passes 5 = .ok (.getfield 904, 3) := by decide +kernel
theorem kd_Mo_passes_8 : decode kc_Mo_passes 8 = .ok (.if_icmp .ge 20, 3) := by decide +kernel
theorem kd_Mo_passes_11 : decode kc_Mo_passes 11 = .ok (.aload_n 0, 1) := by decide +kernel
theorem kd_Mo_passes_12 : decode kc_Mo_passes 12 = .ok (.getfield 156, 3) := by decide +kernel
theorem kd_Mo_passes_15 : decode kc_Mo_passes 15 = .ok (.aload_n 0, 1) := by decide +kernel
theorem kd_Mo_passes_16 : decode kc_Mo_passes 16 = .ok (.getfield 907, 3) := by decide +kernel
theorem kd_Mo_passes_19 : decode kc_Mo_passes 19 = .ok (.baload, 1) := by decide +kernel
theorem kd_Mo_passes_20 : decode kc_Mo_passes 20 = .ok (.iload_n 1, 1) := by decide +kernel
theorem kd_Mo_passes_21 : decode kc_Mo_passes 21 = .ok (.if_icmp .ne 7, 3) := by decide +kernel
theorem kd_Mo_passes_24 : decode kc_Mo_passes 24 = .ok (.iconst 1, 1) := by decide +kernel
theorem kd_Mo_passes_25 : decode kc_Mo_passes 25 = .ok (.goto 4, 3) := by decide +kernel
theorem kd_Mo_passes_28 : decode kc_Mo_passes 28 = .ok (.iconst 0, 1) := by decide +kernel
theorem kd_Mo_passes_29 : decode kc_Mo_passes 29 = .ok (.istore_n 2, 1) := by decide +kernel
theorem kd_Mo_passes_30 : decode kc_Mo_passes 30 = .ok (.aload_n 0, 1) := by decide +kernel
theorem kd_Mo_passes_31 : decode kc_Mo_passes 31 = .ok (.dup, 1) := by decide +kernel
theorem kd_Mo_passes_32 : decode kc_Mo_passes 32 = .ok (.getfield 907, 3) := by decide +kernel
theorem kd_Mo_passes_35 : decode kc_Mo_passes 35 = .ok (.iload_n 2, 1) := by decide +kernel
theorem kd_Mo_passes_36 : decode kc_Mo_passes 36 = .ok (.ifCond .eq 7, 3) := by decide +kernel
theorem kd_Mo_passes_39 : decode kc_Mo_passes 39 = .ok (.iconst 1, 1) := by decide +kernel
theorem kd_Mo_passes_40 : decode kc_Mo_passes 40 = .ok (.goto 4, 3) := by decide +kernel
theorem kd_Mo_passes_43 : decode kc_Mo_passes 43 = .ok (.iconst 0, 1) := by decide +kernel
theorem kd_Mo_passes_44 : decode kc_Mo_passes 44 = .ok (.iadd, 1) := by decide +kernel
theorem kd_Mo_passes_45 : decode kc_Mo_passes 45 = .ok (.putfield 907, 3) := by decide +kernel
theorem kd_Mo_passes_48 : decode kc_Mo_passes 48 = .ok (.iload_n 2, 1) := by decide +kernel
theorem kd_Mo_passes_49 : decode kc_Mo_passes 49 = .ok (.ireturn, 1) := by decide +kernel
theorem kd_Mo_readIndex_0 : decode kc_Mo_readIndex 0 = .ok (.aload_n 0, 1) := by decide +kernel
theorem kd_Mo_readIndex_1 : decode kc_Mo_readIndex 1 = .ok (.bipush 91, 2) := by decide +kernel
theorem kd_Mo_readIndex_3 : decode kc_Mo_readIndex 3 = .ok (.invokevirtual 922, 3) := by decide +kernel
theorem kd_Mo_readIndex_6 : decode kc_Mo_readIndex 6 = .ok (.istore_n 1, 1) := by decide +kernel
theorem kd_Mo_readIndex_7 : decode kc_Mo_readIndex 7 = .ok (.iload_n 1, 1) := by decide +kernel
theorem kd_Mo_readIndex_8 : decode kc_Mo_readIndex 8 = .ok (.ifCond .eq 16, 3) := by decide +kernel
theorem kd_Mo_readIndex_11 : decode kc_Mo_readIndex 11 = .ok (.aload_n 0, 1) := by decide +kernel
theorem kd_Mo_readIndex_12 : decode kc_Mo_readIndex 12 = .ok (.bipush 45, 2) := by decide +kernel
theorem kd_Mo_readIndex_14 : decode kc_Mo_readIndex 14 = .ok (.invokevirtual 922, 3) := by decide +kernel
theorem kd_Mo_readIndex_17 : decode kc_Mo_readIndex 17 = .ok (.ifCond .eq 7, 3) := by decide +kernel
theorem kd_Mo_readIndex_20 : decode kc_Mo_readIndex 20 = .ok (.iconst 1, 1) := by decide +kernel
theorem kd_Mo_readIndex_21 : decode kc_Mo_readIndex 21 = .ok (.goto 4, 3) := by decide +kernel
theorem kd_Mo_readIndex_24 : decode kc_Mo_readIndex 24 = .ok (.iconst 0, 1) := by decide +kernel
theorem kd_Mo_readIndex_25 : decode kc_Mo_readIndex 25 = .ok (.istore_n 2, 1) := by decide +kernel
theorem kd_Mo_readIndex_26 : decode kc_Mo_readIndex 26 = .ok (.lconst 0, 1) := by decide +kernel
theorem kd_Mo_readIndex_27 : decode kc_Mo_readIndex 27 = .ok (.lstore_n 3, 1) := by decide +kernel
theorem kd_Mo_readIndex_28 : decode kc_Mo_readIndex 28 = .ok (.aload_n 0, 1) := by decide +kernel
theorem kd_Mo_readIndex_29 : decode kc_Mo_readIndex 29 = .ok (.getfield 907, 3) := by decide +kernel
theorem kd_Mo_readIndex_32 : decode kc_Mo_readIndex 32 = .ok (.istore 5, 2) := by decide +kernel
theorem kd_Mo_readIndex_34 : decode kc_Mo_readIndex 34 = .ok (.aload_n 0, 1) := by decide +kernel
theorem kd_Mo_readIndex_35 : decode kc_Mo_readIndex 35 = .ok (.getfield 907, 3) := by decide +kernel
theorem kd_Mo_readIndex_38 : decode kc_Mo_readIndex 38 = .ok (.aload_n 0, 1) := by decide +kernel
theorem kd_Mo_readIndex_39 : decode kc_Mo_readIndex 39 = .ok (.getfield 904, 3) := by decide +kernel
theorem kd_Mo_readIndex_42 : decode kc_Mo_readIndex 42 = .ok (.if_icmp .ge 68, 3) := by decide +kernel
theorem kd_Mo_readIndex_45 : decode kc_Mo_readIndex 45 = .ok (.aload_n 0, 1) := by decide +kernel
theorem kd_Mo_readIndex_46 : decode kc_Mo_readIndex 46 = .ok (.getfield 156, 3) := by decide +kernel
theorem kd_Mo_readIndex_49 : decode kc_Mo_readIndex 49 = .ok (.aload_n 0, 1) := by decide +kernel
theorem kd_Mo_readIndex_50 : decode kc_Mo_readIndex 50 = .ok (.getfield 907, 3) := by decide +kernel
theorem kd_Mo_readIndex_53 : decode kc_Mo_readIndex 53 = .ok (.baload, 1) := by decide +kernel
theorem kd_Mo_readIndex_54 : decode kc_Mo_readIndex 54 = .ok (.invokestatic 198, 3) := by decide +kernel
theorem kd_Mo_readIndex_57 : decode kc_Mo_readIndex 57 = .ok (.ifCond .eq 53, 3) := by decide +kernel
theorem kd_Mo_readIndex_60 : decode kc_Mo_readIndex 60 = .ok (.lload_n 3, 1) := by decide +kernel
theorem kd_Mo_readIndex_61 : decode kc_Mo_readIndex 61 = .ok (.ldc2_w 940, 3) := by decide +kernel
theorem kd_Mo_readIndex_64 : decode kc_Mo_readIndex 64 = .ok (.lmul, 1) := by decide +kernel
theorem kd_Mo_readIndex_65 : decode kc_Mo_readIndex 65 = .ok (.aload_n 0, 1) := by decide +kernel
theorem kd_Mo_readIndex_66 : decode kc_Mo_readIndex 66 = .ok (.getfield 156, 3) := by decide +kernel
theorem kd_Mo_readIndex_69 : decode kc_Mo_readIndex 69 = .ok (.aload_n 0, 1) := by decide +kernel
theorem kd_Mo_readIndex_70 : decode kc_Mo_readIndex 70 = .ok (.getfield 907, 3) := by decide +kernel
theorem kd_Mo_readIndex_73 : decode kc_Mo_readIndex 73 = .ok (.baload, 1) := by decide +kernel
theorem kd_Mo_readIndex_74 : decode kc_Mo_readIndex 74 = .ok (.i2l, 1) := by decide +kernel
theorem kd_Mo_readIndex_75 : decode kc_Mo_readIndex 75 = .ok (.ladd, 1) := by decide +kernel
theorem kd_Mo_readIndex_76 : decode kc_Mo_readIndex 76 = .ok (.ldc2_w 942, 3) := by decide +kernel
theorem kd_Mo_readIndex_79 : decode kc_Mo_readIndex 79 = .ok (.lsub, 1) := by decide +kernel
theorem kd_Mo_readIndex_80 : decode kc_Mo_readIndex 80 = .ok (.lstore_n 3, 1) := by decide +kernel
theorem kd_Mo_readIndex_81 : decode kc_Mo_readIndex 81 = .ok (.lload_n 3, 1) := by decide +kernel
theorem kd_Mo_readIndex_82 : decode kc_Mo_readIndex 82 = .ok (.ldc2_w 944, 3) := by decide +kernel
theorem kd_Mo_readIndex_85 : decode kc_Mo_readIndex 85 = .ok (.lcmp, 1) := by decide +kernel
theorem kd_Mo_readIndex_86 : decode kc_Mo_readIndex 86 = .ok (.ifCond .le 9, 3) := by decide +kernel
theorem kd_Mo_readIndex_89 : decode kc_Mo_readIndex 89 = .ok (.ldc2_w 944, 3) := by decide +kernel
theorem kd_Mo_readIndex_92 : decode kc_Mo_readIndex 92 = .ok (.goto 4, 3) := by decide +kernel
theorem kd_Mo_readIndex_95 : decode kc_Mo_readIndex 95 = .ok (.lload_n 3, 1) := by decide +kernel
theorem kd_Mo_readIndex_96 : decode kc_Mo_readIndex 96 = .ok (.lstore_n 3, 1) := by decide +kernel
theorem kd_Mo_readIndex_97 : decode kc_Mo_readIndex 97 = .ok (.aload_n 0, 1) := by decide +kernel
theorem kd_Mo_readIndex_98 : decode kc_Mo_readIndex 98 = .ok (.dup, 1) := by decide +kernel
theorem kd_Mo_readIndex_99 : decode kc_Mo_readIndex 99 = .ok (.getfield 907, 3) := by decide +kernel
theorem kd_Mo_readIndex_102 : decode kc_Mo_readIndex 102 = .ok (.iconst 1, 1) := by decide +kernel
theorem kd_Mo_readIndex_103 : decode kc_Mo_readIndex 103 = .ok (.iadd, 1) := by decide +kernel
theorem kd_Mo_readIndex_104 : decode kc_Mo_readIndex 104 = .ok (.putfield 907, 3) := by decide +kernel
theorem kd_Mo_readIndex_107 : decode kc_Mo_readIndex 107 = .ok (.goto (-73), 3) := by decide +kernel
theorem kd_Mo_readIndex_110 : decode kc_Mo_readIndex 110 = .ok (.iload_n 1, 1) := by decide +kernel
theorem kd_Mo_readIndex_111 : decode kc_Mo_readIndex 111 = .ok (.ifCond .eq 36, 3) := by decide +kernel
theorem kd_Mo_readIndex_114 : decode kc_Mo_readIndex 114 = .ok (.aload_n 0, 1) := by decide +kernel
theorem kd_Mo_readIndex_115 : decode kc_Mo_readIndex 115 = .ok (.getfield 907, 3) := by decide +kernel
theorem kd_Mo_readIndex_118 : decode kc_Mo_readIndex 118 = .ok (.iload 5, 2) := by decide +kernel
theorem kd_Mo_readIndex_120 : decode kc_Mo_readIndex 120 = .ok (.if_icmp .le 27, 3) := by decide +kernel
theorem kd_Mo_readIndex_123 : decode kc_Mo_readIndex 123 = .ok (.aload_n 0, 1) := by decide +kernel
theorem kd_Mo_readIndex_124 : decode kc_Mo_readIndex 124 = .ok (.bipush 93, 2) := by decide +kernel
theorem kd_Mo_readIndex_126 : decode kc_Mo_readIndex 126 = .ok (.invokevirtual 922, 3) := by decide +kernel
theorem kd_Mo_readIndex_129 : decode kc_Mo_readIndex 129 = .ok (.ifCond .eq 18, 3) := by decide +kernel
theorem kd_Mo_readIndex_132 : decode kc_Mo_readIndex 132 = .ok (.aload_n 0, 1) := by decide +kernel
theorem kd_Mo_readIndex_133 : decode kc_Mo_readIndex 133 = .ok (.getfield 907, 3) := by decide +kernel
theorem kd_Mo_readIndex_136 : decode kc_Mo_readIndex 136 = .ok (.aload_n 0, 1) := by decide +kernel
theorem kd_Mo_readIndex_137 : decode kc_Mo_readIndex 137 = .ok (.getfield 904, 3) := by decide +kernel
theorem kd_Mo_readIndex_140 : decode kc_Mo_readIndex 140 = .ok (.if_icmp .ne 7, 3) := by decide +kernel
theorem kd_Mo_readIndex_143 : decode kc_Mo_readIndex 143 = .ok (.iconst 1, 1) := by decide +kernel
theorem kd_Mo_readIndex_144 : decode kc_Mo_readIndex 144 = .ok (.goto 4, 3) := by decide +kernel
theorem kd_Mo_readIndex_147 : decode kc_Mo_readIndex 147 = .ok (.iconst 0, 1) := by decide +kernel
theorem kd_Mo_readIndex_148 : decode kc_Mo_readIndex 148 = .ok (.istore_n 1, 1) := by decide +kernel
theorem kd_Mo_readIndex_149 : decode kc_Mo_readIndex 149 = .ok (.iload_n 2, 1) := by decide +kernel
theorem kd_Mo_readIndex_150 : decode kc_Mo_readIndex 150 = .ok (.ifCond .eq 8, 3) := by decide +kernel
theorem kd_Mo_readIndex_153 : decode kc_Mo_readIndex 153 = .ok (.lload_n 3, 1) := by decide +kernel
theorem kd_Mo_readIndex_154 : decode kc_Mo_readIndex 154 = .ok (.lneg, 1) := by decide +kernel
theorem kd_Mo_readIndex_155 : decode kc_Mo_readIndex 155 = .ok (.goto 4, 3) := by decide +kernel
theorem kd_Mo_readIndex_158 : decode kc_Mo_readIndex 158 = .ok (.lload_n 3, 1) := by decide +kernel
theorem kd_Mo_readIndex_159 : decode kc_Mo_readIndex 159 = .ok (.lstore_n 3, 1) := by decide +kernel
theorem kd_Mo_readIndex_160 : decode kc_Mo_readIndex 160 = .ok (.iload_n 1, 1) := by decide +kernel
theorem kd_Mo_readIndex_161 : decode kc_Mo_readIndex 161 = .ok (.ifCond .eq 19, 3) := by decide +kernel
theorem kd_Mo_readIndex_164 : decode kc_Mo_readIndex 164 = .ok (.lload_n 3, 1) := by decide +kernel
theorem kd_Mo_readIndex_165 : decode kc_Mo_readIndex 165 = .ok (.ldc2_w 269, 3) := by decide +kernel
theorem kd_Mo_readIndex_168 : decode kc_Mo_readIndex 168 = .ok (.lcmp, 1) := by decide +kernel
theorem kd_Mo_readIndex_169 : decode kc_Mo_readIndex 169 = .ok (.ifCond .gt 11, 3) := by decide +kernel
theorem kd_Mo_readIndex_172 : decode kc_Mo_readIndex 172 = .ok (.lload_n 3, 1) := by decide +kernel
theorem kd_Mo_readIndex_173 : decode kc_Mo_readIndex 173 = .ok (.ldc2_w 946, 3) := by decide +kernel
theorem kd_Mo_readIndex_176 : decode kc_Mo_readIndex 176 = .ok (.lcmp, 1) := by decide +kernel
theorem kd_Mo_readIndex_177 : decode kc_Mo_readIndex 177 = .ok (.ifCond .ge 10, 3) := by decide +kernel
theorem kd_Mo_readIndex_180 : decode kc_Mo_readIndex 180 = .ok (.aload_n 0, 1) := by decide +kernel
theorem kd_Mo_readIndex_181 : decode kc_Mo_readIndex 181 = .ok (.iconst (-1), 1) := by decide +kernel
theorem kd_Mo_readIndex_182 : decode kc_Mo_readIndex 182 = .ok (.putfield 907, 3) := by decide +kernel
theorem kd_Mo_readIndex_185 : decode kc_Mo_readIndex 185 = .ok (.iconst 0, 1) := by decide +kernel
theorem kd_Mo_readIndex_186 : decode kc_Mo_readIndex 186 = .ok (.ireturn, 1) := by decide +kernel
theorem kd_Mo_readIndex_187 : decode kc_Mo_readIndex 187 = .ok (.lload_n 3, 1) := by decide +kernel
theorem kd_Mo_readIndex_188 : decode kc_Mo_readIndex 188 = .ok (.l2i, 1) := by decide +kernel
theorem kd_Mo_readIndex_189 : decode kc_Mo_readIndex 189 = .ok (.ireturn, 1) := by decide +kernel
theorem kd_Mo_readPathName_0 : decode kc_Mo_readPathName 0 = .ok (.aload_n 0, 1) := by decide +kernel
theorem kd_Mo_readPathName_1 : decode kc_Mo_readPathName 1 = .ok (.aload_n 0, 1) := by decide +kernel
theorem kd_Mo_readPathName_2 : decode kc_Mo_readPathName 2 = .ok (.getfield 907, 3) := by decide +kernel
theorem kd_Mo_readPathName_5 : decode kc_Mo_readPathName 5 = .ok (.putfield 910, 3) := by decide +kernel
theorem kd_Mo_readPathName_8 : decode kc_Mo_readPathName 8 = .ok (.aload_n 0, 1) := by decide +kernel
theorem kd_Mo_readPathName_9 : decode kc_Mo_readPathName 9 = .ok (.aload_n 0, 1) := by decide +kernel
theorem kd_Mo_readPathName_10 : decode kc_Mo_readPathName 10 = .ok (.getfield 907, 3) := by decide +kernel
theorem kd_Mo_readPathName_13 : decode kc_Mo_readPathName 13 = .ok (.invokevirtual 913, 3) := by decide +kernel
theorem kd_Mo_readPathName_16 : decode kc_Mo_readPathName 16 = .ok (.invokestatic 194, 3) := by decide +kernel
theorem kd_Mo_readPathName_19 : decode kc_Mo_readPathName 19 = .ok (.ifCond .ne 17, 3) := by decide +kernel
theorem kd_Mo_readPathName_22 : decode kc_Mo_readPathName 22 = .ok (.aload_n 0, 1) := by decide +kernel
theorem kd_Mo_readPathName_23 : decode kc_Mo_readPathName 23 = .ok (.aload_n 0, 1) := by decide +kernel
theorem kd_Mo_readPathName_24 : decode kc_Mo_readPathName 24 = .ok (.getfield 907, 3) := by decide +kernel
theorem kd_Mo_readPathName_27 : decode kc_Mo_readPathName 27 = .ok (.invokevirtual 913, 3) := by decide +kernel
theorem kd_Mo_readPathName_30 : decode kc_Mo_readPathName 30 = .ok (.invokestatic 198, 3) := by decide +kernel
theorem kd_Mo_readPathName_33 : decode kc_Mo_readPathName 33 = .ok (.ifCond .eq 16, 3) := by decide +kernel
theorem kd_Mo_readPathName_36 : decode kc_Mo_readPathName 36 = .ok (.aload_n 0, 1) := by decide +kernel
theorem kd_Mo_readPathName_37 : decode kc_Mo_readPathName 37 = .ok (.dup, 1) := by decide +kernel
theorem kd_Mo_readPathName_38 : decode kc_Mo_readPathName 38 = .ok (.getfield 907, 3) := by decide +kernel
theorem kd_Mo_readPathName_41 : decode kc_Mo_readPathName 41 = .ok (.iconst 1, 1) := by decide +kernel
theorem kd_Mo_readPathName_42 : decode kc_Mo_readPathName 42 = .ok (.iadd, 1) := by decide +kernel
theorem kd_Mo_readPathName_43 : decode kc_Mo_readPathName 43 = .ok (.putfield 907, 3) := by decide +kernel
theorem kd_Mo_readPathName_46 : decode kc_Mo_readPathName 46 = .ok (.goto (-38), 3) := by decide +kernel
theorem kd_Mo_readPathName_49 : decode kc_Mo_readPathName 49 = .ok (.aload_n 0, 1) := by decide +kernel
theorem kd_Mo_readPathName_50 : decode kc_Mo_readPathName 50 = .ok (.getfield 907, 3) := by decide +kernel
theorem kd_Mo_readPathName_53 : decode kc_Mo_readPathName 53 = .ok (.aload_n 0, 1) := by decide +kernel
theorem kd_Mo_readPathName_54 : decode kc_Mo_readPathName 54 = .ok (.getfield 910, 3) := by decide +kernel
theorem kd_Mo_readPathName_57 : decode kc_Mo_readPathName 57 = .ok (.if_icmp .le 35, 3) := by decide +kernel
theorem kd_Mo_readPathName_60 : decode kc_Mo_readPathName 60 = .ok (.aload_n 0, 1) := by decide +kernel
theorem kd_Mo_readPathName_61 : decode kc_Mo_readPathName 61 = .ok (.getfield 907, 3) := by decide +kernel
theorem kd_Mo_readPathName_64 : decode kc_Mo_readPathName 64 = .ok (.aload_n 0, 1) := by decide +kernel
theorem kd_Mo_readPathName_65 : decode kc_Mo_readPathName 65 = .ok (.getfield 910, 3) := by decide +kernel
theorem kd_Mo_readPathName_68 : decode kc_Mo_readPathName 68 = .ok (.isub, 1) := by decide +kernel
theorem kd_Mo_readPathName_69 : decode kc_Mo_readPathName 69 = .ok (.bipush 32, 2) := by decide +kernel
theorem kd_Mo_readPathName_71 : decode kc_Mo_readPathName 71 = .ok (.if_icmp .gt 21, 3) := by decide +kernel
theorem kd_Mo_readPathName_74 : decode kc_Mo_readPathName 74 = .ok (.aload_n 0, 1) := by decide +kernel
theorem kd_Mo_readPathName_75 : decode kc_Mo_readPathName 75 = .ok (.aload_n 0, 1) := by decide +kernel
theorem kd_Mo_readPathName_76 : decode kc_Mo_readPathName 76 = .ok (.getfield 910, 3) := by decide +kernel
theorem kd_Mo_readPathName_79 : decode kc_Mo_readPathName 79 = .ok (.invokevirtual 913, 3) := by decide +kernel
theorem kd_Mo_readPathName_82 : decode kc_Mo_readPathName 82 = .ok (.invokestatic 198, 3) := by decide +kernel
theorem kd_Mo_readPathName_85 : decode kc_Mo_readPathName 85 = .ok (.ifCond .ne 7, 3) := by decide +kernel
theorem kd_Mo_readPathName_88 : decode kc_Mo_readPathName 88 = .ok (.iconst 1, 1) := by decide +kernel
theorem kd_Mo_readPathName_89 : decode kc_Mo_readPathName 89 = .ok (.goto 4, 3) := by decide +kernel
theorem kd_Mo_readPathName_92 : decode kc_Mo_readPathName 92 = .ok (.iconst 0, 1) := by decide +kernel
theorem kd_Mo_readPathName_93 : decode kc_Mo_readPathName 93 = .ok (.ireturn, 1) := by decide +kernel
theorem kd_Mo_see_0 : decode kc_Mo_see 0 = .ok (.aload_n 0, 1) := by decide +kernel
theorem kd_Mo_see_1 : decode kc_Mo_see 1 = .ok (.aload_n 0, 1) := by decide +kernel
theorem kd_Mo_see_2 : decode kc_Mo_see 2 = .ok (.getfield 150, 3) := by decide +kernel
theorem kd_Mo_see_5 : decode kc_Mo_see 5 = .ok (.iload_n 2, 1) := by decide +kernel
theorem kd_Mo_see_6 : decode kc_Mo_see 6 = .ok (.iaload, 1) := by decide +kernel
theorem kd_Mo_see_7 : decode kc_Mo_see 7 = .ok (.putfield 937, 3) := by decide +kernel
theorem kd_Mo_see_10 : decode kc_Mo_see 10 = .ok (.iload_n 1, 1) := by decide +kernel
theorem kd_Mo_see_11 : decode kc_Mo_see 11 = .ok (.ireturn, 1) := by decide +kernel
theorem kd_Mo_sizeOf_0 : decode kc_Mo_sizeOf 0 = .ok (.aload_n 0, 1) := by decide +kernel
theorem kd_Mo_sizeOf_1 : decode kc_Mo_sizeOf 1 = .ok (.getfield 115, 3) := by decide +kernel
theorem kd_Mo_sizeOf_4 : decode kc_Mo_sizeOf 4 = .ok (.iload_n 1, 1) := by decide +kernel
theorem kd_Mo_sizeOf_5 : decode kc_Mo_sizeOf 5 = .ok (.iconst 1, 1) := by decide +kernel
theorem kd_Mo_sizeOf_6 : decode kc_Mo_sizeOf 6 = .ok (.iadd, 1) := by decide +kernel
theorem kd_Mo_sizeOf_7 : decode kc_Mo_sizeOf 7 = .ok (.iaload, 1) := by decide +kernel
theorem kd_Mo_sizeOf_8 : decode kc_Mo_sizeOf 8 = .ok (.aload_n 0, 1) := by decide +kernel
theorem kd_Mo_sizeOf_9 : decode kc_Mo_sizeOf 9 = .ok (.getfield 115, 3) := by decide +kernel
theorem kd_Mo_sizeOf_12 : decode kc_Mo_sizeOf 12 = .ok (.iload_n 1, 1) := by decide +kernel
theorem kd_Mo_sizeOf_13 : decode kc_Mo_sizeOf 13 = .ok (.iaload, 1) := by decide +kernel
theorem kd_Mo_sizeOf_14 : decode kc_Mo_sizeOf 14 = .ok (.isub, 1) := by decide +kernel
theorem kd_Mo_sizeOf_15 : decode kc_Mo_sizeOf 15 = .ok (.ireturn, 1) := by decide +kernel
theorem kd_Mo_tapeGreat_0 : decode kc_Mo_tapeGreat 0 = .ok (.iload_n 1, 1) := by decide +kernel
theorem kd_Mo_tapeGreat_1 : decode kc_Mo_tapeGreat 1 = .ok (.aload_n 0, 1) := by decide +kernel
theorem kd_Mo_tapeGreat_2 : decode kc_Mo_tapeGreat 2 = .ok (.getfield 904, 3) := by decide +kernel
theorem kd_Mo_tapeGreat_5 : decode kc_Mo_tapeGreat 5 = .ok (.if_icmp .ge 16, 3) := by decide +kernel
theorem kd_Mo_tapeGreat_8 : decode kc_Mo_tapeGreat 8 = .ok (.aload_n 0, 1) := by decide +kernel
theorem kd_Mo_tapeGreat_9 : decode kc_Mo_tapeGreat 9 = .ok (.getfield 156, 3) := by decide +kernel
theorem kd_Mo_tapeGreat_12 : decode kc_Mo_tapeGreat 12 = .ok (.iload_n 1, 1) := by decide +kernel
theorem kd_Mo_tapeGreat_13 : decode kc_Mo_tapeGreat 13 = .ok (.baload, 1) := by decide +kernel
theorem kd_Mo_tapeGreat_14 : decode kc_Mo_tapeGreat 14 = .ok (.sipush 255, 3) := by decide +kernel
theorem kd_Mo_tapeGreat_17 : decode kc_Mo_tapeGreat 17 = .ok (.iand, 1) := by decide +kernel
theorem kd_Mo_tapeGreat_18 : decode kc_Mo_tapeGreat 18 = .ok (.goto 4, 3) := by decide +kernel
theorem kd_Mo_tapeGreat_21 : decode kc_Mo_tapeGreat 21 = .ok (.iconst 0, 1) := by decide +kernel
theorem kd_Mo_tapeGreat_22 : decode kc_Mo_tapeGreat 22 = .ok (.istore_n 2, 1) := by decide +kernel
theorem kd_Mo_tapeGreat_23 : decode kc_Mo_tapeGreat 23 = .ok (.iload_n 2, 1) := by decide +kernel
theorem kd_Mo_tapeGreat_24 : decode kc_Mo_tapeGreat 24 = .ok (.bipush 97, 2) := by decide +kernel
theorem kd_Mo_tapeGreat_26 : decode kc_Mo_tapeGreat 26 = .ok (.if_icmp .lt 16, 3) := by decide +kernel
theorem kd_Mo_tapeGreat_29 : decode kc_Mo_tapeGreat 29 = .ok (.iload_n 2, 1) := by decide +kernel
theorem kd_Mo_tapeGreat_30 : decode kc_Mo_tapeGreat 30 = .ok (.bipush 122, 2) := by decide +kernel
theorem kd_Mo_tapeGreat_32 : decode kc_Mo_tapeGreat 32 = .ok (.if_icmp .gt 10, 3) := by decide +kernel
theorem kd_Mo_tapeGreat_35 : decode kc_Mo_tapeGreat 35 = .ok (.iload_n 2, 1) := by decide +kernel
theorem kd_Mo_tapeGreat_36 : decode kc_Mo_tapeGreat 36 = .ok (.bipush 32, 2) := by decide +kernel
theorem kd_Mo_tapeGreat_38 : decode kc_Mo_tapeGreat 38 = .ok (.isub, 1) := by decide +kernel
theorem kd_Mo_tapeGreat_39 : decode kc_Mo_tapeGreat 39 = .ok (.goto 4, 3) := by decide +kernel
theorem kd_Mo_tapeGreat_42 : decode kc_Mo_tapeGreat 42 = .ok (.iload_n 2, 1) := by decide +kernel
theorem kd_Mo_tapeGreat_43 : decode kc_Mo_tapeGreat 43 = .ok (.ireturn, 1) := by decide +kernel
theorem kd_Mo_turn_0 : decode kc_Mo_turn 0 = .ok (.aload_n 0, 1) := by decide +kernel
theorem kd_Mo_turn_1 : decode kc_Mo_turn 1 = .ok (.getfield 150, 3) := by decide +kernel
theorem kd_Mo_turn_4 : decode kc_Mo_turn 4 = .ok (.iload_n 1, 1) := by decide +kernel
theorem kd_Mo_turn_5 : decode kc_Mo_turn 5 = .ok (.iload_n 2, 1) := by decide +kernel
theorem kd_Mo_turn_6 : decode kc_Mo_turn 6 = .ok (.ifCond .eq 7, 3) := by decide +kernel
theorem kd_Mo_turn_9 : decode kc_Mo_turn 9 = .ok (.iconst 1, 1) := by decide +kernel
theorem kd_Mo_turn_10 : decode kc_Mo_turn 10 = .ok (.goto 4, 3) := by decide +kernel
theorem kd_Mo_turn_13 : decode kc_Mo_turn 13 = .ok (.iconst 0, 1) := by decide +kernel
theorem kd_Mo_turn_14 : decode kc_Mo_turn 14 = .ok (.iastore, 1) := by decide +kernel
theorem kd_Mo_turn_15 : decode kc_Mo_turn 15 = .ok (.return_, 1) := by decide +kernel
theorem kd_Mo_variableOnPath_0 : decode kc_Mo_variableOnPath 0 = .ok (.aload_n 0, 1) := by decide +kernel
theorem kd_Mo_variableOnPath_1 : decode kc_Mo_variableOnPath 1 = .ok (.getfield 76, 3) := by decide +kernel
theorem kd_Mo_variableOnPath_4 : decode kc_Mo_variableOnPath 4 = .ok (.iload_n 1, 1) := by decide +kernel
theorem kd_Mo_variableOnPath_5 : decode kc_Mo_variableOnPath 5 = .ok (.iaload, 1) := by decide +kernel
theorem kd_Mo_variableOnPath_6 : decode kc_Mo_variableOnPath 6 = .ok (.istore_n 2, 1) := by decide +kernel
theorem kd_Mo_variableOnPath_7 : decode kc_Mo_variableOnPath 7 = .ok (.iload_n 2, 1) := by decide +kernel
theorem kd_Mo_variableOnPath_8 : decode kc_Mo_variableOnPath 8 = .ok (.aload_n 0, 1) := by decide +kernel
theorem kd_Mo_variableOnPath_9 : decode kc_Mo_variableOnPath 9 = .ok (.iload_n 1, 1) := by decide +kernel
theorem kd_Mo_variableOnPath_10 : decode kc_Mo_variableOnPath 10 = .ok (.invokevirtual 673, 3) := by decide +kernel
theorem kd_Mo_variableOnPath_13 : decode kc_Mo_variableOnPath 13 = .ok (.if_icmp .ge 24, 3) := by decide +kernel
theorem kd_Mo_variableOnPath_16 : decode kc_Mo_variableOnPath 16 = .ok (.aload_n 0, 1) := by decide +kernel
theorem kd_Mo_variableOnPath_17 : decode kc_Mo_variableOnPath 17 = .ok (.aload_n 0, 1) := by decide +kernel
theorem kd_Mo_variableOnPath_18 : decode kc_Mo_variableOnPath 18 = .ok (.getfield 79, 3) := by decide +kernel
theorem kd_Mo_variableOnPath_21 : decode kc_Mo_variableOnPath 21 = .ok (.iload_n 2, 1) := by decide +kernel
theorem kd_Mo_variableOnPath_22 : decode kc_Mo_variableOnPath 22 = .ok (.iaload, 1) := by decide +kernel
theorem kd_Mo_variableOnPath_23 : decode kc_Mo_variableOnPath 23 = .ok (.invokevirtual 934, 3) := by decide +kernel
theorem kd_Mo_variableOnPath_26 : decode kc_Mo_variableOnPath 26 = .ok (.ifCond .eq 5, 3) := by decide +kernel
theorem kd_Mo_variableOnPath_29 : decode kc_Mo_variableOnPath 29 = .ok (.iload_n 2, 1) := by decide +kernel
theorem kd_Mo_variableOnPath_30 : decode kc_Mo_variableOnPath 30 = .ok (.ireturn, 1) := by decide +kernel
theorem kd_Mo_variableOnPath_31 : decode kc_Mo_variableOnPath 31 = .ok (.iinc 2 1, 3) := by decide +kernel
theorem kd_Mo_variableOnPath_34 : decode kc_Mo_variableOnPath 34 = .ok (.goto (-27), 3) := by decide +kernel
theorem kd_Mo_variableOnPath_37 : decode kc_Mo_variableOnPath 37 = .ok (.iconst (-1), 1) := by decide +kernel
theorem kd_Mo_variableOnPath_38 : decode kc_Mo_variableOnPath 38 = .ok (.ireturn, 1) := by decide +kernel
set_option maxHeartbeats 4000000 in
set_option maxRecDepth 100000 in
theorem zb_Mo_tapeGreat_22 {X : zkj_T} {S : zs_T} {P : ze_T} {l : Launch} {D : va_G} {sz0 : Nat} {rv : Int32} {h : zs_H} (C : zk_C X km_Mo_tapeGreat (zs_G S l D sz0) { frames := 0, cells := 0, slots := 0, locals := 0 } (ze_E P)) (hR : zkj_R X (zd_PI S rv h) (some .int)) (y0 : Int32) (e : f_Mo_tapeGreat_22 h y0 = some rv) : zk_Ab X (zs_W S h) 0 0 22 [] [.int y0] := by
  unfold f_Mo_tapeGreat_22 at e
  refine zk_istore_n (lv' := [(2, _)]) C kd_Mo_tapeGreat_22 rfl (by decide) rfl rfl ?_
  refine zk_iload_n C kd_Mo_tapeGreat_23 rfl 0 rfl rfl ?_
  refine zk_bipush (v := 97) C kd_Mo_tapeGreat_24 (by decide) rfl ?_
  refine zk_icmp_lt (tgt := 42) C kd_Mo_tapeGreat_26 (by decide) rfl (fun b1 => ?_) (fun b1 => ?_)
  · replace e := zd_pos b1 e
    refine zk_iload_n C kd_Mo_tapeGreat_42 rfl 0 rfl rfl ?_
    exact zk_iret C hR kd_Mo_tapeGreat_43 rfl rfl (zd_rIO e)
  · replace e := zd_neg b1 e
    refine zk_iload_n C kd_Mo_tapeGreat_29 rfl 0 rfl rfl ?_
    refine zk_bipush (v := 122) C kd_Mo_tapeGreat_30 (by decide) rfl ?_
    refine zk_icmp_gt (tgt := 42) C kd_Mo_tapeGreat_32 (by decide) rfl (fun b2 => ?_) (fun b2 => ?_)
    · replace e := zd_pos b2 e
      refine zk_iload_n C kd_Mo_tapeGreat_42 rfl 0 rfl rfl ?_
      exact zk_iret C hR kd_Mo_tapeGreat_43 rfl rfl (zd_rIO e)
    · replace e := zd_neg b2 e
      refine zk_iload_n C kd_Mo_tapeGreat_35 rfl 0 rfl rfl ?_
      refine zk_bipush (v := 32) C kd_Mo_tapeGreat_36 (by decide) rfl ?_
      refine zk_isub C kd_Mo_tapeGreat_38 rfl ?_
      refine zk_goto (tgt := 43) C kd_Mo_tapeGreat_39 (by decide) ?_
      exact zk_iret C hR kd_Mo_tapeGreat_43 rfl rfl (zd_rIO e)
set_option maxHeartbeats 4000000 in
set_option maxRecDepth 100000 in
theorem zc_Mo_tapeGreat {l : Launch} {D : va_G} {sz0 : Nat} {S : zs_T} {P : ze_T} (h : zs_H) (x1 : Int32) {rv : Int32} (e : f_Mo_tapeGreat h x1 = some rv) : zk_Sp (zs_G S l D sz0) (ze_E P) km_Mo_tapeGreat { frames := 0, cells := 0, slots := 0, locals := 0 } [.ref (S.1 68), .int x1] (zs_W S h) (zd_PI S rv h) := by
  refine zk_met ku_Mo_tapeGreat (Nat.le_of_ble_eq_true rfl) (ze_Em P) ?_
  intro X C hR
  refine zk_lvs (lv' := [(0, .ref (S.1 68)), (1, .int x1)]) [0, 1] rfl ?_
  unfold f_Mo_tapeGreat at e
  refine zk_iload_n C kd_Mo_tapeGreat_0 rfl 1 rfl rfl ?_
  refine zk_aload_n C kd_Mo_tapeGreat_1 rfl 0 rfl rfl ?_
  refine zs_get (v := .int (h.1 68 94)) C 68 94 rfl rfl rfl rfl ki_Mo (by decide) kw1777 kd_Mo_tapeGreat_2 rfl ?_
  refine zk_icmp_ge (tgt := 21) C kd_Mo_tapeGreat_5 (by decide) rfl (fun b1 => ?_) (fun b1 => ?_)
  · replace e := zd_pos b1 e
    refine zk_iconst (v := 0) C kd_Mo_tapeGreat_21 (by decide) rfl ?_
    refine zk_lvs (lv' := []) [] rfl ?_
    exact zb_Mo_tapeGreat_22 C hR 0 e
  · replace e := zd_neg b1 e
    refine zk_aload_n C kd_Mo_tapeGreat_8 rfl 0 rfl rfl ?_
    refine zs_get (v := .ref (S.1 116)) C 68 79 rfl rfl rfl rfl ki_Mo (by decide) kw1762 kd_Mo_tapeGreat_9 rfl ?_
    refine zk_iload_n C kd_Mo_tapeGreat_12 rfl 1 rfl rfl ?_
    obtain ⟨q2, e⟩ := zd_g e
    refine zs_bald C 116 rfl (zd_vp q2) kd_Mo_tapeGreat_13 rfl ?_
    refine zk_sipush (v := 255) C kd_Mo_tapeGreat_14 (by decide) rfl ?_
    refine zk_iand C kd_Mo_tapeGreat_17 rfl ?_
    refine zk_goto (tgt := 22) C kd_Mo_tapeGreat_18 (by decide) ?_
    refine zk_lvs (lv' := []) [] rfl ?_
    exact zb_Mo_tapeGreat_22 C hR ((h.2.1 116 x1.toNatClampNeg) &&& 255) e
set_option maxHeartbeats 4000000 in
set_option maxRecDepth 100000 in
theorem zb_Mo_isLetter_12 {X : zkj_T} {S : zs_T} {P : ze_T} {l : Launch} {D : va_G} {sz0 : Nat} {rv : Int32} {h : zs_H} (C : zk_C X km_Mo_isLetter (zs_G S l D sz0) { frames := 0, cells := 0, slots := 0, locals := 0 } (ze_E P)) (hR : zkj_R X (zd_PZ S rv h) (some .boolean)) (x0 : Int32) (e : f_Mo_isLetter_12 x0 = rv) : zk_Ab X (zs_W S h) 0 0 12 [(0, .int x0)] [] := by
  unfold f_Mo_isLetter_12 at e
  refine zk_iload_n C kd_Mo_isLetter_12 rfl 0 rfl rfl ?_
  refine zk_bipush (v := 95) C kd_Mo_isLetter_13 (by decide) rfl ?_
  refine zk_icmp_ne (tgt := 22) C kd_Mo_isLetter_15 (by decide) rfl (fun b1 => ?_) (fun b1 => ?_)
  · replace e := zd_neg b1 e
    refine zk_iconst (v := 0) C kd_Mo_isLetter_22 (by decide) rfl ?_
    exact zk_zret C hR (zd_nb (Or.inl rfl)) kd_Mo_isLetter_23 rfl rfl (zd_rZT (Or.inl rfl) e)
  · replace e := zd_pos b1 e
    refine zk_iconst (v := 1) C kd_Mo_isLetter_18 (by decide) rfl ?_
    refine zk_goto (tgt := 23) C kd_Mo_isLetter_19 (by decide) ?_
    exact zk_zret C hR (zd_nb (Or.inr rfl)) kd_Mo_isLetter_23 rfl rfl (zd_rZT (Or.inr rfl) e)
set_option maxHeartbeats 4000000 in
set_option maxRecDepth 100000 in
theorem zc_Mo_isLetter {l : Launch} {D : va_G} {sz0 : Nat} {S : zs_T} {P : ze_T} (h : zs_H) (x0 : Int32) : zk_Sp (zs_G S l D sz0) (ze_E P) km_Mo_isLetter { frames := 0, cells := 0, slots := 0, locals := 0 } [.int x0] (zs_W S h) (zd_PZ S (f_Mo_isLetter x0) h) := by
  obtain ⟨rv, e⟩ : ∃ rv, f_Mo_isLetter x0 = rv := ⟨_, rfl⟩
  rw [e]
  refine zk_met ku_Mo_isLetter (Nat.le_of_ble_eq_true rfl) (ze_Em P) ?_
  intro X C hR
  refine zk_lvs (lv' := [(0, .int x0)]) [0] rfl ?_
  unfold f_Mo_isLetter at e
  refine zk_iload_n C kd_Mo_isLetter_0 rfl 0 rfl rfl ?_
  refine zk_bipush (v := 65) C kd_Mo_isLetter_1 (by decide) rfl ?_
  refine zk_icmp_lt (tgt := 12) C kd_Mo_isLetter_3 (by decide) rfl (fun b1 => ?_) (fun b1 => ?_)
  · replace e := zd_pos b1 e
    refine zk_lvs (lv' := [(0, .int x0)]) [0] rfl ?_
    exact zb_Mo_isLetter_12 C hR x0 e
  · replace e := zd_neg b1 e
    refine zk_iload_n C kd_Mo_isLetter_6 rfl 0 rfl rfl ?_
    refine zk_bipush (v := 90) C kd_Mo_isLetter_7 (by decide) rfl ?_
    refine zk_icmp_le (tgt := 18) C kd_Mo_isLetter_9 (by decide) rfl (fun b2 => ?_) (fun b2 => ?_)
    · replace e := zd_pos b2 e
      refine zk_iconst (v := 1) C kd_Mo_isLetter_18 (by decide) rfl ?_
      refine zk_goto (tgt := 23) C kd_Mo_isLetter_19 (by decide) ?_
      exact zk_zret C hR (zd_nb (Or.inr rfl)) kd_Mo_isLetter_23 rfl rfl (zd_rZT (Or.inr rfl) e)
    · replace e := zd_neg b2 e
      refine zk_lvs (lv' := [(0, .int x0)]) [0] rfl ?_
      exact zb_Mo_isLetter_12 C hR x0 e
set_option maxHeartbeats 4000000 in
set_option maxRecDepth 100000 in
theorem zc_Mo_isDigit {l : Launch} {D : va_G} {sz0 : Nat} {S : zs_T} {P : ze_T} (h : zs_H) (x0 : Int32) : zk_Sp (zs_G S l D sz0) (ze_E P) km_Mo_isDigit { frames := 0, cells := 0, slots := 0, locals := 0 } [.int x0] (zs_W S h) (zd_PZ S (f_Mo_isDigit x0) h) := by
  obtain ⟨rv, e⟩ : ∃ rv, f_Mo_isDigit x0 = rv := ⟨_, rfl⟩
  rw [e]
  refine zk_met ku_Mo_isDigit (Nat.le_of_ble_eq_true rfl) (ze_Em P) ?_
  intro X C hR
  refine zk_lvs (lv' := [(0, .int x0)]) [0] rfl ?_
  unfold f_Mo_isDigit at e
  refine zk_iload_n C kd_Mo_isDigit_0 rfl 0 rfl rfl ?_
  refine zk_bipush (v := 48) C kd_Mo_isDigit_1 (by decide) rfl ?_
  refine zk_icmp_lt (tgt := 16) C kd_Mo_isDigit_3 (by decide) rfl (fun b1 => ?_) (fun b1 => ?_)
  · replace e := zd_pos b1 e
    refine zk_iconst (v := 0) C kd_Mo_isDigit_16 (by decide) rfl ?_
    exact zk_zret C hR (zd_nb (Or.inl rfl)) kd_Mo_isDigit_17 rfl rfl (zd_rZT (Or.inl rfl) e)
  · replace e := zd_neg b1 e
    refine zk_iload_n C kd_Mo_isDigit_6 rfl 0 rfl rfl ?_
    refine zk_bipush (v := 57) C kd_Mo_isDigit_7 (by decide) rfl ?_
    refine zk_icmp_gt (tgt := 16) C kd_Mo_isDigit_9 (by decide) rfl (fun b2 => ?_) (fun b2 => ?_)
    · replace e := zd_pos b2 e
      refine zk_iconst (v := 0) C kd_Mo_isDigit_16 (by decide) rfl ?_
      exact zk_zret C hR (zd_nb (Or.inl rfl)) kd_Mo_isDigit_17 rfl rfl (zd_rZT (Or.inl rfl) e)
    · replace e := zd_neg b2 e
      refine zk_iconst (v := 1) C kd_Mo_isDigit_12 (by decide) rfl ?_
      refine zk_goto (tgt := 17) C kd_Mo_isDigit_13 (by decide) ?_
      exact zk_zret C hR (zd_nb (Or.inr rfl)) kd_Mo_isDigit_17 rfl rfl (zd_rZT (Or.inr rfl) e)
set_option maxHeartbeats 4000000 in
set_option maxRecDepth 100000 in
theorem zb_Mo_readPathName_36 {X : zkj_T} {S : zs_T} {P : ze_T} {l : Launch} {D : va_G} {sz0 : Nat} {rv : Int32} {rh : zs_H} (C : zk_C X km_Mo_readPathName (zs_G S l D sz0) { frames := 1, cells := 0, slots := 0, locals := 22 } (ze_E P)) (hR : zkj_R X (zd_PZ S rv rh) (some .boolean)) {k8 : zs_H → (Option (Int32 × zs_H))} (hk8 : ∀ (h : zs_H), k8 h = some (rv, rh) → zk_Ab X (zs_W S h) 0 0 8 [(0, .ref (S.1 68))] []) (h : zs_H) (e : f_Mo_readPathName_36 k8 h = some (rv, rh)) : zk_Ab X (zs_W S h) 0 0 36 [(0, .ref (S.1 68))] [] := by
  unfold f_Mo_readPathName_36 at e
  refine zk_aload_n C kd_Mo_readPathName_36 rfl 0 rfl rfl ?_
  refine zk_dup C kd_Mo_readPathName_37 rfl rfl ?_
  refine zs_get (v := .int (h.1 68 93)) C 68 93 rfl rfl rfl rfl ki_Mo (by decide) kw1776 kd_Mo_readPathName_38 rfl ?_
  refine zk_iconst (v := 1) C kd_Mo_readPathName_41 (by decide) rfl ?_
  refine zk_iadd C kd_Mo_readPathName_42 rfl ?_
  refine zs_put (ty := .int) C 68 93 ((h.1 68 93) + 1) rfl rfl rfl rfl ki_Mo ky_Mo ko_Mo kn_Mo (by decide) kw1776 rfl rfl rfl rfl (by decide) kd_Mo_readPathName_43 rfl ?_
  refine zk_goto (tgt := 8) C kd_Mo_readPathName_46 (by decide) ?_
  refine zk_lvs (lv' := [(0, .ref (S.1 68))]) [0] rfl ?_
  exact hk8 (zs_uF h 68 93 ((h.1 68 93) + 1)) e
set_option maxHeartbeats 4000000 in
set_option maxRecDepth 100000 in
theorem zb_Mo_readPathName_8 {X : zkj_T} {S : zs_T} {P : ze_T} {l : Launch} {D : va_G} {sz0 : Nat} {rv : Int32} {rh : zs_H} (C : zk_C X km_Mo_readPathName (zs_G S l D sz0) { frames := 1, cells := 0, slots := 0, locals := 22 } (ze_E P)) (hR : zkj_R X (zd_PZ S rv rh) (some .boolean)) {k8 : zs_H → (Option (Int32 × zs_H))} (hk8 : ∀ (h : zs_H), k8 h = some (rv, rh) → zk_Ab X (zs_W S h) 0 0 8 [(0, .ref (S.1 68))] []) (h : zs_H) (e : f_Mo_readPathName_8 k8 h = some (rv, rh)) : zk_Ab X (zs_W S h) 0 0 8 [(0, .ref (S.1 68))] [] := by
  unfold f_Mo_readPathName_8 at e
  refine zk_aload_n C kd_Mo_readPathName_8 rfl 0 rfl rfl ?_
  refine zk_aload_n C kd_Mo_readPathName_9 rfl 0 rfl rfl ?_
  refine zs_get (v := .int (h.1 68 93)) C 68 93 rfl rfl rfl rfl ki_Mo (by decide) kw1776 kd_Mo_readPathName_10 rfl ?_
  obtain ⟨v2, c1, e⟩ := zd_b e
  refine zs_callV (k := 68) (rn := { frames := 0, cells := 0, slots := 0, locals := 0 }) (As := [.int (h.1 68 93)]) (rest := []) C (zc_Mo_tapeGreat h (h.1 68 93) c1) ku_Mo_tapeGreat kw2780 kv_Mo_tapeGreat rfl ⟨by decide, by decide⟩ ⟨by decide, by decide⟩ rfl rfl rfl (Nat.le_of_ble_eq_true rfl) kd_Mo_readPathName_13 rfl (c1 := 0) (s1 := 0) rfl rfl (fun v w hp => ?_)
  obtain ⟨rfl, rfl⟩ := hp
  refine zk_stk (r' := [.int v2]) rfl ?_
  refine zk_callS (rn := { frames := 0, cells := 0, slots := 0, locals := 0 }) (As := [.int v2]) (rest := []) C (zc_Mo_isLetter h v2) ku_Mo_isLetter kw2048 ks_Mo_isLetter rfl ⟨by decide, by decide⟩ ⟨by decide, by decide⟩ rfl (Nat.le_of_ble_eq_true rfl) kd_Mo_readPathName_16 rfl (c1 := 0) (s1 := 0) rfl rfl (fun v w hp => ?_)
  obtain ⟨rfl, rfl, z3⟩ := hp
  refine zk_stk (r' := [.int (f_Mo_isLetter v2)]) rfl ?_
  refine zk_if_ne (tgt := 36) C kd_Mo_readPathName_19 (by decide) rfl (fun b4 => ?_) (fun b4 => ?_)
  · replace e := zd_neg b4 e
    refine zk_lvs (lv' := [(0, .ref (S.1 68))]) [0] rfl ?_
    exact zb_Mo_readPathName_36 C hR hk8 h e
  · replace e := zd_pos b4 e
    refine zk_aload_n C kd_Mo_readPathName_22 rfl 0 rfl rfl ?_
    refine zk_aload_n C kd_Mo_readPathName_23 rfl 0 rfl rfl ?_
    refine zs_get (v := .int (h.1 68 93)) C 68 93 rfl rfl rfl rfl ki_Mo (by decide) kw1776 kd_Mo_readPathName_24 rfl ?_
    obtain ⟨v6, c5, e⟩ := zd_b e
    refine zs_callV (k := 68) (rn := { frames := 0, cells := 0, slots := 0, locals := 0 }) (As := [.int (h.1 68 93)]) (rest := []) C (zc_Mo_tapeGreat h (h.1 68 93) c5) ku_Mo_tapeGreat kw2780 kv_Mo_tapeGreat rfl ⟨by decide, by decide⟩ ⟨by decide, by decide⟩ rfl rfl rfl (Nat.le_of_ble_eq_true rfl) kd_Mo_readPathName_27 rfl (c1 := 0) (s1 := 0) rfl rfl (fun v w hp => ?_)
    obtain ⟨rfl, rfl⟩ := hp
    refine zk_stk (r' := [.int v6]) rfl ?_
    refine zk_callS (rn := { frames := 0, cells := 0, slots := 0, locals := 0 }) (As := [.int v6]) (rest := []) C (zc_Mo_isDigit h v6) ku_Mo_isDigit kw2033 ks_Mo_isDigit rfl ⟨by decide, by decide⟩ ⟨by decide, by decide⟩ rfl (Nat.le_of_ble_eq_true rfl) kd_Mo_readPathName_30 rfl (c1 := 0) (s1 := 0) rfl rfl (fun v w hp => ?_)
    obtain ⟨rfl, rfl, z7⟩ := hp
    refine zk_stk (r' := [.int (f_Mo_isDigit v6)]) rfl ?_
    refine zk_if_eq (tgt := 49) C kd_Mo_readPathName_33 (by decide) rfl (fun b8 => ?_) (fun b8 => ?_)
    · replace e := zd_pos b8 e
      refine zk_aload_n C kd_Mo_readPathName_49 rfl 0 rfl rfl ?_
      refine zs_get (v := .int (h.1 68 93)) C 68 93 rfl rfl rfl rfl ki_Mo (by decide) kw1776 kd_Mo_readPathName_50 rfl ?_
      refine zk_aload_n C kd_Mo_readPathName_53 rfl 0 rfl rfl ?_
      refine zs_get (v := .int (h.1 68 95)) C 68 95 rfl rfl rfl rfl ki_Mo (by decide) kw1778 kd_Mo_readPathName_54 rfl ?_
      refine zk_icmp_le (tgt := 92) C kd_Mo_readPathName_57 (by decide) rfl (fun b9 => ?_) (fun b9 => ?_)
      · replace e := zd_pos b9 e
        refine zk_iconst (v := 0) C kd_Mo_readPathName_92 (by decide) rfl ?_
        exact zk_zret C hR (zd_nb (Or.inl rfl)) kd_Mo_readPathName_93 rfl rfl (zd_rZS (Or.inl rfl) e)
      · replace e := zd_neg b9 e
        refine zk_aload_n C kd_Mo_readPathName_60 rfl 0 rfl rfl ?_
        refine zs_get (v := .int (h.1 68 93)) C 68 93 rfl rfl rfl rfl ki_Mo (by decide) kw1776 kd_Mo_readPathName_61 rfl ?_
        refine zk_aload_n C kd_Mo_readPathName_64 rfl 0 rfl rfl ?_
        refine zs_get (v := .int (h.1 68 95)) C 68 95 rfl rfl rfl rfl ki_Mo (by decide) kw1778 kd_Mo_readPathName_65 rfl ?_
        refine zk_isub C kd_Mo_readPathName_68 rfl ?_
        refine zk_bipush (v := 32) C kd_Mo_readPathName_69 (by decide) rfl ?_
        refine zk_icmp_gt (tgt := 92) C kd_Mo_readPathName_71 (by decide) rfl (fun b10 => ?_) (fun b10 => ?_)
        · replace e := zd_pos b10 e
          refine zk_iconst (v := 0) C kd_Mo_readPathName_92 (by decide) rfl ?_
          exact zk_zret C hR (zd_nb (Or.inl rfl)) kd_Mo_readPathName_93 rfl rfl (zd_rZS (Or.inl rfl) e)
        · replace e := zd_neg b10 e
          refine zk_aload_n C kd_Mo_readPathName_74 rfl 0 rfl rfl ?_
          refine zk_aload_n C kd_Mo_readPathName_75 rfl 0 rfl rfl ?_
          refine zs_get (v := .int (h.1 68 95)) C 68 95 rfl rfl rfl rfl ki_Mo (by decide) kw1778 kd_Mo_readPathName_76 rfl ?_
          obtain ⟨v12, c11, e⟩ := zd_b e
          refine zs_callV (k := 68) (rn := { frames := 0, cells := 0, slots := 0, locals := 0 }) (As := [.int (h.1 68 95)]) (rest := []) C (zc_Mo_tapeGreat h (h.1 68 95) c11) ku_Mo_tapeGreat kw2780 kv_Mo_tapeGreat rfl ⟨by decide, by decide⟩ ⟨by decide, by decide⟩ rfl rfl rfl (Nat.le_of_ble_eq_true rfl) kd_Mo_readPathName_79 rfl (c1 := 0) (s1 := 0) rfl rfl (fun v w hp => ?_)
          obtain ⟨rfl, rfl⟩ := hp
          refine zk_stk (r' := [.int v12]) rfl ?_
          refine zk_callS (rn := { frames := 0, cells := 0, slots := 0, locals := 0 }) (As := [.int v12]) (rest := []) C (zc_Mo_isDigit h v12) ku_Mo_isDigit kw2033 ks_Mo_isDigit rfl ⟨by decide, by decide⟩ ⟨by decide, by decide⟩ rfl (Nat.le_of_ble_eq_true rfl) kd_Mo_readPathName_82 rfl (c1 := 0) (s1 := 0) rfl rfl (fun v w hp => ?_)
          obtain ⟨rfl, rfl, z13⟩ := hp
          refine zk_stk (r' := [.int (f_Mo_isDigit v12)]) rfl ?_
          refine zk_if_ne (tgt := 92) C kd_Mo_readPathName_85 (by decide) rfl (fun b14 => ?_) (fun b14 => ?_)
          · replace e := zd_neg b14 e
            refine zk_iconst (v := 0) C kd_Mo_readPathName_92 (by decide) rfl ?_
            exact zk_zret C hR (zd_nb (Or.inl rfl)) kd_Mo_readPathName_93 rfl rfl (zd_rZS (Or.inl rfl) e)
          · replace e := zd_pos b14 e
            refine zk_iconst (v := 1) C kd_Mo_readPathName_88 (by decide) rfl ?_
            refine zk_goto (tgt := 93) C kd_Mo_readPathName_89 (by decide) ?_
            exact zk_zret C hR (zd_nb (Or.inr rfl)) kd_Mo_readPathName_93 rfl rfl (zd_rZS (Or.inr rfl) e)
    · replace e := zd_neg b8 e
      refine zk_lvs (lv' := [(0, .ref (S.1 68))]) [0] rfl ?_
      exact zb_Mo_readPathName_36 C hR hk8 h e
theorem zl_Mo_readPathName_8 {X : zkj_T} {S : zs_T} {P : ze_T} {l : Launch} {D : va_G} {sz0 : Nat} {rv : Int32} {rh : zs_H} (C : zk_C X km_Mo_readPathName (zs_G S l D sz0) { frames := 1, cells := 0, slots := 0, locals := 22 } (ze_E P)) (hR : zkj_R X (zd_PZ S rv rh) (some .boolean)) (n : Nat) : ∀ (h : zs_H), f_Mo_readPathName_L8 n h = some (rv, rh) → zk_Ab X (zs_W S h) 0 0 8 [(0, .ref (S.1 68))] [] := by
  induction n with
  | zero => intro h e; exact zd_no e
  | succ n ih => intro h e; exact zb_Mo_readPathName_8 (k8 := f_Mo_readPathName_L8  n) C hR ih h e
set_option maxHeartbeats 4000000 in
set_option maxRecDepth 100000 in
theorem zc_Mo_readPathName {l : Launch} {D : va_G} {sz0 : Nat} {S : zs_T} {P : ze_T} (h : zs_H) {rv : Int32} {rh : zs_H} (e : f_Mo_readPathName h = some (rv, rh)) : zk_Sp (zs_G S l D sz0) (ze_E P) km_Mo_readPathName { frames := 1, cells := 0, slots := 0, locals := 22 } [.ref (S.1 68)] (zs_W S h) (zd_PZ S rv rh) := by
  refine zk_met ku_Mo_readPathName (Nat.le_of_ble_eq_true rfl) (ze_Em P) ?_
  intro X C hR
  refine zk_lvs (lv' := [(0, .ref (S.1 68))]) [0] rfl ?_
  unfold f_Mo_readPathName at e
  refine zk_aload_n C kd_Mo_readPathName_0 rfl 0 rfl rfl ?_
  refine zk_aload_n C kd_Mo_readPathName_1 rfl 0 rfl rfl ?_
  refine zs_get (v := .int (h.1 68 93)) C 68 93 rfl rfl rfl rfl ki_Mo (by decide) kw1776 kd_Mo_readPathName_2 rfl ?_
  refine zs_put (ty := .int) C 68 95 (h.1 68 93) rfl rfl rfl rfl ki_Mo ky_Mo ko_Mo kn_Mo (by decide) kw1778 rfl rfl rfl rfl (by decide) kd_Mo_readPathName_5 rfl ?_
  refine zk_lvs (lv' := [(0, .ref (S.1 68))]) [0] rfl ?_
  exact zl_Mo_readPathName_8 C hR zF (zs_uF h 68 95 (h.1 68 93)) e
set_option maxHeartbeats 4000000 in
set_option maxRecDepth 100000 in
theorem zc_Mo_endOf {l : Launch} {D : va_G} {sz0 : Nat} {S : zs_T} {P : ze_T} (h : zs_H) (x1 : Int32) {rv : Int32} (e : f_Mo_endOf h x1 = some rv) : zk_Sp (zs_G S l D sz0) (ze_E P) km_Mo_endOf { frames := 0, cells := 0, slots := 0, locals := 0 } [.ref (S.1 68), .int x1] (zs_W S h) (zd_PI S rv h) := by
  refine zk_met ku_Mo_endOf (Nat.le_of_ble_eq_true rfl) (ze_Em P) ?_
  intro X C hR
  refine zk_lvs (lv' := [(0, .ref (S.1 68)), (1, .int x1)]) [0, 1] rfl ?_
  unfold f_Mo_endOf at e
  refine zk_iload_n C kd_Mo_endOf_0 rfl 1 rfl rfl ?_
  refine zk_aload_n C kd_Mo_endOf_1 rfl 0 rfl rfl ?_
  refine zs_get (v := .int (h.1 68 33)) C 68 33 rfl rfl rfl rfl ki_Mo (by decide) kw1716 kd_Mo_endOf_2 rfl ?_
  refine zk_iconst (v := 1) C kd_Mo_endOf_5 (by decide) rfl ?_
  refine zk_isub C kd_Mo_endOf_6 rfl ?_
  refine zk_icmp_ne (tgt := 17) C kd_Mo_endOf_7 (by decide) rfl (fun b1 => ?_) (fun b1 => ?_)
  · replace e := zd_neg b1 e
    refine zk_aload_n C kd_Mo_endOf_17 rfl 0 rfl rfl ?_
    refine zs_get (v := .ref (S.1 90)) C 68 40 rfl rfl rfl rfl ki_Mo (by decide) kw1723 kd_Mo_endOf_18 rfl ?_
    refine zk_iload_n C kd_Mo_endOf_21 rfl 1 rfl rfl ?_
    refine zk_iconst (v := 1) C kd_Mo_endOf_22 (by decide) rfl ?_
    refine zk_iadd C kd_Mo_endOf_23 rfl ?_
    obtain ⟨q2, e⟩ := zd_g e
    refine zs_iald C 90 rfl (zd_vp q2) kd_Mo_endOf_24 rfl ?_
    exact zk_iret C hR kd_Mo_endOf_25 rfl rfl (zd_rIO e)
  · replace e := zd_pos b1 e
    refine zk_aload_n C kd_Mo_endOf_10 rfl 0 rfl rfl ?_
    refine zs_get (v := .int (h.1 68 41)) C 68 41 rfl rfl rfl rfl ki_Mo (by decide) kw1724 kd_Mo_endOf_11 rfl ?_
    refine zk_goto (tgt := 25) C kd_Mo_endOf_14 (by decide) ?_
    exact zk_iret C hR kd_Mo_endOf_25 rfl rfl (zd_rIO e)
set_option maxHeartbeats 4000000 in
set_option maxRecDepth 100000 in
theorem zb_Mo_isPathName_69 {X : zkj_T} {S : zs_T} {P : ze_T} {l : Launch} {D : va_G} {sz0 : Nat} {rv : Int32} {h : zs_H} (C : zk_C X km_Mo_isPathName (zs_G S l D sz0) { frames := 1, cells := 0, slots := 0, locals := 22 } (ze_E P)) (hR : zkj_R X (zd_PZ S rv h) (some .boolean)) {k26 : Int32 → Int32 → Int32 → (Option Int32)} (hk26 : ∀ (x1 : Int32) (x2 : Int32) (x3 : Int32), k26 x1 x2 x3 = some rv → zk_Ab X (zs_W S h) 0 0 26 [(0, .ref (S.1 68)), (1, .int x1), (2, .int x2), (3, .int x3)] []) (x1 : Int32) (x3 : Int32) (y0 : Int32) (e : f_Mo_isPathName_69 h k26 x1 x3 y0 = some rv) : zk_Ab X (zs_W S h) 0 0 69 [(0, .ref (S.1 68)), (1, .int x1), (3, .int x3)] [.int y0] := by
  unfold f_Mo_isPathName_69 at e
  refine zk_istore_n (lv' := [(2, _), (0, _), (1, _), (3, _)]) C kd_Mo_isPathName_69 rfl (by decide) rfl rfl ?_
  refine zk_iinc (v := (x3 + 1)) (lv' := [(3, _), (2, _), (0, _), (1, _)]) C kd_Mo_isPathName_70 3 rfl rfl (by decide) rfl rfl ?_
  refine zk_goto (tgt := 26) C kd_Mo_isPathName_73 (by decide) ?_
  refine zk_lvs (lv' := [(0, .ref (S.1 68)), (1, .int x1), (2, .int y0), (3, .int (x3 + 1))]) [2, 3, 1, 0] rfl ?_
  exact hk26 x1 y0 (x3 + 1) e
set_option maxHeartbeats 4000000 in
set_option maxRecDepth 100000 in
theorem zb_Mo_isPathName_26 {X : zkj_T} {S : zs_T} {P : ze_T} {l : Launch} {D : va_G} {sz0 : Nat} {rv : Int32} {h : zs_H} (C : zk_C X km_Mo_isPathName (zs_G S l D sz0) { frames := 1, cells := 0, slots := 0, locals := 22 } (ze_E P)) (hR : zkj_R X (zd_PZ S rv h) (some .boolean)) {k26 : Int32 → Int32 → Int32 → (Option Int32)} (hk26 : ∀ (x1 : Int32) (x2 : Int32) (x3 : Int32), k26 x1 x2 x3 = some rv → zk_Ab X (zs_W S h) 0 0 26 [(0, .ref (S.1 68)), (1, .int x1), (2, .int x2), (3, .int x3)] []) (x1 : Int32) (x2 : Int32) (x3 : Int32) (e : f_Mo_isPathName_26 h k26 x1 x2 x3 = some rv) : zk_Ab X (zs_W S h) 0 0 26 [(0, .ref (S.1 68)), (1, .int x1), (2, .int x2), (3, .int x3)] [] := by
  unfold f_Mo_isPathName_26 at e
  refine zk_iload_n C kd_Mo_isPathName_26 rfl 3 rfl rfl ?_
  refine zk_aload_n C kd_Mo_isPathName_27 rfl 0 rfl rfl ?_
  refine zs_get (v := .ref (S.1 71)) C 68 5 rfl rfl rfl rfl ki_Mo (by decide) kw1688 kd_Mo_isPathName_28 rfl ?_
  refine zk_iload_n C kd_Mo_isPathName_31 rfl 1 rfl rfl ?_
  obtain ⟨q1, e⟩ := zd_g e
  refine zs_iald C 71 rfl (zd_vp q1) kd_Mo_isPathName_32 rfl ?_
  refine zk_icmp_ge (tgt := 76) C kd_Mo_isPathName_33 (by decide) rfl (fun b2 => ?_) (fun b2 => ?_)
  · replace e := zd_pos b2 e
    refine zk_iload_n C kd_Mo_isPathName_76 rfl 2 rfl rfl ?_
    obtain ⟨q3, e⟩ := zd_g e
    exact zk_zret C hR (zd_nb q3) kd_Mo_isPathName_77 rfl rfl (zd_rZO q3 e)
  · replace e := zd_neg b2 e
    refine zk_iload_n C kd_Mo_isPathName_36 rfl 2 rfl rfl ?_
    refine zk_if_eq (tgt := 76) C kd_Mo_isPathName_37 (by decide) rfl (fun b4 => ?_) (fun b4 => ?_)
    · replace e := zd_pos b4 e
      refine zk_iload_n C kd_Mo_isPathName_76 rfl 2 rfl rfl ?_
      obtain ⟨q5, e⟩ := zd_g e
      exact zk_zret C hR (zd_nb q5) kd_Mo_isPathName_77 rfl rfl (zd_rZO q5 e)
    · replace e := zd_neg b4 e
      refine zk_aload_n C kd_Mo_isPathName_40 rfl 0 rfl rfl ?_
      refine zs_get (v := .ref (S.1 70)) C 68 4 rfl rfl rfl rfl ki_Mo (by decide) kw1687 kd_Mo_isPathName_41 rfl ?_
      refine zk_bipush (v := 32) C kd_Mo_isPathName_44 (by decide) rfl ?_
      refine zk_iload_n C kd_Mo_isPathName_46 rfl 1 rfl rfl ?_
      refine zk_imul C kd_Mo_isPathName_47 rfl ?_
      refine zk_iload_n C kd_Mo_isPathName_48 rfl 3 rfl rfl ?_
      refine zk_iadd C kd_Mo_isPathName_49 rfl ?_
      obtain ⟨q6, e⟩ := zd_g e
      refine zs_bald C 70 rfl (zd_vp q6) kd_Mo_isPathName_50 rfl ?_
      refine zk_aload_n C kd_Mo_isPathName_51 rfl 0 rfl rfl ?_
      refine zk_aload_n C kd_Mo_isPathName_52 rfl 0 rfl rfl ?_
      refine zs_get (v := .int (h.1 68 95)) C 68 95 rfl rfl rfl rfl ki_Mo (by decide) kw1778 kd_Mo_isPathName_53 rfl ?_
      refine zk_iload_n C kd_Mo_isPathName_56 rfl 3 rfl rfl ?_
      refine zk_iadd C kd_Mo_isPathName_57 rfl ?_
      obtain ⟨v8, c7, e⟩ := zd_b e
      refine zs_callV (k := 68) (rn := { frames := 0, cells := 0, slots := 0, locals := 0 }) (As := [.int ((h.1 68 95) + x3)]) (rest := [.int (h.2.1 70 ((32 * x1) + x3).toNatClampNeg)]) C (zc_Mo_tapeGreat h ((h.1 68 95) + x3) c7) ku_Mo_tapeGreat kw2780 kv_Mo_tapeGreat rfl ⟨by decide, by decide⟩ ⟨by decide, by decide⟩ rfl rfl rfl (Nat.le_of_ble_eq_true rfl) kd_Mo_isPathName_58 rfl (c1 := 0) (s1 := 0) rfl rfl (fun v w hp => ?_)
      obtain ⟨rfl, rfl⟩ := hp
      refine zk_stk (r' := [.int v8, .int (h.2.1 70 ((32 * x1) + x3).toNatClampNeg)]) rfl ?_
      refine zk_icmp_ne (tgt := 68) C kd_Mo_isPathName_61 (by decide) rfl (fun b9 => ?_) (fun b9 => ?_)
      · replace e := zd_neg b9 e
        refine zk_iconst (v := 0) C kd_Mo_isPathName_68 (by decide) rfl ?_
        refine zk_lvs (lv' := [(0, .ref (S.1 68)), (1, .int x1), (3, .int x3)]) [0, 1, 3] rfl ?_
        exact zb_Mo_isPathName_69 C hR hk26 x1 x3 0 e
      · replace e := zd_pos b9 e
        refine zk_iconst (v := 1) C kd_Mo_isPathName_64 (by decide) rfl ?_
        refine zk_goto (tgt := 69) C kd_Mo_isPathName_65 (by decide) ?_
        refine zk_lvs (lv' := [(0, .ref (S.1 68)), (1, .int x1), (3, .int x3)]) [0, 1, 3] rfl ?_
        exact zb_Mo_isPathName_69 C hR hk26 x1 x3 1 e
theorem zl_Mo_isPathName_26 {X : zkj_T} {S : zs_T} {P : ze_T} {l : Launch} {D : va_G} {sz0 : Nat} {rv : Int32} {h : zs_H} (C : zk_C X km_Mo_isPathName (zs_G S l D sz0) { frames := 1, cells := 0, slots := 0, locals := 22 } (ze_E P)) (hR : zkj_R X (zd_PZ S rv h) (some .boolean)) (n : Nat) : ∀ (x1 : Int32) (x2 : Int32) (x3 : Int32), f_Mo_isPathName_L26 h n x1 x2 x3 = some rv → zk_Ab X (zs_W S h) 0 0 26 [(0, .ref (S.1 68)), (1, .int x1), (2, .int x2), (3, .int x3)] [] := by
  induction n with
  | zero => intro x1 x2 x3 e; exact zd_no e
  | succ n ih => intro x1 x2 x3 e; exact zb_Mo_isPathName_26 (k26 := f_Mo_isPathName_L26 h n) C hR ih x1 x2 x3 e
set_option maxHeartbeats 4000000 in
set_option maxRecDepth 100000 in
theorem zb_Mo_isPathName_23 {X : zkj_T} {S : zs_T} {P : ze_T} {l : Launch} {D : va_G} {sz0 : Nat} {rv : Int32} {h : zs_H} (C : zk_C X km_Mo_isPathName (zs_G S l D sz0) { frames := 1, cells := 0, slots := 0, locals := 22 } (ze_E P)) (hR : zkj_R X (zd_PZ S rv h) (some .boolean)) (x1 : Int32) (y0 : Int32) (e : f_Mo_isPathName_23 h x1 y0 = some rv) : zk_Ab X (zs_W S h) 0 0 23 [(0, .ref (S.1 68)), (1, .int x1)] [.int y0] := by
  unfold f_Mo_isPathName_23 at e
  refine zk_istore_n (lv' := [(2, _), (0, _), (1, _)]) C kd_Mo_isPathName_23 rfl (by decide) rfl rfl ?_
  refine zk_iconst (v := 0) C kd_Mo_isPathName_24 (by decide) rfl ?_
  refine zk_istore_n (lv' := [(3, _), (2, _), (0, _), (1, _)]) C kd_Mo_isPathName_25 rfl (by decide) rfl rfl ?_
  refine zk_lvs (lv' := [(0, .ref (S.1 68)), (1, .int x1), (2, .int y0), (3, .int 0)]) [2, 3, 1, 0] rfl ?_
  exact zl_Mo_isPathName_26 C hR zF x1 y0 0 e
set_option maxHeartbeats 4000000 in
set_option maxRecDepth 100000 in
theorem zc_Mo_isPathName {l : Launch} {D : va_G} {sz0 : Nat} {S : zs_T} {P : ze_T} (h : zs_H) (x1 : Int32) {rv : Int32} (e : f_Mo_isPathName h x1 = some rv) : zk_Sp (zs_G S l D sz0) (ze_E P) km_Mo_isPathName { frames := 1, cells := 0, slots := 0, locals := 22 } [.ref (S.1 68), .int x1] (zs_W S h) (zd_PZ S rv h) := by
  refine zk_met ku_Mo_isPathName (Nat.le_of_ble_eq_true rfl) (ze_Em P) ?_
  intro X C hR
  refine zk_lvs (lv' := [(0, .ref (S.1 68)), (1, .int x1)]) [0, 1] rfl ?_
  unfold f_Mo_isPathName at e
  refine zk_aload_n C kd_Mo_isPathName_0 rfl 0 rfl rfl ?_
  refine zs_get (v := .ref (S.1 71)) C 68 5 rfl rfl rfl rfl ki_Mo (by decide) kw1688 kd_Mo_isPathName_1 rfl ?_
  refine zk_iload_n C kd_Mo_isPathName_4 rfl 1 rfl rfl ?_
  obtain ⟨q1, e⟩ := zd_g e
  refine zs_iald C 71 rfl (zd_vp q1) kd_Mo_isPathName_5 rfl ?_
  refine zk_aload_n C kd_Mo_isPathName_6 rfl 0 rfl rfl ?_
  refine zs_get (v := .int (h.1 68 93)) C 68 93 rfl rfl rfl rfl ki_Mo (by decide) kw1776 kd_Mo_isPathName_7 rfl ?_
  refine zk_aload_n C kd_Mo_isPathName_10 rfl 0 rfl rfl ?_
  refine zs_get (v := .int (h.1 68 95)) C 68 95 rfl rfl rfl rfl ki_Mo (by decide) kw1778 kd_Mo_isPathName_11 rfl ?_
  refine zk_isub C kd_Mo_isPathName_14 rfl ?_
  refine zk_icmp_ne (tgt := 22) C kd_Mo_isPathName_15 (by decide) rfl (fun b2 => ?_) (fun b2 => ?_)
  · replace e := zd_neg b2 e
    refine zk_iconst (v := 0) C kd_Mo_isPathName_22 (by decide) rfl ?_
    refine zk_lvs (lv' := [(0, .ref (S.1 68)), (1, .int x1)]) [0, 1] rfl ?_
    exact zb_Mo_isPathName_23 C hR x1 0 e
  · replace e := zd_pos b2 e
    refine zk_iconst (v := 1) C kd_Mo_isPathName_18 (by decide) rfl ?_
    refine zk_goto (tgt := 23) C kd_Mo_isPathName_19 (by decide) ?_
    refine zk_lvs (lv' := [(0, .ref (S.1 68)), (1, .int x1)]) [0, 1] rfl ?_
    exact zb_Mo_isPathName_23 C hR x1 1 e
set_option maxHeartbeats 4000000 in
set_option maxRecDepth 100000 in
theorem zb_Mo_variableOnPath_7 {X : zkj_T} {S : zs_T} {P : ze_T} {l : Launch} {D : va_G} {sz0 : Nat} {rv : Int32} {h : zs_H} (C : zk_C X km_Mo_variableOnPath (zs_G S l D sz0) { frames := 2, cells := 0, slots := 0, locals := 45 } (ze_E P)) (hR : zkj_R X (zd_PI S rv h) (some .int)) {k7 : Int32 → Int32 → (Option Int32)} (hk7 : ∀ (x1 : Int32) (x2 : Int32), k7 x1 x2 = some rv → zk_Ab X (zs_W S h) 0 0 7 [(0, .ref (S.1 68)), (1, .int x1), (2, .int x2)] []) (x1 : Int32) (x2 : Int32) (e : f_Mo_variableOnPath_7 h k7 x1 x2 = some rv) : zk_Ab X (zs_W S h) 0 0 7 [(0, .ref (S.1 68)), (1, .int x1), (2, .int x2)] [] := by
  unfold f_Mo_variableOnPath_7 at e
  refine zk_iload_n C kd_Mo_variableOnPath_7 rfl 2 rfl rfl ?_
  refine zk_aload_n C kd_Mo_variableOnPath_8 rfl 0 rfl rfl ?_
  refine zk_iload_n C kd_Mo_variableOnPath_9 rfl 1 rfl rfl ?_
  obtain ⟨v2, c1, e⟩ := zd_b e
  refine zs_callV (k := 68) (rn := { frames := 0, cells := 0, slots := 0, locals := 0 }) (As := [.int x1]) (rest := [.int x2]) C (zc_Mo_endOf h x1 c1) ku_Mo_endOf kw2528 kv_Mo_endOf rfl ⟨by decide, by decide⟩ ⟨by decide, by decide⟩ rfl rfl rfl (Nat.le_of_ble_eq_true rfl) kd_Mo_variableOnPath_10 rfl (c1 := 0) (s1 := 0) rfl rfl (fun v w hp => ?_)
  obtain ⟨rfl, rfl⟩ := hp
  refine zk_stk (r' := [.int v2, .int x2]) rfl ?_
  refine zk_icmp_ge (tgt := 37) C kd_Mo_variableOnPath_13 (by decide) rfl (fun b3 => ?_) (fun b3 => ?_)
  · replace e := zd_pos b3 e
    refine zk_iconst (v := (-1)) C kd_Mo_variableOnPath_37 (by decide) rfl ?_
    exact zk_iret C hR kd_Mo_variableOnPath_38 rfl rfl (zd_rIO e)
  · replace e := zd_neg b3 e
    refine zk_aload_n C kd_Mo_variableOnPath_16 rfl 0 rfl rfl ?_
    refine zk_aload_n C kd_Mo_variableOnPath_17 rfl 0 rfl rfl ?_
    refine zs_get (v := .ref (S.1 91)) C 68 42 rfl rfl rfl rfl ki_Mo (by decide) kw1725 kd_Mo_variableOnPath_18 rfl ?_
    refine zk_iload_n C kd_Mo_variableOnPath_21 rfl 2 rfl rfl ?_
    obtain ⟨q4, e⟩ := zd_g e
    refine zs_iald C 91 rfl (zd_vp q4) kd_Mo_variableOnPath_22 rfl ?_
    obtain ⟨v6, c5, e⟩ := zd_b e
    refine zs_callV (k := 68) (rn := { frames := 1, cells := 0, slots := 0, locals := 22 }) (As := [.int (h.2.1 91 x2.toNatClampNeg)]) (rest := []) C (zc_Mo_isPathName h (h.2.1 91 x2.toNatClampNeg) c5) ku_Mo_isPathName kw2788 kv_Mo_isPathName rfl ⟨by decide, by decide⟩ ⟨by decide, by decide⟩ rfl rfl rfl (Nat.le_of_ble_eq_true rfl) kd_Mo_variableOnPath_23 rfl (c1 := 0) (s1 := 0) rfl rfl (fun v w hp => ?_)
    obtain ⟨rfl, rfl, z7⟩ := hp
    refine zk_stk (r' := [.int v6]) rfl ?_
    refine zk_if_eq (tgt := 31) C kd_Mo_variableOnPath_26 (by decide) rfl (fun b8 => ?_) (fun b8 => ?_)
    · replace e := zd_pos b8 e
      refine zk_iinc (v := (x2 + 1)) (lv' := [(2, _), (0, _), (1, _)]) C kd_Mo_variableOnPath_31 2 rfl rfl (by decide) rfl rfl ?_
      refine zk_goto (tgt := 7) C kd_Mo_variableOnPath_34 (by decide) ?_
      refine zk_lvs (lv' := [(0, .ref (S.1 68)), (1, .int x1), (2, .int (x2 + 1))]) [1, 2, 0] rfl ?_
      exact hk7 x1 (x2 + 1) e
    · replace e := zd_neg b8 e
      refine zk_iload_n C kd_Mo_variableOnPath_29 rfl 2 rfl rfl ?_
      exact zk_iret C hR kd_Mo_variableOnPath_30 rfl rfl (zd_rIO e)
theorem zl_Mo_variableOnPath_7 {X : zkj_T} {S : zs_T} {P : ze_T} {l : Launch} {D : va_G} {sz0 : Nat} {rv : Int32} {h : zs_H} (C : zk_C X km_Mo_variableOnPath (zs_G S l D sz0) { frames := 2, cells := 0, slots := 0, locals := 45 } (ze_E P)) (hR : zkj_R X (zd_PI S rv h) (some .int)) (n : Nat) : ∀ (x1 : Int32) (x2 : Int32), f_Mo_variableOnPath_L7 h n x1 x2 = some rv → zk_Ab X (zs_W S h) 0 0 7 [(0, .ref (S.1 68)), (1, .int x1), (2, .int x2)] [] := by
  induction n with
  | zero => intro x1 x2 e; exact zd_no e
  | succ n ih => intro x1 x2 e; exact zb_Mo_variableOnPath_7 (k7 := f_Mo_variableOnPath_L7 h n) C hR ih x1 x2 e
set_option maxHeartbeats 4000000 in
set_option maxRecDepth 100000 in
theorem zc_Mo_variableOnPath {l : Launch} {D : va_G} {sz0 : Nat} {S : zs_T} {P : ze_T} (h : zs_H) (x1 : Int32) {rv : Int32} (e : f_Mo_variableOnPath h x1 = some rv) : zk_Sp (zs_G S l D sz0) (ze_E P) km_Mo_variableOnPath { frames := 2, cells := 0, slots := 0, locals := 45 } [.ref (S.1 68), .int x1] (zs_W S h) (zd_PI S rv h) := by
  refine zk_met ku_Mo_variableOnPath (Nat.le_of_ble_eq_true rfl) (ze_Em P) ?_
  intro X C hR
  refine zk_lvs (lv' := [(0, .ref (S.1 68)), (1, .int x1)]) [0, 1] rfl ?_
  unfold f_Mo_variableOnPath at e
  refine zk_aload_n C kd_Mo_variableOnPath_0 rfl 0 rfl rfl ?_
  refine zs_get (v := .ref (S.1 90)) C 68 40 rfl rfl rfl rfl ki_Mo (by decide) kw1723 kd_Mo_variableOnPath_1 rfl ?_
  refine zk_iload_n C kd_Mo_variableOnPath_4 rfl 1 rfl rfl ?_
  obtain ⟨q1, e⟩ := zd_g e
  refine zs_iald C 90 rfl (zd_vp q1) kd_Mo_variableOnPath_5 rfl ?_
  refine zk_istore_n (lv' := [(2, _), (0, _), (1, _)]) C kd_Mo_variableOnPath_6 rfl (by decide) rfl rfl ?_
  refine zk_lvs (lv' := [(0, .ref (S.1 68)), (1, .int x1), (2, .int (h.2.1 90 x1.toNatClampNeg))]) [1, 2, 0] rfl ?_
  exact zl_Mo_variableOnPath_7 C hR zF x1 (h.2.1 90 x1.toNatClampNeg) e
set_option maxHeartbeats 4000000 in
set_option maxRecDepth 100000 in
theorem zb_Mo_passes_44 {X : zkj_T} {S : zs_T} {P : ze_T} {l : Launch} {D : va_G} {sz0 : Nat} {rv : Int32} {rh : zs_H} (C : zk_C X km_Mo_passes (zs_G S l D sz0) { frames := 0, cells := 0, slots := 0, locals := 0 } (ze_E P)) (hR : zkj_R X (zd_PZ S rv rh) (some .boolean)) (h : zs_H) (x2 : Int32) (y0 : Int32) (y1 : Int32) (e : f_Mo_passes_44 h x2 y0 y1 = some (rv, rh)) : zk_Ab X (zs_W S h) 0 0 44 [(2, .int x2)] [.int y0, .int y1, .ref (S.1 68)] := by
  unfold f_Mo_passes_44 at e
  refine zk_iadd C kd_Mo_passes_44 rfl ?_
  refine zs_put (ty := .int) C 68 93 (y1 + y0) rfl rfl rfl rfl ki_Mo ky_Mo ko_Mo kn_Mo (by decide) kw1776 rfl rfl rfl rfl (by decide) kd_Mo_passes_45 rfl ?_
  refine zk_iload_n C kd_Mo_passes_48 rfl 0 rfl rfl ?_
  obtain ⟨q1, e⟩ := zd_g e
  exact zk_zret C hR (zd_nb q1) kd_Mo_passes_49 rfl rfl (zd_rZS q1 e)
set_option maxHeartbeats 4000000 in
set_option maxRecDepth 100000 in
theorem zb_Mo_passes_29 {X : zkj_T} {S : zs_T} {P : ze_T} {l : Launch} {D : va_G} {sz0 : Nat} {rv : Int32} {rh : zs_H} (C : zk_C X km_Mo_passes (zs_G S l D sz0) { frames := 0, cells := 0, slots := 0, locals := 0 } (ze_E P)) (hR : zkj_R X (zd_PZ S rv rh) (some .boolean)) (h : zs_H) (y0 : Int32) (e : f_Mo_passes_29 h y0 = some (rv, rh)) : zk_Ab X (zs_W S h) 0 0 29 [(0, .ref (S.1 68))] [.int y0] := by
  unfold f_Mo_passes_29 at e
  refine zk_istore_n (lv' := [(2, _), (0, _)]) C kd_Mo_passes_29 rfl (by decide) rfl rfl ?_
  refine zk_aload_n C kd_Mo_passes_30 rfl 1 rfl rfl ?_
  refine zk_dup C kd_Mo_passes_31 rfl rfl ?_
  refine zs_get (v := .int (h.1 68 93)) C 68 93 rfl rfl rfl rfl ki_Mo (by decide) kw1776 kd_Mo_passes_32 rfl ?_
  refine zk_iload_n C kd_Mo_passes_35 rfl 0 rfl rfl ?_
  refine zk_if_eq (tgt := 43) C kd_Mo_passes_36 (by decide) rfl (fun b1 => ?_) (fun b1 => ?_)
  · replace e := zd_pos b1 e
    refine zk_iconst (v := 0) C kd_Mo_passes_43 (by decide) rfl ?_
    refine zk_lvs (lv' := [(2, .int y0)]) [0] rfl ?_
    exact zb_Mo_passes_44 C hR h y0 0 (h.1 68 93) e
  · replace e := zd_neg b1 e
    refine zk_iconst (v := 1) C kd_Mo_passes_39 (by decide) rfl ?_
    refine zk_goto (tgt := 44) C kd_Mo_passes_40 (by decide) ?_
    refine zk_lvs (lv' := [(2, .int y0)]) [0] rfl ?_
    exact zb_Mo_passes_44 C hR h y0 1 (h.1 68 93) e
set_option maxHeartbeats 4000000 in
set_option maxRecDepth 100000 in
theorem zb_Mo_passes_28 {X : zkj_T} {S : zs_T} {P : ze_T} {l : Launch} {D : va_G} {sz0 : Nat} {rv : Int32} {rh : zs_H} (C : zk_C X km_Mo_passes (zs_G S l D sz0) { frames := 0, cells := 0, slots := 0, locals := 0 } (ze_E P)) (hR : zkj_R X (zd_PZ S rv rh) (some .boolean)) (h : zs_H) (e : f_Mo_passes_28 h = some (rv, rh)) : zk_Ab X (zs_W S h) 0 0 28 [(0, .ref (S.1 68))] [] := by
  unfold f_Mo_passes_28 at e
  refine zk_iconst (v := 0) C kd_Mo_passes_28 (by decide) rfl ?_
  refine zk_lvs (lv' := [(0, .ref (S.1 68))]) [0] rfl ?_
  exact zb_Mo_passes_29 C hR h 0 e
set_option maxHeartbeats 4000000 in
set_option maxRecDepth 100000 in
theorem zc_Mo_passes {l : Launch} {D : va_G} {sz0 : Nat} {S : zs_T} {P : ze_T} (h : zs_H) (x1 : Int32) {rv : Int32} {rh : zs_H} (e : f_Mo_passes h x1 = some (rv, rh)) : zk_Sp (zs_G S l D sz0) (ze_E P) km_Mo_passes { frames := 0, cells := 0, slots := 0, locals := 0 } [.ref (S.1 68), .int x1] (zs_W S h) (zd_PZ S rv rh) := by
  refine zk_met ku_Mo_passes (Nat.le_of_ble_eq_true rfl) (ze_Em P) ?_
  intro X C hR
  refine zk_lvs (lv' := [(0, .ref (S.1 68)), (1, .int x1)]) [0, 1] rfl ?_
  unfold f_Mo_passes at e
  refine zk_aload_n C kd_Mo_passes_0 rfl 0 rfl rfl ?_
  refine zs_get (v := .int (h.1 68 93)) C 68 93 rfl rfl rfl rfl ki_Mo (by decide) kw1776 kd_Mo_passes_1 rfl ?_
  refine zk_aload_n C kd_Mo_passes_4 rfl 0 rfl rfl ?_
  refine zs_get (v := .int (h.1 68 94)) C 68 94 rfl rfl rfl rfl ki_Mo (by decide) kw1777 kd_Mo_passes_5 rfl ?_
  refine zk_icmp_ge (tgt := 28) C kd_Mo_passes_8 (by decide) rfl (fun b1 => ?_) (fun b1 => ?_)
  · replace e := zd_pos b1 e
    refine zk_lvs (lv' := [(0, .ref (S.1 68))]) [0] rfl ?_
    exact zb_Mo_passes_28 C hR h e
  · replace e := zd_neg b1 e
    refine zk_aload_n C kd_Mo_passes_11 rfl 0 rfl rfl ?_
    refine zs_get (v := .ref (S.1 116)) C 68 79 rfl rfl rfl rfl ki_Mo (by decide) kw1762 kd_Mo_passes_12 rfl ?_
    refine zk_aload_n C kd_Mo_passes_15 rfl 0 rfl rfl ?_
    refine zs_get (v := .int (h.1 68 93)) C 68 93 rfl rfl rfl rfl ki_Mo (by decide) kw1776 kd_Mo_passes_16 rfl ?_
    obtain ⟨q2, e⟩ := zd_g e
    refine zs_bald C 116 rfl (zd_vp q2) kd_Mo_passes_19 rfl ?_
    refine zk_iload_n C kd_Mo_passes_20 rfl 1 rfl rfl ?_
    refine zk_icmp_ne (tgt := 28) C kd_Mo_passes_21 (by decide) rfl (fun b3 => ?_) (fun b3 => ?_)
    · replace e := zd_neg b3 e
      refine zk_lvs (lv' := [(0, .ref (S.1 68))]) [0] rfl ?_
      exact zb_Mo_passes_28 C hR h e
    · replace e := zd_pos b3 e
      refine zk_iconst (v := 1) C kd_Mo_passes_24 (by decide) rfl ?_
      refine zk_goto (tgt := 29) C kd_Mo_passes_25 (by decide) ?_
      refine zk_lvs (lv' := [(0, .ref (S.1 68))]) [0] rfl ?_
      exact zb_Mo_passes_29 C hR h 1 e
set_option maxHeartbeats 4000000 in
set_option maxRecDepth 100000 in
theorem zb_Mo_readIndex_96 {X : zkj_T} {S : zs_T} {P : ze_T} {l : Launch} {D : va_G} {sz0 : Nat} {rv : Int32} {rh : zs_H} (C : zk_C X km_Mo_readIndex (zs_G S l D sz0) { frames := 1, cells := 0, slots := 0, locals := 22 } (ze_E P)) (hR : zkj_R X (zd_PI S rv rh) (some .int)) {k34 : zs_H → Int32 → Int32 → Int64 → Int32 → (Option (Int32 × zs_H))} (hk34 : ∀ (h : zs_H) (x1 : Int32) (x2 : Int32) (x3 : Int64) (x5 : Int32), k34 h x1 x2 x3 x5 = some (rv, rh) → zk_Ab X (zs_W S h) 0 0 34 [(0, .ref (S.1 68)), (1, .int x1), (2, .int x2), (3, .long x3), (5, .int x5)] []) (h : zs_H) (x1 : Int32) (x2 : Int32) (x5 : Int32) (y0 : Int64) (e : f_Mo_readIndex_96 k34 h x1 x2 x5 y0 = some (rv, rh)) : zk_Ab X (zs_W S h) 0 0 96 [(0, .ref (S.1 68)), (1, .int x1), (2, .int x2), (5, .int x5)] [.long y0] := by
  unfold f_Mo_readIndex_96 at e
  refine zk_lstore_n (lv' := [(3, _), (0, _), (1, _), (2, _), (5, _)]) C kd_Mo_readIndex_96 rfl (by decide) rfl rfl ?_
  refine zk_aload_n C kd_Mo_readIndex_97 rfl 1 rfl rfl ?_
  refine zk_dup C kd_Mo_readIndex_98 rfl rfl ?_
  refine zs_get (v := .int (h.1 68 93)) C 68 93 rfl rfl rfl rfl ki_Mo (by decide) kw1776 kd_Mo_readIndex_99 rfl ?_
  refine zk_iconst (v := 1) C kd_Mo_readIndex_102 (by decide) rfl ?_
  refine zk_iadd C kd_Mo_readIndex_103 rfl ?_
  refine zs_put (ty := .int) C 68 93 ((h.1 68 93) + 1) rfl rfl rfl rfl ki_Mo ky_Mo ko_Mo kn_Mo (by decide) kw1776 rfl rfl rfl rfl (by decide) kd_Mo_readIndex_104 rfl ?_
  refine zk_goto (tgt := 34) C kd_Mo_readIndex_107 (by decide) ?_
  refine zk_lvs (lv' := [(0, .ref (S.1 68)), (1, .int x1), (2, .int x2), (3, .long y0), (5, .int x5)]) [1, 2, 3, 0, 4] rfl ?_
  exact hk34 (zs_uF h 68 93 ((h.1 68 93) + 1)) x1 x2 y0 x5 e
set_option maxHeartbeats 4000000 in
set_option maxRecDepth 100000 in
theorem zb_Mo_readIndex_180 {X : zkj_T} {S : zs_T} {P : ze_T} {l : Launch} {D : va_G} {sz0 : Nat} {rv : Int32} {rh : zs_H} (C : zk_C X km_Mo_readIndex (zs_G S l D sz0) { frames := 1, cells := 0, slots := 0, locals := 22 } (ze_E P)) (hR : zkj_R X (zd_PI S rv rh) (some .int)) (h : zs_H) (e : f_Mo_readIndex_180 h = some (rv, rh)) : zk_Ab X (zs_W S h) 0 0 180 [(0, .ref (S.1 68))] [] := by
  unfold f_Mo_readIndex_180 at e
  refine zk_aload_n C kd_Mo_readIndex_180 rfl 0 rfl rfl ?_
  refine zk_iconst (v := (-1)) C kd_Mo_readIndex_181 (by decide) rfl ?_
  refine zs_put (ty := .int) C 68 93 (-1) rfl rfl rfl rfl ki_Mo ky_Mo ko_Mo kn_Mo (by decide) kw1776 rfl rfl rfl rfl (by decide) kd_Mo_readIndex_182 rfl ?_
  refine zk_iconst (v := 0) C kd_Mo_readIndex_185 (by decide) rfl ?_
  exact zk_iret C hR kd_Mo_readIndex_186 rfl rfl (zd_rIS e)
set_option maxHeartbeats 4000000 in
set_option maxRecDepth 100000 in
theorem zb_Mo_readIndex_159 {X : zkj_T} {S : zs_T} {P : ze_T} {l : Launch} {D : va_G} {sz0 : Nat} {rv : Int32} {rh : zs_H} (C : zk_C X km_Mo_readIndex (zs_G S l D sz0) { frames := 1, cells := 0, slots := 0, locals := 22 } (ze_E P)) (hR : zkj_R X (zd_PI S rv rh) (some .int)) (h : zs_H) (x1 : Int32) (y0 : Int64) (e : f_Mo_readIndex_159 h x1 y0 = some (rv, rh)) : zk_Ab X (zs_W S h) 0 0 159 [(0, .ref (S.1 68)), (1, .int x1)] [.long y0] := by
  unfold f_Mo_readIndex_159 at e
  refine zk_lstore_n (lv' := [(3, _), (0, _), (1, _)]) C kd_Mo_readIndex_159 rfl (by decide) rfl rfl ?_
  refine zk_iload_n C kd_Mo_readIndex_160 rfl 2 rfl rfl ?_
  refine zk_if_eq (tgt := 180) C kd_Mo_readIndex_161 (by decide) rfl (fun b1 => ?_) (fun b1 => ?_)
  · replace e := zd_pos b1 e
    refine zk_lvs (lv' := [(0, .ref (S.1 68))]) [1] rfl ?_
    exact zb_Mo_readIndex_180 C hR h e
  · replace e := zd_neg b1 e
    refine zk_lload_n C kd_Mo_readIndex_164 rfl 0 rfl rfl ?_
    refine zk_ldc2 (v := 2147483647) C kw2039 kd_Mo_readIndex_165 rfl ?_
    refine zk_lcmp C kd_Mo_readIndex_168 rfl ?_
    refine zk_if_gt (tgt := 180) C kd_Mo_readIndex_169 (by decide) rfl (fun b2 => ?_) (fun b2 => ?_)
    · replace e := zd_pos (zd_cgt.mp b2) e
      refine zk_lvs (lv' := [(0, .ref (S.1 68))]) [1] rfl ?_
      exact zb_Mo_readIndex_180 C hR h e
    · replace e := zd_neg (fun z => b2 (zd_cgt.mpr z)) e
      refine zk_lload_n C kd_Mo_readIndex_172 rfl 0 rfl rfl ?_
      refine zk_ldc2 (v := (-2147483648)) C kw2815 kd_Mo_readIndex_173 rfl ?_
      refine zk_lcmp C kd_Mo_readIndex_176 rfl ?_
      refine zk_if_ge (tgt := 187) C kd_Mo_readIndex_177 (by decide) rfl (fun b3 => ?_) (fun b3 => ?_)
      · replace e := zd_pos (zd_cge.mp b3) e
        refine zk_lload_n C kd_Mo_readIndex_187 rfl 0 rfl rfl ?_
        refine zk_l2i C kd_Mo_readIndex_188 rfl ?_
        exact zk_iret C hR kd_Mo_readIndex_189 rfl rfl (zd_rIS e)
      · replace e := zd_neg (fun z => b3 (zd_cge.mpr z)) e
        refine zk_lvs (lv' := [(0, .ref (S.1 68))]) [1] rfl ?_
        exact zb_Mo_readIndex_180 C hR h e
set_option maxHeartbeats 4000000 in
set_option maxRecDepth 100000 in
theorem zb_Mo_readIndex_148 {X : zkj_T} {S : zs_T} {P : ze_T} {l : Launch} {D : va_G} {sz0 : Nat} {rv : Int32} {rh : zs_H} (C : zk_C X km_Mo_readIndex (zs_G S l D sz0) { frames := 1, cells := 0, slots := 0, locals := 22 } (ze_E P)) (hR : zkj_R X (zd_PI S rv rh) (some .int)) (h : zs_H) (x2 : Int32) (x3 : Int64) (y0 : Int32) (e : f_Mo_readIndex_148 h x2 x3 y0 = some (rv, rh)) : zk_Ab X (zs_W S h) 0 0 148 [(0, .ref (S.1 68)), (2, .int x2), (3, .long x3)] [.int y0] := by
  unfold f_Mo_readIndex_148 at e
  refine zk_istore_n (lv' := [(1, _), (0, _), (2, _), (3, _)]) C kd_Mo_readIndex_148 rfl (by decide) rfl rfl ?_
  refine zk_iload_n C kd_Mo_readIndex_149 rfl 2 rfl rfl ?_
  refine zk_if_eq (tgt := 158) C kd_Mo_readIndex_150 (by decide) rfl (fun b1 => ?_) (fun b1 => ?_)
  · replace e := zd_pos b1 e
    refine zk_lload_n C kd_Mo_readIndex_158 rfl 3 rfl rfl ?_
    refine zk_lvs (lv' := [(0, .ref (S.1 68)), (1, .int y0)]) [1, 0] rfl ?_
    exact zb_Mo_readIndex_159 C hR h y0 x3 e
  · replace e := zd_neg b1 e
    refine zk_lload_n C kd_Mo_readIndex_153 rfl 3 rfl rfl ?_
    refine zk_lneg C kd_Mo_readIndex_154 rfl ?_
    refine zk_goto (tgt := 159) C kd_Mo_readIndex_155 (by decide) ?_
    refine zk_lvs (lv' := [(0, .ref (S.1 68)), (1, .int y0)]) [1, 0] rfl ?_
    exact zb_Mo_readIndex_159 C hR h y0 (-x3) e
set_option maxHeartbeats 4000000 in
set_option maxRecDepth 100000 in
theorem zb_Mo_readIndex_147 {X : zkj_T} {S : zs_T} {P : ze_T} {l : Launch} {D : va_G} {sz0 : Nat} {rv : Int32} {rh : zs_H} (C : zk_C X km_Mo_readIndex (zs_G S l D sz0) { frames := 1, cells := 0, slots := 0, locals := 22 } (ze_E P)) (hR : zkj_R X (zd_PI S rv rh) (some .int)) (h : zs_H) (x2 : Int32) (x3 : Int64) (e : f_Mo_readIndex_147 h x2 x3 = some (rv, rh)) : zk_Ab X (zs_W S h) 0 0 147 [(0, .ref (S.1 68)), (2, .int x2), (3, .long x3)] [] := by
  unfold f_Mo_readIndex_147 at e
  refine zk_iconst (v := 0) C kd_Mo_readIndex_147 (by decide) rfl ?_
  refine zk_lvs (lv' := [(0, .ref (S.1 68)), (2, .int x2), (3, .long x3)]) [0, 1, 2] rfl ?_
  exact zb_Mo_readIndex_148 C hR h x2 x3 0 e
set_option maxHeartbeats 4000000 in
set_option maxRecDepth 100000 in
theorem zb_Mo_readIndex_110 {X : zkj_T} {S : zs_T} {P : ze_T} {l : Launch} {D : va_G} {sz0 : Nat} {rv : Int32} {rh : zs_H} (C : zk_C X km_Mo_readIndex (zs_G S l D sz0) { frames := 1, cells := 0, slots := 0, locals := 22 } (ze_E P)) (hR : zkj_R X (zd_PI S rv rh) (some .int)) (h : zs_H) (x1 : Int32) (x2 : Int32) (x3 : Int64) (x5 : Int32) (e : f_Mo_readIndex_110 h x1 x2 x3 x5 = some (rv, rh)) : zk_Ab X (zs_W S h) 0 0 110 [(0, .ref (S.1 68)), (1, .int x1), (2, .int x2), (3, .long x3), (5, .int x5)] [] := by
  unfold f_Mo_readIndex_110 at e
  refine zk_iload_n C kd_Mo_readIndex_110 rfl 1 rfl rfl ?_
  refine zk_if_eq (tgt := 147) C kd_Mo_readIndex_111 (by decide) rfl (fun b1 => ?_) (fun b1 => ?_)
  · replace e := zd_pos b1 e
    refine zk_lvs (lv' := [(0, .ref (S.1 68)), (2, .int x2), (3, .long x3)]) [0, 2, 3] rfl ?_
    exact zb_Mo_readIndex_147 C hR h x2 x3 e
  · replace e := zd_neg b1 e
    refine zk_aload_n C kd_Mo_readIndex_114 rfl 0 rfl rfl ?_
    refine zs_get (v := .int (h.1 68 93)) C 68 93 rfl rfl rfl rfl ki_Mo (by decide) kw1776 kd_Mo_readIndex_115 rfl ?_
    refine zk_iload C kd_Mo_readIndex_118 4 rfl rfl ?_
    refine zk_icmp_le (tgt := 147) C kd_Mo_readIndex_120 (by decide) rfl (fun b2 => ?_) (fun b2 => ?_)
    · replace e := zd_pos b2 e
      refine zk_lvs (lv' := [(0, .ref (S.1 68)), (2, .int x2), (3, .long x3)]) [0, 2, 3] rfl ?_
      exact zb_Mo_readIndex_147 C hR h x2 x3 e
    · replace e := zd_neg b2 e
      refine zk_aload_n C kd_Mo_readIndex_123 rfl 0 rfl rfl ?_
      refine zk_bipush (v := 93) C kd_Mo_readIndex_124 (by decide) rfl ?_
      obtain ⟨v4, h5, c3, e⟩ := zd_Be e
      refine zs_callV (k := 68) (rn := { frames := 0, cells := 0, slots := 0, locals := 0 }) (As := [.int 93]) (rest := []) C (zc_Mo_passes h 93 c3) ku_Mo_passes kw2792 kv_Mo_passes rfl ⟨by decide, by decide⟩ ⟨by decide, by decide⟩ rfl rfl rfl (Nat.le_of_ble_eq_true rfl) kd_Mo_readIndex_126 rfl (c1 := 0) (s1 := 0) rfl rfl (fun v w hp => ?_)
      obtain ⟨rfl, rfl, z6⟩ := hp
      refine zk_stk (r' := [.int v4]) rfl ?_
      refine zk_if_eq (tgt := 147) C kd_Mo_readIndex_129 (by decide) rfl (fun b7 => ?_) (fun b7 => ?_)
      · replace e := zd_pos b7 e
        refine zk_lvs (lv' := [(0, .ref (S.1 68)), (2, .int x2), (3, .long x3)]) [0, 2, 3] rfl ?_
        exact zb_Mo_readIndex_147 C hR h5 x2 x3 e
      · replace e := zd_neg b7 e
        refine zk_aload_n C kd_Mo_readIndex_132 rfl 0 rfl rfl ?_
        refine zs_get (v := .int (h5.1 68 93)) C 68 93 rfl rfl rfl rfl ki_Mo (by decide) kw1776 kd_Mo_readIndex_133 rfl ?_
        refine zk_aload_n C kd_Mo_readIndex_136 rfl 0 rfl rfl ?_
        refine zs_get (v := .int (h5.1 68 94)) C 68 94 rfl rfl rfl rfl ki_Mo (by decide) kw1777 kd_Mo_readIndex_137 rfl ?_
        refine zk_icmp_ne (tgt := 147) C kd_Mo_readIndex_140 (by decide) rfl (fun b8 => ?_) (fun b8 => ?_)
        · replace e := zd_neg b8 e
          refine zk_lvs (lv' := [(0, .ref (S.1 68)), (2, .int x2), (3, .long x3)]) [0, 2, 3] rfl ?_
          exact zb_Mo_readIndex_147 C hR h5 x2 x3 e
        · replace e := zd_pos b8 e
          refine zk_iconst (v := 1) C kd_Mo_readIndex_143 (by decide) rfl ?_
          refine zk_goto (tgt := 148) C kd_Mo_readIndex_144 (by decide) ?_
          refine zk_lvs (lv' := [(0, .ref (S.1 68)), (2, .int x2), (3, .long x3)]) [0, 2, 3] rfl ?_
          exact zb_Mo_readIndex_148 C hR h5 x2 x3 1 e
set_option maxHeartbeats 4000000 in
set_option maxRecDepth 100000 in
theorem zb_Mo_readIndex_34 {X : zkj_T} {S : zs_T} {P : ze_T} {l : Launch} {D : va_G} {sz0 : Nat} {rv : Int32} {rh : zs_H} (C : zk_C X km_Mo_readIndex (zs_G S l D sz0) { frames := 1, cells := 0, slots := 0, locals := 22 } (ze_E P)) (hR : zkj_R X (zd_PI S rv rh) (some .int)) {k34 : zs_H → Int32 → Int32 → Int64 → Int32 → (Option (Int32 × zs_H))} (hk34 : ∀ (h : zs_H) (x1 : Int32) (x2 : Int32) (x3 : Int64) (x5 : Int32), k34 h x1 x2 x3 x5 = some (rv, rh) → zk_Ab X (zs_W S h) 0 0 34 [(0, .ref (S.1 68)), (1, .int x1), (2, .int x2), (3, .long x3), (5, .int x5)] []) (h : zs_H) (x1 : Int32) (x2 : Int32) (x3 : Int64) (x5 : Int32) (e : f_Mo_readIndex_34 k34 h x1 x2 x3 x5 = some (rv, rh)) : zk_Ab X (zs_W S h) 0 0 34 [(0, .ref (S.1 68)), (1, .int x1), (2, .int x2), (3, .long x3), (5, .int x5)] [] := by
  unfold f_Mo_readIndex_34 at e
  refine zk_aload_n C kd_Mo_readIndex_34 rfl 0 rfl rfl ?_
  refine zs_get (v := .int (h.1 68 93)) C 68 93 rfl rfl rfl rfl ki_Mo (by decide) kw1776 kd_Mo_readIndex_35 rfl ?_
  refine zk_aload_n C kd_Mo_readIndex_38 rfl 0 rfl rfl ?_
  refine zs_get (v := .int (h.1 68 94)) C 68 94 rfl rfl rfl rfl ki_Mo (by decide) kw1777 kd_Mo_readIndex_39 rfl ?_
  refine zk_icmp_ge (tgt := 110) C kd_Mo_readIndex_42 (by decide) rfl (fun b1 => ?_) (fun b1 => ?_)
  · replace e := zd_pos b1 e
    refine zk_lvs (lv' := [(0, .ref (S.1 68)), (1, .int x1), (2, .int x2), (3, .long x3), (5, .int x5)]) [0, 1, 2, 3, 4] rfl ?_
    exact zb_Mo_readIndex_110 C hR h x1 x2 x3 x5 e
  · replace e := zd_neg b1 e
    refine zk_aload_n C kd_Mo_readIndex_45 rfl 0 rfl rfl ?_
    refine zs_get (v := .ref (S.1 116)) C 68 79 rfl rfl rfl rfl ki_Mo (by decide) kw1762 kd_Mo_readIndex_46 rfl ?_
    refine zk_aload_n C kd_Mo_readIndex_49 rfl 0 rfl rfl ?_
    refine zs_get (v := .int (h.1 68 93)) C 68 93 rfl rfl rfl rfl ki_Mo (by decide) kw1776 kd_Mo_readIndex_50 rfl ?_
    obtain ⟨q2, e⟩ := zd_g e
    refine zs_bald C 116 rfl (zd_vp q2) kd_Mo_readIndex_53 rfl ?_
    refine zk_callS (rn := { frames := 0, cells := 0, slots := 0, locals := 0 }) (As := [.int (h.2.1 116 (h.1 68 93).toNatClampNeg)]) (rest := []) C (zc_Mo_isDigit h (h.2.1 116 (h.1 68 93).toNatClampNeg)) ku_Mo_isDigit kw2033 ks_Mo_isDigit rfl ⟨by decide, by decide⟩ ⟨by decide, by decide⟩ rfl (Nat.le_of_ble_eq_true rfl) kd_Mo_readIndex_54 rfl (c1 := 0) (s1 := 0) rfl rfl (fun v w hp => ?_)
    obtain ⟨rfl, rfl, z3⟩ := hp
    refine zk_stk (r' := [.int (f_Mo_isDigit (h.2.1 116 (h.1 68 93).toNatClampNeg))]) rfl ?_
    refine zk_if_eq (tgt := 110) C kd_Mo_readIndex_57 (by decide) rfl (fun b4 => ?_) (fun b4 => ?_)
    · replace e := zd_pos b4 e
      refine zk_lvs (lv' := [(0, .ref (S.1 68)), (1, .int x1), (2, .int x2), (3, .long x3), (5, .int x5)]) [0, 1, 2, 3, 4] rfl ?_
      exact zb_Mo_readIndex_110 C hR h x1 x2 x3 x5 e
    · replace e := zd_neg b4 e
      refine zk_lload_n C kd_Mo_readIndex_60 rfl 3 rfl rfl ?_
      refine zk_ldc2 (v := 10) C kw2812 kd_Mo_readIndex_61 rfl ?_
      refine zk_lmul C kd_Mo_readIndex_64 rfl ?_
      refine zk_aload_n C kd_Mo_readIndex_65 rfl 0 rfl rfl ?_
      refine zs_get (v := .ref (S.1 116)) C 68 79 rfl rfl rfl rfl ki_Mo (by decide) kw1762 kd_Mo_readIndex_66 rfl ?_
      refine zk_aload_n C kd_Mo_readIndex_69 rfl 0 rfl rfl ?_
      refine zs_get (v := .int (h.1 68 93)) C 68 93 rfl rfl rfl rfl ki_Mo (by decide) kw1776 kd_Mo_readIndex_70 rfl ?_
      refine zs_bald C 116 rfl (zd_vp q2) kd_Mo_readIndex_73 rfl ?_
      refine zk_i2l C kd_Mo_readIndex_74 rfl ?_
      refine zk_ladd C kd_Mo_readIndex_75 rfl ?_
      refine zk_ldc2 (v := 48) C kw2813 kd_Mo_readIndex_76 rfl ?_
      refine zk_lsub C kd_Mo_readIndex_79 rfl ?_
      refine zk_lstore_n (lv' := [(3, _), (0, _), (1, _), (2, _), (5, _)]) C kd_Mo_readIndex_80 rfl (by decide) rfl rfl ?_
      refine zk_lload_n C kd_Mo_readIndex_81 rfl 0 rfl rfl ?_
      refine zk_ldc2 (v := 3000000000) C kw2814 kd_Mo_readIndex_82 rfl ?_
      refine zk_lcmp C kd_Mo_readIndex_85 rfl ?_
      refine zk_if_le (tgt := 95) C kd_Mo_readIndex_86 (by decide) rfl (fun b5 => ?_) (fun b5 => ?_)
      · replace e := zd_pos (zd_cle.mp b5) e
        refine zk_lload_n C kd_Mo_readIndex_95 rfl 0 rfl rfl ?_
        refine zk_lvs (lv' := [(0, .ref (S.1 68)), (1, .int x1), (2, .int x2), (5, .int x5)]) [1, 2, 3, 4] rfl ?_
        exact zb_Mo_readIndex_96 C hR hk34 h x1 x2 x5 (((x3 * (10 : Int64)) + ((h.2.1 116 (h.1 68 93).toNatClampNeg).toInt64)) - (48 : Int64)) e
      · replace e := zd_neg (fun z => b5 (zd_cle.mpr z)) e
        refine zk_ldc2 (v := 3000000000) C kw2814 kd_Mo_readIndex_89 rfl ?_
        refine zk_goto (tgt := 96) C kd_Mo_readIndex_92 (by decide) ?_
        refine zk_lvs (lv' := [(0, .ref (S.1 68)), (1, .int x1), (2, .int x2), (5, .int x5)]) [1, 2, 3, 4] rfl ?_
        exact zb_Mo_readIndex_96 C hR hk34 h x1 x2 x5 (3000000000 : Int64) e
theorem zl_Mo_readIndex_34 {X : zkj_T} {S : zs_T} {P : ze_T} {l : Launch} {D : va_G} {sz0 : Nat} {rv : Int32} {rh : zs_H} (C : zk_C X km_Mo_readIndex (zs_G S l D sz0) { frames := 1, cells := 0, slots := 0, locals := 22 } (ze_E P)) (hR : zkj_R X (zd_PI S rv rh) (some .int)) (n : Nat) : ∀ (h : zs_H) (x1 : Int32) (x2 : Int32) (x3 : Int64) (x5 : Int32), f_Mo_readIndex_L34 n h x1 x2 x3 x5 = some (rv, rh) → zk_Ab X (zs_W S h) 0 0 34 [(0, .ref (S.1 68)), (1, .int x1), (2, .int x2), (3, .long x3), (5, .int x5)] [] := by
  induction n with
  | zero => intro h x1 x2 x3 x5 e; exact zd_no e
  | succ n ih => intro h x1 x2 x3 x5 e; exact zb_Mo_readIndex_34 (k34 := f_Mo_readIndex_L34  n) C hR ih h x1 x2 x3 x5 e
set_option maxHeartbeats 4000000 in
set_option maxRecDepth 100000 in
theorem zb_Mo_readIndex_25 {X : zkj_T} {S : zs_T} {P : ze_T} {l : Launch} {D : va_G} {sz0 : Nat} {rv : Int32} {rh : zs_H} (C : zk_C X km_Mo_readIndex (zs_G S l D sz0) { frames := 1, cells := 0, slots := 0, locals := 22 } (ze_E P)) (hR : zkj_R X (zd_PI S rv rh) (some .int)) (h : zs_H) (x1 : Int32) (y0 : Int32) (e : f_Mo_readIndex_25 h x1 y0 = some (rv, rh)) : zk_Ab X (zs_W S h) 0 0 25 [(0, .ref (S.1 68)), (1, .int x1)] [.int y0] := by
  unfold f_Mo_readIndex_25 at e
  refine zk_istore_n (lv' := [(2, _), (0, _), (1, _)]) C kd_Mo_readIndex_25 rfl (by decide) rfl rfl ?_
  refine zk_lconst (v := 0) C kd_Mo_readIndex_26 (by decide) rfl ?_
  refine zk_lstore_n (lv' := [(3, _), (2, _), (0, _), (1, _)]) C kd_Mo_readIndex_27 rfl (by decide) rfl rfl ?_
  refine zk_aload_n C kd_Mo_readIndex_28 rfl 2 rfl rfl ?_
  refine zs_get (v := .int (h.1 68 93)) C 68 93 rfl rfl rfl rfl ki_Mo (by decide) kw1776 kd_Mo_readIndex_29 rfl ?_
  refine zk_istore (lv' := [(5, _), (3, _), (2, _), (0, _), (1, _)]) C kd_Mo_readIndex_32 (by decide) rfl rfl ?_
  refine zk_lvs (lv' := [(0, .ref (S.1 68)), (1, .int x1), (2, .int y0), (3, .long 0), (5, .int (h.1 68 93))]) [3, 4, 2, 1, 0] rfl ?_
  exact zl_Mo_readIndex_34 C hR zF h x1 y0 (0 : Int64) (h.1 68 93) e
set_option maxHeartbeats 4000000 in
set_option maxRecDepth 100000 in
theorem zb_Mo_readIndex_24 {X : zkj_T} {S : zs_T} {P : ze_T} {l : Launch} {D : va_G} {sz0 : Nat} {rv : Int32} {rh : zs_H} (C : zk_C X km_Mo_readIndex (zs_G S l D sz0) { frames := 1, cells := 0, slots := 0, locals := 22 } (ze_E P)) (hR : zkj_R X (zd_PI S rv rh) (some .int)) (h : zs_H) (x1 : Int32) (e : f_Mo_readIndex_24 h x1 = some (rv, rh)) : zk_Ab X (zs_W S h) 0 0 24 [(0, .ref (S.1 68)), (1, .int x1)] [] := by
  unfold f_Mo_readIndex_24 at e
  refine zk_iconst (v := 0) C kd_Mo_readIndex_24 (by decide) rfl ?_
  refine zk_lvs (lv' := [(0, .ref (S.1 68)), (1, .int x1)]) [0, 1] rfl ?_
  exact zb_Mo_readIndex_25 C hR h x1 0 e
set_option maxHeartbeats 4000000 in
set_option maxRecDepth 100000 in
theorem zc_Mo_readIndex {l : Launch} {D : va_G} {sz0 : Nat} {S : zs_T} {P : ze_T} (h : zs_H) {rv : Int32} {rh : zs_H} (e : f_Mo_readIndex h = some (rv, rh)) : zk_Sp (zs_G S l D sz0) (ze_E P) km_Mo_readIndex { frames := 1, cells := 0, slots := 0, locals := 22 } [.ref (S.1 68)] (zs_W S h) (zd_PI S rv rh) := by
  refine zk_met ku_Mo_readIndex (Nat.le_of_ble_eq_true rfl) (ze_Em P) ?_
  intro X C hR
  refine zk_lvs (lv' := [(0, .ref (S.1 68))]) [0] rfl ?_
  unfold f_Mo_readIndex at e
  refine zk_aload_n C kd_Mo_readIndex_0 rfl 0 rfl rfl ?_
  refine zk_bipush (v := 91) C kd_Mo_readIndex_1 (by decide) rfl ?_
  obtain ⟨v2, h3, c1, e⟩ := zd_Be e
  refine zs_callV (k := 68) (rn := { frames := 0, cells := 0, slots := 0, locals := 0 }) (As := [.int 91]) (rest := []) C (zc_Mo_passes h 91 c1) ku_Mo_passes kw2792 kv_Mo_passes rfl ⟨by decide, by decide⟩ ⟨by decide, by decide⟩ rfl rfl rfl (Nat.le_of_ble_eq_true rfl) kd_Mo_readIndex_3 rfl (c1 := 0) (s1 := 0) rfl rfl (fun v w hp => ?_)
  obtain ⟨rfl, rfl, z4⟩ := hp
  refine zk_stk (r' := [.int v2]) rfl ?_
  refine zk_istore_n (lv' := [(1, _), (0, _)]) C kd_Mo_readIndex_6 rfl (by decide) rfl rfl ?_
  refine zk_iload_n C kd_Mo_readIndex_7 rfl 0 rfl rfl ?_
  refine zk_if_eq (tgt := 24) C kd_Mo_readIndex_8 (by decide) rfl (fun b5 => ?_) (fun b5 => ?_)
  · replace e := zd_pos b5 e
    refine zk_lvs (lv' := [(0, .ref (S.1 68)), (1, .int v2)]) [1, 0] rfl ?_
    exact zb_Mo_readIndex_24 C hR h3 v2 e
  · replace e := zd_neg b5 e
    refine zk_aload_n C kd_Mo_readIndex_11 rfl 1 rfl rfl ?_
    refine zk_bipush (v := 45) C kd_Mo_readIndex_12 (by decide) rfl ?_
    obtain ⟨v7, h8, c6, e⟩ := zd_Be e
    refine zs_callV (k := 68) (rn := { frames := 0, cells := 0, slots := 0, locals := 0 }) (As := [.int 45]) (rest := []) C (zc_Mo_passes h3 45 c6) ku_Mo_passes kw2792 kv_Mo_passes rfl ⟨by decide, by decide⟩ ⟨by decide, by decide⟩ rfl rfl rfl (Nat.le_of_ble_eq_true rfl) kd_Mo_readIndex_14 rfl (c1 := 0) (s1 := 0) rfl rfl (fun v w hp => ?_)
    obtain ⟨rfl, rfl, z9⟩ := hp
    refine zk_stk (r' := [.int v7]) rfl ?_
    refine zk_if_eq (tgt := 24) C kd_Mo_readIndex_17 (by decide) rfl (fun b10 => ?_) (fun b10 => ?_)
    · replace e := zd_pos b10 e
      refine zk_lvs (lv' := [(0, .ref (S.1 68)), (1, .int v2)]) [1, 0] rfl ?_
      exact zb_Mo_readIndex_24 C hR h8 v2 e
    · replace e := zd_neg b10 e
      refine zk_iconst (v := 1) C kd_Mo_readIndex_20 (by decide) rfl ?_
      refine zk_goto (tgt := 25) C kd_Mo_readIndex_21 (by decide) ?_
      refine zk_lvs (lv' := [(0, .ref (S.1 68)), (1, .int v2)]) [1, 0] rfl ?_
      exact zb_Mo_readIndex_25 C hR h8 v2 1 e
set_option maxHeartbeats 4000000 in
set_option maxRecDepth 100000 in
theorem zc_Mo_see {l : Launch} {D : va_G} {sz0 : Nat} {S : zs_T} {P : ze_T} (h : zs_H) (x1 : Int32) (x2 : Int32) {rv : Int32} {rh : zs_H} (e : f_Mo_see h x1 x2 = some (rv, rh)) : zk_Sp (zs_G S l D sz0) (ze_E P) km_Mo_see { frames := 0, cells := 0, slots := 0, locals := 0 } [.ref (S.1 68), .int x1, .int x2] (zs_W S h) (zd_PI S rv rh) := by
  refine zk_met ku_Mo_see (Nat.le_of_ble_eq_true rfl) (ze_Em P) ?_
  intro X C hR
  refine zk_lvs (lv' := [(0, .ref (S.1 68)), (1, .int x1), (2, .int x2)]) [0, 1, 2] rfl ?_
  unfold f_Mo_see at e
  refine zk_aload_n C kd_Mo_see_0 rfl 0 rfl rfl ?_
  refine zk_aload_n C kd_Mo_see_1 rfl 0 rfl rfl ?_
  refine zs_get (v := .ref (S.1 114)) C 68 72 rfl rfl rfl rfl ki_Mo (by decide) kw1755 kd_Mo_see_2 rfl ?_
  refine zk_iload_n C kd_Mo_see_5 rfl 2 rfl rfl ?_
  obtain ⟨q1, e⟩ := zd_g e
  refine zs_iald C 114 rfl (zd_vp q1) kd_Mo_see_6 rfl ?_
  refine zs_put (ty := .int) C 68 87 (h.2.1 114 x2.toNatClampNeg) rfl rfl rfl rfl ki_Mo ky_Mo ko_Mo kn_Mo (by decide) kw1770 rfl rfl rfl rfl (by decide) kd_Mo_see_7 rfl ?_
  refine zk_iload_n C kd_Mo_see_10 rfl 1 rfl rfl ?_
  exact zk_iret C hR kd_Mo_see_11 rfl rfl (zd_rIS e)
set_option maxHeartbeats 4000000 in
set_option maxRecDepth 100000 in
theorem zc_Mo_sizeOf {l : Launch} {D : va_G} {sz0 : Nat} {S : zs_T} {P : ze_T} (h : zs_H) (x1 : Int32) {rv : Int32} (e : f_Mo_sizeOf h x1 = some rv) : zk_Sp (zs_G S l D sz0) (ze_E P) km_Mo_sizeOf { frames := 0, cells := 0, slots := 0, locals := 0 } [.ref (S.1 68), .int x1] (zs_W S h) (zd_PI S rv h) := by
  refine zk_met ku_Mo_sizeOf (Nat.le_of_ble_eq_true rfl) (ze_Em P) ?_
  intro X C hR
  refine zk_lvs (lv' := [(0, .ref (S.1 68)), (1, .int x1)]) [0, 1] rfl ?_
  unfold f_Mo_sizeOf at e
  refine zk_aload_n C kd_Mo_sizeOf_0 rfl 0 rfl rfl ?_
  refine zs_get (v := .ref (S.1 103)) C 68 57 rfl rfl rfl rfl ki_Mo (by decide) kw1740 kd_Mo_sizeOf_1 rfl ?_
  refine zk_iload_n C kd_Mo_sizeOf_4 rfl 1 rfl rfl ?_
  refine zk_iconst (v := 1) C kd_Mo_sizeOf_5 (by decide) rfl ?_
  refine zk_iadd C kd_Mo_sizeOf_6 rfl ?_
  obtain ⟨q1, e⟩ := zd_g e
  refine zs_iald C 103 rfl (zd_vp q1) kd_Mo_sizeOf_7 rfl ?_
  refine zk_aload_n C kd_Mo_sizeOf_8 rfl 0 rfl rfl ?_
  refine zs_get (v := .ref (S.1 103)) C 68 57 rfl rfl rfl rfl ki_Mo (by decide) kw1740 kd_Mo_sizeOf_9 rfl ?_
  refine zk_iload_n C kd_Mo_sizeOf_12 rfl 1 rfl rfl ?_
  obtain ⟨q2, e⟩ := zd_g e
  refine zs_iald C 103 rfl (zd_vp q2) kd_Mo_sizeOf_13 rfl ?_
  refine zk_isub C kd_Mo_sizeOf_14 rfl ?_
  exact zk_iret C hR kd_Mo_sizeOf_15 rfl rfl (zd_rIO e)
set_option maxHeartbeats 4000000 in
set_option maxRecDepth 100000 in
theorem zc_Mo_on {l : Launch} {D : va_G} {sz0 : Nat} {S : zs_T} {P : ze_T} (h : zs_H) (x1 : Int32) {rv : Int32} (e : f_Mo_on h x1 = some rv) : zk_Sp (zs_G S l D sz0) (ze_E P) km_Mo_on { frames := 0, cells := 0, slots := 0, locals := 0 } [.ref (S.1 68), .int x1] (zs_W S h) (zd_PZ S rv h) := by
  refine zk_met ku_Mo_on (Nat.le_of_ble_eq_true rfl) (ze_Em P) ?_
  intro X C hR
  refine zk_lvs (lv' := [(0, .ref (S.1 68)), (1, .int x1)]) [0, 1] rfl ?_
  unfold f_Mo_on at e
  refine zk_aload_n C kd_Mo_on_0 rfl 0 rfl rfl ?_
  refine zs_get (v := .ref (S.1 114)) C 68 72 rfl rfl rfl rfl ki_Mo (by decide) kw1755 kd_Mo_on_1 rfl ?_
  refine zk_iload_n C kd_Mo_on_4 rfl 1 rfl rfl ?_
  obtain ⟨q1, e⟩ := zd_g e
  refine zs_iald C 114 rfl (zd_vp q1) kd_Mo_on_5 rfl ?_
  refine zk_if_eq (tgt := 13) C kd_Mo_on_6 (by decide) rfl (fun b2 => ?_) (fun b2 => ?_)
  · replace e := zd_pos b2 e
    refine zk_iconst (v := 0) C kd_Mo_on_13 (by decide) rfl ?_
    exact zk_zret C hR (zd_nb (Or.inl rfl)) kd_Mo_on_14 rfl rfl (zd_rZO (Or.inl rfl) e)
  · replace e := zd_neg b2 e
    refine zk_iconst (v := 1) C kd_Mo_on_9 (by decide) rfl ?_
    refine zk_goto (tgt := 14) C kd_Mo_on_10 (by decide) ?_
    exact zk_zret C hR (zd_nb (Or.inr rfl)) kd_Mo_on_14 rfl rfl (zd_rZO (Or.inr rfl) e)
set_option maxHeartbeats 4000000 in
set_option maxRecDepth 100000 in
theorem zb_Mo_turn_14 {X : zkj_T} {S : zs_T} {P : ze_T} {l : Launch} {D : va_G} {sz0 : Nat} {rh : zs_H} (C : zk_C X km_Mo_turn (zs_G S l D sz0) { frames := 0, cells := 0, slots := 0, locals := 0 } (ze_E P)) (hR : zkj_R X (zd_PV S rh) (none)) (h : zs_H) (y0 : Int32) (y1 : Int32) (e : f_Mo_turn_14 h y0 y1 = some rh) : zk_Ab X (zs_W S h) 0 0 14 [] [.int y0, .int y1, .ref (S.1 114)] := by
  unfold f_Mo_turn_14 at e
  obtain ⟨q1, e⟩ := zd_g e
  refine zs_iast C 114 rfl (zd_vp q1) kd_Mo_turn_14 rfl ?_
  exact zk_vret C hR kd_Mo_turn_15 rfl rfl (zd_rV e)
set_option maxHeartbeats 4000000 in
set_option maxRecDepth 100000 in
theorem zc_Mo_turn {l : Launch} {D : va_G} {sz0 : Nat} {S : zs_T} {P : ze_T} (h : zs_H) (x1 : Int32) (x2 : Int32) {rh : zs_H} (e : f_Mo_turn h x1 x2 = some rh) : zk_Sp (zs_G S l D sz0) (ze_E P) km_Mo_turn { frames := 0, cells := 0, slots := 0, locals := 0 } [.ref (S.1 68), .int x1, .int x2] (zs_W S h) (zd_PV S rh) := by
  refine zk_met ku_Mo_turn (Nat.le_of_ble_eq_true rfl) (ze_Em P) ?_
  intro X C hR
  refine zk_lvs (lv' := [(0, .ref (S.1 68)), (1, .int x1), (2, .int x2)]) [0, 1, 2] rfl ?_
  unfold f_Mo_turn at e
  refine zk_aload_n C kd_Mo_turn_0 rfl 0 rfl rfl ?_
  refine zs_get (v := .ref (S.1 114)) C 68 72 rfl rfl rfl rfl ki_Mo (by decide) kw1755 kd_Mo_turn_1 rfl ?_
  refine zk_iload_n C kd_Mo_turn_4 rfl 1 rfl rfl ?_
  refine zk_iload_n C kd_Mo_turn_5 rfl 2 rfl rfl ?_
  refine zk_if_eq (tgt := 13) C kd_Mo_turn_6 (by decide) rfl (fun b1 => ?_) (fun b1 => ?_)
  · replace e := zd_pos b1 e
    refine zk_iconst (v := 0) C kd_Mo_turn_13 (by decide) rfl ?_
    refine zk_lvs (lv' := []) [] rfl ?_
    exact zb_Mo_turn_14 C hR h 0 x1 e
  · replace e := zd_neg b1 e
    refine zk_iconst (v := 1) C kd_Mo_turn_9 (by decide) rfl ?_
    refine zk_goto (tgt := 14) C kd_Mo_turn_10 (by decide) ?_
    refine zk_lvs (lv' := []) [] rfl ?_
    exact zb_Mo_turn_14 C hR h 1 x1 e
set_option maxHeartbeats 4000000 in
set_option maxRecDepth 100000 in
theorem zb_Mo_grown_39 {X : zkj_T} {S : zs_T} {P : ze_T} {l : Launch} {D : va_G} {sz0 : Nat} {rv : Int32} {h : zs_H} (C : zk_C X km_Mo_grown (zs_G S l D sz0) { frames := 0, cells := 0, slots := 0, locals := 0 } (ze_E P)) (hR : zkj_R X (zd_PI S rv h) (some .int)) (y0 : Int64) (e : f_Mo_grown_39 h y0 = some rv) : zk_Ab X (zs_W S h) 0 0 39 [] [.long y0] := by
  unfold f_Mo_grown_39 at e
  refine zk_l2i C kd_Mo_grown_39 rfl ?_
  exact zk_iret C hR kd_Mo_grown_40 rfl rfl (zd_rIO e)
set_option maxHeartbeats 4000000 in
set_option maxRecDepth 100000 in
theorem zc_Mo_grown {l : Launch} {D : va_G} {sz0 : Nat} {S : zs_T} {P : ze_T} (h : zs_H) (x1 : Int32) (x2 : Int32) {rv : Int32} (e : f_Mo_grown h x1 x2 = some rv) : zk_Sp (zs_G S l D sz0) (ze_E P) km_Mo_grown { frames := 0, cells := 0, slots := 0, locals := 0 } [.ref (S.1 68), .int x1, .int x2] (zs_W S h) (zd_PI S rv h) := by
  refine zk_met ku_Mo_grown (Nat.le_of_ble_eq_true rfl) (ze_Em P) ?_
  intro X C hR
  refine zk_lvs (lv' := [(0, .ref (S.1 68)), (1, .int x1), (2, .int x2)]) [0, 1, 2] rfl ?_
  unfold f_Mo_grown at e
  refine zk_aload_n C kd_Mo_grown_0 rfl 0 rfl rfl ?_
  refine zs_get (v := .ref (S.1 114)) C 68 72 rfl rfl rfl rfl ki_Mo (by decide) kw1755 kd_Mo_grown_1 rfl ?_
  refine zk_iload_n C kd_Mo_grown_4 rfl 1 rfl rfl ?_
  refine zk_iconst (v := 3) C kd_Mo_grown_5 (by decide) rfl ?_
  refine zk_iadd C kd_Mo_grown_6 rfl ?_
  obtain ⟨q1, e⟩ := zd_g e
  refine zs_iald C 114 rfl (zd_vp q1) kd_Mo_grown_7 rfl ?_
  refine zk_i2l C kd_Mo_grown_8 rfl ?_
  refine zk_aload_n C kd_Mo_grown_9 rfl 0 rfl rfl ?_
  refine zs_get (v := .int (h.1 68 73)) C 68 73 rfl rfl rfl rfl ki_Mo (by decide) kw1756 kd_Mo_grown_10 rfl ?_
  refine zk_i2l C kd_Mo_grown_13 rfl ?_
  refine zk_ladd C kd_Mo_grown_14 rfl ?_
  refine zk_aload_n C kd_Mo_grown_15 rfl 0 rfl rfl ?_
  refine zs_get (v := .ref (S.1 114)) C 68 72 rfl rfl rfl rfl ki_Mo (by decide) kw1755 kd_Mo_grown_16 rfl ?_
  refine zk_iload_n C kd_Mo_grown_19 rfl 1 rfl rfl ?_
  refine zk_iconst (v := 5) C kd_Mo_grown_20 (by decide) rfl ?_
  refine zk_iadd C kd_Mo_grown_21 rfl ?_
  obtain ⟨q2, e⟩ := zd_g e
  refine zs_iald C 114 rfl (zd_vp q2) kd_Mo_grown_22 rfl ?_
  refine zk_i2l C kd_Mo_grown_23 rfl ?_
  refine zk_lsub C kd_Mo_grown_24 rfl ?_
  refine zk_lstore_n (lv' := [(3, _), (0, _), (1, _), (2, _)]) C kd_Mo_grown_25 rfl (by decide) rfl rfl ?_
  refine zk_lload_n C kd_Mo_grown_26 rfl 0 rfl rfl ?_
  refine zk_iload_n C kd_Mo_grown_27 rfl 3 rfl rfl ?_
  refine zk_i2l C kd_Mo_grown_28 rfl ?_
  refine zk_lcmp C kd_Mo_grown_29 rfl ?_
  refine zk_if_ge (tgt := 37) C kd_Mo_grown_30 (by decide) rfl (fun b3 => ?_) (fun b3 => ?_)
  · replace e := zd_pos (zd_cge.mp b3) e
    refine zk_iload_n C kd_Mo_grown_37 rfl 3 rfl rfl ?_
    refine zk_i2l C kd_Mo_grown_38 rfl ?_
    refine zk_lvs (lv' := []) [] rfl ?_
    exact zb_Mo_grown_39 C hR (x2.toInt64) e
  · replace e := zd_neg (fun z => b3 (zd_cge.mpr z)) e
    refine zk_lload_n C kd_Mo_grown_33 rfl 0 rfl rfl ?_
    refine zk_goto (tgt := 39) C kd_Mo_grown_34 (by decide) ?_
    refine zk_lvs (lv' := []) [] rfl ?_
    exact zb_Mo_grown_39 C hR ((((h.2.1 114 (x1 + 3).toNatClampNeg).toInt64) + ((h.1 68 73).toInt64)) - ((h.2.1 114 (x1 + 5).toNatClampNeg).toInt64)) e
